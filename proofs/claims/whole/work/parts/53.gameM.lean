/-! ===== the reference's game: one step at a time ===== -/
def gC (S : gz_S) (d : dt) (f0 f1 : Nat) : Prop := d_M S d ∧ S 72 0 = nI f0 ∧ S 72 1 = nI f1
def gG (l a j : Nat) : Prop := 67 ≤ a ∧ a ≤ 71 ∧ l ≤ j
theorem gC.keep {S S' : gz_S} {d : dt} {f0 f1 l : Nat} (h : gC S d f0 f1) (hf : fr (gG l) S S') : gC S' d f0 f1 :=
  ⟨h.1.keep (fun a j q => hf a j (by unfold gG; omega)), by rw [hf _ _ (by unfold gG; omega)]; exact h.2.1, by rw [hf _ _ (by unfold gG; omega)]; exact h.2.2⟩
theorem gC.fs {S : gz_S} {d : dt} {f0 f1 sd : Nat} (h : gC S d f0 f1) (hs : sd ≤ 1) : S 72 sd = nI (fsd f0 f1 sd) := by
  have : sd = 0 ∨ sd = 1 := by omega
  rcases this with rfl | rfl
  · exact h.2.1
  · exact h.2.2
theorem m_enters {l : Nat} {x2 x3 : Int32} {S : gz_S} {Q : gz_S → Prop} (hl : l < 6) (hQ : ∀ S', fr (gG l) S S' → S' 67 l = x2 → S' 68 l = x3 → S' 69 l = -2 → S' 71 l = 0 → Q S') : wX8_enters (nI l) x2 x3 S Q := by
  unfold wX8_enters
  rw [pn_cl (by omega)]
  refine ⟨pn_in hl (by decide), fun S6 e6 => ⟨pn_in hl (by decide), fun S13 e13 => ⟨pn_in hl (by decide), fun S21 e21 => ⟨pn_in hl (by decide), fun S28 e28 => hQ S28 ?_ ?_ ?_ ?_ ?_⟩⟩⟩⟩
  · refine fr.tr (S1 := S6) ?_ (fr.tr (S1 := S13) ?_ (fr.tr (S1 := S21) ?_ ?_))
    · rw [e6]; exact fr_st (by unfold gG; omega)
    · rw [e13]; exact fr_st (by unfold gG; omega)
    · rw [e21]; exact fr_st (by unfold gG; omega)
    · rw [e28]; exact fr_st (by unfold gG; omega)
  · rw [e28, gz_st_n _ _ _ (by decide), e21, gz_st_n _ _ _ (by decide), e13, gz_st_n _ _ _ (by decide), e6, gz_st_v]
  · rw [e28, gz_st_n _ _ _ (by decide), e21, gz_st_n _ _ _ (by decide), e13, gz_st_v]
  · rw [e28, gz_st_n _ _ _ (by decide), e21, gz_st_v]
  · rw [e28, gz_st_v]
theorem m_search {k44 : Int32 → Int32 → Int32 → Int32 → Int32 → gz_S → Prop} {Q : Int32 → gz_S → Prop} {x1 x2 x4 x5 x6 : Int32} {l mine p0 : Nat} {S0 : gz_S} (hl : l < 6) (hm : mine < 512) (hk : ∀ q S', p0 ≤ q → q ≤ 9 → (∀ i, p0 ≤ i → i < q → mine.testBit i = false) → (q < 9 → mine.testBit q = true) → fr (fun a j => a = 69 ∧ j = l) S0 S' → S' 69 l = nI q → wX8_gameOf_157 k44 Q x1 x2 (nI l) x4 x5 x6 S') : ∀ (j p : Nat) (S : gz_S), p + j = 9 → p0 ≤ p → (∀ i, p0 ≤ i → i < p → mine.testBit i = false) → fr (fun a j => a = 69 ∧ j = l) S0 S → S 69 l = nI p → wX8_gameOf_110 k44 Q (j + 1) x1 x2 (nI l) x4 x5 x6 (nI mine) S := by
  intro j
  induction j with
  | zero =>
    intro p S h1 h2 h3 hf h69
    obtain rfl : p = 9 := by omega
    unfold wX8_gameOf_110
    rw [pn_cl (by omega), h69]
    exact ⟨pn_in hl (by decide), fun c => absurd c (by decide), fun _ => ⟨pn_in hl (by decide), fun _ => hk 9 S h2 (Nat.le_refl _) h3 (fun q => by omega) hf h69, fun c => absurd (by decide) c⟩⟩
  | succ j ih =>
    intro p S h1 h2 h3 hf h69
    unfold wX8_gameOf_110
    rw [pn_cl (by omega), h69]
    refine ⟨pn_in hl (by decide), fun c => absurd c ?_, fun _ => ⟨pn_in hl (by decide), fun c => absurd c ?_, fun _ => ⟨pn_in hl (by decide), m_isIn (by omega) (by omega) ?_⟩⟩⟩
    · rw [show (0 : Int32) = nI 0 from rfl, nlt (by omega) (by omega)]; omega
    · rw [show (9 : Int32) = nI 9 from rfl, nle (by omega) (by omega)]; omega
    · rw [bI_0]
      refine ⟨fun c => hk p S h2 (by omega) h3 (fun _ => ?_) hf h69, fun c => ⟨pn_in hl (by decide), pn_in hl (by decide), fun S1 e1 => ?_⟩⟩
      · cases h : mine.testBit p with
        | true => rfl
        | false => exact absurd h c
      · rw [h69, nI_1] at e1
        refine ih (p + 1) S1 (by omega) (by omega) (fun i i1 i2 => ?_) (hf.tr (by rw [e1]; exact fr_st ⟨rfl, rfl⟩)) (by rw [e1, gz_st_v])
        by_cases q : i = p
        · rw [q]; exact c
        · exact h3 i i1 (by omega)
theorem m_top_re {d : dt} {f0 f1 n l tk p m : Nat} {x2 x4 x5 : Int32} {S : gz_S} {Q : Int32 → gz_S → Prop} (hC : gC S d f0 f1) (h0 : f0 < 512) (h1 : f1 < 512) (hl : l ≤ 4) (h67 : S 67 l = nI tk) (h69 : S 69 l = nI p - 1) (hp : p ≤ 9)
    (hk : ∀ q S', p ≤ q → q ≤ 9 → (∀ i, p ≤ i → i < q → (mn (fsd f0 f1 (l % 2)) tk).testBit i = false) → (q < 9 → (mn (fsd f0 f1 (l % 2)) tk).testBit q = true) → fr (fun a j => a = 69 ∧ j = l) S S' → S' 69 l = nI q → wX8_gameOf_157 (wX8_gameOf_44 Q m) Q (nI n) x2 (nI l) x4 x5 (nI (l % 2)) S') : wX8_gameOf_44 Q (m + 1) (nI n) x2 (nI l) x4 x5 S := by
  have hs : l % 2 ≤ 1 := by omega
  have hml := mn_le (fsd f0 f1 (l % 2)) tk
  have hfl : fsd f0 f1 (l % 2) < 512 := by unfold fsd; split <;> omega
  unfold wX8_gameOf_44
  rw [mod2 (by omega), pn_cl (by omega), h69, Int32.sub_add_cancel]
  refine ⟨fun c => absurd c ?_, fun _ v6 e6 => ⟨pn_in (by omega) (by decide), pn_in (by omega) (by decide), fun S62 e62 => ?_⟩⟩
  · rw [show (0 : Int32) = nI 0 from rfl, nlt (by omega) (by omega)]; omega
  subst e6
  have f62 : fr (fun a j => a = 69 ∧ j = l) S S62 := by rw [e62]; exact fr_st ⟨rfl, rfl⟩
  have a69 : S62 69 l = nI p := by rw [e62, gz_st_v]
  have a67 : S62 67 l = nI tk := by rw [f62 _ _ (by omega)]; exact h67
  have a72 : S62 72 (l % 2) = nI (fsd f0 f1 (l % 2)) := by rw [f62 _ _ (by omega)]; exact hC.fs hs
  rw [pn_cl (by omega), a69, a67, a72]
  refine ⟨pn_in (by omega) (by decide), pn_in (by omega) (by decide), fun v7 e7 => ?_⟩
  have e7' : v7 = nI (mn (fsd f0 f1 (l % 2)) tk) := by rw [e7, neg1n, fb_xorI, fa_and]; rfl
  subst e7'
  refine ⟨pn_in (by omega) (by decide), pn_in (by omega) (by decide), fun _ => ?_, fun c => absurd c (nm1 (by omega))⟩
  unfold wX8_gameOf_107 wX8_gameOf_108
  rw [pn_cl (by omega), Int32.add_zero]
  refine ⟨pn_in (by omega) (by decide), fun S109 e109 => ⟨9 - p + 1, ?_⟩⟩
  have f109 : fr (fun a j => a = 69 ∧ j = l) S S109 := f62.tr (by rw [e109]; exact fr_st ⟨rfl, rfl⟩)
  exact m_search (p0 := p) (by omega) (by omega) hk (9 - p) p S109 (by omega) (Nat.le_refl _) (fun i i1 i2 => by omega) f109 (by rw [e109, gz_st_v])
theorem m_top_new {d : dt} {f0 f1 n l tk m : Nat} {x2 x4 x5 : Int32} {S : gz_S} {Q : Int32 → gz_S → Prop} (hC : gC S d f0 f1) (h0 : f0 < 512) (h1 : f1 < 512) (hl : l ≤ 4) (h67 : S 67 l = nI tk) (h69 : S 69 l = -2)
    (hk0 : mn (fsd f0 f1 (l % 2)) tk = 0 → ∀ S', fr (fun a j => a = 69 ∧ j = l) S S' → S' 69 l = -1 → wX8_gameOf_157 (wX8_gameOf_44 Q m) Q (nI n) x2 (nI l) x4 x5 (nI (l % 2)) S')
    (hk : ¬ mn (fsd f0 f1 (l % 2)) tk = 0 → ∀ q S', 0 ≤ q → q ≤ 9 → (∀ i, 0 ≤ i → i < q → (mn (fsd f0 f1 (l % 2)) tk).testBit i = false) → (q < 9 → (mn (fsd f0 f1 (l % 2)) tk).testBit q = true) → fr (fun a j => a = 69 ∧ j = l) S S' → S' 69 l = nI q → wX8_gameOf_157 (wX8_gameOf_44 Q m) Q (nI n) x2 (nI l) x4 x5 (nI (l % 2)) S') : wX8_gameOf_44 Q (m + 1) (nI n) x2 (nI l) x4 x5 S := by
  have hs : l % 2 ≤ 1 := by omega
  have hml := mn_le (fsd f0 f1 (l % 2)) tk
  have hfl : fsd f0 f1 (l % 2) < 512 := by unfold fsd; split <;> omega
  unfold wX8_gameOf_44
  rw [mod2 (by omega), pn_cl (by omega), h69, show (-2 : Int32) + 1 = -1 by decide]
  refine ⟨fun c => absurd c ?_, fun _ v6 e6 => ⟨pn_in (by omega) (by decide), pn_in (by omega) (by decide), fun S62 e62 => ?_⟩⟩
  · rw [show (0 : Int32) = nI 0 from rfl, nlt (by omega) (by omega)]; omega
  subst e6
  have f62 : fr (fun a j => a = 69 ∧ j = l) S S62 := by rw [e62]; exact fr_st ⟨rfl, rfl⟩
  have a69 : S62 69 l = -1 := by rw [e62, gz_st_v]
  have a67 : S62 67 l = nI tk := by rw [f62 _ _ (by omega)]; exact h67
  have a72 : S62 72 (l % 2) = nI (fsd f0 f1 (l % 2)) := by rw [f62 _ _ (by omega)]; exact hC.fs hs
  rw [pn_cl (by omega), a69, a67, a72]
  refine ⟨pn_in (by omega) (by decide), pn_in (by omega) (by decide), fun v7 e7 => ?_⟩
  have e7' : v7 = nI (mn (fsd f0 f1 (l % 2)) tk) := by rw [e7, neg1n, fb_xorI, fa_and]; rfl
  subst e7'
  refine ⟨pn_in (by omega) (by decide), pn_in (by omega) (by decide), fun c => absurd rfl c, fun _ => ?_⟩
  unfold wX8_gameOf_107 wX8_gameOf_108
  rw [n0 (by omega), pn_cl (by omega), Int32.add_zero, show (-1 : Int32) + 1 = nI 0 by decide]
  refine ⟨fun c => ⟨pn_in (by omega) (by decide), fun S109 e109 => ⟨1, ?_⟩⟩, fun c => ⟨pn_in (by omega) (by decide), fun S109 e109 => ⟨10, ?_⟩⟩⟩
  · have f109 : fr (fun a j => a = 69 ∧ j = l) S S109 := f62.tr (by rw [e109]; exact fr_st ⟨rfl, rfl⟩)
    have b69 : S109 69 l = -1 := by rw [e109, gz_st_v]
    unfold wX8_gameOf_110
    rw [pn_cl (by omega), b69]
    exact ⟨pn_in (by omega) (by decide), fun _ => hk0 c S109 f109 b69, fun q => absurd (by decide) q⟩
  · have f109 : fr (fun a j => a = 69 ∧ j = l) S S109 := f62.tr (by rw [e109]; exact fr_st ⟨rfl, rfl⟩)
    exact m_search (p0 := 0) (by omega) (by omega) (hk c) 9 0 S109 (by omega) (Nat.le_refl _) (fun i i1 i2 => by omega) f109 (by rw [e109, gz_st_v])
def gbt (sd : Nat) (o : Option (Nat × Int32)) (v : Int32) : Bool := match o with
  | none => true
  | some q => btr sd v q.2
def gOK (S : gz_S) (l : Nat) (o : Option (Nat × Int32)) : Prop := (o = none → S 71 l = 0) ∧ ∀ q, o = some q → S 71 l = 1 ∧ S 70 l = q.2
theorem m_ret {k44 : Int32 → Int32 → Int32 → Int32 → Int32 → gz_S → Prop} {Q : Int32 → gz_S → Prop} {x1 x2 x4 v : Int32} {l : Nat} {o : Option (Nat × Int32)} {S : gz_S} (hl : l ≤ 4) (ho : gOK S l o) (hk : ∀ S', fr (fun a j => (a = 71 ∨ a = 70) ∧ j = l) S S' → S' 71 l = 1 → S' 70 l = (if gbt (l % 2) o v = true then v else gval o) → k44 x1 x2 (nI l) (if l = 0 then (if gbt (l % 2) o v = true then S 69 0 else x4) else x4) v S') : wX8_gameOf_193 k44 Q x1 x2 (nI (l + 1)) x4 v S := by
  have h247 : ∀ u : Bool, u = gbt (l % 2) o v → wX8_gameOf_247 k44 Q x1 x2 (nI l) x4 v (bI u) S := by
    intro u eu
    rw [← eu] at hk
    unfold wX8_gameOf_247 wX8_gameOf_274 wX8_gameOf_276 wX8_gameOf_299
    rw [bI_0, pn_cl (by omega), n0 (by omega), cl0]
    refine ⟨pn_in (by omega) (by decide), fun S1 e1 => ?_⟩
    have f1 : fr (fun a j => a = 71 ∧ j = l) S S1 := by rw [e1]; exact fr_st ⟨rfl, rfl⟩
    have fin : ∀ (t : Int32) (S2 : gz_S), S2 = gz_st S1 70 l t → t = (if u = true then v else gval o) → k44 x1 x2 (nI l) (if l = 0 then (if u = true then S 69 0 else x4) else x4) v S2 := by
      intro t S2 e2 et
      have f2 : fr (fun a j => a = 70 ∧ j = l) S1 S2 := by rw [e2]; exact fr_st ⟨rfl, rfl⟩
      refine hk S2 ((f1.mono (fun a j h => by omega)).tr (f2.mono (fun a j h => by omega))) ?_ ?_
      · rw [f2 _ _ (by omega), e1, gz_st_v]
      · rw [e2, gz_st_v, et]
    cases u with
    | false =>
      refine ⟨fun _ => ⟨fun _ => ⟨pn_in (by omega) (by decide), pn_in (by omega) (by decide), fun S2 e2 => ?_⟩, fun c => absurd rfl c⟩, fun c => absurd rfl c⟩
      have h := fin _ S2 e2 ?_
      · by_cases c : l = 0
        · rw [if_pos c] at h; exact h
        · rw [if_neg c] at h; exact h
      · cases o with
        | none => cases eu
        | some q => rw [f1 _ _ (by omega), (ho.2 q rfl).2]; rfl
    | true =>
      refine ⟨fun c => absurd c (by decide), fun _ => ⟨fun c => ⟨fun c2 => absurd c2 (by decide), fun _ => ⟨pn_in (by omega) (by decide), fun S2 e2 => ?_⟩⟩, fun c => ⟨pn_in (j := 0) (by decide) (by decide), fun c2 => absurd c2 (by decide), fun _ => ⟨pn_in (by omega) (by decide), fun S2 e2 => ?_⟩⟩⟩⟩
      · have h := fin _ S2 e2 rfl
        rw [if_neg c] at h
        exact h
      · have h := fin _ S2 e2 rfl
        rw [if_pos c, if_pos rfl] at h
        rw [f1 69 _ (by omega)]
        exact h
  unfold wX8_gameOf_193 wX8_gameOf_242 wX8_gameOf_246
  rw [pk_m1 l, mod2 (by omega), pn_cl (by omega), n0 (a := l % 2) (by omega)]
  refine ⟨fun c => absurd c ?_, fun _ => ⟨pn_in (by omega) (by decide), fun c => ?_, fun c => ?_⟩⟩
  · rw [show (0 : Int32) = nI 0 from rfl, nlt (by omega) (by omega)]; omega
  · cases o with
    | none => exact h247 true rfl
    | some q => rw [(ho.2 q rfl).1] at c; exact absurd c n10
  · cases o with
    | none => exact absurd (ho.1 rfl) c
    | some q =>
      rw [(ho.2 q rfl).2]
      have eb : gbt (l % 2) (some q) v = btr (l % 2) v q.2 := rfl
      refine ⟨fun c2 => ⟨pn_in (by omega) (by decide), fun c3 => h247 false ?_, fun c3 => h247 true ?_⟩, fun c2 => ⟨pn_in (by omega) (by decide), fun c3 => h247 false ?_, fun c3 => h247 true ?_⟩⟩
      · have : ¬ v < q.2 := by rw [pn_lt]; rw [pn_le] at c3; omega
        rw [eb]; unfold btr; rw [if_neg c2]; simp [this]
      · have : v < q.2 := by rw [pn_lt]; rw [pn_le] at c3; omega
        rw [eb]; unfold btr; rw [if_neg c2]; simp [this]
      · have : ¬ q.2 < v := by rw [pn_lt]; rw [pn_le] at c3; omega
        rw [eb]; unfold btr; rw [if_pos c2]; simp [this]
      · have : q.2 < v := by rw [pn_lt]; rw [pn_le] at c3; omega
        rw [eb]; unfold btr; rw [if_pos c2]; simp [this]
theorem m_down {d : dt} {k44 : Int32 → Int32 → Int32 → Int32 → Int32 → gz_S → Prop} {Q : Int32 → gz_S → Prop} {x2 x4 x5 tip : Int32} {n l q tk sd : Nat} {S : gz_S} (hd : d_ok d) (hM : d_M S d) (hl : l < n) (hn : n ≤ 4) (hq : q < d_ns d) (hsd : sd ≤ 1) (h69 : S 69 l = nI q) (h67 : S 67 l = nI tk) (h68 : S 68 l = tip) (hk : ∀ S', fr (gG (l + 1)) S S' → S' 67 (l + 1) = nI (tk ||| 2 ^ q) → S' 68 (l + 1) = tip + wv d sd q → S' 69 (l + 1) = -2 → S' 71 (l + 1) = 0 → k44 (nI n) x2 (nI (l + 1)) x4 x5 S') : wX8_gameOf_157 k44 Q (nI n) x2 (nI l) x4 x5 (nI sd) S := by
  have hns := hd.1.2
  unfold wX8_gameOf_157 wX8_gameOf_348 wX8_gameOf_380
  rw [neq (by omega) (by omega), pn_cl (n := l) (by omega), h69, h67, h68, n0 (by omega), nI_1]
  refine ⟨fun c => by omega, fun _ => ⟨pn_in (by omega) (by decide), fun _ => ⟨pn_in (by omega) (by decide), fun v8 e8 => ?_⟩, fun c => absurd c ?_⟩⟩
  · subst e8
    rw [pn_cl (n := q) (by omega), (hM.2.1.2 q hq).1, shl1 (by omega), fa_or]
    refine ⟨fun _ => ⟨fun c => ⟨pn_in (by omega) (by decide), fun _ => ⟨pn_in (by omega) (by decide), pn_in (by omega) (by decide), m_enters (by omega) (fun S' hf' a b e f => hk S' hf' a ?_ e f)⟩, fun c2 => absurd c2 (nm1 (by omega))⟩, fun c => ⟨pn_in (by omega) (by decide), fun _ => ⟨pn_in (by omega) (by decide), pn_in (by omega) (by decide), m_enters (by omega) (fun S' hf' a b e f => hk S' hf' a ?_ e f)⟩, fun c2 => absurd c2 (nm1 (by omega))⟩⟩, fun c => absurd c (nm1 (by omega))⟩
    · rw [b]; unfold wv; rw [if_neg c]
    · rw [b]; unfold wv; rw [if_pos c]
  · rw [show (9 : Int32) = nI 9 from rfl, neq (by omega) (by omega)]; omega
theorem m_pass {k44 : Int32 → Int32 → Int32 → Int32 → Int32 → gz_S → Prop} {Q : Int32 → gz_S → Prop} {x2 x4 x5 x6 tip : Int32} {n l tk : Nat} {S : gz_S} (hl : l < n) (hn : n ≤ 4) (h69 : S 69 l = -1) (h67 : S 67 l = nI tk) (h68 : S 68 l = tip) (hk : ∀ S', fr (gG (l + 1)) S S' → S' 67 (l + 1) = nI tk → S' 68 (l + 1) = tip → S' 69 (l + 1) = -2 → S' 71 (l + 1) = 0 → k44 (nI n) x2 (nI (l + 1)) x4 x5 S') : wX8_gameOf_157 k44 Q (nI n) x2 (nI l) x4 x5 x6 S := by
  unfold wX8_gameOf_157 wX8_gameOf_348 wX8_gameOf_380
  rw [neq (by omega) (by omega), pn_cl (n := l) (by omega), h69, h67, h68, nI_1]
  refine ⟨fun c => by omega, fun _ => ⟨pn_in (by omega) (by decide), fun _ => ⟨pn_in (by omega) (by decide), fun v8 e8 => ?_⟩, fun c => absurd c (by decide)⟩⟩
  subst e8
  refine ⟨fun c => absurd rfl c, fun _ => ⟨fun c => absurd rfl c, fun _ => ⟨pn_in (by omega) (by decide), pn_in (by omega) (by decide), m_enters (by omega) (fun S' hf' a b e f => hk S' hf' a ?_ e f)⟩⟩⟩
  rw [b, Int32.add_zero]
theorem m_done {k44 : Int32 → Int32 → Int32 → Int32 → Int32 → gz_S → Prop} {Q : Int32 → gz_S → Prop} {x2 x4 x5 x6 : Int32} {n l : Nat} {S : gz_S} (hl : l < n) (hn : n ≤ 4) (h69 : S 69 l = nI 9) (hk : wX8_gameOf_193 k44 Q (nI n) x2 (nI l) x4 (S 70 l) S) : wX8_gameOf_157 k44 Q (nI n) x2 (nI l) x4 x5 x6 S := by
  unfold wX8_gameOf_157 wX8_gameOf_173
  rw [neq (by omega) (by omega), pn_cl (n := l) (by omega), h69]
  exact ⟨fun c => by omega, fun _ => ⟨pn_in (by omega) (by decide), fun c => absurd rfl c, fun _ => ⟨fun _ => ⟨pn_in (by omega) (by decide), hk⟩, fun c => by omega⟩⟩⟩
theorem m_leaf {k44 : Int32 → Int32 → Int32 → Int32 → Int32 → gz_S → Prop} {Q : Int32 → gz_S → Prop} {x2 x4 x5 x6 : Int32} {n : Nat} {S : gz_S} (hn : n ≤ 4) (hk : wX8_gameOf_193 k44 Q (nI n) x2 (nI n) x4 (S 68 n) S) : wX8_gameOf_157 k44 Q (nI n) x2 (nI n) x4 x5 x6 S := by
  unfold wX8_gameOf_157 wX8_gameOf_173
  rw [pn_cl (n := n) (by omega)]
  exact ⟨fun _ => ⟨fun c => absurd rfl c, fun _ => ⟨pn_in (by omega) (by decide), hk⟩⟩, fun c => absurd rfl c⟩
/-! ===== how many steps ===== -/
def cst (mine : Nat) (cf : Nat → Nat) : Nat → Nat
  | 0 => 1
  | j + 1 => if mine.testBit (8 - j) = true then cf (8 - j) + 1 + cst mine cf j else cst mine cf j
def GC (f0 f1 : Nat) : Nat → Nat → Nat → Nat
  | 0, _, _ => 1
  | r + 1, sd, tk => if mn (fsd f0 f1 sd) tk = 0 then GC f0 f1 r (1 - sd) tk + 1 + 1 else cst (mn (fsd f0 f1 sd) tk) (fun s => GC f0 f1 r (1 - sd) (tk ||| 2 ^ s)) 9
theorem cst_pos (mine : Nat) (cf : Nat → Nat) : ∀ j, 1 ≤ cst mine cf j
  | 0 => Nat.le_refl _
  | j + 1 => by
    have := cst_pos mine cf j
    unfold cst
    split <;> omega
theorem cst_skip {mine : Nat} {cf : Nat → Nat} {q : Nat} (hq : q ≤ 9) : ∀ m p, p + m = q → (∀ i, p ≤ i → i < q → mine.testBit i = false) → cst mine cf (9 - p) = cst mine cf (9 - q)
  | 0, p, h, _ => by rw [show p = q by omega]
  | m + 1, p, h, hb => by
    have ih := cst_skip (cf := cf) hq m (p + 1) (by omega) (fun i i1 i2 => hb i (by omega) i2)
    rw [← ih, show 9 - p = (9 - (p + 1)) + 1 by omega]
    show (if mine.testBit (8 - (9 - (p + 1))) = true then _ else _) = _
    rw [show 8 - (9 - (p + 1)) = p by omega, hb p (by omega) (by omega), if_neg (by decide)]
theorem cst_at {mine : Nat} {cf : Nat → Nat} {q : Nat} (hq : q < 9) (hb : mine.testBit q = true) : cst mine cf (9 - q) = cf q + 1 + cst mine cf (9 - (q + 1)) := by
  rw [show 9 - q = (9 - (q + 1)) + 1 by omega]
  show (if mine.testBit (8 - (9 - (q + 1))) = true then _ else _) = _
  rw [show 8 - (9 - (q + 1)) = q by omega, if_pos hb]
theorem gf_skip {mine sd q : Nat} {ev : Nat → Int32} : ∀ m p, p + m = q → (∀ i, p ≤ i → i < q → mine.testBit i = false) → gfold mine ev sd q = gfold mine ev sd p
  | 0, p, h, _ => by rw [show p = q by omega]
  | m + 1, p, h, hb => by
    rw [gf_skip m (p + 1) (by omega) (fun i i1 i2 => hb i (by omega) i2)]
    show (if mine.testBit p = true then _ else _) = _
    rw [hb p (by omega) (by omega), if_neg (by decide)]
theorem gnx_val (sd : Nat) (o : Option (Nat × Int32)) (s : Nat) (v : Int32) : gval (gnx sd o s v) = (if gbt sd o v = true then v else gval o) ∧ gfst (gnx sd o s v) = (if gbt sd o v = true then nI s else gfst o) ∧ gnx sd o s v ≠ none := by
  cases o with
  | none => exact ⟨rfl, rfl, by simp [gnx]⟩
  | some q =>
    unfold gnx gbt
    by_cases c : btr sd v q.2 = true
    · simp [c, gval, gfst]
    · simp [c, gval, gfst]
theorem gOK_of {S : gz_S} {l : Nat} {o : Option (Nat × Int32)} (h : o ≠ none) (h71 : S 71 l = 1) (h70 : S 70 l = gval o) : gOK S l o := by
  cases o with
  | none => exact absurd rfl h
  | some q => exact ⟨fun e => (by cases e), fun q2 e => (by cases e; exact ⟨h71, h70⟩)⟩
/-! ===== the whole play ===== -/
def xfo (l : Nat) (x4 : Int32) (o : Option (Nat × Int32)) : Int32 := if l = 0 then gfst o else x4
theorem m_node {d : dt} {f0 f1 n l r tk m : Nat} {x2 x40 tip : Int32} {Q : Int32 → gz_S → Prop} {S0 : gz_S} (hd : d_ok d) (h0 : f0 < 2 ^ d_ns d) (h1 : f1 < 2 ^ d_ns d) (hn : n ≤ 4) (hl : l + (r + 1) = n) (hm0 : ¬ mn (fsd f0 f1 (l % 2)) tk = 0)
    (hrun : ∀ (tk' m' : Nat) (tip' x4 x5 : Int32) (S : gz_S), gC S d f0 f1 → S 67 (l + 1) = nI tk' → S 68 (l + 1) = tip' → S 69 (l + 1) = -2 → S 71 (l + 1) = 0 → (∀ S', fr (gG (l + 1)) S S' → wX8_gameOf_193 (wX8_gameOf_44 Q m') Q (nI n) x2 (nI (l + 1)) x4 (GV d f0 f1 r (1 - l % 2) tk' tip') S') → wX8_gameOf_44 Q (m' + GC f0 f1 r (1 - l % 2) tk') (nI n) x2 (nI (l + 1)) x4 x5 S)
    (hend : ∀ S', fr (gG l) S0 S' → wX8_gameOf_193 (wX8_gameOf_44 Q m) Q (nI n) x2 (nI l) (xfo l x40 (GO d f0 f1 r (l % 2) tk tip 9)) (gval (GO d f0 f1 r (l % 2) tk tip 9)) S') :
    ∀ (j p q : Nat) (x5 : Int32) (S : gz_S), 9 - p ≤ j → p ≤ q → q ≤ 9 → (∀ i, p ≤ i → i < q → (mn (fsd f0 f1 (l % 2)) tk).testBit i = false) → (q < 9 → (mn (fsd f0 f1 (l % 2)) tk).testBit q = true) → gC S d f0 f1 → fr (gG l) S0 S → S 67 l = nI tk → S 68 l = tip → gOK S l (GO d f0 f1 r (l % 2) tk tip p) → S 69 l = nI q → wX8_gameOf_157 (wX8_gameOf_44 Q (m + (cst (mn (fsd f0 f1 (l % 2)) tk) (fun s => GC f0 f1 r (1 - l % 2) (tk ||| 2 ^ s)) (9 - p) - 1))) Q (nI n) x2 (nI l) (xfo l x40 (GO d f0 f1 r (l % 2) tk tip p)) x5 (nI (l % 2)) S := by
  have h9 := p29 hd.1.2
  have hmlt : mn (fsd f0 f1 (l % 2)) tk < 2 ^ d_ns d := Nat.lt_of_le_of_lt (mn_le _ _) (by unfold fsd; split; exact h0; exact h1)
  intro j
  induction j with
  | zero =>
    intro p q x5 S hj hpq hq hb hb2 hC hf h67 h68 hok h69
    obtain rfl : q = 9 := by omega
    refine m_done (by omega) hn h69 ?_
    have hp9 : GO d f0 f1 r (l % 2) tk tip p = GO d f0 f1 r (l % 2) tk tip 9 := (gf_skip (9 - p) p (by omega) hb).symm
    have hc := cst_skip (cf := fun s => GC f0 f1 r (1 - l % 2) (tk ||| 2 ^ s)) (Nat.le_refl 9) (9 - p) p (by omega) hb
    rw [hc, Nat.sub_self, show cst (mn (fsd f0 f1 (l % 2)) tk) (fun s => GC f0 f1 r (1 - l % 2) (tk ||| 2 ^ s)) 0 - 1 = 0 from rfl, Nat.add_zero, hp9]
    rw [hp9] at hok
    cases ho : GO d f0 f1 r (l % 2) tk tip 9 with
    | none =>
      exfalso
      refine hm0 (Nat.eq_of_testBit_eq (fun i => ?_))
      rw [Nat.zero_testBit]
      cases e : (mn (fsd f0 f1 (l % 2)) tk).testBit i with
      | false => rfl
      | true =>
        have hi := bit_lt hmlt e
        have hi9 : i < 9 := by have := hd.1.2; omega
        have hs : gfold (mn (fsd f0 f1 (l % 2)) tk) (fun s => GV d f0 f1 r (1 - l % 2) (tk ||| 2 ^ s) (tip + wv d (l % 2) s)) (l % 2) (i + 1) ≠ none := by
          show (if (mn (fsd f0 f1 (l % 2)) tk).testBit i = true then gnx _ _ _ _ else _) ≠ none
          rw [if_pos e]
          exact (gnx_val _ _ _ _).2.2
        have up : ∀ k, gfold (mn (fsd f0 f1 (l % 2)) tk) (fun s => GV d f0 f1 r (1 - l % 2) (tk ||| 2 ^ s) (tip + wv d (l % 2) s)) (l % 2) (i + 1 + k) ≠ none := by
          intro k
          induction k with
          | zero => exact hs
          | succ k ihk =>
            show (if (mn (fsd f0 f1 (l % 2)) tk).testBit (i + 1 + k) = true then gnx _ _ _ _ else _) ≠ none
            split
            · exact (gnx_val _ _ _ _).2.2
            · exact ihk
        have := up (9 - (i + 1))
        rw [show i + 1 + (9 - (i + 1)) = 9 by omega] at this
        exact absurd ho this
    | some q =>
      rw [ho] at hok
      have := hend S hf
      rw [ho] at this
      rw [(hok.2 q rfl).2]
      exact this
  | succ j ih =>
    intro p q x5 S hj hpq hq hb hb2 hC hf h67 h68 hok h69
    rcases Nat.lt_or_ge q 9 with hq9 | hq9
    · have hbq := hb2 hq9
      have hqs := bit_lt hmlt hbq
      have hgo : GO d f0 f1 r (l % 2) tk tip p = GO d f0 f1 r (l % 2) tk tip q := (gf_skip (q - p) p (by omega) hb).symm
      have hc := cst_skip (cf := fun s => GC f0 f1 r (1 - l % 2) (tk ||| 2 ^ s)) hq (q - p) p (by omega) hb
      have hca := cst_at (cf := fun s => GC f0 f1 r (1 - l % 2) (tk ||| 2 ^ s)) hq9 hbq
      have hcp := cst_pos (mn (fsd f0 f1 (l % 2)) tk) (fun s => GC f0 f1 r (1 - l % 2) (tk ||| 2 ^ s)) (9 - (q + 1))
      rw [hgo] at hok
      rw [hc, hca, hgo]
      refine m_down hd hC.1 (by omega) hn hqs (by omega) h69 h67 h68 (fun S1 f1' a67 a68 a69 a71 => ?_)
      rw [show m + (GC f0 f1 r (1 - l % 2) (tk ||| 2 ^ q) + 1 + cst (mn (fsd f0 f1 (l % 2)) tk) (fun s => GC f0 f1 r (1 - l % 2) (tk ||| 2 ^ s)) (9 - (q + 1)) - 1) = (m + cst (mn (fsd f0 f1 (l % 2)) tk) (fun s => GC f0 f1 r (1 - l % 2) (tk ||| 2 ^ s)) (9 - (q + 1))) + GC f0 f1 r (1 - l % 2) (tk ||| 2 ^ q) by omega]
      refine hrun (tk ||| 2 ^ q) _ (tip + wv d (l % 2) q) _ _ S1 (hC.keep f1') a67 a68 a69 a71 (fun S2 f2' => ?_)
      have f12 : fr (gG (l + 1)) S S2 := f1'.tr f2'
      have hok2 : gOK S2 l (GO d f0 f1 r (l % 2) tk tip q) := by
        refine ⟨fun e => ?_, fun z e => ⟨?_, ?_⟩⟩
        · rw [f12 _ _ (by unfold gG; omega)]; exact hok.1 e
        · rw [f12 _ _ (by unfold gG; omega)]; exact (hok.2 z e).1
        · rw [f12 _ _ (by unfold gG; omega)]; exact (hok.2 z e).2
      have b69 : S2 69 l = nI q := by rw [f12 _ _ (by unfold gG; omega)]; exact h69
      refine m_ret (by omega) hok2 (fun S3 f3 c71 c70 => ?_)
      have hgq : GO d f0 f1 r (l % 2) tk tip (q + 1) = gnx (l % 2) (GO d f0 f1 r (l % 2) tk tip q) q (GV d f0 f1 r (1 - l % 2) (tk ||| 2 ^ q) (tip + wv d (l % 2) q)) := by
        show (if (mn (fsd f0 f1 (l % 2)) tk).testBit q = true then _ else _) = _
        rw [if_pos hbq]
        rfl
      have hv := gnx_val (l % 2) (GO d f0 f1 r (l % 2) tk tip q) q (GV d f0 f1 r (1 - l % 2) (tk ||| 2 ^ q) (tip + wv d (l % 2) q))
      have ex : (if l = 0 then (if gbt (l % 2) (GO d f0 f1 r (l % 2) tk tip q) (GV d f0 f1 r (1 - l % 2) (tk ||| 2 ^ q) (tip + wv d (l % 2) q)) = true then S2 69 0 else xfo l x40 (GO d f0 f1 r (l % 2) tk tip q)) else xfo l x40 (GO d f0 f1 r (l % 2) tk tip q)) = xfo l x40 (GO d f0 f1 r (l % 2) tk tip (q + 1)) := by
        unfold xfo
        rw [hgq, hv.2.1]
        by_cases c : l = 0
        · rw [if_pos c, if_pos c, if_pos c]
          have : S2 69 0 = nI q := by rw [← b69, c]
          rw [this]
        · rw [if_neg c, if_neg c, if_neg c]
      rw [ex, show m + cst (mn (fsd f0 f1 (l % 2)) tk) (fun s => GC f0 f1 r (1 - l % 2) (tk ||| 2 ^ s)) (9 - (q + 1)) = (m + (cst (mn (fsd f0 f1 (l % 2)) tk) (fun s => GC f0 f1 r (1 - l % 2) (tk ||| 2 ^ s)) (9 - (q + 1)) - 1)) + 1 by omega]
      have f3g : fr (gG l) S2 S3 := f3.mono (fun a i h => by unfold gG; omega)
      have hC3 : gC S3 d f0 f1 := (hC.keep f12).keep f3g
      have g67 : S3 67 l = nI tk := by rw [f3 _ _ (by omega), f12 _ _ (by unfold gG; omega)]; exact h67
      have g68 : S3 68 l = tip := by rw [f3 _ _ (by omega), f12 _ _ (by unfold gG; omega)]; exact h68
      have g69 : S3 69 l = nI (q + 1) - 1 := by rw [f3 _ _ (by omega), b69, nm]
      refine m_top_re hC3 (by omega) (by omega) (by omega) g67 g69 (by omega) (fun q2 S4 k1 k2 k3 k4 f4 k69 => ?_)
      have f4g : fr (gG l) S3 S4 := f4.mono (fun a i h => by unfold gG; omega)
      refine ih (q + 1) q2 _ S4 (by omega) k1 k2 k3 k4 (hC3.keep f4g) (hf.tr ((f12.mono (fun a i h => by unfold gG at *; omega)).tr (f3g.tr f4g))) (by rw [f4 _ _ (by omega)]; exact g67) (by rw [f4 _ _ (by omega)]; exact g68) ?_ k69
      rw [hgq]
      exact gOK_of hv.2.2 (by rw [f4 _ _ (by omega)]; exact c71) (by rw [f4 _ _ (by omega), c70, hv.1])
    · have hp := hb
      obtain rfl : q = 9 := by omega
      rcases Nat.eq_or_lt_of_le (show 9 - p ≤ j + 1 from hj) with e | e
      · refine m_done (by omega) hn h69 ?_
        have hp9 : GO d f0 f1 r (l % 2) tk tip p = GO d f0 f1 r (l % 2) tk tip 9 := (gf_skip (9 - p) p (by omega) hb).symm
        have hc := cst_skip (cf := fun s => GC f0 f1 r (1 - l % 2) (tk ||| 2 ^ s)) (Nat.le_refl 9) (9 - p) p (by omega) hb
        rw [hc, Nat.sub_self, show cst (mn (fsd f0 f1 (l % 2)) tk) (fun s => GC f0 f1 r (1 - l % 2) (tk ||| 2 ^ s)) 0 - 1 = 0 from rfl, Nat.add_zero, hp9]
        have hok9 : gOK S l (GO d f0 f1 r (l % 2) tk tip 9) := by rw [← hp9]; exact hok
        have := ih 9 9 x5 S (by omega) (Nat.le_refl _) (Nat.le_refl _) (fun i i1 i2 => by omega) (fun z => by omega) hC hf h67 h68 hok9 h69
        unfold wX8_gameOf_157 wX8_gameOf_173 at this
        have t2 := (this.2 (by rw [neq (by omega) (by omega)]; omega)).2
        rw [pn_cl (n := l) (by omega), h69] at t2
        have t3 := (t2.2 rfl).1 (by rw [neq (by omega) (by omega)]; omega)
        rw [show (9 - 9 : Nat) = 0 from rfl, show cst (mn (fsd f0 f1 (l % 2)) tk) (fun s => GC f0 f1 r (1 - l % 2) (tk ||| 2 ^ s)) 0 - 1 = 0 from rfl, Nat.add_zero] at t3
        exact t3.2
      · exact ih p 9 x5 S (by omega) hpq hq hb hb2 hC hf h67 h68 hok h69
theorem m_run {d : dt} {f0 f1 n : Nat} {x2 : Int32} {Q : Int32 → gz_S → Prop} (hd : d_ok d) (h0 : f0 < 2 ^ d_ns d) (h1 : f1 < 2 ^ d_ns d) (hn : n ≤ 4) : ∀ (r l tk m : Nat) (tip x4 x5 : Int32) (S : gz_S), l + r = n → (l = 0 → x4 = -1 ∧ 1 ≤ r) → gC S d f0 f1 → S 67 l = nI tk → S 68 l = tip → S 69 l = -2 → S 71 l = 0 → (∀ S', fr (gG l) S S' → wX8_gameOf_193 (wX8_gameOf_44 Q m) Q (nI n) x2 (nI l) (xfo l x4 (GO d f0 f1 (r - 1) (l % 2) tk tip 9)) (GV d f0 f1 r (l % 2) tk tip) S') → wX8_gameOf_44 Q (m + GC f0 f1 r (l % 2) tk) (nI n) x2 (nI l) x4 x5 S := by
  have h9 := p29 hd.1.2
  intro r
  induction r with
  | zero =>
    intro l tk m tip x4 x5 S hl hl0 hC h67 h68 h69 h71 hk
    obtain rfl : l = n := by omega
    have hne : ¬ l = 0 := fun e => by have := (hl0 e).2; omega
    have fin : ∀ S', fr (fun a j => a = 69 ∧ j = l) S S' → wX8_gameOf_157 (wX8_gameOf_44 Q m) Q (nI l) x2 (nI l) x4 x5 (nI (l % 2)) S' := fun S' hf' => by
      refine m_leaf hn ?_
      have := hk S' (hf'.mono (fun a i h => by unfold gG; omega))
      unfold xfo at this
      rw [if_neg hne] at this
      rw [hf' 68 _ (by omega), h68]
      exact this
    exact m_top_new hC (by omega) (by omega) (by omega) h67 h69 (fun _ S' hf' _ => fin S' hf') (fun _ q S' _ _ _ _ hf' _ => fin S' hf')
  | succ r ih =>
    intro l tk m tip x4 x5 S hl hl0 hC h67 h68 h69 h71 hk
    have hmod : (l + 1) % 2 = 1 - l % 2 := by omega
    have hgv : GV d f0 f1 (r + 1) (l % 2) tk tip = if mn (fsd f0 f1 (l % 2)) tk = 0 then GV d f0 f1 r (1 - l % 2) tk tip else gval (GO d f0 f1 r (l % 2) tk tip 9) := rfl
    have hgc : GC f0 f1 (r + 1) (l % 2) tk = if mn (fsd f0 f1 (l % 2)) tk = 0 then GC f0 f1 r (1 - l % 2) tk + 1 + 1 else cst (mn (fsd f0 f1 (l % 2)) tk) (fun s => GC f0 f1 r (1 - l % 2) (tk ||| 2 ^ s)) 9 := rfl
    have hrun : ∀ (tk' m' : Nat) (tip' x4 x5 : Int32) (S : gz_S), gC S d f0 f1 → S 67 (l + 1) = nI tk' → S 68 (l + 1) = tip' → S 69 (l + 1) = -2 → S 71 (l + 1) = 0 → (∀ S', fr (gG (l + 1)) S S' → wX8_gameOf_193 (wX8_gameOf_44 Q m') Q (nI n) x2 (nI (l + 1)) x4 (GV d f0 f1 r (1 - l % 2) tk' tip') S') → wX8_gameOf_44 Q (m' + GC f0 f1 r (1 - l % 2) tk') (nI n) x2 (nI (l + 1)) x4 x5 S := by
      intro tk' m' tip' x4 x5 S a1 a2 a3 a4 a5 a6
      have := ih (l + 1) tk' m' tip' x4 x5 S (by omega) (fun e => by omega) a1 a2 a3 a4 a5 (fun S' hf' => by
        have q := a6 S' hf'
        unfold xfo
        rw [if_neg (by omega), hmod]
        exact q)
      rw [hmod] at this
      exact this
    by_cases hm0 : mn (fsd f0 f1 (l % 2)) tk = 0
    · rw [hgc, if_pos hm0]
      rw [hgv, if_pos hm0] at hk
      rw [show m + (GC f0 f1 r (1 - l % 2) tk + 1 + 1) = (m + 1 + GC f0 f1 r (1 - l % 2) tk) + 1 by omega]
      refine m_top_new hC (by omega) (by omega) (by omega) h67 h69 (fun _ S1 f1' b69 => ?_) (fun c => absurd hm0 c)
      have b67 : S1 67 l = nI tk := by rw [f1' _ _ (by omega)]; exact h67
      have b68 : S1 68 l = tip := by rw [f1' _ _ (by omega)]; exact h68
      have f1g : fr (gG l) S S1 := f1'.mono (fun a i h => by unfold gG; omega)
      refine m_pass (by omega) hn b69 b67 b68 (fun S2 f2 a67 a68 a69 a71 => ?_)
      have hC2 := (hC.keep f1g).keep f2
      refine hrun tk (m + 1) tip x4 x5 S2 hC2 a67 a68 a69 a71 (fun S3 f3 => ?_)
      have f23 : fr (gG (l + 1)) S1 S3 := f2.tr f3
      have c69 : S3 69 l = -1 := by rw [f23 _ _ (by unfold gG; omega)]; exact b69
      have c71 : S3 71 l = 0 := by rw [f23 _ _ (by unfold gG; omega), f1' _ _ (by omega)]; exact h71
      refine m_ret (o := none) (by omega) ⟨fun _ => c71, fun q e => by cases e⟩ (fun S4 f4 d71 d70 => ?_)
      have ex : (if l = 0 then (if gbt (l % 2) none (GV d f0 f1 r (1 - l % 2) tk tip) = true then S3 69 0 else x4) else x4) = x4 := by
        by_cases c : l = 0
        · rw [if_pos c]
          have : S3 69 0 = -1 := by rw [← c69, c]
          rw [this, (hl0 c).1]
          split <;> rfl
        · rw [if_neg c]
      rw [ex]
      have d70' : S4 70 l = GV d f0 f1 r (1 - l % 2) tk tip := by rw [d70]; rfl
      have f4g : fr (gG l) S3 S4 := f4.mono (fun a i h => by unfold gG; omega)
      have f13 : fr (gG l) S1 S3 := f23.mono (fun a i h => by unfold gG at *; omega)
      have hC4 : gC S4 d f0 f1 := ((hC.keep f1g).keep f13).keep f4g
      refine m_top_re (p := 0) hC4 (by omega) (by omega) (by omega) (by rw [f4 _ _ (by omega), f23 _ _ (by unfold gG; omega)]; exact b67) (by rw [f4 _ _ (by omega), c69]; decide) (by omega) (fun q S5 k1 k2 k3 k4 f5 k69 => ?_)
      have hq9 : q = 9 := by
        rcases Nat.lt_or_ge q 9 with g | g
        · have := k4 g
          rw [hm0, Nat.zero_testBit] at this
          cases this
        · omega
      rw [hq9] at k69
      refine m_done (by omega) hn k69 ?_
      have f5g : fr (gG l) S4 S5 := f5.mono (fun a i h => by unfold gG; omega)
      have := hk S5 (f1g.tr (f13.tr (f4g.tr f5g)))
      have exf : xfo l x4 (GO d f0 f1 (r + 1 - 1) (l % 2) tk tip 9) = x4 := by
        unfold xfo
        by_cases c : l = 0
        · rw [if_pos c, (hl0 c).1]
          have hg0 : GO d f0 f1 (r + 1 - 1) (l % 2) tk tip 9 = none := by
            have := gf_skip (mine := mn (fsd f0 f1 (l % 2)) tk) (sd := l % 2) (ev := fun s => GV d f0 f1 (r + 1 - 1) (1 - l % 2) (tk ||| 2 ^ s) (tip + wv d (l % 2) s)) (q := 9) 9 0 (by omega) (fun i _ _ => by rw [hm0, Nat.zero_testBit])
            exact this
          rw [hg0]
          rfl
        · rw [if_neg c]
      rw [exf] at this
      rw [f5 70 _ (by omega), d70']
      exact this
    · rw [hgc, if_neg hm0]
      rw [hgv, if_neg hm0] at hk
      have hcp := cst_pos (mn (fsd f0 f1 (l % 2)) tk) (fun s => GC f0 f1 r (1 - l % 2) (tk ||| 2 ^ s)) 9
      rw [show m + cst (mn (fsd f0 f1 (l % 2)) tk) (fun s => GC f0 f1 r (1 - l % 2) (tk ||| 2 ^ s)) 9 = (m + (cst (mn (fsd f0 f1 (l % 2)) tk) (fun s => GC f0 f1 r (1 - l % 2) (tk ||| 2 ^ s)) (9 - 0) - 1)) + 1 by rw [Nat.sub_zero]; omega]
      refine m_top_new hC (by omega) (by omega) (by omega) h67 h69 (fun c => absurd c hm0) (fun _ q S1 k1 k2 k3 k4 f1' k69 => ?_)
      have f1g : fr (gG l) S S1 := f1'.mono (fun a i h => by unfold gG; omega)
      have node := m_node (m := m) (x2 := x2) (x40 := x4) (tip := tip) (Q := Q) (S0 := S) hd h0 h1 hn (by omega) hm0 hrun hk 9 0 q x5 S1 (by omega) k1 k2 k3 k4 (hC.keep f1g) f1g (by rw [f1' _ _ (by omega)]; exact h67) (by rw [f1' _ _ (by omega)]; exact h68) ⟨fun _ => by rw [f1' _ _ (by omega)]; exact h71, fun z e => by cases e⟩ k69
      have ex : xfo l x4 (GO d f0 f1 r (l % 2) tk tip 0) = x4 := by
        unfold xfo
        by_cases c : l = 0
        · rw [if_pos c, (hl0 c).1]; rfl
        · rw [if_neg c]
      rw [ex] at node
      exact node
theorem m_game {d : dt} {td : Nat → Int32} {ar : Nat → Nat} {n w : Nat} (hn1 : 1 ≤ n) (hn : n ≤ 4) (hw : w ≤ 1) : lM (wX8_gameOf (nI n) (nI w)) d td ar (gmv d td n w) := fun S Q hS hQ => by
  have hb := hS.1.2.2.2.1
  have l0 := fr9_lt hS.1 0
  have l1 := fr9_lt hS.1 1
  unfold wX8_gameOf
  refine hS.end_ (hS.tip hb.2 (fun S1 hf1 hJ _ => ?_))
  refine m_enters (l := 0) (by decide) (fun S2 f2 a67 a68 a69 a71 => ?_)
  have f2M : fr gM S1 S2 := f2.mono (fun a j h => by unfold gG at h; unfold gM; omega)
  have hS2 := (hS.keep hf1).keep f2M
  have hJ2 : ∀ t, t < 9 → S2 62 t = oI ((js d sk0 (d_nc d)).2 t) := fun t ht => by rw [f2 _ _ (by unfold gG; omega)]; exact hJ.2.1 t ht
  refine ⟨_, m_freeOf_lp (sd := 0) hS.1 hS2.2.1 (by decide) hJ2 ?_ (d_ns d) 0 (by omega)⟩
  rw [cl0]
  refine ⟨in02, fun S3 e3 => ?_⟩
  have f3 : fr (fun a j => a = 72 ∧ j = 0) S2 S3 := by rw [e3]; exact fr_st ⟨rfl, rfl⟩
  have f3M : fr gM S2 S3 := f3.mono (fun a j h => by unfold gM; omega)
  have hS3 := hS2.keep f3M
  have hJ3 : ∀ t, t < 9 → S3 62 t = oI ((js d sk0 (d_nc d)).2 t) := fun t ht => by rw [f3 _ _ (by omega)]; exact hJ2 t ht
  refine ⟨_, m_freeOf_lp (sd := 1) hS.1 hS3.2.1 (by decide) hJ3 ?_ (d_ns d) 0 (by omega)⟩
  rw [cl1]
  refine ⟨in12, fun S4 e4 => ?_⟩
  have f4 : fr (fun a j => a = 72 ∧ j = 1) S3 S4 := by rw [e4]; exact fr_st ⟨rfl, rfl⟩
  have f4M : fr gM S3 S4 := f4.mono (fun a j h => by unfold gM; omega)
  have hS4 := hS3.keep f4M
  have hC : gC S4 d (fr9 d 0) (fr9 d 1) := ⟨hS4.2.1, by rw [f4 _ _ (by omega), e3, gz_st_v], by rw [e4, gz_st_v]⟩
  have k : ∀ a j, 67 ≤ a ∧ a ≤ 71 → S4 a j = S2 a j := fun a j h => by rw [f4 _ _ (by omega), f3 _ _ (by omega)]
  refine ⟨1 + GC (fr9 d 0) (fr9 d 1) n 0 0, m_run (x2 := nI w) hS.1 l0.1 l1.1 hn n 0 0 1 (tp d td (d_hr d)) (-1) 0 S4 (by omega) (fun _ => ⟨rfl, hn1⟩) hC ?_ ?_ ?_ ?_ (fun S5 f5 => ?_)⟩
  · rw [k _ _ (by omega)]; exact a67
  · rw [k _ _ (by omega)]; exact a68
  · rw [k _ _ (by omega)]; exact a69
  · rw [k _ _ (by omega)]; exact a71
  · have f5M : fr gM S4 S5 := f5.mono (fun a j h => by unfold gG at h; unfold gM; omega)
    have q := hQ S5 (hf1.tr (f2M.tr (f3M.tr (f4M.tr f5M))))
    unfold gmv at q
    unfold wX8_gameOf_193
    refine ⟨fun _ => ?_, fun c => absurd (by decide) c⟩
    unfold wX8_gameOf_44
    rw [n0' (by omega)]
    refine ⟨fun _ => ⟨fun c => ?_, fun c => ?_⟩, fun c => absurd (by decide) c⟩
    · rw [if_neg c] at q
      exact q
    · rw [if_pos c] at q
      exact q
/-! with the tides' bounds -/
theorem pr_lk2 {wx wm : gz_S → (Int32 → gz_S → Prop) → Prop} (h : ∀ d td ar, d_ok d → (∀ h, h ≤ 24 → bd (td h) 50) → ∃ v, lX wx d td ar v ∧ lM wm d td ar v) : pr wx (fun S Q => wX8_reads S (fun S1 => wm S1 Q)) := by
  intro S F K ⟨y0, n0, y1, n1, d, hR⟩ hF hK
  obtain ⟨td, ar, hX, hMS⟩ := hR.both
  obtain ⟨v, h1, h2⟩ := h d td ar hR.ok (fun t ht => by rw [← hX.2.2.2.1 t ht]; exact (hR.2.2.2.1 t ht).2)
  refine h1 S _ hX (fun S1 hf1 => hF _ (m_reads (hR.keep (hf1.mono gX_g)) (fun S2 hf2 hM2 hR2 => h2 S2 _ (hMS S2 ((hf1.mono gX_g).tr hf2) hM2) (fun S3 hf3 => hK _ S3 ⟨_, _, _, _, _, hR2.keep (hf3.mono gM_g)⟩))))
theorem p_game (x1 x2 : Int32) : pr (wX7_game x1 x2) (wX8_game x1 x2) := by
  refine pr_lk2 (wm := fun S1 Q => wX8_in (x1.toInt64) 1 4 S1 (fun r10 S10 => (r10 = 0 → Q (-10002) S10) ∧ (¬ r10 = 0 → wX8_isTwo x2 S10 (fun r17 S17 => (r17 = 0 → Q (-10002) S17) ∧ (¬ r17 = 0 → wX8_gameOf x1 x2 S17 (fun r26 S26 => Q r26 S26)))))) (fun d td ar hd htd => ?_)
  by_cases g1 : 1 ≤ x1 ∧ x1 ≤ 4
  · by_cases g2 : 0 ≤ x2 ∧ x2 ≤ 1
    · obtain ⟨n, hn1, hn, rfl⟩ := pn_rng1 (hi := 4) (by decide) g1.1 g1.2
      obtain ⟨w, hw, rfl⟩ := pn_rng (hi := 1) (by decide) g2.1 g2.2
      exact ⟨gmv d td n w, x_game hn1 hn hw htd, fun S Q hS hQ => w_in (lo := 1) (hi := 4) (by decide) (by decide) (fun _ _ => ⟨fun c => absurd c n10, fun _ => w_isTwo (fun _ _ => ⟨fun c => absurd c n10, fun _ => m_game hn1 hn hw S _ hS hQ⟩) (fun g => absurd g2 g)⟩) (fun g => absurd g1 g)⟩
    · refine ⟨-10002, fun S Q hS hQ => ?_, fun S Q hS hQ => w_in (lo := 1) (hi := 4) (by decide) (by decide) (fun _ _ => ⟨fun c => absurd c n10, fun _ => w_isTwo (fun a b => absurd ⟨a, b⟩ g2) (fun _ => ⟨fun _ => hQ S fr_rf, fun c => absurd rfl c⟩)⟩) (fun g => absurd g1 g)⟩
      unfold wX7_game
      exact w_within (fun _ _ => ⟨fun c => absurd c n10, fun _ => w_within (fun a b => absurd ⟨a, b⟩ g2) (fun _ => ⟨fun c => absurd rfl c, fun _ => hQ S fr_rf⟩)⟩) (fun g => absurd g1 g)
  · refine ⟨-10002, fun S Q hS hQ => ?_, fun S Q hS hQ => w_in (lo := 1) (hi := 4) (by decide) (by decide) (fun a b => absurd ⟨a, b⟩ g1) (fun _ => ⟨fun _ => hQ S fr_rf, fun c => absurd rfl c⟩)⟩
    unfold wX7_game
    exact w_within (fun a b => absurd ⟨a, b⟩ g1) (fun _ => ⟨fun _ => hQ S fr_rf, fun c => absurd rfl c⟩)
