/-! ===== the heap ===== -/
abbrev HS : Type := (Nat → Nat) × (Nat → Bool) × Nat
/-- the shelf of carry k: 0 to 4 of side 0, 5 to 9 of side 1 -/
def sh (d : dt) (k : Nat) : Nat := d_sd d (d_cp d k) * 5 + d_ca d k - 1
def lyp (s : HS) (k : Nat) : Nat → Bool := fun j => if j = k then true else s.2.1 j
def hput (d : dt) (s : HS) (k : Nat) : HS :=
  if s.1 (sh d k) + d_wt d (d_cs d k) ≤ d_ld d then (fun x => if x = sh d k then s.1 (sh d k) + d_wt d (d_cs d k) else s.1 x, lyp s k, s.2.2)
  else (fun x => if x = sh d k then 0 else s.1 x, fun j => lyp s k j && !(sh d j == sh d k), s.2.2 + fb_ct (fun j => lyp s k j && (sh d j == sh d k)) (d_nc d))
def hs0 : HS := (fun _ => 0, fun _ => false, 0)
def hf (d : dt) (l : List Nat) : HS := l.foldl (hput d) hs0
theorem hf_snoc (d : dt) (l : List Nat) (k : Nat) : hf d (l ++ [k]) = hput d (hf d l) k := by unfold hf; rw [List.foldl_append]; rfl
theorem hf_ly_aux (d : dt) (P : Nat → Prop) : ∀ (l : List Nat) (s : HS), (∀ j, s.2.1 j = true → P j) → (∀ k ∈ l, P k) → ∀ j, (l.foldl (hput d) s).2.1 j = true → P j
  | [], s, h, _, j, hj => h j hj
  | k :: l, s, h, hl, j, hj => by
    refine hf_ly_aux d P l (hput d s k) (fun i hi => ?_) (fun i hi => hl i (List.mem_cons_of_mem _ hi)) j hj
    have h1 : lyp s k i = true := by
      unfold hput at hi
      split at hi
      · exact hi
      · have : (lyp s k i && !(sh d i == sh d k)) = true := hi
        simp at this
        exact this.1
    unfold lyp at h1
    split at h1
    next e => rw [e]; exact hl k List.mem_cons_self
    next e => exact h i h1
theorem hf_ly {d : dt} {l : List Nat} {j : Nat} (h : (hf d l).2.1 j = true) : j ∈ l := hf_ly_aux d (fun j => j ∈ l) l hs0 (fun j h => by cases h) (fun k h => h) j h
theorem hf_on_aux (d : dt) : ∀ (l : List Nat) (s : HS), (∀ x, s.1 x ≤ d_ld d) → ∀ x, (l.foldl (hput d) s).1 x ≤ d_ld d
  | [], s, h, x => h x
  | k :: l, s, h, x => by
    refine hf_on_aux d l (hput d s k) (fun y => ?_) x
    unfold hput
    split
    next c =>
      show (if y = sh d k then _ else s.1 y) ≤ _
      split
      · exact c
      · exact h y
    next c =>
      show (if y = sh d k then 0 else s.1 y) ≤ _
      split
      · omega
      · exact h y
theorem hf_on (d : dt) (l : List Nat) (x : Nat) : (hf d l).1 x ≤ d_ld d := hf_on_aux d l hs0 (fun _ => Nat.zero_le _) x
/-- the lawful carries at an hour among the first k -/
def bk (d : dt) (sk : Nat → Bool) (now k : Nat) : List Nat := (List.range k).filter (fun j => decide (jl d sk j = some now))
def qq (d : dt) (sk : Nat → Bool) (h : Nat) : List Nat := (List.range h).flatMap (fun t => bk d sk t (d_nc d))
theorem bk_yes {d : dt} {sk : Nat → Bool} {now k : Nat} (h : jl d sk k = some now) : bk d sk now (k + 1) = bk d sk now k ++ [k] := by
  unfold bk
  rw [List.range_succ, List.filter_append, List.filter_cons_of_pos (by simpa using h)]
  rfl
theorem bk_no {d : dt} {sk : Nat → Bool} {now k : Nat} (h : ¬ jl d sk k = some now) : bk d sk now (k + 1) = bk d sk now k := by
  unfold bk
  rw [List.range_succ, List.filter_append, List.filter_cons_of_neg (by simpa using h)]
  simp
theorem bk_mem {d : dt} {sk : Nat → Bool} {now k j : Nat} (h : j ∈ bk d sk now k) : j < k ∧ jl d sk j = some now := by
  unfold bk at h
  rw [List.mem_filter, List.mem_range] at h
  simpa using h
theorem qq_succ (d : dt) (sk : Nat → Bool) (h : Nat) : qq d sk (h + 1) = qq d sk h ++ bk d sk h (d_nc d) := by
  unfold qq
  rw [List.range_succ, List.flatMap_append]
  simp
theorem qq_mem {d : dt} {sk : Nat → Bool} {h j : Nat} (hj : j ∈ qq d sk h) : j < d_nc d ∧ ∃ t, t < h ∧ jl d sk j = some t := by
  unfold qq at hj
  obtain ⟨t, h1, h2⟩ := List.mem_flatMap.mp hj
  have h3 := bk_mem h2
  exact ⟨h3.1, t, List.mem_range.mp h1, h3.2⟩
/-! ===== the reference's heap ===== -/
def bI (b : Bool) : Int32 := if b then 1 else 0
def mx (x : Nat) : Nat := x + 1 + x / 5
def hM (S : gz_S) (d : dt) (s : HS) : Prop := (∀ x, x < 10 → S 63 (mx x) = nI (s.1 x)) ∧ (∀ k, k < d_nc d → S 64 k = bI (s.2.1 k)) ∧ S 45 25 = nI s.2.2
def kP (a j : Nat) : Prop := a = 63 ∨ a = 64 ∨ (a = 45 ∧ j = 25)
theorem d_M.heaps {S S' : gz_S} {d : dt} (h : d_M S d) (hf : fr kP S S') : d_M S' d := h.keep (fun a j h2 => hf a j (by unfold kP; omega))
theorem sh_lt {d : dt} (hd : d_ok d) {k : Nat} (hk : k < d_nc d) (hp : d_cp d k < d_np d) : sh d k < 10 := by
  have h1 := (hd.2.1 _ hp).2.2
  have h2 := (hd.2.2.2.2.2.2 k hk).2.2
  unfold sh
  omega
theorem m_shelfOf {d : dt} {k : Nat} {S : gz_S} {Q : Int32 → gz_S → Prop} (hd : d_ok d) (hM : d_M S d) (hk : k < d_nc d) (hp : d_cp d k < d_np d) (hQ : Q (nI (mx (sh d k))) S) : wX8_shelfOf (nI k) S Q := by
  have hnc := hd.2.2.2.2.2.1
  obtain ⟨b1, b2, b3, b4⟩ := hd.2.2.2.2.2.2 k hk
  obtain ⟨c1, c2, c3⟩ := hM.2.2.2.2 k hk
  have h1 := (hd.2.1 _ hp).2.2
  unfold wX8_shelfOf
  rw [n3k, nI_2, pn_cl (by omega), pn_cl (by omega), c1, c3, pn_cl (by omega), (hM.1.2 _ hp).2]
  refine ⟨pn_in (by omega) (by decide), pn_in b1 (by decide), pn_in (by omega) (by decide), ?_⟩
  have e : (6 : Int32) * nI (d_sd d (d_cp d k)) + nI (d_ca d k) = nI (mx (sh d k)) := by
    rw [show (6 : Int32) * nI (d_sd d (d_cp d k)) = nI (6 * d_sd d (d_cp d k)) from pk_mul 6 _, nI_add]
    congr 1
    unfold mx sh
    omega
  rw [e]
  exact hQ
theorem bI_0 {b : Bool} : bI b = 0 ↔ b = false := by cases b <;> decide
theorem mx_inj {x y : Nat} (h : mx x = mx y) : x = y := by unfold mx at h; omega
theorem m_slides {d : dt} {x c0 : Nat} {ly : Nat → Bool} {S0 : gz_S} {Q : gz_S → Prop} (hd : d_ok d) (hM0 : d_M S0 d) (hx : x < 10) (hly : ∀ j, j < d_nc d → ly j = true → d_cp d j < d_np d) (h64 : ∀ j, j < d_nc d → S0 64 j = bI (ly j)) (h25 : S0 45 25 = nI c0)
    (hQ : ∀ S', fr (fun a j => (a = 63 ∧ j = mx x) ∨ a = 64 ∨ (a = 45 ∧ j = 25)) S0 S' → S' 63 (mx x) = 0 → (∀ j, j < d_nc d → S' 64 j = bI (ly j && !(sh d j == x))) → S' 45 25 = nI (c0 + fb_ct (fun j => ly j && (sh d j == x)) (d_nc d)) → Q S') : wX8_slides (nI (mx x)) S0 Q := by
  have hnc := hd.2.2.2.2.2.1
  have hmx : mx x < 12 := by unfold mx; omega
  have lp : ∀ (m i : Nat) (S : gz_S), i + m = d_nc d → fr (fun a j => a = 64 ∨ (a = 45 ∧ j = 25)) S0 S → (∀ j, j < d_nc d → S 64 j = bI (if j < i then ly j && !(sh d j == x) else ly j)) → S 45 25 = nI (c0 + fb_ct (fun j => ly j && (sh d j == x)) i) → wX8_slides_2 Q (m + 1) (nI (mx x)) (nI i) S := by
    intro m
    induction m with
    | zero =>
      intro i S hi hfr h1 h2
      obtain rfl : i = d_nc d := by omega
      unfold wX8_slides_2
      have hMS : d_M S d := hM0.keep (fun a j h => hfr a j (by omega))
      refine ⟨fun _ => ⟨pn_in hmx (by decide), fun S2 e2 => ?_⟩, fun c => absurd ?_ c⟩
      · rw [pn_cl (by omega)] at e2
        refine hQ S2 ?_ ?_ (fun j hj => ?_) ?_
        · refine fr.tr (S1 := S) (hfr.mono (fun a j h => Or.inr h)) ?_
          rw [e2]; exact fr_st (Or.inl ⟨rfl, rfl⟩)
        · rw [e2, gz_st_v]
        · rw [e2, gz_st_n _ _ _ (by decide), h1 j hj, if_pos hj]
        · rw [e2, gz_st_n _ _ _ (by decide), h2]
      · rw [hMS.2.2.2.1]
        exact nI_le (Nat.le_refl _) (by omega)
    | succ m ih =>
      intro i S hi hfr h1 h2
      have hMS : d_M S d := hM0.keep (fun a j h => hfr a j (by omega))
      have hcur : S 64 i = bI (ly i) := by rw [h1 i (by omega), if_neg (by omega)]
      unfold wX8_slides_2
      refine ⟨fun c => ?_, fun _ => ?_⟩
      · exfalso
        rw [hMS.2.2.2.1, nle (by omega) (by omega)] at c
        omega
      · rw [pn_cl (by omega), hcur, bI_0]
        have hstep : ∀ S2, fr (fun a j => a = 64 ∨ (a = 45 ∧ j = 25)) S S2 → (∀ j, j ≠ i → S2 64 j = S 64 j) → S2 64 i = bI (ly i && !(sh d i == x)) → S2 45 25 = nI (c0 + fb_ct (fun j => ly j && (sh d j == x)) (i + 1)) → wX8_slides_45 (fun y0 y1 S => wX8_slides_2 Q (m + 1) y0 y1 S) Q (nI (mx x)) (nI i) S2 := by
          intro S2 hf2 g1 g2 g3
          unfold wX8_slides_45
          rw [nI_1]
          refine ih (i + 1) S2 (by omega) (hfr.tr hf2) (fun j hj => ?_) g3
          by_cases e : j = i
          · subst e; rw [if_pos (by omega)]; exact g2
          · rw [g1 j e, h1 j hj]
            by_cases e2 : j < i
            · rw [if_pos e2, if_pos (by omega)]
            · rw [if_neg e2, if_neg (by omega)]
        refine ⟨pn_in (by omega) (by decide), fun c => ?_, fun c => ?_⟩
        · refine hstep S fr_rf (fun _ _ => rfl) ?_ ?_
          · rw [hcur, c]; rfl
          · rw [h2, fb_ct_succ, c]; simp
        · have c' : ly i = true := by simpa using c
          refine m_shelfOf hd hMS (by omega) (hly i (by omega) c') ⟨fun g => ?_, fun g => ?_⟩
          · have g' : ¬ sh d i = x := fun e => g (by rw [e])
            refine hstep S fr_rf (fun _ _ => rfl) ?_ ?_
            · have e9 : (sh d i == x) = false := by simpa using g'
              rw [hcur, c', e9]; rfl
            · rw [h2, fb_ct_succ]; simp [g']
          · have hs : sh d i < 10 := sh_lt hd (by omega) (hly i (by omega) c')
            have g' : sh d i = x := by
              rw [neq (by unfold mx; omega) (by omega)] at g
              exact mx_inj g
            refine ⟨pn_in (by omega) (by decide), fun S2 e2 S3 e3 => ?_⟩
            refine hstep S3 (fr.tr (S1 := S2) ?_ ?_) (fun j hj => ?_) ?_ ?_
            · rw [e2]; exact fr_st (Or.inl rfl)
            · rw [e3]; exact fr_st (Or.inr ⟨rfl, rfl⟩)
            · rw [e3, gz_st_n _ _ _ (by decide), e2, gz_st_o _ _ _ hj]
            · rw [e3, gz_st_n _ _ _ (by decide), e2, gz_st_v, c']; simp [g', bI]
            · rw [e3, gz_st_v, e2, gz_st_n _ _ _ (by decide), h2, nI_1, fb_ct_succ]
              congr 1
              simp [c', g']
              omega
  unfold wX8_slides
  refine ⟨d_nc d + 1, lp (d_nc d) 0 S0 (by omega) fr_rf (fun j hj => ?_) ?_⟩
  · rw [if_neg (by omega)]; exact h64 j hj
  · rw [h25]; rfl
theorem m_heaps_in {d : dt} {sk : Nat → Bool} {now : Nat} {l0 : List Nat} {S0 : gz_S} {Q : gz_S → Prop} {k51 : Int32 → Int32 → gz_S → Prop} {x1 : Int32} (hd : d_ok d) (hM0 : d_M S0 d) (hnow : now ≤ 24) (hl0 : ∀ j ∈ l0, d_cp d j < d_np d) (hlaid : ∀ j, j < d_nc d → S0 60 j = oI (jl d sk j))
    (hQ : ∀ S', fr kP S0 S' → hM S' d (hf d (l0 ++ bk d sk now (d_nc d))) → k51 x1 (nI (now + 1)) S') :
    ∀ (m k : Nat) (S : gz_S), k + m = d_nc d → fr kP S0 S → hM S d (hf d (l0 ++ bk d sk now k)) → wX8_heaps_58 k51 Q (m + 1) x1 (nI now) (nI k) S := by
  have hnc := hd.2.2.2.2.2.1
  intro m
  induction m with
  | zero =>
    intro k S hk hfr hH
    obtain rfl : k = d_nc d := by omega
    unfold wX8_heaps_58
    refine ⟨fun _ => by rw [nI_1]; exact hQ S hfr hH, fun c => absurd ?_ c⟩
    rw [(hM0.heaps hfr).2.2.2.1]
    exact nI_le (Nat.le_refl _) (by omega)
  | succ m ih =>
    intro k S hk hfr hH
    have hMS := hM0.heaps hfr
    unfold wX8_heaps_58
    refine ⟨fun c => ?_, fun _ => ?_⟩
    · exfalso
      rw [hMS.2.2.2.1, nle (by omega) (by omega)] at c
      omega
    · rw [pn_cl (by omega), hfr 60 k (by unfold kP; omega), hlaid k (by omega)]
      have hnext : ∀ S2, fr kP S0 S2 → hM S2 d (hf d (l0 ++ bk d sk now (k + 1))) → wX8_heaps_139 k51 (fun y0 y1 y2 S => wX8_heaps_58 k51 Q (m + 1) y0 y1 y2 S) Q x1 (nI now) (nI k) S2 := by
        intro S2 h1 h2
        unfold wX8_heaps_139
        rw [nI_1]
        exact ih (k + 1) S2 (by omega) h1 h2
      refine ⟨pn_in (by omega) (by decide), fun c => ?_, fun c => ?_⟩
      · refine hnext S hfr ?_
        rw [bk_no (fun e => c (by rw [e]; rfl))]
        exact hH
      · have hl : jl d sk k = some now := by
          cases hl : jl d sk k with
          | none => rw [hl] at c; exact absurd c.symm (nm1 (by omega))
          | some t =>
            rw [hl] at c
            have ht := jl_hr hl
            have hhr := hd.2.2.2.1.2
            have c' : nI t = nI now := c
            rw [neq (by omega) (by omega)] at c'
            rw [c']
        have hli := (jl_iff.mp hl).1
        have hp := hli.2.1
        have hs := hli.2.2.1
        have hshl := sh_lt hd (by omega) hp
        obtain ⟨w1, w2, w3⟩ := hd.2.2.1 _ hs
        have hld := hd.2.2.2.2.1
        have hmx : mx (sh d k) < 12 := by unfold mx; omega
        refine ⟨pn_in (by omega) (by decide), fun S1 e1 => ?_⟩
        have hf1 : fr kP S S1 := by rw [e1]; exact fr_st (Or.inr (Or.inl rfl))
        have hM1 := hMS.heaps hf1
        refine m_shelfOf hd hM1 (by omega) hp ?_
        obtain ⟨q1, q2, q3⟩ := hM1.2.2.2.2 k (by omega)
        obtain ⟨b1, b2, b3⟩ := hd.2.2.2.2.2.2 k (by omega)
        rw [n3k, nI_1, pn_cl (by omega), pn_cl (by omega), q2, pn_cl (by omega), (hM1.2.1.2 _ hs).1]
        obtain ⟨g1, g2, g3⟩ := id hH
        have hon := hf_on d (l0 ++ bk d sk now k) (sh d k)
        have e63 : S1 63 (mx (sh d k)) = nI ((hf d (l0 ++ bk d sk now k)).1 (sh d k)) := by rw [e1, gz_st_n _ _ _ (by decide)]; exact g1 _ hshl
        rw [e63, nI_add]
        refine ⟨pn_in hmx (by decide), pn_in (by omega) (by decide), pn_in b2 (by decide), pn_in hmx (by decide), fun S2 e2 => ?_⟩
        have hf2 : fr kP S1 S2 := by rw [e2]; exact fr_st (Or.inl rfl)
        have hM2 := hM1.heaps hf2
        have v2 : S2 63 (mx (sh d k)) = nI ((hf d (l0 ++ bk d sk now k)).1 (sh d k) + d_wt d (d_cs d k)) := by rw [e2, gz_st_v]
        refine m_shelfOf hd hM2 (by omega) hp ?_
        rw [pn_cl (by omega), cl1, v2, hM2.2.2.1.2]
        have h64 : ∀ j, j < d_nc d → S2 64 j = bI (lyp (hf d (l0 ++ bk d sk now k)) k j) := by
          intro j hj
          rw [e2, gz_st_n _ _ _ (by decide), e1]
          unfold lyp
          by_cases e : j = k
          · subst e; rw [gz_st_v, if_pos rfl]; rfl
          · rw [gz_st_o _ _ _ e, if_neg e]; exact g2 j hj
        have h25 : S2 45 25 = nI (hf d (l0 ++ bk d sk now k)).2.2 := by rw [e2, gz_st_n _ _ _ (by decide), e1, gz_st_n _ _ _ (by decide)]; exact g3
        have h63 : ∀ x, x < 10 → x ≠ sh d k → S2 63 (mx x) = nI ((hf d (l0 ++ bk d sk now k)).1 x) := by
          intro x hx hne
          rw [e2, gz_st_o _ _ _ (fun e => hne (mx_inj e)), e1, gz_st_n _ _ _ (by decide)]
          exact g1 x hx
        refine ⟨pn_in hmx (by decide), in12, fun c2 => ?_, fun c2 => ?_⟩
        · rw [nle (by omega) (by omega)] at c2
          refine hnext S2 (hfr.tr (hf1.tr hf2)) ?_
          rw [bk_yes hl, ← List.append_assoc, hf_snoc]
          unfold hput
          rw [if_pos c2]
          refine ⟨fun x hx => ?_, h64, h25⟩
          show _ = nI (if x = sh d k then _ else _)
          by_cases e : x = sh d k
          · rw [if_pos e, e]; exact v2
          · rw [if_neg e]; exact h63 x hx e
        · rw [nle (by omega) (by omega)] at c2
          refine m_shelfOf hd hM2 (by omega) hp ?_
          refine m_slides (c0 := (hf d (l0 ++ bk d sk now k)).2.2) (ly := lyp (hf d (l0 ++ bk d sk now k)) k) hd hM2 hshl (fun j hj hy => ?_) h64 h25 (fun S3 hf3 r1 r2 r3 => ?_)
          · unfold lyp at hy
            by_cases e : j = k
            · rw [e]; exact hp
            · rw [if_neg e] at hy
              rcases List.mem_append.mp (hf_ly hy) with h | h
              · exact hl0 j h
              · exact (jl_iff.mp (bk_mem h).2).1.2.1
          · refine hnext S3 (hfr.tr (hf1.tr (hf2.tr (hf3.mono (fun a j h => by unfold kP; omega))))) ?_
            rw [bk_yes hl, ← List.append_assoc, hf_snoc]
            unfold hput
            rw [if_neg c2]
            refine ⟨fun x hx => ?_, r2, r3⟩
            show _ = nI (if x = sh d k then 0 else _)
            by_cases e : x = sh d k
            · rw [if_pos e, e]; exact r1
            · rw [if_neg e, hf3 63 (mx x) (fun h => by
                rcases h with ⟨-, h⟩ | h | ⟨h, -⟩
                · exact e (mx_inj h)
                · omega
                · omega)]
              exact h63 x hx e
theorem m_heaps_51 {d : dt} {sk : Nat → Bool} {h : Nat} {S0 : gz_S} {Q : gz_S → Prop} (hd : d_ok d) (hM0 : d_M S0 d) (hh : h ≤ 24) (hlaid : ∀ j, j < d_nc d → S0 60 j = oI (jl d sk j)) (hQ : ∀ S', fr kP S0 S' → hM S' d (hf d (qq d sk (h + 1))) → Q S') :
    ∀ (m t : Nat) (S : gz_S), t + m = h + 1 → fr kP S0 S → hM S d (hf d (qq d sk t)) → wX8_heaps_51 Q (m + 1) (nI h) (nI t) S := by
  intro m
  induction m with
  | zero =>
    intro t S ht hfr hH
    obtain rfl : t = h + 1 := by omega
    unfold wX8_heaps_51
    refine ⟨fun _ => hQ S hfr hH, fun c => absurd ?_ c⟩
    rw [nlt (by omega) (by omega)]
    omega
  | succ m ih =>
    intro t S ht hfr hH
    unfold wX8_heaps_51
    refine ⟨fun c => ?_, fun _ => ⟨d_nc d + 1, ?_⟩⟩
    · exfalso
      rw [nlt (by omega) (by omega)] at c
      omega
    · refine m_heaps_in (sk := sk) (l0 := qq d sk t) hd (hM0.heaps hfr) (by omega) (fun j hj => ?_) (fun j hj => ?_) (fun S2 h2 h3 => ?_) (d_nc d) 0 S (by omega) fr_rf ?_
      · obtain ⟨-, t2, -, h4⟩ := qq_mem hj
        exact (jl_iff.mp h4).1.2.1
      · rw [hfr 60 j (by unfold kP; omega)]; exact hlaid j hj
      · refine ih (t + 1) S2 (by omega) (hfr.tr h2) ?_
        rw [qq_succ]
        exact h3
      · have e : bk d sk t 0 = [] := rfl
        rw [e, List.append_nil]
        exact hH
theorem m_heaps {d : dt} {sk : Nat → Bool} {h : Nat} {S : gz_S} {Q : gz_S → Prop} (hd : d_ok d) (hM0 : d_M S d) (hh : h ≤ 24) (hlaid : ∀ j, j < d_nc d → S 60 j = oI (jl d sk j)) (hQ : ∀ S', fr kP S S' → hM S' d (hf d (qq d sk (h + 1))) → Q S') : wX8_heaps (nI h) S Q := by
  have hnc := hd.2.2.2.2.2.1
  have l23 : ∀ (m i : Nat) (S1 : gz_S), i + m = d_nc d → fr kP S S1 → (∀ x, x < 12 → S1 63 x = 0) → (∀ j, j < i → S1 64 j = 0) → wX8_heaps_23 Q (m + 1) (nI h) (nI i) S1 := by
    intro m
    induction m with
    | zero =>
      intro i S1 hi hfr h63 h64
      obtain rfl : i = d_nc d := by omega
      have hM1 := hM0.heaps hfr
      unfold wX8_heaps_23
      refine ⟨fun _ S2 e2 => ?_, fun c => absurd ?_ c⟩
      · have hf2 : fr kP S1 S2 := by rw [e2]; exact fr_st (Or.inr (Or.inr ⟨rfl, rfl⟩))
        refine ⟨h + 1 + 1, m_heaps_51 hd (hM1.heaps hf2) hh (fun j hj => ?_) (fun S3 h3 h4 => hQ S3 (hfr.tr (hf2.tr h3)) h4) (h + 1) 0 S2 (by omega) fr_rf ⟨fun x hx => ?_, fun j hj => ?_, ?_⟩⟩
        · rw [(hfr.tr hf2) 60 j (by unfold kP; omega)]; exact hlaid j hj
        · rw [e2, gz_st_n _ _ _ (by decide), h63 _ (by unfold mx; omega)]; rfl
        · rw [e2, gz_st_n _ _ _ (by decide), h64 j hj]; rfl
        · rw [e2, gz_st_v]; rfl
      · rw [hM1.2.2.2.1]
        exact nI_le (Nat.le_refl _) (by omega)
    | succ m ih =>
      intro i S1 hi hfr h63 h64
      have hM1 := hM0.heaps hfr
      unfold wX8_heaps_23
      refine ⟨fun c => ?_, fun _ => ⟨pn_in (by omega) (by decide), fun S2 e2 => ?_⟩⟩
      · exfalso
        rw [hM1.2.2.2.1, nle (by omega) (by omega)] at c
        omega
      · rw [pn_cl (by omega)] at e2
        rw [nI_1]
        refine ih (i + 1) S2 (by omega) (hfr.tr (by rw [e2]; exact fr_st (Or.inr (Or.inl rfl)))) (fun x hx => ?_) (fun j hj => ?_)
        · rw [e2, gz_st_n _ _ _ (by decide)]; exact h63 x hx
        · by_cases e : j = i
          · subst e; rw [e2, gz_st_v]
          · rw [e2, gz_st_o _ _ _ e]; exact h64 j (by omega)
  have l2 : ∀ (m i : Nat) (S1 : gz_S), i + m = 12 → fr kP S S1 → (∀ x, x < i → S1 63 x = 0) → wX8_heaps_2 Q (m + 1) (nI h) (nI i) S1 := by
    intro m
    induction m with
    | zero =>
      intro i S1 hi hfr h63
      obtain rfl : i = 12 := by omega
      unfold wX8_heaps_2
      exact ⟨fun _ => ⟨d_nc d + 1, l23 (d_nc d) 0 S1 (by omega) hfr h63 (fun j hj => by omega)⟩, fun c => absurd (by decide) c⟩
    | succ m ih =>
      intro i S1 hi hfr h63
      unfold wX8_heaps_2
      refine ⟨fun c => ?_, fun _ => ⟨pn_in (by omega) (by decide), fun S2 e2 => ?_⟩⟩
      · exfalso
        have c' : nI 12 ≤ nI i := c
        rw [nle (by omega) (by omega)] at c'
        omega
      · rw [pn_cl (by omega)] at e2
        rw [nI_1]
        refine ih (i + 1) S2 (by omega) (hfr.tr (by rw [e2]; exact fr_st (Or.inl rfl))) (fun x hx => ?_)
        by_cases e : x = i
        · subst e; rw [e2, gz_st_v]
        · rw [e2, gz_st_o _ _ _ e]; exact h63 x (by omega)
  unfold wX8_heaps
  exact ⟨13, l2 12 0 S (by omega) fr_rf (fun x hx => by omega)⟩
/-- the tip: the tide, and weight times arm -/
def tpv (t : Int32) (on : Nat → Nat) : Int32 := ((((t + 1 * (nI (on 0) - nI (on 5))) + 2 * (nI (on 1) - nI (on 6))) + 3 * (nI (on 2) - nI (on 7))) + 4 * (nI (on 3) - nI (on 8))) + 5 * (nI (on 4) - nI (on 9))
theorem m_tipNow {d : dt} {h : Nat} {s : HS} {S : gz_S} {Q : Int32 → gz_S → Prop} (hh : h ≤ 24) (hH : hM S d s) (hQ : Q (tpv (S 57 h) s.1) S) : wX8_tipNow (nI h) S Q := by
  unfold wX8_tipNow
  rw [pn_cl (by omega)]
  refine ⟨pn_in (by omega) (by decide), fun v e => ?_⟩
  refine ⟨6, ?_⟩
  have h0 := hH.1 0 (by decide)
  have h1 := hH.1 1 (by decide)
  have h2 := hH.1 2 (by decide)
  have h3 := hH.1 3 (by decide)
  have h4 := hH.1 4 (by decide)
  have h5 := hH.1 5 (by decide)
  have h6 := hH.1 6 (by decide)
  have h7 := hH.1 7 (by decide)
  have h8 := hH.1 8 (by decide)
  have h9 := hH.1 9 (by decide)
  unfold wX8_tipNow_9
  refine ⟨fun c => absurd c (by decide), fun _ => ⟨pn_in (j := 1) (by decide) (by decide), pn_in (j := 7) (by decide) (by decide), fun v1 e1 => ?_⟩⟩
  unfold wX8_tipNow_9
  refine ⟨fun c => absurd c (by decide), fun _ => ⟨pn_in (j := 2) (by decide) (by decide), pn_in (j := 8) (by decide) (by decide), fun v2 e2 => ?_⟩⟩
  unfold wX8_tipNow_9
  refine ⟨fun c => absurd c (by decide), fun _ => ⟨pn_in (j := 3) (by decide) (by decide), pn_in (j := 9) (by decide) (by decide), fun v3 e3 => ?_⟩⟩
  unfold wX8_tipNow_9
  refine ⟨fun c => absurd c (by decide), fun _ => ⟨pn_in (j := 4) (by decide) (by decide), pn_in (j := 10) (by decide) (by decide), fun v4 e4 => ?_⟩⟩
  unfold wX8_tipNow_9
  refine ⟨fun c => absurd c (by decide), fun _ => ⟨pn_in (j := 5) (by decide) (by decide), pn_in (j := 11) (by decide) (by decide), fun v5 e5 => ?_⟩⟩
  unfold wX8_tipNow_9
  refine ⟨fun _ => ?_, fun c => absurd (by decide) c⟩
  have f1 : v1 = v + 1 * (nI (s.1 0) - nI (s.1 5)) := by rw [e1, ← h0, ← h5]; rfl
  have f2 : v2 = v1 + 2 * (nI (s.1 1) - nI (s.1 6)) := by rw [e2, ← h1, ← h6]; rfl
  have f3 : v3 = v2 + 3 * (nI (s.1 2) - nI (s.1 7)) := by rw [e3, ← h2, ← h7]; rfl
  have f4 : v4 = v3 + 4 * (nI (s.1 3) - nI (s.1 8)) := by rw [e4, ← h3, ← h8]; rfl
  have f5 : v5 = v4 + 5 * (nI (s.1 4) - nI (s.1 9)) := by rw [e5, ← h4, ← h9]; rfl
  rw [f5, f4, f3, f2, f1, e]
  exact hQ
