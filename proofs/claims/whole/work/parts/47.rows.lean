/-! ===== read ===== -/
def rdn (it : Nat → Int32) (n : Nat) : Nat → Nat → dt → Nat × dt
  | 0, i, d => (i, d)
  | f + 1, i, d => if 3 * i + 3 ≤ n ∧ d_nc d < 30 ∧ tld (it (3 * i)) (it (3 * i + 1)) (it (3 * i + 2)) then rdn it n f (i + 1) (d_add d (it (3 * i)).toNatClampNeg (it (3 * i + 1)).toNatClampNeg (it (3 * i + 2)).toNatClampNeg) else (i, d)
theorem rdn_nc (it : Nat → Int32) (n : Nat) : ∀ f i d, d_nc (rdn it n f i d).2 + i = d_nc d + (rdn it n f i d).1
  | 0, i, d => rfl
  | f + 1, i, d => by
    unfold rdn
    split
    · have h := rdn_nc it n f (i + 1) (d_add d (it (3 * i)).toNatClampNeg (it (3 * i + 1)).toNatClampNeg (it (3 * i + 2)).toNatClampNeg)
      have e : d_nc (d_add d (it (3 * i)).toNatClampNeg (it (3 * i + 1)).toNatClampNeg (it (3 * i + 2)).toNatClampNeg) = d_nc d + 1 := rfl
      rw [e] at h
      omega
    · rfl
theorem tld_c {x1 x2 x3 : Int32} (h : tld x1 x2 x3) : x1.toNatClampNeg < 8 ∧ x2.toNatClampNeg < 9 ∧ (1 ≤ x3.toNatClampNeg ∧ x3.toNatClampNeg ≤ 5) ∧ x1 = nI x1.toNatClampNeg ∧ x2 = nI x2.toNatClampNeg ∧ x3 = nI x3.toNatClampNeg := by
  obtain ⟨p, s, a, hp, hs, ha1, ha2, rfl, rfl, rfl⟩ := tld_n h
  rw [pn_cl (by omega), pn_cl (by omega), pn_cl (by omega)]
  exact ⟨hp, hs, ⟨ha1, ha2⟩, rfl, rfl, rfl⟩
theorem rdn_ae {y0 y1 : Nat → Nat} {n0 n1 : Nat} (it : Nat → Int32) (n : Nat) : ∀ f i d, AE y0 n0 y1 n1 d → AE y0 n0 y1 n1 (rdn it n f i d).2
  | 0, i, d, h => h
  | f + 1, i, d, h => by
    unfold rdn
    split
    next c =>
      have t := tld_c c.2.2
      exact rdn_ae it n f (i + 1) _ (h.add c.2.1 t.1 t.2.1 t.2.2.1)
    · exact h
def rdP (c j : Nat) : Prop := (12 ≤ c ∧ c ≤ 15) ∨ jP 16 c j
theorem x_read_lp {y0 y1 : Nat → Nat} {n0 n1 s n : Nat} {it : Nat → Int32} {x4 : Int32} {Q : Int32 → gz_S → Prop} (hs : s < 4) (hn : n ≤ 60) : ∀ (f i : Nat) (d : dt) (S : gz_S), n < 3 * (i + f) + 3 → 3 * i ≤ n + 2 → AX S y0 n0 y1 n1 d → AE y0 n0 y1 n1 d → S (37 + 2 * s) 2 = nI n → (∀ j, j < n → S (37 + 2 * s + 1) j = it j) → (∀ S', fr rdP S S' → AX S' y0 n0 y1 n1 (rdn it n f i d).2 → jX S' 16 (rdn it n f i d).2 sk0 (d_nc (rdn it n f i d).2) → Q (nI (d_nc (rdn it n f i d).2) - x4) S') → wX7_read_31 Q (f + 1) (37 + 2 * s) x4 (nI (3 * i)) S := by
  have hend : ∀ (d : dt) (S : gz_S), AX S y0 n0 y1 n1 d → AE y0 n0 y1 n1 d → (∀ S', fr rdP S S' → AX S' y0 n0 y1 n1 d → jX S' 16 d sk0 (d_nc d) → Q (nI (d_nc d) - x4) S') → wX7_read_117 Q x4 S := by
    intro d S ha he hQ
    unfold wX7_read_117
    refine x_rej ha he (fun S2 hf2 ha2 hj2 => ?_)
    rw [ha2.2.2.2.1]
    exact hQ S2 (hf2.mono (fun c j h => Or.inr h)) ha2 hj2
  intro f
  induction f with
  | zero =>
    intro i d S h1 h2 ha he h3 h4 hQ
    unfold wX7_read_31
    rw [h3, nI_2, nle (by omega) (by omega)]
    exact ⟨fun _ => hend d S ha he hQ, fun c => by omega⟩
  | succ f ih =>
    intro i d S h1 h2 ha he h3 h4 hQ
    have hnc : d_nc d ≤ 30 := he.2.2.2.2.1
    unfold wX7_read_31
    rw [h3, nI_2, nI_1, nle (by omega) (by omega)]
    refine ⟨fun c => ?_, fun c => ?_⟩
    · refine hend d S ha he (fun S' a b e => ?_)
      unfold rdn at hQ
      rw [if_neg (fun q => by omega)] at hQ
      exact hQ S' a b e
    · rw [pn_cl (by omega), pn_cl (by omega), pn_cl (by omega), h4 _ (by omega), h4 _ (by omega), h4 _ (by omega)]
      refine ⟨pn_in (by omega) (by decide), fun v6 e6 => ⟨pn_in (by omega) (by decide), fun v7 e7 => ⟨pn_in (by omega) (by decide), fun v8 e8 => ?_⟩⟩⟩
      subst e6 e7 e8
      unfold wX1_isFull
      refine pk_lt (d_nc d) 30 (fun c30 => ⟨fun c => absurd rfl c, fun _ => ?_⟩) (fun c30 => ⟨fun _ => ?_, fun c => absurd c n10⟩) ha.2.2.2.1 rfl
      · refine x_told (fun ht => ⟨fun _ => ?_, fun c => absurd c n10⟩) (fun ht => ⟨fun c => absurd rfl c, fun _ => ?_⟩)
        · have t := tld_c ht
          unfold rdn at hQ
          rw [if_pos ⟨by omega, c30, ht⟩] at hQ
          rw [t.2.2.2.1, t.2.2.2.2.1, t.2.2.2.2.2]
          refine x_add ha.2.2 c30 (fun S1 hf1 hc1 => ?_)
          have ha1 : AX S1 y0 n0 y1 n1 (d_add d (it (3 * i)).toNatClampNeg (it (3 * i + 1)).toNatClampNeg (it (3 * i + 2)).toNatClampNeg) := ⟨ha.1.keep (fun c j hc => hf1 c j (by omega)), ha.2.1.keep (fun c j hc => hf1 c j (by omega)), hc1⟩
          rw [nI_3, show 3 * i + 3 = 3 * (i + 1) by omega]
          refine ih (i + 1) _ S1 (by omega) (by omega) ha1 (he.add c30 t.1 t.2.1 t.2.2.1) (by rw [hf1 _ _ (by omega)]; exact h3) (fun j hj => by rw [hf1 _ _ (by omega)]; exact h4 j hj) (fun S' hf' a b => hQ S' ((hf1.mono (fun c j h => Or.inl h)).tr hf') a b)
        · refine hend d S ha he (fun S' a b e => ?_)
          unfold rdn at hQ
          rw [if_neg (fun q => ht q.2.2)] at hQ
          exact hQ S' a b e
      · refine hend d S ha he (fun S' a b e => ?_)
        unfold rdn at hQ
        rw [if_neg (fun q => by omega)] at hQ
        exact hQ S' a b e
theorem m_read_lp {s n : Nat} {it : Nat → Int32} {Q : Int32 → gz_S → Prop} (hs : s < 4) (hn : n ≤ 60) : ∀ (f i : Nat) (d : dt) (S : gz_S), n < 3 * (i + f) + 3 → 3 * i ≤ n + 2 → cM S d → d_nc d ≤ 30 → S 47 s = nI n → (∀ j, j < n → S 48 (60 * s + j) = it j) → (∀ S', fr (fun c j => c = 59 ∨ (c = 45 ∧ j = 16)) S S' → cM S' (rdn it n f i d).2 → Q (nI (rdn it n f i d).1) S') → wX8_read_29 Q (f + 2) (nI s) (nI i) 1 S
  | 0, i, d, S, h1, h2, hc, hnc, h3, h4, hQ => by
    unfold wX8_read_29
    rw [pn_cl (by omega), h3, n3k, nI_3, nlt (by omega) (by omega)]
    exact ⟨fun c => absurd c n10, fun _ => ⟨pn_in hs (by decide), fun _ => hQ S fr_rf hc, fun c => by omega⟩⟩
  | f + 1, i, d, S, h1, h2, hc, hnc, h3, h4, hQ => by
    unfold wX8_read_29
    rw [pn_cl (by omega), h3, n3k, nI_3, nlt (by omega) (by omega), m60]
    refine ⟨fun c => absurd c n10, fun _ => ⟨pn_in hs (by decide), fun c => ?_, fun c v4 e4 => ?_⟩⟩
    · have q := hQ S fr_rf
      unfold rdn at q
      rw [if_neg (fun q => by omega)] at q
      exact q hc
    · rw [e4, nI_1, nI_2, pn_cl (by omega), pn_cl (by omega), pn_cl (by omega), Nat.add_assoc, Nat.add_assoc, h4 _ (by omega), h4 _ (by omega), h4 _ (by omega)]
      refine ⟨pn_in (by omega) (by decide), pn_in (by omega) (by decide), pn_in (by omega) (by decide), ?_⟩
      unfold wX8_read_94 wX8_read_105
      have stop : ∀ S', fr (fun c j => c = 59 ∨ (c = 45 ∧ j = 16)) S S' → cM S' d → ¬ (3 * i + 3 ≤ n ∧ d_nc d < 30 ∧ tld (it (3 * i)) (it (3 * i + 1)) (it (3 * i + 2))) → wX8_read_29 Q (f + 2) (nI s) (nI i + 0) 0 S' := by
        intro S' hf' hc' hno
        unfold wX8_read_29
        have q := hQ S' hf'
        unfold rdn at q
        rw [if_neg hno] at q
        rw [Int32.add_zero]
        exact ⟨fun _ => q hc', fun c => absurd rfl c⟩
      refine m_carry hc hnc (fun q => ⟨fun _ => ⟨fun _ v2 e2 => ?_, fun c => absurd rfl c⟩, fun c => absurd (by decide) c⟩) (fun q q30 => ⟨fun _ => ⟨fun _ v2 e2 => ?_, fun c => absurd rfl c⟩, fun c => absurd (by decide) c⟩) (fun ht q30 S1 hf1 hc1 => ⟨fun c => absurd c ?_, fun _ => ⟨fun c => absurd c n10, fun _ v2 e2 => ?_⟩⟩)
      · rw [e2]; exact stop S fr_rf hc (fun z => q z.2.2)
      · rw [e2]; exact stop S fr_rf hc (fun z => by omega)
      · rw [show (0 : Int32) = nI 0 from rfl, nlt (by omega) (by omega)]; omega
      · rw [e2, nI_1]
        unfold rdn at hQ
        rw [if_pos ⟨by omega, q30, ht⟩] at hQ
        exact m_read_lp hs hn f (i + 1) _ S1 (by omega) (by omega) hc1 q30 (by rw [hf1 _ _ (by omega)]; exact h3) (fun j hj => by rw [hf1 _ _ (by omega)]; exact h4 j hj) (fun S' hf' a => hQ S' (hf1.tr hf') a)
theorem p_read (x1 : Int32) : pr (wX7_read x1) (wX8_read x1) := by
  intro S F K ⟨y0, n0, y1, n1, d, hR⟩ hF hK
  have hRel : Rel S := ⟨_, _, _, _, _, hR⟩
  by_cases g1 : 0 ≤ x1 ∧ x1 ≤ 3
  · obtain ⟨s, hs, rfl⟩ := sh_x g1
    unfold wX7_read
    have hM : ∀ (S1 : gz_S) (Q : Int32 → gz_S → Prop), _ → wX8_read (nI s) S1 Q := fun S1 Q h => w_isSheet (fun _ _ => ⟨fun _ => ⟨pn_in hs (by decide), h⟩, fun c => absurd c n10⟩) (fun g => absurd g1 g)
    rw [pn_cl (by omega)] at hM ⊢
    refine x_ref hs (hR.sh hs) (fun q S1 e1 => ⟨fun c => absurd c (by decide), fun _ => hF _ (hM _ _ ?_)⟩) (fun q => ⟨fun _ => ⟨pn_in hs (by decide), fun v4 e4 => ⟨21, ?_⟩⟩, fun c => absurd rfl c⟩)
    · have q' : S1 46 s = -1 := by rw [e1, gz_st_n _ _ _ (by decide)]; exact q
      rw [q']
      exact ⟨fun c => absurd c neg1, fun _ S2 e2 => hK _ S2 (hR.fnd e1 e2)⟩
    · obtain ⟨f, n, q1, q2, q3, q4, q5, q6, q7⟩ := q
      refine x_read_lp (it := fun j => S 48 (60 * s + j)) hs q2 20 0 d S (by omega) (by omega) hR.ax hR.ae q4 q7 (fun S1 hf1 ha1 hj1 => hF _ (hM _ _ ?_))
      unfold rdP jP at hf1
      have q' : S1 46 s = nI f := by rw [hf1 _ _ (by omega)]; exact q5
      rw [q']
      refine ⟨fun _ => ⟨22, ?_⟩, fun c => absurd (nI_pos' (by omega)) c⟩
      have hm1 : AM S1 y0 n0 y1 n1 d := hR.am.keep (fun c j hc => hf1 _ _ (by omega))
      refine m_read_lp (it := fun j => S 48 (60 * s + j)) hs q2 20 0 d S1 (by omega) (by omega) hm1.2.2 hR.ae.2.2.2.2.1 (by rw [hf1 _ _ (by omega)]; exact q6) (fun j hj => by rw [hf1 _ _ (by omega)]) (fun S2 hf2 hc2 => ?_)
      have hnc := rdn_nc (fun j => S 48 (60 * s + j)) n 20 0 d
      have he2 := rdn_ae (fun j => S 48 (60 * s + j)) n 20 0 d hR.ae
      rw [e4, hR.ax.2.2.2.1, pk_sub (by omega), show d_nc (rdn (fun j => S 48 (60 * s + j)) n 20 0 d).2 - d_nc d = (rdn (fun j => S 48 (60 * s + j)) n 20 0 d).1 by omega]
      exact hK _ S2 (mkR ha1 hj1 ⟨hm1.1.keep (fun c j hc => hf2 c j (by omega)), hm1.2.1.keep (fun c j hc => hf2 c j (by omega)), hc2⟩ he2 (hR.2.2.2.keep (fun c j hc => by rw [hf2 _ _ (by omega), hf1 _ _ (by omega)])) (fun c j hc => hf2 c j (by omega)))
  · unfold wX7_read wX8_read wX7_refusalOf
    exact w_within (fun a b => absurd ⟨a, b⟩ g1) (fun _ => ⟨fun c => absurd rfl c, fun _ => ⟨fun c => absurd c (by decide), fun _ => hF _ (w_isSheet (fun a b => absurd ⟨a, b⟩ g1) (fun _ => ⟨fun c => absurd rfl c, fun _ => hK _ S hRel⟩))⟩⟩)
/-! ===== write ===== -/
def gr (a j : Nat) : Prop := (52 ≤ a ∧ a ≤ 55) ∨ (a = 45 ∧ (j = 7 ∨ j = 10))
theorem m_readsA {S : gz_S} {y0 y1 : Nat → Nat} {n0 n1 : Nat} {d : dt} {Q : gz_S → Prop} (h : AM S y0 n0 y1 n1 d) (he : AE y0 n0 y1 n1 d) (hQ : ∀ S', fr gr S S' → d_M S' d → Q S') : wX8_reads S Q := by
  obtain ⟨t0, t1, c1⟩ := h
  obtain ⟨e0, e1, -⟩ := he
  have f1 : d_np d = tsz true 8 y0 n0 := by unfold d_np; rw [e0]
  have f2 : d_st d = tfs y0 := by unfold d_st; rw [e0]
  have f3 : d_sd d = tsn true y0 := by unfold d_sd; rw [e0]
  have f4 : d_ns d = tsz false 9 y1 n1 := by unfold d_ns; rw [e1]
  have f5 : d_wt d = tfs y1 := by unfold d_wt; rw [e1]
  have f6 : d_wy d = tsn false y1 := by unfold d_wy; rw [e1]
  unfold wX8_reads
  refine m_readsPeople t0 (fun S1 hf1 a1 a2 => ?_)
  refine m_readsStones (t1.keep (fun c j h => hf1 c j (by unfold rP; omega))) (fun S2 hf2 b1 b2 => ?_)
  have hg : fr gr S S2 := (hf1.mono (fun a j h => by unfold rP at h; unfold gr; omega)).tr (hf2.mono (fun a j h => by unfold rS at h; unfold gr; omega))
  refine hQ S2 hg ⟨⟨?_, fun p hp => ?_⟩, ⟨by rw [f4]; exact b1, fun s hs => ?_⟩, c1.keep (fun c j hc => hg c j (by unfold gr; omega))⟩
  · rw [f1, hf2 _ _ (by unfold rS; omega)]; exact a1
  · rw [f1] at hp
    obtain ⟨q1, q2⟩ := txt_pairs (cap := 0) hp
    rw [f2, f3, hf2 52 _ (by unfold rS; omega), hf2 53 _ (by unfold rS; omega)]
    exact a2 q1 p q2
  · rw [f4] at hs
    obtain ⟨q1, q2⟩ := txt_pairs (cap := 0) hs
    rw [f5, f6]
    exact b2 q1 s q2
theorem both2 {S : gz_S} {y0 y1 : Nat → Nat} {n0 n1 : Nat} {d : dt} (h : Rd S y0 n0 y1 n1 d) : ∃ (td : Nat → Int32) (ar : Nat → Nat), XS S d td ar ∧ ∀ S', (∀ j, S' 57 j = S 57 j) → (∀ j, S' 58 j = S 58 j) → d_M S' d → MS S' d td ar := by
  obtain ⟨td, ar, hX, -⟩ := h.both
  obtain ⟨o1, o2, o3, o4⟩ := h.2.2.2
  refine ⟨td, ar, hX, fun S' h7 h8 hM => ⟨hX.1, hM, fun t ht => ?_, fun p hp => ?_⟩⟩
  · rw [h7, ← (o1 t ht).1]; exact hX.2.2.2.1 t ht
  · rw [h8, ← (o2 p hp).1]; exact hX.2.2.2.2 p hp
theorem XS.keep2 {S S' : gz_S} {d : dt} {td : Nat → Int32} {ar : Nat → Nat} (h : XS S d td ar) (hf : ∀ a j, a < 16 ∨ (a = 16 ∧ j = 6) ∨ (17 ≤ a ∧ a ≤ 20) → S' a j = S a j) : XS S' d td ar := by
  obtain ⟨h1, h2, h3, h4, h5⟩ := h
  refine ⟨h1, h2.low (fun a j h => hf a j (by omega)), h3.keep (fun a j h => hf a j (by omega)), fun h hh => ?_, fun p hp => ?_⟩
  · rw [hf _ _ (by omega)]; exact h4 h hh
  · rw [hf _ _ (by omega)]; exact h5 p hp
theorem MS.keep2 {S S' : gz_S} {d : dt} {td : Nat → Int32} {ar : Nat → Nat} (h : MS S d td ar) (hf : ∀ a j, (a = 45 ∧ (j = 7 ∨ j = 10 ∨ j = 16)) ∨ (52 ≤ a ∧ a ≤ 59) → S' a j = S a j) : MS S' d td ar := by
  obtain ⟨h1, h2, h4, h5⟩ := h
  refine ⟨h1, h2.keep (fun a j h => hf a j (by omega)), fun h hh => ?_, fun p hp => ?_⟩
  · rw [hf _ _ (by omega)]; exact h4 h hh
  · rw [hf _ _ (by omega)]; exact h5 p hp
theorem x_write_lp {d : dt} {td : Nat → Int32} {ar : Nat → Nat} {s f n : Nat} {Q : Int32 → gz_S → Prop} (hs : s < 4) (hf : f ≤ 2) (hn : n ≤ 25) : ∀ (m h : Nat) (S : gz_S), h + m = n → XS S d td ar → S (37 + 2 * s) 1 = nI f → (∀ S', fr (fun c j => gX c j ∨ c = 37 + 2 * s + 1) S S' → (∀ k, h ≤ k → k < n → S' (37 + 2 * s + 1) k = cutv f (tp d td k)) → (∀ k, k < h ∨ n ≤ k → S' (37 + 2 * s + 1) k = S (37 + 2 * s + 1) k) → Q (nI n) S') → wX7_write_37 Q (m + 1) (nI s) (nI n) (nI h) S
  | 0, h, S, h1, hS, h2, hQ => by
    obtain rfl : h = n := by omega
    unfold wX7_write_37
    exact ⟨fun _ => hQ S fr_rf (fun k _ _ => by omega) (fun k _ => rfl), fun c => absurd (nI_le (Nat.le_refl _) (by omega)) c⟩
  | m + 1, h, S, h1, hS, h2, hQ => by
    unfold wX7_write_37
    rw [nle (by omega) (by omega), pn_cl (by omega), nI_1]
    refine ⟨fun c => by omega, fun _ => ⟨pn_in hs (by decide), hS.tip (by omega) (fun S1 hf1 _ _ => x_put5 hf (by omega) (by rw [hf1 _ _ (by unfold gX; omega)]; exact h2) (fun S2 e2 => ?_))⟩⟩
    have f2 : fr (fun c j => c = 37 + 2 * s + 1 ∧ j = h) S1 S2 := by rw [e2]; exact fr_st ⟨rfl, rfl⟩
    refine x_write_lp hs hf hn m (h + 1) S2 (by omega) ((hS.keep hf1).keep2 (fun a j ha => f2 a j (by omega))) (by rw [f2 _ _ (by omega), hf1 _ _ (by unfold gX; omega)]; exact h2) (fun S' hf' b1 b2 => hQ S' ?_ (fun k k1 k2 => ?_) (fun k hk => ?_))
    · exact ((hf1.mono (fun c j hc => Or.inl hc)).tr (f2.mono (fun c j hc => Or.inr hc.1))).tr hf'
    · by_cases q : k = h
      · subst q
        rw [b2 k (by omega), e2, gz_st_v]
      · exact b1 k (by omega) k2
    · rw [b2 k (by omega), f2 _ _ (by omega), hf1 _ _ (by unfold gX; omega)]
theorem m_write_lp {d : dt} {td : Nat → Int32} {ar : Nat → Nat} {s f n : Nat} {Q : Int32 → gz_S → Prop} (hs : s < 4) (hf : f ≤ 2) (hn : n ≤ 25) : ∀ (m h : Nat) (S : gz_S), h + m = n → MS S d td ar → S 46 s = nI f → (∀ S', fr (fun c j => gM c j ∨ (c = 48 ∧ 60 * s ≤ j ∧ j < 60 * s + 60)) S S' → (∀ k, h ≤ k → k < n → S' 48 (60 * s + k) = cutv f (tp d td k)) → (∀ k, k < h ∨ n ≤ k → S' 48 (60 * s + k) = S 48 (60 * s + k)) → Q (nI n) S') → wX8_write_62 Q (m + 1) (nI s) (nI n) (nI h) S
  | 0, h, S, h1, hS, h2, hQ => by
    obtain rfl : h = n := by omega
    unfold wX8_write_62
    exact ⟨fun _ => hQ S fr_rf (fun k _ _ => by omega) (fun k _ => rfl), fun c => absurd (nI_le (Nat.le_refl _) (by omega)) c⟩
  | m + 1, h, S, h1, hS, h2, hQ => by
    unfold wX8_write_62
    rw [nle (by omega) (by omega), pn_cl (by omega), nI_1, h2, m60, pn_cl (by omega)]
    refine ⟨fun c => by omega, fun _ => ⟨pn_in hs (by decide), hS.tip (by omega) (fun S1 hf1 _ _ => m_cut hf ⟨pn_in (by omega) (by decide), fun S2 e2 => ?_⟩)⟩⟩
    have f2 : fr (fun c j => c = 48 ∧ j = 60 * s + h) S1 S2 := by rw [e2]; exact fr_st ⟨rfl, rfl⟩
    refine m_write_lp hs hf hn m (h + 1) S2 (by omega) ((hS.keep hf1).keep2 (fun a j ha => f2 a j (by omega))) (by rw [f2 _ _ (by omega), hf1 _ _ (by unfold gM; omega)]; exact h2) (fun S' hf' b1 b2 => hQ S' ?_ (fun k k1 k2 => ?_) (fun k hk => ?_))
    · exact ((hf1.mono (fun c j hc => Or.inl hc)).tr (f2.mono (fun c j hc => Or.inr (by omega)))).tr hf'
    · by_cases q : k = h
      · subst q
        rw [b2 k (by omega), e2, gz_st_v]
      · exact b1 k (by omega) k2
    · rw [b2 k (by omega), f2 _ _ (by omega), hf1 _ _ (by unfold gM; omega)]
theorem min_n {a b : Nat} (ha : a < 2147483648) (hb : b < 2147483648) : gz_min (nI a) (nI b) = nI (if b < a then b else a) := by
  unfold gz_min
  by_cases c : b < a
  · rw [if_pos ((nlt hb ha).mpr c), if_pos c]
  · rw [if_neg (fun q => c ((nlt hb ha).mp q)), if_neg c]
theorem max_n {a b : Nat} (ha : a < 2147483648) (hb : b < 2147483648) : gz_max (nI a) (nI b) = nI (if a < b then b else a) := by
  unfold gz_max
  by_cases c : a < b
  · rw [if_pos ((nlt ha hb).mpr c), if_pos c]
  · rw [if_neg (fun q => c ((nlt ha hb).mp q)), if_neg c]
theorem shs2 {S S' : gz_S} {y0 y1 : Nat → Nat} {n0 n1 : Nat} {d : dt} (h : Rd S y0 n0 y1 n1 d) (hf : ∀ a j, ¬ gq a j → ¬ shP a j → S' a j = S a j) (h3 : ∀ s, s < 4 → shR S' s) (h4 : S' 0 7 = S' 45 4) : Rel S' := by
  obtain ⟨o1, o2, -, -⟩ := h.2.2.2
  refine ⟨y0, n0, y1, n1, d, h.1.keep (fun c j hc => hf c j (by unfold gq; omega) (by unfold shP; omega)), h.2.1.keep (fun c j hc => hf c j (by unfold gq; omega) (by unfold shP; omega)), h.2.2.1.keep (fun c j hc => hf c j (by unfold gq; omega) (by unfold shP; omega)), fun t ht => ?_, fun p hp => ?_, h3, h4⟩
  · rw [hf _ _ (by unfold gq; omega) (by unfold shP; omega), hf 57 _ (by unfold gq; omega) (by unfold shP; omega)]; exact o1 t ht
  · rw [hf 11 _ (by unfold gq; omega) (by unfold shP; omega), hf 58 _ (by unfold gq; omega) (by unfold shP; omega)]; exact o2 p hp
theorem p_write (x1 : Int32) : pr (wX7_write x1) (wX8_write x1) := by
  intro S F K ⟨y0, n0, y1, n1, d, hR⟩ hF hK
  have hRel : Rel S := ⟨_, _, _, _, _, hR⟩
  by_cases g1 : 0 ≤ x1 ∧ x1 ≤ 3
  · obtain ⟨s, hs, rfl⟩ := sh_x g1
    unfold wX7_write
    have hM : ∀ (S1 : gz_S) (Q : Int32 → gz_S → Prop), _ → wX8_write (nI s) S1 Q := fun S1 Q h => w_isSheet (fun _ _ => ⟨fun _ => ⟨pn_in hs (by decide), h⟩, fun c => absurd c n10⟩) (fun g => absurd g1 g)
    rw [pn_cl (by omega)] at hM ⊢
    refine x_ref hs (hR.sh hs) (fun q S1 e1 => ⟨fun c => absurd c (by decide), fun _ => hF _ (hM _ _ ?_)⟩) (fun q => ⟨fun _ => ⟨pn_in hs (by decide), fun v3 e3 => ?_⟩, fun c => absurd rfl c⟩)
    · have q' : S1 46 s = -1 := by rw [e1, gz_st_n _ _ _ (by decide)]; exact q
      rw [q']
      exact ⟨fun c => absurd c neg1, fun _ S2 e2 => hK _ S2 (hR.fnd e1 e2)⟩
    · obtain ⟨f, n, q1, q2, q3, q4, q5, q6, q7⟩ := q
      obtain ⟨td, ar, hX, hMS⟩ := both2 hR
      have hhr := hX.1.2.2.2.1
      have ev : v3 = nI (if d_hr d + 1 ≤ n then d_hr d + 1 else n) := by
        rw [e3, q4, hR.ax.2.2.1.1, nI_1]
        rw [min_n (by omega) (by omega)]
        congr 1
        split <;> split <;> omega
      generalize hk : (if d_hr d + 1 ≤ n then d_hr d + 1 else n) = k at ev
      have hk25 : k ≤ 25 ∧ k ≤ n := by rw [← hk]; split <;> omega
      rw [ev]
      refine ⟨k + 1, x_write_lp hs q1 hk25.1 k 0 S (by omega) hX q3 (fun S1 hf1 b1 b2 => hF _ (hM _ _ ?_))⟩
      unfold gX at hf1
      have q' : S1 46 s = nI f := by rw [hf1 _ _ (by omega)]; exact q5
      rw [q']
      refine ⟨fun _ => ?_, fun c => absurd (nI_pos' (by omega)) c⟩
      have hm1 : AM S1 y0 n0 y1 n1 d := hR.am.keep (fun c j hc => hf1 _ _ (by omega))
      refine m_readsA hm1 hR.ae (fun S2 hf2 hM2 => ⟨pn_in hs (by decide), ?_⟩)
      unfold gr at hf2
      have hS2 : MS S2 d td ar := hMS S2 (fun j => by rw [hf2 _ _ (by omega), hf1 _ _ (by omega)]) (fun j => by rw [hf2 _ _ (by omega), hf1 _ _ (by omega)]) hM2
      have a46 : S2 46 s = nI f := by rw [hf2 _ _ (by omega)]; exact q'
      have a47 : S2 47 s = nI n := by rw [hf2 _ _ (by omega), hf1 _ _ (by omega)]; exact q6
      refine hS2.end_ ?_
      rw [nI_1, a47, nle (by omega) (by omega)]
      have fin : ∃ m62, wX8_write_62 (fun r2 S2 => K (nI k) r2 S2) m62 (nI s) (nI k) 0 S2 := by
        refine ⟨k + 1, m_write_lp hs q1 hk25.1 k 0 S2 (by omega) hS2 a46 (fun S3 hf3 c1 c2 => hK _ S3 ?_)⟩
        unfold gM at hf3
        refine shs2 hR (fun c j hc1 hc2 => ?_) (fun t ht => ?_) ?_
        · unfold gq at hc1
          unfold shP at hc2
          rw [hf3 _ _ (by omega), hf2 _ _ (by omega), hf1 _ _ (by omega)]
        · by_cases q : t = s
          · subst q
            refine Or.inr ⟨f, n, q1, q2, ?_, ?_, ?_, ?_, fun i hi => ?_⟩
            · rw [hf3 _ _ (by omega), hf2 _ _ (by omega), hf1 _ _ (by omega)]; exact q3
            · rw [hf3 _ _ (by omega), hf2 _ _ (by omega), hf1 _ _ (by omega)]; exact q4
            · rw [hf3 _ _ (by omega)]; exact a46
            · rw [hf3 _ _ (by omega)]; exact a47
            · by_cases qi : i < k
              · rw [c1 i (by omega) qi, hf3 _ _ (by omega), hf2 _ _ (by omega)]
                exact b1 i (by omega) qi
              · rw [c2 i (by omega), hf3 _ _ (by omega), hf2 _ _ (by omega), b2 i (by omega), hf2 _ _ (by omega), hf1 _ _ (by omega)]
                exact q7 i hi
          · refine (hR.sh ht).keep (fun c j hc => ?_)
            rw [hf3 _ _ (by omega), hf2 _ _ (by omega), hf1 _ _ (by omega)]
        · rw [hf3 0 _ (by omega), hf2 0 _ (by omega), hf1 0 _ (by omega), hf3 45 _ (by omega), hf2 45 _ (by omega), hf1 45 _ (by omega)]
          exact hR.2.2.2.2.2.2
      unfold wX8_write_59
      refine ⟨fun c => hS2.end_ ?_, fun c => ⟨pn_in hs (by decide), ?_⟩⟩
      · rw [nI_1, show d_hr d + 1 = k by rw [← hk, if_pos c]]
        exact fin
      · rw [show n = k by rw [← hk, if_neg c]]
        exact fin
  · unfold wX7_write wX8_write wX7_refusalOf
    exact w_within (fun a b => absurd ⟨a, b⟩ g1) (fun _ => ⟨fun c => absurd rfl c, fun _ => ⟨fun c => absurd c (by decide), fun _ => hF _ (w_isSheet (fun a b => absurd ⟨a, b⟩ g1) (fun _ => ⟨fun c => absurd rfl c, fun _ => hK _ S hRel⟩))⟩⟩)
