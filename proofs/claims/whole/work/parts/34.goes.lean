/-- how many of the first k are against the law, and the first of them -/
def ag (d : dt) (sk : Nat → Bool) : Nat → Nat
  | 0 => 0
  | k + 1 => if sk k = false ∧ jl d sk k = none then ag d sk k + 1 else ag d sk k
def fg (d : dt) (sk : Nat → Bool) : Nat → Option Nat
  | 0 => none
  | k + 1 => if sk k = false ∧ jl d sk k = none ∧ fg d sk k = none then some k else fg d sk k
theorem ag_le (d : dt) (sk : Nat → Bool) : ∀ k, ag d sk k ≤ k
  | 0 => Nat.le_refl _
  | k + 1 => by
    have := ag_le d sk k
    unfold ag
    split <;> omega
theorem fg_lt (d : dt) (sk : Nat → Bool) : ∀ k j, fg d sk k = some j → j < k
  | 0, j, h => by cases h
  | k + 1, j, h => by
    unfold fg at h
    split at h
    · cases h; omega
    · have := fg_lt d sk k j h; omega
def jM (S : gz_S) (d : dt) (sk : Nat → Bool) (k : Nat) : Prop := (∀ j, j < k → S 60 j = oI (jl d sk j)) ∧ (∀ t, t < 9 → S 62 t = oI ((js d sk k).2 t)) ∧ (∀ p, p < 8 → S 61 p = nI ((js d sk k).1 p)) ∧ S 45 21 = nI (ag d sk k) ∧ S 45 22 = oI (fg d sk k)
def gP (a j : Nat) : Prop := a = 60 ∨ a = 61 ∨ a = 62 ∨ (a = 45 ∧ (j = 21 ∨ j = 22))
theorem d_M.keep {S S' : gz_S} {d : dt} (h : d_M S d) (hs : ∀ a j, (a = 45 ∧ (j = 7 ∨ j = 10 ∨ j = 16)) ∨ (52 ≤ a ∧ a ≤ 56) ∨ a = 59 → S' a j = S a j) : d_M S' d := by
  obtain ⟨⟨x1, x2⟩, ⟨x3, x4⟩, ⟨x5, x6⟩, x7, x8⟩ := h
  refine ⟨⟨?_, fun p hp => ⟨?_, ?_⟩⟩, ⟨?_, fun s hs2 => ⟨?_, ?_⟩⟩, ⟨?_, ?_⟩, ?_, fun k hk => ⟨?_, ?_, ?_⟩⟩
  · rw [hs _ _ (by omega)]; exact x1
  · rw [hs _ _ (by omega)]; exact (x2 p hp).1
  · rw [hs _ _ (by omega)]; exact (x2 p hp).2
  · rw [hs _ _ (by omega)]; exact x3
  · rw [hs _ _ (by omega)]; exact (x4 s hs2).1
  · rw [hs _ _ (by omega)]; exact (x4 s hs2).2
  · rw [hs _ _ (by omega)]; exact x5
  · rw [hs _ _ (by omega)]; exact x6
  · rw [hs _ _ (by omega)]; exact x7
  · rw [hs _ _ (by omega)]; exact (x8 k hk).1
  · rw [hs _ _ (by omega)]; exact (x8 k hk).2.1
  · rw [hs _ _ (by omega)]; exact (x8 k hk).2.2
theorem d_M.goes {S S' : gz_S} {d : dt} (h : d_M S d) (hf : fr gP S S') : d_M S' d := h.keep (fun a j h2 => hf a j (by unfold gP; omega))
theorem n3k (k : Nat) : (3 : Int32) * nI k = nI (3 * k) := pk_mul 3 k
theorem nI_2 (k : Nat) : nI k + 2 = nI (k + 2) := nI_add k 2
theorem nI_3 (k : Nat) : nI k + 3 = nI (k + 3) := nI_add k 3
theorem cl0 : (0 : Int32).toNatClampNeg = 0 := by decide
theorem cl1 : (1 : Int32).toNatClampNeg = 1 := by decide
theorem in02 : vp_in (0 : Int32) 2 := pn_in (j := 0) (by decide) (by decide)
theorem in12 : vp_in (1 : Int32) 2 := pn_in (j := 1) (by decide) (by decide)
theorem m_may {d : dt} {k : Nat} {S : gz_S} {s : (Nat → Nat) × (Nat → Option Nat)} {Q : Int32 → gz_S → Prop} (hd : d_ok d) (hM : d_M S d) (hk : k < d_nc d) (h2 : ∀ t, t < 9 → S 62 t = oI (s.2 t)) (h3 : ∀ p, p < 8 → S 61 p = nI (s.1 p)) (hb : ∀ t p, s.2 t = some p → p < 2147483648) (hl : ∀ p, s.1 p ≤ 24)
    (h1 : ∀ t, jh d (fun _ => false) s k = some t → Q 1 S) (h0 : jh d (fun _ => false) s k = none → Q 0 S) : wX8_mayCarry (nI (d_cp d k)) (nI (d_cs d k)) S Q := by
  obtain ⟨⟨x1, x2⟩, ⟨x3, x4⟩, ⟨x5, x6⟩, x7, x8⟩ := id hM
  obtain ⟨⟨o1, o2⟩, o3, o4, o5, o6, o7, o8⟩ := id hd
  obtain ⟨b1, b2, b3⟩ := o8 k hk
  have hN : ¬ ((fun _ : Nat => false) k = false ∧ d_cp d k < d_np d ∧ d_cs d k < d_ns d ∧ s.2 (d_cs d k) = none ∧ d_wt d (d_cs d k) ≤ d_st d (d_cp d k) ∧ s.1 (d_cp d k) + d_wy d (d_cs d k) + 1 ≤ d_hr d) → Q 0 S := fun h => h0 (if_neg h)
  unfold wX8_mayCarry
  rw [pn_cl (by omega), pn_cl (by omega), cl0, x1, x3, x5, h2 _ b2, h3 _ b1]
  refine ⟨fun c => hN (fun h => ?_), fun c => ⟨fun c2 => hN (fun h => ?_), fun c2 => ⟨pn_in b2 (by decide), fun c3 => hN (fun h => ?_), fun c3 => ?_⟩⟩⟩
  · rw [nle (by omega) (by omega)] at c; omega
  · rw [nle (by omega) (by omega)] at c2; omega
  · apply c3; rw [h.2.2.2.1]; rfl
  · rw [nle (by omega) (by omega)] at c c2
    have hp : d_cp d k < d_np d := by omega
    have hs : d_cs d k < d_ns d := by omega
    rw [oI_m1 (hb _)] at c3
    obtain ⟨w1, w2, w3⟩ := o4 _ hs
    obtain ⟨w4, w5, w6⟩ := o3 _ hp
    have hl1 := hl (d_cp d k)
    rw [(x2 _ hp).1, (x4 _ hs).1, (x4 _ hs).2, nI_add, nI_1]
    refine ⟨pn_in b2 (by decide), pn_in b1 (by decide), fun c4 => hN (fun h => ?_), fun c4 => ⟨pn_in b1 (by decide), pn_in b2 (by decide), in02, fun c5 => hN (fun h => ?_), fun c5 => h1 (s.1 (d_cp d k) + d_wy d (d_cs d k) + 1) (if_pos ⟨rfl, hp, hs, c3, ?_, ?_⟩)⟩⟩
    · rw [nlt (by omega) (by omega)] at c4; omega
    · rw [nlt (by omega) (by omega)] at c5; omega
    · rw [nlt (by omega) (by omega)] at c4; omega
    · rw [nlt (by omega) (by omega)] at c5; omega
theorem m_goes_lp {d : dt} {x1 : Int32} {S0 : gz_S} {Q : gz_S → Prop} (hd : d_ok d) (hM0 : d_M S0 d) (hQ : ∀ S', fr gP S0 S' → jM S' d (fun k => decide (nI k = x1)) (d_nc d) → Q S') :
    ∀ (m k : Nat) (S : gz_S), k + m = d_nc d → fr gP S0 S → jM S d (fun k => decide (nI k = x1)) k → wX8_goes_54 Q (m + 1) x1 (nI k) S := by
  have hnc := hd.2.2.2.2.2.1
  intro m
  induction m with
  | zero =>
    intro k S hk hfr hJ
    obtain rfl : k = d_nc d := by omega
    unfold wX8_goes_54
    refine ⟨fun _ => hQ S hfr hJ, fun c => absurd ?_ c⟩
    rw [(hM0.goes hfr).2.2.2.1]
    exact nI_le (Nat.le_refl _) (by omega)
  | succ m ih =>
    intro k S hk hfr hJ
    have hMS := hM0.goes hfr
    obtain ⟨j1, j2, j3, j4, j5⟩ := id hJ
    obtain ⟨b1, b2, b3⟩ := hd.2.2.2.2.2.2 k (by omega)
    obtain ⟨c1, c2, c3⟩ := hMS.2.2.2.2 k (by omega)
    unfold wX8_goes_54
    refine ⟨fun c => ?_, fun _ => ?_⟩
    · exfalso
      rw [hMS.2.2.2.1, nle (by omega) (by omega)] at c
      omega
    · rw [n3k, nI_1, pn_cl (by omega), pn_cl (by omega), pn_cl (by omega), c1, c2]
      refine ⟨pn_in (by omega) (by decide), fun v3 e3 => ⟨pn_in (by omega) (by decide), fun v4 e4 => ⟨pn_in (by omega) (by decide), fun S1 e1 => ?_⟩⟩⟩
      rw [e3, e4]
      have hfr1 : fr gP S0 S1 := hfr.tr (by rw [e1]; exact fr_st (Or.inl rfl))
      have hM1 := hM0.goes hfr1
      have hn1 : ∀ a j, a ≠ 60 → S1 a j = S a j := fun a j h => by rw [e1, gz_st_n _ _ _ h]
      have k2 : ∀ t, t < 9 → S1 62 t = oI ((js d (fun k => decide (nI k = x1)) k).2 t) := fun t ht => by rw [hn1 _ _ (by decide)]; exact j2 t ht
      have k3 : ∀ p, p < 8 → S1 61 p = nI ((js d (fun k => decide (nI k = x1)) k).1 p) := fun p hp => by rw [hn1 _ _ (by decide)]; exact j3 p hp
      have k1 : ∀ j, j < k → S1 60 j = oI (jl d (fun k => decide (nI k = x1)) j) := fun j hj => by rw [e1, gz_st_o _ _ _ (by omega)]; exact j1 j hj
      have kk : S1 60 k = -1 := by rw [e1, gz_st_v]
      have hag := ag_le d (fun k => decide (nI k = x1)) k
      -- against the law, or left out
      have hno : jl d (fun k => decide (nI k = x1)) k = none → wX8_goes_146 (fun y0 y1 S => wX8_goes_54 Q (m + 1) y0 y1 S) Q x1 (nI k) S1 := by
        intro hl
        have base : ∀ S2, fr (fun a j => a = 45 ∧ (j = 21 ∨ j = 22)) S1 S2 → S2 45 21 = nI (ag d (fun k => decide (nI k = x1)) (k + 1)) → S2 45 22 = oI (fg d (fun k => decide (nI k = x1)) (k + 1)) → wX8_goes_54 Q (m + 1) x1 (nI (k + 1)) S2 := by
          intro S2 hf2 q1 q2
          refine ih (k + 1) S2 (by omega) (hfr1.tr (hf2.mono (fun a j h => Or.inr (Or.inr (Or.inr h))))) ⟨fun j hj => ?_, fun t ht => ?_, fun p hp => ?_, q1, q2⟩
          · rw [hf2 _ _ (by omega)]
            by_cases e : j = k
            · subst e; rw [kk, hl]; rfl
            · exact k1 j (by omega)
          · rw [hf2 _ _ (by omega), js_none hl]; exact k2 t ht
          · rw [hf2 _ _ (by omega), js_none hl]; exact k3 p hp
        unfold wX8_goes_146
        refine ⟨fun c => ?_, fun c S2 e2 => ?_⟩
        · unfold wX8_goes_181
          rw [nI_1]
          refine base S1 fr_rf ?_ ?_
          · rw [hn1 _ _ (by decide), j4]
            conv => rhs; unfold ag
            rw [if_neg (fun h => by simp [c] at h)]
          · rw [hn1 _ _ (by decide), j5]
            conv => rhs; unfold fg
            rw [if_neg (fun h => by simp [c] at h)]
        · have q21 : S2 45 21 = nI (ag d (fun k => decide (nI k = x1)) (k + 1)) := by
            rw [e2, gz_st_v, hn1 _ _ (by decide), j4, nI_1]
            conv => rhs; unfold ag
            rw [if_pos ⟨by simpa using c, hl⟩]
          have q22 : S2 45 22 = oI (fg d (fun k => decide (nI k = x1)) k) := by
            rw [e2, gz_st_o _ _ _ (by decide), hn1 _ _ (by decide), j5]
          have hlt : ∀ n, fg d (fun k => decide (nI k = x1)) k = some n → n < 2147483648 := fun n h => by have := fg_lt _ _ _ _ h; omega
          rw [q22, oI_m1 hlt]
          have hend : ∀ v, v = oI (fg d (fun k => decide (nI k = x1)) (k + 1)) → wX8_goes_178 (fun y0 y1 S => wX8_goes_54 Q (m + 1) y0 y1 S) Q x1 (nI k) v S2 := by
            intro v hv
            unfold wX8_goes_178
            intro S3 e4
            unfold wX8_goes_181
            rw [nI_1]
            refine base S3 ?_ ?_ ?_
            · refine fr.tr (S1 := S2) ?_ ?_
              · rw [e2]; exact fr_st ⟨rfl, Or.inl rfl⟩
              · rw [e4]; exact fr_st ⟨rfl, Or.inr rfl⟩
            · rw [e4, gz_st_o _ _ _ (by decide)]; exact q21
            · rw [e4, gz_st_v]; exact hv
          refine ⟨fun g => hend _ ?_, fun g => hend _ ?_⟩
          · conv => rhs; unfold fg
            rw [if_neg (fun h => g h.2.2)]
          · conv => rhs; unfold fg
            rw [if_pos ⟨by simpa using c, hl, g⟩]
            rfl
      refine ⟨fun c => hno ?_, fun c => ?_⟩
      · unfold jl jh
        rw [if_neg]
        intro h
        have h1 := h.1
        simp [c] at h1
      · have hsk : (fun k => decide (nI k = x1)) k = false := by simpa using c
        refine m_may hd hM1 (by omega) k2 k3 (fun t p h => js_num hd (by omega) h) (fun p => Nat.le_trans (js_last k p) hd.2.2.2.1.2) (fun t ht => ⟨fun c2 => absurd c2 n10, fun _ => ?_⟩) (fun hn => ⟨fun _ => hno ?_, fun c2 => absurd rfl c2⟩)
        · have hl : jl d (fun k => decide (nI k = x1)) k = some t := by
            unfold jl
            rw [jh_sk hsk]
            exact ht
          have hli := jl_iff.mp hl
          have hs := hli.1.2.2.1
          have ht2 := jl_hr hl
          have hhr := hd.2.2.2.1.2
          rw [pn_cl (by omega), pn_cl (by omega)]
          refine ⟨pn_in b1 (by decide), pn_in b2 (by decide), pn_in b1 (by decide), fun S2 e2 => ⟨pn_in b2 (by decide), fun S3 e3 => ⟨pn_in b1 (by decide), pn_in (by omega) (by decide), fun S4 e4 => ?_⟩⟩⟩
          have q1 : S2 61 (d_cp d k) = nI t := by
            rw [e2, gz_st_v, k3 _ b1, (hM1.2.1.2 _ hs).2, nI_1, nI_add, hli.2]
            rfl
          have q2 : S3 61 (d_cp d k) = nI t := by rw [e3, gz_st_n _ _ _ (by decide)]; exact q1
          unfold wX8_goes_181
          rw [nI_1]
          refine ih (k + 1) S4 (by omega) ?_ ⟨fun j hj => ?_, fun s hs2 => ?_, fun p hp => ?_, ?_, ?_⟩
          · refine hfr1.tr (fr.tr (S1 := S2) ?_ (fr.tr (S1 := S3) ?_ ?_))
            · rw [e2]; exact fr_st (Or.inr (Or.inl rfl))
            · rw [e3]; exact fr_st (Or.inr (Or.inr (Or.inl rfl)))
            · rw [e4]; exact fr_st (Or.inl rfl)
          · by_cases e : j = k
            · subst e
              rw [e4, gz_st_v, q2, hl]; rfl
            · rw [e4, gz_st_o _ _ _ e, e3, gz_st_n _ _ _ (by decide), e2, gz_st_n _ _ _ (by decide)]
              exact k1 j (by omega)
          · rw [e4, gz_st_n _ _ _ (by decide), e3, js_some hl]
            show _ = oI (if s = d_cs d k then some (d_cp d k) else (js d _ k).2 s)
            by_cases e : s = d_cs d k
            · subst e; rw [if_pos rfl, gz_st_v]; rfl
            · rw [if_neg e, gz_st_o _ _ _ e, e2, gz_st_n _ _ _ (by decide)]; exact k2 s hs2
          · rw [e4, gz_st_n _ _ _ (by decide), e3, gz_st_n _ _ _ (by decide), js_some hl]
            show _ = nI (if p = d_cp d k then t else (js d _ k).1 p)
            by_cases e : p = d_cp d k
            · subst e; rw [if_pos rfl]; exact q1
            · rw [if_neg e, e2, gz_st_o _ _ _ e]; exact k3 p hp
          · rw [e4, gz_st_n _ _ _ (by decide), e3, gz_st_n _ _ _ (by decide), e2, gz_st_n _ _ _ (by decide), hn1 _ _ (by decide), j4]
            conv => rhs; unfold ag
            rw [if_neg (fun h => by rw [hl] at h; cases h.2)]
          · rw [e4, gz_st_n _ _ _ (by decide), e3, gz_st_n _ _ _ (by decide), e2, gz_st_n _ _ _ (by decide), hn1 _ _ (by decide), j5]
            conv => rhs; unfold fg
            rw [if_neg (fun h => by rw [hl] at h; cases h.2.1)]
        · unfold jl
          rw [jh_sk hsk]
          exact hn
theorem m_goes {d : dt} {x1 : Int32} {S : gz_S} {Q : gz_S → Prop} (hd : d_ok d) (hM : d_M S d) (hQ : ∀ S', fr gP S S' → jM S' d (fun k => decide (nI k = x1)) (d_nc d) → Q S') : wX8_goes x1 S Q := by
  have hnc := hd.2.2.2.2.2.1
  -- the stones
  have l33 : ∀ (m i : Nat) (S1 : gz_S), i + m = 9 → fr gP S S1 → (∀ p, p < 8 → S1 61 p = 0) → (∀ t, t < i → S1 62 t = -1) → S1 45 21 = 0 → S1 45 22 = -1 → wX8_goes_33 Q (m + 1) x1 (nI i) S1 := by
    intro m
    induction m with
    | zero =>
      intro i S1 hi hfr h61 h62 h21 h22
      obtain rfl : i = 9 := by omega
      unfold wX8_goes_33
      refine ⟨fun _ => ⟨d_nc d + 1, m_goes_lp hd hM hQ (d_nc d) 0 S1 (by omega) hfr ⟨fun j hj => by omega, fun t ht => ?_, fun p hp => ?_, ?_, ?_⟩⟩, fun c => absurd (by decide) c⟩
      · rw [h62 t ht]; rfl
      · rw [h61 p hp]; rfl
      · rw [h21]; rfl
      · rw [h22]; rfl
    | succ m ih =>
      intro i S1 hi hfr h61 h62 h21 h22
      unfold wX8_goes_33
      refine ⟨fun c => ?_, fun _ => ⟨pn_in (by omega) (by decide), fun S2 e2 => ?_⟩⟩
      · exfalso
        have c' : nI 9 ≤ nI i := c
        rw [nle (by omega) (by omega)] at c'
        omega
      · rw [pn_cl (by omega)] at e2
        rw [nI_1]
        refine ih (i + 1) S2 (by omega) (hfr.tr (by rw [e2]; exact fr_st (Or.inr (Or.inr (Or.inl rfl))))) (fun p hp => ?_) (fun t ht => ?_) ?_ ?_
        · rw [e2, gz_st_n _ _ _ (by decide)]; exact h61 p hp
        · by_cases e : t = i
          · subst e; rw [e2, gz_st_v]
          · rw [e2, gz_st_o _ _ _ e]; exact h62 t (by omega)
        · rw [e2, gz_st_n _ _ _ (by decide)]; exact h21
        · rw [e2, gz_st_n _ _ _ (by decide)]; exact h22
  have l12 : ∀ (m i : Nat) (S1 : gz_S), i + m = 8 → fr gP S S1 → (∀ p, p < i → S1 61 p = 0) → S1 45 21 = 0 → S1 45 22 = -1 → wX8_goes_12 Q (m + 1) x1 (nI i) S1 := by
    intro m
    induction m with
    | zero =>
      intro i S1 hi hfr h61 h21 h22
      obtain rfl : i = 8 := by omega
      unfold wX8_goes_12
      exact ⟨fun _ => ⟨10, l33 9 0 S1 (by omega) hfr h61 (fun t ht => by omega) h21 h22⟩, fun c => absurd (by decide) c⟩
    | succ m ih =>
      intro i S1 hi hfr h61 h21 h22
      unfold wX8_goes_12
      refine ⟨fun c => ?_, fun _ => ⟨pn_in (by omega) (by decide), fun S2 e2 => ?_⟩⟩
      · exfalso
        have c' : nI 8 ≤ nI i := c
        rw [nle (by omega) (by omega)] at c'
        omega
      · rw [pn_cl (by omega)] at e2
        rw [nI_1]
        refine ih (i + 1) S2 (by omega) (hfr.tr (by rw [e2]; exact fr_st (Or.inr (Or.inl rfl)))) (fun p hp => ?_) ?_ ?_
        · by_cases e : p = i
          · subst e; rw [e2, gz_st_v]
          · rw [e2, gz_st_o _ _ _ e]; exact h61 p (by omega)
        · rw [e2, gz_st_n _ _ _ (by decide)]; exact h21
        · rw [e2, gz_st_n _ _ _ (by decide)]; exact h22
  unfold wX8_goes
  intro S2 e2 S7 e7
  refine ⟨9, l12 8 0 S7 (by omega) (fr.tr (S1 := S2) ?_ ?_) (fun p hp => by omega) ?_ ?_⟩
  · rw [e2]; exact fr_st (Or.inr (Or.inr (Or.inr ⟨rfl, Or.inl rfl⟩)))
  · rw [e7]; exact fr_st (Or.inr (Or.inr (Or.inr ⟨rfl, Or.inr rfl⟩)))
  · rw [e7, gz_st_o _ _ _ (by decide), e2, gz_st_v]
  · rw [e7, gz_st_v]
