/-! ===== both sides side by side ===== -/
def sk0 : Nat → Bool := fun k => decide (nI k = -1)
def rT (S : gz_S) (y0 : Nat → Nat) (n0 : Nat) (y1 : Nat → Nat) (n1 : Nat) (d : dt) : Prop := tX S 2 true 8 16 y0 n0 ∧ mT0 S y0 n0 ∧ tX S 6 false 9 20 y1 n1 ∧ mT1 S y1 n1 ∧ d.1 = (tsz true 8 y0 n0, tfs y0, tsn true y0) ∧ d.2.1 = (tsz false 9 y1 n1, tfs y1, tsn false y1)
def rC (S : gz_S) (d : dt) : Prop := ((1 ≤ d_hr d ∧ d_hr d ≤ 24) ∧ (1 ≤ d_ld d ∧ d_ld d ≤ 99) ∧ d_nc d ≤ 30 ∧ (∀ k, k < d_nc d → d_cp d k < 8 ∧ d_cs d k < 9 ∧ 1 ≤ d_ca d k ∧ d_ca d k ≤ 5)) ∧ ((S 1 4 = nI (d_hr d) ∧ S 1 5 = nI (d_ld d)) ∧ S 12 3 = nI (d_nc d) ∧ ∀ k, k < d_nc d → S 13 k = nI (d_cp d k) ∧ S 14 k = nI (d_cs d k) ∧ S 15 k = nI (d_ca d k)) ∧ ((S 56 0 = nI (d_hr d) ∧ S 56 1 = nI (d_ld d)) ∧ S 45 16 = nI (d_nc d) ∧ ∀ k, k < d_nc d → S 59 (3 * k) = nI (d_cp d k) ∧ S 59 (3 * k + 1) = nI (d_cs d k) ∧ S 59 (3 * k + 2) = nI (d_ca d k))
def shR (S : gz_S) (s : Nat) : Prop := (S (37 + 2 * s) 2 = -1 ∧ S 46 s = -1) ∨ ∃ f n : Nat, f ≤ 2 ∧ n ≤ 60 ∧ S (37 + 2 * s) 1 = nI f ∧ S (37 + 2 * s) 2 = nI n ∧ S 46 s = nI f ∧ S 47 s = nI n ∧ ∀ i, i < n → S (37 + 2 * s + 1) i = S 48 (60 * s + i)
def rO (S : gz_S) : Prop := (∀ h, h ≤ 24 → S 10 h = S 57 h ∧ -50 ≤ (S 10 h).toInt ∧ (S 10 h).toInt ≤ 50) ∧ (∀ p, p < 8 → S 11 p = S 58 p ∧ ∃ v : Nat, v ≤ 5 ∧ S 11 p = nI v) ∧ (∀ s, s < 4 → shR S s) ∧ S 0 7 = S 45 4
def Rd (S : gz_S) (y0 : Nat → Nat) (n0 : Nat) (y1 : Nat → Nat) (n1 : Nat) (d : dt) : Prop := rT S y0 n0 y1 n1 d ∧ rC S d ∧ jX S 16 d sk0 (d_nc d) ∧ rO S
def Rel (S : gz_S) : Prop := ∃ y0 n0 y1 n1 d, Rd S y0 n0 y1 n1 d
/-- places that nobody looks at between two calls -/
def gq (a j : Nat) : Prop := a = 21 ∨ a = 22 ∨ (a = 16 ∧ j = 9) ∨ (23 ≤ a ∧ a ≤ 35) ∨ (a = 45 ∧ (j = 7 ∨ j = 10 ∨ j = 21 ∨ j = 22 ∨ j = 25)) ∨ a = 49 ∨ (52 ≤ a ∧ a ≤ 55) ∨ (60 ≤ a ∧ a ≤ 72)
theorem tX.keep {S S' : gz_S} {a : Nat} {lt : Bool} {mp cap : Nat} {y : Nat → Nat} {n : Nat} (h : tX S a lt mp cap y n) (hs : ∀ c j, a ≤ c ∧ c ≤ a + 3 → S' c j = S c j) : tX S' a lt mp cap y n := by
  obtain ⟨⟨h1, h2, h3⟩, h5, hy, h6, h7, hp⟩ := h
  refine ⟨⟨?_, ?_, h3⟩, ?_, fun i hi => ?_, ?_, ?_, fun ht p hp2 => ⟨?_, ?_⟩⟩
  · rw [hs _ _ (by omega)]; exact h1
  · rw [hs _ _ (by omega)]; exact h2
  · rw [hs _ _ (by omega)]; exact h5
  · rw [hs _ _ (by omega)]; exact hy i hi
  · rw [hs _ _ (by omega)]; exact h6
  · rw [hs _ _ (by omega)]; exact h7
  · rw [hs _ _ (by omega)]; exact (hp ht p hp2).1
  · rw [hs _ _ (by omega)]; exact (hp ht p hp2).2
theorem rT.keep {S S' : gz_S} {y0 y1 : Nat → Nat} {n0 n1 : Nat} {d : dt} (h : rT S y0 n0 y1 n1 d) (hs : ∀ c j, (2 ≤ c ∧ c ≤ 9) ∨ c = 50 ∨ c = 51 → S' c j = S c j) : rT S' y0 n0 y1 n1 d :=
  ⟨h.1.keep (fun c j h => hs c j (by omega)), h.2.1.keep (fun c j h => hs c j (by omega)), h.2.2.1.keep (fun c j h => hs c j (by omega)), h.2.2.2.1.keep (fun c j h => hs c j (by omega)), h.2.2.2.2⟩
theorem rC.keep {S S' : gz_S} {d : dt} (h : rC S d) (hs : ∀ c j, (c = 1 ∧ (j = 4 ∨ j = 5)) ∨ (12 ≤ c ∧ c ≤ 15) ∨ c = 56 ∨ (c = 45 ∧ j = 16) ∨ c = 59 → S' c j = S c j) : rC S' d := by
  obtain ⟨h0, ⟨⟨a1, a2⟩, a3, a4⟩, ⟨b1, b2⟩, b3, b4⟩ := h
  refine ⟨h0, ⟨⟨?_, ?_⟩, ?_, fun k hk => ⟨?_, ?_, ?_⟩⟩, ⟨?_, ?_⟩, ?_, fun k hk => ⟨?_, ?_, ?_⟩⟩
  · rw [hs _ _ (by omega)]; exact a1
  · rw [hs _ _ (by omega)]; exact a2
  · rw [hs _ _ (by omega)]; exact a3
  · rw [hs _ _ (by omega)]; exact (a4 k hk).1
  · rw [hs _ _ (by omega)]; exact (a4 k hk).2.1
  · rw [hs _ _ (by omega)]; exact (a4 k hk).2.2
  · rw [hs _ _ (by omega)]; exact b1
  · rw [hs _ _ (by omega)]; exact b2
  · rw [hs _ _ (by omega)]; exact b3
  · rw [hs _ _ (by omega)]; exact (b4 k hk).1
  · rw [hs _ _ (by omega)]; exact (b4 k hk).2.1
  · rw [hs _ _ (by omega)]; exact (b4 k hk).2.2
theorem jX.keep {S S' : gz_S} {a0 : Nat} {d : dt} {sk : Nat → Bool} {k : Nat} (h : jX S a0 d sk k) (hs : ∀ c j, (a0 + 1 ≤ c ∧ c ≤ a0 + 4) ∨ (c = a0 ∧ j = 6) → S' c j = S c j) : jX S' a0 d sk k := by
  obtain ⟨h1, h2, h3, h4, h5⟩ := h
  refine ⟨fun j hj => ?_, fun t ht => ?_, fun p hp => ?_, ?_, fun i hi => ?_⟩
  · rw [hs _ _ (by omega)]; exact h1 j hj
  · rw [hs _ _ (by omega)]; exact h2 t ht
  · rw [hs _ _ (by omega)]; exact h3 p hp
  · rw [hs _ _ (by omega)]; exact h4
  · rw [hs _ _ (by omega)]; exact h5 i hi
theorem shR.keep {S S' : gz_S} {s : Nat} (h : shR S s) (hs : ∀ c j, (c = 37 + 2 * s ∧ (j = 1 ∨ j = 2)) ∨ c = 37 + 2 * s + 1 ∨ (c = 46 ∧ j = s) ∨ (c = 47 ∧ j = s) ∨ (c = 48 ∧ 60 * s ≤ j ∧ j < 60 * s + 60) → S' c j = S c j) : shR S' s := by
  rcases h with ⟨h1, h2⟩ | ⟨f, n, h1, h2, h3, h4, h5, h6, h7⟩
  · refine Or.inl ⟨?_, ?_⟩
    · rw [hs _ _ (by omega)]; exact h1
    · rw [hs _ _ (by omega)]; exact h2
  · refine Or.inr ⟨f, n, h1, h2, ?_, ?_, ?_, ?_, fun i hi => ?_⟩
    · rw [hs _ _ (by omega)]; exact h3
    · rw [hs _ _ (by omega)]; exact h4
    · rw [hs _ _ (by omega)]; exact h5
    · rw [hs _ _ (by omega)]; exact h6
    · rw [hs _ _ (by omega), hs 48 _ (by omega)]; exact h7 i hi
theorem rO.keep {S S' : gz_S} (h : rO S) (hs : ∀ c j, c = 10 ∨ c = 11 ∨ c = 57 ∨ c = 58 ∨ (37 ≤ c ∧ c ≤ 44) ∨ (46 ≤ c ∧ c ≤ 48) ∨ (c = 0 ∧ j = 7) ∨ (c = 45 ∧ j = 4) → S' c j = S c j) : rO S' := by
  obtain ⟨h1, h2, h3, h4⟩ := h
  refine ⟨fun h hh => ?_, fun p hp => ⟨?_, ?_⟩, fun s hs4 => (h3 s hs4).keep (fun c j h => hs c j (by omega)), ?_⟩
  · rw [hs _ _ (by omega), hs 57 _ (by omega)]; exact h1 h hh
  · rw [hs _ _ (by omega), hs 58 _ (by omega)]; exact (h2 p hp).1
  · rw [hs _ _ (by omega)]; exact (h2 p hp).2
  · rw [hs _ _ (by omega), hs 45 _ (by omega)]; exact h4
theorem Rd.keep {S S' : gz_S} {y0 y1 : Nat → Nat} {n0 n1 : Nat} {d : dt} (h : Rd S y0 n0 y1 n1 d) (hf : fr gq S S') : Rd S' y0 n0 y1 n1 d :=
  ⟨h.1.keep (fun c j h => hf c j (by unfold gq; omega)), h.2.1.keep (fun c j h => hf c j (by unfold gq; omega)), h.2.2.1.keep (fun c j h => hf c j (by unfold gq; omega)), h.2.2.2.keep (fun c j h => hf c j (by unfold gq; omega))⟩
/-! ===== what the texts give ===== -/
theorem txt_pairs {lt : Bool} {mp cap : Nat} {y : Nat → Nat} {n p : Nat} (hp : p < tsz lt mp y n) : tfl lt mp y n = none ∧ p < n / 2 := by
  unfold tsz at hp
  split at hp
  next h => exact ⟨h, hp⟩
  next h => omega
theorem txt_ok {lt : Bool} {mp : Nat} {y : Nat → Nat} {n : Nat} : tsz lt mp y n ≤ mp ∧ ∀ p, p < tsz lt mp y n → 1 ≤ tfs y p ∧ tfs y p ≤ 9 ∧ (lt = true → tsn lt y p ≤ 1) ∧ (lt = false → tsn lt y p ≤ 9) := by
  constructor
  · unfold tsz
    split
    next h =>
      obtain ⟨h1, h2⟩ := tfl_none h
      rcases Nat.lt_or_ge (2 * mp) n with q | q
      · have := (tb_none.mp h1 (2 * mp) q).1; omega
      · omega
    next h => omega
  · intro p hp
    obtain ⟨h1, h2⟩ := txt_pairs (cap := 0) hp
    obtain ⟨h3, h4⟩ := tfl_none h1
    have g0 := tft_even (by omega) (tb_none.mp h3 (2 * p) (by omega)).2
    have g1 := (tb_none.mp h3 (2 * p + 1) (by omega)).2
    refine ⟨by unfold tfs; omega, by unfold tfs; omega, fun e => ?_, fun e => ?_⟩
    · subst e
      unfold tsn
      rw [if_pos rfl]
      split <;> omega
    · subst e
      have := tft_odd_f (by omega) g1
      unfold tsn
      simp
      omega
theorem Rd.ok {S : gz_S} {y0 y1 : Nat → Nat} {n0 n1 : Nat} {d : dt} (h : Rd S y0 n0 y1 n1 d) : d_ok d := by
  obtain ⟨⟨-, -, -, -, e0, e1⟩, ⟨⟨c1, c2, c3, c4⟩, -⟩, -⟩ := h
  have p0 := @txt_ok true 8 y0 n0
  have p1 := @txt_ok false 9 y1 n1
  have f1 : d_np d = tsz true 8 y0 n0 := by unfold d_np; rw [e0]
  have f2 : d_st d = tfs y0 := by unfold d_st; rw [e0]
  have f3 : d_sd d = tsn true y0 := by unfold d_sd; rw [e0]
  have f4 : d_ns d = tsz false 9 y1 n1 := by unfold d_ns; rw [e1]
  have f5 : d_wt d = tfs y1 := by unfold d_wt; rw [e1]
  have f6 : d_wy d = tsn false y1 := by unfold d_wy; rw [e1]
  refine ⟨⟨by rw [f1]; exact p0.1, by rw [f4]; exact p1.1⟩, fun p hp => ?_, fun s hs => ?_, c1, c2, c3, c4⟩
  · rw [f1] at hp; rw [f2, f3]
    have := p0.2 p hp
    exact ⟨this.1, this.2.1, this.2.2.1 rfl⟩
  · rw [f4] at hs; rw [f5, f6]
    have := p1.2 s hs
    exact ⟨this.1, this.2.1, this.2.2.2 rfl⟩
theorem Rd.X {S : gz_S} {y0 y1 : Nat → Nat} {n0 n1 : Nat} {d : dt} (h : Rd S y0 n0 y1 n1 d) : d_X S d := by
  obtain ⟨⟨t0, -, t1, -, e0, e1⟩, ⟨-, c1, -⟩, -⟩ := h
  have f1 : d_np d = tsz true 8 y0 n0 := by unfold d_np; rw [e0]
  have f2 : d_st d = tfs y0 := by unfold d_st; rw [e0]
  have f3 : d_sd d = tsn true y0 := by unfold d_sd; rw [e0]
  have f4 : d_ns d = tsz false 9 y1 n1 := by unfold d_ns; rw [e1]
  have f5 : d_wt d = tfs y1 := by unfold d_wt; rw [e1]
  have f6 : d_wy d = tsn false y1 := by unfold d_wy; rw [e1]
  refine ⟨⟨by rw [f1]; exact t0.2.2.2.2.1, fun p hp => ?_⟩, ⟨by rw [f4]; exact t1.2.2.2.2.1, fun s hs => ?_⟩, c1⟩
  · rw [f1] at hp
    obtain ⟨h1, h2⟩ := txt_pairs (cap := 0) hp
    rw [f2, f3]
    exact t0.2.2.2.2.2 (tfl_none h1).1 p h2
  · rw [f4] at hs
    obtain ⟨h1, h2⟩ := txt_pairs (cap := 0) hs
    rw [f5, f6]
    exact t1.2.2.2.2.2 (tfl_none h1).1 s h2
/-- the reference reads its texts -/
theorem m_reads {S : gz_S} {y0 y1 : Nat → Nat} {n0 n1 : Nat} {d : dt} {Q : gz_S → Prop} (h : Rd S y0 n0 y1 n1 d) (hQ : ∀ S', fr gq S S' → d_M S' d → Rd S' y0 n0 y1 n1 d → Q S') : wX8_reads S Q := by
  obtain ⟨⟨-, t0, -, t1, e0, e1⟩, ⟨-, -, c1⟩, -⟩ := id h
  have f1 : d_np d = tsz true 8 y0 n0 := by unfold d_np; rw [e0]
  have f2 : d_st d = tfs y0 := by unfold d_st; rw [e0]
  have f3 : d_sd d = tsn true y0 := by unfold d_sd; rw [e0]
  have f4 : d_ns d = tsz false 9 y1 n1 := by unfold d_ns; rw [e1]
  have f5 : d_wt d = tfs y1 := by unfold d_wt; rw [e1]
  have f6 : d_wy d = tsn false y1 := by unfold d_wy; rw [e1]
  unfold wX8_reads
  refine m_readsPeople t0 (fun S1 hf1 a1 a2 => ?_)
  refine m_readsStones (t1.keep (fun c j h => hf1 c j (by unfold rP; omega))) (fun S2 hf2 b1 b2 => ?_)
  have hg : fr gq S S2 := (hf1.mono (fun a j h => by unfold rP at h; unfold gq; omega)).tr (hf2.mono (fun a j h => by unfold rS at h; unfold gq; omega))
  have h2 := h.keep hg
  refine hQ S2 hg ⟨⟨?_, fun p hp => ?_⟩, ⟨by rw [f4]; exact b1, fun s hs => ?_⟩, h2.2.1.2.2⟩ h2
  · rw [f1, hf2 _ _ (by unfold rS; omega)]; exact a1
  · rw [f1] at hp
    obtain ⟨q1, q2⟩ := txt_pairs (cap := 0) hp
    rw [f2, f3, hf2 52 _ (by unfold rS; omega), hf2 53 _ (by unfold rS; omega)]
    exact a2 q1 p q2
  · rw [f4] at hs
    obtain ⟨q1, q2⟩ := txt_pairs (cap := 0) hs
    rw [f5, f6]
    exact b2 q1 s q2
/-- a call on both sides: the same answer, and side by side again -/
def pr (wx wm : gz_S → (Int32 → gz_S → Prop) → Prop) : Prop := ∀ (S : gz_S) (F : Prop → Prop) (K : Int32 → Int32 → gz_S → Prop), Rel S → (∀ p, p → F p) → (∀ r S2, Rel S2 → K r r S2) → wx S (fun r S1 => F (wm S1 (fun r2 S2 => K r r2 S2)))
theorem fr_g {S S' : gz_S} {P : Nat → Nat → Prop} (h : fr P S S') (hs : ∀ a j, P a j → gq a j) : fr gq S S' := h.mono hs
theorem hP_g (a j : Nat) (h : hP 16 a j) : gq a j := by unfold hP at h; unfold gq; omega
theorem hP_g2 (a j : Nat) (h : hP 23 a j) : gq a j := by unfold hP at h; unfold gq; omega
theorem jP_g2 (a j : Nat) (h : jP 23 a j) : gq a j := by unfold jP at h; unfold gq; omega
theorem gP_g (a j : Nat) (h : gP a j) : gq a j := by unfold gP at h; unfold gq; omega
theorem kP_g (a j : Nat) (h : kP a j) : gq a j := by unfold kP at h; unfold gq; omega
/-- the reference's tip -/
theorem m_tipOf {S : gz_S} {d : dt} {h : Nat} {Q : Int32 → gz_S → Prop} (hd : d_ok d) (hMM : d_M S d) (hh : h ≤ 24) (hQ : ∀ S', fr gq S S' → d_M S' d → jM S' d sk0 (d_nc d) → hM S' d (hf d (qq d sk0 (h + 1))) → Q (tpv (S 57 h) (hf d (qq d sk0 (h + 1))).1) S') : wX8_tipOf (nI h) S Q := by
  unfold wX8_tipOf
  refine m_goes hd hMM (fun S1 hf1 hJ => m_heaps (sk := sk0) hd (hMM.goes hf1) hh hJ.1 (fun S2 hf2 hH => m_tipNow hh hH ?_))
  have e : S2 57 h = S 57 h := by rw [hf2 _ _ (by unfold kP; omega), hf1 _ _ (by unfold gP; omega)]
  rw [e]
  refine hQ S2 ((fr_g hf1 gP_g).tr (fr_g hf2 kP_g)) ((hMM.goes hf1).heaps hf2) ?_ hH
  obtain ⟨j1, j2, j3, j4, j5⟩ := hJ
  refine ⟨fun j hj => ?_, fun t ht => ?_, fun p hp => ?_, ?_, ?_⟩
  · rw [hf2 _ _ (by unfold kP; omega)]; exact j1 j hj
  · rw [hf2 _ _ (by unfold kP; omega)]; exact j2 t ht
  · rw [hf2 _ _ (by unfold kP; omega)]; exact j3 p hp
  · rw [hf2 _ _ (by unfold kP; omega)]; exact j4
  · rw [hf2 _ _ (by unfold kP; omega)]; exact j5
