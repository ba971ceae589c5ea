/-! ===== both sides apart ===== -/
def rB (d : dt) : Prop := (1 ≤ d_hr d ∧ d_hr d ≤ 24) ∧ (1 ≤ d_ld d ∧ d_ld d ≤ 99) ∧ d_nc d ≤ 30 ∧ (∀ k, k < d_nc d → d_cp d k < 8 ∧ d_cs d k < 9 ∧ 1 ≤ d_ca d k ∧ d_ca d k ≤ 5)
def cX (S : gz_S) (d : dt) : Prop := (S 1 4 = nI (d_hr d) ∧ S 1 5 = nI (d_ld d)) ∧ S 12 3 = nI (d_nc d) ∧ ∀ k, k < d_nc d → S 13 k = nI (d_cp d k) ∧ S 14 k = nI (d_cs d k) ∧ S 15 k = nI (d_ca d k)
def cM (S : gz_S) (d : dt) : Prop := (S 56 0 = nI (d_hr d) ∧ S 56 1 = nI (d_ld d)) ∧ S 45 16 = nI (d_nc d) ∧ ∀ k, k < d_nc d → S 59 (3 * k) = nI (d_cp d k) ∧ S 59 (3 * k + 1) = nI (d_cs d k) ∧ S 59 (3 * k + 2) = nI (d_ca d k)
def AX (S : gz_S) (y0 : Nat → Nat) (n0 : Nat) (y1 : Nat → Nat) (n1 : Nat) (d : dt) : Prop := tX S 2 true 8 16 y0 n0 ∧ tX S 6 false 9 20 y1 n1 ∧ cX S d
def AM (S : gz_S) (y0 : Nat → Nat) (n0 : Nat) (y1 : Nat → Nat) (n1 : Nat) (d : dt) : Prop := mT0 S y0 n0 ∧ mT1 S y1 n1 ∧ cM S d
def AE (y0 : Nat → Nat) (n0 : Nat) (y1 : Nat → Nat) (n1 : Nat) (d : dt) : Prop := d.1 = (tsz true 8 y0 n0, tfs y0, tsn true y0) ∧ d.2.1 = (tsz false 9 y1 n1, tfs y1, tsn false y1) ∧ rB d
theorem Rd.ax {S : gz_S} {y0 y1 : Nat → Nat} {n0 n1 : Nat} {d : dt} (h : Rd S y0 n0 y1 n1 d) : AX S y0 n0 y1 n1 d := ⟨h.1.1, h.1.2.2.1, h.2.1.2.1⟩
theorem Rd.am {S : gz_S} {y0 y1 : Nat → Nat} {n0 n1 : Nat} {d : dt} (h : Rd S y0 n0 y1 n1 d) : AM S y0 n0 y1 n1 d := ⟨h.1.2.1, h.1.2.2.2.1, h.2.1.2.2⟩
theorem Rd.ae {S : gz_S} {y0 y1 : Nat → Nat} {n0 n1 : Nat} {d : dt} (h : Rd S y0 n0 y1 n1 d) : AE y0 n0 y1 n1 d := ⟨h.1.2.2.2.2.1, h.1.2.2.2.2.2, h.2.1.1⟩
theorem cX.keep {S S' : gz_S} {d : dt} (h : cX S d) (hs : ∀ c j, (c = 1 ∧ (j = 4 ∨ j = 5)) ∨ (12 ≤ c ∧ c ≤ 15) → S' c j = S c j) : cX S' d := by
  obtain ⟨⟨a1, a2⟩, a3, a4⟩ := h
  refine ⟨⟨?_, ?_⟩, ?_, fun k hk => ⟨?_, ?_, ?_⟩⟩
  · rw [hs _ _ (by omega)]; exact a1
  · rw [hs _ _ (by omega)]; exact a2
  · rw [hs _ _ (by omega)]; exact a3
  · rw [hs _ _ (by omega)]; exact (a4 k hk).1
  · rw [hs _ _ (by omega)]; exact (a4 k hk).2.1
  · rw [hs _ _ (by omega)]; exact (a4 k hk).2.2
theorem cM.keep {S S' : gz_S} {d : dt} (h : cM S d) (hs : ∀ c j, c = 56 ∨ (c = 45 ∧ j = 16) ∨ c = 59 → S' c j = S c j) : cM S' d := by
  obtain ⟨⟨a1, a2⟩, a3, a4⟩ := h
  refine ⟨⟨?_, ?_⟩, ?_, fun k hk => ⟨?_, ?_, ?_⟩⟩
  · rw [hs _ _ (by omega)]; exact a1
  · rw [hs _ _ (by omega)]; exact a2
  · rw [hs _ _ (by omega)]; exact a3
  · rw [hs _ _ (by omega)]; exact (a4 k hk).1
  · rw [hs _ _ (by omega)]; exact (a4 k hk).2.1
  · rw [hs _ _ (by omega)]; exact (a4 k hk).2.2
theorem AX.keep {S S' : gz_S} {y0 y1 : Nat → Nat} {n0 n1 : Nat} {d : dt} (h : AX S y0 n0 y1 n1 d) (hs : ∀ c j, 1 ≤ c ∧ c ≤ 15 → S' c j = S c j) : AX S' y0 n0 y1 n1 d :=
  ⟨h.1.keep (fun c j h => hs c j (by omega)), h.2.1.keep (fun c j h => hs c j (by omega)), h.2.2.keep (fun c j h => hs c j (by omega))⟩
theorem AM.keep {S S' : gz_S} {y0 y1 : Nat → Nat} {n0 n1 : Nat} {d : dt} (h : AM S y0 n0 y1 n1 d) (hs : ∀ c j, c = 50 ∨ c = 51 ∨ c = 56 ∨ (c = 45 ∧ j = 16) ∨ c = 59 → S' c j = S c j) : AM S' y0 n0 y1 n1 d :=
  ⟨h.1.keep (fun c j h => hs c j (by omega)), h.2.1.keep (fun c j h => hs c j (by omega)), h.2.2.keep (fun c j h => hs c j (by omega))⟩
theorem AE.ok {y0 y1 : Nat → Nat} {n0 n1 : Nat} {d : dt} (h : AE y0 n0 y1 n1 d) : d_ok d := by
  obtain ⟨e0, e1, c1, c2, c3, c4⟩ := h
  have p0 := @txt_ok true 8 y0 n0
  have p1 := @txt_ok false 9 y1 n1
  have f1 : d_np d = tsz true 8 y0 n0 := by unfold d_np; rw [e0]
  have f2 : d_st d = tfs y0 := by unfold d_st; rw [e0]
  have f3 : d_sd d = tsn true y0 := by unfold d_sd; rw [e0]
  have f4 : d_ns d = tsz false 9 y1 n1 := by unfold d_ns; rw [e1]
  have f5 : d_wt d = tfs y1 := by unfold d_wt; rw [e1]
  have f6 : d_wy d = tsn false y1 := by unfold d_wy; rw [e1]
  refine ⟨⟨by rw [f1]; exact p0.1, by rw [f4]; exact p1.1⟩, fun p hp => ?_, fun s hs => ?_, c1, c2, c3, c4⟩
  · rw [f1] at hp; rw [f2, f3]
    have := p0.2 p hp
    exact ⟨this.1, this.2.1, this.2.2.1 rfl⟩
  · rw [f4] at hs; rw [f5, f6]
    have := p1.2 s hs
    exact ⟨this.1, this.2.1, this.2.2.2 rfl⟩
theorem AX.X {S : gz_S} {y0 y1 : Nat → Nat} {n0 n1 : Nat} {d : dt} (h : AX S y0 n0 y1 n1 d) (he : AE y0 n0 y1 n1 d) : d_X S d := by
  obtain ⟨t0, t1, c1⟩ := h
  obtain ⟨e0, e1, -⟩ := he
  have f1 : d_np d = tsz true 8 y0 n0 := by unfold d_np; rw [e0]
  have f2 : d_st d = tfs y0 := by unfold d_st; rw [e0]
  have f3 : d_sd d = tsn true y0 := by unfold d_sd; rw [e0]
  have f4 : d_ns d = tsz false 9 y1 n1 := by unfold d_ns; rw [e1]
  have f5 : d_wt d = tfs y1 := by unfold d_wt; rw [e1]
  have f6 : d_wy d = tsn false y1 := by unfold d_wy; rw [e1]
  refine ⟨⟨by rw [f1]; exact t0.2.2.2.2.1, fun p hp => ?_⟩, ⟨by rw [f4]; exact t1.2.2.2.2.1, fun s hs => ?_⟩, c1⟩
  · rw [f1] at hp
    obtain ⟨h1, h2⟩ := txt_pairs (cap := 0) hp
    rw [f2, f3]
    exact t0.2.2.2.2.2 (tfl_none h1).1 p h2
  · rw [f4] at hs
    obtain ⟨h1, h2⟩ := txt_pairs (cap := 0) hs
    rw [f5, f6]
    exact t1.2.2.2.2.2 (tfl_none h1).1 s h2
/-- judged anew -/
theorem x_rej {S : gz_S} {y0 y1 : Nat → Nat} {n0 n1 : Nat} {d : dt} {Q : gz_S → Prop} (h : AX S y0 n0 y1 n1 d) (he : AE y0 n0 y1 n1 d) (hQ : ∀ S', fr (jP 16) S S' → AX S' y0 n0 y1 n1 d → jX S' 16 d sk0 (d_nc d) → Q S') : wX2_judgeAll 16 S Q :=
  x_judgeAll (Or.inl rfl) he.ok (h.X he) (fun S' hf' hj => hQ S' hf' (h.keep (fun c j hc => hf' c j (by unfold jP; omega))) hj)
theorem mkR {S1 S2 : gz_S} {y0 y1 : Nat → Nat} {n0 n1 : Nat} {d : dt} (h : AX S1 y0 n0 y1 n1 d) (hj : jX S1 16 d sk0 (d_nc d)) (hm : AM S2 y0 n0 y1 n1 d) (he : AE y0 n0 y1 n1 d) (ho : rO S2) (hs : ∀ c j, 1 ≤ c ∧ c ≤ 22 → S2 c j = S1 c j) : Rel S2 := by
  have h2 := h.keep (S' := S2) (fun c j hc => hs c j (by omega))
  have hj2 := hj.keep (S' := S2) (fun c j hc => hs c j (by omega))
  exact ⟨y0, n0, y1, n1, d, ⟨h2.1, hm.1, h2.2.1, hm.2.1, he.1, he.2.1⟩, ⟨he.2.2, h2.2.2, hm.2.2⟩, hj2, ho⟩
theorem two {x : Int32} (h : 0 ≤ x ∧ x ≤ 1) : x = 0 ∨ x = 1 := by
  obtain ⟨j, hj, rfl⟩ := pn_rng (hi := 1) (by decide) h.1 h.2
  have : j = 0 ∨ j = 1 := by omega
  rcases this with rfl | rfl
  · exact Or.inl rfl
  · exact Or.inr rfl
theorem g01 : (0 : Int32) ≤ 0 ∧ (0 : Int32) ≤ 1 := by decide
theorem g11 : (0 : Int32) ≤ 1 ∧ (1 : Int32) ≤ 1 := by decide
/-! ===== type ===== -/
def yw (y : Nat → Nat) (n b : Nat) : Nat → Nat := fun i => if i = n then b else y i
theorem m_type0 {S : gz_S} {y : Nat → Nat} {n b : Nat} {Q : Int32 → gz_S → Prop} (h : mT0 S y n) (hb : b ≤ 255) (hf : n = 16 → Q (-4) S) (hQ : n < 16 → ∀ S', fr (fun a j => (a = 50 ∧ j = n) ∨ (a = 51 ∧ j = 0)) S S' → mT0 S' (yw y n b) (n + 1) → Q (nI (n + 1)) S') : wX8_type 0 (nI b) S Q := by
  obtain ⟨h1, h2, h3⟩ := h
  unfold wX8_type
  refine w_isTwo (fun _ _ => ⟨fun c => absurd c n10, fun _ => ?_⟩) (fun g => absurd g01 g)
  refine w_in (lo := 0) (hi := 255) (by decide) (by decide) (fun _ _ => ⟨fun _ => ⟨in02, ?_⟩, fun c => absurd c n10⟩) (fun g => absurd ⟨nI_pos' (by omega), nI_le (b := 255) hb (by decide)⟩ g)
  unfold wX8_room
  refine ⟨fun c => absurd rfl c, fun _ => ?_⟩
  dsimp only
  rw [cl0, h1, show (16 : Int32) * 0 = nI 0 from rfl, nI_add, Nat.zero_add, show (16 : Int32) = nI 16 from rfl, neq (by omega) (by decide)]
  refine ⟨fun c => ⟨in02, pn_in (by omega) (by decide), fun S54 e54 => ⟨in02, in02, fun S64 e64 => ⟨in02, ?_⟩⟩⟩, fun c => hf c⟩
  rw [pn_cl (by omega)] at e54
  have a1 : S54 51 0 = nI n := by rw [e54, gz_st_n _ _ _ (by decide)]; exact h1
  rw [a1, nI_1] at e64
  have a2 : S64 51 0 = nI (n + 1) := by rw [e64, gz_st_v]
  rw [a2]
  refine hQ (by omega) S64 ?_ ⟨a2, by omega, fun i hi => ?_⟩
  · refine fr.tr (S1 := S54) ?_ ?_
    · rw [e54]; exact fr_st (Or.inl ⟨rfl, rfl⟩)
    · rw [e64]; exact fr_st (Or.inr ⟨rfl, rfl⟩)
  · rw [e64, gz_st_n _ _ _ (by decide), e54]
    unfold yw
    by_cases q : i = n
    · subst q
      rw [gz_st_v, if_pos rfl]
      exact ⟨rfl, by omega⟩
    · rw [gz_st_o _ _ _ q, if_neg q]
      exact h3 i (by omega)
theorem m_type1 {S : gz_S} {y : Nat → Nat} {n b : Nat} {Q : Int32 → gz_S → Prop} (h : mT1 S y n) (hb : b ≤ 255) (hf : n = 20 → Q (-4) S) (hQ : n < 20 → ∀ S', fr (fun a j => (a = 50 ∧ j = 16 + n) ∨ (a = 51 ∧ j = 1)) S S' → mT1 S' (yw y n b) (n + 1) → Q (nI (n + 1)) S') : wX8_type 1 (nI b) S Q := by
  obtain ⟨h1, h2, h3⟩ := h
  unfold wX8_type
  refine w_isTwo (fun _ _ => ⟨fun c => absurd c n10, fun _ => ?_⟩) (fun g => absurd g11 g)
  refine w_in (lo := 0) (hi := 255) (by decide) (by decide) (fun _ _ => ⟨fun _ => ⟨in12, ?_⟩, fun c => absurd c n10⟩) (fun g => absurd ⟨nI_pos' (by omega), nI_le (b := 255) hb (by decide)⟩ g)
  unfold wX8_room
  refine ⟨fun _ => ?_, fun c => absurd c n10⟩
  dsimp only
  rw [cl1, h1, show (16 : Int32) * 1 = nI 16 from rfl, nI_add, show (20 : Int32) = nI 20 from rfl, neq (by omega) (by decide)]
  refine ⟨fun c => ⟨in12, pn_in (by omega) (by decide), fun S54 e54 => ⟨in12, in12, fun S64 e64 => ⟨in12, ?_⟩⟩⟩, fun c => hf c⟩
  rw [pn_cl (by omega)] at e54
  have a1 : S54 51 1 = nI n := by rw [e54, gz_st_n _ _ _ (by decide)]; exact h1
  rw [a1, nI_1] at e64
  have a2 : S64 51 1 = nI (n + 1) := by rw [e64, gz_st_v]
  rw [a2]
  refine hQ (by omega) S64 ?_ ⟨a2, by omega, fun i hi => ?_⟩
  · refine fr.tr (S1 := S54) ?_ ?_
    · rw [e54]; exact fr_st (Or.inl ⟨rfl, rfl⟩)
    · rw [e64]; exact fr_st (Or.inr ⟨rfl, rfl⟩)
  · rw [e64, gz_st_n _ _ _ (by decide), e54]
    unfold yw
    by_cases q : i = n
    · subst q
      rw [gz_st_v, if_pos rfl]
      exact ⟨rfl, by omega⟩
    · rw [gz_st_o _ _ _ (by omega), if_neg q]
      exact h3 i (by omega)
theorem p_type (x1 x2 : Int32) : pr (wX7_type x1 x2) (wX8_type x1 x2) := by
  intro S F K ⟨y0, n0, y1, n1, d, hR⟩ hF hK
  by_cases g1 : 0 ≤ x1 ∧ x1 ≤ 1
  · by_cases g2 : 0 ≤ x2 ∧ x2 ≤ 255
    · obtain ⟨b, hb, rfl⟩ := pn_rng (hi := 255) (by decide) g2.1 g2.2
      unfold wX7_type
      refine w_within (fun _ _ => ⟨fun c => absurd c n10, fun _ => ?_⟩) (fun g => absurd g1 g)
      refine w_within (fun _ _ => ⟨fun _ => ?_, fun c => absurd c n10⟩) (fun g => absurd g2 g)
      unfold wX3_text wX6_isFull
      rcases two g1 with rfl | rfl
      · refine ⟨fun c => absurd rfl c, fun _ => ?_⟩
        have hn : n0 ≤ 16 := hR.1.1.1.2.2
        refine pk_lt n0 16 (fun c => ⟨fun _ => ?_, fun c => absurd rfl c⟩) (fun c => ⟨fun c => absurd c n10, fun _ => hF _ ?_⟩) hR.1.1.2.1 rfl
        · refine x_append (Or.inl ⟨rfl, rfl, rfl, rfl⟩) hR.1.1 c (by omega) (fun S1 hf1 t1 => ?_)
          have ha : AX S1 (yw y0 n0 b) (n0 + 1) y1 n1 ((tsz true 8 (yw y0 n0 b) (n0 + 1), tfs (yw y0 n0 b), tsn true (yw y0 n0 b)), d.2) := ⟨t1, hR.ax.2.1.keep (fun c j hc => hf1 c j (by omega)), hR.ax.2.2.keep (fun c j hc => hf1 c j (by omega))⟩
          have he : AE (yw y0 n0 b) (n0 + 1) y1 n1 ((tsz true 8 (yw y0 n0 b) (n0 + 1), tfs (yw y0 n0 b), tsn true (yw y0 n0 b)), d.2) := ⟨rfl, hR.ae.2.1, hR.ae.2.2⟩
          refine x_rej ha he (fun S2 hf2 ha2 hj2 => ?_)
          rw [ha2.1.2.1]
          have hm2 : AM S2 y0 n0 y1 n1 d := hR.am.keep (fun c j hc => by rw [hf2 _ _ (by unfold jP; omega), hf1 _ _ (by omega)])
          refine hF _ (m_type0 hm2.1 hb (fun e => by omega) (fun _ S3 hf3 hm3 => hK _ S3 ?_))
          refine mkR ha2 hj2 ⟨hm3, ⟨?_, hm2.2.1.2.1, fun i hi => ?_⟩, hm2.2.2.keep (fun c j hc => hf3 c j (by omega))⟩ he (hR.2.2.2.keep (fun c j hc => by rw [hf3 _ _ (by omega), hf2 _ _ (by unfold jP; omega), hf1 _ _ (by omega)])) (fun c j hc => hf3 c j (by omega))
          · rw [hf3 _ _ (by omega)]; exact hm2.2.1.1
          · rw [hf3 _ _ (by omega)]; exact hm2.2.1.2.2 i hi
        · exact m_type0 hR.am.1 hb (fun _ => hK _ S ⟨_, _, _, _, _, hR⟩) (fun _ => by omega)
      · refine ⟨fun _ => ?_, fun c => absurd c n10⟩
        have hn : n1 ≤ 20 := hR.1.2.2.1.1.2.2
        refine pk_lt n1 20 (fun c => ⟨fun _ => ?_, fun c => absurd rfl c⟩) (fun c => ⟨fun c => absurd c n10, fun _ => hF _ ?_⟩) hR.1.2.2.1.2.1 rfl
        · refine x_append (Or.inr ⟨rfl, rfl, rfl, rfl⟩) hR.1.2.2.1 c (by omega) (fun S1 hf1 t1 => ?_)
          have ha : AX S1 y0 n0 (yw y1 n1 b) (n1 + 1) (d.1, (tsz false 9 (yw y1 n1 b) (n1 + 1), tfs (yw y1 n1 b), tsn false (yw y1 n1 b)), d.2.2) := ⟨hR.ax.1.keep (fun c j hc => hf1 c j (by omega)), t1, hR.ax.2.2.keep (fun c j hc => hf1 c j (by omega))⟩
          have he : AE y0 n0 (yw y1 n1 b) (n1 + 1) (d.1, (tsz false 9 (yw y1 n1 b) (n1 + 1), tfs (yw y1 n1 b), tsn false (yw y1 n1 b)), d.2.2) := ⟨hR.ae.1, rfl, hR.ae.2.2⟩
          refine x_rej ha he (fun S2 hf2 ha2 hj2 => ?_)
          rw [ha2.2.1.2.1]
          have hm2 : AM S2 y0 n0 y1 n1 d := hR.am.keep (fun c j hc => by rw [hf2 _ _ (by unfold jP; omega), hf1 _ _ (by omega)])
          refine hF _ (m_type1 hm2.2.1 hb (fun e => by omega) (fun _ S3 hf3 hm3 => hK _ S3 ?_))
          refine mkR ha2 hj2 ⟨⟨?_, hm2.1.2.1, fun i hi => ?_⟩, hm3, hm2.2.2.keep (fun c j hc => hf3 c j (by omega))⟩ he (hR.2.2.2.keep (fun c j hc => by rw [hf3 _ _ (by omega), hf2 _ _ (by unfold jP; omega), hf1 _ _ (by omega)])) (fun c j hc => hf3 c j (by omega))
          · rw [hf3 _ _ (by omega)]; exact hm2.1.1
          · have := hm2.1.2.1
            rw [hf3 _ _ (by omega)]; exact hm2.1.2.2 i hi
        · exact m_type1 hR.am.2.1 hb (fun _ => hK _ S ⟨_, _, _, _, _, hR⟩) (fun _ => by omega)
    · unfold wX7_type wX8_type
      exact w_within (fun _ _ => ⟨fun c => absurd c n10, fun _ => w_within (fun a b => absurd ⟨a, b⟩ g2) (fun _ => ⟨fun c => absurd rfl c, fun _ => hF _ (w_isTwo (fun _ _ => ⟨fun c => absurd c n10, fun _ => w_in (lo := 0) (hi := 255) (by decide) (by decide) (fun a b => absurd ⟨a, b⟩ g2) (fun _ => ⟨fun c => absurd rfl c, fun _ => hK _ S ⟨_, _, _, _, _, hR⟩⟩)⟩) (fun g => absurd g1 g))⟩)⟩) (fun g => absurd g1 g)
  · unfold wX7_type wX8_type
    exact w_within (fun a b => absurd ⟨a, b⟩ g1) (fun _ => ⟨fun _ => hF _ (w_isTwo (fun a b => absurd ⟨a, b⟩ g1) (fun _ => ⟨fun _ => hK _ S ⟨_, _, _, _, _, hR⟩, fun c => absurd rfl c⟩)), fun c => absurd rfl c⟩)
/-! ===== wipe ===== -/
theorem x_clear {a mp cap n : Nat} {lt : Bool} {y : Nat → Nat} {S : gz_S} {Q : gz_S → Prop} (hT : tX S a lt mp cap y n) (hQ : ∀ S', fr (fun c j => c = a ∧ (j = 5 ∨ j = 6 ∨ j = 7)) S S' → tX S' a lt mp cap y 0 → Q S') : wX6_clear a S Q := by
  unfold wX6_clear
  intro S2 e2 S7 e7 S12 e12
  have f : fr (fun c j => c = a ∧ (j = 5 ∨ j = 6 ∨ j = 7)) S S12 := by
    refine fr.tr (S1 := S2) ?_ (fr.tr (S1 := S7) ?_ ?_)
    · rw [e2]; exact fr_st (by omega)
    · rw [e7]; exact fr_st (by omega)
    · rw [e12]; exact fr_st (by omega)
  have tb0 : tb lt mp y 0 = none := tb_none.mpr (fun i hi => by omega)
  have tf0 : tfl lt mp y 0 = none := tfl_even tb0 rfl
  have ts0 : tsz lt mp y 0 = 0 := by unfold tsz; rw [if_pos tf0]
  refine hQ S12 f ⟨⟨?_, ?_, Nat.zero_le _⟩, ?_, fun i hi => by omega, ?_, ?_, fun _ p hp => by omega⟩
  · rw [f _ _ (by omega)]; exact hT.1.1
  · rw [f _ _ (by omega)]; exact hT.1.2.1
  · rw [e12, gz_st_o _ _ _ (by decide), e7, gz_st_o _ _ _ (by decide), e2, gz_st_v]; rfl
  · rw [e12, gz_st_o _ _ _ (by decide), e7, gz_st_v, tf0]; rfl
  · rw [e12, gz_st_v, ts0]; rfl
theorem p_wipe (x1 : Int32) : pr (wX7_wipe x1) (wX8_wipe x1) := by
  intro S F K ⟨y0, n0, y1, n1, d, hR⟩ hF hK
  by_cases g1 : 0 ≤ x1 ∧ x1 ≤ 1
  · unfold wX7_wipe
    refine w_within (fun _ _ => ⟨fun _ => ?_, fun c => absurd c n10⟩) (fun g => absurd g1 g)
    unfold wX3_text
    rcases two g1 with rfl | rfl
    · refine ⟨fun c => absurd rfl c, fun _ v3 e3 => ?_⟩
      refine x_clear hR.1.1 (fun S1 hf1 t1 => ?_)
      have ha : AX S1 y0 0 y1 n1 ((tsz true 8 y0 0, tfs y0, tsn true y0), d.2) := ⟨t1, hR.ax.2.1.keep (fun c j hc => hf1 c j (by omega)), hR.ax.2.2.keep (fun c j hc => hf1 c j (by omega))⟩
      have he : AE y0 0 y1 n1 ((tsz true 8 y0 0, tfs y0, tsn true y0), d.2) := ⟨rfl, hR.ae.2.1, hR.ae.2.2⟩
      refine x_rej ha he (fun S2 hf2 ha2 hj2 => hF _ ?_)
      have hm2 : AM S2 y0 n0 y1 n1 d := hR.am.keep (fun c j hc => by rw [hf2 _ _ (by unfold jP; omega), hf1 _ _ (by omega)])
      unfold wX8_wipe
      refine w_isTwo (fun _ _ => ⟨fun _ => ⟨in02, fun v2 e2 => ⟨in02, fun S3 e => ?_⟩⟩, fun c => absurd c n10⟩) (fun g => absurd g01 g)
      rw [cl0] at e2 e
      have hv : v2 = v3 := by rw [e2, e3, hm2.1.1, hR.1.1.2.1]
      have hf3 : fr (fun a j => a = 51 ∧ j = 0) S2 S3 := by rw [e]; exact fr_st ⟨rfl, rfl⟩
      rw [hv]
      refine hK _ S3 (mkR ha2 hj2 ⟨⟨?_, by omega, fun i hi => by omega⟩, ⟨?_, hm2.2.1.2.1, fun i hi => ?_⟩, hm2.2.2.keep (fun c j hc => hf3 c j (by omega))⟩ he (hR.2.2.2.keep (fun c j hc => by rw [hf3 _ _ (by omega), hf2 _ _ (by unfold jP; omega), hf1 _ _ (by omega)])) (fun c j hc => hf3 c j (by omega)))
      · rw [e, gz_st_v]; rfl
      · rw [hf3 _ _ (by omega)]; exact hm2.2.1.1
      · rw [hf3 _ _ (by omega)]; exact hm2.2.1.2.2 i hi
    · refine ⟨fun _ v3 e3 => ?_, fun c => absurd c n10⟩
      refine x_clear hR.1.2.2.1 (fun S1 hf1 t1 => ?_)
      have ha : AX S1 y0 n0 y1 0 (d.1, (tsz false 9 y1 0, tfs y1, tsn false y1), d.2.2) := ⟨hR.ax.1.keep (fun c j hc => hf1 c j (by omega)), t1, hR.ax.2.2.keep (fun c j hc => hf1 c j (by omega))⟩
      have he : AE y0 n0 y1 0 (d.1, (tsz false 9 y1 0, tfs y1, tsn false y1), d.2.2) := ⟨hR.ae.1, rfl, hR.ae.2.2⟩
      refine x_rej ha he (fun S2 hf2 ha2 hj2 => hF _ ?_)
      have hm2 : AM S2 y0 n0 y1 n1 d := hR.am.keep (fun c j hc => by rw [hf2 _ _ (by unfold jP; omega), hf1 _ _ (by omega)])
      unfold wX8_wipe
      refine w_isTwo (fun _ _ => ⟨fun _ => ⟨in12, fun v2 e2 => ⟨in12, fun S3 e => ?_⟩⟩, fun c => absurd c n10⟩) (fun g => absurd g11 g)
      rw [cl1] at e2 e
      have hv : v2 = v3 := by rw [e2, e3, hm2.2.1.1, hR.1.2.2.1.2.1]
      have hf3 : fr (fun a j => a = 51 ∧ j = 1) S2 S3 := by rw [e]; exact fr_st ⟨rfl, rfl⟩
      rw [hv]
      refine hK _ S3 (mkR ha2 hj2 ⟨⟨?_, hm2.1.2.1, fun i hi => ?_⟩, ⟨?_, by omega, fun i hi => by omega⟩, hm2.2.2.keep (fun c j hc => hf3 c j (by omega))⟩ he (hR.2.2.2.keep (fun c j hc => by rw [hf3 _ _ (by omega), hf2 _ _ (by unfold jP; omega), hf1 _ _ (by omega)])) (fun c j hc => hf3 c j (by omega)))
      · rw [hf3 _ _ (by omega)]; exact hm2.1.1
      · rw [hf3 _ _ (by omega)]; exact hm2.1.2.2 i hi
      · rw [e, gz_st_v]; rfl
  · unfold wX7_wipe wX8_wipe
    exact w_within (fun a b => absurd ⟨a, b⟩ g1) (fun _ => ⟨fun c => absurd rfl c, fun _ => hF _ (w_isTwo (fun a b => absurd ⟨a, b⟩ g1) (fun _ => ⟨fun c => absurd rfl c, fun _ => hK _ S ⟨_, _, _, _, _, hR⟩⟩))⟩)
/-! ===== fault ===== -/
theorem p_fault (x1 : Int32) : pr (wX7_fault x1) (wX8_fault x1) := by
  intro S F K ⟨y0, n0, y1, n1, d, hR⟩ hF hK
  by_cases g1 : 0 ≤ x1 ∧ x1 ≤ 1
  · unfold wX7_fault wX8_fault
    refine w_within (fun _ _ => ⟨fun c => absurd c n10, fun _ => ?_⟩) (fun g => absurd g1 g)
    unfold wX3_text
    rcases two g1 with rfl | rfl
    · refine ⟨fun c => absurd rfl c, fun _ => hF _ (w_isTwo (fun _ _ => ⟨fun _ => ⟨fun c => absurd rfl c, fun _ => ?_⟩, fun c => absurd c n10⟩) (fun g => absurd g01 g))⟩
      rw [hR.1.1.2.2.2.1]
      exact m_readsPeople hR.am.1 (fun S1 hf1 _ _ => hK _ S1 ⟨_, _, _, _, _, hR.keep (hf1.mono (fun a j h => by unfold rP at h; unfold gq; omega))⟩)
    · refine ⟨fun _ => hF _ (w_isTwo (fun _ _ => ⟨fun _ => ⟨fun _ => ?_, fun c => absurd c n10⟩, fun c => absurd c n10⟩) (fun g => absurd g11 g)), fun c => absurd c n10⟩
      rw [hR.1.2.2.1.2.2.2.1]
      exact m_readsStones hR.am.2.1 (fun S1 hf1 _ _ => hK _ S1 ⟨_, _, _, _, _, hR.keep (hf1.mono (fun a j h => by unfold rS at h; unfold gq; omega))⟩)
  · unfold wX7_fault wX8_fault
    exact w_within (fun a b => absurd ⟨a, b⟩ g1) (fun _ => ⟨fun _ => hF _ (w_isTwo (fun a b => absurd ⟨a, b⟩ g1) (fun _ => ⟨fun c => absurd rfl c, fun _ => hK _ S ⟨_, _, _, _, _, hR⟩⟩)), fun c => absurd rfl c⟩)
/-! ===== tide, arm ===== -/
theorem p_tide (x1 x2 : Int32) : pr (wX7_tide x1 x2) (wX8_tide x1 x2) := by
  intro S F K ⟨y0, n0, y1, n1, d, hR⟩ hF hK
  unfold wX7_tide wX8_tide
  by_cases g1 : 0 ≤ x1 ∧ x1 ≤ 24
  · refine w_within (fun _ _ => ⟨fun c => absurd c n10, fun _ => ?_⟩) (fun g => absurd g1 g)
    by_cases g2 : -50 ≤ x2 ∧ x2 ≤ 50
    · obtain ⟨h, hh, rfl⟩ := in_h g1.1 g1.2
      refine w_within (fun _ _ => ⟨fun _ => ⟨pn_in (by omega) (by decide), fun v3 e3 => ⟨pn_in (by omega) (by decide), fun S1 e1 => hF _ ?_⟩⟩, fun c => absurd c n10⟩) (fun g => absurd g2 g)
      refine w_isHour (fun _ _ => ⟨fun c => absurd c n10, fun _ => ?_⟩) (fun g => absurd g1 g)
      refine w_in (lo := -50) (hi := 50) (by decide) (by decide) (fun _ _ => ⟨fun _ => ⟨pn_in (by omega) (by decide), fun v4 e4 => ⟨pn_in (by omega) (by decide), fun S2 e2 => ?_⟩⟩, fun c => absurd c n10⟩) (fun g => absurd g2 g)
      rw [pn_cl (by omega)] at e1 e2 e3 e4
      have hf1 : fr (fun a j => a = 10 ∧ j = h) S S1 := by rw [e1]; exact fr_st ⟨rfl, rfl⟩
      have hf2 : fr (fun a j => a = 57 ∧ j = h) S1 S2 := by rw [e2]; exact fr_st ⟨rfl, rfl⟩
      have hv : v4 = v3 := by rw [e4, e3, hf1 _ _ (by omega), (hR.2.2.2.1 h hh).1]
      rw [hv]
      refine hK _ S2 ⟨y0, n0, y1, n1, d, hR.1.keep (fun c j hc => by rw [hf2 _ _ (by omega), hf1 _ _ (by omega)]), hR.2.1.keep (fun c j hc => by rw [hf2 _ _ (by omega), hf1 _ _ (by omega)]), hR.2.2.1.keep (fun c j hc => by rw [hf2 _ _ (by omega), hf1 _ _ (by omega)]), ?_⟩
      obtain ⟨o1, o2, o3, o4⟩ := hR.2.2.2
      refine ⟨fun t ht => ?_, fun p hp => ?_, fun s hs => (o3 s hs).keep (fun c j hc => by rw [hf2 _ _ (by omega), hf1 _ _ (by omega)]), ?_⟩
      · by_cases q : t = h
        · subst q
          rw [hf2 10 t (by omega), e1, gz_st_v, e2, gz_st_v]
          have a50 : (-50 : Int32).toInt = -50 := by decide
          have b50 : (50 : Int32).toInt = 50 := by decide
          rw [pn_le, pn_le, a50, b50] at g2
          exact ⟨rfl, g2⟩
        · rw [hf2 10 t (by omega), hf1 10 t (by omega), hf2 57 t (by omega), hf1 57 t (by omega)]; exact o1 t ht
      · rw [hf2 11 p (by omega), hf1 11 p (by omega), hf2 58 p (by omega), hf1 58 p (by omega)]; exact o2 p hp
      · rw [hf2 0 7 (by omega), hf1 0 7 (by omega), hf2 45 4 (by omega), hf1 45 4 (by omega)]; exact o4
    · exact w_within (fun a b => absurd ⟨a, b⟩ g2) (fun _ => ⟨fun c => absurd rfl c, fun _ => hF _ (w_isHour (fun _ _ => ⟨fun c => absurd c n10, fun _ => w_in (lo := -50) (hi := 50) (by decide) (by decide) (fun a b => absurd ⟨a, b⟩ g2) (fun _ => ⟨fun c => absurd rfl c, fun _ => hK _ S ⟨_, _, _, _, _, hR⟩⟩)⟩) (fun g => absurd g1 g))⟩)
  · exact w_within (fun a b => absurd ⟨a, b⟩ g1) (fun _ => ⟨fun _ => hF _ (w_isHour (fun a b => absurd ⟨a, b⟩ g1) (fun _ => ⟨fun _ => hK _ S ⟨_, _, _, _, _, hR⟩, fun c => absurd rfl c⟩)), fun c => absurd rfl c⟩)
theorem p_arm (x1 x2 : Int32) : pr (wX7_arm x1 x2) (wX8_arm x1 x2) := by
  intro S F K ⟨y0, n0, y1, n1, d, hR⟩ hF hK
  unfold wX7_arm wX8_arm
  by_cases g1 : 0 ≤ x1 ∧ x1 ≤ 7
  · refine w_within (fun _ _ => ⟨fun c => absurd c n10, fun _ => ?_⟩) (fun g => absurd g1 g)
    by_cases g2 : 0 ≤ x2 ∧ x2 ≤ 5
    · obtain ⟨h, hh, rfl⟩ := pn_rng (hi := 7) (by decide) g1.1 g1.2
      obtain ⟨v, hv5, rfl⟩ := pn_rng (hi := 5) (by decide) g2.1 g2.2
      refine w_within (fun _ _ => ⟨fun _ => ⟨pn_in (by omega) (by decide), fun v3 e3 => ⟨pn_in (by omega) (by decide), fun S1 e1 => hF _ ?_⟩⟩, fun c => absurd c n10⟩) (fun g => absurd g2 g)
      refine w_in (lo := 0) (hi := 7) (by decide) (by decide) (fun _ _ => ⟨fun c => absurd c n10, fun _ => ?_⟩) (fun g => absurd g1 g)
      refine w_in (lo := 0) (hi := 5) (by decide) (by decide) (fun _ _ => ⟨fun _ => ⟨pn_in (by omega) (by decide), fun v4 e4 => ⟨pn_in (by omega) (by decide), fun S2 e2 => ?_⟩⟩, fun c => absurd c n10⟩) (fun g => absurd g2 g)
      rw [pn_cl (by omega)] at e1 e2 e3 e4
      have hf1 : fr (fun a j => a = 11 ∧ j = h) S S1 := by rw [e1]; exact fr_st ⟨rfl, rfl⟩
      have hf2 : fr (fun a j => a = 58 ∧ j = h) S1 S2 := by rw [e2]; exact fr_st ⟨rfl, rfl⟩
      obtain ⟨o1, o2, o3, o4⟩ := hR.2.2.2
      have hv : v4 = v3 := by rw [e4, e3, hf1 _ _ (by omega), (o2 h (by omega)).1]
      rw [hv]
      refine hK _ S2 ⟨y0, n0, y1, n1, d, hR.1.keep (fun c j hc => by rw [hf2 _ _ (by omega), hf1 _ _ (by omega)]), hR.2.1.keep (fun c j hc => by rw [hf2 _ _ (by omega), hf1 _ _ (by omega)]), hR.2.2.1.keep (fun c j hc => by rw [hf2 _ _ (by omega), hf1 _ _ (by omega)]), ?_⟩
      refine ⟨fun t ht => ?_, fun p hp => ?_, fun s hs => (o3 s hs).keep (fun c j hc => by rw [hf2 _ _ (by omega), hf1 _ _ (by omega)]), ?_⟩
      · rw [hf2 10 t (by omega), hf1 10 t (by omega), hf2 57 t (by omega), hf1 57 t (by omega)]; exact o1 t ht
      · by_cases q : p = h
        · subst q
          rw [hf2 11 p (by omega), e1, gz_st_v, e2, gz_st_v]
          exact ⟨rfl, v, hv5, rfl⟩
        · rw [hf2 11 p (by omega), hf1 11 p (by omega), hf2 58 p (by omega), hf1 58 p (by omega)]; exact o2 p hp
      · rw [hf2 0 7 (by omega), hf1 0 7 (by omega), hf2 45 4 (by omega), hf1 45 4 (by omega)]; exact o4
    · exact w_within (fun a b => absurd ⟨a, b⟩ g2) (fun _ => ⟨fun c => absurd rfl c, fun _ => hF _ (w_in (lo := 0) (hi := 7) (by decide) (by decide) (fun _ _ => ⟨fun c => absurd c n10, fun _ => w_in (lo := 0) (hi := 5) (by decide) (by decide) (fun a b => absurd ⟨a, b⟩ g2) (fun _ => ⟨fun c => absurd rfl c, fun _ => hK _ S ⟨_, _, _, _, _, hR⟩⟩)⟩) (fun g => absurd g1 g))⟩)
  · exact w_within (fun a b => absurd ⟨a, b⟩ g1) (fun _ => ⟨fun _ => hF _ (w_in (lo := 0) (hi := 7) (by decide) (by decide) (fun a b => absurd ⟨a, b⟩ g1) (fun _ => ⟨fun _ => hK _ S ⟨_, _, _, _, _, hR⟩, fun c => absurd rfl c⟩)), fun c => absurd rfl c⟩)
