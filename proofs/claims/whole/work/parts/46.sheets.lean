/-! ===== sheets ===== -/
def shP (a j : Nat) : Prop := (a = 0 ∧ j = 7) ∨ (37 ≤ a ∧ a ≤ 44) ∨ (a = 45 ∧ j = 4) ∨ (46 ≤ a ∧ a ≤ 49)
theorem Rd.shs {S S' : gz_S} {y0 y1 : Nat → Nat} {n0 n1 : Nat} {d : dt} (h : Rd S y0 n0 y1 n1 d) (hf : fr shP S S') (h3 : ∀ s, s < 4 → shR S' s) (h4 : S' 0 7 = S' 45 4) : Rel S' := by
  obtain ⟨o1, o2, -, -⟩ := h.2.2.2
  refine ⟨y0, n0, y1, n1, d, h.1.keep (fun c j hc => hf c j (by unfold shP; omega)), h.2.1.keep (fun c j hc => hf c j (by unfold shP; omega)), h.2.2.1.keep (fun c j hc => hf c j (by unfold shP; omega)), fun t ht => ?_, fun p hp => ?_, h3, h4⟩
  · rw [hf _ _ (by unfold shP; omega), hf 57 _ (by unfold shP; omega)]; exact o1 t ht
  · rw [hf 11 _ (by unfold shP; omega), hf 58 _ (by unfold shP; omega)]; exact o2 p hp
theorem Rd.sh {S : gz_S} {y0 y1 : Nat → Nat} {n0 n1 : Nat} {d : dt} (h : Rd S y0 n0 y1 n1 d) {s : Nat} (hs : s < 4) : shR S s := h.2.2.2.2.2.1 s hs
theorem Rd.fnd {S S1 S2 : gz_S} {y0 y1 : Nat → Nat} {n0 n1 : Nat} {d : dt} {k : Int32} (h : Rd S y0 n0 y1 n1 d) (e1 : S1 = gz_st S 0 7 k) (e2 : S2 = gz_st S1 45 4 k) : Rel S2 := by
  have f1 : fr (fun c j => c = 0 ∧ j = 7) S S1 := by rw [e1]; exact fr_st ⟨rfl, rfl⟩
  have f2 : fr (fun c j => c = 45 ∧ j = 4) S1 S2 := by rw [e2]; exact fr_st ⟨rfl, rfl⟩
  refine h.shs (fun c j hc => ?_) (fun s hs => (h.sh hs).keep (fun c j hc => ?_)) ?_
  · unfold shP at hc
    rw [f2 _ _ (by omega), f1 _ _ (by omega)]
  · rw [f2 _ _ (by omega), f1 _ _ (by omega)]
  · rw [f2 0 7 (by omega), e1, gz_st_v, e2, gz_st_v]
theorem n60 {s : Nat} (h : s < 4) : gz_n (37 + 2 * s + 1) = 60 := by
  have : s = 0 ∨ s = 1 ∨ s = 2 ∨ s = 3 := by omega
  rcases this with rfl | rfl | rfl | rfl <;> rfl
theorem s03 {s : Nat} (h : s < 4) : (0 : Int32) ≤ nI s ∧ nI s ≤ 3 := ⟨nI_pos' (by omega), nI_le (b := 3) (by omega) (by decide)⟩
theorem f02 {f : Nat} (h : f ≤ 2) : (0 : Int32) ≤ nI f ∧ nI f ≤ 2 := ⟨nI_pos' (by omega), nI_le (b := 2) h (by decide)⟩
theorem m60 (s i : Nat) : (60 : Int32) * nI s + nI i = nI (60 * s + i) := by rw [show (60 : Int32) * nI s = nI (60 * s) from pk_mul 60 s, nI_add]
theorem neg1 : ¬ (0 : Int32) ≤ -1 := by decide
/-! the sheet's number -/
theorem sh_x {x : Int32} (h : 0 ≤ x ∧ x ≤ 3) : ∃ s, s < 4 ∧ x = nI s := by
  obtain ⟨s, hs, e⟩ := pn_rng (hi := 3) (by decide) h.1 h.2
  exact ⟨s, by omega, e⟩
/-! ===== sheet ===== -/
theorem x_renew {s f n : Nat} {S : gz_S} {Q : gz_S → Prop} (hs : s < 4) (hQ : ∀ S', fr (fun c j => (c = 37 + 2 * s ∧ (j = 1 ∨ j = 2)) ∨ c = 37 + 2 * s + 1) S S' → S' (37 + 2 * s) 1 = nI f → S' (37 + 2 * s) 2 = nI n → (∀ i, i < 60 → S' (37 + 2 * s + 1) i = 0) → Q S') : wX5_renew (37 + 2 * s) (nI f) (nI n) S Q := by
  unfold wX5_renew
  intro S2 e2 S7 e7
  refine w_fill (n60 hs) (by decide) (hQ _ ?_ ?_ ?_ (fun i hi => gz_fl_in _ _ _ _ hi))
  · refine fr.tr (S1 := S2) ?_ (fr.tr (S1 := S7) ?_ (fr_fl (fun j => Or.inr rfl)))
    · rw [e2]; exact fr_st (by omega)
    · rw [e7]; exact fr_st (by omega)
  · unfold gz_fl
    rw [gz_u_ne _ _ (by omega), e7, gz_st_o _ _ _ (by decide), e2, gz_st_v]
  · unfold gz_fl
    rw [gz_u_ne _ _ (by omega), e7, gz_st_v]
theorem m_sheet_lp {s n : Nat} {S0 : gz_S} {Q : Int32 → gz_S → Prop} (hs : s < 4) (hn : n ≤ 60) (hQ : ∀ S', fr (fun c j => c = 48 ∧ 60 * s ≤ j ∧ j < 60 * s + 60) S0 S' → (∀ i, i < n → S' 48 (60 * s + i) = 0) → Q (nI n) S') : ∀ (m i : Nat) (S : gz_S), i + m = n → fr (fun c j => c = 48 ∧ 60 * s ≤ j ∧ j < 60 * s + 60) S0 S → (∀ k, k < i → S 48 (60 * s + k) = 0) → wX8_sheet_55 Q (m + 1) (nI s) (nI n) (nI i) S
  | 0, i, S, h1, hf, hz => by
    obtain rfl : i = n := by omega
    unfold wX8_sheet_55
    exact ⟨fun _ => hQ S hf hz, fun c => absurd (nI_le (Nat.le_refl _) (by omega)) c⟩
  | m + 1, i, S, h1, hf, hz => by
    unfold wX8_sheet_55
    rw [nle (by omega) (by omega), m60, pn_cl (by omega), nI_1]
    refine ⟨fun c => by omega, fun _ => ⟨pn_in (by omega) (by decide), fun S1 e1 => m_sheet_lp hs hn hQ m (i + 1) S1 (by omega) (hf.tr ?_) (fun k hk => ?_)⟩⟩
    · rw [e1]; exact fr_st (by omega)
    · rw [e1]
      by_cases q : k = i
      · rw [q, gz_st_v]
      · rw [gz_st_o _ _ _ (by omega)]; exact hz k (by omega)
theorem p_sheet (x1 x2 x3 : Int32) : pr (wX7_sheet x1 x2 x3) (wX8_sheet x1 x2 x3) := by
  intro S F K ⟨y0, n0, y1, n1, d, hR⟩ hF hK
  have hRel : Rel S := ⟨_, _, _, _, _, hR⟩
  unfold wX7_sheet wX8_sheet
  by_cases g1 : 0 ≤ x1 ∧ x1 ≤ 3
  · refine w_within (fun _ _ => ⟨fun c => absurd c n10, fun _ => ?_⟩) (fun g => absurd g1 g)
    by_cases g2 : 0 ≤ x2 ∧ x2 ≤ 2
    · refine w_within (fun _ _ => ⟨fun c => absurd c n10, fun _ => ?_⟩) (fun g => absurd g2 g)
      have hM : ∀ (S1 : gz_S) (Q : Int32 → gz_S → Prop), _ → wX8_isSheet x1 S1 (fun r1 S1 => (r1 = 0 → Q (-2) S1) ∧ (¬ r1 = 0 → wX8_in (x2.toInt64) 0 2 S1 (fun r13 S13 => (r13 = 0 → Q (-2) S13) ∧ (¬ r13 = 0 → (x3 ≤ 60 → (0 ≤ x3 → vp_in x1 4 ∧ ∀ S44, S44 = gz_st S13 46 x1.toNatClampNeg x2 → vp_in x1 4 ∧ ∀ S51, S51 = gz_st S44 47 x1.toNatClampNeg x3 → ∃ m55, wX8_sheet_55 Q m55 x1 x3 0 S51) ∧ (¬ 0 ≤ x3 → wX8_met 5 S13 (fun r34 S34 => Q r34 S34))) ∧ (¬ x3 ≤ 60 → Q (-2) S13))))) := fun S1 Q h => w_isSheet (fun _ _ => ⟨fun c => absurd c n10, fun _ => w_in (lo := 0) (hi := 2) (by decide) (by decide) (fun _ _ => ⟨fun c => absurd c n10, fun _ => h⟩) (fun g => absurd g2 g)⟩) (fun g => absurd g1 g)
      obtain ⟨s, hs, rfl⟩ := sh_x g1
      obtain ⟨f, hf, rfl⟩ := pn_rng (hi := 2) (by decide) g2.1 g2.2
      rw [pn_cl (by omega)] at hM ⊢
      refine ⟨fun g3 => ⟨fun g4 => ?_, fun g4 => ?_⟩, fun g3 => hF _ (hM _ _ ⟨fun c => absurd c g3, fun _ => hK _ S hRel⟩)⟩
      · obtain ⟨n, hn, rfl⟩ := pn_rng (hi := 60) (by decide) g4 g3
        refine ⟨pn_in hs (by decide), x_renew hs (fun S1 hf1 a1 a2 a3 => hF _ (hM _ _ ⟨fun _ => ⟨fun _ => ⟨pn_in hs (by decide), fun S44 e44 => ⟨pn_in hs (by decide), fun S51 e51 => ⟨n + 1, ?_⟩⟩⟩, fun c => absurd g4 c⟩, fun c => absurd g3 c⟩))⟩
        have f44 : fr (fun c j => c = 46 ∧ j = s) S1 S44 := by rw [e44]; exact fr_st ⟨rfl, rfl⟩
        have f51 : fr (fun c j => c = 47 ∧ j = s) S44 S51 := by rw [e51]; exact fr_st ⟨rfl, rfl⟩
        refine m_sheet_lp hs hn (fun S3 hf3 hz => hK _ S3 (hR.shs (fun c j hc => ?_) (fun t ht => ?_) ?_)) n 0 S51 (by omega) fr_rf (fun k hk => by omega)
        · unfold shP at hc
          rw [hf3 _ _ (by omega), f51 _ _ (by omega), f44 _ _ (by omega), hf1 _ _ (by omega)]
        · by_cases q : t = s
          · subst q
            refine Or.inr ⟨f, n, hf, hn, ?_, ?_, ?_, ?_, fun i hi => ?_⟩
            · rw [hf3 _ _ (by omega), f51 _ _ (by omega), f44 _ _ (by omega)]; exact a1
            · rw [hf3 _ _ (by omega), f51 _ _ (by omega), f44 _ _ (by omega)]; exact a2
            · rw [hf3 _ _ (by omega), f51 _ _ (by omega), e44, gz_st_v]
            · rw [hf3 _ _ (by omega), e51, gz_st_v]
            · rw [hz i hi, hf3 _ _ (by omega), f51 _ _ (by omega), f44 _ _ (by omega)]; exact a3 i (by omega)
          · refine (hR.sh ht).keep (fun c j hc => ?_)
            rw [hf3 _ _ (by omega), f51 _ _ (by omega), f44 _ _ (by omega), hf1 _ _ (by omega)]
        · rw [hf3 0 _ (by omega), f51 0 _ (by omega), f44 0 _ (by omega), hf1 0 _ (by omega), hf3 45 _ (by omega), f51 45 _ (by omega), f44 45 _ (by omega), hf1 45 _ (by omega)]
          exact hR.2.2.2.2.2.2
      · intro S1 e1
        refine hF _ (hM _ _ ⟨fun _ => ⟨fun c => absurd c g4, fun _ S2 e2 => hK _ S2 (hR.fnd e1 e2)⟩, fun c => absurd g3 c⟩)
    · exact w_within (fun a b => absurd ⟨a, b⟩ g2) (fun _ => ⟨fun _ => hF _ (w_isSheet (fun _ _ => ⟨fun c => absurd c n10, fun _ => w_in (lo := 0) (hi := 2) (by decide) (by decide) (fun a b => absurd ⟨a, b⟩ g2) (fun _ => ⟨fun _ => hK _ S hRel, fun c => absurd rfl c⟩)⟩) (fun g => absurd g1 g)), fun c => absurd rfl c⟩)
  · exact w_within (fun a b => absurd ⟨a, b⟩ g1) (fun _ => ⟨fun _ => hF _ (w_isSheet (fun a b => absurd ⟨a, b⟩ g1) (fun _ => ⟨fun _ => hK _ S hRel, fun c => absurd rfl c⟩)), fun c => absurd rfl c⟩)
/-! ===== refusals ===== -/
theorem x_ref {s : Nat} {S : gz_S} {Q : Int32 → gz_S → Prop} (hs : s < 4) (h : shR S s) (h1 : S 46 s = -1 → ∀ S1, S1 = gz_st S 0 7 1 → Q (-10 - 1) S1) (h0 : (∃ f n : Nat, f ≤ 2 ∧ n ≤ 60 ∧ S (37 + 2 * s) 1 = nI f ∧ S (37 + 2 * s) 2 = nI n ∧ S 46 s = nI f ∧ S 47 s = nI n ∧ ∀ i, i < n → S (37 + 2 * s + 1) i = S 48 (60 * s + i)) → Q 0 S) : wX7_refusalOf (nI s) S Q := by
  unfold wX7_refusalOf
  rw [pn_cl (by omega)]
  refine w_within (fun _ _ => ⟨fun _ => ⟨pn_in hs (by decide), ?_⟩, fun c => absurd c n10⟩) (fun g => absurd (s03 hs) g)
  unfold wX5_isLost
  rcases h with ⟨q1, q2⟩ | ⟨f, n, q1, q2, q3, q4, q5⟩
  · rw [q1]
    exact ⟨fun c => absurd rfl c, fun _ => ⟨fun c => absurd c n10, fun _ S1 e1 => h1 q2 S1 e1⟩⟩
  · rw [q4]
    exact ⟨fun _ => ⟨fun _ => h0 ⟨f, n, q1, q2, q3, q4, q5⟩, fun c => absurd rfl c⟩, fun c => absurd c (nm1 (by omega))⟩
theorem p_lose (x1 : Int32) : pr (wX7_lose x1) (wX8_lose x1) := by
  intro S F K ⟨y0, n0, y1, n1, d, hR⟩ hF hK
  have hRel : Rel S := ⟨_, _, _, _, _, hR⟩
  by_cases g1 : 0 ≤ x1 ∧ x1 ≤ 3
  · obtain ⟨s, hs, rfl⟩ := sh_x g1
    unfold wX7_lose
    have hM : ∀ (S1 : gz_S) (Q : Int32 → gz_S → Prop), _ → wX8_lose (nI s) S1 Q := fun S1 Q h => w_isSheet (fun _ _ => ⟨fun _ => ⟨pn_in hs (by decide), h⟩, fun c => absurd c n10⟩) (fun g => absurd g1 g)
    rw [pn_cl (by omega)] at hM ⊢
    refine x_ref hs (hR.sh hs) (fun q S1 e1 => ⟨fun c => absurd c (by decide), fun _ => hF _ (hM _ _ ?_)⟩) (fun q => ⟨fun _ => ⟨pn_in hs (by decide), fun v3 e3 => ⟨pn_in hs (by decide), fun S1 e1 => hF _ (hM _ _ ?_)⟩⟩, fun c => absurd rfl c⟩)
    · have q' : S1 46 s = -1 := by rw [e1, gz_st_n _ _ _ (by decide)]; exact q
      rw [q']
      exact ⟨fun c => absurd c neg1, fun _ S2 e2 => hK _ S2 (hR.fnd e1 e2)⟩
    · obtain ⟨f, n, q1, q2, q3, q4, q5, q6, q7⟩ := q
      have f1 : fr (fun c j => c = 37 + 2 * s ∧ j = 2) S S1 := by rw [e1]; exact fr_st ⟨rfl, rfl⟩
      have q' : S1 46 s = nI f := by rw [f1 _ _ (by omega)]; exact q5
      rw [q']
      refine ⟨fun _ => ⟨pn_in hs (by decide), fun S2 e2 => ⟨pn_in hs (by decide), ?_⟩⟩, fun c => absurd (nI_pos' (by omega)) c⟩
      have f2 : fr (fun c j => c = 46 ∧ j = s) S1 S2 := by rw [e2]; exact fr_st ⟨rfl, rfl⟩
      have hv : S2 47 s = v3 := by rw [f2 _ _ (by omega), f1 _ _ (by omega), q6, e3, q4]
      rw [hv]
      refine hK _ S2 (hR.shs (fun c j hc => ?_) (fun t ht => ?_) ?_)
      · unfold shP at hc
        rw [f2 _ _ (by omega), f1 _ _ (by omega)]
      · by_cases q : t = s
        · subst q
          refine Or.inl ⟨?_, ?_⟩
          · rw [f2 _ _ (by omega), e1, gz_st_v]
          · rw [e2, gz_st_v]
        · refine (hR.sh ht).keep (fun c j hc => ?_)
          rw [f2 _ _ (by omega), f1 _ _ (by omega)]
      · rw [f2 0 _ (by omega), f1 0 _ (by omega), f2 45 _ (by omega), f1 45 _ (by omega)]
        exact hR.2.2.2.2.2.2
  · unfold wX7_lose wX8_lose wX7_refusalOf
    exact w_within (fun a b => absurd ⟨a, b⟩ g1) (fun _ => ⟨fun c => absurd rfl c, fun _ => ⟨fun c => absurd c (by decide), fun _ => hF _ (w_isSheet (fun a b => absurd ⟨a, b⟩ g1) (fun _ => ⟨fun c => absurd rfl c, fun _ => hK _ S hRel⟩))⟩⟩)
/-! ===== an item ===== -/
def itc (S : gz_S) (s f : Nat) (x : Int32) : Int32 := if S 46 s = -1 then 1 else if S 46 s = nI f then (if 0 ≤ x ∧ x ≤ S 47 s - 1 then 0 else 2) else 3
theorem x_item {s f : Nat} {x : Int32} {S : gz_S} {Q : Int32 → gz_S → Prop} (hs : s < 4) (hf : f ≤ 2) (h : shR S s) (h0 : itc S s f x = 0 → Q 0 S) (hk : ∀ k, k = 1 ∨ k = 2 ∨ k = 3 → itc S s f x = k → ∀ S1, S1 = gz_st S 0 7 k → Q (-10 - k) S1) : wX7_refusalOfItem (nI s) (nI f) x S Q := by
  unfold wX7_refusalOfItem
  rw [pn_cl (by omega)]
  refine w_within (fun _ _ => ⟨fun c => absurd c n10, fun _ => ?_⟩) (fun g => absurd (s03 hs) g)
  refine w_within (fun _ _ => ⟨fun _ => ⟨pn_in hs (by decide), ?_⟩, fun c => absurd c n10⟩) (fun g => absurd (f02 hf) g)
  unfold wX5_isLost
  unfold itc at h0 hk
  rcases h with ⟨q1, q2⟩ | ⟨g, n, q1, q2, q3, q4, q5, q6, q7⟩
  · rw [q1]
    exact ⟨fun c => absurd rfl c, fun _ => ⟨fun c => absurd c n10, fun _ S1 e1 => hk 1 (Or.inl rfl) (by rw [if_pos q2]) S1 e1⟩⟩
  · rw [q4]
    have q5' : ¬ S 46 s = -1 := by rw [q5]; exact nm1 (by omega)
    refine ⟨fun _ => ⟨fun _ => ⟨pn_in hs (by decide), ?_, ?_⟩, fun c => absurd rfl c⟩, fun c => absurd c (nm1 (by omega))⟩
    · rw [q3, q4]
      intro c
      refine ⟨pn_in hs (by decide), w_within (fun a b => ⟨fun c => absurd c n10, fun _ => h0 ?_⟩) (fun g => ⟨fun _ S1 e1 => hk 2 (Or.inr (Or.inl rfl)) ?_ S1 e1, fun c => absurd rfl c⟩)⟩
      · rw [if_neg q5', if_pos (by rw [q5, c]), q6, if_pos ⟨a, b⟩]
      · rw [if_neg q5', if_pos (by rw [q5, c]), q6, if_neg g]
    · rw [q3]
      intro c S1 e1
      refine hk 3 (Or.inr (Or.inr rfl)) ?_ S1 e1
      rw [if_neg q5', if_neg (by rw [q5]; exact c)]
theorem m_item {s f : Nat} {x : Int32} {S : gz_S} {Q : Int32 → gz_S → Prop} (hs : s < 4) (hf : f ≤ 2) (h : shR S s) (h0 : itc S s f x = 0 → Q 0 S) (hk : ∀ k, k = 1 ∨ k = 2 ∨ k = 3 → itc S s f x = k → ∀ S1, S1 = gz_st S 45 4 k → Q (-10 - k) S1) : wX8_lacks (nI s) (nI f) x S Q := by
  unfold wX8_lacks
  rw [pn_cl (by omega)]
  refine ⟨pn_in hs (by decide), ?_⟩
  unfold itc at h0 hk
  rcases h with ⟨q1, q2⟩ | ⟨g, n, q1, q2, q3, q4, q5, q6, q7⟩
  · rw [q2]
    exact ⟨fun c => absurd c neg1, fun _ S1 e1 => hk 1 (Or.inl rfl) (by rw [if_pos q2]) S1 e1⟩
  · have q5' : ¬ S 46 s = -1 := by rw [q5]; exact nm1 (by omega)
    rw [q5]
    refine ⟨fun _ => ⟨pn_in hs (by decide), ?_, ?_⟩, fun c => absurd (nI_pos' (by omega)) c⟩
    · intro c
      refine ⟨pn_in hs (by decide), w_in (lo := 0) (by decide) rfl (fun a b => ⟨fun c => absurd c n10, fun _ => h0 ?_⟩) (fun g => ⟨fun _ S1 e1 => hk 2 (Or.inr (Or.inl rfl)) ?_ S1 e1, fun c => absurd rfl c⟩)⟩
      · rw [if_neg q5', if_pos (by rw [q5, c]), if_pos ⟨a, b⟩]
      · rw [if_neg q5', if_pos (by rw [q5, c]), if_neg g]
    · intro c S1 e1
      refine hk 3 (Or.inr (Or.inr rfl)) ?_ S1 e1
      rw [if_neg q5', if_neg (by rw [q5]; exact c)]
theorem k_ne {k : Int32} (h : k = 1 ∨ k = 2 ∨ k = 3) : ¬ (-10 - k) = 0 := by rcases h with rfl | rfl | rfl <;> decide
theorem itc_keep {S S' : gz_S} {s f : Nat} {x : Int32} (h : ∀ c j, c = 46 ∨ c = 47 → S' c j = S c j) : itc S' s f x = itc S s f x := by unfold itc; rw [h _ _ (Or.inl rfl), h _ _ (Or.inr rfl)]
theorem itc_k {S : gz_S} {s f : Nat} {x k : Int32} (h : k = 1 ∨ k = 2 ∨ k = 3) (e : itc S s f x = k) : itc S s f x ≠ 0 := by rw [e]; rcases h with rfl | rfl | rfl <;> decide
theorem itc_0 {S : gz_S} {s f : Nat} {x : Int32} (hf : f ≤ 2) (h : shR S s) (e : itc S s f x = 0) : ∃ n i : Nat, n ≤ 60 ∧ i < n ∧ x = nI i ∧ S (37 + 2 * s) 1 = nI f ∧ S (37 + 2 * s) 2 = nI n ∧ S 46 s = nI f ∧ S 47 s = nI n ∧ ∀ i, i < n → S (37 + 2 * s + 1) i = S 48 (60 * s + i) := by
  unfold itc at e
  split at e
  · exact absurd e (by decide)
  next a =>
    split at e
    next b =>
      split at e
      next c =>
        rcases h with ⟨q1, q2⟩ | ⟨g, n, q1, q2, q3, q4, q5, q6, q7⟩
        · exact absurd q2 a
        · rw [q5, neq (by omega) (by omega)] at b
          subst b
          rw [q6] at c
          obtain ⟨i, hi, rfl⟩ := (rngm (by omega)).mp c
          exact ⟨n, i, q2, hi, rfl, q3, q4, q5, q6, q7⟩
      · exact absurd e (by decide)
    · exact absurd e (by decide)
def cutv (f : Nat) (v : Int32) : Int32 := if f = 0 then v.toInt8.toInt32 else if f = 1 then v.toInt16.toInt32 else v
theorem x_put5 {a0 f i : Nat} {v : Int32} {S : gz_S} {Q : gz_S → Prop} (hf : f ≤ 2) (hi : i < 60) (h : S a0 1 = nI f) (hQ : ∀ S1, S1 = gz_st S (a0 + 1) i (cutv f v) → Q S1) : wX5_put a0 (nI i) v S Q := by
  unfold wX5_put
  rw [h, n0' hf, n1' hf, pn_cl (by omega)]
  unfold cutv at hQ
  refine ⟨fun c => ⟨fun c2 => ⟨pn_in hi (by decide), fun S1 e1 => ?_⟩, fun c2 => ⟨pn_in hi (by decide), fun S1 e1 => ?_⟩⟩, fun c => ⟨pn_in hi (by decide), fun S1 e1 => ?_⟩⟩
  · rw [if_neg c, if_neg c2] at hQ; exact hQ S1 e1
  · rw [if_neg c, if_pos c2] at hQ; exact hQ S1 e1
  · rw [if_pos c] at hQ; exact hQ S1 e1
theorem m_cut {f : Nat} {v : Int32} {S : gz_S} {Q : Int32 → gz_S → Prop} (hf : f ≤ 2) (hQ : Q (cutv f v) S) : wX8_cut (nI f) v S Q := by
  unfold wX8_cut
  rw [n0' hf, n1' hf]
  unfold cutv at hQ
  refine ⟨fun c => ⟨fun c2 => ?_, fun c2 => ?_⟩, fun c => ?_⟩
  · rw [if_neg c, if_neg c2] at hQ; exact hQ
  · rw [if_neg c, if_pos c2] at hQ; exact hQ
  · rw [if_pos c] at hQ; exact hQ
theorem p_lay (x1 x2 x3 x4 : Int32) : pr (wX7_lay x1 x2 x3 x4) (wX8_lay x1 x2 x3 x4) := by
  intro S F K ⟨y0, n0, y1, n1, d, hR⟩ hF hK
  have hRel : Rel S := ⟨_, _, _, _, _, hR⟩
  unfold wX7_lay wX8_lay
  by_cases g1 : 0 ≤ x1 ∧ x1 ≤ 3
  · by_cases g2 : 0 ≤ x2 ∧ x2 ≤ 2
    · have hM : ∀ (S1 : gz_S) (Q : Int32 → gz_S → Prop), wX8_lacks x1 x2 x3 S1 (fun r26 S26 => (r26 = 0 → wX8_cut x2 x4 S26 (fun r52 S52 => vp_in ((60 * x1) + x3) 240 ∧ ∀ S55, S55 = gz_st S52 48 ((60 * x1) + x3).toNatClampNeg r52 → Q 1 S55)) ∧ (¬ r26 = 0 → Q r26 S26)) → wX8_isSheet x1 S1 (fun r1 S1 => (r1 = 0 → Q (-2) S1) ∧ (¬ r1 = 0 → wX8_in (x2.toInt64) 0 2 S1 (fun r13 S13 => (¬ r13 = 0 → wX8_lacks x1 x2 x3 S13 (fun r26 S26 => (r26 = 0 → wX8_cut x2 x4 S26 (fun r52 S52 => vp_in ((60 * x1) + x3) 240 ∧ ∀ S55, S55 = gz_st S52 48 ((60 * x1) + x3).toNatClampNeg r52 → Q 1 S55)) ∧ (¬ r26 = 0 → Q r26 S26))) ∧ (r13 = 0 → Q (-2) S13)))) := fun S1 Q h => w_isSheet (fun _ _ => ⟨fun c => absurd c n10, fun _ => w_in (lo := 0) (hi := 2) (by decide) (by decide) (fun _ _ => ⟨fun _ => h, fun c => absurd c n10⟩) (fun g => absurd g2 g)⟩) (fun g => absurd g1 g)
      obtain ⟨s, hs, rfl⟩ := sh_x g1
      obtain ⟨f, hf, rfl⟩ := pn_rng (hi := 2) (by decide) g2.1 g2.2
      refine x_item hs hf (hR.sh hs) (fun e => ⟨fun _ => ⟨pn_in hs (by decide), ?_⟩, fun c => absurd rfl c⟩) (fun k hk e S1 e1 => ⟨fun c => absurd c (k_ne hk), fun _ => hF _ (hM _ _ ?_)⟩)
      · obtain ⟨n, i, h1, h2, rfl, h3, h4, h5, h6, h7⟩ := itc_0 hf (hR.sh hs) e
        rw [pn_cl (by omega)]
        refine x_put5 hf (by omega) h3 (fun S1 e1 => hF _ (hM _ _ ?_))
        have f1 : fr (fun c j => c = 37 + 2 * s + 1 ∧ j = i) S S1 := by rw [e1]; exact fr_st ⟨rfl, rfl⟩
        have hi1 : itc S1 s f (nI i) = 0 := by rw [itc_keep (fun c j hc => f1 c j (by omega))]; exact e
        have hsh1 : shR S1 s ∨ True := Or.inr trivial
        have hlk : wX8_lacks (nI s) (nI f) (nI i) S1 (fun r26 S26 => (r26 = 0 → wX8_cut (nI f) x4 S26 (fun r52 S52 => vp_in ((60 * nI s) + nI i) 240 ∧ ∀ S55, S55 = gz_st S52 48 ((60 * nI s) + nI i).toNatClampNeg r52 → K 1 1 S55)) ∧ (¬ r26 = 0 → K 1 r26 S26)) := by
          unfold wX8_lacks
          rw [pn_cl (by omega), f1 46 _ (by omega), f1 47 _ (by omega), h5, h6, m60, pn_cl (by omega)]
          refine ⟨pn_in hs (by decide), fun _ => ⟨pn_in hs (by decide), fun _ => ⟨pn_in hs (by decide), w_in (lo := 0) (by decide) rfl (fun a b => ⟨fun c => absurd c n10, fun _ => ⟨fun _ => m_cut hf ⟨pn_in (by omega) (by decide), fun S2 e2 => ?_⟩, fun c => absurd rfl c⟩⟩) (fun g => absurd ((rngm (by omega)).mpr ⟨i, h2, rfl⟩) g)⟩, fun c => absurd rfl c⟩, fun c => absurd (nI_pos' (by omega)) c⟩
          have f2 : fr (fun c j => c = 48 ∧ j = 60 * s + i) S1 S2 := by rw [e2]; exact fr_st ⟨rfl, rfl⟩
          refine hK _ S2 (hR.shs (fun c j hc => ?_) (fun t ht => ?_) ?_)
          · unfold shP at hc
            rw [f2 _ _ (by omega), f1 _ _ (by omega)]
          · by_cases q : t = s
            · subst q
              refine Or.inr ⟨f, n, hf, h1, ?_, ?_, ?_, ?_, fun k hk => ?_⟩
              · rw [f2 _ _ (by omega), f1 _ _ (by omega)]; exact h3
              · rw [f2 _ _ (by omega), f1 _ _ (by omega)]; exact h4
              · rw [f2 _ _ (by omega), f1 _ _ (by omega)]; exact h5
              · rw [f2 _ _ (by omega), f1 _ _ (by omega)]; exact h6
              · by_cases q2 : k = i
                · subst q2
                  rw [f2 _ _ (by omega), e1, gz_st_v, e2, gz_st_v]
                · rw [f2 _ _ (by omega), f1 _ _ (by omega), f2 _ _ (by omega), f1 _ _ (by omega)]; exact h7 k hk
            · refine (hR.sh ht).keep (fun c j hc => ?_)
              rw [f2 _ _ (by omega), f1 _ _ (by omega)]
          · rw [f2 0 _ (by omega), f1 0 _ (by omega), f2 45 _ (by omega), f1 45 _ (by omega)]
            exact hR.2.2.2.2.2.2
        exact hlk
      · have f1 : fr (fun c j => c = 0 ∧ j = 7) S S1 := by rw [e1]; exact fr_st ⟨rfl, rfl⟩
        have hi1 : itc S1 s f x3 = k := by rw [itc_keep (fun c j hc => f1 c j (by omega))]; exact e
        refine m_item hs hf ((hR.sh hs).keep (fun c j hc => f1 c j (by omega))) (fun q => absurd q (itc_k hk hi1)) (fun k2 hk2 e2 S2 es2 => ⟨fun c => absurd c (k_ne hk2), fun _ => ?_⟩)
        rw [hi1] at e2
        subst e2
        exact hK _ S2 (hR.fnd e1 es2)
    · unfold wX7_refusalOfItem
      exact w_within (fun _ _ => ⟨fun c => absurd c n10, fun _ => w_within (fun a b => absurd ⟨a, b⟩ g2) (fun _ => ⟨fun c => absurd rfl c, fun _ => ⟨fun c => absurd c (by decide), fun _ => hF _ (w_isSheet (fun _ _ => ⟨fun c => absurd c n10, fun _ => w_in (lo := 0) (hi := 2) (by decide) (by decide) (fun a b => absurd ⟨a, b⟩ g2) (fun _ => ⟨fun c => absurd rfl c, fun _ => hK _ S hRel⟩)⟩) (fun g => absurd g1 g))⟩⟩)⟩) (fun g => absurd g1 g)
  · unfold wX7_refusalOfItem
    exact w_within (fun a b => absurd ⟨a, b⟩ g1) (fun _ => ⟨fun _ => ⟨fun c => absurd c (by decide), fun _ => hF _ (w_isSheet (fun a b => absurd ⟨a, b⟩ g1) (fun _ => ⟨fun _ => hK _ S hRel, fun c => absurd rfl c⟩))⟩, fun c => absurd rfl c⟩)
theorem p_get (x1 x2 x3 : Int32) : pr (wX7_get x1 x2 x3) (wX8_get x1 x2 x3) := by
  intro S F K ⟨y0, n0, y1, n1, d, hR⟩ hF hK
  have hRel : Rel S := ⟨_, _, _, _, _, hR⟩
  unfold wX7_get wX8_get
  by_cases g1 : 0 ≤ x1 ∧ x1 ≤ 3
  · by_cases g2 : 0 ≤ x2 ∧ x2 ≤ 2
    · have hM : ∀ (S1 : gz_S) (Q : Int32 → gz_S → Prop), wX8_lacks x1 x2 x3 S1 (fun r23 S23 => (r23 = 0 → vp_in ((60 * x1) + x3) 240 ∧ Q (S23 48 ((60 * x1) + x3).toNatClampNeg) S23) ∧ (¬ r23 = 0 → Q (-2147483648) S23)) → wX8_isSheet x1 S1 (fun r1 S1 => (r1 = 0 → Q (-2147483648) S1) ∧ (¬ r1 = 0 → wX8_in (x2.toInt64) 0 2 S1 (fun r13 S13 => (r13 = 0 → Q (-2147483648) S13) ∧ (¬ r13 = 0 → wX8_lacks x1 x2 x3 S13 (fun r23 S23 => (r23 = 0 → vp_in ((60 * x1) + x3) 240 ∧ Q (S23 48 ((60 * x1) + x3).toNatClampNeg) S23) ∧ (¬ r23 = 0 → Q (-2147483648) S23)))))) := fun S1 Q h => w_isSheet (fun _ _ => ⟨fun c => absurd c n10, fun _ => w_in (lo := 0) (hi := 2) (by decide) (by decide) (fun _ _ => ⟨fun c => absurd c n10, fun _ => h⟩) (fun g => absurd g2 g)⟩) (fun g => absurd g1 g)
      obtain ⟨s, hs, rfl⟩ := sh_x g1
      obtain ⟨f, hf, rfl⟩ := pn_rng (hi := 2) (by decide) g2.1 g2.2
      refine x_item hs hf (hR.sh hs) (fun e => ⟨fun c => absurd rfl c, fun _ => ⟨pn_in hs (by decide), ?_⟩⟩) (fun k hk e S1 e1 => ⟨fun _ => hF _ (hM _ _ ?_), fun c => absurd c (k_ne hk)⟩)
      · obtain ⟨n, i, h1, h2, rfl, h3, h4, h5, h6, h7⟩ := itc_0 hf (hR.sh hs) e
        rw [pn_cl (by omega), pn_cl (by omega)]
        refine ⟨pn_in (by omega) (by decide), hF _ (hM _ _ (m_item hs hf (hR.sh hs) (fun _ => ⟨fun _ => ?_, fun c => absurd rfl c⟩) (fun k hk e2 => absurd e (itc_k hk e2))))⟩
        rw [m60, pn_cl (by omega), h7 i h2]
        exact ⟨pn_in (by omega) (by decide), hK _ S hRel⟩
      · have f1 : fr (fun c j => c = 0 ∧ j = 7) S S1 := by rw [e1]; exact fr_st ⟨rfl, rfl⟩
        have hi1 : itc S1 s f x3 = k := by rw [itc_keep (fun c j hc => f1 c j (by omega))]; exact e
        refine m_item hs hf ((hR.sh hs).keep (fun c j hc => f1 c j (by omega))) (fun q => absurd q (itc_k hk hi1)) (fun k2 hk2 e2 S2 es2 => ⟨fun c => absurd c (k_ne hk2), fun _ => ?_⟩)
        rw [hi1] at e2
        subst e2
        exact hK _ S2 (hR.fnd e1 es2)
    · unfold wX7_refusalOfItem
      exact w_within (fun _ _ => ⟨fun c => absurd c n10, fun _ => w_within (fun a b => absurd ⟨a, b⟩ g2) (fun _ => ⟨fun c => absurd rfl c, fun _ => ⟨fun _ => hF _ (w_isSheet (fun _ _ => ⟨fun c => absurd c n10, fun _ => w_in (lo := 0) (hi := 2) (by decide) (by decide) (fun a b => absurd ⟨a, b⟩ g2) (fun _ => ⟨fun _ => hK _ S hRel, fun c => absurd rfl c⟩)⟩) (fun g => absurd g1 g)), fun c => absurd c (by decide)⟩⟩)⟩) (fun g => absurd g1 g)
  · unfold wX7_refusalOfItem
    exact w_within (fun a b => absurd ⟨a, b⟩ g1) (fun _ => ⟨fun _ => ⟨fun _ => hF _ (w_isSheet (fun a b => absurd ⟨a, b⟩ g1) (fun _ => ⟨fun _ => hK _ S hRel, fun c => absurd rfl c⟩)), fun c => absurd c (by decide)⟩, fun c => absurd rfl c⟩)
