/-! ===== the reference's texts ===== -/
def mT0 (S : gz_S) (y : Nat → Nat) (n : Nat) : Prop := S 51 0 = nI n ∧ n ≤ 16 ∧ ∀ i, i < n → S 50 i = nI (y i) ∧ y i < 256
def mT1 (S : gz_S) (y : Nat → Nat) (n : Nat) : Prop := S 51 1 = nI n ∧ n ≤ 20 ∧ ∀ i, i < n → S 50 (16 + i) = nI (y i) ∧ y i < 256
theorem mT0.keep {S S' : gz_S} {y : Nat → Nat} {n : Nat} (h : mT0 S y n) (hs : ∀ a j, a = 50 ∨ a = 51 → S' a j = S a j) : mT0 S' y n := ⟨by rw [hs _ _ (Or.inr rfl)]; exact h.1, h.2.1, fun i hi => by rw [hs _ _ (Or.inl rfl)]; exact h.2.2 i hi⟩
theorem mT1.keep {S S' : gz_S} {y : Nat → Nat} {n : Nat} (h : mT1 S y n) (hs : ∀ a j, a = 50 ∨ a = 51 → S' a j = S a j) : mT1 S' y n := ⟨by rw [hs _ _ (Or.inr rfl)]; exact h.1, h.2.1, fun i hi => by rw [hs _ _ (Or.inl rfl)]; exact h.2.2 i hi⟩
theorem m_byte0 {y : Nat → Nat} {n i : Nat} {S : gz_S} {Q : Int32 → gz_S → Prop} (h : mT0 S y n) (hi : i < 1000) (h1 : i < n → Q (nI (y i)) S) (h0 : n ≤ i → Q (-1) S) : wX8_byteAt 0 (nI i) S Q := by
  obtain ⟨g1, g2, g3⟩ := h
  unfold wX8_byteAt
  have e : (16 : Int32) * 0 + nI i = nI i := by rw [show (16 : Int32) * 0 = nI 0 by decide, nI_add, Nat.zero_add]
  rw [e, cl0, g1, pn_cl (by omega)]
  refine ⟨in02, fun c => h0 ?_, fun c => ?_⟩
  · rw [nle (by omega) (by omega)] at c; exact c
  · rw [nle (by omega) (by omega)] at c
    refine ⟨pn_in (by omega) (by decide), ?_⟩
    rw [(g3 i (by omega)).1]
    exact h1 (by omega)
theorem m_byte1 {y : Nat → Nat} {n i : Nat} {S : gz_S} {Q : Int32 → gz_S → Prop} (h : mT1 S y n) (hi : i < 1000) (h1 : i < n → Q (nI (y i)) S) (h0 : n ≤ i → Q (-1) S) : wX8_byteAt 1 (nI i) S Q := by
  obtain ⟨g1, g2, g3⟩ := h
  unfold wX8_byteAt
  have e : (16 : Int32) * 1 + nI i = nI (16 + i) := by rw [show (16 : Int32) * 1 = nI 16 by decide, nI_add]
  rw [e, cl1, g1, pn_cl (by omega)]
  refine ⟨in12, fun c => h0 ?_, fun c => ?_⟩
  · rw [nle (by omega) (by omega)] at c; exact c
  · rw [nle (by omega) (by omega)] at c
    refine ⟨pn_in (by omega) (by decide), ?_⟩
    rw [(g3 i (by omega)).1]
    exact h1 (by omega)
def rP (a j : Nat) : Prop := a = 52 ∨ a = 53 ∨ (a = 45 ∧ j = 7)
def rS (a j : Nat) : Prop := a = 54 ∨ a = 55 ∨ (a = 45 ∧ j = 10)
theorem tb_snoc {lt : Bool} {mp : Nat} {y : Nat → Nat} {n : Nat} (h : tb lt mp y n = none) (h1 : n < 2 * mp) (h2 : tft lt n (y n) = true) : tb lt mp y (n + 1) = none := tb_none.mpr (fun i hi => by
  by_cases e : i = n
  · subst e; exact ⟨h1, h2⟩
  · exact tb_none.mp h i (by omega))
theorem m_readsPeople {y : Nat → Nat} {n : Nat} {S : gz_S} {Q : Int32 → gz_S → Prop} (h : mT0 S y n)
    (hQ : ∀ S', fr rP S S' → S' 45 7 = nI (tsz true 8 y n) → (tfl true 8 y n = none → ∀ p, p < n / 2 → S' 52 p = nI (tfs y p) ∧ S' 53 p = nI (tsn true y p)) → Q (oI (tfl true 8 y n)) S') : wX8_readsPeople S Q := by
  have hn := h.2.1
  -- an end with a fault
  have hbad : ∀ (i : Nat) (S1 S2 : gz_S), fr rP S S1 → S2 = gz_st S1 45 7 0 → tfl true 8 y n = some i → Q (nI i) S2 := by
    intro i S1 S2 hfr e2 hf
    have := hQ S2 (hfr.tr (by rw [e2]; exact fr_st (Or.inr (Or.inr ⟨rfl, rfl⟩)))) ?_ ?_
    · rw [hf] at this; exact this
    · rw [e2, gz_st_v]
      unfold tsz
      rw [if_neg (by rw [hf]; simp)]
      rfl
    · intro h9; rw [hf] at h9; cases h9
  have lp : ∀ (m p : Nat) (S1 : gz_S), 2 * p ≤ n → n ≤ 2 * (p + m) → tb true 8 y (2 * p) = none → fr rP S S1 → S1 45 7 = nI p → (∀ q, q < p → S1 52 q = nI (tfs y q) ∧ S1 53 q = nI (tsn true y q)) → wX8_readsPeople_7 Q (m + 1) (nI (2 * p)) S1 := by
    intro m
    induction m with
    | zero =>
      intro p S1 h1 h2 ht hfr h7 hpr
      obtain rfl : n = 2 * p := by omega
      have hT := h.keep (S' := S1) (fun a j h => hfr a j (by unfold rP; omega))
      unfold wX8_readsPeople_7
      rw [cl0, hT.1]
      refine ⟨in02, fun _ => ?_, fun c => absurd (nI_le (Nat.le_refl _) (by omega)) c⟩
      have hf := tfl_even ht (by omega)
      have := hQ S1 hfr ?_ (fun _ q hq => hpr q (by omega))
      · rw [hf] at this; exact this
      · rw [h7]; unfold tsz; rw [if_pos hf]; congr 1; omega
    | succ m ih =>
      intro p S1 h1 h2 ht hfr h7 hpr
      have hT := h.keep (S' := S1) (fun a j h => hfr a j (by unfold rP; omega))
      unfold wX8_readsPeople_7
      rw [cl0, hT.1]
      refine ⟨in02, fun c => ?_, fun c => ?_⟩
      · rw [nle (by omega) (by omega)] at c
        obtain rfl : n = 2 * p := by omega
        have hf := tfl_even ht (by omega)
        have := hQ S1 hfr ?_ (fun _ q hq => hpr q (by omega))
        · rw [hf] at this; exact this
        · rw [h7]; unfold tsz; rw [if_pos hf]; congr 1; omega
      · rw [nle (by omega) (by omega)] at c
        have hy0 := (hT.2.2 (2 * p) (by omega)).2
        refine m_byte0 hT (by omega) (fun _ v2 e2 => ?_) (fun g => by omega)
        rw [nI_1]
        -- what is done with the second byte r
        have hgo : ∀ r : Int32, (2 * p + 1 < n → r = nI (y (2 * p + 1))) → (n ≤ 2 * p + 1 → r = -1) → ((S1 45 7 = 8 → wX8_readsPeople_57 Q (nI (2 * p)) S1) ∧ (¬ S1 45 7 = 8 → wX8_in (v2.toInt64) 1 9 S1 (fun r51 S51 => (¬ r51 = 0 → (r = 121 → wX8_readsPeople_85 (fun y0 S => wX8_readsPeople_7 Q (m + 1) y0 S) Q (nI (2 * p)) v2 r S51) ∧ (¬ r = 121 → (r = 110 → wX8_readsPeople_85 (fun y0 S => wX8_readsPeople_7 Q (m + 1) y0 S) Q (nI (2 * p)) v2 r S51) ∧ (¬ r = 110 → ∀ S78, S78 = gz_st S51 45 7 0 → Q (nI (2 * p + 1)) S78))) ∧ (r51 = 0 → wX8_readsPeople_57 Q (nI (2 * p)) S51)))) := by
          intro r hr1 hr0
          refine ⟨fun g => ?_, fun _ => ?_⟩
          · rw [h7] at g
            have g' : nI p = nI 8 := g
            rw [neq (by omega) (by omega)] at g'
            omega
          · rw [e2]
            refine w_in (lo := 1) (hi := 9) (by decide) (by decide) (fun g1 g2 => ⟨fun _ => ?_, fun g => absurd g n10⟩) (fun g => ⟨fun g2 => absurd rfl g2, fun _ => ?_⟩)
            · have gg := (b48 hy0).mp ⟨g1, g2⟩
              have ft0 : tft true (2 * p) (y (2 * p)) = true := by unfold tft; rw [if_pos (by omega)]; simpa using gg
              have ht1 := tb_snoc ht (by omega) ft0
              have hyes : ∀ sd, r = 121 ∨ r = 110 → (if r = 121 then 0 else 1) = sd → wX8_readsPeople_85 (fun y0 S => wX8_readsPeople_7 Q (m + 1) y0 S) Q (nI (2 * p)) (nI (y (2 * p)) - 48) r S1 := by
                intro sd hr hsd
                have hlt : 2 * p + 1 < n := by
                  rcases Nat.lt_or_ge (2 * p + 1) n with q | q
                  · exact q
                  · rw [hr0 q] at hr; rcases hr with hr | hr <;> exact absurd hr (by decide)
                have hy1 := (hT.2.2 (2 * p + 1) hlt).2
                have er := hr1 hlt
                rw [er, n121 (by omega), n110 (by omega)] at hr
                have ft1 : tft true (2 * p + 1) (y (2 * p + 1)) = true := by unfold tft; rw [if_neg (by omega)]; simpa using hr
                have ht2 : tb true 8 y (2 * p + 1 + 1) = none := tb_snoc ht1 (by omega) ft1
                rw [show 2 * p + 1 + 1 = 2 * (p + 1) by omega] at ht2
                unfold wX8_readsPeople_85
                rw [h7, b48n (by omega), pn_cl (by omega), er, n121 (by omega)]
                refine ⟨pn_in (by omega) (by decide), fun S2 e3 => ?_⟩
                have u7 : S2 45 7 = nI p := by rw [e3, gz_st_n _ _ _ (by decide)]; exact h7
                rw [u7]
                have hstep : ∀ v : Int32, v = nI (tsn true y p) → wX8_readsPeople_114 (fun y0 S => wX8_readsPeople_7 Q (m + 1) y0 S) Q (nI (2 * p)) (nI p) v S2 := by
                  intro v hv
                  unfold wX8_readsPeople_114
                  rw [pn_cl (by omega)]
                  refine ⟨pn_in (by omega) (by decide), fun S3 e4 S4 e5 => ?_⟩
                  have w7 : S3 45 7 = nI p := by rw [e4, gz_st_n _ _ _ (by decide)]; exact u7
                  rw [w7, nI_1] at e5
                  rw [nI_2]
                  refine ih (p + 1) S4 (by omega) (by omega) ht2 (hfr.tr (fr.tr (S1 := S2) ?_ (fr.tr (S1 := S3) ?_ ?_))) ?_ (fun q hq => ?_)
                  · rw [e3]; exact fr_st (Or.inl rfl)
                  · rw [e4]; exact fr_st (Or.inr (Or.inl rfl))
                  · rw [e5]; exact fr_st (Or.inr (Or.inr ⟨rfl, rfl⟩))
                  · rw [e5, gz_st_v]
                  · by_cases eq : q = p
                    · subst eq
                      constructor
                      · rw [e5, gz_st_n _ _ _ (by decide), e4, gz_st_n _ _ _ (by decide), e3, gz_st_v]; rfl
                      · rw [e5, gz_st_n _ _ _ (by decide), e4, gz_st_v, hv]
                    · have := hpr q (by omega)
                      constructor
                      · rw [e5, gz_st_n _ _ _ (by decide), e4, gz_st_n _ _ _ (by decide), e3, gz_st_o _ _ _ eq]; exact this.1
                      · rw [e5, gz_st_n _ _ _ (by decide), e4, gz_st_o _ _ _ eq, e3, gz_st_n _ _ _ (by decide)]; exact this.2
                refine ⟨fun g9 => hstep _ ?_, fun g9 => hstep _ ?_⟩
                · unfold tsn; rw [if_pos rfl, if_neg g9]; rfl
                · unfold tsn; rw [if_pos rfl, if_pos g9]; rfl
              refine ⟨fun q1 => hyes _ (Or.inl q1) rfl, fun q1 => ⟨fun q2 => hyes _ (Or.inr q2) rfl, fun q2 S78 e78 => hbad (2 * p + 1) S1 S78 hfr e78 ?_⟩⟩
              rcases Nat.lt_or_ge (2 * p + 1) n with q | q
              · have hy1 := (hT.2.2 (2 * p + 1) q).2
                rw [hr1 q, n121 (by omega)] at q1
                rw [hr1 q, n110 (by omega)] at q2
                refine tfl_some (tb_some ht1 q (Or.inr ?_))
                unfold tft
                rw [if_neg (by omega)]
                simp [q1, q2]
              · obtain rfl : n = 2 * p + 1 := by omega
                exact tfl_odd ht1 (by omega)
            · unfold wX8_readsPeople_57
              intro S2 e3
              refine hbad (2 * p) S1 S2 hfr e3 (tfl_some (tb_some ht (by omega) (Or.inr ?_)))
              unfold tft
              rw [if_pos (by omega)]
              have := fun q => g ((b48 hy0).mpr q)
              simpa using this
        refine m_byte0 hT (by omega) (fun g => hgo _ (fun _ => rfl) (fun q => by omega)) (fun g => hgo _ (fun q => by omega) (fun _ => rfl))
  unfold wX8_readsPeople
  intro S2 e2
  exact ⟨n + 1, lp n 0 S2 (by omega) (by omega) rfl (by rw [e2]; exact fr_st (Or.inr (Or.inr ⟨rfl, rfl⟩))) (by rw [e2, gz_st_v]; rfl) (fun q hq => by omega)⟩
theorem m_readsStones {y : Nat → Nat} {n : Nat} {S : gz_S} {Q : Int32 → gz_S → Prop} (h : mT1 S y n)
    (hQ : ∀ S', fr rS S S' → S' 45 10 = nI (tsz false 9 y n) → (tfl false 9 y n = none → ∀ p, p < n / 2 → S' 54 p = nI (tfs y p) ∧ S' 55 p = nI (tsn false y p)) → Q (oI (tfl false 9 y n)) S') : wX8_readsStones S Q := by
  have hn := h.2.1
  have hbad : ∀ (i : Nat) (S1 S2 : gz_S), fr rS S S1 → S2 = gz_st S1 45 10 0 → tfl false 9 y n = some i → Q (nI i) S2 := by
    intro i S1 S2 hfr e2 hf
    have := hQ S2 (hfr.tr (by rw [e2]; exact fr_st (Or.inr (Or.inr ⟨rfl, rfl⟩)))) ?_ ?_
    · rw [hf] at this; exact this
    · rw [e2, gz_st_v]
      unfold tsz
      rw [if_neg (by rw [hf]; simp)]
      rfl
    · intro h9; rw [hf] at h9; cases h9
  have lp : ∀ (m p : Nat) (S1 : gz_S), 2 * p ≤ n → n ≤ 2 * (p + m) → p ≤ 9 → tb false 9 y (2 * p) = none → fr rS S S1 → S1 45 10 = nI p → (∀ q, q < p → S1 54 q = nI (tfs y q) ∧ S1 55 q = nI (tsn false y q)) → wX8_readsStones_7 Q (m + 1) (nI (2 * p)) S1 := by
    intro m
    induction m with
    | zero =>
      intro p S1 h1 h2 hp9 ht hfr h7 hpr
      obtain rfl : n = 2 * p := by omega
      have hT := h.keep (S' := S1) (fun a j h => hfr a j (by unfold rS; omega))
      unfold wX8_readsStones_7
      rw [cl1, hT.1]
      refine ⟨in12, fun _ => ?_, fun c => absurd (nI_le (Nat.le_refl _) (by omega)) c⟩
      have hf := tfl_even ht (by omega)
      have := hQ S1 hfr ?_ (fun _ q hq => hpr q (by omega))
      · rw [hf] at this; exact this
      · rw [h7]; unfold tsz; rw [if_pos hf]; congr 1; omega
    | succ m ih =>
      intro p S1 h1 h2 hp9 ht hfr h7 hpr
      have hT := h.keep (S' := S1) (fun a j h => hfr a j (by unfold rS; omega))
      unfold wX8_readsStones_7
      rw [cl1, hT.1]
      refine ⟨in12, fun c => ?_, fun c => ?_⟩
      · rw [nle (by omega) (by omega)] at c
        obtain rfl : n = 2 * p := by omega
        have hf := tfl_even ht (by omega)
        have := hQ S1 hfr ?_ (fun _ q hq => hpr q (by omega))
        · rw [hf] at this; exact this
        · rw [h7]; unfold tsz; rw [if_pos hf]; congr 1; omega
      · rw [nle (by omega) (by omega)] at c
        have hy0 := (hT.2.2 (2 * p) (by omega)).2
        refine m_byte1 hT (by omega) (fun _ v2 e2 => ?_) (fun g => by omega)
        rw [nI_1]
        have hgo : ∀ r : Int32, (2 * p + 1 < n → r = nI (y (2 * p + 1))) → (n ≤ 2 * p + 1 → r = -1) → (∀ v3_38 : Int32, v3_38 = r - 48 → ((S1 45 10) = 9 → wX8_readsStones_60 Q (nI (2 * p)) S1) ∧ (¬ (S1 45 10) = 9 → wX8_in (v2.toInt64) 1 9 S1 (fun r54 S54 => (¬ r54 = 0 → wX8_in (v3_38.toInt64) 0 9 S54 (fun r73 S73 => (¬ r73 = 0 → vp_in (S73 45 10) 9 ∧ ∀ S97, S97 = gz_st S73 54 (S73 45 10).toNatClampNeg v2 → vp_in (S97 45 10) 9 ∧ ∀ S107, S107 = gz_st S97 55 (S97 45 10).toNatClampNeg v3_38 → ∀ S115, S115 = gz_st S107 45 10 ((S107 45 10) + 1) → wX8_readsStones_7 Q (m + 1) ((nI (2 * p)) + 2) S115) ∧ (r73 = 0 → ∀ S81, S81 = gz_st S73 45 10 0 → Q (nI (2 * p + 1)) S81))) ∧ (r54 = 0 → wX8_readsStones_60 Q (nI (2 * p)) S54)))) := by
          intro r hr1 hr0 v3 e3
          refine ⟨fun g => ?_, fun g9 => ?_⟩
          · rw [h7] at g
            have g' : nI p = nI 9 := g
            rw [neq (by omega) (by omega)] at g'
            unfold wX8_readsStones_60
            intro S2 e4
            exact hbad (2 * p) S1 S2 hfr e4 (tfl_some (tb_some ht (by omega) (Or.inl (by omega))))
          · have hp8 : p < 9 := by
              rcases Nat.lt_or_ge p 9 with q | q
              · exact q
              · exact absurd (by rw [h7, show p = 9 by omega]; rfl) g9
            rw [e2, e3]
            refine w_in (lo := 1) (hi := 9) (by decide) (by decide) (fun g1 g2 => ⟨fun _ => ?_, fun g => absurd g n10⟩) (fun g => ⟨fun g2 => absurd rfl g2, fun _ => ?_⟩)
            · have gg := (b48 hy0).mp ⟨g1, g2⟩
              have ft0 : tft false (2 * p) (y (2 * p)) = true := by unfold tft; rw [if_pos (by omega)]; simpa using gg
              have ht1 := tb_snoc ht (by omega) ft0
              refine w_in (lo := 0) (hi := 9) (by decide) (by decide) (fun k1 k2 => ⟨fun _ => ?_, fun g => absurd g n10⟩) (fun k => ⟨fun g2 => absurd rfl g2, fun _ S81 e81 => hbad (2 * p + 1) S1 S81 hfr e81 ?_⟩)
              · have hlt : 2 * p + 1 < n := by
                  rcases Nat.lt_or_ge (2 * p + 1) n with q | q
                  · exact q
                  · rw [hr0 q] at k1; exact absurd k1 (by decide)
                have hy1 := (hT.2.2 (2 * p + 1) hlt).2
                have er := hr1 hlt
                rw [er] at k1 k2
                have kk := (b480 hy1).mp ⟨k1, k2⟩
                have ft1 : tft false (2 * p + 1) (y (2 * p + 1)) = true := by unfold tft; rw [if_neg (by omega)]; simpa using kk
                have ht2 : tb false 9 y (2 * p + 1 + 1) = none := tb_snoc ht1 (by omega) ft1
                rw [show 2 * p + 1 + 1 = 2 * (p + 1) by omega] at ht2
                rw [h7, b48n (by omega), er, b48n (by omega), pn_cl (by omega)]
                refine ⟨pn_in hp8 (by decide), fun S2 e4 => ?_⟩
                have u7 : S2 45 10 = nI p := by rw [e4, gz_st_n _ _ _ (by decide)]; exact h7
                rw [u7, pn_cl (by omega)]
                refine ⟨pn_in hp8 (by decide), fun S3 e5 S4 e6 => ?_⟩
                have w7 : S3 45 10 = nI p := by rw [e5, gz_st_n _ _ _ (by decide)]; exact u7
                rw [w7, nI_1] at e6
                rw [nI_2]
                refine ih (p + 1) S4 (by omega) (by omega) (by omega) ht2 (hfr.tr (fr.tr (S1 := S2) ?_ (fr.tr (S1 := S3) ?_ ?_))) ?_ (fun q hq => ?_)
                · rw [e4]; exact fr_st (Or.inl rfl)
                · rw [e5]; exact fr_st (Or.inr (Or.inl rfl))
                · rw [e6]; exact fr_st (Or.inr (Or.inr ⟨rfl, rfl⟩))
                · rw [e6, gz_st_v]
                · by_cases eq : q = p
                  · subst eq
                    constructor
                    · rw [e6, gz_st_n _ _ _ (by decide), e5, gz_st_n _ _ _ (by decide), e4, gz_st_v]; rfl
                    · rw [e6, gz_st_n _ _ _ (by decide), e5, gz_st_v]; rfl
                  · have := hpr q (by omega)
                    constructor
                    · rw [e6, gz_st_n _ _ _ (by decide), e5, gz_st_n _ _ _ (by decide), e4, gz_st_o _ _ _ eq]; exact this.1
                    · rw [e6, gz_st_n _ _ _ (by decide), e5, gz_st_o _ _ _ eq, e4, gz_st_n _ _ _ (by decide)]; exact this.2
              · rcases Nat.lt_or_ge (2 * p + 1) n with q | q
                · have hy1 := (hT.2.2 (2 * p + 1) q).2
                  rw [hr1 q] at k
                  refine tfl_some (tb_some ht1 q (Or.inr ?_))
                  unfold tft
                  rw [if_neg (by omega)]
                  have := fun q => k ((b480 hy1).mpr q)
                  simpa using this
                · obtain rfl : n = 2 * p + 1 := by omega
                  exact tfl_odd ht1 (by omega)
            · unfold wX8_readsStones_60
              intro S2 e4
              refine hbad (2 * p) S1 S2 hfr e4 (tfl_some (tb_some ht (by omega) (Or.inr ?_)))
              unfold tft
              rw [if_pos (by omega)]
              have := fun q => g ((b48 hy0).mpr q)
              simpa using this
        refine m_byte1 hT (by omega) (fun g => hgo _ (fun _ => rfl) (fun q => by omega)) (fun g => hgo _ (fun q => by omega) (fun _ => rfl))
  unfold wX8_readsStones
  intro S2 e2
  exact ⟨n + 1, lp n 0 S2 (by omega) (by omega) (by omega) rfl (by rw [e2]; exact fr_st (Or.inr (Or.inr ⟨rfl, rfl⟩))) (by rw [e2, gz_st_v]; rfl) (fun q hq => by omega)⟩
