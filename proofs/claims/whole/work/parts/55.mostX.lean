/-! ===== the system: the most ===== -/
def pX_ (S : gz_S) (f : Nat → Nat) (n : Nat) : Prop := S 30 2 = nI n ∧ ∀ i, i < n → S 31 i = nI (f i)
theorem x_after_lp {d : dt} {f : Nat → Nat} {n v s : Nat} {S : gz_S} {Q : Int32 → gz_S → Prop} (hd : d_ok d) (hX : d_X S d) (hs : s < d_ns d) (hn : n ≤ 8) (hf9 : ∀ i, i < n → f i ≤ 9) (hP : pX_ S f n) (hv : v < 1048576) (hQ : ∀ r, afT d f n v s r → Q (nI r) S) : ∀ (m p : Nat), n ≤ p + m → v / 32 ≤ p → p ≤ 40000 → (∀ p', v / 32 ≤ p' → p' < p → p' < n → ¬ (d_wt d s ≤ f p' ∧ uf v p' + (d_wy d s + 1) ≤ d_hr d)) → wX4_after_40 Q (m + 1) (nI v) (nI (d_wt d s)) (nI (d_wy d s + 1)) (nI (v / 32)) (nI p) S
  | 0, p, h1, h2, h3, h4 => by
    unfold wX4_after_40
    rw [hP.1, nle (by omega) (by omega)]
    refine ⟨fun c => hQ 1048576 ⟨by omega, fun g => by omega, fun q g1 g2 g3 g4 => absurd ⟨g3, g4⟩ (h4 q g1 (by omega) g2)⟩, fun c => by omega⟩
  | m + 1, p, h1, h2, h3, h4 => by
    have hw := hd.2.2.1 s hs
    have hh := hd.2.2.2.1
    have fin : ¬ n ≤ p → wX4_after_64 (fun y0 y1 y2 y3 y4 S => wX4_after_40 Q (m + 1) y0 y1 y2 y3 y4 S) Q (nI v) (nI (d_wt d s)) (nI (d_wy d s + 1)) (nI (v / 32)) (nI p) (nI (uf v p)) S := by
      intro c
      have hf := hf9 p (by omega)
      have hu : uf v p < 32 := by unfold uf; split <;> omega
      unfold wX4_after_64 wX4_after_101
      intro v7 e7
      rw [e7, nI_add, pn_cl (by omega), hP.2 p (by omega), hX.2.2.1.1, nlt (by omega) (by omega), nlt (by omega) (by omega), nI_1]
      have next : ¬ (d_wt d s ≤ f p ∧ uf v p + (d_wy d s + 1) ≤ d_hr d) → wX4_after_40 Q (m + 1) (nI v) (nI (d_wt d s)) (nI (d_wy d s + 1)) (nI (v / 32)) (nI (p + 1)) S := fun g => x_after_lp hd hX hs hn hf9 hP hv hQ m (p + 1) (by omega) (by omega) (by omega) (fun p' g1 g2 g3 => by
        by_cases e : p' = p
        · rw [e]; exact g
        · exact h4 p' g1 (by omega) g3)
      refine ⟨pn_in (by omega) (by decide), fun c1 => next (by omega), fun c1 => ⟨fun c2 => next (by omega), fun c2 => ?_⟩⟩
      rw [show nI p * 32 = nI (p * 32) from pk_mul p 32, nI_add]
      refine hQ _ ⟨by omega, fun _ => ⟨p, h2, by omega, by omega, by omega, rfl⟩, fun q g1 g2 g3 g4 => ?_⟩
      by_cases e : q = p
      · rw [e]; omega
      · rcases Nat.lt_or_ge q p with g | g
        · exact absurd ⟨g3, g4⟩ (h4 q g1 g g2)
        · omega
    unfold wX4_after_40
    rw [hP.1, nle (by omega) (by omega), neq (by omega) (by omega), show (32 : Int32) = nI 32 from rfl, pk_rem (by omega) (by decide) (by decide)]
    refine ⟨fun c => hQ 1048576 ⟨by omega, fun g => by omega, fun q g1 g2 g3 g4 => absurd ⟨g3, g4⟩ (h4 q g1 (by omega) g2)⟩, fun c => ⟨fun c2 => ?_, fun c2 => ?_⟩⟩
    · have := fin c
      rw [show uf v p = 0 from if_neg c2] at this
      exact this
    · have := fin c
      rw [show uf v p = v % 32 from if_pos c2] at this
      exact this
theorem x_after {d : dt} {f : Nat → Nat} {n v s : Nat} {S : gz_S} {Q : Int32 → gz_S → Prop} (hd : d_ok d) (hX : d_X S d) (hs : s < d_ns d) (hn : n ≤ 8) (hf9 : ∀ i, i < n → f i ≤ 9) (hP : pX_ S f n) (hv : v ≤ 1048576) (hQ : ∀ r, afT d f n v s r → Q (nI r) S) : wX4_after (nI v) (nI s) S Q := by
  unfold wX4_after
  rw [show (1048576 : Int32) = nI 1048576 from rfl, nlt (by omega) (by omega)]
  refine ⟨fun c => x_weight hX hd hs (x_way hX hd hs (fun v4 e4 v5 e5 => ?_)), fun c => ?_⟩
  · rw [e4, e5, nI_1, show (32 : Int32) = nI 32 from rfl, pk_div (by omega) (by decide) (by decide)]
    exact ⟨n + 1, x_after_lp hd hX hs hn hf9 hP c hQ n (v / 32) (by omega) (Nat.le_refl _) (by omega) (fun p' g1 g2 => by omega)⟩
  · exact hQ 1048576 ⟨by omega, fun g => by omega, fun q g1 g2 g3 g4 => by omega⟩
theorem x_leastFor_lp {d : dt} {f : Nat → Nat} {n b : Nat} {S : gz_S} {Q : Int32 → gz_S → Prop} (hd : d_ok d) (hX : d_X S d) (hn : n ≤ 8) (hf9 : ∀ i, i < n → f i ≤ 9) (hP : pX_ S f n) (hb1 : 1 ≤ b) (hb : b < 512) (h32 : ∀ j, j < b → ∃ v, S 32 j = nI v ∧ lsT d f n j v) (hQ : ∀ v, lsT d f n b v → Q (nI v) S) : ∀ (m s v : Nat), s + m = d_ns d → lsI d f n b s v → wX4_leastFor_5 Q (m + 1) (nI b) (nI v) (nI s) S
  | 0, s, v, h, hI => by
    have hns := hd.1
    obtain rfl : s = d_ns d := by omega
    unfold wX4_leastFor_5
    rw [hX.2.1.1]
    exact ⟨fun _ => hQ v (LI_end hd hb1 hI), fun c => absurd (nI_le (Nat.le_refl _) (by omega)) c⟩
  | m + 1, s, v, h, hI => by
    have hns := hd.1
    have hv := hI.1
    unfold wX4_leastFor_5 wX4_leastFor_49
    rw [hX.2.1.1, nle (by omega) (by omega), b0 (by omega) (by omega), nI_1, shl1 (by omega), nI_bs]
    refine ⟨fun c => by omega, fun _ => ⟨fun c => ?_, fun c => ?_⟩⟩
    · refine x_leastFor_lp hd hX hn hf9 hP hb1 hb h32 hQ m (s + 1) v (by omega) ⟨hI.1, hI.2.1, fun s2 g p o c2 g1 g2 g3 g4 g5 g6 => ?_⟩
      by_cases e : s2 = s
      · have := or_bit g3 s
        rw [c, ← e, g6] at this
        simp at this
      · exact hI.2.2 s2 (by omega) p o c2 g1 g2 g3 g4 g5 g6
    · have c' : b.testBit s = true := by cases h : b.testBit s with | true => rfl | false => exact absurd h c
      have hlt := bs_lt hb c'
      obtain ⟨v1, e1, L1⟩ := h32 _ hlt
      rw [pn_cl (by omega), e1]
      refine ⟨pn_in (by omega) (by decide), x_after hd hX (by omega) hn hf9 hP L1.1 (fun r hA v2 e2 => ?_)⟩
      have hr := hA.1
      rw [e2, min_n (by omega) (by omega)]
      refine x_leastFor_lp hd hX hn hf9 hP hb1 hb h32 hQ m (s + 1) _ (by omega) ⟨by split <;> omega, fun g => ?_, fun s2 g p o c2 g1 g2 g3 g4 g5 g6 => ?_⟩
      · split at g
        next g0 => rw [if_pos g0]; exact AF_snd hd hn hb (by omega) c' L1 hA g
        next g0 => rw [if_neg g0]; exact hI.2.1 g
      · by_cases e : s2 = s
        · rw [e] at g6
          have := AF_cmp hd hb (by omega) L1 hA g1 g2 g3 g4 g5 g6
          split <;> omega
        · have := hI.2.2 s2 (by omega) p o c2 g1 g2 g3 g4 g5 g6
          split <;> omega
theorem x_leastFor {d : dt} {f : Nat → Nat} {n b : Nat} {S : gz_S} {Q : Int32 → gz_S → Prop} (hd : d_ok d) (hX : d_X S d) (hn : n ≤ 8) (hf9 : ∀ i, i < n → f i ≤ 9) (hP : pX_ S f n) (hb1 : 1 ≤ b) (hb : b < 512) (h32 : ∀ j, j < b → ∃ v, S 32 j = nI v ∧ lsT d f n j v) (hQ : ∀ v, lsT d f n b v → Q (nI v) S) : wX4_leastFor (nI b) S Q :=
  ⟨_, x_leastFor_lp hd hX hn hf9 hP hb1 hb h32 hQ (d_ns d) 0 1048576 (by omega) ⟨Nat.le_refl _, fun g => by omega, fun s g => by omega⟩⟩
def gpo (a j : Nat) : Prop := a = 32 ∨ a = 31 ∨ (a = 30 ∧ j = 2)
theorem gpo_X (a j : Nat) (h : gpo a j) : gX a j := by unfold gpo at h; unfold gX; omega
theorem x_most_lp {d : dt} {td : Nat → Int32} {ar : Nat → Nat} {f : Nat → Nat} {n : Nat} {S0 : gz_S} {Q : Int32 → gz_S → Prop} (hS0 : XS S0 d td ar) (hn : n ≤ 8) (hf9 : ∀ i, i < n → f i ≤ 9) (hQ : ∀ S', fr gX S0 S' → Q (nI (mwf (cb d f n) d (2 ^ d_ns d))) S') : ∀ (m k : Nat) (S : gz_S), 1 ≤ k → k + m = 2 ^ d_ns d → fr gX S0 S → pX_ S f n → (∀ j, j < k → ∃ v, S 32 j = nI v ∧ lsT d f n j v) → wX4_mostWeight_18 Q (m + 1) (nI (mwf (cb d f n) d k)) (nI k) S
  | 0, k, S, h1, h, hfr, hP, h32 => by
    have hd := hS0.1
    have h9 := p29 hd.1.2
    have hX := (hS0.keep hfr).2.1
    obtain rfl : k = 2 ^ d_ns d := by omega
    unfold wX4_mostWeight_18
    rw [hX.2.1.1, shl1 (by have := hd.1.2; omega)]
    exact ⟨fun _ => hQ S hfr, fun c => absurd (nI_le (Nat.le_refl _) (by omega)) c⟩
  | m + 1, k, S, h1, h, hfr, hP, h32 => by
    have hd := hS0.1
    have h9 := p29 hd.1.2
    have hX := (hS0.keep hfr).2.1
    have hm := mwf_le (P := cb d f n) hd k
    have hw := wo_le hd k
    unfold wX4_mostWeight_18 wX4_mostWeight_74
    rw [hX.2.1.1, shl1 (by have := hd.1.2; omega), nle (by omega) (by omega)]
    refine ⟨fun c => by omega, fun _ => x_leastFor hd hX hn hf9 hP h1 (by omega) h32 (fun v hL => ?_)⟩
    rw [pn_cl (by omega), nI_1]
    refine ⟨pn_in (by omega) (by decide), fun S1 e1 => ⟨pn_in (by omega) (by decide), ?_⟩⟩
    have hf1 : fr gX S S1 := by rw [e1]; exact fr_st (by unfold gX; omega)
    have hX1 := (hS0.keep (hfr.tr hf1)).2.1
    have e32 : S1 32 k = nI v := by rw [e1, gz_st_v]
    have hP1 : pX_ S1 f n := ⟨by rw [e1, gz_st_n _ _ _ (by decide)]; exact hP.1, fun i hi => by rw [e1, gz_st_n _ _ _ (by decide)]; exact hP.2 i hi⟩
    have h321 : ∀ j, j < k + 1 → ∃ v, S1 32 j = nI v ∧ lsT d f n j v := fun j hj => by
      by_cases e : j = k
      · rw [e]; exact ⟨v, e32, hL⟩
      · obtain ⟨v2, q1, q2⟩ := h32 j (by omega)
        exact ⟨v2, by rw [e1, gz_st_o _ _ _ e]; exact q1, q2⟩
    have ih := x_most_lp hS0 hn hf9 hQ m (k + 1) S1 (by omega) (by omega) (hfr.tr hf1) hP1 h321
    have hiff := LS_iff hd hn hL
    have hv := hL.1
    have es : mwf (cb d f n) d (k + 1) = if cb d f n k = true ∧ mwf (cb d f n) d k < wo d k then wo d k else mwf (cb d f n) d k := rfl
    rw [e32, show (1048576 : Int32) = nI 1048576 from rfl, nle (by omega) (by omega)]
    refine ⟨fun c => ?_, fun c => x_weightOf hd hX1 (by omega) (fun v3 e3 => ?_)⟩
    · rw [es, if_neg (fun q => by have := hiff.mpr (cb_iff.mp q.1); omega)] at ih
      exact ih
    · have hc : cb d f n k = true := cb_iff.mpr (hiff.mp (by omega))
      rw [e3, max_n (by omega) (by omega)]
      rw [es, hc] at ih
      simp only [true_and] at ih
      exact ih
theorem x_gather_lp {d : dt} {td : Nat → Int32} {ar : Nat → Nat} {sd : Nat} {h : Int32} {S0 : gz_S} {Q : gz_S → Prop} (hS0 : XS S0 d td ar) (hsd : sd ≤ 1) (hQ : ∀ S', fr gX S0 S' → pX_ S' (ga d sd h (d_np d)).2 (ga d sd h (d_np d)).1 → Q S') : ∀ (m p : Nat) (S : gz_S), p + m = d_np d → fr gX S0 S → pX_ S (ga d sd h p).2 (ga d sd h p).1 → wX4_gather_7 Q (m + 1) (nI sd) h (nI p) S
  | 0, p, S, hp, hfr, hP => by
    have hd := hS0.1
    have hnp := hd.1
    have hX := (hS0.keep hfr).2.1
    obtain rfl : p = d_np d := by omega
    unfold wX4_gather_7
    rw [hX.1.1]
    exact ⟨fun _ => hQ S hfr hP, fun c => absurd (nI_le (Nat.le_refl _) (by omega)) c⟩
  | m + 1, p, S, hp, hfr, hP => by
    have hd := hS0.1
    have hnp := hd.1
    have hX := (hS0.keep hfr).2.1
    have hq := hd.2.1 p (by omega)
    have hg := ga_le d sd h p
    have eg : ga d sd h (p + 1) = if ¬ nI p = h ∧ d_sd d p = sd then ((ga d sd h p).1 + 1, fun i => if i = (ga d sd h p).1 then d_st d p else (ga d sd h p).2 i) else ga d sd h p := rfl
    have keep : ¬ (¬ nI p = h ∧ d_sd d p = sd) → wX4_gather_7 Q (m + 1) (nI sd) h (nI (p + 1)) S := fun g => x_gather_lp hS0 hsd hQ m (p + 1) S (by omega) hfr (by rw [eg, if_neg g]; exact hP)
    unfold wX4_gather_7 wX4_gather_65
    rw [hX.1.1, nle (by omega) (by omega), nI_1]
    refine ⟨fun c => by omega, fun _ => ⟨fun c => keep (fun g => g.1 c), fun c => x_sideOf hX hd (by omega) ?_⟩⟩
    rw [neq (by omega) (by omega)]
    refine ⟨fun c2 => keep (fun g => c2 g.2), fun c2 => x_strength hX hd (by omega) ?_⟩
    rw [hP.1, pn_cl (by omega)]
    refine ⟨pn_in (by omega) (by decide), fun S1 e1 S2 e2 => ?_⟩
    have e30 : S1 30 2 = nI (ga d sd h p).1 := by rw [e1, gz_st_n _ _ _ (by decide)]; exact hP.1
    rw [e30, nI_1] at e2
    have hf2 : fr gX S S2 := by
      rw [e2]
      refine fr.tr (S1 := S1) ?_ (fr_st (by unfold gX; omega))
      rw [e1]
      exact fr_st (by unfold gX; omega)
    refine x_gather_lp hS0 hsd hQ m (p + 1) S2 (by omega) (hfr.tr hf2) ?_
    rw [eg, if_pos ⟨c, c2⟩]
    refine ⟨by rw [e2, gz_st_v], fun i hi => ?_⟩
    have hi2 : i < (ga d sd h p).1 + 1 := hi
    show S2 31 i = nI (if i = (ga d sd h p).1 then d_st d p else (ga d sd h p).2 i)
    rw [e2, gz_st_n _ _ _ (by decide), e1]
    by_cases e : i = (ga d sd h p).1
    · rw [if_pos e, e, gz_st_v]
    · rw [if_neg e, gz_st_o _ _ _ e]
      exact hP.2 i (by omega)
theorem x_mostW {d : dt} {td : Nat → Int32} {ar : Nat → Nat} {sd : Nat} {h : Int32} (hsd : sd ≤ 1) : lX (wX4_mostWeight (nI sd) h) d td ar (nI (mw d sd h)) := fun S Q hS hQ => by
  have hd := hS.1
  have hnp := hd.1
  have hg := ga_le d sd h (d_np d)
  unfold wX4_mostWeight wX4_gather
  intro S1 e1
  have hf1 : fr gX S S1 := by rw [e1]; exact fr_st (by unfold gX; omega)
  refine ⟨_, x_gather_lp (h := h) hS hsd (fun S2 hf2 hP2 => ?_) (d_np d) 0 S1 (by omega) hf1 ⟨by rw [e1, gz_st_v]; rfl, fun i hi => by have : i < 0 := hi; omega⟩⟩
  rw [cl0]
  refine ⟨pn_in (j := 0) (by decide) (by decide), fun S3 e3 => ?_⟩
  have hf3 : fr gX S2 S3 := by rw [e3]; exact fr_st (by unfold gX; omega)
  have hp1 := Nat.two_pow_pos (d_ns d)
  have k := x_most_lp (f := (ga d sd h (d_np d)).2) (n := (ga d sd h (d_np d)).1) hS (by omega) (ga_st hd (d_np d) (Nat.le_refl _)) (Q := Q) (fun S' hf' => hQ S' hf') (2 ^ d_ns d - 1) 1 S3 (Nat.le_refl _) (by omega) (hf2.tr hf3) ⟨by rw [e3, gz_st_n _ _ _ (by decide)]; exact hP2.1, fun i hi => by rw [e3, gz_st_n _ _ _ (by decide)]; exact hP2.2 i hi⟩ (fun j hj => ⟨0, by rw [show j = 0 by omega, e3, gz_st_v]; rfl, by rw [show j = 0 by omega]; exact LS_0 d _ _⟩)
  rw [mwf_1] at k
  exact ⟨_, k⟩
