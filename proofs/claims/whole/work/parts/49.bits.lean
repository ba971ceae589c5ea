/-! ===== counting bits ===== -/
def pc (b : Nat) : Nat := fb_ct (fun k => b.testBit k) 9
def bcv (x : Int32) : Int32 :=
  let v9 := x - (((x.toUInt32 >>> (Int32.toUInt32 1 &&& Int32.toUInt32 31)).toInt32) &&& 1431655765)
  let v23 := (v9 &&& 858993459) + (((v9.toUInt32 >>> (Int32.toUInt32 2 &&& Int32.toUInt32 31)).toInt32) &&& 858993459)
  let v33 := (v23 + ((v23.toUInt32 >>> (Int32.toUInt32 4 &&& Int32.toUInt32 31)).toInt32)) &&& 252645135
  let v40 := v33 + ((v33.toUInt32 >>> (Int32.toUInt32 8 &&& Int32.toUInt32 31)).toInt32)
  let v47 := v40 + ((v40.toUInt32 >>> (Int32.toUInt32 16 &&& Int32.toUInt32 31)).toInt32)
  v47 &&& 63
theorem bc_all : ∀ b : Fin 512, bcv (nI b.val) = nI (pc b.val) := by decide +kernel
theorem pc_all : ∀ b : Fin 512, b.val ≠ 0 → pc (b.val &&& (b.val - 1)) + 1 = pc b.val := by decide +kernel
theorem x_bc {b : Nat} {S : gz_S} {Q : Int32 → gz_S → Prop} (hb : b < 512) (hQ : Q (nI (pc b)) S) : wJ6_bitCount_0f7a4 (nI b) S Q := by
  unfold wJ6_bitCount_0f7a4
  intro v9 e9 v23 e23 v33 e33 v40 e40 v47 e47
  subst e9 e23 e33 e40 e47
  have e := bc_all ⟨b, hb⟩
  show Q (bcv (nI b)) S
  rw [e]
  exact hQ
theorem pc_le (b : Nat) : pc b ≤ 9 := fb_ct_le _ 9
theorem pc_z {b : Nat} (hb : b < 512) (h : pc b = 0) : b = 0 := by
  rcases Nat.eq_zero_or_pos b with h0 | h0
  · exact h0
  · have := pc_all ⟨b, hb⟩ (by show b ≠ 0; omega)
    have h2 : pc (b &&& (b - 1)) + 1 = pc b := this
    omega
theorem m_ones_lp {S : gz_S} {Q : Int32 → gz_S → Prop} : ∀ (n b c : Nat), b < 512 → pc b < n → Q (nI (c + pc b)) S → wX8_ones_4 Q n (nI c) (nI b) S
  | 0, b, c, hb, h, hQ => by omega
  | n + 1, b, c, hb, h, hQ => by
    unfold wX8_ones_4
    rw [n0 (by omega)]
    refine ⟨fun e => ?_, fun e v e2 => ?_⟩
    · have : pc b = 0 := by rw [e]; decide
      rw [this] at hQ
      exact hQ
    · have hp : pc (b &&& (b - 1)) + 1 = pc b := pc_all ⟨b, hb⟩ e
      have hlt : b &&& (b - 1) < 512 := Nat.lt_of_le_of_lt Nat.and_le_left hb
      rw [e2, show (1 : Int32) = nI 1 from rfl, pk_sub (by omega), fa_and, nI_add]
      refine m_ones_lp n _ (c + 1) hlt (by omega) ?_
      rw [show c + 1 + pc (b &&& (b - 1)) = c + pc b by omega]
      exact hQ
theorem m_ones {b : Nat} {S : gz_S} {Q : Int32 → gz_S → Prop} (hb : b < 512) (hQ : Q (nI (pc b)) S) : wX8_ones (nI b) S Q := by
  have := pc_le b
  exact ⟨10, m_ones_lp 10 b 0 hb (by omega) (by rw [Nat.zero_add]; exact hQ)⟩
/-! ===== weight of a set ===== -/
def wof (d : dt) (b : Nat) : Nat → Nat
  | 0 => 0
  | s + 1 => wof d b s + (if b.testBit s then d_wt d s else 0)
def wo (d : dt) (b : Nat) : Nat := wof d b (d_ns d)
theorem wof_le {d : dt} (hd : d_ok d) (b : Nat) : ∀ s, s ≤ d_ns d → wof d b s ≤ 9 * s
  | 0, _ => Nat.le_refl _
  | s + 1, h => by
    have ih := wof_le hd b s (by omega)
    have := (hd.2.2.1 s (by omega)).2.1
    show wof d b s + _ ≤ _
    split <;> omega
theorem wo_le {d : dt} (hd : d_ok d) (b : Nat) : wo d b ≤ 81 := by
  have := wof_le hd b (d_ns d) (Nat.le_refl _)
  have := hd.1.2
  unfold wo
  omega
theorem x_weightOf_lp {d : dt} {b : Nat} {S : gz_S} {Q : Int32 → gz_S → Prop} (hd : d_ok d) (hX : d_X S d) (hb : b < 2147483648) (hQ : Q (nI (wo d b)) S) : ∀ (m s : Nat), s + m = d_ns d → wX3_weightOf_4 Q (m + 1) (nI b) (nI (wof d b s)) (nI s) S
  | 0, s, h => by
    have hns := hd.1
    obtain rfl : s = d_ns d := by omega
    unfold wX3_weightOf_4
    rw [hX.2.1.1]
    exact ⟨fun _ => hQ, fun c => absurd (nI_le (Nat.le_refl _) (by omega)) c⟩
  | m + 1, s, h => by
    have hns := hd.1
    have ih := x_weightOf_lp hd hX hb hQ m (s + 1) (by omega)
    unfold wX3_weightOf_4 wX3_weightOf_31
    rw [hX.2.1.1, nle (by omega) (by omega), b0 hb (by omega), nI_1]
    refine ⟨fun c => by omega, fun _ => ⟨fun c => ?_, fun c => x_weight hX hd (by omega) (fun v e => ?_)⟩⟩
    · have e : wof d b (s + 1) = wof d b s := by show wof d b s + _ = _; rw [c]; rfl
      rw [e] at ih
      exact ih
    · have c' : b.testBit s = true := by cases h : b.testBit s with | true => rfl | false => exact absurd h c
      have e2 : wof d b (s + 1) = wof d b s + d_wt d s := by show wof d b s + _ = _; rw [c']; rfl
      rw [e, nI_add]
      rw [e2] at ih
      exact ih
theorem x_weightOf {d : dt} {b : Nat} {S : gz_S} {Q : Int32 → gz_S → Prop} (hd : d_ok d) (hX : d_X S d) (hb : b < 2147483648) (hQ : Q (nI (wo d b)) S) : wX3_weightOf (nI b) S Q := ⟨_, x_weightOf_lp hd hX hb hQ (d_ns d) 0 (by omega)⟩
theorem m_weightOf_lp {d : dt} {b : Nat} {S : gz_S} {Q : Int32 → gz_S → Prop} (hd : d_ok d) (hM : d_M S d) (hb : b < 2147483648) (hQ : Q (nI (wo d b)) S) : ∀ (m s : Nat), s + m = d_ns d → wX8_weightOf_4 Q (m + 1) (nI b) (nI (wof d b s)) (nI s) S
  | 0, s, h => by
    have hns := hd.1
    obtain rfl : s = d_ns d := by omega
    unfold wX8_weightOf_4
    rw [hM.2.1.1]
    exact ⟨fun _ => hQ, fun c => absurd (nI_le (Nat.le_refl _) (by omega)) c⟩
  | m + 1, s, h => by
    have hns := hd.1
    have ih := m_weightOf_lp hd hM hb hQ m (s + 1) (by omega)
    unfold wX8_weightOf_4 wX8_weightOf_31
    rw [hM.2.1.1, nle (by omega) (by omega)]
    refine ⟨fun c => by omega, fun _ => m_isIn hb (by omega) ?_⟩
    rw [bI_0, pn_cl (by omega), (hM.2.1.2 s (by omega)).1, nI_1]
    refine ⟨fun c v e => ?_, fun c => ⟨pn_in (by omega) (by decide), fun v e => ?_⟩⟩
    · have e2 : wof d b (s + 1) = wof d b s := by show wof d b s + _ = _; rw [c]; rfl
      rw [e, Int32.add_zero]
      rw [e2] at ih
      exact ih
    · have c' : b.testBit s = true := by cases h : b.testBit s with | true => rfl | false => exact absurd h c
      have e2 : wof d b (s + 1) = wof d b s + d_wt d s := by show wof d b s + _ = _; rw [c']; rfl
      rw [e, nI_add]
      rw [e2] at ih
      exact ih
theorem m_weightOf {d : dt} {b : Nat} {S : gz_S} {Q : Int32 → gz_S → Prop} (hd : d_ok d) (hM : d_M S d) (hb : b < 2147483648) (hQ : Q (nI (wo d b)) S) : wX8_weightOf (nI b) S Q := ⟨_, m_weightOf_lp hd hM hb hQ (d_ns d) 0 (by omega)⟩
/-! ===== what a side can lay ===== -/
def lft (d : dt) (sd s : Nat) : Nat → Bool
  | 0 => false
  | p + 1 => lft d sd s p || (decide (d_sd d p = sd) && decide (d_wt d s ≤ d_st d p))
def mxs (d : dt) (sd : Nat) : Nat → Nat
  | 0 => 0
  | p + 1 => if d_sd d p = sd then (if mxs d sd p < d_st d p then d_st d p else mxs d sd p) else mxs d sd p
theorem mxs_lft {d : dt} {sd s : Nat} (h : 1 ≤ d_wt d s) : ∀ p, d_wt d s ≤ mxs d sd p ↔ lft d sd s p = true
  | 0 => by
    show d_wt d s ≤ 0 ↔ false = true
    simp
    omega
  | p + 1 => by
    have ih := mxs_lft (sd := sd) h p
    show d_wt d s ≤ (if d_sd d p = sd then (if mxs d sd p < d_st d p then d_st d p else mxs d sd p) else mxs d sd p) ↔ (lft d sd s p || (decide (d_sd d p = sd) && decide (d_wt d s ≤ d_st d p))) = true
    rw [Bool.or_eq_true, Bool.and_eq_true, decide_eq_true_eq, decide_eq_true_eq, ← ih]
    by_cases e : d_sd d p = sd
    · rw [if_pos e]
      split <;> omega
    · rw [if_neg e]
      omega
theorem mxs_le {d : dt} (hd : d_ok d) (sd : Nat) : ∀ p, p ≤ d_np d → mxs d sd p ≤ 9
  | 0, _ => Nat.zero_le _
  | p + 1, h => by
    have ih := mxs_le hd sd p (by omega)
    have := (hd.2.1 p (by omega)).2.1
    show (if d_sd d p = sd then (if mxs d sd p < d_st d p then d_st d p else mxs d sd p) else mxs d sd p) ≤ 9
    split
    · split <;> omega
    · exact ih
def fre (d : dt) (sd : Nat) : Nat → Nat
  | 0 => 0
  | s + 1 => if (js d sk0 (d_nc d)).2 s = none ∧ lft d sd s (d_np d) = true then fre d sd s ||| 2 ^ s else fre d sd s
theorem fre_lt (d : dt) (sd : Nat) : ∀ s, fre d sd s < 2 ^ s
  | 0 => by show 0 < 1; omega
  | s + 1 => by
    have ih := fre_lt d sd s
    have h2 : 2 ^ s < 2 ^ (s + 1) := Nat.pow_lt_pow_right (by decide) (by omega)
    unfold fre
    split
    · exact Nat.or_lt_two_pow (Nat.lt_trans ih h2) h2
    · exact Nat.lt_trans ih h2
def fr9 (d : dt) (sd : Nat) : Nat := fre d sd (d_ns d)
theorem p29 {n : Nat} (h : n ≤ 9) : 2 ^ n ≤ 512 := Nat.pow_le_pow_right (n := 2) (by decide) h
theorem fr9_lt {d : dt} (hd : d_ok d) (sd : Nat) : fr9 d sd < 2 ^ d_ns d ∧ fr9 d sd < 512 := by
  have h1 := fre_lt d sd (d_ns d)
  exact ⟨h1, Nat.lt_of_lt_of_le h1 (p29 hd.1.2)⟩
theorem x_strongest {d : dt} {sd : Nat} {S : gz_S} {Q : Int32 → gz_S → Prop} (hd : d_ok d) (hX : d_X S d) (hs : sd ≤ 1) (hQ : Q (nI (mxs d sd (d_np d))) S) : ∀ (m p : Nat), p + m = d_np d → wX3_strongest_4 Q (m + 1) (nI sd) (nI (mxs d sd p)) (nI p) S
  | 0, p, h => by
    have hnp := hd.1
    obtain rfl : p = d_np d := by omega
    unfold wX3_strongest_4
    rw [hX.1.1]
    exact ⟨fun _ => hQ, fun c => absurd (nI_le (Nat.le_refl _) (by omega)) c⟩
  | m + 1, p, h => by
    have hnp := hd.1
    have ih := x_strongest hd hX hs hQ m (p + 1) (by omega)
    have hp := hd.2.1 p (by omega)
    have hm := mxs_le hd sd p (by omega)
    have e : mxs d sd (p + 1) = if d_sd d p = sd then (if mxs d sd p < d_st d p then d_st d p else mxs d sd p) else mxs d sd p := rfl
    unfold wX3_strongest_4 wX3_strongest_34
    rw [hX.1.1, nle (by omega) (by omega), nI_1]
    refine ⟨fun c => by omega, fun _ => x_sideOf hX hd (by omega) ?_⟩
    rw [neq (by omega) (by omega)]
    refine ⟨fun c => ?_, fun c => x_strength hX hd (by omega) (fun v ev => ?_)⟩
    · rw [e, if_neg c] at ih
      exact ih
    · rw [e, if_pos c] at ih
      rw [ev, max_n (by omega) (by omega)]
      exact ih
theorem x_layable_lp {d : dt} {sd : Nat} {S : gz_S} {Q : Int32 → gz_S → Prop} (hd : d_ok d) (hX : d_X S d) (h18 : ∀ t, t < 9 → S 18 t = oI ((js d sk0 (d_nc d)).2 t)) (hQ : Q (nI (fr9 d sd)) S) : ∀ (m s : Nat), s + m = d_ns d → wX7_layable_14 Q (m + 1) (nI (mxs d sd (d_np d))) (nI (fre d sd s)) (nI s) S
  | 0, s, h => by
    have hns := hd.1
    obtain rfl : s = d_ns d := by omega
    unfold wX7_layable_14
    rw [hX.2.1.1]
    exact ⟨fun _ => hQ, fun c => absurd (nI_le (Nat.le_refl _) (by omega)) c⟩
  | m + 1, s, h => by
    have hns := hd.1
    have ih := x_layable_lp hd hX h18 hQ m (s + 1) (by omega)
    have hw := hd.2.2.1 s (by omega)
    have hm := mxs_le hd sd (d_np d) (Nat.le_refl _)
    have e : fre d sd (s + 1) = if (js d sk0 (d_nc d)).2 s = none ∧ lft d sd s (d_np d) = true then fre d sd s ||| 2 ^ s else fre d sd s := rfl
    have hl := mxs_lft (d := d) (sd := sd) (s := s) hw.1 (d_np d)
    unfold wX7_layable_14 wX7_layable_63
    rw [hX.2.1.1, nle (by omega) (by omega), nI_1, pn_cl (by omega), h18 s (by omega), oI_m1 (fun n hn => js_num hd (Nat.le_refl _) hn), shl1 (by omega), fa_or]
    refine ⟨fun c => by omega, fun _ => ⟨pn_in (by omega) (by decide), fun c => ?_, fun c => x_weight hX hd (by omega) ?_⟩⟩
    · rw [e, if_neg (fun q => c q.1)] at ih
      exact ih
    · rw [nlt (by omega) (by omega)]
      refine ⟨fun c2 => ?_, fun c2 v ev => ?_⟩
      · rw [e, if_neg (fun q => by have := hl.mpr q.2; omega)] at ih
        exact ih
      · rw [e, if_pos ⟨c, hl.mp (by omega)⟩] at ih
        rw [ev]
        exact ih
theorem x_layable {d : dt} {td : Nat → Int32} {ar : Nat → Nat} {sd : Nat} {S : gz_S} {Q : Int32 → gz_S → Prop} (hS : XS S d td ar) (hs : sd ≤ 1) (hQ : Q (nI (fr9 d sd)) S) : wX7_layable (nI sd) S Q :=
  ⟨_, x_strongest hS.1 hS.2.1 hs ⟨_, x_layable_lp hS.1 hS.2.1 hS.2.2.1.2.1 hQ (d_ns d) 0 (by omega)⟩ (d_np d) 0 (by omega)⟩
theorem m_isLifted_lp {d : dt} {sd s : Nat} {S : gz_S} {Q : Int32 → gz_S → Prop} (hd : d_ok d) (hM : d_M S d) (hs : sd ≤ 1) (hss : s < d_ns d) (hQ : Q (bI (lft d sd s (d_np d))) S) : ∀ (m p : Nat), p + m = d_np d → wX8_isLifted_5 Q (m + 1) (nI sd) (nI s) (bI (lft d sd s p)) (nI p) S
  | 0, p, h => by
    have hnp := hd.1
    obtain rfl : p = d_np d := by omega
    unfold wX8_isLifted_5
    rw [hM.1.1]
    refine ⟨fun _ => ⟨?_, hQ⟩, fun c => absurd (nI_le (Nat.le_refl _) (by omega)) c⟩
    cases lft d sd s (d_np d)
    · exact b01_0
    · exact b01_1
  | m + 1, p, h => by
    have hnp := hd.1
    have ih := m_isLifted_lp hd hM hs hss hQ m (p + 1) (by omega)
    have hp := hd.2.1 p (by omega)
    have hw := hd.2.2.1 s hss
    have e : lft d sd s (p + 1) = (lft d sd s p || (decide (d_sd d p = sd) && decide (d_wt d s ≤ d_st d p))) := rfl
    unfold wX8_isLifted_5 wX8_isLifted_45 wX8_isLifted_49 wX8_isLifted_50
    rw [hM.1.1, nle (by omega) (by omega), nI_1, bI_0, pn_cl (n := p) (by omega), pn_cl (n := s) (by omega), (hM.1.2 p (by omega)).1, (hM.1.2 p (by omega)).2, (hM.2.1.2 s hss).1, neq (by omega) (by omega), nlt (by omega) (by omega)]
    refine ⟨fun c => by omega, fun _ => ⟨fun c => ?_, fun c => ⟨pn_in (by omega) (by decide), fun c2 => ?_, fun c2 => ⟨pn_in (by omega) (by decide), pn_in (by omega) (by decide), fun c3 => ?_, fun c3 => ?_⟩⟩⟩⟩
    · have c' : lft d sd s p = true := by cases h : lft d sd s p with | true => rfl | false => exact absurd h c
      rw [e, c'] at ih
      exact ih
    · rw [e, c] at ih
      simp [c2] at ih
      exact ih
    · rw [e, c] at ih
      have : ¬ d_wt d s ≤ d_st d p := by omega
      simp [this] at ih
      exact ih
    · rw [e, c] at ih
      have : d_wt d s ≤ d_st d p := by omega
      simp [this, c2] at ih
      exact ih
theorem m_freeOf_lp {d : dt} {sd : Nat} {S : gz_S} {Q : Int32 → gz_S → Prop} (hd : d_ok d) (hM : d_M S d) (hs : sd ≤ 1) (h62 : ∀ t, t < 9 → S 62 t = oI ((js d sk0 (d_nc d)).2 t)) (hQ : Q (nI (fr9 d sd)) S) : ∀ (m s : Nat), s + m = d_ns d → wX8_freeOf_4 Q (m + 1) (nI sd) (nI (fre d sd s)) (nI s) S
  | 0, s, h => by
    have hns := hd.1
    obtain rfl : s = d_ns d := by omega
    unfold wX8_freeOf_4
    rw [hM.2.1.1]
    exact ⟨fun _ => hQ, fun c => absurd (nI_le (Nat.le_refl _) (by omega)) c⟩
  | m + 1, s, h => by
    have hns := hd.1
    have ih := m_freeOf_lp hd hM hs h62 hQ m (s + 1) (by omega)
    have e : fre d sd (s + 1) = if (js d sk0 (d_nc d)).2 s = none ∧ lft d sd s (d_np d) = true then fre d sd s ||| 2 ^ s else fre d sd s := rfl
    unfold wX8_freeOf_4 wX8_freeOf_38 wX8_freeOf_39
    rw [hM.2.1.1, nle (by omega) (by omega), nI_1, pn_cl (by omega), h62 s (by omega), oI_m1 (fun n hn => js_num hd (Nat.le_refl _) hn), shl1 (by omega), fa_or, show (0 : Int32) = nI 0 from rfl, fa_or, Nat.or_zero]
    refine ⟨fun c => by omega, fun _ => ⟨pn_in (by omega) (by decide), fun c v ev => ?_, fun c => ⟨d_np d + 1, m_isLifted_lp hd hM hs (by omega) ⟨fun c2 v ev => ?_, fun c2 v ev => ?_⟩ (d_np d) 0 (by omega)⟩⟩⟩
    · rw [e, if_neg (fun q => c q.1)] at ih
      rw [ev]
      exact ih
    · rw [e, if_neg (fun q => by rw [q.2] at c2; exact absurd c2 (by decide))] at ih
      rw [ev]
      exact ih
    · have c' : lft d sd s (d_np d) = true := by cases h : lft d sd s (d_np d) with | true => rfl | false => rw [h] at c2; exact absurd rfl c2
      rw [e, if_pos ⟨c, c'⟩] at ih
      rw [ev]
      exact ih
theorem m_freeOf {d : dt} {sd : Nat} {S : gz_S} {Q : Int32 → gz_S → Prop} (hd : d_ok d) (hM : d_M S d) (hs : sd ≤ 1) (hJ : jM S d sk0 (d_nc d)) (hQ : Q (nI (fr9 d sd)) S) : wX8_freeOf (nI sd) S Q := ⟨_, m_freeOf_lp hd hM hs hJ.2.1 hQ (d_ns d) 0 (by omega)⟩
