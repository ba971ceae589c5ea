/-! ===== fewest ===== -/
def sbt (k f : Nat) : Bool := (k &&& (f ^^^ 4294967295)) == 0
theorem neg1n : (-1 : Int32) = nI 4294967295 := by decide
theorem and_not {k f : Nat} (hk : k < 512) : (nI k &&& (nI f ^^^ -1) = 0) ↔ sbt k f = true := by
  have h : k &&& (f ^^^ 4294967295) < 512 := Nat.lt_of_le_of_lt Nat.and_le_left hk
  rw [neg1n, fb_xorI, fa_and, n0 (by omega)]
  unfold sbt
  rw [beq_iff_eq]
theorem sbt_iff {k f : Nat} (hk : k < 512) : sbt k f = true ↔ ∀ i, k.testBit i = true → f.testBit i = true := by
  unfold sbt
  rw [beq_iff_eq]
  have t : ∀ i, (k &&& (f ^^^ 4294967295)).testBit i = (k.testBit i && (f.testBit i ^^ decide (i < 32))) := fun i => by
    rw [Nat.testBit_and, Nat.testBit_xor, show 4294967295 = 2 ^ 32 - 1 from rfl, Nat.testBit_two_pow_sub_one]
  constructor
  · intro h i hi
    have q := t i
    rw [h, Nat.zero_testBit, hi] at q
    have h32 : i < 32 := by
      rcases Nat.lt_or_ge i 32 with g | g
      · exact g
      · have h2 : k < 2 ^ i := Nat.lt_of_lt_of_le hk (by rw [show 512 = 2 ^ 9 from rfl]; exact Nat.pow_le_pow_right (by decide) (by omega))
        rw [Nat.testBit_lt_two_pow h2] at hi
        cases hi
    cases e : f.testBit i with
    | true => rfl
    | false => rw [e] at q; simp [h32] at q
  · intro h
    refine Nat.eq_of_testBit_eq (fun i => ?_)
    rw [t, Nat.zero_testBit]
    cases e : k.testBit i with
    | false => rfl
    | true =>
      rw [h i e]
      have h32 : i < 32 := by
        rcases Nat.lt_or_ge i 32 with g | g
        · exact g
        · have h2 : k < 2 ^ i := Nat.lt_of_lt_of_le hk (by rw [show 512 = 2 ^ 9 from rfl]; exact Nat.pow_le_pow_right (by decide) (by omega))
          rw [Nat.testBit_lt_two_pow h2] at e
          cases e
      simp [h32]
theorem sbt_le {k f : Nat} (hk : k < 512) (h : sbt k f = true) : k ≤ f := by
  have e : k &&& f = k := by
    refine Nat.eq_of_testBit_eq (fun i => ?_)
    rw [Nat.testBit_and]
    cases e : k.testBit i with
    | false => rfl
    | true => rw [(sbt_iff hk).mp h i e]; rfl
  rw [← e]
  exact Nat.and_le_right
def fok (d : dt) (f : Nat) (tip : Int32) (k : Nat) : Bool := sbt k f && decide (0 < tip + 5 * nI (wo d k))
def fbt (d : dt) (k : Nat) : Option Nat → Bool
  | none => true
  | some j => decide (pc k < pc j) || (decide (pc k = pc j) && decide (wo d k < wo d j))
def bst (d : dt) (f : Nat) (tip : Int32) : Nat → Option Nat
  | 0 => none
  | k + 1 => if (fok d f tip k && fbt d k (bst d f tip k)) = true then some k else bst d f tip k
theorem bst_lt {d : dt} {f : Nat} {tip : Int32} : ∀ {k j : Nat}, bst d f tip k = some j → j < k
  | 0, j, h => by cases h
  | k + 1, j, h => by
    unfold bst at h
    split at h
    · cases h; omega
    · have := bst_lt h; omega
theorem bst_up {d : dt} {f : Nat} {tip : Int32} : ∀ m, f + 1 + m ≤ 512 → bst d f tip (f + 1 + m) = bst d f tip (f + 1)
  | 0, _ => rfl
  | m + 1, h => by
    have ih := bst_up (d := d) (f := f) (tip := tip) m (by omega)
    show (if (fok d f tip (f + 1 + m) && fbt d (f + 1 + m) (bst d f tip (f + 1 + m))) = true then some (f + 1 + m) else bst d f tip (f + 1 + m)) = _
    have hno : fok d f tip (f + 1 + m) = false := by
      unfold fok
      cases e : sbt (f + 1 + m) f with
      | false => rfl
      | true => have := sbt_le (by omega) e; omega
    rw [hno, Bool.false_and, if_neg (by decide), ih]
def pa (o : Option Nat) : Nat := match o with | none => 0 | some j => pc j
def wa (d : dt) (o : Option Nat) : Nat := match o with | none => 0 | some j => wo d j
theorem x_fewest_lp {d : dt} {f : Nat} {tip : Int32} {S : gz_S} {Q : Int32 → gz_S → Prop} (hd : d_ok d) (hX : d_X S d) (hf : f < 512) (hQ : Q (oI (bst d f tip (f + 1))) S) : ∀ (m k : Nat), k + m = f + 1 → wX7_fewestBits_32 Q (m + 1) (nI f) tip (oI (bst d f tip k)) (nI (pa (bst d f tip k))) (nI (wa d (bst d f tip k))) (nI k) S
  | 0, k, h => by
    obtain rfl : k = f + 1 := by omega
    unfold wX7_fewestBits_32
    rw [nlt (by omega) (by omega)]
    exact ⟨fun _ => hQ, fun c => by omega⟩
  | m + 1, k, h => by
    have ih := x_fewest_lp hd hX hf hQ m (k + 1) (by omega)
    have e : bst d f tip (k + 1) = if (fok d f tip k && fbt d k (bst d f tip k)) = true then some k else bst d f tip k := rfl
    have hw := wo_le hd k
    unfold wX7_fewestBits_32 wX7_fewestBits_106 wX7_fewestBits_117
    rw [nlt (by omega) (by omega), and_not (by omega), nI_1]
    have keep : (fok d f tip k && fbt d k (bst d f tip k)) = false → wX7_fewestBits_32 Q (m + 1) (nI f) tip (oI (bst d f tip k)) (nI (pa (bst d f tip k))) (nI (wa d (bst d f tip k))) (nI (k + 1)) S := fun q => by
      rw [e, if_neg (by rw [q]; decide)] at ih
      exact ih
    have take : (fok d f tip k && fbt d k (bst d f tip k)) = true → wX7_fewestBits_32 Q (m + 1) (nI f) tip (nI k) (nI (pc k)) (nI (wo d k)) (nI (k + 1)) S := fun q => by
      rw [e, if_pos q] at ih
      exact ih
    refine ⟨fun c => by omega, fun _ => ⟨fun c => x_bc (by omega) (x_weightOf hd hX (by omega) ⟨fun c2 => ?_, fun c2 => ?_⟩), fun c => keep ?_⟩⟩
    · have hok : fok d f tip k = true := by unfold fok; rw [c]; simpa using c2
      rw [hok, Bool.true_and] at keep take
      cases hb : bst d f tip k with
      | none =>
        rw [hb] at take
        exact ⟨fun _ => take rfl, fun q => absurd rfl q⟩
      | some j =>
        rw [hb] at take keep
        have hj := bst_lt hb
        have hwj := wo_le hd j
        have hp1 := pc_le k
        have hp2 := pc_le j
        refine ⟨fun q => absurd q (nm1 (by omega)), fun _ => ?_⟩
        show (nI (pc k) < nI (pc j) → _) ∧ (¬ nI (pc k) < nI (pc j) → (¬ nI (pc k) = nI (pc j) → _) ∧ (nI (pc k) = nI (pc j) → (nI (wo d j) ≤ nI (wo d k) → _) ∧ (¬ nI (wo d j) ≤ nI (wo d k) → _)))
        rw [nlt (by omega) (by omega), neq (by omega) (by omega), nle (by omega) (by omega)]
        have hfb : fbt d k (some j) = (decide (pc k < pc j) || (decide (pc k = pc j) && decide (wo d k < wo d j))) := rfl
        rw [hfb] at take keep
        refine ⟨fun q => take ?_, fun q => ⟨fun q2 => keep ?_, fun q2 => ⟨fun q3 => keep ?_, fun q3 => take ?_⟩⟩⟩
        · simp [q]
        · simp [q, q2]
        · have : ¬ wo d k < wo d j := by omega
          simp [q, this]
        · have : wo d k < wo d j := by omega
          simp [q2, this]
    · refine keep ?_
      have : fok d f tip k = false := by unfold fok; rw [c]; simpa using c2
      rw [this]; rfl
    · have c' : sbt k f = false := by cases h : sbt k f with | true => exact absurd h c | false => rfl
      unfold fok
      rw [c']; rfl
theorem x_fewest {d : dt} {td : Nat → Int32} {ar : Nat → Nat} {S : gz_S} {Q : Int32 → gz_S → Prop} (hS : XS S d td ar) (hQ : ∀ S', fr gX S S' → Q (oI (bst d (fr9 d 0) (tp d td (d_hr d)) (fr9 d 0 + 1))) S') : wX7_fewestBits S Q := by
  have hb := hS.1.2.2.2.1
  unfold wX7_fewestBits
  refine x_layable (sd := 0) hS (by decide) ?_
  rw [hS.2.1.2.2.1.1]
  exact hS.tip hb.2 (fun S1 hf1 _ _ => ⟨_, x_fewest_lp hS.1 (hS.keep hf1).2.1 (fr9_lt hS.1 0).2 (hQ S1 hf1) (fr9 d 0 + 1) 0 (by omega)⟩)
theorem m_59 {d : dt} {k21 : Int32 → Int32 → Int32 → Int32 → Int32 → gz_S → Prop} {Q : Int32 → gz_S → Prop} {x1 x2 x3 : Int32} {o : Option Nat} {k : Nat} {t : Bool} {S : gz_S} (hd : d_ok d) (hM : d_M S d) (hk : k < 512) (ho : ∀ j, o = some j → j < 512) (h : k21 x1 x2 x3 (oI (if (t && fbt d k o) = true then some k else o)) (nI k + 1) S) : wX8_fewestOf_59 k21 Q x1 x2 x3 (oI o) (nI k) (bI t) S := by
  have h113 : ∀ u : Bool, u = fbt d k o → wX8_fewestOf_113 k21 Q x1 x2 x3 (oI o) (nI k) (bI t) (bI u) S := by
    intro u eu
    rw [← eu] at h
    unfold wX8_fewestOf_113 wX8_fewestOf_130 wX8_fewestOf_132
    rw [bI_0, bI_0]
    cases t with
    | false => exact ⟨fun _ => h, fun c => absurd rfl c⟩
    | true =>
      cases u with
      | false => exact ⟨fun c => absurd c (by decide), fun _ => ⟨fun _ => h, fun c => absurd rfl c⟩⟩
      | true => exact ⟨fun c => absurd c (by decide), fun _ => ⟨fun c => absurd c (by decide), fun _ => h⟩⟩
  unfold wX8_fewestOf_59 wX8_fewestOf_108 wX8_fewestOf_112
  cases o with
  | none => exact ⟨fun _ => h113 true rfl, fun c => absurd rfl c⟩
  | some j =>
    have hj := ho j rfl
    have hw := wo_le hd k
    have hwj := wo_le hd j
    have hp1 := pc_le k
    have hp2 := pc_le j
    have hfb : fbt d k (some j) = (decide (pc k < pc j) || (decide (pc k = pc j) && decide (wo d k < wo d j))) := rfl
    refine ⟨fun c => absurd c (nm1 (by omega)), fun _ => m_ones hk (m_ones hj ?_)⟩
    rw [nlt (by omega) (by omega)]
    refine ⟨fun c => h113 true (by rw [hfb]; simp [c]), fun c => m_ones hk (m_ones hj ?_)⟩
    rw [neq (by omega) (by omega)]
    refine ⟨fun c2 => h113 false (by rw [hfb]; simp [c, c2]), fun c2 => m_weightOf hd hM (by omega) (m_weightOf hd hM (by omega) ?_)⟩
    rw [nle (by omega) (by omega)]
    refine ⟨fun c3 => h113 false ?_, fun c3 => h113 true ?_⟩
    · have : ¬ wo d k < wo d j := by omega
      rw [hfb]; simp [c, this]
    · have : wo d k < wo d j := by omega
      rw [hfb]; simp [c2, this]
theorem m_fewest_lp {d : dt} {f w : Nat} {tip : Int32} {S : gz_S} {Q : Int32 → gz_S → Prop} (hd : d_ok d) (hM : d_M S d) (hw : w ≤ 1) (hQ1 : bst d f tip (2 ^ d_ns d) = none → Q (-1) S) (hQ2 : ∀ j, bst d f tip (2 ^ d_ns d) = some j → Q (if w = 0 then nI (pc j) else nI j) S) : ∀ (m k : Nat), k + m = 2 ^ d_ns d → wX8_fewestOf_21 Q (m + 1) (nI w) tip (nI f) (oI (bst d f tip k)) (nI k) S
  | 0, k, h => by
    have hns := hd.1.2
    have h9 := p29 hns
    obtain rfl : k = 2 ^ d_ns d := by omega
    unfold wX8_fewestOf_21 wX8_fewestOf_151
    rw [hM.2.1.1, shl1 (by omega)]
    refine ⟨fun _ => ?_, fun c => absurd (nI_le (Nat.le_refl _) (by omega)) c⟩
    cases hb : bst d f tip (2 ^ d_ns d) with
    | none => exact ⟨fun _ => hQ1 hb, fun c => absurd rfl c⟩
    | some j =>
      have hj := bst_lt hb
      have q := hQ2 j hb
      refine ⟨fun c => absurd c (nm1 (by omega)), fun _ => ?_⟩
      rw [n1' (by omega)]
      refine ⟨fun c => m_ones (by omega) ?_, fun c => ?_⟩
      · rw [if_pos (by omega)] at q; exact q
      · rw [if_neg (by omega)] at q; exact q
  | m + 1, k, h => by
    have hns := hd.1.2
    have h9 := p29 hns
    have ih := m_fewest_lp hd hM hw hQ1 hQ2 m (k + 1) (by omega)
    have e : bst d f tip (k + 1) = if (fok d f tip k && fbt d k (bst d f tip k)) = true then some k else bst d f tip k := rfl
    have hgo : ∀ t : Bool, t = fok d f tip k → wX8_fewestOf_59 (fun y0 y1 y2 y3 y4 S => wX8_fewestOf_21 Q (m + 1) y0 y1 y2 y3 y4 S) Q (nI w) tip (nI f) (oI (bst d f tip k)) (nI k) (bI t) S := fun t et => by
      refine m_59 hd hM (by omega) (fun j hj => by have := bst_lt hj; omega) ?_
      rw [et, ← e, nI_1]
      exact ih
    unfold wX8_fewestOf_21 wX8_fewestOf_58
    rw [hM.2.1.1, shl1 (by omega), nle (by omega) (by omega), and_not (by omega)]
    refine ⟨fun c => by omega, fun _ => ⟨fun c => hgo false ?_, fun c => m_weightOf hd hM (by omega) ⟨fun c2 => hgo false ?_, fun c2 => hgo true ?_⟩⟩⟩
    · have c' : sbt k f = false := by cases h : sbt k f with | true => exact absurd h c | false => rfl
      unfold fok
      rw [c']; rfl
    · have : ¬ 0 < tip + 5 * nI (wo d k) := by rw [pn_lt]; rw [pn_le] at c2; omega
      unfold fok
      rw [c]; simp [this]
    · have : 0 < tip + 5 * nI (wo d k) := by rw [pn_lt]; rw [pn_le] at c2; omega
      unfold fok
      rw [c]; simp [this]
def few (d : dt) (td : Nat → Int32) (w : Nat) : Int32 := match bst d (fr9 d 0) (tp d td (d_hr d)) (fr9 d 0 + 1) with
  | none => -1
  | some j => if w = 0 then nI (pc j) else nI j
theorem bst_end {d : dt} (hd : d_ok d) {tip : Int32} {sd : Nat} : bst d (fr9 d sd) tip (2 ^ d_ns d) = bst d (fr9 d sd) tip (fr9 d sd + 1) := by
  have h := fr9_lt hd sd
  have h9 := p29 hd.1.2
  have := bst_up (d := d) (f := fr9 d sd) (tip := tip) (2 ^ d_ns d - (fr9 d sd + 1)) (by omega)
  rw [show fr9 d sd + 1 + (2 ^ d_ns d - (fr9 d sd + 1)) = 2 ^ d_ns d by omega] at this
  exact this
theorem x_few {d : dt} {td : Nat → Int32} {ar : Nat → Nat} {w : Nat} (hw : w ≤ 1) : lX (wX7_fewest (nI w)) d td ar (few d td w) := fun S Q hS hQ => by
  unfold wX7_fewest
  refine w_within (fun _ _ => ⟨fun _ => ?_, fun c => absurd c n10⟩) (fun g => absurd ⟨nI_pos' (by omega), nI_le (b := 1) hw (by decide)⟩ g)
  refine x_fewest hS (fun S1 hf1 => ?_)
  have q := hQ S1 hf1
  unfold few at q
  have hlt := fr9_lt hS.1 0
  cases hb : bst d (fr9 d 0) (tp d td (d_hr d)) (fr9 d 0 + 1) with
  | none =>
    rw [hb] at q
    exact ⟨fun c => absurd rfl c, fun _ => q⟩
  | some j =>
    rw [hb] at q
    have hj := bst_lt hb
    dsimp only at q
    refine ⟨fun _ => ?_, fun c => absurd c (nm1 (by omega))⟩
    rw [n0' (by omega)]
    refine ⟨fun c => ?_, fun c => x_bc (by omega) ?_⟩
    · rw [if_neg c] at q; exact q
    · rw [if_pos c] at q; exact q
theorem m_few {d : dt} {td : Nat → Int32} {ar : Nat → Nat} {w : Nat} (hw : w ≤ 1) : lM (wX8_fewestOf (nI w)) d td ar (few d td w) := fun S Q hS hQ => by
  have hb := hS.1.2.2.2.1
  unfold wX8_fewestOf
  refine hS.end_ (hS.tip hb.2 (fun S1 hf1 hJ _ => m_freeOf (sd := 0) hS.1 (hS.keep hf1).2.1 (by decide) hJ ?_))
  have q := hQ S1 hf1
  unfold few at q
  rw [← bst_end hS.1] at q
  refine ⟨_, m_fewest_lp hS.1 (hS.keep hf1).2.1 hw (fun h => ?_) (fun j h => ?_) (2 ^ d_ns d) 0 (by omega)⟩
  · rw [h] at q; exact q
  · rw [h] at q; exact q
theorem p_fewest (x1 : Int32) : pr (wX7_fewest x1) (wX8_fewest x1) := by
  refine pr_lk (wm := fun S1 Q => wX8_isTwo x1 S1 (fun r5 S5 => (r5 = 0 → Q (-2) S5) ∧ (¬ r5 = 0 → wX8_fewestOf x1 S5 (fun r13 S13 => Q r13 S13)))) (fun d td ar hd => ?_)
  by_cases g : 0 ≤ x1 ∧ x1 ≤ 1
  · obtain ⟨w, hw, rfl⟩ := pn_rng (hi := 1) (by decide) g.1 g.2
    exact ⟨few d td w, x_few hw, fun S Q hS hQ => w_isTwo (fun _ _ => ⟨fun c => absurd c n10, fun _ => m_few hw S _ hS hQ⟩) (fun q => absurd g q)⟩
  · refine ⟨-2, fun S Q hS hQ => ?_, fun S Q hS hQ => w_isTwo (fun a b => absurd ⟨a, b⟩ g) (fun _ => ⟨fun _ => hQ S fr_rf, fun c => absurd rfl c⟩)⟩
    unfold wX7_fewest
    exact w_within (fun a b => absurd ⟨a, b⟩ g) (fun _ => ⟨fun c => absurd rfl c, fun _ => hQ S fr_rf⟩)
