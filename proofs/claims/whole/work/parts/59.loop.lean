/-! ===== the law's loop ===== -/
def kL (L : Nat) (xs : Nat → Int32) (Q : Int32 → gz_S → Prop) (n : Nat) (x : Int32) (r r2 : Int32) (S2 : gz_S) : Prop := (r = r2 → wL_law_1137 L xs (fun y0 S => wL_law_18 L xs Q n y0 S) Q x S2) ∧ (¬ r = r2 → Q 0 S2)
def kL6 (L : Nat) (xs : Nat → Int32) (Q : Int32 → gz_S → Prop) (n : Nat) (x : Int32) (r r2 : Int64) (S2 : gz_S) : Prop := (lg_cmp r r2 = 0 → wL_law_1137 L xs (fun y0 S => wL_law_18 L xs Q n y0 S) Q x S2) ∧ (¬ lg_cmp r r2 = 0 → Q 0 S2)
theorem lg_rf (r : Int64) : lg_cmp r r = 0 := by
  unfold lg_cmp
  have h : ¬ r < r := by rw [fa_lt64]; omega
  simp [h]
theorem lc_type {L n : Nat} {xs : Nat → Int32} {Q : Int32 → gz_S → Prop} {x : Int32} {S : gz_S} (hR : Rel S) (v1 : vp_in (x + 1) L) (v2 : vp_in (x + 2) L) (hk : ∀ (r : Int32) S2, Rel S2 → kL L xs Q n x r r S2) : vp_in (x + 1) L ∧ vp_in (x + 2) L ∧ wX7_type (xs (x + 1).toNatClampNeg) (xs (x + 2).toNatClampNeg) S (fun r S1 => vp_in (x + 1) L ∧ vp_in (x + 2) L ∧ wX8_type (xs (x + 1).toNatClampNeg) (xs (x + 2).toNatClampNeg) S1 (fun r2 S2 => kL L xs Q n x r r2 S2)) :=
  ⟨v1, v2, p_type _ _ S (fun p => vp_in (x + 1) L ∧ vp_in (x + 2) L ∧ p) (kL L xs Q n x) hR (fun p hp => ⟨v1, v2, hp⟩) hk⟩
theorem lc_wipe {L n : Nat} {xs : Nat → Int32} {Q : Int32 → gz_S → Prop} {x : Int32} {S : gz_S} (hR : Rel S) (v1 : vp_in (x + 1) L) (hk : ∀ (r : Int32) S2, Rel S2 → kL L xs Q n x r r S2) : vp_in (x + 1) L ∧ wX7_wipe (xs (x + 1).toNatClampNeg) S (fun r S1 => vp_in (x + 1) L ∧ wX8_wipe (xs (x + 1).toNatClampNeg) S1 (fun r2 S2 => kL L xs Q n x r r2 S2)) :=
  ⟨v1, p_wipe _ S (fun p => vp_in (x + 1) L ∧ p) (kL L xs Q n x) hR (fun p hp => ⟨v1, hp⟩) hk⟩
theorem lc_fault {L n : Nat} {xs : Nat → Int32} {Q : Int32 → gz_S → Prop} {x : Int32} {S : gz_S} (hR : Rel S) (v1 : vp_in (x + 1) L) (hk : ∀ (r : Int32) S2, Rel S2 → kL L xs Q n x r r S2) : vp_in (x + 1) L ∧ wX7_fault (xs (x + 1).toNatClampNeg) S (fun r S1 => vp_in (x + 1) L ∧ wX8_fault (xs (x + 1).toNatClampNeg) S1 (fun r2 S2 => kL L xs Q n x r r2 S2)) :=
  ⟨v1, p_fault _ S (fun p => vp_in (x + 1) L ∧ p) (kL L xs Q n x) hR (fun p hp => ⟨v1, hp⟩) hk⟩
theorem lc_person {L n : Nat} {xs : Nat → Int32} {Q : Int32 → gz_S → Prop} {x : Int32} {S : gz_S} (hR : Rel S) (v1 : vp_in (x + 1) L) (v2 : vp_in (x + 2) L) (hk : ∀ (r : Int32) S2, Rel S2 → kL L xs Q n x r r S2) : vp_in (x + 1) L ∧ vp_in (x + 2) L ∧ wX7_person (xs (x + 1).toNatClampNeg) (xs (x + 2).toNatClampNeg) S (fun r S1 => vp_in (x + 1) L ∧ vp_in (x + 2) L ∧ wX8_person (xs (x + 1).toNatClampNeg) (xs (x + 2).toNatClampNeg) S1 (fun r2 S2 => kL L xs Q n x r r2 S2)) :=
  ⟨v1, v2, p_person _ _ S (fun p => vp_in (x + 1) L ∧ vp_in (x + 2) L ∧ p) (kL L xs Q n x) hR (fun p hp => ⟨v1, v2, hp⟩) hk⟩
theorem lc_stone {L n : Nat} {xs : Nat → Int32} {Q : Int32 → gz_S → Prop} {x : Int32} {S : gz_S} (hR : Rel S) (v1 : vp_in (x + 1) L) (v2 : vp_in (x + 2) L) (hk : ∀ (r : Int32) S2, Rel S2 → kL L xs Q n x r r S2) : vp_in (x + 1) L ∧ vp_in (x + 2) L ∧ wX7_stone (xs (x + 1).toNatClampNeg) (xs (x + 2).toNatClampNeg) S (fun r S1 => vp_in (x + 1) L ∧ vp_in (x + 2) L ∧ wX8_stone (xs (x + 1).toNatClampNeg) (xs (x + 2).toNatClampNeg) S1 (fun r2 S2 => kL L xs Q n x r r2 S2)) :=
  ⟨v1, v2, p_stone _ _ S (fun p => vp_in (x + 1) L ∧ vp_in (x + 2) L ∧ p) (kL L xs Q n x) hR (fun p hp => ⟨v1, v2, hp⟩) hk⟩
theorem lc_set {L n : Nat} {xs : Nat → Int32} {Q : Int32 → gz_S → Prop} {x : Int32} {S : gz_S} (hR : Rel S) (v1 : vp_in (x + 1) L) (v2 : vp_in (x + 2) L) (hk : ∀ (r : Int32) S2, Rel S2 → kL L xs Q n x r r S2) : vp_in (x + 1) L ∧ vp_in (x + 2) L ∧ wX7_set (xs (x + 1).toNatClampNeg) (xs (x + 2).toNatClampNeg) S (fun r S1 => vp_in (x + 1) L ∧ vp_in (x + 2) L ∧ wX8_set (xs (x + 1).toNatClampNeg) (xs (x + 2).toNatClampNeg) S1 (fun r2 S2 => kL L xs Q n x r r2 S2)) :=
  ⟨v1, v2, p_set _ _ S (fun p => vp_in (x + 1) L ∧ vp_in (x + 2) L ∧ p) (kL L xs Q n x) hR (fun p hp => ⟨v1, v2, hp⟩) hk⟩
theorem lc_tide {L n : Nat} {xs : Nat → Int32} {Q : Int32 → gz_S → Prop} {x : Int32} {S : gz_S} (hR : Rel S) (v1 : vp_in (x + 1) L) (v2 : vp_in (x + 2) L) (hk : ∀ (r : Int32) S2, Rel S2 → kL L xs Q n x r r S2) : vp_in (x + 1) L ∧ vp_in (x + 2) L ∧ wX7_tide (xs (x + 1).toNatClampNeg) (xs (x + 2).toNatClampNeg) S (fun r S1 => vp_in (x + 1) L ∧ vp_in (x + 2) L ∧ wX8_tide (xs (x + 1).toNatClampNeg) (xs (x + 2).toNatClampNeg) S1 (fun r2 S2 => kL L xs Q n x r r2 S2)) :=
  ⟨v1, v2, p_tide _ _ S (fun p => vp_in (x + 1) L ∧ vp_in (x + 2) L ∧ p) (kL L xs Q n x) hR (fun p hp => ⟨v1, v2, hp⟩) hk⟩
theorem lc_carry {L n : Nat} {xs : Nat → Int32} {Q : Int32 → gz_S → Prop} {x : Int32} {S : gz_S} (hR : Rel S) (v1 : vp_in (x + 1) L) (v2 : vp_in (x + 2) L) (v3 : vp_in (x + 3) L) (hk : ∀ (r : Int32) S2, Rel S2 → kL L xs Q n x r r S2) : vp_in (x + 1) L ∧ vp_in (x + 2) L ∧ vp_in (x + 3) L ∧ wX7_carry (xs (x + 1).toNatClampNeg) (xs (x + 2).toNatClampNeg) (xs (x + 3).toNatClampNeg) S (fun r S1 => vp_in (x + 1) L ∧ vp_in (x + 2) L ∧ vp_in (x + 3) L ∧ wX8_carry (xs (x + 1).toNatClampNeg) (xs (x + 2).toNatClampNeg) (xs (x + 3).toNatClampNeg) S1 (fun r2 S2 => kL L xs Q n x r r2 S2)) :=
  ⟨v1, v2, v3, p_carry _ _ _ S (fun p => vp_in (x + 1) L ∧ vp_in (x + 2) L ∧ vp_in (x + 3) L ∧ p) (kL L xs Q n x) hR (fun p hp => ⟨v1, v2, v3, hp⟩) hk⟩
theorem lc_read {L n : Nat} {xs : Nat → Int32} {Q : Int32 → gz_S → Prop} {x : Int32} {S : gz_S} (hR : Rel S) (v1 : vp_in (x + 1) L) (hk : ∀ (r : Int32) S2, Rel S2 → kL L xs Q n x r r S2) : vp_in (x + 1) L ∧ wX7_read (xs (x + 1).toNatClampNeg) S (fun r S1 => vp_in (x + 1) L ∧ wX8_read (xs (x + 1).toNatClampNeg) S1 (fun r2 S2 => kL L xs Q n x r r2 S2)) :=
  ⟨v1, p_read _ S (fun p => vp_in (x + 1) L ∧ p) (kL L xs Q n x) hR (fun p hp => ⟨v1, hp⟩) hk⟩
theorem lc_undo {L n : Nat} {xs : Nat → Int32} {Q : Int32 → gz_S → Prop} {x : Int32} {S : gz_S} (hR : Rel S) (hk : ∀ (r : Int32) S2, Rel S2 → kL L xs Q n x r r S2) : wX7_undo  S (fun r S1 => wX8_undo  S1 (fun r2 S2 => kL L xs Q n x r r2 S2)) :=
  p_undo  S (fun p => p) (kL L xs Q n x) hR (fun p hp => hp) hk
theorem lc_judged {L n : Nat} {xs : Nat → Int32} {Q : Int32 → gz_S → Prop} {x : Int32} {S : gz_S} (hR : Rel S) (hk : ∀ (r : Int32) S2, Rel S2 → kL L xs Q n x r r S2) : wX7_judged  S (fun r S1 => wX8_judged  S1 (fun r2 S2 => kL L xs Q n x r r2 S2)) :=
  p_judged  S (fun p => p) (kL L xs Q n x) hR (fun p hp => hp) hk
theorem lc_laid {L n : Nat} {xs : Nat → Int32} {Q : Int32 → gz_S → Prop} {x : Int32} {S : gz_S} (hR : Rel S) (v1 : vp_in (x + 1) L) (hk : ∀ (r : Int32) S2, Rel S2 → kL L xs Q n x r r S2) : vp_in (x + 1) L ∧ wX7_laid (xs (x + 1).toNatClampNeg) S (fun r S1 => vp_in (x + 1) L ∧ wX8_laid (xs (x + 1).toNatClampNeg) S1 (fun r2 S2 => kL L xs Q n x r r2 S2)) :=
  ⟨v1, p_laid _ S (fun p => vp_in (x + 1) L ∧ p) (kL L xs Q n x) hR (fun p hp => ⟨v1, hp⟩) hk⟩
theorem lc_tip {L n : Nat} {xs : Nat → Int32} {Q : Int32 → gz_S → Prop} {x : Int32} {S : gz_S} (hR : Rel S) (v1 : vp_in (x + 1) L) (hk : ∀ (r : Int32) S2, Rel S2 → kL L xs Q n x r r S2) : vp_in (x + 1) L ∧ wX7_tip (xs (x + 1).toNatClampNeg) S (fun r S1 => vp_in (x + 1) L ∧ wX8_tip (xs (x + 1).toNatClampNeg) S1 (fun r2 S2 => kL L xs Q n x r r2 S2)) :=
  ⟨v1, p_tip _ S (fun p => vp_in (x + 1) L ∧ p) (kL L xs Q n x) hR (fun p hp => ⟨v1, hp⟩) hk⟩
theorem lc_shelf {L n : Nat} {xs : Nat → Int32} {Q : Int32 → gz_S → Prop} {x : Int32} {S : gz_S} (hR : Rel S) (v1 : vp_in (x + 1) L) (v2 : vp_in (x + 2) L) (v3 : vp_in (x + 3) L) (hk : ∀ (r : Int32) S2, Rel S2 → kL L xs Q n x r r S2) : vp_in (x + 1) L ∧ vp_in (x + 2) L ∧ vp_in (x + 3) L ∧ wX7_shelf (xs (x + 1).toNatClampNeg) (xs (x + 2).toNatClampNeg) (xs (x + 3).toNatClampNeg) S (fun r S1 => vp_in (x + 1) L ∧ vp_in (x + 2) L ∧ vp_in (x + 3) L ∧ wX8_shelf (xs (x + 1).toNatClampNeg) (xs (x + 2).toNatClampNeg) (xs (x + 3).toNatClampNeg) S1 (fun r2 S2 => kL L xs Q n x r r2 S2)) :=
  ⟨v1, v2, v3, p_shelf _ _ _ S (fun p => vp_in (x + 1) L ∧ vp_in (x + 2) L ∧ vp_in (x + 3) L ∧ p) (kL L xs Q n x) hR (fun p hp => ⟨v1, v2, v3, hp⟩) hk⟩
theorem lc_slid {L n : Nat} {xs : Nat → Int32} {Q : Int32 → gz_S → Prop} {x : Int32} {S : gz_S} (hR : Rel S) (v1 : vp_in (x + 1) L) (hk : ∀ (r : Int32) S2, Rel S2 → kL L xs Q n x r r S2) : vp_in (x + 1) L ∧ wX7_slid (xs (x + 1).toNatClampNeg) S (fun r S1 => vp_in (x + 1) L ∧ wX8_slid (xs (x + 1).toNatClampNeg) S1 (fun r2 S2 => kL L xs Q n x r r2 S2)) :=
  ⟨v1, p_slid _ S (fun p => vp_in (x + 1) L ∧ p) (kL L xs Q n x) hR (fun p hp => ⟨v1, hp⟩) hk⟩
theorem lc_when {L n : Nat} {xs : Nat → Int32} {Q : Int32 → gz_S → Prop} {x : Int32} {S : gz_S} (hR : Rel S) (hk : ∀ (r : Int32) S2, Rel S2 → kL L xs Q n x r r S2) : wX7_when  S (fun r S1 => wX8_when  S1 (fun r2 S2 => kL L xs Q n x r r2 S2)) :=
  p_when  S (fun p => p) (kL L xs Q n x) hR (fun p hp => hp) hk
theorem lc_result {L n : Nat} {xs : Nat → Int32} {Q : Int32 → gz_S → Prop} {x : Int32} {S : gz_S} (hR : Rel S) (v1 : vp_in (x + 1) L) (hk : ∀ (r : Int32) S2, Rel S2 → kL L xs Q n x r r S2) : vp_in (x + 1) L ∧ wX7_result (xs (x + 1).toNatClampNeg) S (fun r S1 => vp_in (x + 1) L ∧ wX8_result (xs (x + 1).toNatClampNeg) S1 (fun r2 S2 => kL L xs Q n x r r2 S2)) :=
  ⟨v1, p_result _ S (fun p => vp_in (x + 1) L ∧ p) (kL L xs Q n x) hR (fun p hp => ⟨v1, hp⟩) hk⟩
theorem lc_without {L n : Nat} {xs : Nat → Int32} {Q : Int32 → gz_S → Prop} {x : Int32} {S : gz_S} (hR : Rel S) (v1 : vp_in (x + 1) L) (hk : ∀ (r : Int32) S2, Rel S2 → kL L xs Q n x r r S2) : vp_in (x + 1) L ∧ wX7_without (xs (x + 1).toNatClampNeg) S (fun r S1 => vp_in (x + 1) L ∧ wX8_without (xs (x + 1).toNatClampNeg) S1 (fun r2 S2 => kL L xs Q n x r r2 S2)) :=
  ⟨v1, p_without _ S (fun p => vp_in (x + 1) L ∧ p) (kL L xs Q n x) hR (fun p hp => ⟨v1, hp⟩) hk⟩
theorem lc_settled {L n : Nat} {xs : Nat → Int32} {Q : Int32 → gz_S → Prop} {x : Int32} {S : gz_S} (hR : Rel S) (hk : ∀ (r : Int32) S2, Rel S2 → kL L xs Q n x r r S2) : wX7_settled  S (fun r S1 => wX8_settled  S1 (fun r2 S2 => kL L xs Q n x r r2 S2)) :=
  p_settled  S (fun p => p) (kL L xs Q n x) hR (fun p hp => hp) hk
theorem lc_doubles {L n : Nat} {xs : Nat → Int32} {Q : Int32 → gz_S → Prop} {x : Int32} {S : gz_S} (hR : Rel S) (hk : ∀ (r : Int32) S2, Rel S2 → kL L xs Q n x r r S2) : wX7_doubles  S (fun r S1 => wX8_doubles  S1 (fun r2 S2 => kL L xs Q n x r r2 S2)) :=
  p_doubles  S (fun p => p) (kL L xs Q n x) hR (fun p hp => hp) hk
theorem lc_fewest {L n : Nat} {xs : Nat → Int32} {Q : Int32 → gz_S → Prop} {x : Int32} {S : gz_S} (hR : Rel S) (v1 : vp_in (x + 1) L) (hk : ∀ (r : Int32) S2, Rel S2 → kL L xs Q n x r r S2) : vp_in (x + 1) L ∧ wX7_fewest (xs (x + 1).toNatClampNeg) S (fun r S1 => vp_in (x + 1) L ∧ wX8_fewest (xs (x + 1).toNatClampNeg) S1 (fun r2 S2 => kL L xs Q n x r r2 S2)) :=
  ⟨v1, p_fewest _ S (fun p => vp_in (x + 1) L ∧ p) (kL L xs Q n x) hR (fun p hp => ⟨v1, hp⟩) hk⟩
theorem lc_most {L n : Nat} {xs : Nat → Int32} {Q : Int32 → gz_S → Prop} {x : Int32} {S : gz_S} (hR : Rel S) (v1 : vp_in (x + 1) L) (hk : ∀ (r : Int32) S2, Rel S2 → kL L xs Q n x r r S2) : vp_in (x + 1) L ∧ wX7_most (xs (x + 1).toNatClampNeg) S (fun r S1 => vp_in (x + 1) L ∧ wX8_most (xs (x + 1).toNatClampNeg) S1 (fun r2 S2 => kL L xs Q n x r r2 S2)) :=
  ⟨v1, p_most _ S (fun p => vp_in (x + 1) L ∧ p) (kL L xs Q n x) hR (fun p hp => ⟨v1, hp⟩) hk⟩
theorem lc_hold {L n : Nat} {xs : Nat → Int32} {Q : Int32 → gz_S → Prop} {x : Int32} {S : gz_S} (hR : Rel S) (v1 : vp_in (x + 1) L) (hk : ∀ (r : Int32) S2, Rel S2 → kL L xs Q n x r r S2) : vp_in (x + 1) L ∧ wX7_hold (xs (x + 1).toNatClampNeg) S (fun r S1 => vp_in (x + 1) L ∧ wX8_hold (xs (x + 1).toNatClampNeg) S1 (fun r2 S2 => kL L xs Q n x r r2 S2)) :=
  ⟨v1, p_hold _ S (fun p => vp_in (x + 1) L ∧ p) (kL L xs Q n x) hR (fun p hp => ⟨v1, hp⟩) hk⟩
theorem lc_game {L n : Nat} {xs : Nat → Int32} {Q : Int32 → gz_S → Prop} {x : Int32} {S : gz_S} (hR : Rel S) (v1 : vp_in (x + 1) L) (v2 : vp_in (x + 2) L) (hk : ∀ (r : Int32) S2, Rel S2 → kL L xs Q n x r r S2) : vp_in (x + 1) L ∧ vp_in (x + 2) L ∧ wX7_game (xs (x + 1).toNatClampNeg) (xs (x + 2).toNatClampNeg) S (fun r S1 => vp_in (x + 1) L ∧ vp_in (x + 2) L ∧ wX8_game (xs (x + 1).toNatClampNeg) (xs (x + 2).toNatClampNeg) S1 (fun r2 S2 => kL L xs Q n x r r2 S2)) :=
  ⟨v1, v2, p_game _ _ S (fun p => vp_in (x + 1) L ∧ vp_in (x + 2) L ∧ p) (kL L xs Q n x) hR (fun p hp => ⟨v1, v2, hp⟩) hk⟩
theorem lc_arm {L n : Nat} {xs : Nat → Int32} {Q : Int32 → gz_S → Prop} {x : Int32} {S : gz_S} (hR : Rel S) (v1 : vp_in (x + 1) L) (v2 : vp_in (x + 2) L) (hk : ∀ (r : Int32) S2, Rel S2 → kL L xs Q n x r r S2) : vp_in (x + 1) L ∧ vp_in (x + 2) L ∧ wX7_arm (xs (x + 1).toNatClampNeg) (xs (x + 2).toNatClampNeg) S (fun r S1 => vp_in (x + 1) L ∧ vp_in (x + 2) L ∧ wX8_arm (xs (x + 1).toNatClampNeg) (xs (x + 2).toNatClampNeg) S1 (fun r2 S2 => kL L xs Q n x r r2 S2)) :=
  ⟨v1, v2, p_arm _ _ S (fun p => vp_in (x + 1) L ∧ vp_in (x + 2) L ∧ p) (kL L xs Q n x) hR (fun p hp => ⟨v1, v2, hp⟩) hk⟩
theorem lc_secret {L n : Nat} {xs : Nat → Int32} {Q : Int32 → gz_S → Prop} {x : Int32} {S : gz_S} (hR : Rel S) (v1 : vp_in (x + 1) L) (v2 : vp_in (x + 2) L) (hk : ∀ (r : Int32) S2, Rel S2 → kL L xs Q n x r r S2) : vp_in (x + 1) L ∧ vp_in (x + 2) L ∧ wX7_secret (xs (x + 1).toNatClampNeg) (xs (x + 2).toNatClampNeg) S (fun r S1 => vp_in (x + 1) L ∧ vp_in (x + 2) L ∧ wX8_secret (xs (x + 1).toNatClampNeg) (xs (x + 2).toNatClampNeg) S1 (fun r2 S2 => kL L xs Q n x r r2 S2)) :=
  ⟨v1, v2, p_secret _ _ S (fun p => vp_in (x + 1) L ∧ vp_in (x + 2) L ∧ p) (kL L xs Q n x) hR (fun p hp => ⟨v1, v2, hp⟩) hk⟩
theorem lc_sheet {L n : Nat} {xs : Nat → Int32} {Q : Int32 → gz_S → Prop} {x : Int32} {S : gz_S} (hR : Rel S) (v1 : vp_in (x + 1) L) (v2 : vp_in (x + 2) L) (v3 : vp_in (x + 3) L) (hk : ∀ (r : Int32) S2, Rel S2 → kL L xs Q n x r r S2) : vp_in (x + 1) L ∧ vp_in (x + 2) L ∧ vp_in (x + 3) L ∧ wX7_sheet (xs (x + 1).toNatClampNeg) (xs (x + 2).toNatClampNeg) (xs (x + 3).toNatClampNeg) S (fun r S1 => vp_in (x + 1) L ∧ vp_in (x + 2) L ∧ vp_in (x + 3) L ∧ wX8_sheet (xs (x + 1).toNatClampNeg) (xs (x + 2).toNatClampNeg) (xs (x + 3).toNatClampNeg) S1 (fun r2 S2 => kL L xs Q n x r r2 S2)) :=
  ⟨v1, v2, v3, p_sheet _ _ _ S (fun p => vp_in (x + 1) L ∧ vp_in (x + 2) L ∧ vp_in (x + 3) L ∧ p) (kL L xs Q n x) hR (fun p hp => ⟨v1, v2, v3, hp⟩) hk⟩
theorem lc_lose {L n : Nat} {xs : Nat → Int32} {Q : Int32 → gz_S → Prop} {x : Int32} {S : gz_S} (hR : Rel S) (v1 : vp_in (x + 1) L) (hk : ∀ (r : Int32) S2, Rel S2 → kL L xs Q n x r r S2) : vp_in (x + 1) L ∧ wX7_lose (xs (x + 1).toNatClampNeg) S (fun r S1 => vp_in (x + 1) L ∧ wX8_lose (xs (x + 1).toNatClampNeg) S1 (fun r2 S2 => kL L xs Q n x r r2 S2)) :=
  ⟨v1, p_lose _ S (fun p => vp_in (x + 1) L ∧ p) (kL L xs Q n x) hR (fun p hp => ⟨v1, hp⟩) hk⟩
theorem lc_lay {L n : Nat} {xs : Nat → Int32} {Q : Int32 → gz_S → Prop} {x : Int32} {S : gz_S} (hR : Rel S) (v1 : vp_in (x + 1) L) (v2 : vp_in (x + 2) L) (v3 : vp_in (x + 3) L) (v4 : vp_in (x + 4) L) (hk : ∀ (r : Int32) S2, Rel S2 → kL L xs Q n x r r S2) : vp_in (x + 1) L ∧ vp_in (x + 2) L ∧ vp_in (x + 3) L ∧ vp_in (x + 4) L ∧ wX7_lay (xs (x + 1).toNatClampNeg) (xs (x + 2).toNatClampNeg) (xs (x + 3).toNatClampNeg) (xs (x + 4).toNatClampNeg) S (fun r S1 => vp_in (x + 1) L ∧ vp_in (x + 2) L ∧ vp_in (x + 3) L ∧ vp_in (x + 4) L ∧ wX8_lay (xs (x + 1).toNatClampNeg) (xs (x + 2).toNatClampNeg) (xs (x + 3).toNatClampNeg) (xs (x + 4).toNatClampNeg) S1 (fun r2 S2 => kL L xs Q n x r r2 S2)) :=
  ⟨v1, v2, v3, v4, p_lay _ _ _ _ S (fun p => vp_in (x + 1) L ∧ vp_in (x + 2) L ∧ vp_in (x + 3) L ∧ vp_in (x + 4) L ∧ p) (kL L xs Q n x) hR (fun p hp => ⟨v1, v2, v3, v4, hp⟩) hk⟩
theorem lc_get {L n : Nat} {xs : Nat → Int32} {Q : Int32 → gz_S → Prop} {x : Int32} {S : gz_S} (hR : Rel S) (v1 : vp_in (x + 1) L) (v2 : vp_in (x + 2) L) (v3 : vp_in (x + 3) L) (hk : ∀ (r : Int32) S2, Rel S2 → kL L xs Q n x r r S2) : vp_in (x + 1) L ∧ vp_in (x + 2) L ∧ vp_in (x + 3) L ∧ wX7_get (xs (x + 1).toNatClampNeg) (xs (x + 2).toNatClampNeg) (xs (x + 3).toNatClampNeg) S (fun r S1 => vp_in (x + 1) L ∧ vp_in (x + 2) L ∧ vp_in (x + 3) L ∧ wX8_get (xs (x + 1).toNatClampNeg) (xs (x + 2).toNatClampNeg) (xs (x + 3).toNatClampNeg) S1 (fun r2 S2 => kL L xs Q n x r r2 S2)) :=
  ⟨v1, v2, v3, p_get _ _ _ S (fun p => vp_in (x + 1) L ∧ vp_in (x + 2) L ∧ vp_in (x + 3) L ∧ p) (kL L xs Q n x) hR (fun p hp => ⟨v1, v2, v3, hp⟩) hk⟩
theorem lc_copy {L n : Nat} {xs : Nat → Int32} {Q : Int32 → gz_S → Prop} {x : Int32} {S : gz_S} (hR : Rel S) (v1 : vp_in (x + 1) L) (v2 : vp_in (x + 2) L) (v3 : vp_in (x + 3) L) (v4 : vp_in (x + 4) L) (v5 : vp_in (x + 5) L) (hk : ∀ (r : Int32) S2, Rel S2 → kL L xs Q n x r r S2) : vp_in (x + 1) L ∧ vp_in (x + 2) L ∧ vp_in (x + 3) L ∧ vp_in (x + 4) L ∧ vp_in (x + 5) L ∧ wX7_copy (xs (x + 1).toNatClampNeg) (xs (x + 2).toNatClampNeg) (xs (x + 3).toNatClampNeg) (xs (x + 4).toNatClampNeg) (xs (x + 5).toNatClampNeg) S (fun r S1 => vp_in (x + 1) L ∧ vp_in (x + 2) L ∧ vp_in (x + 3) L ∧ vp_in (x + 4) L ∧ vp_in (x + 5) L ∧ wX8_copy (xs (x + 1).toNatClampNeg) (xs (x + 2).toNatClampNeg) (xs (x + 3).toNatClampNeg) (xs (x + 4).toNatClampNeg) (xs (x + 5).toNatClampNeg) S1 (fun r2 S2 => kL L xs Q n x r r2 S2)) :=
  ⟨v1, v2, v3, v4, v5, p_copy _ _ _ _ _ S (fun p => vp_in (x + 1) L ∧ vp_in (x + 2) L ∧ vp_in (x + 3) L ∧ vp_in (x + 4) L ∧ vp_in (x + 5) L ∧ p) (kL L xs Q n x) hR (fun p hp => ⟨v1, v2, v3, v4, v5, hp⟩) hk⟩
theorem lc_write {L n : Nat} {xs : Nat → Int32} {Q : Int32 → gz_S → Prop} {x : Int32} {S : gz_S} (hR : Rel S) (v1 : vp_in (x + 1) L) (hk : ∀ (r : Int32) S2, Rel S2 → kL L xs Q n x r r S2) : vp_in (x + 1) L ∧ wX7_write (xs (x + 1).toNatClampNeg) S (fun r S1 => vp_in (x + 1) L ∧ wX8_write (xs (x + 1).toNatClampNeg) S1 (fun r2 S2 => kL L xs Q n x r r2 S2)) :=
  ⟨v1, p_write _ S (fun p => vp_in (x + 1) L ∧ p) (kL L xs Q n x) hR (fun p hp => ⟨v1, hp⟩) hk⟩
theorem lc_count {L n : Nat} {xs : Nat → Int32} {Q : Int32 → gz_S → Prop} {x : Int32} {S : gz_S} (hR : Rel S) (v1 : vp_in (x + 1) L) (hk : ∀ (r : Int32) S2, Rel S2 → kL L xs Q n x r r S2) : vp_in (x + 1) L ∧ wX7_count (xs (x + 1).toNatClampNeg) S (fun r S1 => vp_in (x + 1) L ∧ wX8_count (xs (x + 1).toNatClampNeg) S1 (fun r2 S2 => kL L xs Q n x r r2 S2)) :=
  ⟨v1, p_count _ S (fun p => vp_in (x + 1) L ∧ p) (kL L xs Q n x) hR (fun p hp => ⟨v1, hp⟩) hk⟩
theorem lc_digest {L n : Nat} {xs : Nat → Int32} {Q : Int32 → gz_S → Prop} {x : Int32} {S : gz_S} (hR : Rel S) (hk : ∀ (r : Int64) S2, Rel S2 → kL6 L xs Q n x r r S2) : wX7_digest  S (fun r S1 => wX8_digest  S1 (fun r2 S2 => kL6 L xs Q n x r r2 S2)) :=
  p_digest  S (fun p => p) (kL6 L xs Q n x) hR (fun p hp => hp) hk
theorem law_lp {L : Nat} {xs : Nat → Int32} (hL : L ≤ 3072) : ∀ (n i : Nat) (S : gz_S), Rel S → i ≤ L → L < i + 6 * n → wL_law_18 L xs (fun r _ => r = 1) n (nI i) S
  | 0, i, S, hR, h1, h2 => by omega
  | n + 1, i, S, hR, h1, h2 => by
    have ih := law_lp (xs := xs) hL n (i + 6)
    have e6 : (6 : Int32).toInt = 6 := by decide
    have eL : (Int32.ofNat L - 6).toInt = (L : Int) - 6 := by
      have : (Int32.ofNat L).toInt = (L : Int) := pn_t (n := L) (by omega)
      rw [fb_subI] <;> rw [this, e6] <;> omega
    have ec : (Int32.ofNat L - 6 < nI i) ↔ L < i + 6 := by
      rw [pn_lt, eL, pn_t (by omega)]
      omega
    unfold wL_law_18
    rw [ec]
    refine ⟨fun _ => rfl, fun c => ?_⟩
    have v0 : vp_in (nI i) L := pn_in (by omega) (by omega)
    have v1 : vp_in (nI i + 1) L := by rw [show nI i + 1 = nI (i + 1) from nI_add i 1]; exact pn_in (by omega) (by omega)
    have v2 : vp_in (nI i + 2) L := by rw [show nI i + 2 = nI (i + 2) from nI_add i 2]; exact pn_in (by omega) (by omega)
    have v3 : vp_in (nI i + 3) L := by rw [show nI i + 3 = nI (i + 3) from nI_add i 3]; exact pn_in (by omega) (by omega)
    have v4 : vp_in (nI i + 4) L := by rw [show nI i + 4 = nI (i + 4) from nI_add i 4]; exact pn_in (by omega) (by omega)
    have v5 : vp_in (nI i + 5) L := by rw [show nI i + 5 = nI (i + 5) from nI_add i 5]; exact pn_in (by omega) (by omega)
    have go : ∀ S2, Rel S2 → wL_law_1137 L xs (fun y0 S => wL_law_18 L xs (fun r _ => r = 1) n y0 S) (fun r _ => r = 1) (nI i) S2 := fun S2 h => by
      unfold wL_law_1137
      rw [show nI i + 6 = nI (i + 6) from nI_add i 6]
      exact ih S2 h (by omega) (by omega)
    have hk : ∀ (r : Int32) S2, Rel S2 → kL L xs (fun r _ => r = 1) n (nI i) r r S2 := fun r S2 h => ⟨fun _ => go S2 h, fun q => absurd rfl q⟩
    have hk6 : ∀ (r : Int64) S2, Rel S2 → kL6 L xs (fun r _ => r = 1) n (nI i) r r S2 := fun r S2 h => ⟨fun _ => go S2 h, fun q => absurd (lg_rf r) q⟩
    refine ⟨v0, fun _ => go S hR, ?_, ?_, ?_, ?_, ?_, ?_, ?_, ?_, ?_, ?_, ?_, ?_, ?_, ?_, ?_, ?_, ?_, ?_, ?_, ?_, ?_, ?_, ?_, ?_, ?_, ?_, ?_, ?_, ?_, ?_, ?_, ?_, ?_, ?_⟩
    · exact fun _ => lc_type hR v1 v2 hk
    · exact fun _ => lc_wipe hR v1 hk
    · exact fun _ => lc_fault hR v1 hk
    · exact fun _ => lc_person hR v1 v2 hk
    · exact fun _ => lc_stone hR v1 v2 hk
    · exact fun _ => lc_set hR v1 v2 hk
    · exact fun _ => lc_tide hR v1 v2 hk
    · exact fun _ => lc_carry hR v1 v2 v3 hk
    · exact fun _ => lc_read hR v1 hk
    · exact fun _ => lc_undo hR hk
    · exact fun _ => lc_judged hR hk
    · exact fun _ => lc_laid hR v1 hk
    · exact fun _ => lc_tip hR v1 hk
    · exact fun _ => lc_shelf hR v1 v2 v3 hk
    · exact fun _ => lc_slid hR v1 hk
    · exact fun _ => lc_when hR hk
    · exact fun _ => lc_result hR v1 hk
    · exact fun _ => lc_without hR v1 hk
    · exact fun _ => lc_settled hR hk
    · exact fun _ => lc_doubles hR hk
    · exact fun _ => lc_fewest hR v1 hk
    · exact fun _ => lc_most hR v1 hk
    · exact fun _ => lc_hold hR v1 hk
    · exact fun _ => lc_game hR v1 v2 hk
    · exact fun _ => lc_arm hR v1 v2 hk
    · exact fun _ => lc_secret hR v1 v2 hk
    · exact fun _ => lc_sheet hR v1 v2 v3 hk
    · exact fun _ => lc_lose hR v1 hk
    · exact fun _ => lc_lay hR v1 v2 v3 v4 hk
    · exact fun _ => lc_get hR v1 v2 v3 hk
    · exact fun _ => lc_copy hR v1 v2 v3 v4 v5 hk
    · exact fun _ => lc_write hR v1 hk
    · exact fun _ => lc_count hR v1 hk
    · exact fun _ => lc_digest hR hk6
