set_option maxHeartbeats 4000000 in
set_option maxRecDepth 100000 in
theorem ctX7_within {E : gz_E} {x0 : Int32} {x1 : Int32} {x2 : Int32} {S : gz_S} {Q : Int32 → gz_S → Prop} (h : wX7_within x0 x1 x2 S Q) : gz_m E mX7_within 1 0 0 [.int x0, .int x1, .int x2] gz_F S (gz_qi Q) := by
  refine gz_meet0 (L0 := [some (.int x0), some (.int x1), some (.int x2)]) (by decide) rfl (Nat.le_of_ble_eq_true rfl) (by decide) ?_
  unfold wX7_within at h
  refine gk_iload_n dX7_within_0 rfl ?_
  refine gk_iload_n dX7_within_1 rfl ?_
  refine gk_icmp_lt (tgt := 14) dX7_within_2 (by decide) (fun c2 => ?_) (fun c2 => ?_)
  · replace h := h.1 c2
    refine gk_iconst (v := 0) dX7_within_14 rfl ?_
    exact gk_iret dX7_within_15 rfl rfl rfl rfl ⟨rfl, _, rfl, h⟩
  · replace h := h.2 c2
    refine gk_iload_n dX7_within_5 rfl ?_
    refine gk_iload_n dX7_within_6 rfl ?_
    refine gk_icmp_gt (tgt := 14) dX7_within_7 (by decide) (fun c7 => ?_) (fun c7 => ?_)
    · replace h := h.1 c7
      refine gk_iconst (v := 0) dX7_within_14 rfl ?_
      exact gk_iret dX7_within_15 rfl rfl rfl rfl ⟨rfl, _, rfl, h⟩
    · replace h := h.2 c7
      refine gk_iconst (v := 1) dX7_within_10 rfl ?_
      refine gk_goto (tgt := 15) dX7_within_11 (by decide) ?_
      exact gk_iret dX7_within_15 rfl rfl rfl rfl ⟨rfl, _, rfl, h⟩
set_option maxHeartbeats 4000000 in
set_option maxRecDepth 100000 in
theorem ctX3_text {E : gz_E} {x1 : Int32} {S : gz_S} {Q : Nat → gz_S → Prop} (h : wX3_text x1 S Q) : gz_m E mX3_text 1 0 0 [.ref 1, .int x1] gz_F S (gz_qr Q) := by
  refine gz_meet0 (L0 := [some (.ref 1), some (.int x1)]) (by decide) rfl (Nat.le_of_ble_eq_true rfl) (by decide) ?_
  unfold wX3_text at h
  refine gk_iload_n dX3_text_0 rfl ?_
  refine gk_if_ne (tgt := 11) dX3_text_1 (by decide) (fun c1 => ?_) (fun c1 => ?_)
  · replace h := h.1 c1
    refine gk_aload_n dX3_text_11 rfl ?_
    refine gk_getr dX3_text_12 rfl rfl wfX3_20 ?_
    exact gk_aret dX3_text_15 rfl rfl rfl ⟨rfl, _, rfl, Or.inr rfl, h⟩
  · replace h := h.2 c1
    refine gk_aload_n dX3_text_4 rfl ?_
    refine gk_getr dX3_text_5 rfl rfl wfX3_14 ?_
    refine gk_goto (tgt := 15) dX3_text_8 (by decide) ?_
    exact gk_aret dX3_text_15 rfl rfl rfl ⟨rfl, _, rfl, Or.inl rfl, h⟩
set_option maxHeartbeats 4000000 in
set_option maxRecDepth 100000 in
theorem ctX6_isFull_2 {E : gz_E} {S : gz_S} {Q : Int32 → gz_S → Prop} (h : wX6_isFull 2 S Q) : gz_m E mX6_isFull 1 0 0 [.ref 2] gz_F S (gz_qi Q) := by
  refine gz_meet0 (L0 := [some (.ref 2)]) (by decide) rfl (Nat.le_of_ble_eq_true rfl) (by decide) ?_
  unfold wX6_isFull at h
  refine gk_aload_n dX6_isFull_0 rfl ?_
  refine gk_geti dX6_isFull_1 rfl rfl wfX6_9 ?_
  refine gk_aload_n dX6_isFull_4 rfl ?_
  refine gk_getr dX6_isFull_5 rfl rfl wfX6_21 ?_
  refine gk_ilen dX6_isFull_8 rfl rfl ?_
  refine gk_icmp_lt (tgt := 16) dX6_isFull_9 (by decide) (fun c9 => ?_) (fun c9 => ?_)
  · replace h := h.1 c9
    refine gk_iconst (v := 0) dX6_isFull_16 rfl ?_
    exact gk_iret dX6_isFull_17 rfl rfl rfl rfl ⟨rfl, _, rfl, h⟩
  · replace h := h.2 c9
    refine gk_iconst (v := 1) dX6_isFull_12 rfl ?_
    refine gk_goto (tgt := 17) dX6_isFull_13 (by decide) ?_
    exact gk_iret dX6_isFull_17 rfl rfl rfl rfl ⟨rfl, _, rfl, h⟩
set_option maxHeartbeats 4000000 in
set_option maxRecDepth 100000 in
theorem ctX6_isFull_6 {E : gz_E} {S : gz_S} {Q : Int32 → gz_S → Prop} (h : wX6_isFull 6 S Q) : gz_m E mX6_isFull 1 0 0 [.ref 6] gz_F S (gz_qi Q) := by
  refine gz_meet0 (L0 := [some (.ref 6)]) (by decide) rfl (Nat.le_of_ble_eq_true rfl) (by decide) ?_
  unfold wX6_isFull at h
  refine gk_aload_n dX6_isFull_0 rfl ?_
  refine gk_geti dX6_isFull_1 rfl rfl wfX6_9 ?_
  refine gk_aload_n dX6_isFull_4 rfl ?_
  refine gk_getr dX6_isFull_5 rfl rfl wfX6_21 ?_
  refine gk_ilen dX6_isFull_8 rfl rfl ?_
  refine gk_icmp_lt (tgt := 16) dX6_isFull_9 (by decide) (fun c9 => ?_) (fun c9 => ?_)
  · replace h := h.1 c9
    refine gk_iconst (v := 0) dX6_isFull_16 rfl ?_
    exact gk_iret dX6_isFull_17 rfl rfl rfl rfl ⟨rfl, _, rfl, h⟩
  · replace h := h.2 c9
    refine gk_iconst (v := 1) dX6_isFull_12 rfl ?_
    refine gk_goto (tgt := 17) dX6_isFull_13 (by decide) ?_
    exact gk_iret dX6_isFull_17 rfl rfl rfl rfl ⟨rfl, _, rfl, h⟩
set_option maxHeartbeats 4000000 in
set_option maxRecDepth 100000 in
theorem oX6_fits_41 {E : gz_E} {Q : Int32 → gz_S → Prop} : ∀  (S : gz_S), wX6_fits_41 Q S → gz_k E mX6_fits (2, 0, 0, 73) 0 0 41 [none, none, none] [] gz_F S (gz_qi Q) := by
  intro S h
  unfold wX6_fits_41 at h
  refine gk_iconst (v := 1) dX6_fits_41 rfl ?_
  refine gk_goto (tgt := 57) dX6_fits_42 (by decide) ?_
  exact gk_iret dX6_fits_57 rfl rfl rfl rfl ⟨rfl, _, rfl, h⟩
set_option maxHeartbeats 4000000 in
set_option maxRecDepth 100000 in
theorem ctX6_fits_2 {E : gz_E} {x1 : Int32} {S : gz_S} {Q : Int32 → gz_S → Prop} (h : wX6_fits 2 x1 S Q) : gz_m E mX6_fits 2 0 0 [.ref 2, .int x1] gz_F S (gz_qi Q) := by
  refine gz_meet0 (L0 := [some (.ref 2), some (.int x1), none]) (by decide) rfl (Nat.le_of_ble_eq_true rfl) (by decide) ?_
  unfold wX6_fits at h
  refine gk_aload_n dX6_fits_0 rfl ?_
  refine gk_getr dX6_fits_1 rfl rfl wfX6_21 ?_
  refine gk_iload_n dX6_fits_4 rfl ?_
  refine gk_iaload dX6_fits_5 rfl h.1 ?_
  replace h := h.2
  refine gk_nmi (fun v2_6 ev2_6 => ?_)
  replace h := h v2_6 ev2_6
  refine gk_istore_n dX6_fits_6 (Nat.le_of_ble_eq_true rfl) rfl rfl ?_
  refine gk_iload_n dX6_fits_7 rfl ?_
  refine gk_iconst (v := 2) dX6_fits_8 rfl ?_
  refine gk_irem dX6_fits_9 (by decide) ?_
  refine gk_if_ne (tgt := 22) dX6_fits_10 (by decide) (fun c10 => ?_) (fun c10 => ?_)
  · replace h := h.1 c10
    refine gk_aload_n dX6_fits_22 rfl ?_
    refine gk_geti dX6_fits_23 rfl rfl wfX6_28 ?_
    refine gk_if_eq (tgt := 49) dX6_fits_26 (by decide) (fun c26 => ?_) (fun c26 => ?_)
    · replace h := h.1 c26
      refine gk_iload_n dX6_fits_49 rfl ?_
      refine gk_bipush (v := 48) dX6_fits_50 rfl ?_
      refine gk_bipush (v := 57) dX6_fits_52 rfl ?_
      refine gk_callSN (as := [_, _, _]) (rest := []) (ctX7_within h) dX6_fits_54 wvX6_49 wcX7_within rfl (Nat.le_of_ble_eq_true rfl) ⟨Nat.le_refl _, Nat.le_refl _⟩ (fun h9 => absurd rfl h9) (Nat.le_of_ble_eq_true rfl) rfl (fun v G2 S54 hq => ?_)
      obtain ⟨rfl, r54, rfl, h⟩ := hq
      exact gk_iret dX6_fits_57 rfl rfl rfl (gz_b01_nz h.1) ⟨rfl, _, rfl, h.2⟩
    · replace h := h.2 c26
      refine gk_iload_n dX6_fits_29 rfl ?_
      refine gk_bipush (v := 121) dX6_fits_30 rfl ?_
      refine gk_icmp_eq (tgt := 41) dX6_fits_32 (by decide) (fun c32 => ?_) (fun c32 => ?_)
      · replace h := h.1 c32
        exact gk_less (gz_le_n (gz_le_n (gz_le_n gz_le_0))) (oX6_fits_41 _ h)
      · replace h := h.2 c32
        refine gk_iload_n dX6_fits_35 rfl ?_
        refine gk_bipush (v := 110) dX6_fits_36 rfl ?_
        refine gk_icmp_ne (tgt := 45) dX6_fits_38 (by decide) (fun c38 => ?_) (fun c38 => ?_)
        · replace h := h.1 c38
          refine gk_iconst (v := 0) dX6_fits_45 rfl ?_
          refine gk_goto (tgt := 57) dX6_fits_46 (by decide) ?_
          exact gk_iret dX6_fits_57 rfl rfl rfl rfl ⟨rfl, _, rfl, h⟩
        · replace h := h.2 c38
          exact gk_less (gz_le_n (gz_le_n (gz_le_n gz_le_0))) (oX6_fits_41 _ h)
  · replace h := h.2 c10
    refine gk_iload_n dX6_fits_13 rfl ?_
    refine gk_bipush (v := 49) dX6_fits_14 rfl ?_
    refine gk_bipush (v := 57) dX6_fits_16 rfl ?_
    refine gk_callSN (as := [_, _, _]) (rest := []) (ctX7_within h) dX6_fits_18 wvX6_49 wcX7_within rfl (Nat.le_of_ble_eq_true rfl) ⟨Nat.le_refl _, Nat.le_refl _⟩ (fun h9 => absurd rfl h9) (Nat.le_of_ble_eq_true rfl) rfl (fun v G2 S18 hq => ?_)
    obtain ⟨rfl, r18, rfl, h⟩ := hq
    exact gk_iret dX6_fits_21 rfl rfl rfl (gz_b01_nz h.1) ⟨rfl, _, rfl, h.2⟩
set_option maxHeartbeats 4000000 in
set_option maxRecDepth 100000 in
theorem ctX6_fits_6 {E : gz_E} {x1 : Int32} {S : gz_S} {Q : Int32 → gz_S → Prop} (h : wX6_fits 6 x1 S Q) : gz_m E mX6_fits 2 0 0 [.ref 6, .int x1] gz_F S (gz_qi Q) := by
  refine gz_meet0 (L0 := [some (.ref 6), some (.int x1), none]) (by decide) rfl (Nat.le_of_ble_eq_true rfl) (by decide) ?_
  unfold wX6_fits at h
  refine gk_aload_n dX6_fits_0 rfl ?_
  refine gk_getr dX6_fits_1 rfl rfl wfX6_21 ?_
  refine gk_iload_n dX6_fits_4 rfl ?_
  refine gk_iaload dX6_fits_5 rfl h.1 ?_
  replace h := h.2
  refine gk_nmi (fun v2_6 ev2_6 => ?_)
  replace h := h v2_6 ev2_6
  refine gk_istore_n dX6_fits_6 (Nat.le_of_ble_eq_true rfl) rfl rfl ?_
  refine gk_iload_n dX6_fits_7 rfl ?_
  refine gk_iconst (v := 2) dX6_fits_8 rfl ?_
  refine gk_irem dX6_fits_9 (by decide) ?_
  refine gk_if_ne (tgt := 22) dX6_fits_10 (by decide) (fun c10 => ?_) (fun c10 => ?_)
  · replace h := h.1 c10
    refine gk_aload_n dX6_fits_22 rfl ?_
    refine gk_geti dX6_fits_23 rfl rfl wfX6_28 ?_
    refine gk_if_eq (tgt := 49) dX6_fits_26 (by decide) (fun c26 => ?_) (fun c26 => ?_)
    · replace h := h.1 c26
      refine gk_iload_n dX6_fits_49 rfl ?_
      refine gk_bipush (v := 48) dX6_fits_50 rfl ?_
      refine gk_bipush (v := 57) dX6_fits_52 rfl ?_
      refine gk_callSN (as := [_, _, _]) (rest := []) (ctX7_within h) dX6_fits_54 wvX6_49 wcX7_within rfl (Nat.le_of_ble_eq_true rfl) ⟨Nat.le_refl _, Nat.le_refl _⟩ (fun h9 => absurd rfl h9) (Nat.le_of_ble_eq_true rfl) rfl (fun v G2 S54 hq => ?_)
      obtain ⟨rfl, r54, rfl, h⟩ := hq
      exact gk_iret dX6_fits_57 rfl rfl rfl (gz_b01_nz h.1) ⟨rfl, _, rfl, h.2⟩
    · replace h := h.2 c26
      refine gk_iload_n dX6_fits_29 rfl ?_
      refine gk_bipush (v := 121) dX6_fits_30 rfl ?_
      refine gk_icmp_eq (tgt := 41) dX6_fits_32 (by decide) (fun c32 => ?_) (fun c32 => ?_)
      · replace h := h.1 c32
        exact gk_less (gz_le_n (gz_le_n (gz_le_n gz_le_0))) (oX6_fits_41 _ h)
      · replace h := h.2 c32
        refine gk_iload_n dX6_fits_35 rfl ?_
        refine gk_bipush (v := 110) dX6_fits_36 rfl ?_
        refine gk_icmp_ne (tgt := 45) dX6_fits_38 (by decide) (fun c38 => ?_) (fun c38 => ?_)
        · replace h := h.1 c38
          refine gk_iconst (v := 0) dX6_fits_45 rfl ?_
          refine gk_goto (tgt := 57) dX6_fits_46 (by decide) ?_
          exact gk_iret dX6_fits_57 rfl rfl rfl rfl ⟨rfl, _, rfl, h⟩
        · replace h := h.2 c38
          exact gk_less (gz_le_n (gz_le_n (gz_le_n gz_le_0))) (oX6_fits_41 _ h)
  · replace h := h.2 c10
    refine gk_iload_n dX6_fits_13 rfl ?_
    refine gk_bipush (v := 49) dX6_fits_14 rfl ?_
    refine gk_bipush (v := 57) dX6_fits_16 rfl ?_
    refine gk_callSN (as := [_, _, _]) (rest := []) (ctX7_within h) dX6_fits_18 wvX6_49 wcX7_within rfl (Nat.le_of_ble_eq_true rfl) ⟨Nat.le_refl _, Nat.le_refl _⟩ (fun h9 => absurd rfl h9) (Nat.le_of_ble_eq_true rfl) rfl (fun v G2 S18 hq => ?_)
    obtain ⟨rfl, r18, rfl, h⟩ := hq
    exact gk_iret dX6_fits_21 rfl rfl rfl (gz_b01_nz h.1) ⟨rfl, _, rfl, h.2⟩
set_option maxHeartbeats 4000000 in
set_option maxRecDepth 100000 in
theorem oX6_findFlaw_2_2 {E : gz_E} {Q : Int32 → gz_S → Prop} : ∀ (n : Nat) (x1 : Int32) (S : gz_S), wX6_findFlaw_2 Q n 2 x1 S → gz_k E mX6_findFlaw (3, 0, 0, 73) 0 0 2 [some (.ref 2), some (.int x1)] [] gz_F S (gz_qi Q) := by
  intro n
  induction n with
  | zero =>
    intro x1 S h
    exact h.elim
  | succ n ih =>
    intro x1 S h
    unfold wX6_findFlaw_2 at h
    refine gk_iload_n dX6_findFlaw_2 rfl ?_
    refine gk_aload_n dX6_findFlaw_3 rfl ?_
    refine gk_geti dX6_findFlaw_4 rfl rfl wfX6_9 ?_
    refine gk_icmp_ge (tgt := 36) dX6_findFlaw_7 (by decide) (fun c7 => ?_) (fun c7 => ?_)
    · replace h := h.1 c7
      refine gk_aload_n dX6_findFlaw_36 rfl ?_
      refine gk_geti dX6_findFlaw_37 rfl rfl wfX6_9 ?_
      refine gk_iconst (v := 2) dX6_findFlaw_40 rfl ?_
      refine gk_irem dX6_findFlaw_41 (by decide) ?_
      refine gk_if_ne (tgt := 49) dX6_findFlaw_42 (by decide) (fun c42 => ?_) (fun c42 => ?_)
      · replace h := h.1 c42
        refine gk_aload_n dX6_findFlaw_49 rfl ?_
        refine gk_geti dX6_findFlaw_50 rfl rfl wfX6_9 ?_
        exact gk_iret dX6_findFlaw_53 rfl rfl rfl rfl ⟨rfl, _, rfl, h⟩
      · replace h := h.2 c42
        refine gk_iconst (v := (-1)) dX6_findFlaw_45 rfl ?_
        refine gk_goto (tgt := 53) dX6_findFlaw_46 (by decide) ?_
        exact gk_iret dX6_findFlaw_53 rfl rfl rfl rfl ⟨rfl, _, rfl, h⟩
    · replace h := h.2 c7
      refine gk_iload_n dX6_findFlaw_10 rfl ?_
      refine gk_iconst (v := 2) dX6_findFlaw_11 rfl ?_
      refine gk_aload_n dX6_findFlaw_12 rfl ?_
      refine gk_geti dX6_findFlaw_13 rfl rfl wfX6_25 ?_
      refine gk_imul dX6_findFlaw_16 ?_
      refine gk_icmp_ge (tgt := 28) dX6_findFlaw_17 (by decide) (fun c17 => ?_) (fun c17 => ?_)
      · replace h := h.1 c17
        refine gk_iload_n dX6_findFlaw_28 rfl ?_
        exact gk_iret dX6_findFlaw_29 rfl rfl rfl rfl ⟨rfl, _, rfl, h⟩
      · replace h := h.2 c17
        refine gk_aload_n dX6_findFlaw_20 rfl ?_
        refine gk_iload_n dX6_findFlaw_21 rfl ?_
        refine gk_callV (as := [_]) (rest := []) (ctX6_fits_2 h) dX6_findFlaw_22 rfl rfl wvX6_45 wcX6_fits rfl (Nat.le_of_ble_eq_true rfl) ⟨Nat.le_refl _, Nat.le_refl _⟩ (fun h9 => absurd rfl h9) (Nat.le_of_ble_eq_true rfl) rfl (fun v G2 S22 hq => ?_)
        obtain ⟨rfl, r22, rfl, h⟩ := hq
        refine gk_if_ne (tgt := 30) dX6_findFlaw_25 (by decide) (fun c25 => ?_) (fun c25 => ?_)
        · replace h := h.1 c25
          refine gk_iinc dX6_findFlaw_30 rfl (Nat.le_of_ble_eq_true rfl) rfl rfl rfl ?_
          refine gk_goto (tgt := 2) dX6_findFlaw_33 (by decide) ?_
          exact gk_less (gz_le_s rfl (gz_le_s rfl gz_le_0)) (ih _ _ h)
        · replace h := h.2 c25
          refine gk_iload_n dX6_findFlaw_28 rfl ?_
          exact gk_iret dX6_findFlaw_29 rfl rfl rfl rfl ⟨rfl, _, rfl, h⟩
set_option maxHeartbeats 4000000 in
set_option maxRecDepth 100000 in
theorem ctX6_findFlaw_2 {E : gz_E} {S : gz_S} {Q : Int32 → gz_S → Prop} (h : wX6_findFlaw 2 S Q) : gz_m E mX6_findFlaw 3 0 0 [.ref 2] gz_F S (gz_qi Q) := by
  refine gz_meet0 (L0 := [some (.ref 2), none]) (by decide) rfl (Nat.le_of_ble_eq_true rfl) (by decide) ?_
  unfold wX6_findFlaw at h
  refine gk_iconst (v := 0) dX6_findFlaw_0 rfl ?_
  refine gk_istore_n dX6_findFlaw_1 (Nat.le_of_ble_eq_true rfl) rfl rfl ?_
  obtain ⟨m2, h⟩ := h
  exact gk_less (gz_le_s rfl (gz_le_s rfl gz_le_0)) (oX6_findFlaw_2_2 m2 _ _ h)
set_option maxHeartbeats 4000000 in
set_option maxRecDepth 100000 in
theorem oX6_findFlaw_2_6 {E : gz_E} {Q : Int32 → gz_S → Prop} : ∀ (n : Nat) (x1 : Int32) (S : gz_S), wX6_findFlaw_2 Q n 6 x1 S → gz_k E mX6_findFlaw (3, 0, 0, 73) 0 0 2 [some (.ref 6), some (.int x1)] [] gz_F S (gz_qi Q) := by
  intro n
  induction n with
  | zero =>
    intro x1 S h
    exact h.elim
  | succ n ih =>
    intro x1 S h
    unfold wX6_findFlaw_2 at h
    refine gk_iload_n dX6_findFlaw_2 rfl ?_
    refine gk_aload_n dX6_findFlaw_3 rfl ?_
    refine gk_geti dX6_findFlaw_4 rfl rfl wfX6_9 ?_
    refine gk_icmp_ge (tgt := 36) dX6_findFlaw_7 (by decide) (fun c7 => ?_) (fun c7 => ?_)
    · replace h := h.1 c7
      refine gk_aload_n dX6_findFlaw_36 rfl ?_
      refine gk_geti dX6_findFlaw_37 rfl rfl wfX6_9 ?_
      refine gk_iconst (v := 2) dX6_findFlaw_40 rfl ?_
      refine gk_irem dX6_findFlaw_41 (by decide) ?_
      refine gk_if_ne (tgt := 49) dX6_findFlaw_42 (by decide) (fun c42 => ?_) (fun c42 => ?_)
      · replace h := h.1 c42
        refine gk_aload_n dX6_findFlaw_49 rfl ?_
        refine gk_geti dX6_findFlaw_50 rfl rfl wfX6_9 ?_
        exact gk_iret dX6_findFlaw_53 rfl rfl rfl rfl ⟨rfl, _, rfl, h⟩
      · replace h := h.2 c42
        refine gk_iconst (v := (-1)) dX6_findFlaw_45 rfl ?_
        refine gk_goto (tgt := 53) dX6_findFlaw_46 (by decide) ?_
        exact gk_iret dX6_findFlaw_53 rfl rfl rfl rfl ⟨rfl, _, rfl, h⟩
    · replace h := h.2 c7
      refine gk_iload_n dX6_findFlaw_10 rfl ?_
      refine gk_iconst (v := 2) dX6_findFlaw_11 rfl ?_
      refine gk_aload_n dX6_findFlaw_12 rfl ?_
      refine gk_geti dX6_findFlaw_13 rfl rfl wfX6_25 ?_
      refine gk_imul dX6_findFlaw_16 ?_
      refine gk_icmp_ge (tgt := 28) dX6_findFlaw_17 (by decide) (fun c17 => ?_) (fun c17 => ?_)
      · replace h := h.1 c17
        refine gk_iload_n dX6_findFlaw_28 rfl ?_
        exact gk_iret dX6_findFlaw_29 rfl rfl rfl rfl ⟨rfl, _, rfl, h⟩
      · replace h := h.2 c17
        refine gk_aload_n dX6_findFlaw_20 rfl ?_
        refine gk_iload_n dX6_findFlaw_21 rfl ?_
        refine gk_callV (as := [_]) (rest := []) (ctX6_fits_6 h) dX6_findFlaw_22 rfl rfl wvX6_45 wcX6_fits rfl (Nat.le_of_ble_eq_true rfl) ⟨Nat.le_refl _, Nat.le_refl _⟩ (fun h9 => absurd rfl h9) (Nat.le_of_ble_eq_true rfl) rfl (fun v G2 S22 hq => ?_)
        obtain ⟨rfl, r22, rfl, h⟩ := hq
        refine gk_if_ne (tgt := 30) dX6_findFlaw_25 (by decide) (fun c25 => ?_) (fun c25 => ?_)
        · replace h := h.1 c25
          refine gk_iinc dX6_findFlaw_30 rfl (Nat.le_of_ble_eq_true rfl) rfl rfl rfl ?_
          refine gk_goto (tgt := 2) dX6_findFlaw_33 (by decide) ?_
          exact gk_less (gz_le_s rfl (gz_le_s rfl gz_le_0)) (ih _ _ h)
        · replace h := h.2 c25
          refine gk_iload_n dX6_findFlaw_28 rfl ?_
          exact gk_iret dX6_findFlaw_29 rfl rfl rfl rfl ⟨rfl, _, rfl, h⟩
set_option maxHeartbeats 4000000 in
set_option maxRecDepth 100000 in
theorem ctX6_findFlaw_6 {E : gz_E} {S : gz_S} {Q : Int32 → gz_S → Prop} (h : wX6_findFlaw 6 S Q) : gz_m E mX6_findFlaw 3 0 0 [.ref 6] gz_F S (gz_qi Q) := by
  refine gz_meet0 (L0 := [some (.ref 6), none]) (by decide) rfl (Nat.le_of_ble_eq_true rfl) (by decide) ?_
  unfold wX6_findFlaw at h
  refine gk_iconst (v := 0) dX6_findFlaw_0 rfl ?_
  refine gk_istore_n dX6_findFlaw_1 (Nat.le_of_ble_eq_true rfl) rfl rfl ?_
  obtain ⟨m2, h⟩ := h
  exact gk_less (gz_le_s rfl (gz_le_s rfl gz_le_0)) (oX6_findFlaw_2_6 m2 _ _ h)
set_option maxHeartbeats 4000000 in
set_option maxRecDepth 100000 in
theorem oX6_readLastPair_69_5 {E : gz_E} {Q : gz_S → Prop} : ∀ (t1 : Int32) (t2 : Int32) (S : gz_S), wX6_readLastPair_69 Q 5 t1 t2 S → gz_k E mX6_readLastPair (1, 0, 0, 73) 0 0 69 [none, none] [.int t2, .int t1, .ref 5] gz_F S (gz_qv Q) := by
  intro t1 t2 S h
  unfold wX6_readLastPair_69 at h
  refine gk_iastore dX6_readLastPair_69 rfl h.1 ?_
  replace h := h.2
  refine gk_nmS (fun S69 eS69 => ?_)
  replace h := h S69 eS69
  refine gk_goto (tgt := 88) dX6_readLastPair_70 (by decide) ?_
  exact gk_vret dX6_readLastPair_88 rfl rfl rfl ⟨rfl, rfl, h⟩
set_option maxHeartbeats 4000000 in
set_option maxRecDepth 100000 in
theorem ctX6_readLastPair_2 {E : gz_E} {S : gz_S} {Q : gz_S → Prop} (h : wX6_readLastPair 2 S Q) : gz_m E mX6_readLastPair 1 0 0 [.ref 2] gz_F S (gz_qv Q) := by
  refine gz_meet0 (L0 := [some (.ref 2), none]) (by decide) rfl (Nat.le_of_ble_eq_true rfl) (by decide) ?_
  unfold wX6_readLastPair at h
  refine gk_aload_n dX6_readLastPair_0 rfl ?_
  refine gk_getr dX6_readLastPair_1 rfl rfl wfX6_21 ?_
  refine gk_iconst (v := 2) dX6_readLastPair_4 rfl ?_
  refine gk_aload_n dX6_readLastPair_5 rfl ?_
  refine gk_geti dX6_readLastPair_6 rfl rfl wfX6_18 ?_
  refine gk_imul dX6_readLastPair_9 ?_
  refine gk_iconst (v := 1) dX6_readLastPair_10 rfl ?_
  refine gk_isub dX6_readLastPair_11 ?_
  refine gk_iaload dX6_readLastPair_12 rfl h.1 ?_
  replace h := h.2
  refine gk_nmi (fun v1_13 ev1_13 => ?_)
  replace h := h v1_13 ev1_13
  refine gk_istore_n dX6_readLastPair_13 (Nat.le_of_ble_eq_true rfl) rfl rfl ?_
  refine gk_aload_n dX6_readLastPair_14 rfl ?_
  refine gk_getr dX6_readLastPair_15 rfl rfl wfX6_32 ?_
  refine gk_aload_n dX6_readLastPair_18 rfl ?_
  refine gk_geti dX6_readLastPair_19 rfl rfl wfX6_18 ?_
  refine gk_iconst (v := 1) dX6_readLastPair_22 rfl ?_
  refine gk_isub dX6_readLastPair_23 ?_
  refine gk_aload_n dX6_readLastPair_24 rfl ?_
  refine gk_getr dX6_readLastPair_25 rfl rfl wfX6_21 ?_
  refine gk_iconst (v := 2) dX6_readLastPair_28 rfl ?_
  refine gk_aload_n dX6_readLastPair_29 rfl ?_
  refine gk_geti dX6_readLastPair_30 rfl rfl wfX6_18 ?_
  refine gk_imul dX6_readLastPair_33 ?_
  refine gk_iconst (v := 2) dX6_readLastPair_34 rfl ?_
  refine gk_isub dX6_readLastPair_35 ?_
  refine gk_iaload dX6_readLastPair_36 rfl h.1 ?_
  replace h := h.2
  refine gk_bipush (v := 48) dX6_readLastPair_37 rfl ?_
  refine gk_isub dX6_readLastPair_39 ?_
  refine gk_iastore dX6_readLastPair_40 rfl h.1 ?_
  replace h := h.2
  refine gk_nmS (fun S40 eS40 => ?_)
  replace h := h S40 eS40
  refine gk_aload_n dX6_readLastPair_41 rfl ?_
  refine gk_geti dX6_readLastPair_42 rfl rfl wfX6_28 ?_
  refine gk_if_eq (tgt := 73) dX6_readLastPair_45 (by decide) (fun c45 => ?_) (fun c45 => ?_)
  · replace h := h.1 c45
    refine gk_aload_n dX6_readLastPair_73 rfl ?_
    refine gk_getr dX6_readLastPair_74 rfl rfl wfX6_35 ?_
    refine gk_aload_n dX6_readLastPair_77 rfl ?_
    refine gk_geti dX6_readLastPair_78 rfl rfl wfX6_18 ?_
    refine gk_iconst (v := 1) dX6_readLastPair_81 rfl ?_
    refine gk_isub dX6_readLastPair_82 ?_
    refine gk_iload_n dX6_readLastPair_83 rfl ?_
    refine gk_bipush (v := 48) dX6_readLastPair_84 rfl ?_
    refine gk_isub dX6_readLastPair_86 ?_
    refine gk_iastore dX6_readLastPair_87 rfl h.1 ?_
    replace h := h.2
    refine gk_nmS (fun S87 eS87 => ?_)
    replace h := h S87 eS87
    exact gk_vret dX6_readLastPair_88 rfl rfl rfl ⟨rfl, rfl, h⟩
  · replace h := h.2 c45
    refine gk_aload_n dX6_readLastPair_48 rfl ?_
    refine gk_getr dX6_readLastPair_49 rfl rfl wfX6_35 ?_
    refine gk_aload_n dX6_readLastPair_52 rfl ?_
    refine gk_geti dX6_readLastPair_53 rfl rfl wfX6_18 ?_
    refine gk_iconst (v := 1) dX6_readLastPair_56 rfl ?_
    refine gk_isub dX6_readLastPair_57 ?_
    refine gk_iload_n dX6_readLastPair_58 rfl ?_
    refine gk_bipush (v := 121) dX6_readLastPair_59 rfl ?_
    refine gk_icmp_ne (tgt := 68) dX6_readLastPair_61 (by decide) (fun c61 => ?_) (fun c61 => ?_)
    · replace h := h.1 c61
      refine gk_iconst (v := 1) dX6_readLastPair_68 rfl ?_
      exact gk_less (gz_le_n (gz_le_n gz_le_0)) (oX6_readLastPair_69_5 _ _ _ h)
    · replace h := h.2 c61
      refine gk_iconst (v := 0) dX6_readLastPair_64 rfl ?_
      refine gk_goto (tgt := 69) dX6_readLastPair_65 (by decide) ?_
      exact gk_less (gz_le_n (gz_le_n gz_le_0)) (oX6_readLastPair_69_5 _ _ _ h)
set_option maxHeartbeats 4000000 in
set_option maxRecDepth 100000 in
theorem oX6_readLastPair_69_9 {E : gz_E} {Q : gz_S → Prop} : ∀ (t1 : Int32) (t2 : Int32) (S : gz_S), wX6_readLastPair_69 Q 9 t1 t2 S → gz_k E mX6_readLastPair (1, 0, 0, 73) 0 0 69 [none, none] [.int t2, .int t1, .ref 9] gz_F S (gz_qv Q) := by
  intro t1 t2 S h
  unfold wX6_readLastPair_69 at h
  refine gk_iastore dX6_readLastPair_69 rfl h.1 ?_
  replace h := h.2
  refine gk_nmS (fun S69 eS69 => ?_)
  replace h := h S69 eS69
  refine gk_goto (tgt := 88) dX6_readLastPair_70 (by decide) ?_
  exact gk_vret dX6_readLastPair_88 rfl rfl rfl ⟨rfl, rfl, h⟩
set_option maxHeartbeats 4000000 in
set_option maxRecDepth 100000 in
theorem ctX6_readLastPair_6 {E : gz_E} {S : gz_S} {Q : gz_S → Prop} (h : wX6_readLastPair 6 S Q) : gz_m E mX6_readLastPair 1 0 0 [.ref 6] gz_F S (gz_qv Q) := by
  refine gz_meet0 (L0 := [some (.ref 6), none]) (by decide) rfl (Nat.le_of_ble_eq_true rfl) (by decide) ?_
  unfold wX6_readLastPair at h
  refine gk_aload_n dX6_readLastPair_0 rfl ?_
  refine gk_getr dX6_readLastPair_1 rfl rfl wfX6_21 ?_
  refine gk_iconst (v := 2) dX6_readLastPair_4 rfl ?_
  refine gk_aload_n dX6_readLastPair_5 rfl ?_
  refine gk_geti dX6_readLastPair_6 rfl rfl wfX6_18 ?_
  refine gk_imul dX6_readLastPair_9 ?_
  refine gk_iconst (v := 1) dX6_readLastPair_10 rfl ?_
  refine gk_isub dX6_readLastPair_11 ?_
  refine gk_iaload dX6_readLastPair_12 rfl h.1 ?_
  replace h := h.2
  refine gk_nmi (fun v1_13 ev1_13 => ?_)
  replace h := h v1_13 ev1_13
  refine gk_istore_n dX6_readLastPair_13 (Nat.le_of_ble_eq_true rfl) rfl rfl ?_
  refine gk_aload_n dX6_readLastPair_14 rfl ?_
  refine gk_getr dX6_readLastPair_15 rfl rfl wfX6_32 ?_
  refine gk_aload_n dX6_readLastPair_18 rfl ?_
  refine gk_geti dX6_readLastPair_19 rfl rfl wfX6_18 ?_
  refine gk_iconst (v := 1) dX6_readLastPair_22 rfl ?_
  refine gk_isub dX6_readLastPair_23 ?_
  refine gk_aload_n dX6_readLastPair_24 rfl ?_
  refine gk_getr dX6_readLastPair_25 rfl rfl wfX6_21 ?_
  refine gk_iconst (v := 2) dX6_readLastPair_28 rfl ?_
  refine gk_aload_n dX6_readLastPair_29 rfl ?_
  refine gk_geti dX6_readLastPair_30 rfl rfl wfX6_18 ?_
  refine gk_imul dX6_readLastPair_33 ?_
  refine gk_iconst (v := 2) dX6_readLastPair_34 rfl ?_
  refine gk_isub dX6_readLastPair_35 ?_
  refine gk_iaload dX6_readLastPair_36 rfl h.1 ?_
  replace h := h.2
  refine gk_bipush (v := 48) dX6_readLastPair_37 rfl ?_
  refine gk_isub dX6_readLastPair_39 ?_
  refine gk_iastore dX6_readLastPair_40 rfl h.1 ?_
  replace h := h.2
  refine gk_nmS (fun S40 eS40 => ?_)
  replace h := h S40 eS40
  refine gk_aload_n dX6_readLastPair_41 rfl ?_
  refine gk_geti dX6_readLastPair_42 rfl rfl wfX6_28 ?_
  refine gk_if_eq (tgt := 73) dX6_readLastPair_45 (by decide) (fun c45 => ?_) (fun c45 => ?_)
  · replace h := h.1 c45
    refine gk_aload_n dX6_readLastPair_73 rfl ?_
    refine gk_getr dX6_readLastPair_74 rfl rfl wfX6_35 ?_
    refine gk_aload_n dX6_readLastPair_77 rfl ?_
    refine gk_geti dX6_readLastPair_78 rfl rfl wfX6_18 ?_
    refine gk_iconst (v := 1) dX6_readLastPair_81 rfl ?_
    refine gk_isub dX6_readLastPair_82 ?_
    refine gk_iload_n dX6_readLastPair_83 rfl ?_
    refine gk_bipush (v := 48) dX6_readLastPair_84 rfl ?_
    refine gk_isub dX6_readLastPair_86 ?_
    refine gk_iastore dX6_readLastPair_87 rfl h.1 ?_
    replace h := h.2
    refine gk_nmS (fun S87 eS87 => ?_)
    replace h := h S87 eS87
    exact gk_vret dX6_readLastPair_88 rfl rfl rfl ⟨rfl, rfl, h⟩
  · replace h := h.2 c45
    refine gk_aload_n dX6_readLastPair_48 rfl ?_
    refine gk_getr dX6_readLastPair_49 rfl rfl wfX6_35 ?_
    refine gk_aload_n dX6_readLastPair_52 rfl ?_
    refine gk_geti dX6_readLastPair_53 rfl rfl wfX6_18 ?_
    refine gk_iconst (v := 1) dX6_readLastPair_56 rfl ?_
    refine gk_isub dX6_readLastPair_57 ?_
    refine gk_iload_n dX6_readLastPair_58 rfl ?_
    refine gk_bipush (v := 121) dX6_readLastPair_59 rfl ?_
    refine gk_icmp_ne (tgt := 68) dX6_readLastPair_61 (by decide) (fun c61 => ?_) (fun c61 => ?_)
    · replace h := h.1 c61
      refine gk_iconst (v := 1) dX6_readLastPair_68 rfl ?_
      exact gk_less (gz_le_n (gz_le_n gz_le_0)) (oX6_readLastPair_69_9 _ _ _ h)
    · replace h := h.2 c61
      refine gk_iconst (v := 0) dX6_readLastPair_64 rfl ?_
      refine gk_goto (tgt := 69) dX6_readLastPair_65 (by decide) ?_
      exact gk_less (gz_le_n (gz_le_n gz_le_0)) (oX6_readLastPair_69_9 _ _ _ h)
set_option maxHeartbeats 4000000 in
set_option maxRecDepth 100000 in
theorem oX6_append_47_2_2 {E : gz_E} {Q : gz_S → Prop} : ∀ (t1 : Int32) (S : gz_S), wX6_append_47 Q 2 2 t1 S → gz_k E mX6_append (4, 0, 0, 73) 0 0 47 [some (.ref 2), none] [.int t1, .ref 2] gz_F S (gz_qv Q) := by
  intro t1 S h
  unfold wX6_append_47 at h
  refine gk_puti dX6_append_47 rfl rfl wfX6_18 wpX6_7 rfl rfl ?_
  refine gk_nmS (fun S47 eS47 => ?_)
  replace h := h S47 eS47
  refine gk_aload_n dX6_append_50 rfl ?_
  refine gk_geti dX6_append_51 rfl rfl wfX6_18 ?_
  refine gk_if_le (tgt := 61) dX6_append_54 (by decide) (fun c54 => ?_) (fun c54 => ?_)
  · replace h := h.1 c54
    exact gk_vret dX6_append_61 rfl rfl rfl ⟨rfl, rfl, h⟩
  · replace h := h.2 c54
    refine gk_aload_n dX6_append_57 rfl ?_
    refine gk_callV (as := []) (rest := []) (ctX6_readLastPair_2 h) dX6_append_58 rfl rfl wvX6_42 wcX6_readLastPair rfl (Nat.le_of_ble_eq_true rfl) ⟨Nat.le_refl _, Nat.le_refl _⟩ (fun h9 => absurd rfl h9) (Nat.le_of_ble_eq_true rfl) rfl (fun v G2 S58 hq => ?_)
    obtain ⟨rfl, rfl, h⟩ := hq
    exact gk_vret dX6_append_61 rfl rfl rfl ⟨rfl, rfl, h⟩
set_option maxHeartbeats 4000000 in
set_option maxRecDepth 100000 in
theorem ctX6_append_2 {E : gz_E} {x1 : Int32} {S : gz_S} {Q : gz_S → Prop} (h : wX6_append 2 x1 S Q) : gz_m E mX6_append 4 0 0 [.ref 2, .int x1] gz_F S (gz_qv Q) := by
  refine gz_meet0 (L0 := [some (.ref 2), some (.int x1)]) (by decide) rfl (Nat.le_of_ble_eq_true rfl) (by decide) ?_
  unfold wX6_append at h
  refine gk_aload_n dX6_append_0 rfl ?_
  refine gk_getr dX6_append_1 rfl rfl wfX6_21 ?_
  refine gk_aload_n dX6_append_4 rfl ?_
  refine gk_geti dX6_append_5 rfl rfl wfX6_9 ?_
  refine gk_iload_n dX6_append_8 rfl ?_
  refine gk_iastore dX6_append_9 rfl h.1 ?_
  replace h := h.2
  refine gk_nmS (fun S9 eS9 => ?_)
  replace h := h S9 eS9
  refine gk_aload_n dX6_append_10 rfl ?_
  refine gk_dup dX6_append_11 rfl ?_
  refine gk_geti dX6_append_12 rfl rfl wfX6_9 ?_
  refine gk_iconst (v := 1) dX6_append_15 rfl ?_
  refine gk_iadd dX6_append_16 ?_
  refine gk_puti dX6_append_17 rfl rfl wfX6_9 wpX6_5 rfl rfl ?_
  refine gk_nmS (fun S17 eS17 => ?_)
  replace h := h S17 eS17
  refine gk_aload_n dX6_append_20 rfl ?_
  refine gk_aload_n dX6_append_21 rfl ?_
  refine gk_callV (as := []) (rest := [_]) (ctX6_findFlaw_2 h) dX6_append_22 rfl rfl wvX6_38 wcX6_findFlaw rfl (Nat.le_of_ble_eq_true rfl) ⟨Nat.le_refl _, Nat.le_refl _⟩ (fun h9 => absurd rfl h9) (Nat.le_of_ble_eq_true rfl) rfl (fun v G2 S22 hq => ?_)
  obtain ⟨rfl, r22, rfl, h⟩ := hq
  refine gk_puti dX6_append_25 rfl rfl wfX6_15 wpX6_6 rfl rfl ?_
  refine gk_nmS (fun S25 eS25 => ?_)
  replace h := h S25 eS25
  refine gk_aload_n dX6_append_28 rfl ?_
  refine gk_aload_n dX6_append_29 rfl ?_
  refine gk_geti dX6_append_30 rfl rfl wfX6_15 ?_
  refine gk_iconst (v := (-1)) dX6_append_33 rfl ?_
  refine gk_icmp_ne (tgt := 46) dX6_append_34 (by decide) (fun c34 => ?_) (fun c34 => ?_)
  · replace h := h.1 c34
    refine gk_iconst (v := 0) dX6_append_46 rfl ?_
    exact gk_less (gz_le_s rfl (gz_le_n gz_le_0)) (oX6_append_47_2_2 _ _ h)
  · replace h := h.2 c34
    refine gk_aload_n dX6_append_37 rfl ?_
    refine gk_geti dX6_append_38 rfl rfl wfX6_9 ?_
    refine gk_iconst (v := 2) dX6_append_41 rfl ?_
    refine gk_idiv dX6_append_42 (by decide) ?_
    refine gk_goto (tgt := 47) dX6_append_43 (by decide) ?_
    exact gk_less (gz_le_s rfl (gz_le_n gz_le_0)) (oX6_append_47_2_2 _ _ h)
set_option maxHeartbeats 4000000 in
set_option maxRecDepth 100000 in
theorem oX6_append_47_6_6 {E : gz_E} {Q : gz_S → Prop} : ∀ (t1 : Int32) (S : gz_S), wX6_append_47 Q 6 6 t1 S → gz_k E mX6_append (4, 0, 0, 73) 0 0 47 [some (.ref 6), none] [.int t1, .ref 6] gz_F S (gz_qv Q) := by
  intro t1 S h
  unfold wX6_append_47 at h
  refine gk_puti dX6_append_47 rfl rfl wfX6_18 wpX6_7 rfl rfl ?_
  refine gk_nmS (fun S47 eS47 => ?_)
  replace h := h S47 eS47
  refine gk_aload_n dX6_append_50 rfl ?_
  refine gk_geti dX6_append_51 rfl rfl wfX6_18 ?_
  refine gk_if_le (tgt := 61) dX6_append_54 (by decide) (fun c54 => ?_) (fun c54 => ?_)
  · replace h := h.1 c54
    exact gk_vret dX6_append_61 rfl rfl rfl ⟨rfl, rfl, h⟩
  · replace h := h.2 c54
    refine gk_aload_n dX6_append_57 rfl ?_
    refine gk_callV (as := []) (rest := []) (ctX6_readLastPair_6 h) dX6_append_58 rfl rfl wvX6_42 wcX6_readLastPair rfl (Nat.le_of_ble_eq_true rfl) ⟨Nat.le_refl _, Nat.le_refl _⟩ (fun h9 => absurd rfl h9) (Nat.le_of_ble_eq_true rfl) rfl (fun v G2 S58 hq => ?_)
    obtain ⟨rfl, rfl, h⟩ := hq
    exact gk_vret dX6_append_61 rfl rfl rfl ⟨rfl, rfl, h⟩
set_option maxHeartbeats 4000000 in
set_option maxRecDepth 100000 in
theorem ctX6_append_6 {E : gz_E} {x1 : Int32} {S : gz_S} {Q : gz_S → Prop} (h : wX6_append 6 x1 S Q) : gz_m E mX6_append 4 0 0 [.ref 6, .int x1] gz_F S (gz_qv Q) := by
  refine gz_meet0 (L0 := [some (.ref 6), some (.int x1)]) (by decide) rfl (Nat.le_of_ble_eq_true rfl) (by decide) ?_
  unfold wX6_append at h
  refine gk_aload_n dX6_append_0 rfl ?_
  refine gk_getr dX6_append_1 rfl rfl wfX6_21 ?_
  refine gk_aload_n dX6_append_4 rfl ?_
  refine gk_geti dX6_append_5 rfl rfl wfX6_9 ?_
  refine gk_iload_n dX6_append_8 rfl ?_
  refine gk_iastore dX6_append_9 rfl h.1 ?_
  replace h := h.2
  refine gk_nmS (fun S9 eS9 => ?_)
  replace h := h S9 eS9
  refine gk_aload_n dX6_append_10 rfl ?_
  refine gk_dup dX6_append_11 rfl ?_
  refine gk_geti dX6_append_12 rfl rfl wfX6_9 ?_
  refine gk_iconst (v := 1) dX6_append_15 rfl ?_
  refine gk_iadd dX6_append_16 ?_
  refine gk_puti dX6_append_17 rfl rfl wfX6_9 wpX6_5 rfl rfl ?_
  refine gk_nmS (fun S17 eS17 => ?_)
  replace h := h S17 eS17
  refine gk_aload_n dX6_append_20 rfl ?_
  refine gk_aload_n dX6_append_21 rfl ?_
  refine gk_callV (as := []) (rest := [_]) (ctX6_findFlaw_6 h) dX6_append_22 rfl rfl wvX6_38 wcX6_findFlaw rfl (Nat.le_of_ble_eq_true rfl) ⟨Nat.le_refl _, Nat.le_refl _⟩ (fun h9 => absurd rfl h9) (Nat.le_of_ble_eq_true rfl) rfl (fun v G2 S22 hq => ?_)
  obtain ⟨rfl, r22, rfl, h⟩ := hq
  refine gk_puti dX6_append_25 rfl rfl wfX6_15 wpX6_6 rfl rfl ?_
  refine gk_nmS (fun S25 eS25 => ?_)
  replace h := h S25 eS25
  refine gk_aload_n dX6_append_28 rfl ?_
  refine gk_aload_n dX6_append_29 rfl ?_
  refine gk_geti dX6_append_30 rfl rfl wfX6_15 ?_
  refine gk_iconst (v := (-1)) dX6_append_33 rfl ?_
  refine gk_icmp_ne (tgt := 46) dX6_append_34 (by decide) (fun c34 => ?_) (fun c34 => ?_)
  · replace h := h.1 c34
    refine gk_iconst (v := 0) dX6_append_46 rfl ?_
    exact gk_less (gz_le_s rfl (gz_le_n gz_le_0)) (oX6_append_47_6_6 _ _ h)
  · replace h := h.2 c34
    refine gk_aload_n dX6_append_37 rfl ?_
    refine gk_geti dX6_append_38 rfl rfl wfX6_9 ?_
    refine gk_iconst (v := 2) dX6_append_41 rfl ?_
    refine gk_idiv dX6_append_42 (by decide) ?_
    refine gk_goto (tgt := 47) dX6_append_43 (by decide) ?_
    exact gk_less (gz_le_s rfl (gz_le_n gz_le_0)) (oX6_append_47_6_6 _ _ h)
set_option maxHeartbeats 4000000 in
set_option maxRecDepth 100000 in
theorem oJ7_fill_53178_5_18 {E : gz_E} {Q : gz_S → Prop} : ∀ (n : Nat) (x1 : Int32) (x2 : Int32) (x3 : Int32) (S : gz_S), wJ7_fill_53178_5 Q n 18 x1 x2 x3 S → gz_k E mJ7_fill_53178 (1, 0, 0, 73) 0 0 5 [some (.ref 18), some (.int x1), some (.int x2), some (.int x3)] [] gz_F S (gz_qv Q) := by
  intro n
  induction n with
  | zero =>
    intro x1 x2 x3 S h
    exact h.elim
  | succ n ih =>
    intro x1 x2 x3 S h
    unfold wJ7_fill_53178_5 at h
    refine gk_iload_n dJ7_fill_53178_5 rfl ?_
    refine gk_iload_n dJ7_fill_53178_6 rfl ?_
    refine gk_icmp_ge (tgt := 20) dJ7_fill_53178_7 (by decide) (fun c7 => ?_) (fun c7 => ?_)
    · replace h := h.1 c7
      exact gk_vret dJ7_fill_53178_20 rfl rfl rfl ⟨rfl, rfl, h⟩
    · replace h := h.2 c7
      refine gk_aload_n dJ7_fill_53178_10 rfl ?_
      refine gk_iload_n dJ7_fill_53178_11 rfl ?_
      refine gk_iload_n dJ7_fill_53178_12 rfl ?_
      refine gk_iastore dJ7_fill_53178_13 rfl h.1 ?_
      replace h := h.2
      refine gk_nmS (fun S13 eS13 => ?_)
      replace h := h S13 eS13
      refine gk_iinc dJ7_fill_53178_14 rfl (Nat.le_of_ble_eq_true rfl) rfl rfl rfl ?_
      refine gk_goto (tgt := 5) dJ7_fill_53178_17 (by decide) ?_
      exact gk_less (gz_le_s rfl (gz_le_s rfl (gz_le_s rfl (gz_le_s rfl gz_le_0)))) (ih _ _ _ _ h)
set_option maxHeartbeats 4000000 in
set_option maxRecDepth 100000 in
theorem ctJ7_fill_53178_18 {E : gz_E} {x1 : Int32} {S : gz_S} {Q : gz_S → Prop} (h : wJ7_fill_53178 18 x1 S Q) : gz_m E mJ7_fill_53178 1 0 0 [.ref 18, .int x1] gz_F S (gz_qv Q) := by
  refine gz_meet0 (L0 := [some (.ref 18), some (.int x1), none, none]) (by decide) rfl (Nat.le_of_ble_eq_true rfl) (by decide) ?_
  unfold wJ7_fill_53178 at h
  refine gk_iconst (v := 0) dJ7_fill_53178_0 rfl ?_
  refine gk_istore_n dJ7_fill_53178_1 (Nat.le_of_ble_eq_true rfl) rfl rfl ?_
  refine gk_aload_n dJ7_fill_53178_2 rfl ?_
  refine gk_ilen dJ7_fill_53178_3 rfl rfl ?_
  refine gk_nmi (fun v3_4 ev3_4 => ?_)
  replace h := h v3_4 ev3_4
  refine gk_istore_n dJ7_fill_53178_4 (Nat.le_of_ble_eq_true rfl) rfl rfl ?_
  obtain ⟨m5, h⟩ := h
  exact gk_less (gz_le_s rfl (gz_le_s rfl (gz_le_s rfl (gz_le_s rfl gz_le_0)))) (oJ7_fill_53178_5_18 m5 _ _ _ _ h)
set_option maxHeartbeats 4000000 in
set_option maxRecDepth 100000 in
theorem oJ7_fill_53178_5_19 {E : gz_E} {Q : gz_S → Prop} : ∀ (n : Nat) (x1 : Int32) (x2 : Int32) (x3 : Int32) (S : gz_S), wJ7_fill_53178_5 Q n 19 x1 x2 x3 S → gz_k E mJ7_fill_53178 (1, 0, 0, 73) 0 0 5 [some (.ref 19), some (.int x1), some (.int x2), some (.int x3)] [] gz_F S (gz_qv Q) := by
  intro n
  induction n with
  | zero =>
    intro x1 x2 x3 S h
    exact h.elim
  | succ n ih =>
    intro x1 x2 x3 S h
    unfold wJ7_fill_53178_5 at h
    refine gk_iload_n dJ7_fill_53178_5 rfl ?_
    refine gk_iload_n dJ7_fill_53178_6 rfl ?_
    refine gk_icmp_ge (tgt := 20) dJ7_fill_53178_7 (by decide) (fun c7 => ?_) (fun c7 => ?_)
    · replace h := h.1 c7
      exact gk_vret dJ7_fill_53178_20 rfl rfl rfl ⟨rfl, rfl, h⟩
    · replace h := h.2 c7
      refine gk_aload_n dJ7_fill_53178_10 rfl ?_
      refine gk_iload_n dJ7_fill_53178_11 rfl ?_
      refine gk_iload_n dJ7_fill_53178_12 rfl ?_
      refine gk_iastore dJ7_fill_53178_13 rfl h.1 ?_
      replace h := h.2
      refine gk_nmS (fun S13 eS13 => ?_)
      replace h := h S13 eS13
      refine gk_iinc dJ7_fill_53178_14 rfl (Nat.le_of_ble_eq_true rfl) rfl rfl rfl ?_
      refine gk_goto (tgt := 5) dJ7_fill_53178_17 (by decide) ?_
      exact gk_less (gz_le_s rfl (gz_le_s rfl (gz_le_s rfl (gz_le_s rfl gz_le_0)))) (ih _ _ _ _ h)
set_option maxHeartbeats 4000000 in
set_option maxRecDepth 100000 in
theorem ctJ7_fill_53178_19 {E : gz_E} {x1 : Int32} {S : gz_S} {Q : gz_S → Prop} (h : wJ7_fill_53178 19 x1 S Q) : gz_m E mJ7_fill_53178 1 0 0 [.ref 19, .int x1] gz_F S (gz_qv Q) := by
  refine gz_meet0 (L0 := [some (.ref 19), some (.int x1), none, none]) (by decide) rfl (Nat.le_of_ble_eq_true rfl) (by decide) ?_
  unfold wJ7_fill_53178 at h
  refine gk_iconst (v := 0) dJ7_fill_53178_0 rfl ?_
  refine gk_istore_n dJ7_fill_53178_1 (Nat.le_of_ble_eq_true rfl) rfl rfl ?_
  refine gk_aload_n dJ7_fill_53178_2 rfl ?_
  refine gk_ilen dJ7_fill_53178_3 rfl rfl ?_
  refine gk_nmi (fun v3_4 ev3_4 => ?_)
  replace h := h v3_4 ev3_4
  refine gk_istore_n dJ7_fill_53178_4 (Nat.le_of_ble_eq_true rfl) rfl rfl ?_
  obtain ⟨m5, h⟩ := h
  exact gk_less (gz_le_s rfl (gz_le_s rfl (gz_le_s rfl (gz_le_s rfl gz_le_0)))) (oJ7_fill_53178_5_19 m5 _ _ _ _ h)
set_option maxHeartbeats 4000000 in
set_option maxRecDepth 100000 in
theorem oJ7_fill_53178_5_21 {E : gz_E} {Q : gz_S → Prop} : ∀ (n : Nat) (x1 : Int32) (x2 : Int32) (x3 : Int32) (S : gz_S), wJ7_fill_53178_5 Q n 21 x1 x2 x3 S → gz_k E mJ7_fill_53178 (1, 0, 0, 73) 0 0 5 [some (.ref 21), some (.int x1), some (.int x2), some (.int x3)] [] gz_F S (gz_qv Q) := by
  intro n
  induction n with
  | zero =>
    intro x1 x2 x3 S h
    exact h.elim
  | succ n ih =>
    intro x1 x2 x3 S h
    unfold wJ7_fill_53178_5 at h
    refine gk_iload_n dJ7_fill_53178_5 rfl ?_
    refine gk_iload_n dJ7_fill_53178_6 rfl ?_
    refine gk_icmp_ge (tgt := 20) dJ7_fill_53178_7 (by decide) (fun c7 => ?_) (fun c7 => ?_)
    · replace h := h.1 c7
      exact gk_vret dJ7_fill_53178_20 rfl rfl rfl ⟨rfl, rfl, h⟩
    · replace h := h.2 c7
      refine gk_aload_n dJ7_fill_53178_10 rfl ?_
      refine gk_iload_n dJ7_fill_53178_11 rfl ?_
      refine gk_iload_n dJ7_fill_53178_12 rfl ?_
      refine gk_iastore dJ7_fill_53178_13 rfl h.1 ?_
      replace h := h.2
      refine gk_nmS (fun S13 eS13 => ?_)
      replace h := h S13 eS13
      refine gk_iinc dJ7_fill_53178_14 rfl (Nat.le_of_ble_eq_true rfl) rfl rfl rfl ?_
      refine gk_goto (tgt := 5) dJ7_fill_53178_17 (by decide) ?_
      exact gk_less (gz_le_s rfl (gz_le_s rfl (gz_le_s rfl (gz_le_s rfl gz_le_0)))) (ih _ _ _ _ h)
set_option maxHeartbeats 4000000 in
set_option maxRecDepth 100000 in
theorem ctJ7_fill_53178_21 {E : gz_E} {x1 : Int32} {S : gz_S} {Q : gz_S → Prop} (h : wJ7_fill_53178 21 x1 S Q) : gz_m E mJ7_fill_53178 1 0 0 [.ref 21, .int x1] gz_F S (gz_qv Q) := by
  refine gz_meet0 (L0 := [some (.ref 21), some (.int x1), none, none]) (by decide) rfl (Nat.le_of_ble_eq_true rfl) (by decide) ?_
  unfold wJ7_fill_53178 at h
  refine gk_iconst (v := 0) dJ7_fill_53178_0 rfl ?_
  refine gk_istore_n dJ7_fill_53178_1 (Nat.le_of_ble_eq_true rfl) rfl rfl ?_
  refine gk_aload_n dJ7_fill_53178_2 rfl ?_
  refine gk_ilen dJ7_fill_53178_3 rfl rfl ?_
  refine gk_nmi (fun v3_4 ev3_4 => ?_)
  replace h := h v3_4 ev3_4
  refine gk_istore_n dJ7_fill_53178_4 (Nat.le_of_ble_eq_true rfl) rfl rfl ?_
  obtain ⟨m5, h⟩ := h
  exact gk_less (gz_le_s rfl (gz_le_s rfl (gz_le_s rfl (gz_le_s rfl gz_le_0)))) (oJ7_fill_53178_5_21 m5 _ _ _ _ h)
set_option maxHeartbeats 4000000 in
set_option maxRecDepth 100000 in
theorem oJ7_fill_53178_5_22 {E : gz_E} {Q : gz_S → Prop} : ∀ (n : Nat) (x1 : Int32) (x2 : Int32) (x3 : Int32) (S : gz_S), wJ7_fill_53178_5 Q n 22 x1 x2 x3 S → gz_k E mJ7_fill_53178 (1, 0, 0, 73) 0 0 5 [some (.ref 22), some (.int x1), some (.int x2), some (.int x3)] [] gz_F S (gz_qv Q) := by
  intro n
  induction n with
  | zero =>
    intro x1 x2 x3 S h
    exact h.elim
  | succ n ih =>
    intro x1 x2 x3 S h
    unfold wJ7_fill_53178_5 at h
    refine gk_iload_n dJ7_fill_53178_5 rfl ?_
    refine gk_iload_n dJ7_fill_53178_6 rfl ?_
    refine gk_icmp_ge (tgt := 20) dJ7_fill_53178_7 (by decide) (fun c7 => ?_) (fun c7 => ?_)
    · replace h := h.1 c7
      exact gk_vret dJ7_fill_53178_20 rfl rfl rfl ⟨rfl, rfl, h⟩
    · replace h := h.2 c7
      refine gk_aload_n dJ7_fill_53178_10 rfl ?_
      refine gk_iload_n dJ7_fill_53178_11 rfl ?_
      refine gk_iload_n dJ7_fill_53178_12 rfl ?_
      refine gk_iastore dJ7_fill_53178_13 rfl h.1 ?_
      replace h := h.2
      refine gk_nmS (fun S13 eS13 => ?_)
      replace h := h S13 eS13
      refine gk_iinc dJ7_fill_53178_14 rfl (Nat.le_of_ble_eq_true rfl) rfl rfl rfl ?_
      refine gk_goto (tgt := 5) dJ7_fill_53178_17 (by decide) ?_
      exact gk_less (gz_le_s rfl (gz_le_s rfl (gz_le_s rfl (gz_le_s rfl gz_le_0)))) (ih _ _ _ _ h)
set_option maxHeartbeats 4000000 in
set_option maxRecDepth 100000 in
theorem ctJ7_fill_53178_22 {E : gz_E} {x1 : Int32} {S : gz_S} {Q : gz_S → Prop} (h : wJ7_fill_53178 22 x1 S Q) : gz_m E mJ7_fill_53178 1 0 0 [.ref 22, .int x1] gz_F S (gz_qv Q) := by
  refine gz_meet0 (L0 := [some (.ref 22), some (.int x1), none, none]) (by decide) rfl (Nat.le_of_ble_eq_true rfl) (by decide) ?_
  unfold wJ7_fill_53178 at h
  refine gk_iconst (v := 0) dJ7_fill_53178_0 rfl ?_
  refine gk_istore_n dJ7_fill_53178_1 (Nat.le_of_ble_eq_true rfl) rfl rfl ?_
  refine gk_aload_n dJ7_fill_53178_2 rfl ?_
  refine gk_ilen dJ7_fill_53178_3 rfl rfl ?_
  refine gk_nmi (fun v3_4 ev3_4 => ?_)
  replace h := h v3_4 ev3_4
  refine gk_istore_n dJ7_fill_53178_4 (Nat.le_of_ble_eq_true rfl) rfl rfl ?_
  obtain ⟨m5, h⟩ := h
  exact gk_less (gz_le_s rfl (gz_le_s rfl (gz_le_s rfl (gz_le_s rfl gz_le_0)))) (oJ7_fill_53178_5_22 m5 _ _ _ _ h)
set_option maxHeartbeats 4000000 in
set_option maxRecDepth 100000 in
theorem oJ7_fill_53178_5_25 {E : gz_E} {Q : gz_S → Prop} : ∀ (n : Nat) (x1 : Int32) (x2 : Int32) (x3 : Int32) (S : gz_S), wJ7_fill_53178_5 Q n 25 x1 x2 x3 S → gz_k E mJ7_fill_53178 (1, 0, 0, 73) 0 0 5 [some (.ref 25), some (.int x1), some (.int x2), some (.int x3)] [] gz_F S (gz_qv Q) := by
  intro n
  induction n with
  | zero =>
    intro x1 x2 x3 S h
    exact h.elim
  | succ n ih =>
    intro x1 x2 x3 S h
    unfold wJ7_fill_53178_5 at h
    refine gk_iload_n dJ7_fill_53178_5 rfl ?_
    refine gk_iload_n dJ7_fill_53178_6 rfl ?_
    refine gk_icmp_ge (tgt := 20) dJ7_fill_53178_7 (by decide) (fun c7 => ?_) (fun c7 => ?_)
    · replace h := h.1 c7
      exact gk_vret dJ7_fill_53178_20 rfl rfl rfl ⟨rfl, rfl, h⟩
    · replace h := h.2 c7
      refine gk_aload_n dJ7_fill_53178_10 rfl ?_
      refine gk_iload_n dJ7_fill_53178_11 rfl ?_
      refine gk_iload_n dJ7_fill_53178_12 rfl ?_
      refine gk_iastore dJ7_fill_53178_13 rfl h.1 ?_
      replace h := h.2
      refine gk_nmS (fun S13 eS13 => ?_)
      replace h := h S13 eS13
      refine gk_iinc dJ7_fill_53178_14 rfl (Nat.le_of_ble_eq_true rfl) rfl rfl rfl ?_
      refine gk_goto (tgt := 5) dJ7_fill_53178_17 (by decide) ?_
      exact gk_less (gz_le_s rfl (gz_le_s rfl (gz_le_s rfl (gz_le_s rfl gz_le_0)))) (ih _ _ _ _ h)
set_option maxHeartbeats 4000000 in
set_option maxRecDepth 100000 in
theorem ctJ7_fill_53178_25 {E : gz_E} {x1 : Int32} {S : gz_S} {Q : gz_S → Prop} (h : wJ7_fill_53178 25 x1 S Q) : gz_m E mJ7_fill_53178 1 0 0 [.ref 25, .int x1] gz_F S (gz_qv Q) := by
  refine gz_meet0 (L0 := [some (.ref 25), some (.int x1), none, none]) (by decide) rfl (Nat.le_of_ble_eq_true rfl) (by decide) ?_
  unfold wJ7_fill_53178 at h
  refine gk_iconst (v := 0) dJ7_fill_53178_0 rfl ?_
  refine gk_istore_n dJ7_fill_53178_1 (Nat.le_of_ble_eq_true rfl) rfl rfl ?_
  refine gk_aload_n dJ7_fill_53178_2 rfl ?_
  refine gk_ilen dJ7_fill_53178_3 rfl rfl ?_
  refine gk_nmi (fun v3_4 ev3_4 => ?_)
  replace h := h v3_4 ev3_4
  refine gk_istore_n dJ7_fill_53178_4 (Nat.le_of_ble_eq_true rfl) rfl rfl ?_
  obtain ⟨m5, h⟩ := h
  exact gk_less (gz_le_s rfl (gz_le_s rfl (gz_le_s rfl (gz_le_s rfl gz_le_0)))) (oJ7_fill_53178_5_25 m5 _ _ _ _ h)
set_option maxHeartbeats 4000000 in
set_option maxRecDepth 100000 in
theorem oJ7_fill_53178_5_26 {E : gz_E} {Q : gz_S → Prop} : ∀ (n : Nat) (x1 : Int32) (x2 : Int32) (x3 : Int32) (S : gz_S), wJ7_fill_53178_5 Q n 26 x1 x2 x3 S → gz_k E mJ7_fill_53178 (1, 0, 0, 73) 0 0 5 [some (.ref 26), some (.int x1), some (.int x2), some (.int x3)] [] gz_F S (gz_qv Q) := by
  intro n
  induction n with
  | zero =>
    intro x1 x2 x3 S h
    exact h.elim
  | succ n ih =>
    intro x1 x2 x3 S h
    unfold wJ7_fill_53178_5 at h
    refine gk_iload_n dJ7_fill_53178_5 rfl ?_
    refine gk_iload_n dJ7_fill_53178_6 rfl ?_
    refine gk_icmp_ge (tgt := 20) dJ7_fill_53178_7 (by decide) (fun c7 => ?_) (fun c7 => ?_)
    · replace h := h.1 c7
      exact gk_vret dJ7_fill_53178_20 rfl rfl rfl ⟨rfl, rfl, h⟩
    · replace h := h.2 c7
      refine gk_aload_n dJ7_fill_53178_10 rfl ?_
      refine gk_iload_n dJ7_fill_53178_11 rfl ?_
      refine gk_iload_n dJ7_fill_53178_12 rfl ?_
      refine gk_iastore dJ7_fill_53178_13 rfl h.1 ?_
      replace h := h.2
      refine gk_nmS (fun S13 eS13 => ?_)
      replace h := h S13 eS13
      refine gk_iinc dJ7_fill_53178_14 rfl (Nat.le_of_ble_eq_true rfl) rfl rfl rfl ?_
      refine gk_goto (tgt := 5) dJ7_fill_53178_17 (by decide) ?_
      exact gk_less (gz_le_s rfl (gz_le_s rfl (gz_le_s rfl (gz_le_s rfl gz_le_0)))) (ih _ _ _ _ h)
set_option maxHeartbeats 4000000 in
set_option maxRecDepth 100000 in
theorem ctJ7_fill_53178_26 {E : gz_E} {x1 : Int32} {S : gz_S} {Q : gz_S → Prop} (h : wJ7_fill_53178 26 x1 S Q) : gz_m E mJ7_fill_53178 1 0 0 [.ref 26, .int x1] gz_F S (gz_qv Q) := by
  refine gz_meet0 (L0 := [some (.ref 26), some (.int x1), none, none]) (by decide) rfl (Nat.le_of_ble_eq_true rfl) (by decide) ?_
  unfold wJ7_fill_53178 at h
  refine gk_iconst (v := 0) dJ7_fill_53178_0 rfl ?_
  refine gk_istore_n dJ7_fill_53178_1 (Nat.le_of_ble_eq_true rfl) rfl rfl ?_
  refine gk_aload_n dJ7_fill_53178_2 rfl ?_
  refine gk_ilen dJ7_fill_53178_3 rfl rfl ?_
  refine gk_nmi (fun v3_4 ev3_4 => ?_)
  replace h := h v3_4 ev3_4
  refine gk_istore_n dJ7_fill_53178_4 (Nat.le_of_ble_eq_true rfl) rfl rfl ?_
  obtain ⟨m5, h⟩ := h
  exact gk_less (gz_le_s rfl (gz_le_s rfl (gz_le_s rfl (gz_le_s rfl gz_le_0)))) (oJ7_fill_53178_5_26 m5 _ _ _ _ h)
set_option maxHeartbeats 4000000 in
set_option maxRecDepth 100000 in
theorem oJ7_fill_53178_5_28 {E : gz_E} {Q : gz_S → Prop} : ∀ (n : Nat) (x1 : Int32) (x2 : Int32) (x3 : Int32) (S : gz_S), wJ7_fill_53178_5 Q n 28 x1 x2 x3 S → gz_k E mJ7_fill_53178 (1, 0, 0, 73) 0 0 5 [some (.ref 28), some (.int x1), some (.int x2), some (.int x3)] [] gz_F S (gz_qv Q) := by
  intro n
  induction n with
  | zero =>
    intro x1 x2 x3 S h
    exact h.elim
  | succ n ih =>
    intro x1 x2 x3 S h
    unfold wJ7_fill_53178_5 at h
    refine gk_iload_n dJ7_fill_53178_5 rfl ?_
    refine gk_iload_n dJ7_fill_53178_6 rfl ?_
    refine gk_icmp_ge (tgt := 20) dJ7_fill_53178_7 (by decide) (fun c7 => ?_) (fun c7 => ?_)
    · replace h := h.1 c7
      exact gk_vret dJ7_fill_53178_20 rfl rfl rfl ⟨rfl, rfl, h⟩
    · replace h := h.2 c7
      refine gk_aload_n dJ7_fill_53178_10 rfl ?_
      refine gk_iload_n dJ7_fill_53178_11 rfl ?_
      refine gk_iload_n dJ7_fill_53178_12 rfl ?_
      refine gk_iastore dJ7_fill_53178_13 rfl h.1 ?_
      replace h := h.2
      refine gk_nmS (fun S13 eS13 => ?_)
      replace h := h S13 eS13
      refine gk_iinc dJ7_fill_53178_14 rfl (Nat.le_of_ble_eq_true rfl) rfl rfl rfl ?_
      refine gk_goto (tgt := 5) dJ7_fill_53178_17 (by decide) ?_
      exact gk_less (gz_le_s rfl (gz_le_s rfl (gz_le_s rfl (gz_le_s rfl gz_le_0)))) (ih _ _ _ _ h)
set_option maxHeartbeats 4000000 in
set_option maxRecDepth 100000 in
theorem ctJ7_fill_53178_28 {E : gz_E} {x1 : Int32} {S : gz_S} {Q : gz_S → Prop} (h : wJ7_fill_53178 28 x1 S Q) : gz_m E mJ7_fill_53178 1 0 0 [.ref 28, .int x1] gz_F S (gz_qv Q) := by
  refine gz_meet0 (L0 := [some (.ref 28), some (.int x1), none, none]) (by decide) rfl (Nat.le_of_ble_eq_true rfl) (by decide) ?_
  unfold wJ7_fill_53178 at h
  refine gk_iconst (v := 0) dJ7_fill_53178_0 rfl ?_
  refine gk_istore_n dJ7_fill_53178_1 (Nat.le_of_ble_eq_true rfl) rfl rfl ?_
  refine gk_aload_n dJ7_fill_53178_2 rfl ?_
  refine gk_ilen dJ7_fill_53178_3 rfl rfl ?_
  refine gk_nmi (fun v3_4 ev3_4 => ?_)
  replace h := h v3_4 ev3_4
  refine gk_istore_n dJ7_fill_53178_4 (Nat.le_of_ble_eq_true rfl) rfl rfl ?_
  obtain ⟨m5, h⟩ := h
  exact gk_less (gz_le_s rfl (gz_le_s rfl (gz_le_s rfl (gz_le_s rfl gz_le_0)))) (oJ7_fill_53178_5_28 m5 _ _ _ _ h)
set_option maxHeartbeats 4000000 in
set_option maxRecDepth 100000 in
theorem oJ7_fill_53178_5_29 {E : gz_E} {Q : gz_S → Prop} : ∀ (n : Nat) (x1 : Int32) (x2 : Int32) (x3 : Int32) (S : gz_S), wJ7_fill_53178_5 Q n 29 x1 x2 x3 S → gz_k E mJ7_fill_53178 (1, 0, 0, 73) 0 0 5 [some (.ref 29), some (.int x1), some (.int x2), some (.int x3)] [] gz_F S (gz_qv Q) := by
  intro n
  induction n with
  | zero =>
    intro x1 x2 x3 S h
    exact h.elim
  | succ n ih =>
    intro x1 x2 x3 S h
    unfold wJ7_fill_53178_5 at h
    refine gk_iload_n dJ7_fill_53178_5 rfl ?_
    refine gk_iload_n dJ7_fill_53178_6 rfl ?_
    refine gk_icmp_ge (tgt := 20) dJ7_fill_53178_7 (by decide) (fun c7 => ?_) (fun c7 => ?_)
    · replace h := h.1 c7
      exact gk_vret dJ7_fill_53178_20 rfl rfl rfl ⟨rfl, rfl, h⟩
    · replace h := h.2 c7
      refine gk_aload_n dJ7_fill_53178_10 rfl ?_
      refine gk_iload_n dJ7_fill_53178_11 rfl ?_
      refine gk_iload_n dJ7_fill_53178_12 rfl ?_
      refine gk_iastore dJ7_fill_53178_13 rfl h.1 ?_
      replace h := h.2
      refine gk_nmS (fun S13 eS13 => ?_)
      replace h := h S13 eS13
      refine gk_iinc dJ7_fill_53178_14 rfl (Nat.le_of_ble_eq_true rfl) rfl rfl rfl ?_
      refine gk_goto (tgt := 5) dJ7_fill_53178_17 (by decide) ?_
      exact gk_less (gz_le_s rfl (gz_le_s rfl (gz_le_s rfl (gz_le_s rfl gz_le_0)))) (ih _ _ _ _ h)
set_option maxHeartbeats 4000000 in
set_option maxRecDepth 100000 in
theorem ctJ7_fill_53178_29 {E : gz_E} {x1 : Int32} {S : gz_S} {Q : gz_S → Prop} (h : wJ7_fill_53178 29 x1 S Q) : gz_m E mJ7_fill_53178 1 0 0 [.ref 29, .int x1] gz_F S (gz_qv Q) := by
  refine gz_meet0 (L0 := [some (.ref 29), some (.int x1), none, none]) (by decide) rfl (Nat.le_of_ble_eq_true rfl) (by decide) ?_
  unfold wJ7_fill_53178 at h
  refine gk_iconst (v := 0) dJ7_fill_53178_0 rfl ?_
  refine gk_istore_n dJ7_fill_53178_1 (Nat.le_of_ble_eq_true rfl) rfl rfl ?_
  refine gk_aload_n dJ7_fill_53178_2 rfl ?_
  refine gk_ilen dJ7_fill_53178_3 rfl rfl ?_
  refine gk_nmi (fun v3_4 ev3_4 => ?_)
  replace h := h v3_4 ev3_4
  refine gk_istore_n dJ7_fill_53178_4 (Nat.le_of_ble_eq_true rfl) rfl rfl ?_
  obtain ⟨m5, h⟩ := h
  exact gk_less (gz_le_s rfl (gz_le_s rfl (gz_le_s rfl (gz_le_s rfl gz_le_0)))) (oJ7_fill_53178_5_29 m5 _ _ _ _ h)
set_option maxHeartbeats 4000000 in
set_option maxRecDepth 100000 in
theorem oJ7_fill_53178_5_38 {E : gz_E} {Q : gz_S → Prop} : ∀ (n : Nat) (x1 : Int32) (x2 : Int32) (x3 : Int32) (S : gz_S), wJ7_fill_53178_5 Q n 38 x1 x2 x3 S → gz_k E mJ7_fill_53178 (1, 0, 0, 73) 0 0 5 [some (.ref 38), some (.int x1), some (.int x2), some (.int x3)] [] gz_F S (gz_qv Q) := by
  intro n
  induction n with
  | zero =>
    intro x1 x2 x3 S h
    exact h.elim
  | succ n ih =>
    intro x1 x2 x3 S h
    unfold wJ7_fill_53178_5 at h
    refine gk_iload_n dJ7_fill_53178_5 rfl ?_
    refine gk_iload_n dJ7_fill_53178_6 rfl ?_
    refine gk_icmp_ge (tgt := 20) dJ7_fill_53178_7 (by decide) (fun c7 => ?_) (fun c7 => ?_)
    · replace h := h.1 c7
      exact gk_vret dJ7_fill_53178_20 rfl rfl rfl ⟨rfl, rfl, h⟩
    · replace h := h.2 c7
      refine gk_aload_n dJ7_fill_53178_10 rfl ?_
      refine gk_iload_n dJ7_fill_53178_11 rfl ?_
      refine gk_iload_n dJ7_fill_53178_12 rfl ?_
      refine gk_iastore dJ7_fill_53178_13 rfl h.1 ?_
      replace h := h.2
      refine gk_nmS (fun S13 eS13 => ?_)
      replace h := h S13 eS13
      refine gk_iinc dJ7_fill_53178_14 rfl (Nat.le_of_ble_eq_true rfl) rfl rfl rfl ?_
      refine gk_goto (tgt := 5) dJ7_fill_53178_17 (by decide) ?_
      exact gk_less (gz_le_s rfl (gz_le_s rfl (gz_le_s rfl (gz_le_s rfl gz_le_0)))) (ih _ _ _ _ h)
set_option maxHeartbeats 4000000 in
set_option maxRecDepth 100000 in
theorem ctJ7_fill_53178_38 {E : gz_E} {x1 : Int32} {S : gz_S} {Q : gz_S → Prop} (h : wJ7_fill_53178 38 x1 S Q) : gz_m E mJ7_fill_53178 1 0 0 [.ref 38, .int x1] gz_F S (gz_qv Q) := by
  refine gz_meet0 (L0 := [some (.ref 38), some (.int x1), none, none]) (by decide) rfl (Nat.le_of_ble_eq_true rfl) (by decide) ?_
  unfold wJ7_fill_53178 at h
  refine gk_iconst (v := 0) dJ7_fill_53178_0 rfl ?_
  refine gk_istore_n dJ7_fill_53178_1 (Nat.le_of_ble_eq_true rfl) rfl rfl ?_
  refine gk_aload_n dJ7_fill_53178_2 rfl ?_
  refine gk_ilen dJ7_fill_53178_3 rfl rfl ?_
  refine gk_nmi (fun v3_4 ev3_4 => ?_)
  replace h := h v3_4 ev3_4
  refine gk_istore_n dJ7_fill_53178_4 (Nat.le_of_ble_eq_true rfl) rfl rfl ?_
  obtain ⟨m5, h⟩ := h
  exact gk_less (gz_le_s rfl (gz_le_s rfl (gz_le_s rfl (gz_le_s rfl gz_le_0)))) (oJ7_fill_53178_5_38 m5 _ _ _ _ h)
set_option maxHeartbeats 4000000 in
set_option maxRecDepth 100000 in
theorem oJ7_fill_53178_5_40 {E : gz_E} {Q : gz_S → Prop} : ∀ (n : Nat) (x1 : Int32) (x2 : Int32) (x3 : Int32) (S : gz_S), wJ7_fill_53178_5 Q n 40 x1 x2 x3 S → gz_k E mJ7_fill_53178 (1, 0, 0, 73) 0 0 5 [some (.ref 40), some (.int x1), some (.int x2), some (.int x3)] [] gz_F S (gz_qv Q) := by
  intro n
  induction n with
  | zero =>
    intro x1 x2 x3 S h
    exact h.elim
  | succ n ih =>
    intro x1 x2 x3 S h
    unfold wJ7_fill_53178_5 at h
    refine gk_iload_n dJ7_fill_53178_5 rfl ?_
    refine gk_iload_n dJ7_fill_53178_6 rfl ?_
    refine gk_icmp_ge (tgt := 20) dJ7_fill_53178_7 (by decide) (fun c7 => ?_) (fun c7 => ?_)
    · replace h := h.1 c7
      exact gk_vret dJ7_fill_53178_20 rfl rfl rfl ⟨rfl, rfl, h⟩
    · replace h := h.2 c7
      refine gk_aload_n dJ7_fill_53178_10 rfl ?_
      refine gk_iload_n dJ7_fill_53178_11 rfl ?_
      refine gk_iload_n dJ7_fill_53178_12 rfl ?_
      refine gk_iastore dJ7_fill_53178_13 rfl h.1 ?_
      replace h := h.2
      refine gk_nmS (fun S13 eS13 => ?_)
      replace h := h S13 eS13
      refine gk_iinc dJ7_fill_53178_14 rfl (Nat.le_of_ble_eq_true rfl) rfl rfl rfl ?_
      refine gk_goto (tgt := 5) dJ7_fill_53178_17 (by decide) ?_
      exact gk_less (gz_le_s rfl (gz_le_s rfl (gz_le_s rfl (gz_le_s rfl gz_le_0)))) (ih _ _ _ _ h)
set_option maxHeartbeats 4000000 in
set_option maxRecDepth 100000 in
theorem ctJ7_fill_53178_40 {E : gz_E} {x1 : Int32} {S : gz_S} {Q : gz_S → Prop} (h : wJ7_fill_53178 40 x1 S Q) : gz_m E mJ7_fill_53178 1 0 0 [.ref 40, .int x1] gz_F S (gz_qv Q) := by
  refine gz_meet0 (L0 := [some (.ref 40), some (.int x1), none, none]) (by decide) rfl (Nat.le_of_ble_eq_true rfl) (by decide) ?_
  unfold wJ7_fill_53178 at h
  refine gk_iconst (v := 0) dJ7_fill_53178_0 rfl ?_
  refine gk_istore_n dJ7_fill_53178_1 (Nat.le_of_ble_eq_true rfl) rfl rfl ?_
  refine gk_aload_n dJ7_fill_53178_2 rfl ?_
  refine gk_ilen dJ7_fill_53178_3 rfl rfl ?_
  refine gk_nmi (fun v3_4 ev3_4 => ?_)
  replace h := h v3_4 ev3_4
  refine gk_istore_n dJ7_fill_53178_4 (Nat.le_of_ble_eq_true rfl) rfl rfl ?_
  obtain ⟨m5, h⟩ := h
  exact gk_less (gz_le_s rfl (gz_le_s rfl (gz_le_s rfl (gz_le_s rfl gz_le_0)))) (oJ7_fill_53178_5_40 m5 _ _ _ _ h)
set_option maxHeartbeats 4000000 in
set_option maxRecDepth 100000 in
theorem oJ7_fill_53178_5_42 {E : gz_E} {Q : gz_S → Prop} : ∀ (n : Nat) (x1 : Int32) (x2 : Int32) (x3 : Int32) (S : gz_S), wJ7_fill_53178_5 Q n 42 x1 x2 x3 S → gz_k E mJ7_fill_53178 (1, 0, 0, 73) 0 0 5 [some (.ref 42), some (.int x1), some (.int x2), some (.int x3)] [] gz_F S (gz_qv Q) := by
  intro n
  induction n with
  | zero =>
    intro x1 x2 x3 S h
    exact h.elim
  | succ n ih =>
    intro x1 x2 x3 S h
    unfold wJ7_fill_53178_5 at h
    refine gk_iload_n dJ7_fill_53178_5 rfl ?_
    refine gk_iload_n dJ7_fill_53178_6 rfl ?_
    refine gk_icmp_ge (tgt := 20) dJ7_fill_53178_7 (by decide) (fun c7 => ?_) (fun c7 => ?_)
    · replace h := h.1 c7
      exact gk_vret dJ7_fill_53178_20 rfl rfl rfl ⟨rfl, rfl, h⟩
    · replace h := h.2 c7
      refine gk_aload_n dJ7_fill_53178_10 rfl ?_
      refine gk_iload_n dJ7_fill_53178_11 rfl ?_
      refine gk_iload_n dJ7_fill_53178_12 rfl ?_
      refine gk_iastore dJ7_fill_53178_13 rfl h.1 ?_
      replace h := h.2
      refine gk_nmS (fun S13 eS13 => ?_)
      replace h := h S13 eS13
      refine gk_iinc dJ7_fill_53178_14 rfl (Nat.le_of_ble_eq_true rfl) rfl rfl rfl ?_
      refine gk_goto (tgt := 5) dJ7_fill_53178_17 (by decide) ?_
      exact gk_less (gz_le_s rfl (gz_le_s rfl (gz_le_s rfl (gz_le_s rfl gz_le_0)))) (ih _ _ _ _ h)
set_option maxHeartbeats 4000000 in
set_option maxRecDepth 100000 in
theorem ctJ7_fill_53178_42 {E : gz_E} {x1 : Int32} {S : gz_S} {Q : gz_S → Prop} (h : wJ7_fill_53178 42 x1 S Q) : gz_m E mJ7_fill_53178 1 0 0 [.ref 42, .int x1] gz_F S (gz_qv Q) := by
  refine gz_meet0 (L0 := [some (.ref 42), some (.int x1), none, none]) (by decide) rfl (Nat.le_of_ble_eq_true rfl) (by decide) ?_
  unfold wJ7_fill_53178 at h
  refine gk_iconst (v := 0) dJ7_fill_53178_0 rfl ?_
  refine gk_istore_n dJ7_fill_53178_1 (Nat.le_of_ble_eq_true rfl) rfl rfl ?_
  refine gk_aload_n dJ7_fill_53178_2 rfl ?_
  refine gk_ilen dJ7_fill_53178_3 rfl rfl ?_
  refine gk_nmi (fun v3_4 ev3_4 => ?_)
  replace h := h v3_4 ev3_4
  refine gk_istore_n dJ7_fill_53178_4 (Nat.le_of_ble_eq_true rfl) rfl rfl ?_
  obtain ⟨m5, h⟩ := h
  exact gk_less (gz_le_s rfl (gz_le_s rfl (gz_le_s rfl (gz_le_s rfl gz_le_0)))) (oJ7_fill_53178_5_42 m5 _ _ _ _ h)
set_option maxHeartbeats 4000000 in
set_option maxRecDepth 100000 in
theorem oJ7_fill_53178_5_44 {E : gz_E} {Q : gz_S → Prop} : ∀ (n : Nat) (x1 : Int32) (x2 : Int32) (x3 : Int32) (S : gz_S), wJ7_fill_53178_5 Q n 44 x1 x2 x3 S → gz_k E mJ7_fill_53178 (1, 0, 0, 73) 0 0 5 [some (.ref 44), some (.int x1), some (.int x2), some (.int x3)] [] gz_F S (gz_qv Q) := by
  intro n
  induction n with
  | zero =>
    intro x1 x2 x3 S h
    exact h.elim
  | succ n ih =>
    intro x1 x2 x3 S h
    unfold wJ7_fill_53178_5 at h
    refine gk_iload_n dJ7_fill_53178_5 rfl ?_
    refine gk_iload_n dJ7_fill_53178_6 rfl ?_
    refine gk_icmp_ge (tgt := 20) dJ7_fill_53178_7 (by decide) (fun c7 => ?_) (fun c7 => ?_)
    · replace h := h.1 c7
      exact gk_vret dJ7_fill_53178_20 rfl rfl rfl ⟨rfl, rfl, h⟩
    · replace h := h.2 c7
      refine gk_aload_n dJ7_fill_53178_10 rfl ?_
      refine gk_iload_n dJ7_fill_53178_11 rfl ?_
      refine gk_iload_n dJ7_fill_53178_12 rfl ?_
      refine gk_iastore dJ7_fill_53178_13 rfl h.1 ?_
      replace h := h.2
      refine gk_nmS (fun S13 eS13 => ?_)
      replace h := h S13 eS13
      refine gk_iinc dJ7_fill_53178_14 rfl (Nat.le_of_ble_eq_true rfl) rfl rfl rfl ?_
      refine gk_goto (tgt := 5) dJ7_fill_53178_17 (by decide) ?_
      exact gk_less (gz_le_s rfl (gz_le_s rfl (gz_le_s rfl (gz_le_s rfl gz_le_0)))) (ih _ _ _ _ h)
set_option maxHeartbeats 4000000 in
set_option maxRecDepth 100000 in
theorem ctJ7_fill_53178_44 {E : gz_E} {x1 : Int32} {S : gz_S} {Q : gz_S → Prop} (h : wJ7_fill_53178 44 x1 S Q) : gz_m E mJ7_fill_53178 1 0 0 [.ref 44, .int x1] gz_F S (gz_qv Q) := by
  refine gz_meet0 (L0 := [some (.ref 44), some (.int x1), none, none]) (by decide) rfl (Nat.le_of_ble_eq_true rfl) (by decide) ?_
  unfold wJ7_fill_53178 at h
  refine gk_iconst (v := 0) dJ7_fill_53178_0 rfl ?_
  refine gk_istore_n dJ7_fill_53178_1 (Nat.le_of_ble_eq_true rfl) rfl rfl ?_
  refine gk_aload_n dJ7_fill_53178_2 rfl ?_
  refine gk_ilen dJ7_fill_53178_3 rfl rfl ?_
  refine gk_nmi (fun v3_4 ev3_4 => ?_)
  replace h := h v3_4 ev3_4
  refine gk_istore_n dJ7_fill_53178_4 (Nat.le_of_ble_eq_true rfl) rfl rfl ?_
  obtain ⟨m5, h⟩ := h
  exact gk_less (gz_le_s rfl (gz_le_s rfl (gz_le_s rfl (gz_le_s rfl gz_le_0)))) (oJ7_fill_53178_5_44 m5 _ _ _ _ h)
set_option maxHeartbeats 4000000 in
set_option maxRecDepth 100000 in
theorem ctX3_weight {E : gz_E} {x1 : Int32} {S : gz_S} {Q : Int32 → gz_S → Prop} (h : wX3_weight x1 S Q) : gz_m E mX3_weight 1 0 0 [.ref 1, .int x1] gz_F S (gz_qi Q) := by
  refine gz_meet0 (L0 := [some (.ref 1), some (.int x1)]) (by decide) rfl (Nat.le_of_ble_eq_true rfl) (by decide) ?_
  unfold wX3_weight at h
  refine gk_aload_n dX3_weight_0 rfl ?_
  refine gk_getr dX3_weight_1 rfl rfl wfX3_20 ?_
  refine gk_getr dX3_weight_4 rfl rfl wfX3_43 ?_
  refine gk_iload_n dX3_weight_7 rfl ?_
  refine gk_iaload dX3_weight_8 rfl h.1 ?_
  replace h := h.2
  exact gk_iret dX3_weight_9 rfl rfl rfl rfl ⟨rfl, _, rfl, h⟩
set_option maxHeartbeats 4000000 in
set_option maxRecDepth 100000 in
theorem ctX3_strength {E : gz_E} {x1 : Int32} {S : gz_S} {Q : Int32 → gz_S → Prop} (h : wX3_strength x1 S Q) : gz_m E mX3_strength 1 0 0 [.ref 1, .int x1] gz_F S (gz_qi Q) := by
  refine gz_meet0 (L0 := [some (.ref 1), some (.int x1)]) (by decide) rfl (Nat.le_of_ble_eq_true rfl) (by decide) ?_
  unfold wX3_strength at h
  refine gk_aload_n dX3_strength_0 rfl ?_
  refine gk_getr dX3_strength_1 rfl rfl wfX3_14 ?_
  refine gk_getr dX3_strength_4 rfl rfl wfX3_43 ?_
  refine gk_iload_n dX3_strength_7 rfl ?_
  refine gk_iaload dX3_strength_8 rfl h.1 ?_
  replace h := h.2
  exact gk_iret dX3_strength_9 rfl rfl rfl rfl ⟨rfl, _, rfl, h⟩
set_option maxHeartbeats 4000000 in
set_option maxRecDepth 100000 in
theorem ctX3_way {E : gz_E} {x1 : Int32} {S : gz_S} {Q : Int32 → gz_S → Prop} (h : wX3_way x1 S Q) : gz_m E mX3_way 1 0 0 [.ref 1, .int x1] gz_F S (gz_qi Q) := by
  refine gz_meet0 (L0 := [some (.ref 1), some (.int x1)]) (by decide) rfl (Nat.le_of_ble_eq_true rfl) (by decide) ?_
  unfold wX3_way at h
  refine gk_aload_n dX3_way_0 rfl ?_
  refine gk_getr dX3_way_1 rfl rfl wfX3_20 ?_
  refine gk_getr dX3_way_4 rfl rfl wfX3_46 ?_
  refine gk_iload_n dX3_way_7 rfl ?_
  refine gk_iaload dX3_way_8 rfl h.1 ?_
  replace h := h.2
  exact gk_iret dX3_way_9 rfl rfl rfl rfl ⟨rfl, _, rfl, h⟩
set_option maxHeartbeats 4000000 in
set_option maxRecDepth 100000 in
theorem ctX2_hourByLaw_16 {E : gz_E} {x1 : Int32} {S : gz_S} {Q : Int32 → gz_S → Prop} (h : wX2_hourByLaw 16 x1 S Q) : gz_m E mX2_hourByLaw 2 0 0 [.ref 16, .int x1] gz_F S (gz_qi Q) := by
  refine gz_meet0 (L0 := [some (.ref 16), some (.int x1), none, none, none]) (by decide) rfl (Nat.le_of_ble_eq_true rfl) (by decide) ?_
  unfold wX2_hourByLaw at h
  refine gk_aload_n dX2_hourByLaw_0 rfl ?_
  refine gk_getr dX2_hourByLaw_1 rfl rfl wfX2_41 ?_
  refine gk_getr dX2_hourByLaw_4 rfl rfl wfX2_67 ?_
  refine gk_iload_n dX2_hourByLaw_7 rfl ?_
  refine gk_iaload dX2_hourByLaw_8 rfl h.1 ?_
  replace h := h.2
  refine gk_nmi (fun v2_9 ev2_9 => ?_)
  replace h := h v2_9 ev2_9
  refine gk_istore_n dX2_hourByLaw_9 (Nat.le_of_ble_eq_true rfl) rfl rfl ?_
  refine gk_aload_n dX2_hourByLaw_10 rfl ?_
  refine gk_getr dX2_hourByLaw_11 rfl rfl wfX2_41 ?_
  refine gk_getr dX2_hourByLaw_14 rfl rfl wfX2_70 ?_
  refine gk_iload_n dX2_hourByLaw_17 rfl ?_
  refine gk_iaload dX2_hourByLaw_18 rfl h.1 ?_
  replace h := h.2
  refine gk_nmi (fun v3_19 ev3_19 => ?_)
  replace h := h v3_19 ev3_19
  refine gk_istore_n dX2_hourByLaw_19 (Nat.le_of_ble_eq_true rfl) rfl rfl ?_
  refine gk_iload_n dX2_hourByLaw_20 rfl ?_
  refine gk_aload_n dX2_hourByLaw_21 rfl ?_
  refine gk_getr dX2_hourByLaw_22 rfl rfl wfX2_37 ?_
  refine gk_getr dX2_hourByLaw_25 rfl rfl wfX2_73 ?_
  refine gk_geti dX2_hourByLaw_28 rfl rfl wfX2_79 ?_
  refine gk_icmp_ge (tgt := 58) dX2_hourByLaw_31 (by decide) (fun c31 => ?_) (fun c31 => ?_)
  · replace h := h.1 c31
    refine gk_iconst (v := (-1)) dX2_hourByLaw_58 rfl ?_
    exact gk_iret dX2_hourByLaw_59 rfl rfl rfl rfl ⟨rfl, _, rfl, h⟩
  · replace h := h.2 c31
    refine gk_iload_n dX2_hourByLaw_34 rfl ?_
    refine gk_aload_n dX2_hourByLaw_35 rfl ?_
    refine gk_getr dX2_hourByLaw_36 rfl rfl wfX2_37 ?_
    refine gk_getr dX2_hourByLaw_39 rfl rfl wfX2_82 ?_
    refine gk_geti dX2_hourByLaw_42 rfl rfl wfX2_79 ?_
    refine gk_icmp_ge (tgt := 58) dX2_hourByLaw_45 (by decide) (fun c45 => ?_) (fun c45 => ?_)
    · replace h := h.1 c45
      refine gk_iconst (v := (-1)) dX2_hourByLaw_58 rfl ?_
      exact gk_iret dX2_hourByLaw_59 rfl rfl rfl rfl ⟨rfl, _, rfl, h⟩
    · replace h := h.2 c45
      refine gk_aload_n dX2_hourByLaw_48 rfl ?_
      refine gk_getr dX2_hourByLaw_49 rfl rfl wfX2_15 ?_
      refine gk_iload_n dX2_hourByLaw_52 rfl ?_
      refine gk_iaload dX2_hourByLaw_53 rfl h.1 ?_
      replace h := h.2
      refine gk_iconst (v := (-1)) dX2_hourByLaw_54 rfl ?_
      refine gk_icmp_eq (tgt := 60) dX2_hourByLaw_55 (by decide) (fun c55 => ?_) (fun c55 => ?_)
      · replace h := h.1 c55
        refine gk_aload_n dX2_hourByLaw_60 rfl ?_
        refine gk_getr dX2_hourByLaw_61 rfl rfl wfX2_37 ?_
        refine gk_iload_n dX2_hourByLaw_64 rfl ?_
        refine gk_callV (as := [_]) (rest := []) (ctX3_weight h) dX2_hourByLaw_65 rfl rfl wvX2_85 wcX3_weight rfl (Nat.le_of_ble_eq_true rfl) ⟨Nat.le_refl _, Nat.le_refl _⟩ (fun h9 => absurd rfl h9) (Nat.le_of_ble_eq_true rfl) rfl (fun v G2 S65 hq => ?_)
        obtain ⟨rfl, r65, rfl, h⟩ := hq
        refine gk_aload_n dX2_hourByLaw_68 rfl ?_
        refine gk_getr dX2_hourByLaw_69 rfl rfl wfX2_37 ?_
        refine gk_iload_n dX2_hourByLaw_72 rfl ?_
        refine gk_callV (as := [_]) (rest := [_]) (ctX3_strength h) dX2_hourByLaw_73 rfl rfl wvX2_88 wcX3_strength rfl (Nat.le_of_ble_eq_true rfl) ⟨Nat.le_refl _, Nat.le_refl _⟩ (fun h9 => absurd rfl h9) (Nat.le_of_ble_eq_true rfl) rfl (fun v G2 S73 hq => ?_)
        obtain ⟨rfl, r73, rfl, h⟩ := hq
        refine gk_icmp_le (tgt := 81) dX2_hourByLaw_76 (by decide) (fun c76 => ?_) (fun c76 => ?_)
        · replace h := h.1 c76
          refine gk_aload_n dX2_hourByLaw_81 rfl ?_
          refine gk_getr dX2_hourByLaw_82 rfl rfl wfX2_18 ?_
          refine gk_iload_n dX2_hourByLaw_85 rfl ?_
          refine gk_iaload dX2_hourByLaw_86 rfl h.1 ?_
          replace h := h.2
          refine gk_aload_n dX2_hourByLaw_87 rfl ?_
          refine gk_getr dX2_hourByLaw_88 rfl rfl wfX2_37 ?_
          refine gk_iload_n dX2_hourByLaw_91 rfl ?_
          refine gk_callV (as := [_]) (rest := [_]) (ctX3_way h) dX2_hourByLaw_92 rfl rfl wvX2_91 wcX3_way rfl (Nat.le_of_ble_eq_true rfl) ⟨Nat.le_refl _, Nat.le_refl _⟩ (fun h9 => absurd rfl h9) (Nat.le_of_ble_eq_true rfl) rfl (fun v G2 S92 hq => ?_)
          obtain ⟨rfl, r92, rfl, h⟩ := hq
          refine gk_iadd dX2_hourByLaw_95 ?_
          refine gk_iconst (v := 1) dX2_hourByLaw_96 rfl ?_
          refine gk_iadd dX2_hourByLaw_97 ?_
          refine gk_nmi (fun v4_98 ev4_98 => ?_)
          replace h := h v4_98 ev4_98
          refine gk_istore dX2_hourByLaw_98 (Nat.le_of_ble_eq_true rfl) rfl rfl ?_
          refine gk_iload dX2_hourByLaw_100 rfl ?_
          refine gk_aload_n dX2_hourByLaw_102 rfl ?_
          refine gk_getr dX2_hourByLaw_103 rfl rfl wfX2_37 ?_
          refine gk_geti dX2_hourByLaw_106 rfl rfl wfX2_94 ?_
          refine gk_icmp_gt (tgt := 117) dX2_hourByLaw_109 (by decide) (fun c109 => ?_) (fun c109 => ?_)
          · replace h := h.1 c109
            refine gk_iconst (v := (-1)) dX2_hourByLaw_117 rfl ?_
            exact gk_iret dX2_hourByLaw_118 rfl rfl rfl rfl ⟨rfl, _, rfl, h⟩
          · replace h := h.2 c109
            refine gk_iload dX2_hourByLaw_112 rfl ?_
            refine gk_goto (tgt := 118) dX2_hourByLaw_114 (by decide) ?_
            exact gk_iret dX2_hourByLaw_118 rfl rfl rfl rfl ⟨rfl, _, rfl, h⟩
        · replace h := h.2 c76
          refine gk_iconst (v := (-1)) dX2_hourByLaw_79 rfl ?_
          exact gk_iret dX2_hourByLaw_80 rfl rfl rfl rfl ⟨rfl, _, rfl, h⟩
      · replace h := h.2 c55
        refine gk_iconst (v := (-1)) dX2_hourByLaw_58 rfl ?_
        exact gk_iret dX2_hourByLaw_59 rfl rfl rfl rfl ⟨rfl, _, rfl, h⟩
set_option maxHeartbeats 4000000 in
set_option maxRecDepth 100000 in
theorem ctX2_hourByLaw_23 {E : gz_E} {x1 : Int32} {S : gz_S} {Q : Int32 → gz_S → Prop} (h : wX2_hourByLaw 23 x1 S Q) : gz_m E mX2_hourByLaw 2 0 0 [.ref 23, .int x1] gz_F S (gz_qi Q) := by
  refine gz_meet0 (L0 := [some (.ref 23), some (.int x1), none, none, none]) (by decide) rfl (Nat.le_of_ble_eq_true rfl) (by decide) ?_
  unfold wX2_hourByLaw at h
  refine gk_aload_n dX2_hourByLaw_0 rfl ?_
  refine gk_getr dX2_hourByLaw_1 rfl rfl wfX2_41 ?_
  refine gk_getr dX2_hourByLaw_4 rfl rfl wfX2_67 ?_
  refine gk_iload_n dX2_hourByLaw_7 rfl ?_
  refine gk_iaload dX2_hourByLaw_8 rfl h.1 ?_
  replace h := h.2
  refine gk_nmi (fun v2_9 ev2_9 => ?_)
  replace h := h v2_9 ev2_9
  refine gk_istore_n dX2_hourByLaw_9 (Nat.le_of_ble_eq_true rfl) rfl rfl ?_
  refine gk_aload_n dX2_hourByLaw_10 rfl ?_
  refine gk_getr dX2_hourByLaw_11 rfl rfl wfX2_41 ?_
  refine gk_getr dX2_hourByLaw_14 rfl rfl wfX2_70 ?_
  refine gk_iload_n dX2_hourByLaw_17 rfl ?_
  refine gk_iaload dX2_hourByLaw_18 rfl h.1 ?_
  replace h := h.2
  refine gk_nmi (fun v3_19 ev3_19 => ?_)
  replace h := h v3_19 ev3_19
  refine gk_istore_n dX2_hourByLaw_19 (Nat.le_of_ble_eq_true rfl) rfl rfl ?_
  refine gk_iload_n dX2_hourByLaw_20 rfl ?_
  refine gk_aload_n dX2_hourByLaw_21 rfl ?_
  refine gk_getr dX2_hourByLaw_22 rfl rfl wfX2_37 ?_
  refine gk_getr dX2_hourByLaw_25 rfl rfl wfX2_73 ?_
  refine gk_geti dX2_hourByLaw_28 rfl rfl wfX2_79 ?_
  refine gk_icmp_ge (tgt := 58) dX2_hourByLaw_31 (by decide) (fun c31 => ?_) (fun c31 => ?_)
  · replace h := h.1 c31
    refine gk_iconst (v := (-1)) dX2_hourByLaw_58 rfl ?_
    exact gk_iret dX2_hourByLaw_59 rfl rfl rfl rfl ⟨rfl, _, rfl, h⟩
  · replace h := h.2 c31
    refine gk_iload_n dX2_hourByLaw_34 rfl ?_
    refine gk_aload_n dX2_hourByLaw_35 rfl ?_
    refine gk_getr dX2_hourByLaw_36 rfl rfl wfX2_37 ?_
    refine gk_getr dX2_hourByLaw_39 rfl rfl wfX2_82 ?_
    refine gk_geti dX2_hourByLaw_42 rfl rfl wfX2_79 ?_
    refine gk_icmp_ge (tgt := 58) dX2_hourByLaw_45 (by decide) (fun c45 => ?_) (fun c45 => ?_)
    · replace h := h.1 c45
      refine gk_iconst (v := (-1)) dX2_hourByLaw_58 rfl ?_
      exact gk_iret dX2_hourByLaw_59 rfl rfl rfl rfl ⟨rfl, _, rfl, h⟩
    · replace h := h.2 c45
      refine gk_aload_n dX2_hourByLaw_48 rfl ?_
      refine gk_getr dX2_hourByLaw_49 rfl rfl wfX2_15 ?_
      refine gk_iload_n dX2_hourByLaw_52 rfl ?_
      refine gk_iaload dX2_hourByLaw_53 rfl h.1 ?_
      replace h := h.2
      refine gk_iconst (v := (-1)) dX2_hourByLaw_54 rfl ?_
      refine gk_icmp_eq (tgt := 60) dX2_hourByLaw_55 (by decide) (fun c55 => ?_) (fun c55 => ?_)
      · replace h := h.1 c55
        refine gk_aload_n dX2_hourByLaw_60 rfl ?_
        refine gk_getr dX2_hourByLaw_61 rfl rfl wfX2_37 ?_
        refine gk_iload_n dX2_hourByLaw_64 rfl ?_
        refine gk_callV (as := [_]) (rest := []) (ctX3_weight h) dX2_hourByLaw_65 rfl rfl wvX2_85 wcX3_weight rfl (Nat.le_of_ble_eq_true rfl) ⟨Nat.le_refl _, Nat.le_refl _⟩ (fun h9 => absurd rfl h9) (Nat.le_of_ble_eq_true rfl) rfl (fun v G2 S65 hq => ?_)
        obtain ⟨rfl, r65, rfl, h⟩ := hq
        refine gk_aload_n dX2_hourByLaw_68 rfl ?_
        refine gk_getr dX2_hourByLaw_69 rfl rfl wfX2_37 ?_
        refine gk_iload_n dX2_hourByLaw_72 rfl ?_
        refine gk_callV (as := [_]) (rest := [_]) (ctX3_strength h) dX2_hourByLaw_73 rfl rfl wvX2_88 wcX3_strength rfl (Nat.le_of_ble_eq_true rfl) ⟨Nat.le_refl _, Nat.le_refl _⟩ (fun h9 => absurd rfl h9) (Nat.le_of_ble_eq_true rfl) rfl (fun v G2 S73 hq => ?_)
        obtain ⟨rfl, r73, rfl, h⟩ := hq
        refine gk_icmp_le (tgt := 81) dX2_hourByLaw_76 (by decide) (fun c76 => ?_) (fun c76 => ?_)
        · replace h := h.1 c76
          refine gk_aload_n dX2_hourByLaw_81 rfl ?_
          refine gk_getr dX2_hourByLaw_82 rfl rfl wfX2_18 ?_
          refine gk_iload_n dX2_hourByLaw_85 rfl ?_
          refine gk_iaload dX2_hourByLaw_86 rfl h.1 ?_
          replace h := h.2
          refine gk_aload_n dX2_hourByLaw_87 rfl ?_
          refine gk_getr dX2_hourByLaw_88 rfl rfl wfX2_37 ?_
          refine gk_iload_n dX2_hourByLaw_91 rfl ?_
          refine gk_callV (as := [_]) (rest := [_]) (ctX3_way h) dX2_hourByLaw_92 rfl rfl wvX2_91 wcX3_way rfl (Nat.le_of_ble_eq_true rfl) ⟨Nat.le_refl _, Nat.le_refl _⟩ (fun h9 => absurd rfl h9) (Nat.le_of_ble_eq_true rfl) rfl (fun v G2 S92 hq => ?_)
          obtain ⟨rfl, r92, rfl, h⟩ := hq
          refine gk_iadd dX2_hourByLaw_95 ?_
          refine gk_iconst (v := 1) dX2_hourByLaw_96 rfl ?_
          refine gk_iadd dX2_hourByLaw_97 ?_
          refine gk_nmi (fun v4_98 ev4_98 => ?_)
          replace h := h v4_98 ev4_98
          refine gk_istore dX2_hourByLaw_98 (Nat.le_of_ble_eq_true rfl) rfl rfl ?_
          refine gk_iload dX2_hourByLaw_100 rfl ?_
          refine gk_aload_n dX2_hourByLaw_102 rfl ?_
          refine gk_getr dX2_hourByLaw_103 rfl rfl wfX2_37 ?_
          refine gk_geti dX2_hourByLaw_106 rfl rfl wfX2_94 ?_
          refine gk_icmp_gt (tgt := 117) dX2_hourByLaw_109 (by decide) (fun c109 => ?_) (fun c109 => ?_)
          · replace h := h.1 c109
            refine gk_iconst (v := (-1)) dX2_hourByLaw_117 rfl ?_
            exact gk_iret dX2_hourByLaw_118 rfl rfl rfl rfl ⟨rfl, _, rfl, h⟩
          · replace h := h.2 c109
            refine gk_iload dX2_hourByLaw_112 rfl ?_
            refine gk_goto (tgt := 118) dX2_hourByLaw_114 (by decide) ?_
            exact gk_iret dX2_hourByLaw_118 rfl rfl rfl rfl ⟨rfl, _, rfl, h⟩
        · replace h := h.2 c76
          refine gk_iconst (v := (-1)) dX2_hourByLaw_79 rfl ?_
          exact gk_iret dX2_hourByLaw_80 rfl rfl rfl rfl ⟨rfl, _, rfl, h⟩
      · replace h := h.2 c55
        refine gk_iconst (v := (-1)) dX2_hourByLaw_58 rfl ?_
        exact gk_iret dX2_hourByLaw_59 rfl rfl rfl rfl ⟨rfl, _, rfl, h⟩
set_option maxHeartbeats 4000000 in
set_option maxRecDepth 100000 in
theorem oX2_take_94_16 {E : gz_E} {Q : gz_S → Prop} : ∀ (x1 : Int32) (x2 : Int32) (S : gz_S), wX2_take_94 Q 16 x1 x2 S → gz_k E mX2_take (1, 0, 0, 73) 0 0 94 [some (.ref 16), some (.int x1), some (.int x2)] [] gz_F S (gz_qv Q) := by
  intro x1 x2 S h
  unfold wX2_take_94 at h
  refine gk_aload_n dX2_take_94 rfl ?_
  refine gk_getr dX2_take_95 rfl rfl wfX2_21 ?_
  refine gk_iload_n dX2_take_98 rfl ?_
  refine gk_iload_n dX2_take_99 rfl ?_
  refine gk_iastore dX2_take_100 rfl h.1 ?_
  replace h := h.2
  refine gk_nmS (fun S100 eS100 => ?_)
  replace h := h S100 eS100
  refine gk_aload_n dX2_take_101 rfl ?_
  refine gk_dup dX2_take_102 rfl ?_
  refine gk_geti dX2_take_103 rfl rfl wfX2_24 ?_
  refine gk_iconst (v := 1) dX2_take_106 rfl ?_
  refine gk_iadd dX2_take_107 ?_
  refine gk_puti dX2_take_108 rfl rfl wfX2_24 wpX2_6 rfl rfl ?_
  refine gk_nmS (fun S108 eS108 => ?_)
  replace h := h S108 eS108
  exact gk_vret dX2_take_111 rfl rfl rfl ⟨rfl, rfl, h⟩
set_option maxHeartbeats 4000000 in
set_option maxRecDepth 100000 in
theorem oX2_take_48_16 {E : gz_E} {Q : gz_S → Prop} : ∀ (n : Nat) (x1 : Int32) (x2 : Int32) (S : gz_S), wX2_take_48 Q n 16 x1 x2 S → gz_k E mX2_take (1, 0, 0, 73) 0 0 48 [some (.ref 16), some (.int x1), some (.int x2)] [] gz_F S (gz_qv Q) := by
  intro n
  induction n with
  | zero =>
    intro x1 x2 S h
    exact h.elim
  | succ n ih =>
    intro x1 x2 S h
    unfold wX2_take_48 at h
    refine gk_iload_n dX2_take_48 rfl ?_
    refine gk_if_le (tgt := 94) dX2_take_49 (by decide) (fun c49 => ?_) (fun c49 => ?_)
    · replace h := h.1 c49
      exact gk_less (gz_le_s rfl (gz_le_s rfl (gz_le_s rfl gz_le_0))) (oX2_take_94_16 _ _ _ h)
    · replace h := h.2 c49
      refine gk_aload_n dX2_take_52 rfl ?_
      refine gk_getr dX2_take_53 rfl rfl wfX2_9 ?_
      refine gk_aload_n dX2_take_56 rfl ?_
      refine gk_getr dX2_take_57 rfl rfl wfX2_21 ?_
      refine gk_iload_n dX2_take_60 rfl ?_
      refine gk_iconst (v := 1) dX2_take_61 rfl ?_
      refine gk_isub dX2_take_62 ?_
      refine gk_iaload dX2_take_63 rfl h.1 ?_
      replace h := h.2
      refine gk_iaload dX2_take_64 rfl h.1 ?_
      replace h := h.2
      refine gk_aload_n dX2_take_65 rfl ?_
      refine gk_getr dX2_take_66 rfl rfl wfX2_9 ?_
      refine gk_iload_n dX2_take_69 rfl ?_
      refine gk_iaload dX2_take_70 rfl h.1 ?_
      replace h := h.2
      refine gk_icmp_le (tgt := 94) dX2_take_71 (by decide) (fun c71 => ?_) (fun c71 => ?_)
      · replace h := h.1 c71
        exact gk_less (gz_le_s rfl (gz_le_s rfl (gz_le_s rfl gz_le_0))) (oX2_take_94_16 _ _ _ h)
      · replace h := h.2 c71
        refine gk_aload_n dX2_take_74 rfl ?_
        refine gk_getr dX2_take_75 rfl rfl wfX2_21 ?_
        refine gk_iload_n dX2_take_78 rfl ?_
        refine gk_aload_n dX2_take_79 rfl ?_
        refine gk_getr dX2_take_80 rfl rfl wfX2_21 ?_
        refine gk_iload_n dX2_take_83 rfl ?_
        refine gk_iconst (v := 1) dX2_take_84 rfl ?_
        refine gk_isub dX2_take_85 ?_
        refine gk_iaload dX2_take_86 rfl h.1 ?_
        replace h := h.2
        refine gk_iastore dX2_take_87 rfl h.1 ?_
        replace h := h.2
        refine gk_nmS (fun S87 eS87 => ?_)
        replace h := h S87 eS87
        refine gk_iinc dX2_take_88 rfl (Nat.le_of_ble_eq_true rfl) rfl rfl rfl ?_
        refine gk_goto (tgt := 48) dX2_take_91 (by decide) ?_
        exact gk_less (gz_le_s rfl (gz_le_s rfl (gz_le_s rfl gz_le_0))) (ih _ _ _ h)
set_option maxHeartbeats 4000000 in
set_option maxRecDepth 100000 in
theorem ctX2_take_16 {E : gz_E} {x1 : Int32} {S : gz_S} {Q : gz_S → Prop} (h : wX2_take 16 x1 S Q) : gz_m E mX2_take 1 0 0 [.ref 16, .int x1] gz_F S (gz_qv Q) := by
  refine gz_meet0 (L0 := [some (.ref 16), some (.int x1), none]) (by decide) rfl (Nat.le_of_ble_eq_true rfl) (by decide) ?_
  unfold wX2_take at h
  refine gk_aload_n dX2_take_0 rfl ?_
  refine gk_getr dX2_take_1 rfl rfl wfX2_15 ?_
  refine gk_aload_n dX2_take_4 rfl ?_
  refine gk_getr dX2_take_5 rfl rfl wfX2_41 ?_
  refine gk_getr dX2_take_8 rfl rfl wfX2_70 ?_
  refine gk_iload_n dX2_take_11 rfl ?_
  refine gk_iaload dX2_take_12 rfl h.1 ?_
  replace h := h.2
  refine gk_aload_n dX2_take_13 rfl ?_
  refine gk_getr dX2_take_14 rfl rfl wfX2_41 ?_
  refine gk_getr dX2_take_17 rfl rfl wfX2_67 ?_
  refine gk_iload_n dX2_take_20 rfl ?_
  refine gk_iaload dX2_take_21 rfl h.1 ?_
  replace h := h.2
  refine gk_iastore dX2_take_22 rfl h.1 ?_
  replace h := h.2
  refine gk_nmS (fun S22 eS22 => ?_)
  replace h := h S22 eS22
  refine gk_aload_n dX2_take_23 rfl ?_
  refine gk_getr dX2_take_24 rfl rfl wfX2_18 ?_
  refine gk_aload_n dX2_take_27 rfl ?_
  refine gk_getr dX2_take_28 rfl rfl wfX2_41 ?_
  refine gk_getr dX2_take_31 rfl rfl wfX2_67 ?_
  refine gk_iload_n dX2_take_34 rfl ?_
  refine gk_iaload dX2_take_35 rfl h.1 ?_
  replace h := h.2
  refine gk_aload_n dX2_take_36 rfl ?_
  refine gk_getr dX2_take_37 rfl rfl wfX2_9 ?_
  refine gk_iload_n dX2_take_40 rfl ?_
  refine gk_iaload dX2_take_41 rfl h.1 ?_
  replace h := h.2
  refine gk_iastore dX2_take_42 rfl h.1 ?_
  replace h := h.2
  refine gk_nmS (fun S42 eS42 => ?_)
  replace h := h S42 eS42
  refine gk_aload_n dX2_take_43 rfl ?_
  refine gk_geti dX2_take_44 rfl rfl wfX2_24 ?_
  refine gk_nmi (fun v2_47 ev2_47 => ?_)
  replace h := h v2_47 ev2_47
  refine gk_istore_n dX2_take_47 (Nat.le_of_ble_eq_true rfl) rfl rfl ?_
  obtain ⟨m48, h⟩ := h
  exact gk_less (gz_le_s rfl (gz_le_s rfl (gz_le_s rfl gz_le_0))) (oX2_take_48_16 m48 _ _ _ h)
set_option maxHeartbeats 4000000 in
set_option maxRecDepth 100000 in
theorem oX2_take_94_23 {E : gz_E} {Q : gz_S → Prop} : ∀ (x1 : Int32) (x2 : Int32) (S : gz_S), wX2_take_94 Q 23 x1 x2 S → gz_k E mX2_take (1, 0, 0, 73) 0 0 94 [some (.ref 23), some (.int x1), some (.int x2)] [] gz_F S (gz_qv Q) := by
  intro x1 x2 S h
  unfold wX2_take_94 at h
  refine gk_aload_n dX2_take_94 rfl ?_
  refine gk_getr dX2_take_95 rfl rfl wfX2_21 ?_
  refine gk_iload_n dX2_take_98 rfl ?_
  refine gk_iload_n dX2_take_99 rfl ?_
  refine gk_iastore dX2_take_100 rfl h.1 ?_
  replace h := h.2
  refine gk_nmS (fun S100 eS100 => ?_)
  replace h := h S100 eS100
  refine gk_aload_n dX2_take_101 rfl ?_
  refine gk_dup dX2_take_102 rfl ?_
  refine gk_geti dX2_take_103 rfl rfl wfX2_24 ?_
  refine gk_iconst (v := 1) dX2_take_106 rfl ?_
  refine gk_iadd dX2_take_107 ?_
  refine gk_puti dX2_take_108 rfl rfl wfX2_24 wpX2_6 rfl rfl ?_
  refine gk_nmS (fun S108 eS108 => ?_)
  replace h := h S108 eS108
  exact gk_vret dX2_take_111 rfl rfl rfl ⟨rfl, rfl, h⟩
set_option maxHeartbeats 4000000 in
set_option maxRecDepth 100000 in
theorem oX2_take_48_23 {E : gz_E} {Q : gz_S → Prop} : ∀ (n : Nat) (x1 : Int32) (x2 : Int32) (S : gz_S), wX2_take_48 Q n 23 x1 x2 S → gz_k E mX2_take (1, 0, 0, 73) 0 0 48 [some (.ref 23), some (.int x1), some (.int x2)] [] gz_F S (gz_qv Q) := by
  intro n
  induction n with
  | zero =>
    intro x1 x2 S h
    exact h.elim
  | succ n ih =>
    intro x1 x2 S h
    unfold wX2_take_48 at h
    refine gk_iload_n dX2_take_48 rfl ?_
    refine gk_if_le (tgt := 94) dX2_take_49 (by decide) (fun c49 => ?_) (fun c49 => ?_)
    · replace h := h.1 c49
      exact gk_less (gz_le_s rfl (gz_le_s rfl (gz_le_s rfl gz_le_0))) (oX2_take_94_23 _ _ _ h)
    · replace h := h.2 c49
      refine gk_aload_n dX2_take_52 rfl ?_
      refine gk_getr dX2_take_53 rfl rfl wfX2_9 ?_
      refine gk_aload_n dX2_take_56 rfl ?_
      refine gk_getr dX2_take_57 rfl rfl wfX2_21 ?_
      refine gk_iload_n dX2_take_60 rfl ?_
      refine gk_iconst (v := 1) dX2_take_61 rfl ?_
      refine gk_isub dX2_take_62 ?_
      refine gk_iaload dX2_take_63 rfl h.1 ?_
      replace h := h.2
      refine gk_iaload dX2_take_64 rfl h.1 ?_
      replace h := h.2
      refine gk_aload_n dX2_take_65 rfl ?_
      refine gk_getr dX2_take_66 rfl rfl wfX2_9 ?_
      refine gk_iload_n dX2_take_69 rfl ?_
      refine gk_iaload dX2_take_70 rfl h.1 ?_
      replace h := h.2
      refine gk_icmp_le (tgt := 94) dX2_take_71 (by decide) (fun c71 => ?_) (fun c71 => ?_)
      · replace h := h.1 c71
        exact gk_less (gz_le_s rfl (gz_le_s rfl (gz_le_s rfl gz_le_0))) (oX2_take_94_23 _ _ _ h)
      · replace h := h.2 c71
        refine gk_aload_n dX2_take_74 rfl ?_
        refine gk_getr dX2_take_75 rfl rfl wfX2_21 ?_
        refine gk_iload_n dX2_take_78 rfl ?_
        refine gk_aload_n dX2_take_79 rfl ?_
        refine gk_getr dX2_take_80 rfl rfl wfX2_21 ?_
        refine gk_iload_n dX2_take_83 rfl ?_
        refine gk_iconst (v := 1) dX2_take_84 rfl ?_
        refine gk_isub dX2_take_85 ?_
        refine gk_iaload dX2_take_86 rfl h.1 ?_
        replace h := h.2
        refine gk_iastore dX2_take_87 rfl h.1 ?_
        replace h := h.2
        refine gk_nmS (fun S87 eS87 => ?_)
        replace h := h S87 eS87
        refine gk_iinc dX2_take_88 rfl (Nat.le_of_ble_eq_true rfl) rfl rfl rfl ?_
        refine gk_goto (tgt := 48) dX2_take_91 (by decide) ?_
        exact gk_less (gz_le_s rfl (gz_le_s rfl (gz_le_s rfl gz_le_0))) (ih _ _ _ h)
set_option maxHeartbeats 4000000 in
set_option maxRecDepth 100000 in
theorem ctX2_take_23 {E : gz_E} {x1 : Int32} {S : gz_S} {Q : gz_S → Prop} (h : wX2_take 23 x1 S Q) : gz_m E mX2_take 1 0 0 [.ref 23, .int x1] gz_F S (gz_qv Q) := by
  refine gz_meet0 (L0 := [some (.ref 23), some (.int x1), none]) (by decide) rfl (Nat.le_of_ble_eq_true rfl) (by decide) ?_
  unfold wX2_take at h
  refine gk_aload_n dX2_take_0 rfl ?_
  refine gk_getr dX2_take_1 rfl rfl wfX2_15 ?_
  refine gk_aload_n dX2_take_4 rfl ?_
  refine gk_getr dX2_take_5 rfl rfl wfX2_41 ?_
  refine gk_getr dX2_take_8 rfl rfl wfX2_70 ?_
  refine gk_iload_n dX2_take_11 rfl ?_
  refine gk_iaload dX2_take_12 rfl h.1 ?_
  replace h := h.2
  refine gk_aload_n dX2_take_13 rfl ?_
  refine gk_getr dX2_take_14 rfl rfl wfX2_41 ?_
  refine gk_getr dX2_take_17 rfl rfl wfX2_67 ?_
  refine gk_iload_n dX2_take_20 rfl ?_
  refine gk_iaload dX2_take_21 rfl h.1 ?_
  replace h := h.2
  refine gk_iastore dX2_take_22 rfl h.1 ?_
  replace h := h.2
  refine gk_nmS (fun S22 eS22 => ?_)
  replace h := h S22 eS22
  refine gk_aload_n dX2_take_23 rfl ?_
  refine gk_getr dX2_take_24 rfl rfl wfX2_18 ?_
  refine gk_aload_n dX2_take_27 rfl ?_
  refine gk_getr dX2_take_28 rfl rfl wfX2_41 ?_
  refine gk_getr dX2_take_31 rfl rfl wfX2_67 ?_
  refine gk_iload_n dX2_take_34 rfl ?_
  refine gk_iaload dX2_take_35 rfl h.1 ?_
  replace h := h.2
  refine gk_aload_n dX2_take_36 rfl ?_
  refine gk_getr dX2_take_37 rfl rfl wfX2_9 ?_
  refine gk_iload_n dX2_take_40 rfl ?_
  refine gk_iaload dX2_take_41 rfl h.1 ?_
  replace h := h.2
  refine gk_iastore dX2_take_42 rfl h.1 ?_
  replace h := h.2
  refine gk_nmS (fun S42 eS42 => ?_)
  replace h := h S42 eS42
  refine gk_aload_n dX2_take_43 rfl ?_
  refine gk_geti dX2_take_44 rfl rfl wfX2_24 ?_
  refine gk_nmi (fun v2_47 ev2_47 => ?_)
  replace h := h v2_47 ev2_47
  refine gk_istore_n dX2_take_47 (Nat.le_of_ble_eq_true rfl) rfl rfl ?_
  obtain ⟨m48, h⟩ := h
  exact gk_less (gz_le_s rfl (gz_le_s rfl (gz_le_s rfl gz_le_0))) (oX2_take_48_23 m48 _ _ _ h)
set_option maxHeartbeats 4000000 in
set_option maxRecDepth 100000 in
theorem oX2_judgeWithout_69_16 {E : gz_E} {k23 : Int32 → Int32 → gz_S → Prop} {Q : gz_S → Prop} (hk23 : ∀ (x1 : Int32) (x2 : Int32) (S : gz_S), k23 x1 x2 S → gz_k E mX2_judgeWithout (3, 0, 0, 73) 0 0 23 [some (.ref 16), some (.int x1), some (.int x2)] [] gz_F S (gz_qv Q)) : ∀ (x1 : Int32) (x2 : Int32) (S : gz_S), wX2_judgeWithout_69 k23 Q 16 x1 x2 S → gz_k E mX2_judgeWithout (3, 0, 0, 73) 0 0 69 [some (.ref 16), some (.int x1), some (.int x2)] [] gz_F S (gz_qv Q) := by
  intro x1 x2 S h
  unfold wX2_judgeWithout_69 at h
  refine gk_iinc dX2_judgeWithout_69 rfl (Nat.le_of_ble_eq_true rfl) rfl rfl rfl ?_
  refine gk_goto (tgt := 23) dX2_judgeWithout_72 (by decide) ?_
  exact gk_less (gz_le_s rfl (gz_le_s rfl (gz_le_s rfl gz_le_0))) (hk23 _ _ _ h)
set_option maxHeartbeats 4000000 in
set_option maxRecDepth 100000 in
theorem oX2_judgeWithout_53_16_17 {E : gz_E} {k23 : Int32 → Int32 → gz_S → Prop} {Q : gz_S → Prop} (hk23 : ∀ (x1 : Int32) (x2 : Int32) (S : gz_S), k23 x1 x2 S → gz_k E mX2_judgeWithout (3, 0, 0, 73) 0 0 23 [some (.ref 16), some (.int x1), some (.int x2)] [] gz_F S (gz_qv Q)) : ∀ (x1 : Int32) (x2 : Int32) (t1 : Int32) (t2 : Int32) (S : gz_S), wX2_judgeWithout_53 k23 Q 16 17 x1 x2 t1 t2 S → gz_k E mX2_judgeWithout (3, 0, 0, 73) 0 0 53 [some (.ref 16), some (.int x1), some (.int x2)] [.int t2, .int t1, .ref 17] gz_F S (gz_qv Q) := by
  intro x1 x2 t1 t2 S h
  unfold wX2_judgeWithout_53 at h
  refine gk_iastore dX2_judgeWithout_53 rfl h.1 ?_
  replace h := h.2
  refine gk_nmS (fun S53 eS53 => ?_)
  replace h := h S53 eS53
  refine gk_aload_n dX2_judgeWithout_54 rfl ?_
  refine gk_getr dX2_judgeWithout_55 rfl rfl wfX2_9 ?_
  refine gk_iload_n dX2_judgeWithout_58 rfl ?_
  refine gk_iaload dX2_judgeWithout_59 rfl h.1 ?_
  replace h := h.2
  refine gk_iconst (v := (-1)) dX2_judgeWithout_60 rfl ?_
  refine gk_icmp_eq (tgt := 69) dX2_judgeWithout_61 (by decide) (fun c61 => ?_) (fun c61 => ?_)
  · replace h := h.1 c61
    exact gk_less (gz_le_s rfl (gz_le_s rfl (gz_le_s rfl gz_le_0))) (oX2_judgeWithout_69_16 hk23 _ _ _ h)
  · replace h := h.2 c61
    refine gk_aload_n dX2_judgeWithout_64 rfl ?_
    refine gk_iload_n dX2_judgeWithout_65 rfl ?_
    refine gk_callV (as := [_]) (rest := []) (ctX2_take_16 h) dX2_judgeWithout_66 rfl rfl wvX2_64 wcX2_take rfl (Nat.le_of_ble_eq_true rfl) ⟨Nat.le_refl _, Nat.le_refl _⟩ (fun h9 => absurd rfl h9) (Nat.le_of_ble_eq_true rfl) rfl (fun v G2 S66 hq => ?_)
    obtain ⟨rfl, rfl, h⟩ := hq
    exact gk_less (gz_le_s rfl (gz_le_s rfl (gz_le_s rfl gz_le_0))) (oX2_judgeWithout_69_16 hk23 _ _ _ h)
set_option maxHeartbeats 4000000 in
set_option maxRecDepth 100000 in
theorem oX2_judgeWithout_23_16 {E : gz_E} {Q : gz_S → Prop} : ∀ (n : Nat) (x1 : Int32) (x2 : Int32) (S : gz_S), wX2_judgeWithout_23 Q n 16 x1 x2 S → gz_k E mX2_judgeWithout (3, 0, 0, 73) 0 0 23 [some (.ref 16), some (.int x1), some (.int x2)] [] gz_F S (gz_qv Q) := by
  intro n
  induction n with
  | zero =>
    intro x1 x2 S h
    exact h.elim
  | succ n ih =>
    intro x1 x2 S h
    unfold wX2_judgeWithout_23 at h
    refine gk_iload_n dX2_judgeWithout_23 rfl ?_
    refine gk_aload_n dX2_judgeWithout_24 rfl ?_
    refine gk_getr dX2_judgeWithout_25 rfl rfl wfX2_41 ?_
    refine gk_geti dX2_judgeWithout_28 rfl rfl wfX2_55 ?_
    refine gk_icmp_ge (tgt := 75) dX2_judgeWithout_31 (by decide) (fun c31 => ?_) (fun c31 => ?_)
    · replace h := h.1 c31
      exact gk_vret dX2_judgeWithout_75 rfl rfl rfl ⟨rfl, rfl, h⟩
    · replace h := h.2 c31
      refine gk_aload_n dX2_judgeWithout_34 rfl ?_
      refine gk_getr dX2_judgeWithout_35 rfl rfl wfX2_9 ?_
      refine gk_iload_n dX2_judgeWithout_38 rfl ?_
      refine gk_iload_n dX2_judgeWithout_39 rfl ?_
      refine gk_iload_n dX2_judgeWithout_40 rfl ?_
      refine gk_icmp_ne (tgt := 48) dX2_judgeWithout_41 (by decide) (fun c41 => ?_) (fun c41 => ?_)
      · replace h := h.1 c41
        refine gk_aload_n dX2_judgeWithout_48 rfl ?_
        refine gk_iload_n dX2_judgeWithout_49 rfl ?_
        refine gk_callV (as := [_]) (rest := [_, _]) (ctX2_hourByLaw_16 h) dX2_judgeWithout_50 rfl rfl wvX2_60 wcX2_hourByLaw rfl (Nat.le_of_ble_eq_true rfl) ⟨Nat.le_refl _, Nat.le_refl _⟩ (fun h9 => absurd rfl h9) (Nat.le_of_ble_eq_true rfl) rfl (fun v G2 S50 hq => ?_)
        obtain ⟨rfl, r50, rfl, h⟩ := hq
        exact gk_less (gz_le_s rfl (gz_le_s rfl (gz_le_s rfl gz_le_0))) (oX2_judgeWithout_53_16_17 (fun y0 y1 S h => ih y0 y1 S h) _ _ _ _ _ h)
      · replace h := h.2 c41
        refine gk_iconst (v := (-1)) dX2_judgeWithout_44 rfl ?_
        refine gk_goto (tgt := 53) dX2_judgeWithout_45 (by decide) ?_
        exact gk_less (gz_le_s rfl (gz_le_s rfl (gz_le_s rfl gz_le_0))) (oX2_judgeWithout_53_16_17 (fun y0 y1 S h => ih y0 y1 S h) _ _ _ _ _ h)
