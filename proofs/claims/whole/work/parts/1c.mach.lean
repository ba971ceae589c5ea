set_option maxHeartbeats 4000000 in
set_option maxRecDepth 100000 in
theorem ctX8_isHour {E : gz_E} {x0 : Int32} {S : gz_S} {Q : Int32 → gz_S → Prop} (h : wX8_isHour x0 S Q) : gz_m E mX8_isHour 2 0 0 [.int x0] gz_F S (gz_qi Q) := by
  refine gz_meet0 (L0 := [some (.int x0)]) (by decide) rfl (Nat.le_of_ble_eq_true rfl) (by decide) ?_
  unfold wX8_isHour at h
  refine gk_iload_n dX8_isHour_0 rfl ?_
  refine gk_i2l dX8_isHour_1 ?_
  refine gk_lconst (v := 0) dX8_isHour_2 rfl ?_
  refine gk_ldc2 dX8_isHour_3 wkX8_150 ?_
  refine gk_callS (as := [_, _, _]) (rest := []) (ctX8_in h) dX8_isHour_6 wvX8_92 wcX8_in rfl (Nat.le_of_ble_eq_true rfl) ⟨Nat.le_refl _, Nat.le_refl _⟩ (fun h9 => absurd rfl h9) (Nat.le_of_ble_eq_true rfl) rfl (fun v G2 S6 hq => ?_)
  obtain ⟨rfl, r6, rfl, h⟩ := hq
  exact gk_iret dX8_isHour_9 rfl rfl rfl (gz_b01_nz h.1) ⟨rfl, _, rfl, h.2⟩
set_option maxHeartbeats 4000000 in
set_option maxRecDepth 100000 in
theorem ctX8_tide {E : gz_E} {x1 : Int32} {x2 : Int32} {S : gz_S} {Q : Int32 → gz_S → Prop} (h : wX8_tide x1 x2 S Q) : gz_m E mX8_tide 3 0 0 [.ref 45, .int x1, .int x2] gz_F S (gz_qi Q) := by
  refine gz_meet0 (L0 := [some (.ref 45), some (.int x1), some (.int x2), none]) (by decide) rfl (Nat.le_of_ble_eq_true rfl) (by decide) ?_
  unfold wX8_tide at h
  refine gk_iload_n dX8_tide_0 rfl ?_
  refine gk_callS (as := [_]) (rest := []) (ctX8_isHour h) dX8_tide_1 wvX8_154 wcX8_isHour rfl (Nat.le_of_ble_eq_true rfl) ⟨Nat.le_refl _, Nat.le_refl _⟩ (fun h9 => absurd rfl h9) (Nat.le_of_ble_eq_true rfl) rfl (fun v G2 S1 hq => ?_)
  obtain ⟨rfl, r1, rfl, h⟩ := hq
  refine gk_if_eq (tgt := 21) dX8_tide_4 (by decide) (fun c4 => ?_) (fun c4 => ?_)
  · replace h := h.1 c4
    refine gk_sipush (v := (-10002)) dX8_tide_21 rfl ?_
    exact gk_iret dX8_tide_24 rfl rfl rfl rfl ⟨rfl, _, rfl, h⟩
  · replace h := h.2 c4
    refine gk_iload_n dX8_tide_7 rfl ?_
    refine gk_i2l dX8_tide_8 ?_
    refine gk_ldc2 dX8_tide_9 wkX8_157 ?_
    refine gk_ldc2 dX8_tide_12 wkX8_159 ?_
    refine gk_callS (as := [_, _, _]) (rest := []) (ctX8_in h) dX8_tide_15 wvX8_92 wcX8_in rfl (Nat.le_of_ble_eq_true rfl) ⟨Nat.le_refl _, Nat.le_refl _⟩ (fun h9 => absurd rfl h9) (Nat.le_of_ble_eq_true rfl) rfl (fun v G2 S15 hq => ?_)
    obtain ⟨rfl, r15, rfl, h⟩ := hq
    refine gk_if_ne (tgt := 25) dX8_tide_18 (by decide) (fun c18 => ?_) (fun c18 => ?_)
    · replace h := h.1 c18
      refine gk_aload_n dX8_tide_25 rfl ?_
      refine gk_getr dX8_tide_26 rfl rfl wfX8_43 ?_
      refine gk_iload_n dX8_tide_29 rfl ?_
      refine gk_iaload dX8_tide_30 rfl h.1 ?_
      replace h := h.2
      refine gk_nmi (fun v3_31 ev3_31 => ?_)
      replace h := h v3_31 ev3_31
      refine gk_istore_n dX8_tide_31 (Nat.le_of_ble_eq_true rfl) rfl rfl ?_
      refine gk_aload_n dX8_tide_32 rfl ?_
      refine gk_getr dX8_tide_33 rfl rfl wfX8_43 ?_
      refine gk_iload_n dX8_tide_36 rfl ?_
      refine gk_iload_n dX8_tide_37 rfl ?_
      refine gk_iastore dX8_tide_38 rfl h.1 ?_
      replace h := h.2
      refine gk_nmS (fun S38 eS38 => ?_)
      replace h := h S38 eS38
      refine gk_iload_n dX8_tide_39 rfl ?_
      exact gk_iret dX8_tide_40 rfl rfl rfl rfl ⟨rfl, _, rfl, h⟩
    · replace h := h.2 c18
      refine gk_sipush (v := (-10002)) dX8_tide_21 rfl ?_
      exact gk_iret dX8_tide_24 rfl rfl rfl rfl ⟨rfl, _, rfl, h⟩
set_option maxHeartbeats 4000000 in
set_option maxRecDepth 100000 in
theorem ctX1_canBeTold {E : gz_E} {x0 : Int32} {x1 : Int32} {x2 : Int32} {S : gz_S} {Q : Int32 → gz_S → Prop} (h : wX1_canBeTold x0 x1 x2 S Q) : gz_m E mX1_canBeTold 2 0 0 [.int x0, .int x1, .int x2] gz_F S (gz_qi Q) := by
  refine gz_meet0 (L0 := [some (.int x0), some (.int x1), some (.int x2)]) (by decide) rfl (Nat.le_of_ble_eq_true rfl) (by decide) ?_
  unfold wX1_canBeTold at h
  refine gk_iload_n dX1_canBeTold_0 rfl ?_
  refine gk_iconst (v := 0) dX1_canBeTold_1 rfl ?_
  refine gk_bipush (v := 7) dX1_canBeTold_2 rfl ?_
  refine gk_callSN (as := [_, _, _]) (rest := []) (ctX7_within h) dX1_canBeTold_4 wvX1_25 wcX7_within rfl (Nat.le_of_ble_eq_true rfl) ⟨Nat.le_refl _, Nat.le_refl _⟩ (fun h9 => absurd rfl h9) (Nat.le_of_ble_eq_true rfl) rfl (fun v G2 S4 hq => ?_)
  obtain ⟨rfl, r4, rfl, h⟩ := hq
  refine gk_if_eq (tgt := 33) dX1_canBeTold_7 (by decide) (fun c7 => ?_) (fun c7 => ?_)
  · replace h := h.1 c7
    refine gk_iconst (v := 0) dX1_canBeTold_33 rfl ?_
    exact gk_iret dX1_canBeTold_34 rfl rfl rfl rfl ⟨rfl, _, rfl, h⟩
  · replace h := h.2 c7
    refine gk_iload_n dX1_canBeTold_10 rfl ?_
    refine gk_iconst (v := 0) dX1_canBeTold_11 rfl ?_
    refine gk_bipush (v := 8) dX1_canBeTold_12 rfl ?_
    refine gk_callSN (as := [_, _, _]) (rest := []) (ctX7_within h) dX1_canBeTold_14 wvX1_25 wcX7_within rfl (Nat.le_of_ble_eq_true rfl) ⟨Nat.le_refl _, Nat.le_refl _⟩ (fun h9 => absurd rfl h9) (Nat.le_of_ble_eq_true rfl) rfl (fun v G2 S14 hq => ?_)
    obtain ⟨rfl, r14, rfl, h⟩ := hq
    refine gk_if_eq (tgt := 33) dX1_canBeTold_17 (by decide) (fun c17 => ?_) (fun c17 => ?_)
    · replace h := h.1 c17
      refine gk_iconst (v := 0) dX1_canBeTold_33 rfl ?_
      exact gk_iret dX1_canBeTold_34 rfl rfl rfl rfl ⟨rfl, _, rfl, h⟩
    · replace h := h.2 c17
      refine gk_iload_n dX1_canBeTold_20 rfl ?_
      refine gk_iconst (v := 1) dX1_canBeTold_21 rfl ?_
      refine gk_iconst (v := 5) dX1_canBeTold_22 rfl ?_
      refine gk_callSN (as := [_, _, _]) (rest := []) (ctX7_within h) dX1_canBeTold_23 wvX1_25 wcX7_within rfl (Nat.le_of_ble_eq_true rfl) ⟨Nat.le_refl _, Nat.le_refl _⟩ (fun h9 => absurd rfl h9) (Nat.le_of_ble_eq_true rfl) rfl (fun v G2 S23 hq => ?_)
      obtain ⟨rfl, r23, rfl, h⟩ := hq
      refine gk_if_eq (tgt := 33) dX1_canBeTold_26 (by decide) (fun c26 => ?_) (fun c26 => ?_)
      · replace h := h.1 c26
        refine gk_iconst (v := 0) dX1_canBeTold_33 rfl ?_
        exact gk_iret dX1_canBeTold_34 rfl rfl rfl rfl ⟨rfl, _, rfl, h⟩
      · replace h := h.2 c26
        refine gk_iconst (v := 1) dX1_canBeTold_29 rfl ?_
        refine gk_goto (tgt := 34) dX1_canBeTold_30 (by decide) ?_
        exact gk_iret dX1_canBeTold_34 rfl rfl rfl rfl ⟨rfl, _, rfl, h⟩
set_option maxHeartbeats 4000000 in
set_option maxRecDepth 100000 in
theorem ctX1_isFull {E : gz_E} {S : gz_S} {Q : Int32 → gz_S → Prop} (h : wX1_isFull S Q) : gz_m E mX1_isFull 1 0 0 [.ref 12] gz_F S (gz_qi Q) := by
  refine gz_meet0 (L0 := [some (.ref 12)]) (by decide) rfl (Nat.le_of_ble_eq_true rfl) (by decide) ?_
  unfold wX1_isFull at h
  refine gk_aload_n dX1_isFull_0 rfl ?_
  refine gk_geti dX1_isFull_1 rfl rfl wfX1_21 ?_
  refine gk_bipush (v := 30) dX1_isFull_4 rfl ?_
  refine gk_icmp_lt (tgt := 13) dX1_isFull_6 (by decide) (fun c6 => ?_) (fun c6 => ?_)
  · replace h := h.1 c6
    refine gk_iconst (v := 0) dX1_isFull_13 rfl ?_
    exact gk_iret dX1_isFull_14 rfl rfl rfl rfl ⟨rfl, _, rfl, h⟩
  · replace h := h.2 c6
    refine gk_iconst (v := 1) dX1_isFull_9 rfl ?_
    refine gk_goto (tgt := 14) dX1_isFull_10 (by decide) ?_
    exact gk_iret dX1_isFull_14 rfl rfl rfl rfl ⟨rfl, _, rfl, h⟩
set_option maxHeartbeats 4000000 in
set_option maxRecDepth 100000 in
theorem ctX1_append {E : gz_E} {x1 : Int32} {x2 : Int32} {x3 : Int32} {S : gz_S} {Q : gz_S → Prop} (h : wX1_append x1 x2 x3 S Q) : gz_m E mX1_append 1 0 0 [.ref 12, .int x1, .int x2, .int x3] gz_F S (gz_qv Q) := by
  refine gz_meet0 (L0 := [some (.ref 12), some (.int x1), some (.int x2), some (.int x3)]) (by decide) rfl (Nat.le_of_ble_eq_true rfl) (by decide) ?_
  unfold wX1_append at h
  refine gk_aload_n dX1_append_0 rfl ?_
  refine gk_getr dX1_append_1 rfl rfl wfX1_9 ?_
  refine gk_aload_n dX1_append_4 rfl ?_
  refine gk_geti dX1_append_5 rfl rfl wfX1_21 ?_
  refine gk_iload_n dX1_append_8 rfl ?_
  refine gk_iastore dX1_append_9 rfl h.1 ?_
  replace h := h.2
  refine gk_nmS (fun S9 eS9 => ?_)
  replace h := h S9 eS9
  refine gk_aload_n dX1_append_10 rfl ?_
  refine gk_getr dX1_append_11 rfl rfl wfX1_15 ?_
  refine gk_aload_n dX1_append_14 rfl ?_
  refine gk_geti dX1_append_15 rfl rfl wfX1_21 ?_
  refine gk_iload_n dX1_append_18 rfl ?_
  refine gk_iastore dX1_append_19 rfl h.1 ?_
  replace h := h.2
  refine gk_nmS (fun S19 eS19 => ?_)
  replace h := h S19 eS19
  refine gk_aload_n dX1_append_20 rfl ?_
  refine gk_getr dX1_append_21 rfl rfl wfX1_18 ?_
  refine gk_aload_n dX1_append_24 rfl ?_
  refine gk_geti dX1_append_25 rfl rfl wfX1_21 ?_
  refine gk_iload_n dX1_append_28 rfl ?_
  refine gk_iastore dX1_append_29 rfl h.1 ?_
  replace h := h.2
  refine gk_nmS (fun S29 eS29 => ?_)
  replace h := h S29 eS29
  refine gk_aload_n dX1_append_30 rfl ?_
  refine gk_dup dX1_append_31 rfl ?_
  refine gk_geti dX1_append_32 rfl rfl wfX1_21 ?_
  refine gk_iconst (v := 1) dX1_append_35 rfl ?_
  refine gk_iadd dX1_append_36 ?_
  refine gk_puti dX1_append_37 rfl rfl wfX1_21 wpX1_3 rfl rfl ?_
  refine gk_nmS (fun S37 eS37 => ?_)
  replace h := h S37 eS37
  exact gk_vret dX1_append_40 rfl rfl rfl ⟨rfl, rfl, h⟩
set_option maxHeartbeats 4000000 in
set_option maxRecDepth 100000 in
theorem ctX7_carry {E : gz_E} {x1 : Int32} {x2 : Int32} {x3 : Int32} {S : gz_S} {Q : Int32 → gz_S → Prop} (h : wX7_carry x1 x2 x3 S Q) : gz_m E mX7_carry 5 0 0 [.ref 0, .int x1, .int x2, .int x3] gz_F S (gz_qi Q) := by
  refine gz_meet0 (L0 := [some (.ref 0), some (.int x1), some (.int x2), some (.int x3)]) (by decide) rfl (Nat.le_of_ble_eq_true rfl) (by decide) ?_
  unfold wX7_carry at h
  refine gk_iload_n dX7_carry_0 rfl ?_
  refine gk_iload_n dX7_carry_1 rfl ?_
  refine gk_iload_n dX7_carry_2 rfl ?_
  refine gk_callS (as := [_, _, _]) (rest := []) (ctX1_canBeTold h) dX7_carry_3 wvX7_131 wcX1_canBeTold rfl (Nat.le_of_ble_eq_true rfl) ⟨Nat.le_refl _, Nat.le_refl _⟩ (fun h9 => absurd rfl h9) (Nat.le_of_ble_eq_true rfl) rfl (fun v G2 S3 hq => ?_)
  obtain ⟨rfl, r3, rfl, h⟩ := hq
  refine gk_if_ne (tgt := 12) dX7_carry_6 (by decide) (fun c6 => ?_) (fun c6 => ?_)
  · replace h := h.1 c6
    refine gk_aload_n dX7_carry_12 rfl ?_
    refine gk_getr dX7_carry_13 rfl rfl wfX7_19 ?_
    refine gk_callV (as := []) (rest := []) (ctX1_isFull h) dX7_carry_16 rfl rfl wvX7_134 wcX1_isFull rfl (Nat.le_of_ble_eq_true rfl) ⟨Nat.le_refl _, Nat.le_refl _⟩ (fun h9 => absurd rfl h9) (Nat.le_of_ble_eq_true rfl) rfl (fun v G2 S16 hq => ?_)
    obtain ⟨rfl, r16, rfl, h⟩ := hq
    refine gk_if_eq (tgt := 25) dX7_carry_19 (by decide) (fun c19 => ?_) (fun c19 => ?_)
    · replace h := h.1 c19
      refine gk_aload_n dX7_carry_25 rfl ?_
      refine gk_getr dX7_carry_26 rfl rfl wfX7_19 ?_
      refine gk_iload_n dX7_carry_29 rfl ?_
      refine gk_iload_n dX7_carry_30 rfl ?_
      refine gk_iload_n dX7_carry_31 rfl ?_
      refine gk_callV (as := [_, _, _]) (rest := []) (ctX1_append h) dX7_carry_32 rfl rfl wvX7_135 wcX1_append rfl (Nat.le_of_ble_eq_true rfl) ⟨Nat.le_refl _, Nat.le_refl _⟩ (fun h9 => absurd rfl h9) (Nat.le_of_ble_eq_true rfl) rfl (fun v G2 S32 hq => ?_)
      obtain ⟨rfl, rfl, h⟩ := hq
      refine gk_aload_n dX7_carry_35 rfl ?_
      refine gk_getr dX7_carry_36 rfl rfl wfX7_28 ?_
      refine gk_callV (as := []) (rest := []) (ctX2_judgeAll_16 h) dX7_carry_39 rfl rfl wvX7_80 wcX2_judgeAll rfl (Nat.le_of_ble_eq_true rfl) ⟨Nat.le_refl _, Nat.le_refl _⟩ (fun h9 => absurd rfl h9) (Nat.le_of_ble_eq_true rfl) rfl (fun v G2 S39 hq => ?_)
      obtain ⟨rfl, rfl, h⟩ := hq
      refine gk_aload_n dX7_carry_42 rfl ?_
      refine gk_getr dX7_carry_43 rfl rfl wfX7_19 ?_
      refine gk_geti dX7_carry_46 rfl rfl wfX7_138 ?_
      exact gk_iret dX7_carry_49 rfl rfl rfl rfl ⟨rfl, _, rfl, h⟩
    · replace h := h.2 c19
      refine gk_bipush (v := (-4)) dX7_carry_22 rfl ?_
      exact gk_iret dX7_carry_24 rfl rfl rfl rfl ⟨rfl, _, rfl, h⟩
  · replace h := h.2 c6
    refine gk_bipush (v := (-2)) dX7_carry_9 rfl ?_
    exact gk_iret dX7_carry_11 rfl rfl rfl rfl ⟨rfl, _, rfl, h⟩
set_option maxHeartbeats 4000000 in
set_option maxRecDepth 100000 in
theorem ctX8_carry {E : gz_E} {x1 : Int32} {x2 : Int32} {x3 : Int32} {S : gz_S} {Q : Int32 → gz_S → Prop} (h : wX8_carry x1 x2 x3 S Q) : gz_m E mX8_carry 2 0 0 [.ref 45, .int x1, .int x2, .int x3] gz_F S (gz_qi Q) := by
  refine gz_meet0 (L0 := [some (.ref 45), some (.int x1), some (.int x2), some (.int x3)]) (by decide) rfl (Nat.le_of_ble_eq_true rfl) (by decide) ?_
  unfold wX8_carry at h
  refine gk_iload_n dX8_carry_0 rfl ?_
  refine gk_i2l dX8_carry_1 ?_
  refine gk_lconst (v := 0) dX8_carry_2 rfl ?_
  refine gk_ldc2 dX8_carry_3 wkX8_161 ?_
  refine gk_callS (as := [_, _, _]) (rest := []) (ctX8_in h) dX8_carry_6 wvX8_92 wcX8_in rfl (Nat.le_of_ble_eq_true rfl) ⟨Nat.le_refl _, Nat.le_refl _⟩ (fun h9 => absurd rfl h9) (Nat.le_of_ble_eq_true rfl) rfl (fun v G2 S6 hq => ?_)
  obtain ⟨rfl, r6, rfl, h⟩ := hq
  refine gk_if_eq (tgt := 36) dX8_carry_9 (by decide) (fun c9 => ?_) (fun c9 => ?_)
  · replace h := h.1 c9
    refine gk_bipush (v := (-2)) dX8_carry_36 rfl ?_
    exact gk_iret dX8_carry_38 rfl rfl rfl rfl ⟨rfl, _, rfl, h⟩
  · replace h := h.2 c9
    refine gk_iload_n dX8_carry_12 rfl ?_
    refine gk_i2l dX8_carry_13 ?_
    refine gk_lconst (v := 0) dX8_carry_14 rfl ?_
    refine gk_ldc2 dX8_carry_15 wkX8_163 ?_
    refine gk_callS (as := [_, _, _]) (rest := []) (ctX8_in h) dX8_carry_18 wvX8_92 wcX8_in rfl (Nat.le_of_ble_eq_true rfl) ⟨Nat.le_refl _, Nat.le_refl _⟩ (fun h9 => absurd rfl h9) (Nat.le_of_ble_eq_true rfl) rfl (fun v G2 S18 hq => ?_)
    obtain ⟨rfl, r18, rfl, h⟩ := hq
    refine gk_if_eq (tgt := 36) dX8_carry_21 (by decide) (fun c21 => ?_) (fun c21 => ?_)
    · replace h := h.1 c21
      refine gk_bipush (v := (-2)) dX8_carry_36 rfl ?_
      exact gk_iret dX8_carry_38 rfl rfl rfl rfl ⟨rfl, _, rfl, h⟩
    · replace h := h.2 c21
      refine gk_iload_n dX8_carry_24 rfl ?_
      refine gk_i2l dX8_carry_25 ?_
      refine gk_lconst (v := 1) dX8_carry_26 rfl ?_
      refine gk_ldc2 dX8_carry_27 wkX8_165 ?_
      refine gk_callS (as := [_, _, _]) (rest := []) (ctX8_in h) dX8_carry_30 wvX8_92 wcX8_in rfl (Nat.le_of_ble_eq_true rfl) ⟨Nat.le_refl _, Nat.le_refl _⟩ (fun h9 => absurd rfl h9) (Nat.le_of_ble_eq_true rfl) rfl (fun v G2 S30 hq => ?_)
      obtain ⟨rfl, r30, rfl, h⟩ := hq
      refine gk_if_ne (tgt := 39) dX8_carry_33 (by decide) (fun c33 => ?_) (fun c33 => ?_)
      · replace h := h.1 c33
        refine gk_aload_n dX8_carry_39 rfl ?_
        refine gk_geti dX8_carry_40 rfl rfl wfX8_167 ?_
        refine gk_bipush (v := 30) dX8_carry_43 rfl ?_
        refine gk_icmp_ne (tgt := 51) dX8_carry_45 (by decide) (fun c45 => ?_) (fun c45 => ?_)
        · replace h := h.1 c45
          refine gk_aload_n dX8_carry_51 rfl ?_
          refine gk_getr dX8_carry_52 rfl rfl wfX8_49 ?_
          refine gk_iconst (v := 3) dX8_carry_55 rfl ?_
          refine gk_aload_n dX8_carry_56 rfl ?_
          refine gk_geti dX8_carry_57 rfl rfl wfX8_167 ?_
          refine gk_imul dX8_carry_60 ?_
          refine gk_iload_n dX8_carry_61 rfl ?_
          refine gk_iastore dX8_carry_62 rfl h.1 ?_
          replace h := h.2
          refine gk_nmS (fun S62 eS62 => ?_)
          replace h := h S62 eS62
          refine gk_aload_n dX8_carry_63 rfl ?_
          refine gk_getr dX8_carry_64 rfl rfl wfX8_49 ?_
          refine gk_iconst (v := 3) dX8_carry_67 rfl ?_
          refine gk_aload_n dX8_carry_68 rfl ?_
          refine gk_geti dX8_carry_69 rfl rfl wfX8_167 ?_
          refine gk_imul dX8_carry_72 ?_
          refine gk_iconst (v := 1) dX8_carry_73 rfl ?_
          refine gk_iadd dX8_carry_74 ?_
          refine gk_iload_n dX8_carry_75 rfl ?_
          refine gk_iastore dX8_carry_76 rfl h.1 ?_
          replace h := h.2
          refine gk_nmS (fun S76 eS76 => ?_)
          replace h := h S76 eS76
          refine gk_aload_n dX8_carry_77 rfl ?_
          refine gk_getr dX8_carry_78 rfl rfl wfX8_49 ?_
          refine gk_iconst (v := 3) dX8_carry_81 rfl ?_
          refine gk_aload_n dX8_carry_82 rfl ?_
          refine gk_geti dX8_carry_83 rfl rfl wfX8_167 ?_
          refine gk_imul dX8_carry_86 ?_
          refine gk_iconst (v := 2) dX8_carry_87 rfl ?_
          refine gk_iadd dX8_carry_88 ?_
          refine gk_iload_n dX8_carry_89 rfl ?_
          refine gk_iastore dX8_carry_90 rfl h.1 ?_
          replace h := h.2
          refine gk_nmS (fun S90 eS90 => ?_)
          replace h := h S90 eS90
          refine gk_aload_n dX8_carry_91 rfl ?_
          refine gk_dup dX8_carry_92 rfl ?_
          refine gk_geti dX8_carry_93 rfl rfl wfX8_167 ?_
          refine gk_iconst (v := 1) dX8_carry_96 rfl ?_
          refine gk_iadd dX8_carry_97 ?_
          refine gk_puti dX8_carry_98 rfl rfl wfX8_167 wpX8_16 rfl rfl ?_
          refine gk_nmS (fun S98 eS98 => ?_)
          replace h := h S98 eS98
          refine gk_aload_n dX8_carry_101 rfl ?_
          refine gk_geti dX8_carry_102 rfl rfl wfX8_167 ?_
          exact gk_iret dX8_carry_105 rfl rfl rfl rfl ⟨rfl, _, rfl, h⟩
        · replace h := h.2 c45
          refine gk_bipush (v := (-4)) dX8_carry_48 rfl ?_
          exact gk_iret dX8_carry_50 rfl rfl rfl rfl ⟨rfl, _, rfl, h⟩
      · replace h := h.2 c33
        refine gk_bipush (v := (-2)) dX8_carry_36 rfl ?_
        exact gk_iret dX8_carry_38 rfl rfl rfl rfl ⟨rfl, _, rfl, h⟩
set_option maxHeartbeats 4000000 in
set_option maxRecDepth 100000 in
theorem ctX5_isLost_37 {E : gz_E} {S : gz_S} {Q : Int32 → gz_S → Prop} (h : wX5_isLost 37 S Q) : gz_m E mX5_isLost 1 0 0 [.ref 37] gz_F S (gz_qi Q) := by
  refine gz_meet0 (L0 := [some (.ref 37)]) (by decide) rfl (Nat.le_of_ble_eq_true rfl) (by decide) ?_
  unfold wX5_isLost at h
  refine gk_aload_n dX5_isLost_0 rfl ?_
  refine gk_geti dX5_isLost_1 rfl rfl wfX5_19 ?_
  refine gk_iconst (v := (-1)) dX5_isLost_4 rfl ?_
  refine gk_icmp_ne (tgt := 12) dX5_isLost_5 (by decide) (fun c5 => ?_) (fun c5 => ?_)
  · replace h := h.1 c5
    refine gk_iconst (v := 0) dX5_isLost_12 rfl ?_
    exact gk_iret dX5_isLost_13 rfl rfl rfl rfl ⟨rfl, _, rfl, h⟩
  · replace h := h.2 c5
    refine gk_iconst (v := 1) dX5_isLost_8 rfl ?_
    refine gk_goto (tgt := 13) dX5_isLost_9 (by decide) ?_
    exact gk_iret dX5_isLost_13 rfl rfl rfl rfl ⟨rfl, _, rfl, h⟩
set_option maxHeartbeats 4000000 in
set_option maxRecDepth 100000 in
theorem ctX5_isLost_39 {E : gz_E} {S : gz_S} {Q : Int32 → gz_S → Prop} (h : wX5_isLost 39 S Q) : gz_m E mX5_isLost 1 0 0 [.ref 39] gz_F S (gz_qi Q) := by
  refine gz_meet0 (L0 := [some (.ref 39)]) (by decide) rfl (Nat.le_of_ble_eq_true rfl) (by decide) ?_
  unfold wX5_isLost at h
  refine gk_aload_n dX5_isLost_0 rfl ?_
  refine gk_geti dX5_isLost_1 rfl rfl wfX5_19 ?_
  refine gk_iconst (v := (-1)) dX5_isLost_4 rfl ?_
  refine gk_icmp_ne (tgt := 12) dX5_isLost_5 (by decide) (fun c5 => ?_) (fun c5 => ?_)
  · replace h := h.1 c5
    refine gk_iconst (v := 0) dX5_isLost_12 rfl ?_
    exact gk_iret dX5_isLost_13 rfl rfl rfl rfl ⟨rfl, _, rfl, h⟩
  · replace h := h.2 c5
    refine gk_iconst (v := 1) dX5_isLost_8 rfl ?_
    refine gk_goto (tgt := 13) dX5_isLost_9 (by decide) ?_
    exact gk_iret dX5_isLost_13 rfl rfl rfl rfl ⟨rfl, _, rfl, h⟩
set_option maxHeartbeats 4000000 in
set_option maxRecDepth 100000 in
theorem ctX5_isLost_41 {E : gz_E} {S : gz_S} {Q : Int32 → gz_S → Prop} (h : wX5_isLost 41 S Q) : gz_m E mX5_isLost 1 0 0 [.ref 41] gz_F S (gz_qi Q) := by
  refine gz_meet0 (L0 := [some (.ref 41)]) (by decide) rfl (Nat.le_of_ble_eq_true rfl) (by decide) ?_
  unfold wX5_isLost at h
  refine gk_aload_n dX5_isLost_0 rfl ?_
  refine gk_geti dX5_isLost_1 rfl rfl wfX5_19 ?_
  refine gk_iconst (v := (-1)) dX5_isLost_4 rfl ?_
  refine gk_icmp_ne (tgt := 12) dX5_isLost_5 (by decide) (fun c5 => ?_) (fun c5 => ?_)
  · replace h := h.1 c5
    refine gk_iconst (v := 0) dX5_isLost_12 rfl ?_
    exact gk_iret dX5_isLost_13 rfl rfl rfl rfl ⟨rfl, _, rfl, h⟩
  · replace h := h.2 c5
    refine gk_iconst (v := 1) dX5_isLost_8 rfl ?_
    refine gk_goto (tgt := 13) dX5_isLost_9 (by decide) ?_
    exact gk_iret dX5_isLost_13 rfl rfl rfl rfl ⟨rfl, _, rfl, h⟩
set_option maxHeartbeats 4000000 in
set_option maxRecDepth 100000 in
theorem ctX5_isLost_43 {E : gz_E} {S : gz_S} {Q : Int32 → gz_S → Prop} (h : wX5_isLost 43 S Q) : gz_m E mX5_isLost 1 0 0 [.ref 43] gz_F S (gz_qi Q) := by
  refine gz_meet0 (L0 := [some (.ref 43)]) (by decide) rfl (Nat.le_of_ble_eq_true rfl) (by decide) ?_
  unfold wX5_isLost at h
  refine gk_aload_n dX5_isLost_0 rfl ?_
  refine gk_geti dX5_isLost_1 rfl rfl wfX5_19 ?_
  refine gk_iconst (v := (-1)) dX5_isLost_4 rfl ?_
  refine gk_icmp_ne (tgt := 12) dX5_isLost_5 (by decide) (fun c5 => ?_) (fun c5 => ?_)
  · replace h := h.1 c5
    refine gk_iconst (v := 0) dX5_isLost_12 rfl ?_
    exact gk_iret dX5_isLost_13 rfl rfl rfl rfl ⟨rfl, _, rfl, h⟩
  · replace h := h.2 c5
    refine gk_iconst (v := 1) dX5_isLost_8 rfl ?_
    refine gk_goto (tgt := 13) dX5_isLost_9 (by decide) ?_
    exact gk_iret dX5_isLost_13 rfl rfl rfl rfl ⟨rfl, _, rfl, h⟩
set_option maxHeartbeats 4000000 in
set_option maxRecDepth 100000 in
theorem ctX7_found {E : gz_E} {x1 : Int32} {S : gz_S} {Q : Int32 → gz_S → Prop} (h : wX7_found x1 S Q) : gz_m E mX7_found 1 0 0 [.ref 0, .int x1] gz_F S (gz_qi Q) := by
  refine gz_meet0 (L0 := [some (.ref 0), some (.int x1)]) (by decide) rfl (Nat.le_of_ble_eq_true rfl) (by decide) ?_
  unfold wX7_found at h
  refine gk_aload_n dX7_found_0 rfl ?_
  refine gk_iload_n dX7_found_1 rfl ?_
  refine gk_puti dX7_found_2 rfl rfl wfX7_57 wpX7_7 rfl rfl ?_
  refine gk_nmS (fun S2 eS2 => ?_)
  replace h := h S2 eS2
  refine gk_bipush (v := (-10)) dX7_found_5 rfl ?_
  refine gk_iload_n dX7_found_7 rfl ?_
  refine gk_isub dX7_found_8 ?_
  exact gk_iret dX7_found_9 rfl rfl rfl rfl ⟨rfl, _, rfl, h⟩
set_option maxHeartbeats 4000000 in
set_option maxRecDepth 100000 in
theorem ctX7_refusalOf {E : gz_E} {x1 : Int32} {S : gz_S} {Q : Int32 → gz_S → Prop} (h : wX7_refusalOf x1 S Q) : gz_m E mX7_refusalOf 2 0 0 [.ref 0, .int x1] gz_F S (gz_qi Q) := by
  refine gz_meet0 (L0 := [some (.ref 0), some (.int x1)]) (by decide) rfl (Nat.le_of_ble_eq_true rfl) (by decide) ?_
  unfold wX7_refusalOf at h
  refine gk_iload_n dX7_refusalOf_0 rfl ?_
  refine gk_iconst (v := 0) dX7_refusalOf_1 rfl ?_
  refine gk_iconst (v := 3) dX7_refusalOf_2 rfl ?_
  refine gk_callS (as := [_, _, _]) (rest := []) (ctX7_within h) dX7_refusalOf_3 wvX7_62 wcX7_within rfl (Nat.le_of_ble_eq_true rfl) ⟨Nat.le_refl _, Nat.le_refl _⟩ (fun h9 => absurd rfl h9) (Nat.le_of_ble_eq_true rfl) rfl (fun v G2 S3 hq => ?_)
  obtain ⟨rfl, r3, rfl, h⟩ := hq
  refine gk_if_ne (tgt := 12) dX7_refusalOf_6 (by decide) (fun c6 => ?_) (fun c6 => ?_)
  · replace h := h.1 c6
    refine gk_aload_n dX7_refusalOf_12 rfl ?_
    refine gk_getr dX7_refusalOf_13 rfl rfl wfX7_53 ?_
    refine gk_iload_n dX7_refusalOf_16 rfl ?_
    rcases gz_four h.1 with hj00 | hj01 | hj02 | hj03
    · refine gk_aaload (t := 0) dX7_refusalOf_17 rfl h.1 (by rw [hj00]; rfl) ?_
      replace h := h.2
      try rw [hj00] at h
      refine gk_callV (as := []) (rest := []) (ctX5_isLost_37 h) dX7_refusalOf_18 rfl rfl wvX7_233 wcX5_isLost rfl (Nat.le_of_ble_eq_true rfl) ⟨Nat.le_refl _, Nat.le_refl _⟩ (fun h9 => absurd rfl h9) (Nat.le_of_ble_eq_true rfl) rfl (fun v G2 S18 hq => ?_)
      obtain ⟨rfl, r18, rfl, h⟩ := hq
      refine gk_if_eq (tgt := 32) dX7_refusalOf_21 (by decide) (fun c21 => ?_) (fun c21 => ?_)
      · replace h := h.1 c21
        refine gk_iconst (v := 0) dX7_refusalOf_32 rfl ?_
        exact gk_iret dX7_refusalOf_33 rfl rfl rfl rfl ⟨rfl, _, rfl, h⟩
      · replace h := h.2 c21
        refine gk_aload_n dX7_refusalOf_24 rfl ?_
        refine gk_iconst (v := 1) dX7_refusalOf_25 rfl ?_
        refine gk_callV (as := [_]) (rest := []) (ctX7_found h) dX7_refusalOf_26 rfl rfl wvX7_218 wcX7_found rfl (Nat.le_of_ble_eq_true rfl) ⟨Nat.le_refl _, Nat.le_refl _⟩ (fun h9 => absurd rfl h9) (Nat.le_of_ble_eq_true rfl) rfl (fun v G2 S26 hq => ?_)
        obtain ⟨rfl, r26, rfl, h⟩ := hq
        refine gk_goto (tgt := 33) dX7_refusalOf_29 (by decide) ?_
        exact gk_iret dX7_refusalOf_33 rfl rfl rfl rfl ⟨rfl, _, rfl, h⟩
    · refine gk_aaload (t := 0) dX7_refusalOf_17 rfl h.1 (by rw [hj01]; rfl) ?_
      replace h := h.2
      try rw [hj01] at h
      refine gk_callV (as := []) (rest := []) (ctX5_isLost_39 h) dX7_refusalOf_18 rfl rfl wvX7_233 wcX5_isLost rfl (Nat.le_of_ble_eq_true rfl) ⟨Nat.le_refl _, Nat.le_refl _⟩ (fun h9 => absurd rfl h9) (Nat.le_of_ble_eq_true rfl) rfl (fun v G2 S18_1 hq => ?_)
      obtain ⟨rfl, r18_1, rfl, h⟩ := hq
      refine gk_if_eq (tgt := 32) dX7_refusalOf_21 (by decide) (fun c21 => ?_) (fun c21 => ?_)
      · replace h := h.1 c21
        refine gk_iconst (v := 0) dX7_refusalOf_32 rfl ?_
        exact gk_iret dX7_refusalOf_33 rfl rfl rfl rfl ⟨rfl, _, rfl, h⟩
      · replace h := h.2 c21
        refine gk_aload_n dX7_refusalOf_24 rfl ?_
        refine gk_iconst (v := 1) dX7_refusalOf_25 rfl ?_
        refine gk_callV (as := [_]) (rest := []) (ctX7_found h) dX7_refusalOf_26 rfl rfl wvX7_218 wcX7_found rfl (Nat.le_of_ble_eq_true rfl) ⟨Nat.le_refl _, Nat.le_refl _⟩ (fun h9 => absurd rfl h9) (Nat.le_of_ble_eq_true rfl) rfl (fun v G2 S26_1 hq => ?_)
        obtain ⟨rfl, r26_1, rfl, h⟩ := hq
        refine gk_goto (tgt := 33) dX7_refusalOf_29 (by decide) ?_
        exact gk_iret dX7_refusalOf_33 rfl rfl rfl rfl ⟨rfl, _, rfl, h⟩
    · refine gk_aaload (t := 0) dX7_refusalOf_17 rfl h.1 (by rw [hj02]; rfl) ?_
      replace h := h.2
      try rw [hj02] at h
      refine gk_callV (as := []) (rest := []) (ctX5_isLost_41 h) dX7_refusalOf_18 rfl rfl wvX7_233 wcX5_isLost rfl (Nat.le_of_ble_eq_true rfl) ⟨Nat.le_refl _, Nat.le_refl _⟩ (fun h9 => absurd rfl h9) (Nat.le_of_ble_eq_true rfl) rfl (fun v G2 S18_2 hq => ?_)
      obtain ⟨rfl, r18_2, rfl, h⟩ := hq
      refine gk_if_eq (tgt := 32) dX7_refusalOf_21 (by decide) (fun c21 => ?_) (fun c21 => ?_)
      · replace h := h.1 c21
        refine gk_iconst (v := 0) dX7_refusalOf_32 rfl ?_
        exact gk_iret dX7_refusalOf_33 rfl rfl rfl rfl ⟨rfl, _, rfl, h⟩
      · replace h := h.2 c21
        refine gk_aload_n dX7_refusalOf_24 rfl ?_
        refine gk_iconst (v := 1) dX7_refusalOf_25 rfl ?_
        refine gk_callV (as := [_]) (rest := []) (ctX7_found h) dX7_refusalOf_26 rfl rfl wvX7_218 wcX7_found rfl (Nat.le_of_ble_eq_true rfl) ⟨Nat.le_refl _, Nat.le_refl _⟩ (fun h9 => absurd rfl h9) (Nat.le_of_ble_eq_true rfl) rfl (fun v G2 S26_2 hq => ?_)
        obtain ⟨rfl, r26_2, rfl, h⟩ := hq
        refine gk_goto (tgt := 33) dX7_refusalOf_29 (by decide) ?_
        exact gk_iret dX7_refusalOf_33 rfl rfl rfl rfl ⟨rfl, _, rfl, h⟩
    · refine gk_aaload (t := 0) dX7_refusalOf_17 rfl h.1 (by rw [hj03]; rfl) ?_
      replace h := h.2
      try rw [hj03] at h
      refine gk_callV (as := []) (rest := []) (ctX5_isLost_43 h) dX7_refusalOf_18 rfl rfl wvX7_233 wcX5_isLost rfl (Nat.le_of_ble_eq_true rfl) ⟨Nat.le_refl _, Nat.le_refl _⟩ (fun h9 => absurd rfl h9) (Nat.le_of_ble_eq_true rfl) rfl (fun v G2 S18_3 hq => ?_)
      obtain ⟨rfl, r18_3, rfl, h⟩ := hq
      refine gk_if_eq (tgt := 32) dX7_refusalOf_21 (by decide) (fun c21 => ?_) (fun c21 => ?_)
      · replace h := h.1 c21
        refine gk_iconst (v := 0) dX7_refusalOf_32 rfl ?_
        exact gk_iret dX7_refusalOf_33 rfl rfl rfl rfl ⟨rfl, _, rfl, h⟩
      · replace h := h.2 c21
        refine gk_aload_n dX7_refusalOf_24 rfl ?_
        refine gk_iconst (v := 1) dX7_refusalOf_25 rfl ?_
        refine gk_callV (as := [_]) (rest := []) (ctX7_found h) dX7_refusalOf_26 rfl rfl wvX7_218 wcX7_found rfl (Nat.le_of_ble_eq_true rfl) ⟨Nat.le_refl _, Nat.le_refl _⟩ (fun h9 => absurd rfl h9) (Nat.le_of_ble_eq_true rfl) rfl (fun v G2 S26_3 hq => ?_)
        obtain ⟨rfl, r26_3, rfl, h⟩ := hq
        refine gk_goto (tgt := 33) dX7_refusalOf_29 (by decide) ?_
        exact gk_iret dX7_refusalOf_33 rfl rfl rfl rfl ⟨rfl, _, rfl, h⟩
  · replace h := h.2 c6
    refine gk_bipush (v := (-2)) dX7_refusalOf_9 rfl ?_
    exact gk_iret dX7_refusalOf_11 rfl rfl rfl rfl ⟨rfl, _, rfl, h⟩
set_option maxHeartbeats 4000000 in
set_option maxRecDepth 100000 in
theorem oX7_read_117 {E : gz_E} {Q : Int32 → gz_S → Prop} : ∀ (x4 : Int32) (S : gz_S), wX7_read_117 Q x4 S → gz_k E mX7_read (5, 0, 0, 73) 0 0 117 [some (.ref 0), none, none, none, some (.int x4), none, none, none, none] [] gz_F S (gz_qi Q) := by
  intro x4 S h
  unfold wX7_read_117 at h
  refine gk_aload_n dX7_read_117 rfl ?_
  refine gk_getr dX7_read_118 rfl rfl wfX7_28 ?_
  refine gk_callV (as := []) (rest := []) (ctX2_judgeAll_16 h) dX7_read_121 rfl rfl wvX7_80 wcX2_judgeAll rfl (Nat.le_of_ble_eq_true rfl) ⟨Nat.le_refl _, Nat.le_refl _⟩ (fun h9 => absurd rfl h9) (Nat.le_of_ble_eq_true rfl) rfl (fun v G2 S121 hq => ?_)
  obtain ⟨rfl, rfl, h⟩ := hq
  refine gk_aload_n dX7_read_124 rfl ?_
  refine gk_getr dX7_read_125 rfl rfl wfX7_19 ?_
  refine gk_geti dX7_read_128 rfl rfl wfX7_138 ?_
  refine gk_iload dX7_read_131 rfl ?_
  refine gk_isub dX7_read_133 ?_
  exact gk_iret dX7_read_134 rfl rfl rfl rfl ⟨rfl, _, rfl, h⟩
set_option maxHeartbeats 4000000 in
set_option maxRecDepth 100000 in
theorem oX7_read_31_37 {E : gz_E} {Q : Int32 → gz_S → Prop} : ∀ (n : Nat) (x4 : Int32) (x5 : Int32) (S : gz_S), wX7_read_31 Q n 37 x4 x5 S → gz_k E mX7_read (5, 0, 0, 73) 0 0 31 [some (.ref 0), none, none, some (.ref 37), some (.int x4), some (.int x5), none, none, none] [] gz_F S (gz_qi Q) := by
  intro n
  induction n with
  | zero =>
    intro x4 x5 S h
    exact h.elim
  | succ n ih =>
    intro x4 x5 S h
    unfold wX7_read_31 at h
    refine gk_iload dX7_read_31 rfl ?_
    refine gk_iconst (v := 2) dX7_read_33 rfl ?_
    refine gk_iadd dX7_read_34 ?_
    refine gk_aload_n dX7_read_35 rfl ?_
    refine gk_geti dX7_read_36 rfl rfl wfX7_142 ?_
    refine gk_icmp_ge (tgt := 117) dX7_read_39 (by decide) (fun c39 => ?_) (fun c39 => ?_)
    · replace h := h.1 c39
      exact gk_less (gz_le_s rfl (gz_le_n (gz_le_n (gz_le_n (gz_le_s rfl (gz_le_n (gz_le_n (gz_le_n (gz_le_n gz_le_0))))))))) (oX7_read_117 _ _ h)
    · replace h := h.2 c39
      refine gk_aload_n dX7_read_42 rfl ?_
      refine gk_getr dX7_read_43 rfl rfl wfX7_143 ?_
      refine gk_iload dX7_read_46 rfl ?_
      refine gk_iaload dX7_read_48 rfl h.1 ?_
      replace h := h.2
      refine gk_nmi (fun v6_49 ev6_49 => ?_)
      replace h := h v6_49 ev6_49
      refine gk_istore dX7_read_49 (Nat.le_of_ble_eq_true rfl) rfl rfl ?_
      refine gk_aload_n dX7_read_51 rfl ?_
      refine gk_getr dX7_read_52 rfl rfl wfX7_143 ?_
      refine gk_iload dX7_read_55 rfl ?_
      refine gk_iconst (v := 1) dX7_read_57 rfl ?_
      refine gk_iadd dX7_read_58 ?_
      refine gk_iaload dX7_read_59 rfl h.1 ?_
      replace h := h.2
      refine gk_nmi (fun v7_60 ev7_60 => ?_)
      replace h := h v7_60 ev7_60
      refine gk_istore dX7_read_60 (Nat.le_of_ble_eq_true rfl) rfl rfl ?_
      refine gk_aload_n dX7_read_62 rfl ?_
      refine gk_getr dX7_read_63 rfl rfl wfX7_143 ?_
      refine gk_iload dX7_read_66 rfl ?_
      refine gk_iconst (v := 2) dX7_read_68 rfl ?_
      refine gk_iadd dX7_read_69 ?_
      refine gk_iaload dX7_read_70 rfl h.1 ?_
      replace h := h.2
      refine gk_nmi (fun v8_71 ev8_71 => ?_)
      replace h := h v8_71 ev8_71
      refine gk_istore dX7_read_71 (Nat.le_of_ble_eq_true rfl) rfl rfl ?_
      refine gk_aload_n dX7_read_73 rfl ?_
      refine gk_getr dX7_read_74 rfl rfl wfX7_19 ?_
      refine gk_callV (as := []) (rest := []) (ctX1_isFull h) dX7_read_77 rfl rfl wvX7_134 wcX1_isFull rfl (Nat.le_of_ble_eq_true rfl) ⟨Nat.le_refl _, Nat.le_refl _⟩ (fun h9 => absurd rfl h9) (Nat.le_of_ble_eq_true rfl) rfl (fun v G2 S77 hq => ?_)
      obtain ⟨rfl, r77, rfl, h⟩ := hq
      refine gk_if_ne (tgt := 117) dX7_read_80 (by decide) (fun c80 => ?_) (fun c80 => ?_)
      · replace h := h.1 c80
        exact gk_less (gz_le_s rfl (gz_le_n (gz_le_n (gz_le_n (gz_le_s rfl (gz_le_n (gz_le_n (gz_le_n (gz_le_n gz_le_0))))))))) (oX7_read_117 _ _ h)
      · replace h := h.2 c80
        refine gk_iload dX7_read_83 rfl ?_
        refine gk_iload dX7_read_85 rfl ?_
        refine gk_iload dX7_read_87 rfl ?_
        refine gk_callS (as := [_, _, _]) (rest := []) (ctX1_canBeTold h) dX7_read_89 wvX7_131 wcX1_canBeTold rfl (Nat.le_of_ble_eq_true rfl) ⟨Nat.le_refl _, Nat.le_refl _⟩ (fun h9 => absurd rfl h9) (Nat.le_of_ble_eq_true rfl) rfl (fun v G2 S89 hq => ?_)
        obtain ⟨rfl, r89, rfl, h⟩ := hq
        refine gk_if_ne (tgt := 98) dX7_read_92 (by decide) (fun c92 => ?_) (fun c92 => ?_)
        · replace h := h.1 c92
          refine gk_aload_n dX7_read_98 rfl ?_
          refine gk_getr dX7_read_99 rfl rfl wfX7_19 ?_
          refine gk_iload dX7_read_102 rfl ?_
          refine gk_iload dX7_read_104 rfl ?_
          refine gk_iload dX7_read_106 rfl ?_
          refine gk_callV (as := [_, _, _]) (rest := []) (ctX1_append h) dX7_read_108 rfl rfl wvX7_135 wcX1_append rfl (Nat.le_of_ble_eq_true rfl) ⟨Nat.le_refl _, Nat.le_refl _⟩ (fun h9 => absurd rfl h9) (Nat.le_of_ble_eq_true rfl) rfl (fun v G2 S108 hq => ?_)
          obtain ⟨rfl, rfl, h⟩ := hq
          refine gk_iinc dX7_read_111 rfl (Nat.le_of_ble_eq_true rfl) rfl rfl rfl ?_
          refine gk_goto (tgt := 31) dX7_read_114 (by decide) ?_
          exact gk_less (gz_le_s rfl (gz_le_n (gz_le_n (gz_le_s rfl (gz_le_s rfl (gz_le_s rfl (gz_le_n (gz_le_n (gz_le_n gz_le_0))))))))) (ih _ _ _ h)
        · replace h := h.2 c92
          refine gk_goto (tgt := 117) dX7_read_95 (by decide) ?_
          exact gk_less (gz_le_s rfl (gz_le_n (gz_le_n (gz_le_n (gz_le_s rfl (gz_le_n (gz_le_n (gz_le_n (gz_le_n gz_le_0))))))))) (oX7_read_117 _ _ h)
set_option maxHeartbeats 4000000 in
set_option maxRecDepth 100000 in
theorem oX7_read_31_39 {E : gz_E} {Q : Int32 → gz_S → Prop} : ∀ (n : Nat) (x4 : Int32) (x5 : Int32) (S : gz_S), wX7_read_31 Q n 39 x4 x5 S → gz_k E mX7_read (5, 0, 0, 73) 0 0 31 [some (.ref 0), none, none, some (.ref 39), some (.int x4), some (.int x5), none, none, none] [] gz_F S (gz_qi Q) := by
  intro n
  induction n with
  | zero =>
    intro x4 x5 S h
    exact h.elim
  | succ n ih =>
    intro x4 x5 S h
    unfold wX7_read_31 at h
    refine gk_iload dX7_read_31 rfl ?_
    refine gk_iconst (v := 2) dX7_read_33 rfl ?_
    refine gk_iadd dX7_read_34 ?_
    refine gk_aload_n dX7_read_35 rfl ?_
    refine gk_geti dX7_read_36 rfl rfl wfX7_142 ?_
    refine gk_icmp_ge (tgt := 117) dX7_read_39 (by decide) (fun c39 => ?_) (fun c39 => ?_)
    · replace h := h.1 c39
      exact gk_less (gz_le_s rfl (gz_le_n (gz_le_n (gz_le_n (gz_le_s rfl (gz_le_n (gz_le_n (gz_le_n (gz_le_n gz_le_0))))))))) (oX7_read_117 _ _ h)
    · replace h := h.2 c39
      refine gk_aload_n dX7_read_42 rfl ?_
      refine gk_getr dX7_read_43 rfl rfl wfX7_143 ?_
      refine gk_iload dX7_read_46 rfl ?_
      refine gk_iaload dX7_read_48 rfl h.1 ?_
      replace h := h.2
      refine gk_nmi (fun v6_49 ev6_49 => ?_)
      replace h := h v6_49 ev6_49
      refine gk_istore dX7_read_49 (Nat.le_of_ble_eq_true rfl) rfl rfl ?_
      refine gk_aload_n dX7_read_51 rfl ?_
      refine gk_getr dX7_read_52 rfl rfl wfX7_143 ?_
      refine gk_iload dX7_read_55 rfl ?_
      refine gk_iconst (v := 1) dX7_read_57 rfl ?_
      refine gk_iadd dX7_read_58 ?_
      refine gk_iaload dX7_read_59 rfl h.1 ?_
      replace h := h.2
      refine gk_nmi (fun v7_60 ev7_60 => ?_)
      replace h := h v7_60 ev7_60
      refine gk_istore dX7_read_60 (Nat.le_of_ble_eq_true rfl) rfl rfl ?_
      refine gk_aload_n dX7_read_62 rfl ?_
      refine gk_getr dX7_read_63 rfl rfl wfX7_143 ?_
      refine gk_iload dX7_read_66 rfl ?_
      refine gk_iconst (v := 2) dX7_read_68 rfl ?_
      refine gk_iadd dX7_read_69 ?_
      refine gk_iaload dX7_read_70 rfl h.1 ?_
      replace h := h.2
      refine gk_nmi (fun v8_71 ev8_71 => ?_)
      replace h := h v8_71 ev8_71
      refine gk_istore dX7_read_71 (Nat.le_of_ble_eq_true rfl) rfl rfl ?_
      refine gk_aload_n dX7_read_73 rfl ?_
      refine gk_getr dX7_read_74 rfl rfl wfX7_19 ?_
      refine gk_callV (as := []) (rest := []) (ctX1_isFull h) dX7_read_77 rfl rfl wvX7_134 wcX1_isFull rfl (Nat.le_of_ble_eq_true rfl) ⟨Nat.le_refl _, Nat.le_refl _⟩ (fun h9 => absurd rfl h9) (Nat.le_of_ble_eq_true rfl) rfl (fun v G2 S77 hq => ?_)
      obtain ⟨rfl, r77, rfl, h⟩ := hq
      refine gk_if_ne (tgt := 117) dX7_read_80 (by decide) (fun c80 => ?_) (fun c80 => ?_)
      · replace h := h.1 c80
        exact gk_less (gz_le_s rfl (gz_le_n (gz_le_n (gz_le_n (gz_le_s rfl (gz_le_n (gz_le_n (gz_le_n (gz_le_n gz_le_0))))))))) (oX7_read_117 _ _ h)
      · replace h := h.2 c80
        refine gk_iload dX7_read_83 rfl ?_
        refine gk_iload dX7_read_85 rfl ?_
        refine gk_iload dX7_read_87 rfl ?_
        refine gk_callS (as := [_, _, _]) (rest := []) (ctX1_canBeTold h) dX7_read_89 wvX7_131 wcX1_canBeTold rfl (Nat.le_of_ble_eq_true rfl) ⟨Nat.le_refl _, Nat.le_refl _⟩ (fun h9 => absurd rfl h9) (Nat.le_of_ble_eq_true rfl) rfl (fun v G2 S89 hq => ?_)
        obtain ⟨rfl, r89, rfl, h⟩ := hq
        refine gk_if_ne (tgt := 98) dX7_read_92 (by decide) (fun c92 => ?_) (fun c92 => ?_)
        · replace h := h.1 c92
          refine gk_aload_n dX7_read_98 rfl ?_
          refine gk_getr dX7_read_99 rfl rfl wfX7_19 ?_
          refine gk_iload dX7_read_102 rfl ?_
          refine gk_iload dX7_read_104 rfl ?_
          refine gk_iload dX7_read_106 rfl ?_
          refine gk_callV (as := [_, _, _]) (rest := []) (ctX1_append h) dX7_read_108 rfl rfl wvX7_135 wcX1_append rfl (Nat.le_of_ble_eq_true rfl) ⟨Nat.le_refl _, Nat.le_refl _⟩ (fun h9 => absurd rfl h9) (Nat.le_of_ble_eq_true rfl) rfl (fun v G2 S108 hq => ?_)
          obtain ⟨rfl, rfl, h⟩ := hq
          refine gk_iinc dX7_read_111 rfl (Nat.le_of_ble_eq_true rfl) rfl rfl rfl ?_
          refine gk_goto (tgt := 31) dX7_read_114 (by decide) ?_
          exact gk_less (gz_le_s rfl (gz_le_n (gz_le_n (gz_le_s rfl (gz_le_s rfl (gz_le_s rfl (gz_le_n (gz_le_n (gz_le_n gz_le_0))))))))) (ih _ _ _ h)
        · replace h := h.2 c92
          refine gk_goto (tgt := 117) dX7_read_95 (by decide) ?_
          exact gk_less (gz_le_s rfl (gz_le_n (gz_le_n (gz_le_n (gz_le_s rfl (gz_le_n (gz_le_n (gz_le_n (gz_le_n gz_le_0))))))))) (oX7_read_117 _ _ h)
set_option maxHeartbeats 4000000 in
set_option maxRecDepth 100000 in
theorem oX7_read_31_41 {E : gz_E} {Q : Int32 → gz_S → Prop} : ∀ (n : Nat) (x4 : Int32) (x5 : Int32) (S : gz_S), wX7_read_31 Q n 41 x4 x5 S → gz_k E mX7_read (5, 0, 0, 73) 0 0 31 [some (.ref 0), none, none, some (.ref 41), some (.int x4), some (.int x5), none, none, none] [] gz_F S (gz_qi Q) := by
  intro n
  induction n with
  | zero =>
    intro x4 x5 S h
    exact h.elim
  | succ n ih =>
    intro x4 x5 S h
    unfold wX7_read_31 at h
    refine gk_iload dX7_read_31 rfl ?_
    refine gk_iconst (v := 2) dX7_read_33 rfl ?_
    refine gk_iadd dX7_read_34 ?_
    refine gk_aload_n dX7_read_35 rfl ?_
    refine gk_geti dX7_read_36 rfl rfl wfX7_142 ?_
    refine gk_icmp_ge (tgt := 117) dX7_read_39 (by decide) (fun c39 => ?_) (fun c39 => ?_)
    · replace h := h.1 c39
      exact gk_less (gz_le_s rfl (gz_le_n (gz_le_n (gz_le_n (gz_le_s rfl (gz_le_n (gz_le_n (gz_le_n (gz_le_n gz_le_0))))))))) (oX7_read_117 _ _ h)
    · replace h := h.2 c39
      refine gk_aload_n dX7_read_42 rfl ?_
      refine gk_getr dX7_read_43 rfl rfl wfX7_143 ?_
      refine gk_iload dX7_read_46 rfl ?_
      refine gk_iaload dX7_read_48 rfl h.1 ?_
      replace h := h.2
      refine gk_nmi (fun v6_49 ev6_49 => ?_)
      replace h := h v6_49 ev6_49
      refine gk_istore dX7_read_49 (Nat.le_of_ble_eq_true rfl) rfl rfl ?_
      refine gk_aload_n dX7_read_51 rfl ?_
      refine gk_getr dX7_read_52 rfl rfl wfX7_143 ?_
      refine gk_iload dX7_read_55 rfl ?_
      refine gk_iconst (v := 1) dX7_read_57 rfl ?_
      refine gk_iadd dX7_read_58 ?_
      refine gk_iaload dX7_read_59 rfl h.1 ?_
      replace h := h.2
      refine gk_nmi (fun v7_60 ev7_60 => ?_)
      replace h := h v7_60 ev7_60
      refine gk_istore dX7_read_60 (Nat.le_of_ble_eq_true rfl) rfl rfl ?_
      refine gk_aload_n dX7_read_62 rfl ?_
      refine gk_getr dX7_read_63 rfl rfl wfX7_143 ?_
      refine gk_iload dX7_read_66 rfl ?_
      refine gk_iconst (v := 2) dX7_read_68 rfl ?_
      refine gk_iadd dX7_read_69 ?_
      refine gk_iaload dX7_read_70 rfl h.1 ?_
      replace h := h.2
      refine gk_nmi (fun v8_71 ev8_71 => ?_)
      replace h := h v8_71 ev8_71
      refine gk_istore dX7_read_71 (Nat.le_of_ble_eq_true rfl) rfl rfl ?_
      refine gk_aload_n dX7_read_73 rfl ?_
      refine gk_getr dX7_read_74 rfl rfl wfX7_19 ?_
      refine gk_callV (as := []) (rest := []) (ctX1_isFull h) dX7_read_77 rfl rfl wvX7_134 wcX1_isFull rfl (Nat.le_of_ble_eq_true rfl) ⟨Nat.le_refl _, Nat.le_refl _⟩ (fun h9 => absurd rfl h9) (Nat.le_of_ble_eq_true rfl) rfl (fun v G2 S77 hq => ?_)
      obtain ⟨rfl, r77, rfl, h⟩ := hq
      refine gk_if_ne (tgt := 117) dX7_read_80 (by decide) (fun c80 => ?_) (fun c80 => ?_)
      · replace h := h.1 c80
        exact gk_less (gz_le_s rfl (gz_le_n (gz_le_n (gz_le_n (gz_le_s rfl (gz_le_n (gz_le_n (gz_le_n (gz_le_n gz_le_0))))))))) (oX7_read_117 _ _ h)
      · replace h := h.2 c80
        refine gk_iload dX7_read_83 rfl ?_
        refine gk_iload dX7_read_85 rfl ?_
        refine gk_iload dX7_read_87 rfl ?_
        refine gk_callS (as := [_, _, _]) (rest := []) (ctX1_canBeTold h) dX7_read_89 wvX7_131 wcX1_canBeTold rfl (Nat.le_of_ble_eq_true rfl) ⟨Nat.le_refl _, Nat.le_refl _⟩ (fun h9 => absurd rfl h9) (Nat.le_of_ble_eq_true rfl) rfl (fun v G2 S89 hq => ?_)
        obtain ⟨rfl, r89, rfl, h⟩ := hq
        refine gk_if_ne (tgt := 98) dX7_read_92 (by decide) (fun c92 => ?_) (fun c92 => ?_)
        · replace h := h.1 c92
          refine gk_aload_n dX7_read_98 rfl ?_
          refine gk_getr dX7_read_99 rfl rfl wfX7_19 ?_
          refine gk_iload dX7_read_102 rfl ?_
          refine gk_iload dX7_read_104 rfl ?_
          refine gk_iload dX7_read_106 rfl ?_
          refine gk_callV (as := [_, _, _]) (rest := []) (ctX1_append h) dX7_read_108 rfl rfl wvX7_135 wcX1_append rfl (Nat.le_of_ble_eq_true rfl) ⟨Nat.le_refl _, Nat.le_refl _⟩ (fun h9 => absurd rfl h9) (Nat.le_of_ble_eq_true rfl) rfl (fun v G2 S108 hq => ?_)
          obtain ⟨rfl, rfl, h⟩ := hq
          refine gk_iinc dX7_read_111 rfl (Nat.le_of_ble_eq_true rfl) rfl rfl rfl ?_
          refine gk_goto (tgt := 31) dX7_read_114 (by decide) ?_
          exact gk_less (gz_le_s rfl (gz_le_n (gz_le_n (gz_le_s rfl (gz_le_s rfl (gz_le_s rfl (gz_le_n (gz_le_n (gz_le_n gz_le_0))))))))) (ih _ _ _ h)
        · replace h := h.2 c92
          refine gk_goto (tgt := 117) dX7_read_95 (by decide) ?_
          exact gk_less (gz_le_s rfl (gz_le_n (gz_le_n (gz_le_n (gz_le_s rfl (gz_le_n (gz_le_n (gz_le_n (gz_le_n gz_le_0))))))))) (oX7_read_117 _ _ h)
set_option maxHeartbeats 4000000 in
set_option maxRecDepth 100000 in
theorem oX7_read_31_43 {E : gz_E} {Q : Int32 → gz_S → Prop} : ∀ (n : Nat) (x4 : Int32) (x5 : Int32) (S : gz_S), wX7_read_31 Q n 43 x4 x5 S → gz_k E mX7_read (5, 0, 0, 73) 0 0 31 [some (.ref 0), none, none, some (.ref 43), some (.int x4), some (.int x5), none, none, none] [] gz_F S (gz_qi Q) := by
  intro n
  induction n with
  | zero =>
    intro x4 x5 S h
    exact h.elim
  | succ n ih =>
    intro x4 x5 S h
    unfold wX7_read_31 at h
    refine gk_iload dX7_read_31 rfl ?_
    refine gk_iconst (v := 2) dX7_read_33 rfl ?_
    refine gk_iadd dX7_read_34 ?_
    refine gk_aload_n dX7_read_35 rfl ?_
    refine gk_geti dX7_read_36 rfl rfl wfX7_142 ?_
    refine gk_icmp_ge (tgt := 117) dX7_read_39 (by decide) (fun c39 => ?_) (fun c39 => ?_)
    · replace h := h.1 c39
      exact gk_less (gz_le_s rfl (gz_le_n (gz_le_n (gz_le_n (gz_le_s rfl (gz_le_n (gz_le_n (gz_le_n (gz_le_n gz_le_0))))))))) (oX7_read_117 _ _ h)
    · replace h := h.2 c39
      refine gk_aload_n dX7_read_42 rfl ?_
      refine gk_getr dX7_read_43 rfl rfl wfX7_143 ?_
      refine gk_iload dX7_read_46 rfl ?_
      refine gk_iaload dX7_read_48 rfl h.1 ?_
      replace h := h.2
      refine gk_nmi (fun v6_49 ev6_49 => ?_)
      replace h := h v6_49 ev6_49
      refine gk_istore dX7_read_49 (Nat.le_of_ble_eq_true rfl) rfl rfl ?_
      refine gk_aload_n dX7_read_51 rfl ?_
      refine gk_getr dX7_read_52 rfl rfl wfX7_143 ?_
      refine gk_iload dX7_read_55 rfl ?_
      refine gk_iconst (v := 1) dX7_read_57 rfl ?_
      refine gk_iadd dX7_read_58 ?_
      refine gk_iaload dX7_read_59 rfl h.1 ?_
      replace h := h.2
      refine gk_nmi (fun v7_60 ev7_60 => ?_)
      replace h := h v7_60 ev7_60
      refine gk_istore dX7_read_60 (Nat.le_of_ble_eq_true rfl) rfl rfl ?_
      refine gk_aload_n dX7_read_62 rfl ?_
      refine gk_getr dX7_read_63 rfl rfl wfX7_143 ?_
      refine gk_iload dX7_read_66 rfl ?_
      refine gk_iconst (v := 2) dX7_read_68 rfl ?_
      refine gk_iadd dX7_read_69 ?_
      refine gk_iaload dX7_read_70 rfl h.1 ?_
      replace h := h.2
      refine gk_nmi (fun v8_71 ev8_71 => ?_)
      replace h := h v8_71 ev8_71
      refine gk_istore dX7_read_71 (Nat.le_of_ble_eq_true rfl) rfl rfl ?_
      refine gk_aload_n dX7_read_73 rfl ?_
      refine gk_getr dX7_read_74 rfl rfl wfX7_19 ?_
      refine gk_callV (as := []) (rest := []) (ctX1_isFull h) dX7_read_77 rfl rfl wvX7_134 wcX1_isFull rfl (Nat.le_of_ble_eq_true rfl) ⟨Nat.le_refl _, Nat.le_refl _⟩ (fun h9 => absurd rfl h9) (Nat.le_of_ble_eq_true rfl) rfl (fun v G2 S77 hq => ?_)
      obtain ⟨rfl, r77, rfl, h⟩ := hq
      refine gk_if_ne (tgt := 117) dX7_read_80 (by decide) (fun c80 => ?_) (fun c80 => ?_)
      · replace h := h.1 c80
        exact gk_less (gz_le_s rfl (gz_le_n (gz_le_n (gz_le_n (gz_le_s rfl (gz_le_n (gz_le_n (gz_le_n (gz_le_n gz_le_0))))))))) (oX7_read_117 _ _ h)
      · replace h := h.2 c80
        refine gk_iload dX7_read_83 rfl ?_
        refine gk_iload dX7_read_85 rfl ?_
        refine gk_iload dX7_read_87 rfl ?_
        refine gk_callS (as := [_, _, _]) (rest := []) (ctX1_canBeTold h) dX7_read_89 wvX7_131 wcX1_canBeTold rfl (Nat.le_of_ble_eq_true rfl) ⟨Nat.le_refl _, Nat.le_refl _⟩ (fun h9 => absurd rfl h9) (Nat.le_of_ble_eq_true rfl) rfl (fun v G2 S89 hq => ?_)
        obtain ⟨rfl, r89, rfl, h⟩ := hq
        refine gk_if_ne (tgt := 98) dX7_read_92 (by decide) (fun c92 => ?_) (fun c92 => ?_)
        · replace h := h.1 c92
          refine gk_aload_n dX7_read_98 rfl ?_
          refine gk_getr dX7_read_99 rfl rfl wfX7_19 ?_
          refine gk_iload dX7_read_102 rfl ?_
          refine gk_iload dX7_read_104 rfl ?_
          refine gk_iload dX7_read_106 rfl ?_
          refine gk_callV (as := [_, _, _]) (rest := []) (ctX1_append h) dX7_read_108 rfl rfl wvX7_135 wcX1_append rfl (Nat.le_of_ble_eq_true rfl) ⟨Nat.le_refl _, Nat.le_refl _⟩ (fun h9 => absurd rfl h9) (Nat.le_of_ble_eq_true rfl) rfl (fun v G2 S108 hq => ?_)
          obtain ⟨rfl, rfl, h⟩ := hq
          refine gk_iinc dX7_read_111 rfl (Nat.le_of_ble_eq_true rfl) rfl rfl rfl ?_
          refine gk_goto (tgt := 31) dX7_read_114 (by decide) ?_
          exact gk_less (gz_le_s rfl (gz_le_n (gz_le_n (gz_le_s rfl (gz_le_s rfl (gz_le_s rfl (gz_le_n (gz_le_n (gz_le_n gz_le_0))))))))) (ih _ _ _ h)
        · replace h := h.2 c92
          refine gk_goto (tgt := 117) dX7_read_95 (by decide) ?_
          exact gk_less (gz_le_s rfl (gz_le_n (gz_le_n (gz_le_n (gz_le_s rfl (gz_le_n (gz_le_n (gz_le_n (gz_le_n gz_le_0))))))))) (oX7_read_117 _ _ h)
set_option maxHeartbeats 4000000 in
set_option maxRecDepth 100000 in
theorem ctX7_read {E : gz_E} {x1 : Int32} {S : gz_S} {Q : Int32 → gz_S → Prop} (h : wX7_read x1 S Q) : gz_m E mX7_read 5 0 0 [.ref 0, .int x1] gz_F S (gz_qi Q) := by
  refine gz_meet0 (L0 := [some (.ref 0), some (.int x1), none, none, none, none, none, none, none]) (by decide) rfl (Nat.le_of_ble_eq_true rfl) (by decide) ?_
  unfold wX7_read at h
  refine gk_aload_n dX7_read_0 rfl ?_
  refine gk_iload_n dX7_read_1 rfl ?_
  refine gk_callV (as := [_]) (rest := []) (ctX7_refusalOf h) dX7_read_2 rfl rfl wvX7_139 wcX7_refusalOf rfl (Nat.le_of_ble_eq_true rfl) ⟨Nat.le_refl _, Nat.le_refl _⟩ (fun h9 => absurd rfl h9) (Nat.le_of_ble_eq_true rfl) rfl (fun v G2 S2 hq => ?_)
  obtain ⟨rfl, r2, rfl, h⟩ := hq
  refine gk_istore_n dX7_read_5 (Nat.le_of_ble_eq_true rfl) rfl rfl ?_
  refine gk_iload_n dX7_read_6 rfl ?_
  refine gk_if_eq (tgt := 12) dX7_read_7 (by decide) (fun c7 => ?_) (fun c7 => ?_)
  · replace h := h.1 c7
    refine gk_aload_n dX7_read_12 rfl ?_
    refine gk_getr dX7_read_13 rfl rfl wfX7_53 ?_
    refine gk_iload_n dX7_read_16 rfl ?_
    rcases gz_four h.1 with hj00 | hj01 | hj02 | hj03
    · refine gk_aaload (t := 0) dX7_read_17 rfl h.1 (by rw [hj00]; rfl) ?_
      replace h := h.2
      try rw [hj00] at h
      refine gk_astore_n dX7_read_18 (Nat.le_of_ble_eq_true rfl) rfl rfl ?_
      refine gk_aload_n dX7_read_19 rfl ?_
      refine gk_getr dX7_read_20 rfl rfl wfX7_19 ?_
      refine gk_geti dX7_read_23 rfl rfl wfX7_138 ?_
      refine gk_nmi (fun v4_26 ev4_26 => ?_)
      replace h := h v4_26 ev4_26
      refine gk_istore dX7_read_26 (Nat.le_of_ble_eq_true rfl) rfl rfl ?_
      refine gk_iconst (v := 0) dX7_read_28 rfl ?_
      refine gk_istore dX7_read_29 (Nat.le_of_ble_eq_true rfl) rfl rfl ?_
      obtain ⟨m31, h⟩ := h
      exact gk_less (gz_le_s rfl (gz_le_n (gz_le_n (gz_le_s rfl (gz_le_s rfl (gz_le_s rfl (gz_le_n (gz_le_n (gz_le_n gz_le_0))))))))) (oX7_read_31_37 m31 _ _ _ h)
    · refine gk_aaload (t := 0) dX7_read_17 rfl h.1 (by rw [hj01]; rfl) ?_
      replace h := h.2
      try rw [hj01] at h
      refine gk_astore_n dX7_read_18 (Nat.le_of_ble_eq_true rfl) rfl rfl ?_
      refine gk_aload_n dX7_read_19 rfl ?_
      refine gk_getr dX7_read_20 rfl rfl wfX7_19 ?_
      refine gk_geti dX7_read_23 rfl rfl wfX7_138 ?_
      refine gk_nmi (fun v4_26_1 ev4_26_1 => ?_)
      replace h := h v4_26_1 ev4_26_1
      refine gk_istore dX7_read_26 (Nat.le_of_ble_eq_true rfl) rfl rfl ?_
      refine gk_iconst (v := 0) dX7_read_28 rfl ?_
      refine gk_istore dX7_read_29 (Nat.le_of_ble_eq_true rfl) rfl rfl ?_
      obtain ⟨m31, h⟩ := h
      exact gk_less (gz_le_s rfl (gz_le_n (gz_le_n (gz_le_s rfl (gz_le_s rfl (gz_le_s rfl (gz_le_n (gz_le_n (gz_le_n gz_le_0))))))))) (oX7_read_31_39 m31 _ _ _ h)
    · refine gk_aaload (t := 0) dX7_read_17 rfl h.1 (by rw [hj02]; rfl) ?_
      replace h := h.2
      try rw [hj02] at h
      refine gk_astore_n dX7_read_18 (Nat.le_of_ble_eq_true rfl) rfl rfl ?_
      refine gk_aload_n dX7_read_19 rfl ?_
      refine gk_getr dX7_read_20 rfl rfl wfX7_19 ?_
      refine gk_geti dX7_read_23 rfl rfl wfX7_138 ?_
      refine gk_nmi (fun v4_26_2 ev4_26_2 => ?_)
      replace h := h v4_26_2 ev4_26_2
      refine gk_istore dX7_read_26 (Nat.le_of_ble_eq_true rfl) rfl rfl ?_
      refine gk_iconst (v := 0) dX7_read_28 rfl ?_
      refine gk_istore dX7_read_29 (Nat.le_of_ble_eq_true rfl) rfl rfl ?_
      obtain ⟨m31, h⟩ := h
      exact gk_less (gz_le_s rfl (gz_le_n (gz_le_n (gz_le_s rfl (gz_le_s rfl (gz_le_s rfl (gz_le_n (gz_le_n (gz_le_n gz_le_0))))))))) (oX7_read_31_41 m31 _ _ _ h)
    · refine gk_aaload (t := 0) dX7_read_17 rfl h.1 (by rw [hj03]; rfl) ?_
      replace h := h.2
      try rw [hj03] at h
      refine gk_astore_n dX7_read_18 (Nat.le_of_ble_eq_true rfl) rfl rfl ?_
      refine gk_aload_n dX7_read_19 rfl ?_
      refine gk_getr dX7_read_20 rfl rfl wfX7_19 ?_
      refine gk_geti dX7_read_23 rfl rfl wfX7_138 ?_
      refine gk_nmi (fun v4_26_3 ev4_26_3 => ?_)
      replace h := h v4_26_3 ev4_26_3
      refine gk_istore dX7_read_26 (Nat.le_of_ble_eq_true rfl) rfl rfl ?_
      refine gk_iconst (v := 0) dX7_read_28 rfl ?_
      refine gk_istore dX7_read_29 (Nat.le_of_ble_eq_true rfl) rfl rfl ?_
      obtain ⟨m31, h⟩ := h
      exact gk_less (gz_le_s rfl (gz_le_n (gz_le_n (gz_le_s rfl (gz_le_s rfl (gz_le_s rfl (gz_le_n (gz_le_n (gz_le_n gz_le_0))))))))) (oX7_read_31_43 m31 _ _ _ h)
  · replace h := h.2 c7
    refine gk_iload_n dX7_read_10 rfl ?_
    exact gk_iret dX7_read_11 rfl rfl rfl rfl ⟨rfl, _, rfl, h⟩
set_option maxHeartbeats 4000000 in
set_option maxRecDepth 100000 in
theorem ctX8_isSheet {E : gz_E} {x0 : Int32} {S : gz_S} {Q : Int32 → gz_S → Prop} (h : wX8_isSheet x0 S Q) : gz_m E mX8_isSheet 2 0 0 [.int x0] gz_F S (gz_qi Q) := by
  refine gz_meet0 (L0 := [some (.int x0)]) (by decide) rfl (Nat.le_of_ble_eq_true rfl) (by decide) ?_
  unfold wX8_isSheet at h
  refine gk_iload_n dX8_isSheet_0 rfl ?_
  refine gk_i2l dX8_isSheet_1 ?_
  refine gk_lconst (v := 0) dX8_isSheet_2 rfl ?_
  refine gk_ldc2 dX8_isSheet_3 wkX8_100 ?_
  refine gk_callS (as := [_, _, _]) (rest := []) (ctX8_in h) dX8_isSheet_6 wvX8_92 wcX8_in rfl (Nat.le_of_ble_eq_true rfl) ⟨Nat.le_refl _, Nat.le_refl _⟩ (fun h9 => absurd rfl h9) (Nat.le_of_ble_eq_true rfl) rfl (fun v G2 S6 hq => ?_)
  obtain ⟨rfl, r6, rfl, h⟩ := hq
  exact gk_iret dX8_isSheet_9 rfl rfl rfl (gz_b01_nz h.1) ⟨rfl, _, rfl, h.2⟩
set_option maxHeartbeats 4000000 in
set_option maxRecDepth 100000 in
theorem ctX8_met {E : gz_E} {x1 : Int32} {S : gz_S} {Q : Int32 → gz_S → Prop} (h : wX8_met x1 S Q) : gz_m E mX8_met 1 0 0 [.ref 45, .int x1] gz_F S (gz_qi Q) := by
  refine gz_meet0 (L0 := [some (.ref 45), some (.int x1)]) (by decide) rfl (Nat.le_of_ble_eq_true rfl) (by decide) ?_
  unfold wX8_met at h
  refine gk_aload_n dX8_met_0 rfl ?_
  refine gk_iload_n dX8_met_1 rfl ?_
  refine gk_puti dX8_met_2 rfl rfl wfX8_96 wpX8_4 rfl rfl ?_
  refine gk_nmS (fun S2 eS2 => ?_)
  replace h := h S2 eS2
  refine gk_bipush (v := (-10)) dX8_met_5 rfl ?_
  refine gk_iload_n dX8_met_7 rfl ?_
  refine gk_isub dX8_met_8 ?_
  exact gk_iret dX8_met_9 rfl rfl rfl rfl ⟨rfl, _, rfl, h⟩
set_option maxHeartbeats 4000000 in
set_option maxRecDepth 100000 in
theorem oX8_read_105 {E : gz_E} {k29 : Int32 → Int32 → Int32 → gz_S → Prop} {Q : Int32 → gz_S → Prop} (hk29 : ∀ (x1 : Int32) (x2 : Int32) (x3 : Int32) (S : gz_S), k29 x1 x2 x3 S → gz_k E mX8_read (3, 0, 0, 73) 0 0 29 [some (.ref 45), some (.int x1), some (.int x2), some (.int x3), none] [] gz_F S (gz_qi Q)) : ∀ (x1 : Int32) (x3 : Int32) (t0 : Int32) (t1 : Int32) (S : gz_S), wX8_read_105 k29 Q x1 x3 t0 t1 S → gz_k E mX8_read (3, 0, 0, 73) 0 0 105 [some (.ref 45), some (.int x1), none, some (.int x3), none] [.int t1, .int t0] gz_F S (gz_qi Q) := by
  intro x1 x3 t0 t1 S h
  unfold wX8_read_105 at h
  refine gk_iadd dX8_read_105 ?_
  refine gk_nmi (fun v2_106 ev2_106 => ?_)
  replace h := h v2_106 ev2_106
  refine gk_istore_n dX8_read_106 (Nat.le_of_ble_eq_true rfl) rfl rfl ?_
  refine gk_goto (tgt := 29) dX8_read_107 (by decide) ?_
  exact gk_less (gz_le_s rfl (gz_le_s rfl (gz_le_s rfl (gz_le_s rfl (gz_le_n gz_le_0))))) (hk29 _ _ _ _ h)
set_option maxHeartbeats 4000000 in
set_option maxRecDepth 100000 in
theorem oX8_read_94 {E : gz_E} {k29 : Int32 → Int32 → Int32 → gz_S → Prop} {Q : Int32 → gz_S → Prop} (hk29 : ∀ (x1 : Int32) (x2 : Int32) (x3 : Int32) (S : gz_S), k29 x1 x2 x3 S → gz_k E mX8_read (3, 0, 0, 73) 0 0 29 [some (.ref 45), some (.int x1), some (.int x2), some (.int x3), none] [] gz_F S (gz_qi Q)) : ∀ (x1 : Int32) (x2 : Int32) (t0 : Int32) (S : gz_S), wX8_read_94 k29 Q x1 x2 t0 S → gz_k E mX8_read (3, 0, 0, 73) 0 0 94 [some (.ref 45), some (.int x1), some (.int x2), none, none] [.int t0] gz_F S (gz_qi Q) := by
  intro x1 x2 t0 S h
  unfold wX8_read_94 at h
  refine gk_istore_n dX8_read_94 (Nat.le_of_ble_eq_true rfl) rfl rfl ?_
  refine gk_iload_n dX8_read_95 rfl ?_
  refine gk_iload_n dX8_read_96 rfl ?_
  refine gk_if_eq (tgt := 104) dX8_read_97 (by decide) (fun c97 => ?_) (fun c97 => ?_)
  · replace h := h.1 c97
    refine gk_iconst (v := 0) dX8_read_104 rfl ?_
    exact gk_less (gz_le_s rfl (gz_le_s rfl (gz_le_n (gz_le_s rfl (gz_le_n gz_le_0))))) (oX8_read_105 hk29 _ _ _ _ _ h)
  · replace h := h.2 c97
    refine gk_iconst (v := 1) dX8_read_100 rfl ?_
    refine gk_goto (tgt := 105) dX8_read_101 (by decide) ?_
    exact gk_less (gz_le_s rfl (gz_le_s rfl (gz_le_n (gz_le_s rfl (gz_le_n gz_le_0))))) (oX8_read_105 hk29 _ _ _ _ _ h)
set_option maxHeartbeats 4000000 in
set_option maxRecDepth 100000 in
theorem oX8_read_29 {E : gz_E} {Q : Int32 → gz_S → Prop} : ∀ (n : Nat) (x1 : Int32) (x2 : Int32) (x3 : Int32) (S : gz_S), wX8_read_29 Q n x1 x2 x3 S → gz_k E mX8_read (3, 0, 0, 73) 0 0 29 [some (.ref 45), some (.int x1), some (.int x2), some (.int x3), none] [] gz_F S (gz_qi Q) := by
  intro n
  induction n with
  | zero =>
    intro x1 x2 x3 S h
    exact h.elim
  | succ n ih =>
    intro x1 x2 x3 S h
    unfold wX8_read_29 at h
    refine gk_iload_n dX8_read_29 rfl ?_
    refine gk_if_eq (tgt := 110) dX8_read_30 (by decide) (fun c30 => ?_) (fun c30 => ?_)
    · replace h := h.1 c30
      refine gk_iload_n dX8_read_110 rfl ?_
      exact gk_iret dX8_read_111 rfl rfl rfl rfl ⟨rfl, _, rfl, h⟩
    · replace h := h.2 c30
      refine gk_iconst (v := 3) dX8_read_33 rfl ?_
      refine gk_iload_n dX8_read_34 rfl ?_
      refine gk_imul dX8_read_35 ?_
      refine gk_iconst (v := 3) dX8_read_36 rfl ?_
      refine gk_iadd dX8_read_37 ?_
      refine gk_aload_n dX8_read_38 rfl ?_
      refine gk_getr dX8_read_39 rfl rfl wfX8_13 ?_
      refine gk_iload_n dX8_read_42 rfl ?_
      refine gk_iaload dX8_read_43 rfl h.1 ?_
      replace h := h.2
      refine gk_icmp_gt (tgt := 110) dX8_read_44 (by decide) (fun c44 => ?_) (fun c44 => ?_)
      · replace h := h.1 c44
        refine gk_iload_n dX8_read_110 rfl ?_
        exact gk_iret dX8_read_111 rfl rfl rfl rfl ⟨rfl, _, rfl, h⟩
      · replace h := h.2 c44
        refine gk_bipush (v := 60) dX8_read_47 rfl ?_
        refine gk_iload_n dX8_read_49 rfl ?_
        refine gk_imul dX8_read_50 ?_
        refine gk_iconst (v := 3) dX8_read_51 rfl ?_
        refine gk_iload_n dX8_read_52 rfl ?_
        refine gk_imul dX8_read_53 ?_
        refine gk_iadd dX8_read_54 ?_
        refine gk_nmi (fun v4_55 ev4_55 => ?_)
        replace h := h v4_55 ev4_55
        refine gk_istore dX8_read_55 (Nat.le_of_ble_eq_true rfl) rfl rfl ?_
        refine gk_aload_n dX8_read_57 rfl ?_
        refine gk_aload_n dX8_read_58 rfl ?_
        refine gk_getr dX8_read_59 rfl rfl wfX8_16 ?_
        refine gk_iload dX8_read_62 rfl ?_
        refine gk_iaload dX8_read_64 rfl h.1 ?_
        replace h := h.2
        refine gk_aload_n dX8_read_65 rfl ?_
        refine gk_getr dX8_read_66 rfl rfl wfX8_16 ?_
        refine gk_iload dX8_read_69 rfl ?_
        refine gk_iconst (v := 1) dX8_read_71 rfl ?_
        refine gk_iadd dX8_read_72 ?_
        refine gk_iaload dX8_read_73 rfl h.1 ?_
        replace h := h.2
        refine gk_aload_n dX8_read_74 rfl ?_
        refine gk_getr dX8_read_75 rfl rfl wfX8_16 ?_
        refine gk_iload dX8_read_78 rfl ?_
        refine gk_iconst (v := 2) dX8_read_80 rfl ?_
        refine gk_iadd dX8_read_81 ?_
        refine gk_iaload dX8_read_82 rfl h.1 ?_
        replace h := h.2
        refine gk_callV (as := [_, _, _]) (rest := []) (ctX8_carry h) dX8_read_83 rfl rfl wvX8_170 wcX8_carry rfl (Nat.le_of_ble_eq_true rfl) ⟨Nat.le_refl _, Nat.le_refl _⟩ (fun h9 => absurd rfl h9) (Nat.le_of_ble_eq_true rfl) rfl (fun v G2 S83 hq => ?_)
        obtain ⟨rfl, r83, rfl, h⟩ := hq
        refine gk_if_lt (tgt := 93) dX8_read_86 (by decide) (fun c86 => ?_) (fun c86 => ?_)
        · replace h := h.1 c86
          refine gk_iconst (v := 0) dX8_read_93 rfl ?_
          exact gk_less (gz_le_s rfl (gz_le_s rfl (gz_le_s rfl (gz_le_n (gz_le_n gz_le_0))))) (oX8_read_94 (fun y0 y1 y2 S h => ih y0 y1 y2 S h) _ _ _ _ h)
        · replace h := h.2 c86
          refine gk_iconst (v := 1) dX8_read_89 rfl ?_
          refine gk_goto (tgt := 94) dX8_read_90 (by decide) ?_
          exact gk_less (gz_le_s rfl (gz_le_s rfl (gz_le_s rfl (gz_le_n (gz_le_n gz_le_0))))) (oX8_read_94 (fun y0 y1 y2 S h => ih y0 y1 y2 S h) _ _ _ _ h)
set_option maxHeartbeats 4000000 in
set_option maxRecDepth 100000 in
theorem ctX8_read {E : gz_E} {x1 : Int32} {S : gz_S} {Q : Int32 → gz_S → Prop} (h : wX8_read x1 S Q) : gz_m E mX8_read 3 0 0 [.ref 45, .int x1] gz_F S (gz_qi Q) := by
  refine gz_meet0 (L0 := [some (.ref 45), some (.int x1), none, none, none]) (by decide) rfl (Nat.le_of_ble_eq_true rfl) (by decide) ?_
  unfold wX8_read at h
  refine gk_iload_n dX8_read_0 rfl ?_
  refine gk_callS (as := [_]) (rest := []) (ctX8_isSheet h) dX8_read_1 wvX8_102 wcX8_isSheet rfl (Nat.le_of_ble_eq_true rfl) ⟨Nat.le_refl _, Nat.le_refl _⟩ (fun h9 => absurd rfl h9) (Nat.le_of_ble_eq_true rfl) rfl (fun v G2 S1 hq => ?_)
  obtain ⟨rfl, r1, rfl, h⟩ := hq
  refine gk_if_ne (tgt := 10) dX8_read_4 (by decide) (fun c4 => ?_) (fun c4 => ?_)
  · replace h := h.1 c4
    refine gk_aload_n dX8_read_10 rfl ?_
    refine gk_getr dX8_read_11 rfl rfl wfX8_7 ?_
    refine gk_iload_n dX8_read_14 rfl ?_
    refine gk_iaload dX8_read_15 rfl h.1 ?_
    replace h := h.2
    refine gk_if_ge (tgt := 25) dX8_read_16 (by decide) (fun c16 => ?_) (fun c16 => ?_)
    · replace h := h.1 c16
      refine gk_iconst (v := 0) dX8_read_25 rfl ?_
      refine gk_istore_n dX8_read_26 (Nat.le_of_ble_eq_true rfl) rfl rfl ?_
      refine gk_iconst (v := 1) dX8_read_27 rfl ?_
      refine gk_istore_n dX8_read_28 (Nat.le_of_ble_eq_true rfl) rfl rfl ?_
      obtain ⟨m29, h⟩ := h
      exact gk_less (gz_le_s rfl (gz_le_s rfl (gz_le_s rfl (gz_le_s rfl (gz_le_n gz_le_0))))) (oX8_read_29 m29 _ _ _ _ h)
    · replace h := h.2 c16
      refine gk_aload_n dX8_read_19 rfl ?_
      refine gk_iconst (v := 1) dX8_read_20 rfl ?_
      refine gk_callV (as := [_]) (rest := []) (ctX8_met h) dX8_read_21 rfl rfl wvX8_108 wcX8_met rfl (Nat.le_of_ble_eq_true rfl) ⟨Nat.le_refl _, Nat.le_refl _⟩ (fun h9 => absurd rfl h9) (Nat.le_of_ble_eq_true rfl) rfl (fun v G2 S21 hq => ?_)
      obtain ⟨rfl, r21, rfl, h⟩ := hq
      exact gk_iret dX8_read_24 rfl rfl rfl rfl ⟨rfl, _, rfl, h⟩
  · replace h := h.2 c4
    refine gk_bipush (v := (-2)) dX8_read_7 rfl ?_
    exact gk_iret dX8_read_9 rfl rfl rfl rfl ⟨rfl, _, rfl, h⟩
set_option maxHeartbeats 4000000 in
set_option maxRecDepth 100000 in
theorem ctX7_undo {E : gz_E} {S : gz_S} {Q : Int32 → gz_S → Prop} (h : wX7_undo S Q) : gz_m E mX7_undo 5 0 0 [.ref 0] gz_F S (gz_qi Q) := by
  refine gz_meet0 (L0 := [some (.ref 0)]) (by decide) rfl (Nat.le_of_ble_eq_true rfl) (by decide) ?_
  unfold wX7_undo at h
  refine gk_aload_n dX7_undo_0 rfl ?_
  refine gk_getr dX7_undo_1 rfl rfl wfX7_19 ?_
  refine gk_geti dX7_undo_4 rfl rfl wfX7_138 ?_
  refine gk_if_ne (tgt := 13) dX7_undo_7 (by decide) (fun c7 => ?_) (fun c7 => ?_)
  · replace h := h.1 c7
    refine gk_aload_n dX7_undo_13 rfl ?_
    refine gk_getr dX7_undo_14 rfl rfl wfX7_19 ?_
    refine gk_dup dX7_undo_17 rfl ?_
    refine gk_geti dX7_undo_18 rfl rfl wfX7_138 ?_
    refine gk_iconst (v := 1) dX7_undo_21 rfl ?_
    refine gk_isub dX7_undo_22 ?_
    refine gk_puti dX7_undo_23 rfl rfl wfX7_138 wpX1_3 rfl rfl ?_
    refine gk_nmS (fun S23 eS23 => ?_)
    replace h := h S23 eS23
    refine gk_aload_n dX7_undo_26 rfl ?_
    refine gk_getr dX7_undo_27 rfl rfl wfX7_28 ?_
    refine gk_callV (as := []) (rest := []) (ctX2_judgeAll_16 h) dX7_undo_30 rfl rfl wvX7_80 wcX2_judgeAll rfl (Nat.le_of_ble_eq_true rfl) ⟨Nat.le_refl _, Nat.le_refl _⟩ (fun h9 => absurd rfl h9) (Nat.le_of_ble_eq_true rfl) rfl (fun v G2 S30 hq => ?_)
    obtain ⟨rfl, rfl, h⟩ := hq
    refine gk_aload_n dX7_undo_33 rfl ?_
    refine gk_getr dX7_undo_34 rfl rfl wfX7_19 ?_
    refine gk_geti dX7_undo_37 rfl rfl wfX7_138 ?_
    exact gk_iret dX7_undo_40 rfl rfl rfl rfl ⟨rfl, _, rfl, h⟩
  · replace h := h.2 c7
    refine gk_bipush (v := (-3)) dX7_undo_10 rfl ?_
    exact gk_iret dX7_undo_12 rfl rfl rfl rfl ⟨rfl, _, rfl, h⟩
set_option maxHeartbeats 4000000 in
set_option maxRecDepth 100000 in
theorem ctX8_undo {E : gz_E} {S : gz_S} {Q : Int32 → gz_S → Prop} (h : wX8_undo S Q) : gz_m E mX8_undo 1 0 0 [.ref 45] gz_F S (gz_qi Q) := by
  refine gz_meet0 (L0 := [some (.ref 45)]) (by decide) rfl (Nat.le_of_ble_eq_true rfl) (by decide) ?_
  unfold wX8_undo at h
  refine gk_aload_n dX8_undo_0 rfl ?_
  refine gk_geti dX8_undo_1 rfl rfl wfX8_167 ?_
  refine gk_if_ne (tgt := 10) dX8_undo_4 (by decide) (fun c4 => ?_) (fun c4 => ?_)
  · replace h := h.1 c4
    refine gk_aload_n dX8_undo_10 rfl ?_
    refine gk_dup dX8_undo_11 rfl ?_
    refine gk_geti dX8_undo_12 rfl rfl wfX8_167 ?_
    refine gk_iconst (v := 1) dX8_undo_15 rfl ?_
    refine gk_isub dX8_undo_16 ?_
    refine gk_puti dX8_undo_17 rfl rfl wfX8_167 wpX8_16 rfl rfl ?_
    refine gk_nmS (fun S17 eS17 => ?_)
    replace h := h S17 eS17
    refine gk_aload_n dX8_undo_20 rfl ?_
    refine gk_geti dX8_undo_21 rfl rfl wfX8_167 ?_
    exact gk_iret dX8_undo_24 rfl rfl rfl rfl ⟨rfl, _, rfl, h⟩
  · replace h := h.2 c4
    refine gk_bipush (v := (-3)) dX8_undo_7 rfl ?_
    exact gk_iret dX8_undo_9 rfl rfl rfl rfl ⟨rfl, _, rfl, h⟩
set_option maxHeartbeats 4000000 in
set_option maxRecDepth 100000 in
theorem oX7_judged_2 {E : gz_E} {Q : Int32 → gz_S → Prop} : ∀ (n : Nat) (x1 : Int32) (S : gz_S), wX7_judged_2 Q n x1 S → gz_k E mX7_judged (1, 0, 0, 73) 0 0 2 [some (.ref 0), some (.int x1)] [] gz_F S (gz_qi Q) := by
  intro n
  induction n with
  | zero =>
    intro x1 S h
    exact h.elim
  | succ n ih =>
    intro x1 S h
    unfold wX7_judged_2 at h
    refine gk_iload_n dX7_judged_2 rfl ?_
    refine gk_aload_n dX7_judged_3 rfl ?_
    refine gk_getr dX7_judged_4 rfl rfl wfX7_19 ?_
    refine gk_geti dX7_judged_7 rfl rfl wfX7_138 ?_
    refine gk_icmp_ge (tgt := 34) dX7_judged_10 (by decide) (fun c10 => ?_) (fun c10 => ?_)
    · replace h := h.1 c10
      refine gk_iconst (v := (-1)) dX7_judged_34 rfl ?_
      exact gk_iret dX7_judged_35 rfl rfl rfl rfl ⟨rfl, _, rfl, h⟩
    · replace h := h.2 c10
      refine gk_aload_n dX7_judged_13 rfl ?_
      refine gk_getr dX7_judged_14 rfl rfl wfX7_28 ?_
      refine gk_getr dX7_judged_17 rfl rfl wfX7_146 ?_
      refine gk_iload_n dX7_judged_20 rfl ?_
      refine gk_iaload dX7_judged_21 rfl h.1 ?_
      replace h := h.2
      refine gk_iconst (v := (-1)) dX7_judged_22 rfl ?_
      refine gk_icmp_ne (tgt := 28) dX7_judged_23 (by decide) (fun c23 => ?_) (fun c23 => ?_)
      · replace h := h.1 c23
        refine gk_iinc dX7_judged_28 rfl (Nat.le_of_ble_eq_true rfl) rfl rfl rfl ?_
        refine gk_goto (tgt := 2) dX7_judged_31 (by decide) ?_
        exact gk_less (gz_le_s rfl (gz_le_s rfl gz_le_0)) (ih _ _ h)
      · replace h := h.2 c23
        refine gk_iload_n dX7_judged_26 rfl ?_
        exact gk_iret dX7_judged_27 rfl rfl rfl rfl ⟨rfl, _, rfl, h⟩
set_option maxHeartbeats 4000000 in
set_option maxRecDepth 100000 in
theorem ctX7_judged {E : gz_E} {S : gz_S} {Q : Int32 → gz_S → Prop} (h : wX7_judged S Q) : gz_m E mX7_judged 1 0 0 [.ref 0] gz_F S (gz_qi Q) := by
  refine gz_meet0 (L0 := [some (.ref 0), none]) (by decide) rfl (Nat.le_of_ble_eq_true rfl) (by decide) ?_
  unfold wX7_judged at h
  refine gk_iconst (v := 0) dX7_judged_0 rfl ?_
  refine gk_istore_n dX7_judged_1 (Nat.le_of_ble_eq_true rfl) rfl rfl ?_
  obtain ⟨m2, h⟩ := h
  exact gk_less (gz_le_s rfl (gz_le_s rfl gz_le_0)) (oX7_judged_2 m2 _ _ h)
set_option maxHeartbeats 4000000 in
set_option maxRecDepth 100000 in
theorem ctX8_judged {E : gz_E} {S : gz_S} {Q : Int32 → gz_S → Prop} (h : wX8_judged S Q) : gz_m E mX8_judged 4 0 0 [.ref 45] gz_F S (gz_qi Q) := by
  refine gz_meet0 (L0 := [some (.ref 45)]) (by decide) rfl (Nat.le_of_ble_eq_true rfl) (by decide) ?_
  unfold wX8_judged at h
  refine gk_aload_n dX8_judged_0 rfl ?_
  refine gk_callV (as := []) (rest := []) (ctX8_reads h) dX8_judged_1 rfl rfl wvX8_147 wcX8_reads rfl (Nat.le_of_ble_eq_true rfl) ⟨Nat.le_refl _, Nat.le_refl _⟩ (fun h9 => absurd rfl h9) (Nat.le_of_ble_eq_true rfl) rfl (fun v G2 S1 hq => ?_)
  obtain ⟨rfl, rfl, h⟩ := hq
  refine gk_aload_n dX8_judged_4 rfl ?_
  refine gk_iconst (v := (-1)) dX8_judged_5 rfl ?_
  refine gk_callV (as := [_]) (rest := []) (ctX8_goes h) dX8_judged_6 rfl rfl wvX8_186 wcX8_goes rfl (Nat.le_of_ble_eq_true rfl) ⟨Nat.le_refl _, Nat.le_refl _⟩ (fun h9 => absurd rfl h9) (Nat.le_of_ble_eq_true rfl) rfl (fun v G2 S6 hq => ?_)
  obtain ⟨rfl, rfl, h⟩ := hq
  refine gk_aload_n dX8_judged_9 rfl ?_
  refine gk_geti dX8_judged_10 rfl rfl wfX8_176 ?_
  exact gk_iret dX8_judged_13 rfl rfl rfl rfl ⟨rfl, _, rfl, h⟩
set_option maxHeartbeats 4000000 in
set_option maxRecDepth 100000 in
theorem ctX7_laid {E : gz_E} {x1 : Int32} {S : gz_S} {Q : Int32 → gz_S → Prop} (h : wX7_laid x1 S Q) : gz_m E mX7_laid 2 0 0 [.ref 0, .int x1] gz_F S (gz_qi Q) := by
  refine gz_meet0 (L0 := [some (.ref 0), some (.int x1)]) (by decide) rfl (Nat.le_of_ble_eq_true rfl) (by decide) ?_
  unfold wX7_laid at h
  refine gk_iload_n dX7_laid_0 rfl ?_
  refine gk_iconst (v := 0) dX7_laid_1 rfl ?_
  refine gk_aload_n dX7_laid_2 rfl ?_
  refine gk_getr dX7_laid_3 rfl rfl wfX7_19 ?_
  refine gk_geti dX7_laid_6 rfl rfl wfX7_138 ?_
  refine gk_iconst (v := 1) dX7_laid_9 rfl ?_
  refine gk_isub dX7_laid_10 ?_
  refine gk_callS (as := [_, _, _]) (rest := []) (ctX7_within h) dX7_laid_11 wvX7_62 wcX7_within rfl (Nat.le_of_ble_eq_true rfl) ⟨Nat.le_refl _, Nat.le_refl _⟩ (fun h9 => absurd rfl h9) (Nat.le_of_ble_eq_true rfl) rfl (fun v G2 S11 hq => ?_)
  obtain ⟨rfl, r11, rfl, h⟩ := hq
  refine gk_if_eq (tgt := 29) dX7_laid_14 (by decide) (fun c14 => ?_) (fun c14 => ?_)
  · replace h := h.1 c14
    refine gk_bipush (v := (-2)) dX7_laid_29 rfl ?_
    exact gk_iret dX7_laid_31 rfl rfl rfl rfl ⟨rfl, _, rfl, h⟩
  · replace h := h.2 c14
    refine gk_aload_n dX7_laid_17 rfl ?_
    refine gk_getr dX7_laid_18 rfl rfl wfX7_28 ?_
    refine gk_getr dX7_laid_21 rfl rfl wfX7_146 ?_
    refine gk_iload_n dX7_laid_24 rfl ?_
    refine gk_iaload dX7_laid_25 rfl h.1 ?_
    replace h := h.2
    refine gk_goto (tgt := 31) dX7_laid_26 (by decide) ?_
    exact gk_iret dX7_laid_31 rfl rfl rfl rfl ⟨rfl, _, rfl, h⟩
set_option maxHeartbeats 4000000 in
set_option maxRecDepth 100000 in
theorem ctX8_laid {E : gz_E} {x1 : Int32} {S : gz_S} {Q : Int32 → gz_S → Prop} (h : wX8_laid x1 S Q) : gz_m E mX8_laid 4 0 0 [.ref 45, .int x1] gz_F S (gz_qi Q) := by
  refine gz_meet0 (L0 := [some (.ref 45), some (.int x1)]) (by decide) rfl (Nat.le_of_ble_eq_true rfl) (by decide) ?_
  unfold wX8_laid at h
  refine gk_aload_n dX8_laid_0 rfl ?_
  refine gk_callV (as := []) (rest := []) (ctX8_reads h) dX8_laid_1 rfl rfl wvX8_147 wcX8_reads rfl (Nat.le_of_ble_eq_true rfl) ⟨Nat.le_refl _, Nat.le_refl _⟩ (fun h9 => absurd rfl h9) (Nat.le_of_ble_eq_true rfl) rfl (fun v G2 S1 hq => ?_)
  obtain ⟨rfl, rfl, h⟩ := hq
  refine gk_aload_n dX8_laid_4 rfl ?_
  refine gk_iconst (v := (-1)) dX8_laid_5 rfl ?_
  refine gk_callV (as := [_]) (rest := []) (ctX8_goes h) dX8_laid_6 rfl rfl wvX8_186 wcX8_goes rfl (Nat.le_of_ble_eq_true rfl) ⟨Nat.le_refl _, Nat.le_refl _⟩ (fun h9 => absurd rfl h9) (Nat.le_of_ble_eq_true rfl) rfl (fun v G2 S6 hq => ?_)
  obtain ⟨rfl, rfl, h⟩ := hq
  refine gk_iload_n dX8_laid_9 rfl ?_
  refine gk_i2l dX8_laid_10 ?_
  refine gk_lconst (v := 0) dX8_laid_11 rfl ?_
  refine gk_aload_n dX8_laid_12 rfl ?_
  refine gk_geti dX8_laid_13 rfl rfl wfX8_167 ?_
  refine gk_iconst (v := 1) dX8_laid_16 rfl ?_
  refine gk_isub dX8_laid_17 ?_
  refine gk_i2l dX8_laid_18 ?_
  refine gk_callS (as := [_, _, _]) (rest := []) (ctX8_in h) dX8_laid_19 wvX8_92 wcX8_in rfl (Nat.le_of_ble_eq_true rfl) ⟨Nat.le_refl _, Nat.le_refl _⟩ (fun h9 => absurd rfl h9) (Nat.le_of_ble_eq_true rfl) rfl (fun v G2 S19 hq => ?_)
  obtain ⟨rfl, r19, rfl, h⟩ := hq
  refine gk_if_eq (tgt := 34) dX8_laid_22 (by decide) (fun c22 => ?_) (fun c22 => ?_)
  · replace h := h.1 c22
    refine gk_bipush (v := (-2)) dX8_laid_34 rfl ?_
    exact gk_iret dX8_laid_36 rfl rfl rfl rfl ⟨rfl, _, rfl, h⟩
  · replace h := h.2 c22
    refine gk_aload_n dX8_laid_25 rfl ?_
    refine gk_getr dX8_laid_26 rfl rfl wfX8_52 ?_
    refine gk_iload_n dX8_laid_29 rfl ?_
    refine gk_iaload dX8_laid_30 rfl h.1 ?_
    replace h := h.2
    refine gk_goto (tgt := 36) dX8_laid_31 (by decide) ?_
    exact gk_iret dX8_laid_36 rfl rfl rfl rfl ⟨rfl, _, rfl, h⟩
set_option maxHeartbeats 4000000 in
set_option maxRecDepth 100000 in
theorem ctX7_shelfNumber {E : gz_E} {x0 : Int32} {x1 : Int32} {S : gz_S} {Q : Int32 → gz_S → Prop} (h : wX7_shelfNumber x0 x1 S Q) : gz_m E mX7_shelfNumber 1 0 0 [.int x0, .int x1] gz_F S (gz_qi Q) := by
  refine gz_meet0 (L0 := [some (.int x0), some (.int x1)]) (by decide) rfl (Nat.le_of_ble_eq_true rfl) (by decide) ?_
  unfold wX7_shelfNumber at h
  refine gk_iload_n dX7_shelfNumber_0 rfl ?_
  refine gk_iconst (v := 5) dX7_shelfNumber_1 rfl ?_
  refine gk_imul dX7_shelfNumber_2 ?_
  refine gk_iload_n dX7_shelfNumber_3 rfl ?_
  refine gk_iadd dX7_shelfNumber_4 ?_
  refine gk_iconst (v := 1) dX7_shelfNumber_5 rfl ?_
  refine gk_isub dX7_shelfNumber_6 ?_
  exact gk_iret dX7_shelfNumber_7 rfl rfl rfl rfl ⟨rfl, _, rfl, h⟩
set_option maxHeartbeats 4000000 in
set_option maxRecDepth 100000 in
theorem oX2_slide_42_16 {E : gz_E} {k9 : Int32 → Int32 → gz_S → Prop} {Q : gz_S → Prop} (hk9 : ∀ (x1 : Int32) (x2 : Int32) (S : gz_S), k9 x1 x2 S → gz_k E mX2_slide (1, 0, 0, 73) 0 0 9 [some (.ref 16), some (.int x1), some (.int x2)] [] gz_F S (gz_qv Q)) : ∀ (x1 : Int32) (x2 : Int32) (S : gz_S), wX2_slide_42 k9 Q 16 x1 x2 S → gz_k E mX2_slide (1, 0, 0, 73) 0 0 42 [some (.ref 16), some (.int x1), some (.int x2)] [] gz_F S (gz_qv Q) := by
  intro x1 x2 S h
  unfold wX2_slide_42 at h
  refine gk_iinc dX2_slide_42 rfl (Nat.le_of_ble_eq_true rfl) rfl rfl rfl ?_
  refine gk_goto (tgt := 9) dX2_slide_45 (by decide) ?_
  exact gk_less (gz_le_s rfl (gz_le_s rfl (gz_le_s rfl gz_le_0))) (hk9 _ _ _ h)
set_option maxHeartbeats 4000000 in
set_option maxRecDepth 100000 in
theorem oX2_slide_9_16 {E : gz_E} {Q : gz_S → Prop} : ∀ (n : Nat) (x1 : Int32) (x2 : Int32) (S : gz_S), wX2_slide_9 Q n 16 x1 x2 S → gz_k E mX2_slide (1, 0, 0, 73) 0 0 9 [some (.ref 16), some (.int x1), some (.int x2)] [] gz_F S (gz_qv Q) := by
  intro n
  induction n with
  | zero =>
    intro x1 x2 S h
    exact h.elim
  | succ n ih =>
    intro x1 x2 S h
    unfold wX2_slide_9 at h
    refine gk_iload_n dX2_slide_9 rfl ?_
    refine gk_bipush (v := 9) dX2_slide_10 rfl ?_
    refine gk_icmp_ge (tgt := 48) dX2_slide_12 (by decide) (fun c12 => ?_) (fun c12 => ?_)
    · replace h := h.1 c12
      exact gk_vret dX2_slide_48 rfl rfl rfl ⟨rfl, rfl, h⟩
    · replace h := h.2 c12
      refine gk_aload_n dX2_slide_15 rfl ?_
      refine gk_getr dX2_slide_16 rfl rfl wfX2_31 ?_
      refine gk_iload_n dX2_slide_19 rfl ?_
      refine gk_iaload dX2_slide_20 rfl h.1 ?_
      replace h := h.2
      refine gk_iload_n dX2_slide_21 rfl ?_
      refine gk_icmp_ne (tgt := 42) dX2_slide_22 (by decide) (fun c22 => ?_) (fun c22 => ?_)
      · replace h := h.1 c22
        exact gk_less (gz_le_s rfl (gz_le_s rfl (gz_le_s rfl gz_le_0))) (oX2_slide_42_16 (fun y0 y1 S h => ih y0 y1 S h) _ _ _ h)
      · replace h := h.2 c22
        refine gk_aload_n dX2_slide_25 rfl ?_
        refine gk_getr dX2_slide_26 rfl rfl wfX2_31 ?_
        refine gk_iload_n dX2_slide_29 rfl ?_
        refine gk_iconst (v := (-1)) dX2_slide_30 rfl ?_
        refine gk_iastore dX2_slide_31 rfl h.1 ?_
        replace h := h.2
        refine gk_nmS (fun S31 eS31 => ?_)
        replace h := h S31 eS31
        refine gk_aload_n dX2_slide_32 rfl ?_
        refine gk_dup dX2_slide_33 rfl ?_
        refine gk_geti dX2_slide_34 rfl rfl wfX2_34 ?_
        refine gk_iconst (v := 1) dX2_slide_37 rfl ?_
        refine gk_iadd dX2_slide_38 ?_
        refine gk_puti dX2_slide_39 rfl rfl wfX2_34 wpX2_9 rfl rfl ?_
        refine gk_nmS (fun S39 eS39 => ?_)
        replace h := h S39 eS39
        exact gk_less (gz_le_s rfl (gz_le_s rfl (gz_le_s rfl gz_le_0))) (oX2_slide_42_16 (fun y0 y1 S h => ih y0 y1 S h) _ _ _ h)
set_option maxHeartbeats 4000000 in
set_option maxRecDepth 100000 in
theorem ctX2_slide_16 {E : gz_E} {x1 : Int32} {S : gz_S} {Q : gz_S → Prop} (h : wX2_slide 16 x1 S Q) : gz_m E mX2_slide 1 0 0 [.ref 16, .int x1] gz_F S (gz_qv Q) := by
  refine gz_meet0 (L0 := [some (.ref 16), some (.int x1), none]) (by decide) rfl (Nat.le_of_ble_eq_true rfl) (by decide) ?_
  unfold wX2_slide at h
  refine gk_aload_n dX2_slide_0 rfl ?_
  refine gk_getr dX2_slide_1 rfl rfl wfX2_28 ?_
  refine gk_iload_n dX2_slide_4 rfl ?_
  refine gk_iconst (v := 0) dX2_slide_5 rfl ?_
  refine gk_iastore dX2_slide_6 rfl h.1 ?_
  replace h := h.2
  refine gk_nmS (fun S6 eS6 => ?_)
  replace h := h S6 eS6
  refine gk_iconst (v := 0) dX2_slide_7 rfl ?_
  refine gk_istore_n dX2_slide_8 (Nat.le_of_ble_eq_true rfl) rfl rfl ?_
  obtain ⟨m9, h⟩ := h
  exact gk_less (gz_le_s rfl (gz_le_s rfl (gz_le_s rfl gz_le_0))) (oX2_slide_9_16 m9 _ _ _ h)
set_option maxHeartbeats 4000000 in
set_option maxRecDepth 100000 in
theorem oX2_slide_42_23 {E : gz_E} {k9 : Int32 → Int32 → gz_S → Prop} {Q : gz_S → Prop} (hk9 : ∀ (x1 : Int32) (x2 : Int32) (S : gz_S), k9 x1 x2 S → gz_k E mX2_slide (1, 0, 0, 73) 0 0 9 [some (.ref 23), some (.int x1), some (.int x2)] [] gz_F S (gz_qv Q)) : ∀ (x1 : Int32) (x2 : Int32) (S : gz_S), wX2_slide_42 k9 Q 23 x1 x2 S → gz_k E mX2_slide (1, 0, 0, 73) 0 0 42 [some (.ref 23), some (.int x1), some (.int x2)] [] gz_F S (gz_qv Q) := by
  intro x1 x2 S h
  unfold wX2_slide_42 at h
  refine gk_iinc dX2_slide_42 rfl (Nat.le_of_ble_eq_true rfl) rfl rfl rfl ?_
  refine gk_goto (tgt := 9) dX2_slide_45 (by decide) ?_
  exact gk_less (gz_le_s rfl (gz_le_s rfl (gz_le_s rfl gz_le_0))) (hk9 _ _ _ h)
set_option maxHeartbeats 4000000 in
set_option maxRecDepth 100000 in
theorem oX2_slide_9_23 {E : gz_E} {Q : gz_S → Prop} : ∀ (n : Nat) (x1 : Int32) (x2 : Int32) (S : gz_S), wX2_slide_9 Q n 23 x1 x2 S → gz_k E mX2_slide (1, 0, 0, 73) 0 0 9 [some (.ref 23), some (.int x1), some (.int x2)] [] gz_F S (gz_qv Q) := by
  intro n
  induction n with
  | zero =>
    intro x1 x2 S h
    exact h.elim
  | succ n ih =>
    intro x1 x2 S h
    unfold wX2_slide_9 at h
    refine gk_iload_n dX2_slide_9 rfl ?_
    refine gk_bipush (v := 9) dX2_slide_10 rfl ?_
    refine gk_icmp_ge (tgt := 48) dX2_slide_12 (by decide) (fun c12 => ?_) (fun c12 => ?_)
    · replace h := h.1 c12
      exact gk_vret dX2_slide_48 rfl rfl rfl ⟨rfl, rfl, h⟩
    · replace h := h.2 c12
      refine gk_aload_n dX2_slide_15 rfl ?_
      refine gk_getr dX2_slide_16 rfl rfl wfX2_31 ?_
      refine gk_iload_n dX2_slide_19 rfl ?_
      refine gk_iaload dX2_slide_20 rfl h.1 ?_
      replace h := h.2
      refine gk_iload_n dX2_slide_21 rfl ?_
      refine gk_icmp_ne (tgt := 42) dX2_slide_22 (by decide) (fun c22 => ?_) (fun c22 => ?_)
      · replace h := h.1 c22
        exact gk_less (gz_le_s rfl (gz_le_s rfl (gz_le_s rfl gz_le_0))) (oX2_slide_42_23 (fun y0 y1 S h => ih y0 y1 S h) _ _ _ h)
      · replace h := h.2 c22
        refine gk_aload_n dX2_slide_25 rfl ?_
        refine gk_getr dX2_slide_26 rfl rfl wfX2_31 ?_
        refine gk_iload_n dX2_slide_29 rfl ?_
        refine gk_iconst (v := (-1)) dX2_slide_30 rfl ?_
        refine gk_iastore dX2_slide_31 rfl h.1 ?_
        replace h := h.2
        refine gk_nmS (fun S31 eS31 => ?_)
        replace h := h S31 eS31
        refine gk_aload_n dX2_slide_32 rfl ?_
        refine gk_dup dX2_slide_33 rfl ?_
        refine gk_geti dX2_slide_34 rfl rfl wfX2_34 ?_
        refine gk_iconst (v := 1) dX2_slide_37 rfl ?_
        refine gk_iadd dX2_slide_38 ?_
        refine gk_puti dX2_slide_39 rfl rfl wfX2_34 wpX2_9 rfl rfl ?_
        refine gk_nmS (fun S39 eS39 => ?_)
        replace h := h S39 eS39
        exact gk_less (gz_le_s rfl (gz_le_s rfl (gz_le_s rfl gz_le_0))) (oX2_slide_42_23 (fun y0 y1 S h => ih y0 y1 S h) _ _ _ h)
set_option maxHeartbeats 4000000 in
set_option maxRecDepth 100000 in
theorem ctX2_slide_23 {E : gz_E} {x1 : Int32} {S : gz_S} {Q : gz_S → Prop} (h : wX2_slide 23 x1 S Q) : gz_m E mX2_slide 1 0 0 [.ref 23, .int x1] gz_F S (gz_qv Q) := by
  refine gz_meet0 (L0 := [some (.ref 23), some (.int x1), none]) (by decide) rfl (Nat.le_of_ble_eq_true rfl) (by decide) ?_
  unfold wX2_slide at h
  refine gk_aload_n dX2_slide_0 rfl ?_
  refine gk_getr dX2_slide_1 rfl rfl wfX2_28 ?_
  refine gk_iload_n dX2_slide_4 rfl ?_
  refine gk_iconst (v := 0) dX2_slide_5 rfl ?_
  refine gk_iastore dX2_slide_6 rfl h.1 ?_
  replace h := h.2
  refine gk_nmS (fun S6 eS6 => ?_)
  replace h := h S6 eS6
  refine gk_iconst (v := 0) dX2_slide_7 rfl ?_
  refine gk_istore_n dX2_slide_8 (Nat.le_of_ble_eq_true rfl) rfl rfl ?_
  obtain ⟨m9, h⟩ := h
  exact gk_less (gz_le_s rfl (gz_le_s rfl (gz_le_s rfl gz_le_0))) (oX2_slide_9_23 m9 _ _ _ h)
set_option maxHeartbeats 4000000 in
set_option maxRecDepth 100000 in
theorem ctX2_put_16 {E : gz_E} {x1 : Int32} {S : gz_S} {Q : gz_S → Prop} (h : wX2_put 16 x1 S Q) : gz_m E mX2_put 2 0 0 [.ref 16, .int x1] gz_F S (gz_qv Q) := by
  refine gz_meet0 (L0 := [some (.ref 16), some (.int x1), none, none]) (by decide) rfl (Nat.le_of_ble_eq_true rfl) (by decide) ?_
  unfold wX2_put at h
  refine gk_aload_n dX2_put_0 rfl ?_
  refine gk_getr dX2_put_1 rfl rfl wfX2_41 ?_
  refine gk_getr dX2_put_4 rfl rfl wfX2_70 ?_
  refine gk_iload_n dX2_put_7 rfl ?_
  refine gk_iaload dX2_put_8 rfl h.1 ?_
  replace h := h.2
  refine gk_nmi (fun v2_9 ev2_9 => ?_)
  replace h := h v2_9 ev2_9
  refine gk_istore_n dX2_put_9 (Nat.le_of_ble_eq_true rfl) rfl rfl ?_
  refine gk_aload_n dX2_put_10 rfl ?_
  refine gk_getr dX2_put_11 rfl rfl wfX2_37 ?_
  refine gk_aload_n dX2_put_14 rfl ?_
  refine gk_getr dX2_put_15 rfl rfl wfX2_41 ?_
  refine gk_getr dX2_put_18 rfl rfl wfX2_67 ?_
  refine gk_iload_n dX2_put_21 rfl ?_
  refine gk_iaload dX2_put_22 rfl h.1 ?_
  replace h := h.2
  refine gk_callV (as := [_]) (rest := []) (ctX3_sideOf h) dX2_put_23 rfl rfl wvX2_100 wcX3_sideOf rfl (Nat.le_of_ble_eq_true rfl) ⟨Nat.le_refl _, Nat.le_refl _⟩ (fun h9 => absurd rfl h9) (Nat.le_of_ble_eq_true rfl) rfl (fun v G2 S23 hq => ?_)
  obtain ⟨rfl, r23, rfl, h⟩ := hq
  refine gk_aload_n dX2_put_26 rfl ?_
  refine gk_getr dX2_put_27 rfl rfl wfX2_41 ?_
  refine gk_getr dX2_put_30 rfl rfl wfX2_103 ?_
  refine gk_iload_n dX2_put_33 rfl ?_
  refine gk_iaload dX2_put_34 rfl h.1 ?_
  replace h := h.2
  refine gk_callSN (as := [_, _]) (rest := []) (ctX7_shelfNumber h) dX2_put_35 wvX2_106 wcX7_shelfNumber rfl (Nat.le_of_ble_eq_true rfl) ⟨Nat.le_refl _, Nat.le_refl _⟩ (fun h9 => absurd rfl h9) (Nat.le_of_ble_eq_true rfl) rfl (fun v G2 S35 hq => ?_)
  obtain ⟨rfl, r35, rfl, h⟩ := hq
  refine gk_istore_n dX2_put_38 (Nat.le_of_ble_eq_true rfl) rfl rfl ?_
  refine gk_aload_n dX2_put_39 rfl ?_
  refine gk_getr dX2_put_40 rfl rfl wfX2_31 ?_
  refine gk_iload_n dX2_put_43 rfl ?_
  refine gk_iload_n dX2_put_44 rfl ?_
  refine gk_iastore dX2_put_45 rfl h.1 ?_
  replace h := h.2
  refine gk_nmS (fun S45 eS45 => ?_)
  replace h := h S45 eS45
  refine gk_aload_n dX2_put_46 rfl ?_
  refine gk_getr dX2_put_47 rfl rfl wfX2_28 ?_
  refine gk_iload_n dX2_put_50 rfl ?_
  refine gk_dup2 dX2_put_51 rfl rfl ?_
  refine gk_iaload dX2_put_52 rfl h.1 ?_
  replace h := h.2
  refine gk_aload_n dX2_put_53 rfl ?_
  refine gk_getr dX2_put_54 rfl rfl wfX2_37 ?_
  refine gk_iload_n dX2_put_57 rfl ?_
  refine gk_callV (as := [_]) (rest := [_, _, _]) (ctX3_weight h) dX2_put_58 rfl rfl wvX2_85 wcX3_weight rfl (Nat.le_of_ble_eq_true rfl) ⟨Nat.le_refl _, Nat.le_refl _⟩ (fun h9 => absurd rfl h9) (Nat.le_of_ble_eq_true rfl) rfl (fun v G2 S58 hq => ?_)
  obtain ⟨rfl, r58, rfl, h⟩ := hq
  refine gk_iadd dX2_put_61 ?_
  refine gk_iastore dX2_put_62 rfl h.1 ?_
  replace h := h.2
  refine gk_nmS (fun S62 eS62 => ?_)
  replace h := h S62 eS62
  refine gk_aload_n dX2_put_63 rfl ?_
  refine gk_getr dX2_put_64 rfl rfl wfX2_28 ?_
  refine gk_iload_n dX2_put_67 rfl ?_
  refine gk_iaload dX2_put_68 rfl h.1 ?_
  replace h := h.2
  refine gk_aload_n dX2_put_69 rfl ?_
  refine gk_getr dX2_put_70 rfl rfl wfX2_37 ?_
  refine gk_geti dX2_put_73 rfl rfl wfX2_110 ?_
  refine gk_icmp_le (tgt := 84) dX2_put_76 (by decide) (fun c76 => ?_) (fun c76 => ?_)
  · replace h := h.1 c76
    exact gk_vret dX2_put_84 rfl rfl rfl ⟨rfl, rfl, h⟩
  · replace h := h.2 c76
    refine gk_aload_n dX2_put_79 rfl ?_
    refine gk_iload_n dX2_put_80 rfl ?_
    refine gk_callV (as := [_]) (rest := []) (ctX2_slide_16 h) dX2_put_81 rfl rfl wvX2_113 wcX2_slide rfl (Nat.le_of_ble_eq_true rfl) ⟨Nat.le_refl _, Nat.le_refl _⟩ (fun h9 => absurd rfl h9) (Nat.le_of_ble_eq_true rfl) rfl (fun v G2 S81 hq => ?_)
    obtain ⟨rfl, rfl, h⟩ := hq
    exact gk_vret dX2_put_84 rfl rfl rfl ⟨rfl, rfl, h⟩
set_option maxHeartbeats 4000000 in
set_option maxRecDepth 100000 in
theorem ctX2_put_23 {E : gz_E} {x1 : Int32} {S : gz_S} {Q : gz_S → Prop} (h : wX2_put 23 x1 S Q) : gz_m E mX2_put 2 0 0 [.ref 23, .int x1] gz_F S (gz_qv Q) := by
  refine gz_meet0 (L0 := [some (.ref 23), some (.int x1), none, none]) (by decide) rfl (Nat.le_of_ble_eq_true rfl) (by decide) ?_
  unfold wX2_put at h
  refine gk_aload_n dX2_put_0 rfl ?_
  refine gk_getr dX2_put_1 rfl rfl wfX2_41 ?_
  refine gk_getr dX2_put_4 rfl rfl wfX2_70 ?_
  refine gk_iload_n dX2_put_7 rfl ?_
  refine gk_iaload dX2_put_8 rfl h.1 ?_
  replace h := h.2
  refine gk_nmi (fun v2_9 ev2_9 => ?_)
  replace h := h v2_9 ev2_9
  refine gk_istore_n dX2_put_9 (Nat.le_of_ble_eq_true rfl) rfl rfl ?_
  refine gk_aload_n dX2_put_10 rfl ?_
  refine gk_getr dX2_put_11 rfl rfl wfX2_37 ?_
  refine gk_aload_n dX2_put_14 rfl ?_
  refine gk_getr dX2_put_15 rfl rfl wfX2_41 ?_
  refine gk_getr dX2_put_18 rfl rfl wfX2_67 ?_
  refine gk_iload_n dX2_put_21 rfl ?_
  refine gk_iaload dX2_put_22 rfl h.1 ?_
  replace h := h.2
  refine gk_callV (as := [_]) (rest := []) (ctX3_sideOf h) dX2_put_23 rfl rfl wvX2_100 wcX3_sideOf rfl (Nat.le_of_ble_eq_true rfl) ⟨Nat.le_refl _, Nat.le_refl _⟩ (fun h9 => absurd rfl h9) (Nat.le_of_ble_eq_true rfl) rfl (fun v G2 S23 hq => ?_)
  obtain ⟨rfl, r23, rfl, h⟩ := hq
  refine gk_aload_n dX2_put_26 rfl ?_
  refine gk_getr dX2_put_27 rfl rfl wfX2_41 ?_
  refine gk_getr dX2_put_30 rfl rfl wfX2_103 ?_
  refine gk_iload_n dX2_put_33 rfl ?_
  refine gk_iaload dX2_put_34 rfl h.1 ?_
  replace h := h.2
  refine gk_callSN (as := [_, _]) (rest := []) (ctX7_shelfNumber h) dX2_put_35 wvX2_106 wcX7_shelfNumber rfl (Nat.le_of_ble_eq_true rfl) ⟨Nat.le_refl _, Nat.le_refl _⟩ (fun h9 => absurd rfl h9) (Nat.le_of_ble_eq_true rfl) rfl (fun v G2 S35 hq => ?_)
  obtain ⟨rfl, r35, rfl, h⟩ := hq
  refine gk_istore_n dX2_put_38 (Nat.le_of_ble_eq_true rfl) rfl rfl ?_
  refine gk_aload_n dX2_put_39 rfl ?_
  refine gk_getr dX2_put_40 rfl rfl wfX2_31 ?_
  refine gk_iload_n dX2_put_43 rfl ?_
  refine gk_iload_n dX2_put_44 rfl ?_
  refine gk_iastore dX2_put_45 rfl h.1 ?_
  replace h := h.2
  refine gk_nmS (fun S45 eS45 => ?_)
  replace h := h S45 eS45
  refine gk_aload_n dX2_put_46 rfl ?_
  refine gk_getr dX2_put_47 rfl rfl wfX2_28 ?_
  refine gk_iload_n dX2_put_50 rfl ?_
  refine gk_dup2 dX2_put_51 rfl rfl ?_
  refine gk_iaload dX2_put_52 rfl h.1 ?_
  replace h := h.2
  refine gk_aload_n dX2_put_53 rfl ?_
  refine gk_getr dX2_put_54 rfl rfl wfX2_37 ?_
  refine gk_iload_n dX2_put_57 rfl ?_
  refine gk_callV (as := [_]) (rest := [_, _, _]) (ctX3_weight h) dX2_put_58 rfl rfl wvX2_85 wcX3_weight rfl (Nat.le_of_ble_eq_true rfl) ⟨Nat.le_refl _, Nat.le_refl _⟩ (fun h9 => absurd rfl h9) (Nat.le_of_ble_eq_true rfl) rfl (fun v G2 S58 hq => ?_)
  obtain ⟨rfl, r58, rfl, h⟩ := hq
  refine gk_iadd dX2_put_61 ?_
  refine gk_iastore dX2_put_62 rfl h.1 ?_
  replace h := h.2
  refine gk_nmS (fun S62 eS62 => ?_)
  replace h := h S62 eS62
  refine gk_aload_n dX2_put_63 rfl ?_
  refine gk_getr dX2_put_64 rfl rfl wfX2_28 ?_
  refine gk_iload_n dX2_put_67 rfl ?_
  refine gk_iaload dX2_put_68 rfl h.1 ?_
  replace h := h.2
  refine gk_aload_n dX2_put_69 rfl ?_
  refine gk_getr dX2_put_70 rfl rfl wfX2_37 ?_
  refine gk_geti dX2_put_73 rfl rfl wfX2_110 ?_
  refine gk_icmp_le (tgt := 84) dX2_put_76 (by decide) (fun c76 => ?_) (fun c76 => ?_)
  · replace h := h.1 c76
    exact gk_vret dX2_put_84 rfl rfl rfl ⟨rfl, rfl, h⟩
  · replace h := h.2 c76
    refine gk_aload_n dX2_put_79 rfl ?_
    refine gk_iload_n dX2_put_80 rfl ?_
    refine gk_callV (as := [_]) (rest := []) (ctX2_slide_23 h) dX2_put_81 rfl rfl wvX2_113 wcX2_slide rfl (Nat.le_of_ble_eq_true rfl) ⟨Nat.le_refl _, Nat.le_refl _⟩ (fun h9 => absurd rfl h9) (Nat.le_of_ble_eq_true rfl) rfl (fun v G2 S81 hq => ?_)
    obtain ⟨rfl, rfl, h⟩ := hq
    exact gk_vret dX2_put_84 rfl rfl rfl ⟨rfl, rfl, h⟩
set_option maxHeartbeats 4000000 in
set_option maxRecDepth 100000 in
theorem oX2_pileUp_23_16 {E : gz_E} {Q : gz_S → Prop} : ∀ (n : Nat) (x1 : Int32) (x2 : Int32) (S : gz_S), wX2_pileUp_23 Q n 16 x1 x2 S → gz_k E mX2_pileUp (3, 0, 0, 73) 0 0 23 [some (.ref 16), some (.int x1), some (.int x2)] [] gz_F S (gz_qv Q) := by
  intro n
  induction n with
  | zero =>
    intro x1 x2 S h
    exact h.elim
  | succ n ih =>
    intro x1 x2 S h
    unfold wX2_pileUp_23 at h
    refine gk_iload_n dX2_pileUp_23 rfl ?_
    refine gk_aload_n dX2_pileUp_24 rfl ?_
    refine gk_geti dX2_pileUp_25 rfl rfl wfX2_24 ?_
    refine gk_icmp_ge (tgt := 62) dX2_pileUp_28 (by decide) (fun c28 => ?_) (fun c28 => ?_)
    · replace h := h.1 c28
      exact gk_vret dX2_pileUp_62 rfl rfl rfl ⟨rfl, rfl, h⟩
    · replace h := h.2 c28
      refine gk_aload_n dX2_pileUp_31 rfl ?_
      refine gk_getr dX2_pileUp_32 rfl rfl wfX2_9 ?_
      refine gk_aload_n dX2_pileUp_35 rfl ?_
      refine gk_getr dX2_pileUp_36 rfl rfl wfX2_21 ?_
      refine gk_iload_n dX2_pileUp_39 rfl ?_
      refine gk_iaload dX2_pileUp_40 rfl h.1 ?_
      replace h := h.2
      refine gk_iaload dX2_pileUp_41 rfl h.1 ?_
      replace h := h.2
      refine gk_iload_n dX2_pileUp_42 rfl ?_
      refine gk_icmp_gt (tgt := 62) dX2_pileUp_43 (by decide) (fun c43 => ?_) (fun c43 => ?_)
      · replace h := h.1 c43
        exact gk_vret dX2_pileUp_62 rfl rfl rfl ⟨rfl, rfl, h⟩
      · replace h := h.2 c43
        refine gk_aload_n dX2_pileUp_46 rfl ?_
        refine gk_aload_n dX2_pileUp_47 rfl ?_
        refine gk_getr dX2_pileUp_48 rfl rfl wfX2_21 ?_
        refine gk_iload_n dX2_pileUp_51 rfl ?_
        refine gk_iaload dX2_pileUp_52 rfl h.1 ?_
        replace h := h.2
        refine gk_callV (as := [_]) (rest := []) (ctX2_put_16 h) dX2_pileUp_53 rfl rfl wvX2_97 wcX2_put rfl (Nat.le_of_ble_eq_true rfl) ⟨Nat.le_refl _, Nat.le_refl _⟩ (fun h9 => absurd rfl h9) (Nat.le_of_ble_eq_true rfl) rfl (fun v G2 S53 hq => ?_)
        obtain ⟨rfl, rfl, h⟩ := hq
        refine gk_iinc dX2_pileUp_56 rfl (Nat.le_of_ble_eq_true rfl) rfl rfl rfl ?_
        refine gk_goto (tgt := 23) dX2_pileUp_59 (by decide) ?_
        exact gk_less (gz_le_s rfl (gz_le_s rfl (gz_le_s rfl gz_le_0))) (ih _ _ _ h)
set_option maxHeartbeats 4000000 in
set_option maxRecDepth 100000 in
theorem ctX2_pileUp_16 {E : gz_E} {x1 : Int32} {S : gz_S} {Q : gz_S → Prop} (h : wX2_pileUp 16 x1 S Q) : gz_m E mX2_pileUp 3 0 0 [.ref 16, .int x1] gz_F S (gz_qv Q) := by
  refine gz_meet0 (L0 := [some (.ref 16), some (.int x1), none]) (by decide) rfl (Nat.le_of_ble_eq_true rfl) (by decide) ?_
  unfold wX2_pileUp at h
  refine gk_aload_n dX2_pileUp_0 rfl ?_
  refine gk_getr dX2_pileUp_1 rfl rfl wfX2_28 ?_
  refine gk_iconst (v := 0) dX2_pileUp_4 rfl ?_
  refine gk_callS (as := [_, _]) (rest := []) (ctJ7_fill_53178_21 h) dX2_pileUp_5 wvX2_45 wcJ7_fill_53178 rfl (Nat.le_of_ble_eq_true rfl) ⟨Nat.le_refl _, Nat.le_refl _⟩ (fun h9 => absurd rfl h9) (Nat.le_of_ble_eq_true rfl) rfl (fun v G2 S5 hq => ?_)
  obtain ⟨rfl, rfl, h⟩ := hq
  refine gk_aload_n dX2_pileUp_8 rfl ?_
  refine gk_getr dX2_pileUp_9 rfl rfl wfX2_31 ?_
  refine gk_iconst (v := (-1)) dX2_pileUp_12 rfl ?_
  refine gk_callS (as := [_, _]) (rest := []) (ctJ7_fill_53178_22 h) dX2_pileUp_13 wvX2_45 wcJ7_fill_53178 rfl (Nat.le_of_ble_eq_true rfl) ⟨Nat.le_refl _, Nat.le_refl _⟩ (fun h9 => absurd rfl h9) (Nat.le_of_ble_eq_true rfl) rfl (fun v G2 S13 hq => ?_)
  obtain ⟨rfl, rfl, h⟩ := hq
  refine gk_aload_n dX2_pileUp_16 rfl ?_
  refine gk_iconst (v := 0) dX2_pileUp_17 rfl ?_
  refine gk_puti dX2_pileUp_18 rfl rfl wfX2_34 wpX2_9 rfl rfl ?_
  refine gk_nmS (fun S18 eS18 => ?_)
  replace h := h S18 eS18
  refine gk_iconst (v := 0) dX2_pileUp_21 rfl ?_
  refine gk_istore_n dX2_pileUp_22 (Nat.le_of_ble_eq_true rfl) rfl rfl ?_
  obtain ⟨m23, h⟩ := h
  exact gk_less (gz_le_s rfl (gz_le_s rfl (gz_le_s rfl gz_le_0))) (oX2_pileUp_23_16 m23 _ _ _ h)
set_option maxHeartbeats 4000000 in
set_option maxRecDepth 100000 in
theorem oX2_pileUp_23_23 {E : gz_E} {Q : gz_S → Prop} : ∀ (n : Nat) (x1 : Int32) (x2 : Int32) (S : gz_S), wX2_pileUp_23 Q n 23 x1 x2 S → gz_k E mX2_pileUp (3, 0, 0, 73) 0 0 23 [some (.ref 23), some (.int x1), some (.int x2)] [] gz_F S (gz_qv Q) := by
  intro n
  induction n with
  | zero =>
    intro x1 x2 S h
    exact h.elim
  | succ n ih =>
    intro x1 x2 S h
    unfold wX2_pileUp_23 at h
    refine gk_iload_n dX2_pileUp_23 rfl ?_
    refine gk_aload_n dX2_pileUp_24 rfl ?_
    refine gk_geti dX2_pileUp_25 rfl rfl wfX2_24 ?_
    refine gk_icmp_ge (tgt := 62) dX2_pileUp_28 (by decide) (fun c28 => ?_) (fun c28 => ?_)
    · replace h := h.1 c28
      exact gk_vret dX2_pileUp_62 rfl rfl rfl ⟨rfl, rfl, h⟩
    · replace h := h.2 c28
      refine gk_aload_n dX2_pileUp_31 rfl ?_
      refine gk_getr dX2_pileUp_32 rfl rfl wfX2_9 ?_
      refine gk_aload_n dX2_pileUp_35 rfl ?_
      refine gk_getr dX2_pileUp_36 rfl rfl wfX2_21 ?_
      refine gk_iload_n dX2_pileUp_39 rfl ?_
      refine gk_iaload dX2_pileUp_40 rfl h.1 ?_
      replace h := h.2
      refine gk_iaload dX2_pileUp_41 rfl h.1 ?_
      replace h := h.2
      refine gk_iload_n dX2_pileUp_42 rfl ?_
      refine gk_icmp_gt (tgt := 62) dX2_pileUp_43 (by decide) (fun c43 => ?_) (fun c43 => ?_)
      · replace h := h.1 c43
        exact gk_vret dX2_pileUp_62 rfl rfl rfl ⟨rfl, rfl, h⟩
      · replace h := h.2 c43
        refine gk_aload_n dX2_pileUp_46 rfl ?_
        refine gk_aload_n dX2_pileUp_47 rfl ?_
        refine gk_getr dX2_pileUp_48 rfl rfl wfX2_21 ?_
        refine gk_iload_n dX2_pileUp_51 rfl ?_
        refine gk_iaload dX2_pileUp_52 rfl h.1 ?_
        replace h := h.2
        refine gk_callV (as := [_]) (rest := []) (ctX2_put_23 h) dX2_pileUp_53 rfl rfl wvX2_97 wcX2_put rfl (Nat.le_of_ble_eq_true rfl) ⟨Nat.le_refl _, Nat.le_refl _⟩ (fun h9 => absurd rfl h9) (Nat.le_of_ble_eq_true rfl) rfl (fun v G2 S53 hq => ?_)
        obtain ⟨rfl, rfl, h⟩ := hq
        refine gk_iinc dX2_pileUp_56 rfl (Nat.le_of_ble_eq_true rfl) rfl rfl rfl ?_
        refine gk_goto (tgt := 23) dX2_pileUp_59 (by decide) ?_
        exact gk_less (gz_le_s rfl (gz_le_s rfl (gz_le_s rfl gz_le_0))) (ih _ _ _ h)
set_option maxHeartbeats 4000000 in
set_option maxRecDepth 100000 in
theorem ctX2_pileUp_23 {E : gz_E} {x1 : Int32} {S : gz_S} {Q : gz_S → Prop} (h : wX2_pileUp 23 x1 S Q) : gz_m E mX2_pileUp 3 0 0 [.ref 23, .int x1] gz_F S (gz_qv Q) := by
  refine gz_meet0 (L0 := [some (.ref 23), some (.int x1), none]) (by decide) rfl (Nat.le_of_ble_eq_true rfl) (by decide) ?_
  unfold wX2_pileUp at h
  refine gk_aload_n dX2_pileUp_0 rfl ?_
  refine gk_getr dX2_pileUp_1 rfl rfl wfX2_28 ?_
  refine gk_iconst (v := 0) dX2_pileUp_4 rfl ?_
  refine gk_callS (as := [_, _]) (rest := []) (ctJ7_fill_53178_28 h) dX2_pileUp_5 wvX2_45 wcJ7_fill_53178 rfl (Nat.le_of_ble_eq_true rfl) ⟨Nat.le_refl _, Nat.le_refl _⟩ (fun h9 => absurd rfl h9) (Nat.le_of_ble_eq_true rfl) rfl (fun v G2 S5 hq => ?_)
  obtain ⟨rfl, rfl, h⟩ := hq
  refine gk_aload_n dX2_pileUp_8 rfl ?_
  refine gk_getr dX2_pileUp_9 rfl rfl wfX2_31 ?_
  refine gk_iconst (v := (-1)) dX2_pileUp_12 rfl ?_
  refine gk_callS (as := [_, _]) (rest := []) (ctJ7_fill_53178_29 h) dX2_pileUp_13 wvX2_45 wcJ7_fill_53178 rfl (Nat.le_of_ble_eq_true rfl) ⟨Nat.le_refl _, Nat.le_refl _⟩ (fun h9 => absurd rfl h9) (Nat.le_of_ble_eq_true rfl) rfl (fun v G2 S13 hq => ?_)
  obtain ⟨rfl, rfl, h⟩ := hq
  refine gk_aload_n dX2_pileUp_16 rfl ?_
  refine gk_iconst (v := 0) dX2_pileUp_17 rfl ?_
  refine gk_puti dX2_pileUp_18 rfl rfl wfX2_34 wpX2_9 rfl rfl ?_
  refine gk_nmS (fun S18 eS18 => ?_)
  replace h := h S18 eS18
  refine gk_iconst (v := 0) dX2_pileUp_21 rfl ?_
  refine gk_istore_n dX2_pileUp_22 (Nat.le_of_ble_eq_true rfl) rfl rfl ?_
  obtain ⟨m23, h⟩ := h
  exact gk_less (gz_le_s rfl (gz_le_s rfl (gz_le_s rfl gz_le_0))) (oX2_pileUp_23_23 m23 _ _ _ h)
