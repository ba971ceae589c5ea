set_option maxHeartbeats 4000000 in
set_option maxRecDepth 100000 in
theorem ctX2_judgeWithout_16 {E : gz_E} {x1 : Int32} {S : gz_S} {Q : gz_S → Prop} (h : wX2_judgeWithout 16 x1 S Q) : gz_m E mX2_judgeWithout 3 0 0 [.ref 16, .int x1] gz_F S (gz_qv Q) := by
  refine gz_meet0 (L0 := [some (.ref 16), some (.int x1), none]) (by decide) rfl (Nat.le_of_ble_eq_true rfl) (by decide) ?_
  unfold wX2_judgeWithout at h
  refine gk_aload_n dX2_judgeWithout_0 rfl ?_
  refine gk_getr dX2_judgeWithout_1 rfl rfl wfX2_15 ?_
  refine gk_iconst (v := (-1)) dX2_judgeWithout_4 rfl ?_
  refine gk_callS (as := [_, _]) (rest := []) (ctJ7_fill_53178_18 h) dX2_judgeWithout_5 wvX2_45 wcJ7_fill_53178 rfl (Nat.le_of_ble_eq_true rfl) ⟨Nat.le_refl _, Nat.le_refl _⟩ (fun h9 => absurd rfl h9) (Nat.le_of_ble_eq_true rfl) rfl (fun v G2 S5 hq => ?_)
  obtain ⟨rfl, rfl, h⟩ := hq
  refine gk_aload_n dX2_judgeWithout_8 rfl ?_
  refine gk_getr dX2_judgeWithout_9 rfl rfl wfX2_18 ?_
  refine gk_iconst (v := 0) dX2_judgeWithout_12 rfl ?_
  refine gk_callS (as := [_, _]) (rest := []) (ctJ7_fill_53178_19 h) dX2_judgeWithout_13 wvX2_45 wcJ7_fill_53178 rfl (Nat.le_of_ble_eq_true rfl) ⟨Nat.le_refl _, Nat.le_refl _⟩ (fun h9 => absurd rfl h9) (Nat.le_of_ble_eq_true rfl) rfl (fun v G2 S13 hq => ?_)
  obtain ⟨rfl, rfl, h⟩ := hq
  refine gk_aload_n dX2_judgeWithout_16 rfl ?_
  refine gk_iconst (v := 0) dX2_judgeWithout_17 rfl ?_
  refine gk_puti dX2_judgeWithout_18 rfl rfl wfX2_24 wpX2_6 rfl rfl ?_
  refine gk_nmS (fun S18 eS18 => ?_)
  replace h := h S18 eS18
  refine gk_iconst (v := 0) dX2_judgeWithout_21 rfl ?_
  refine gk_istore_n dX2_judgeWithout_22 (Nat.le_of_ble_eq_true rfl) rfl rfl ?_
  obtain ⟨m23, h⟩ := h
  exact gk_less (gz_le_s rfl (gz_le_s rfl (gz_le_s rfl gz_le_0))) (oX2_judgeWithout_23_16 m23 _ _ _ h)
set_option maxHeartbeats 4000000 in
set_option maxRecDepth 100000 in
theorem oX2_judgeWithout_69_23 {E : gz_E} {k23 : Int32 → Int32 → gz_S → Prop} {Q : gz_S → Prop} (hk23 : ∀ (x1 : Int32) (x2 : Int32) (S : gz_S), k23 x1 x2 S → gz_k E mX2_judgeWithout (3, 0, 0, 73) 0 0 23 [some (.ref 23), some (.int x1), some (.int x2)] [] gz_F S (gz_qv Q)) : ∀ (x1 : Int32) (x2 : Int32) (S : gz_S), wX2_judgeWithout_69 k23 Q 23 x1 x2 S → gz_k E mX2_judgeWithout (3, 0, 0, 73) 0 0 69 [some (.ref 23), some (.int x1), some (.int x2)] [] gz_F S (gz_qv Q) := by
  intro x1 x2 S h
  unfold wX2_judgeWithout_69 at h
  refine gk_iinc dX2_judgeWithout_69 rfl (Nat.le_of_ble_eq_true rfl) rfl rfl rfl ?_
  refine gk_goto (tgt := 23) dX2_judgeWithout_72 (by decide) ?_
  exact gk_less (gz_le_s rfl (gz_le_s rfl (gz_le_s rfl gz_le_0))) (hk23 _ _ _ h)
set_option maxHeartbeats 4000000 in
set_option maxRecDepth 100000 in
theorem oX2_judgeWithout_53_23_24 {E : gz_E} {k23 : Int32 → Int32 → gz_S → Prop} {Q : gz_S → Prop} (hk23 : ∀ (x1 : Int32) (x2 : Int32) (S : gz_S), k23 x1 x2 S → gz_k E mX2_judgeWithout (3, 0, 0, 73) 0 0 23 [some (.ref 23), some (.int x1), some (.int x2)] [] gz_F S (gz_qv Q)) : ∀ (x1 : Int32) (x2 : Int32) (t1 : Int32) (t2 : Int32) (S : gz_S), wX2_judgeWithout_53 k23 Q 23 24 x1 x2 t1 t2 S → gz_k E mX2_judgeWithout (3, 0, 0, 73) 0 0 53 [some (.ref 23), some (.int x1), some (.int x2)] [.int t2, .int t1, .ref 24] gz_F S (gz_qv Q) := by
  intro x1 x2 t1 t2 S h
  unfold wX2_judgeWithout_53 at h
  refine gk_iastore dX2_judgeWithout_53 rfl h.1 ?_
  replace h := h.2
  refine gk_nmS (fun S53 eS53 => ?_)
  replace h := h S53 eS53
  refine gk_aload_n dX2_judgeWithout_54 rfl ?_
  refine gk_getr dX2_judgeWithout_55 rfl rfl wfX2_9 ?_
  refine gk_iload_n dX2_judgeWithout_58 rfl ?_
  refine gk_iaload dX2_judgeWithout_59 rfl h.1 ?_
  replace h := h.2
  refine gk_iconst (v := (-1)) dX2_judgeWithout_60 rfl ?_
  refine gk_icmp_eq (tgt := 69) dX2_judgeWithout_61 (by decide) (fun c61 => ?_) (fun c61 => ?_)
  · replace h := h.1 c61
    exact gk_less (gz_le_s rfl (gz_le_s rfl (gz_le_s rfl gz_le_0))) (oX2_judgeWithout_69_23 hk23 _ _ _ h)
  · replace h := h.2 c61
    refine gk_aload_n dX2_judgeWithout_64 rfl ?_
    refine gk_iload_n dX2_judgeWithout_65 rfl ?_
    refine gk_callV (as := [_]) (rest := []) (ctX2_take_23 h) dX2_judgeWithout_66 rfl rfl wvX2_64 wcX2_take rfl (Nat.le_of_ble_eq_true rfl) ⟨Nat.le_refl _, Nat.le_refl _⟩ (fun h9 => absurd rfl h9) (Nat.le_of_ble_eq_true rfl) rfl (fun v G2 S66 hq => ?_)
    obtain ⟨rfl, rfl, h⟩ := hq
    exact gk_less (gz_le_s rfl (gz_le_s rfl (gz_le_s rfl gz_le_0))) (oX2_judgeWithout_69_23 hk23 _ _ _ h)
set_option maxHeartbeats 4000000 in
set_option maxRecDepth 100000 in
theorem oX2_judgeWithout_23_23 {E : gz_E} {Q : gz_S → Prop} : ∀ (n : Nat) (x1 : Int32) (x2 : Int32) (S : gz_S), wX2_judgeWithout_23 Q n 23 x1 x2 S → gz_k E mX2_judgeWithout (3, 0, 0, 73) 0 0 23 [some (.ref 23), some (.int x1), some (.int x2)] [] gz_F S (gz_qv Q) := by
  intro n
  induction n with
  | zero =>
    intro x1 x2 S h
    exact h.elim
  | succ n ih =>
    intro x1 x2 S h
    unfold wX2_judgeWithout_23 at h
    refine gk_iload_n dX2_judgeWithout_23 rfl ?_
    refine gk_aload_n dX2_judgeWithout_24 rfl ?_
    refine gk_getr dX2_judgeWithout_25 rfl rfl wfX2_41 ?_
    refine gk_geti dX2_judgeWithout_28 rfl rfl wfX2_55 ?_
    refine gk_icmp_ge (tgt := 75) dX2_judgeWithout_31 (by decide) (fun c31 => ?_) (fun c31 => ?_)
    · replace h := h.1 c31
      exact gk_vret dX2_judgeWithout_75 rfl rfl rfl ⟨rfl, rfl, h⟩
    · replace h := h.2 c31
      refine gk_aload_n dX2_judgeWithout_34 rfl ?_
      refine gk_getr dX2_judgeWithout_35 rfl rfl wfX2_9 ?_
      refine gk_iload_n dX2_judgeWithout_38 rfl ?_
      refine gk_iload_n dX2_judgeWithout_39 rfl ?_
      refine gk_iload_n dX2_judgeWithout_40 rfl ?_
      refine gk_icmp_ne (tgt := 48) dX2_judgeWithout_41 (by decide) (fun c41 => ?_) (fun c41 => ?_)
      · replace h := h.1 c41
        refine gk_aload_n dX2_judgeWithout_48 rfl ?_
        refine gk_iload_n dX2_judgeWithout_49 rfl ?_
        refine gk_callV (as := [_]) (rest := [_, _]) (ctX2_hourByLaw_23 h) dX2_judgeWithout_50 rfl rfl wvX2_60 wcX2_hourByLaw rfl (Nat.le_of_ble_eq_true rfl) ⟨Nat.le_refl _, Nat.le_refl _⟩ (fun h9 => absurd rfl h9) (Nat.le_of_ble_eq_true rfl) rfl (fun v G2 S50 hq => ?_)
        obtain ⟨rfl, r50, rfl, h⟩ := hq
        exact gk_less (gz_le_s rfl (gz_le_s rfl (gz_le_s rfl gz_le_0))) (oX2_judgeWithout_53_23_24 (fun y0 y1 S h => ih y0 y1 S h) _ _ _ _ _ h)
      · replace h := h.2 c41
        refine gk_iconst (v := (-1)) dX2_judgeWithout_44 rfl ?_
        refine gk_goto (tgt := 53) dX2_judgeWithout_45 (by decide) ?_
        exact gk_less (gz_le_s rfl (gz_le_s rfl (gz_le_s rfl gz_le_0))) (oX2_judgeWithout_53_23_24 (fun y0 y1 S h => ih y0 y1 S h) _ _ _ _ _ h)
set_option maxHeartbeats 4000000 in
set_option maxRecDepth 100000 in
theorem ctX2_judgeWithout_23 {E : gz_E} {x1 : Int32} {S : gz_S} {Q : gz_S → Prop} (h : wX2_judgeWithout 23 x1 S Q) : gz_m E mX2_judgeWithout 3 0 0 [.ref 23, .int x1] gz_F S (gz_qv Q) := by
  refine gz_meet0 (L0 := [some (.ref 23), some (.int x1), none]) (by decide) rfl (Nat.le_of_ble_eq_true rfl) (by decide) ?_
  unfold wX2_judgeWithout at h
  refine gk_aload_n dX2_judgeWithout_0 rfl ?_
  refine gk_getr dX2_judgeWithout_1 rfl rfl wfX2_15 ?_
  refine gk_iconst (v := (-1)) dX2_judgeWithout_4 rfl ?_
  refine gk_callS (as := [_, _]) (rest := []) (ctJ7_fill_53178_25 h) dX2_judgeWithout_5 wvX2_45 wcJ7_fill_53178 rfl (Nat.le_of_ble_eq_true rfl) ⟨Nat.le_refl _, Nat.le_refl _⟩ (fun h9 => absurd rfl h9) (Nat.le_of_ble_eq_true rfl) rfl (fun v G2 S5 hq => ?_)
  obtain ⟨rfl, rfl, h⟩ := hq
  refine gk_aload_n dX2_judgeWithout_8 rfl ?_
  refine gk_getr dX2_judgeWithout_9 rfl rfl wfX2_18 ?_
  refine gk_iconst (v := 0) dX2_judgeWithout_12 rfl ?_
  refine gk_callS (as := [_, _]) (rest := []) (ctJ7_fill_53178_26 h) dX2_judgeWithout_13 wvX2_45 wcJ7_fill_53178 rfl (Nat.le_of_ble_eq_true rfl) ⟨Nat.le_refl _, Nat.le_refl _⟩ (fun h9 => absurd rfl h9) (Nat.le_of_ble_eq_true rfl) rfl (fun v G2 S13 hq => ?_)
  obtain ⟨rfl, rfl, h⟩ := hq
  refine gk_aload_n dX2_judgeWithout_16 rfl ?_
  refine gk_iconst (v := 0) dX2_judgeWithout_17 rfl ?_
  refine gk_puti dX2_judgeWithout_18 rfl rfl wfX2_24 wpX2_6 rfl rfl ?_
  refine gk_nmS (fun S18 eS18 => ?_)
  replace h := h S18 eS18
  refine gk_iconst (v := 0) dX2_judgeWithout_21 rfl ?_
  refine gk_istore_n dX2_judgeWithout_22 (Nat.le_of_ble_eq_true rfl) rfl rfl ?_
  obtain ⟨m23, h⟩ := h
  exact gk_less (gz_le_s rfl (gz_le_s rfl (gz_le_s rfl gz_le_0))) (oX2_judgeWithout_23_23 m23 _ _ _ h)
set_option maxHeartbeats 4000000 in
set_option maxRecDepth 100000 in
theorem ctX2_judgeAll_16 {E : gz_E} {S : gz_S} {Q : gz_S → Prop} (h : wX2_judgeAll 16 S Q) : gz_m E mX2_judgeAll 4 0 0 [.ref 16] gz_F S (gz_qv Q) := by
  refine gz_meet0 (L0 := [some (.ref 16)]) (by decide) rfl (Nat.le_of_ble_eq_true rfl) (by decide) ?_
  unfold wX2_judgeAll at h
  refine gk_aload_n dX2_judgeAll_0 rfl ?_
  refine gk_iconst (v := (-1)) dX2_judgeAll_1 rfl ?_
  refine gk_callV (as := [_]) (rest := []) (ctX2_judgeWithout_16 h) dX2_judgeAll_2 rfl rfl wvX2_51 wcX2_judgeWithout rfl (Nat.le_of_ble_eq_true rfl) ⟨Nat.le_refl _, Nat.le_refl _⟩ (fun h9 => absurd rfl h9) (Nat.le_of_ble_eq_true rfl) rfl (fun v G2 S2 hq => ?_)
  obtain ⟨rfl, rfl, h⟩ := hq
  exact gk_vret dX2_judgeAll_5 rfl rfl rfl ⟨rfl, rfl, h⟩
set_option maxHeartbeats 4000000 in
set_option maxRecDepth 100000 in
theorem ctX7_type {E : gz_E} {x1 : Int32} {x2 : Int32} {S : gz_S} {Q : Int32 → gz_S → Prop} (h : wX7_type x1 x2 S Q) : gz_m E mX7_type 5 0 0 [.ref 0, .int x1, .int x2] gz_F S (gz_qi Q) := by
  refine gz_meet0 (L0 := [some (.ref 0), some (.int x1), some (.int x2), none]) (by decide) rfl (Nat.le_of_ble_eq_true rfl) (by decide) ?_
  unfold wX7_type at h
  refine gk_iload_n dX7_type_0 rfl ?_
  refine gk_iconst (v := 0) dX7_type_1 rfl ?_
  refine gk_iconst (v := 1) dX7_type_2 rfl ?_
  refine gk_callS (as := [_, _, _]) (rest := []) (ctX7_within h) dX7_type_3 wvX7_62 wcX7_within rfl (Nat.le_of_ble_eq_true rfl) ⟨Nat.le_refl _, Nat.le_refl _⟩ (fun h9 => absurd rfl h9) (Nat.le_of_ble_eq_true rfl) rfl (fun v G2 S3 hq => ?_)
  obtain ⟨rfl, r3, rfl, h⟩ := hq
  refine gk_if_eq (tgt := 20) dX7_type_6 (by decide) (fun c6 => ?_) (fun c6 => ?_)
  · replace h := h.1 c6
    refine gk_bipush (v := (-2)) dX7_type_20 rfl ?_
    exact gk_iret dX7_type_22 rfl rfl rfl rfl ⟨rfl, _, rfl, h⟩
  · replace h := h.2 c6
    refine gk_iload_n dX7_type_9 rfl ?_
    refine gk_iconst (v := 0) dX7_type_10 rfl ?_
    refine gk_sipush (v := 255) dX7_type_11 rfl ?_
    refine gk_callS (as := [_, _, _]) (rest := []) (ctX7_within h) dX7_type_14 wvX7_62 wcX7_within rfl (Nat.le_of_ble_eq_true rfl) ⟨Nat.le_refl _, Nat.le_refl _⟩ (fun h9 => absurd rfl h9) (Nat.le_of_ble_eq_true rfl) rfl (fun v G2 S14 hq => ?_)
    obtain ⟨rfl, r14, rfl, h⟩ := hq
    refine gk_if_ne (tgt := 23) dX7_type_17 (by decide) (fun c17 => ?_) (fun c17 => ?_)
    · replace h := h.1 c17
      refine gk_aload_n dX7_type_23 rfl ?_
      refine gk_getr dX7_type_24 rfl rfl wfX7_10 ?_
      refine gk_iload_n dX7_type_27 rfl ?_
      refine gk_callV (as := [_]) (rest := []) (ctX3_text h) dX7_type_28 rfl rfl wvX7_66 wcX3_text rfl (Nat.le_of_ble_eq_true rfl) ⟨Nat.le_refl _, Nat.le_refl _⟩ (fun h9 => absurd rfl h9) (Nat.le_of_ble_eq_true rfl) rfl (fun v G2 S28 hq => ?_)
      obtain ⟨rfl, r28, rfl, h2, h⟩ := hq
      rcases h2 with rfl | rfl
      · skip
        refine gk_astore_n dX7_type_31 (Nat.le_of_ble_eq_true rfl) rfl rfl ?_
        refine gk_aload_n dX7_type_32 rfl ?_
        refine gk_callV (as := []) (rest := []) (ctX6_isFull_2 h) dX7_type_33 rfl rfl wvX7_70 wcX6_isFull rfl (Nat.le_of_ble_eq_true rfl) ⟨Nat.le_refl _, Nat.le_refl _⟩ (fun h9 => absurd rfl h9) (Nat.le_of_ble_eq_true rfl) rfl (fun v G2 S33 hq => ?_)
        obtain ⟨rfl, r33, rfl, h⟩ := hq
        refine gk_if_eq (tgt := 42) dX7_type_36 (by decide) (fun c36 => ?_) (fun c36 => ?_)
        · replace h := h.1 c36
          refine gk_aload_n dX7_type_42 rfl ?_
          refine gk_iload_n dX7_type_43 rfl ?_
          refine gk_callV (as := [_]) (rest := []) (ctX6_append_2 h) dX7_type_44 rfl rfl wvX7_76 wcX6_append rfl (Nat.le_of_ble_eq_true rfl) ⟨Nat.le_refl _, Nat.le_refl _⟩ (fun h9 => absurd rfl h9) (Nat.le_of_ble_eq_true rfl) rfl (fun v G2 S44 hq => ?_)
          obtain ⟨rfl, rfl, h⟩ := hq
          refine gk_aload_n dX7_type_47 rfl ?_
          refine gk_getr dX7_type_48 rfl rfl wfX7_28 ?_
          refine gk_callV (as := []) (rest := []) (ctX2_judgeAll_16 h) dX7_type_51 rfl rfl wvX7_80 wcX2_judgeAll rfl (Nat.le_of_ble_eq_true rfl) ⟨Nat.le_refl _, Nat.le_refl _⟩ (fun h9 => absurd rfl h9) (Nat.le_of_ble_eq_true rfl) rfl (fun v G2 S51 hq => ?_)
          obtain ⟨rfl, rfl, h⟩ := hq
          refine gk_aload_n dX7_type_54 rfl ?_
          refine gk_geti dX7_type_55 rfl rfl wfX7_83 ?_
          exact gk_iret dX7_type_58 rfl rfl rfl rfl ⟨rfl, _, rfl, h⟩
        · replace h := h.2 c36
          refine gk_bipush (v := (-4)) dX7_type_39 rfl ?_
          exact gk_iret dX7_type_41 rfl rfl rfl rfl ⟨rfl, _, rfl, h⟩
      · skip
        refine gk_astore_n dX7_type_31 (Nat.le_of_ble_eq_true rfl) rfl rfl ?_
        refine gk_aload_n dX7_type_32 rfl ?_
        refine gk_callV (as := []) (rest := []) (ctX6_isFull_6 h) dX7_type_33 rfl rfl wvX7_70 wcX6_isFull rfl (Nat.le_of_ble_eq_true rfl) ⟨Nat.le_refl _, Nat.le_refl _⟩ (fun h9 => absurd rfl h9) (Nat.le_of_ble_eq_true rfl) rfl (fun v G2 S33_1 hq => ?_)
        obtain ⟨rfl, r33_1, rfl, h⟩ := hq
        refine gk_if_eq (tgt := 42) dX7_type_36 (by decide) (fun c36 => ?_) (fun c36 => ?_)
        · replace h := h.1 c36
          refine gk_aload_n dX7_type_42 rfl ?_
          refine gk_iload_n dX7_type_43 rfl ?_
          refine gk_callV (as := [_]) (rest := []) (ctX6_append_6 h) dX7_type_44 rfl rfl wvX7_76 wcX6_append rfl (Nat.le_of_ble_eq_true rfl) ⟨Nat.le_refl _, Nat.le_refl _⟩ (fun h9 => absurd rfl h9) (Nat.le_of_ble_eq_true rfl) rfl (fun v G2 S44_1 hq => ?_)
          obtain ⟨rfl, rfl, h⟩ := hq
          refine gk_aload_n dX7_type_47 rfl ?_
          refine gk_getr dX7_type_48 rfl rfl wfX7_28 ?_
          refine gk_callV (as := []) (rest := []) (ctX2_judgeAll_16 h) dX7_type_51 rfl rfl wvX7_80 wcX2_judgeAll rfl (Nat.le_of_ble_eq_true rfl) ⟨Nat.le_refl _, Nat.le_refl _⟩ (fun h9 => absurd rfl h9) (Nat.le_of_ble_eq_true rfl) rfl (fun v G2 S51_1 hq => ?_)
          obtain ⟨rfl, rfl, h⟩ := hq
          refine gk_aload_n dX7_type_54 rfl ?_
          refine gk_geti dX7_type_55 rfl rfl wfX7_83 ?_
          exact gk_iret dX7_type_58 rfl rfl rfl rfl ⟨rfl, _, rfl, h⟩
        · replace h := h.2 c36
          refine gk_bipush (v := (-4)) dX7_type_39 rfl ?_
          exact gk_iret dX7_type_41 rfl rfl rfl rfl ⟨rfl, _, rfl, h⟩
    · replace h := h.2 c17
      refine gk_bipush (v := (-2)) dX7_type_20 rfl ?_
      exact gk_iret dX7_type_22 rfl rfl rfl rfl ⟨rfl, _, rfl, h⟩
set_option maxHeartbeats 4000000 in
set_option maxRecDepth 100000 in
theorem ctX8_in {E : gz_E} {x0 : Int64} {x2 : Int64} {x4 : Int64} {S : gz_S} {Q : Int32 → gz_S → Prop} (h : wX8_in x0 x2 x4 S Q) : gz_m E mX8_in 1 0 0 [.long x0, .long x2, .long x4] gz_F S (gz_qi Q) := by
  refine gz_meet0 (L0 := [some (.long x0), none, some (.long x2), none, some (.long x4), none]) (by decide) rfl (Nat.le_of_ble_eq_true rfl) (by decide) ?_
  unfold wX8_in at h
  refine gk_lload_n dX8_in_0 rfl ?_
  refine gk_lload_n dX8_in_1 rfl ?_
  refine gk_lcmp dX8_in_2 ?_
  refine gk_if_lt (tgt := 17) dX8_in_3 (by decide) (fun c3 => ?_) (fun c3 => ?_)
  · replace h := h.1 c3
    refine gk_iconst (v := 0) dX8_in_17 rfl ?_
    exact gk_iret dX8_in_18 rfl rfl rfl rfl ⟨rfl, _, rfl, h⟩
  · replace h := h.2 c3
    refine gk_lload_n dX8_in_6 rfl ?_
    refine gk_lload dX8_in_7 rfl ?_
    refine gk_lcmp dX8_in_9 ?_
    refine gk_if_gt (tgt := 17) dX8_in_10 (by decide) (fun c10 => ?_) (fun c10 => ?_)
    · replace h := h.1 c10
      refine gk_iconst (v := 0) dX8_in_17 rfl ?_
      exact gk_iret dX8_in_18 rfl rfl rfl rfl ⟨rfl, _, rfl, h⟩
    · replace h := h.2 c10
      refine gk_iconst (v := 1) dX8_in_13 rfl ?_
      refine gk_goto (tgt := 18) dX8_in_14 (by decide) ?_
      exact gk_iret dX8_in_18 rfl rfl rfl rfl ⟨rfl, _, rfl, h⟩
set_option maxHeartbeats 4000000 in
set_option maxRecDepth 100000 in
theorem ctX8_isTwo {E : gz_E} {x0 : Int32} {S : gz_S} {Q : Int32 → gz_S → Prop} (h : wX8_isTwo x0 S Q) : gz_m E mX8_isTwo 2 0 0 [.int x0] gz_F S (gz_qi Q) := by
  refine gz_meet0 (L0 := [some (.int x0)]) (by decide) rfl (Nat.le_of_ble_eq_true rfl) (by decide) ?_
  unfold wX8_isTwo at h
  refine gk_iload_n dX8_isTwo_0 rfl ?_
  refine gk_i2l dX8_isTwo_1 ?_
  refine gk_lconst (v := 0) dX8_isTwo_2 rfl ?_
  refine gk_lconst (v := 1) dX8_isTwo_3 rfl ?_
  refine gk_callS (as := [_, _, _]) (rest := []) (ctX8_in h) dX8_isTwo_4 wvX8_92 wcX8_in rfl (Nat.le_of_ble_eq_true rfl) ⟨Nat.le_refl _, Nat.le_refl _⟩ (fun h9 => absurd rfl h9) (Nat.le_of_ble_eq_true rfl) rfl (fun v G2 S4 hq => ?_)
  obtain ⟨rfl, r4, rfl, h⟩ := hq
  exact gk_iret dX8_isTwo_7 rfl rfl rfl (gz_b01_nz h.1) ⟨rfl, _, rfl, h.2⟩
set_option maxHeartbeats 4000000 in
set_option maxRecDepth 100000 in
theorem ctX8_room {E : gz_E} {x0 : Int32} {S : gz_S} {Q : Int32 → gz_S → Prop} (h : wX8_room x0 S Q) : gz_m E mX8_room 1 0 0 [.int x0] gz_F S (gz_qi Q) := by
  refine gz_meet0 (L0 := [some (.int x0)]) (by decide) rfl (Nat.le_of_ble_eq_true rfl) (by decide) ?_
  unfold wX8_room at h
  refine gk_iload_n dX8_room_0 rfl ?_
  refine gk_if_ne (tgt := 9) dX8_room_1 (by decide) (fun c1 => ?_) (fun c1 => ?_)
  · replace h := h.1 c1
    refine gk_bipush (v := 20) dX8_room_9 rfl ?_
    exact gk_iret dX8_room_11 rfl rfl rfl rfl ⟨rfl, _, rfl, h⟩
  · replace h := h.2 c1
    refine gk_bipush (v := 16) dX8_room_4 rfl ?_
    refine gk_goto (tgt := 11) dX8_room_6 (by decide) ?_
    exact gk_iret dX8_room_11 rfl rfl rfl rfl ⟨rfl, _, rfl, h⟩
set_option maxHeartbeats 4000000 in
set_option maxRecDepth 100000 in
theorem ctX8_type {E : gz_E} {x1 : Int32} {x2 : Int32} {S : gz_S} {Q : Int32 → gz_S → Prop} (h : wX8_type x1 x2 S Q) : gz_m E mX8_type 3 0 0 [.ref 45, .int x1, .int x2] gz_F S (gz_qi Q) := by
  refine gz_meet0 (L0 := [some (.ref 45), some (.int x1), some (.int x2)]) (by decide) rfl (Nat.le_of_ble_eq_true rfl) (by decide) ?_
  unfold wX8_type at h
  refine gk_iload_n dX8_type_0 rfl ?_
  refine gk_callS (as := [_]) (rest := []) (ctX8_isTwo h) dX8_type_1 wvX8_121 wcX8_isTwo rfl (Nat.le_of_ble_eq_true rfl) ⟨Nat.le_refl _, Nat.le_refl _⟩ (fun h9 => absurd rfl h9) (Nat.le_of_ble_eq_true rfl) rfl (fun v G2 S1 hq => ?_)
  obtain ⟨rfl, r1, rfl, h⟩ := hq
  refine gk_if_eq (tgt := 19) dX8_type_4 (by decide) (fun c4 => ?_) (fun c4 => ?_)
  · replace h := h.1 c4
    refine gk_bipush (v := (-2)) dX8_type_19 rfl ?_
    exact gk_iret dX8_type_21 rfl rfl rfl rfl ⟨rfl, _, rfl, h⟩
  · replace h := h.2 c4
    refine gk_iload_n dX8_type_7 rfl ?_
    refine gk_i2l dX8_type_8 ?_
    refine gk_lconst (v := 0) dX8_type_9 rfl ?_
    refine gk_ldc2 dX8_type_10 wkX8_124 ?_
    refine gk_callS (as := [_, _, _]) (rest := []) (ctX8_in h) dX8_type_13 wvX8_92 wcX8_in rfl (Nat.le_of_ble_eq_true rfl) ⟨Nat.le_refl _, Nat.le_refl _⟩ (fun h9 => absurd rfl h9) (Nat.le_of_ble_eq_true rfl) rfl (fun v G2 S13 hq => ?_)
    obtain ⟨rfl, r13, rfl, h⟩ := hq
    refine gk_if_ne (tgt := 22) dX8_type_16 (by decide) (fun c16 => ?_) (fun c16 => ?_)
    · replace h := h.1 c16
      refine gk_aload_n dX8_type_22 rfl ?_
      refine gk_getr dX8_type_23 rfl rfl wfX8_25 ?_
      refine gk_iload_n dX8_type_26 rfl ?_
      refine gk_iaload dX8_type_27 rfl h.1 ?_
      replace h := h.2
      refine gk_iload_n dX8_type_28 rfl ?_
      refine gk_callS (as := [_]) (rest := [_]) (ctX8_room h) dX8_type_29 wvX8_126 wcX8_room rfl (Nat.le_of_ble_eq_true rfl) ⟨Nat.le_refl _, Nat.le_refl _⟩ (fun h9 => absurd rfl h9) (Nat.le_of_ble_eq_true rfl) rfl (fun v G2 S29 hq => ?_)
      obtain ⟨rfl, r29, rfl, h⟩ := hq
      refine gk_icmp_ne (tgt := 38) dX8_type_32 (by decide) (fun c32 => ?_) (fun c32 => ?_)
      · replace h := h.1 c32
        refine gk_aload_n dX8_type_38 rfl ?_
        refine gk_getr dX8_type_39 rfl rfl wfX8_22 ?_
        refine gk_bipush (v := 16) dX8_type_42 rfl ?_
        refine gk_iload_n dX8_type_44 rfl ?_
        refine gk_imul dX8_type_45 ?_
        refine gk_aload_n dX8_type_46 rfl ?_
        refine gk_getr dX8_type_47 rfl rfl wfX8_25 ?_
        refine gk_iload_n dX8_type_50 rfl ?_
        refine gk_iaload dX8_type_51 rfl h.1 ?_
        replace h := h.2
        refine gk_iadd dX8_type_52 ?_
        refine gk_iload_n dX8_type_53 rfl ?_
        refine gk_iastore dX8_type_54 rfl h.1 ?_
        replace h := h.2
        refine gk_nmS (fun S54 eS54 => ?_)
        replace h := h S54 eS54
        refine gk_aload_n dX8_type_55 rfl ?_
        refine gk_getr dX8_type_56 rfl rfl wfX8_25 ?_
        refine gk_iload_n dX8_type_59 rfl ?_
        refine gk_dup2 dX8_type_60 rfl rfl ?_
        refine gk_iaload dX8_type_61 rfl h.1 ?_
        replace h := h.2
        refine gk_iconst (v := 1) dX8_type_62 rfl ?_
        refine gk_iadd dX8_type_63 ?_
        refine gk_iastore dX8_type_64 rfl h.1 ?_
        replace h := h.2
        refine gk_nmS (fun S64 eS64 => ?_)
        replace h := h S64 eS64
        refine gk_aload_n dX8_type_65 rfl ?_
        refine gk_getr dX8_type_66 rfl rfl wfX8_25 ?_
        refine gk_iload_n dX8_type_69 rfl ?_
        refine gk_iaload dX8_type_70 rfl h.1 ?_
        replace h := h.2
        exact gk_iret dX8_type_71 rfl rfl rfl rfl ⟨rfl, _, rfl, h⟩
      · replace h := h.2 c32
        refine gk_bipush (v := (-4)) dX8_type_35 rfl ?_
        exact gk_iret dX8_type_37 rfl rfl rfl rfl ⟨rfl, _, rfl, h⟩
    · replace h := h.2 c16
      refine gk_bipush (v := (-2)) dX8_type_19 rfl ?_
      exact gk_iret dX8_type_21 rfl rfl rfl rfl ⟨rfl, _, rfl, h⟩
set_option maxHeartbeats 4000000 in
set_option maxRecDepth 100000 in
theorem ctX6_clear_2 {E : gz_E} {S : gz_S} {Q : gz_S → Prop} (h : wX6_clear 2 S Q) : gz_m E mX6_clear 1 0 0 [.ref 2] gz_F S (gz_qv Q) := by
  refine gz_meet0 (L0 := [some (.ref 2)]) (by decide) rfl (Nat.le_of_ble_eq_true rfl) (by decide) ?_
  unfold wX6_clear at h
  refine gk_aload_n dX6_clear_0 rfl ?_
  refine gk_iconst (v := 0) dX6_clear_1 rfl ?_
  refine gk_puti dX6_clear_2 rfl rfl wfX6_9 wpX6_5 rfl rfl ?_
  refine gk_nmS (fun S2 eS2 => ?_)
  replace h := h S2 eS2
  refine gk_aload_n dX6_clear_5 rfl ?_
  refine gk_iconst (v := (-1)) dX6_clear_6 rfl ?_
  refine gk_puti dX6_clear_7 rfl rfl wfX6_15 wpX6_6 rfl rfl ?_
  refine gk_nmS (fun S7 eS7 => ?_)
  replace h := h S7 eS7
  refine gk_aload_n dX6_clear_10 rfl ?_
  refine gk_iconst (v := 0) dX6_clear_11 rfl ?_
  refine gk_puti dX6_clear_12 rfl rfl wfX6_18 wpX6_7 rfl rfl ?_
  refine gk_nmS (fun S12 eS12 => ?_)
  replace h := h S12 eS12
  exact gk_vret dX6_clear_15 rfl rfl rfl ⟨rfl, rfl, h⟩
set_option maxHeartbeats 4000000 in
set_option maxRecDepth 100000 in
theorem ctX6_clear_6 {E : gz_E} {S : gz_S} {Q : gz_S → Prop} (h : wX6_clear 6 S Q) : gz_m E mX6_clear 1 0 0 [.ref 6] gz_F S (gz_qv Q) := by
  refine gz_meet0 (L0 := [some (.ref 6)]) (by decide) rfl (Nat.le_of_ble_eq_true rfl) (by decide) ?_
  unfold wX6_clear at h
  refine gk_aload_n dX6_clear_0 rfl ?_
  refine gk_iconst (v := 0) dX6_clear_1 rfl ?_
  refine gk_puti dX6_clear_2 rfl rfl wfX6_9 wpX6_5 rfl rfl ?_
  refine gk_nmS (fun S2 eS2 => ?_)
  replace h := h S2 eS2
  refine gk_aload_n dX6_clear_5 rfl ?_
  refine gk_iconst (v := (-1)) dX6_clear_6 rfl ?_
  refine gk_puti dX6_clear_7 rfl rfl wfX6_15 wpX6_6 rfl rfl ?_
  refine gk_nmS (fun S7 eS7 => ?_)
  replace h := h S7 eS7
  refine gk_aload_n dX6_clear_10 rfl ?_
  refine gk_iconst (v := 0) dX6_clear_11 rfl ?_
  refine gk_puti dX6_clear_12 rfl rfl wfX6_18 wpX6_7 rfl rfl ?_
  refine gk_nmS (fun S12 eS12 => ?_)
  replace h := h S12 eS12
  exact gk_vret dX6_clear_15 rfl rfl rfl ⟨rfl, rfl, h⟩
set_option maxHeartbeats 4000000 in
set_option maxRecDepth 100000 in
theorem ctX7_wipe {E : gz_E} {x1 : Int32} {S : gz_S} {Q : Int32 → gz_S → Prop} (h : wX7_wipe x1 S Q) : gz_m E mX7_wipe 5 0 0 [.ref 0, .int x1] gz_F S (gz_qi Q) := by
  refine gz_meet0 (L0 := [some (.ref 0), some (.int x1), none, none]) (by decide) rfl (Nat.le_of_ble_eq_true rfl) (by decide) ?_
  unfold wX7_wipe at h
  refine gk_iload_n dX7_wipe_0 rfl ?_
  refine gk_iconst (v := 0) dX7_wipe_1 rfl ?_
  refine gk_iconst (v := 1) dX7_wipe_2 rfl ?_
  refine gk_callS (as := [_, _, _]) (rest := []) (ctX7_within h) dX7_wipe_3 wvX7_62 wcX7_within rfl (Nat.le_of_ble_eq_true rfl) ⟨Nat.le_refl _, Nat.le_refl _⟩ (fun h9 => absurd rfl h9) (Nat.le_of_ble_eq_true rfl) rfl (fun v G2 S3 hq => ?_)
  obtain ⟨rfl, r3, rfl, h⟩ := hq
  refine gk_if_ne (tgt := 12) dX7_wipe_6 (by decide) (fun c6 => ?_) (fun c6 => ?_)
  · replace h := h.1 c6
    refine gk_aload_n dX7_wipe_12 rfl ?_
    refine gk_getr dX7_wipe_13 rfl rfl wfX7_10 ?_
    refine gk_iload_n dX7_wipe_16 rfl ?_
    refine gk_callV (as := [_]) (rest := []) (ctX3_text h) dX7_wipe_17 rfl rfl wvX7_66 wcX3_text rfl (Nat.le_of_ble_eq_true rfl) ⟨Nat.le_refl _, Nat.le_refl _⟩ (fun h9 => absurd rfl h9) (Nat.le_of_ble_eq_true rfl) rfl (fun v G2 S17 hq => ?_)
    obtain ⟨rfl, r17, rfl, h2, h⟩ := hq
    rcases h2 with rfl | rfl
    · skip
      refine gk_astore_n dX7_wipe_20 (Nat.le_of_ble_eq_true rfl) rfl rfl ?_
      refine gk_aload_n dX7_wipe_21 rfl ?_
      refine gk_geti dX7_wipe_22 rfl rfl wfX7_83 ?_
      refine gk_nmi (fun v3_25 ev3_25 => ?_)
      replace h := h v3_25 ev3_25
      refine gk_istore_n dX7_wipe_25 (Nat.le_of_ble_eq_true rfl) rfl rfl ?_
      refine gk_aload_n dX7_wipe_26 rfl ?_
      refine gk_callV (as := []) (rest := []) (ctX6_clear_2 h) dX7_wipe_27 rfl rfl wvX7_86 wcX6_clear rfl (Nat.le_of_ble_eq_true rfl) ⟨Nat.le_refl _, Nat.le_refl _⟩ (fun h9 => absurd rfl h9) (Nat.le_of_ble_eq_true rfl) rfl (fun v G2 S27 hq => ?_)
      obtain ⟨rfl, rfl, h⟩ := hq
      refine gk_aload_n dX7_wipe_30 rfl ?_
      refine gk_getr dX7_wipe_31 rfl rfl wfX7_28 ?_
      refine gk_callV (as := []) (rest := []) (ctX2_judgeAll_16 h) dX7_wipe_34 rfl rfl wvX7_80 wcX2_judgeAll rfl (Nat.le_of_ble_eq_true rfl) ⟨Nat.le_refl _, Nat.le_refl _⟩ (fun h9 => absurd rfl h9) (Nat.le_of_ble_eq_true rfl) rfl (fun v G2 S34 hq => ?_)
      obtain ⟨rfl, rfl, h⟩ := hq
      refine gk_iload_n dX7_wipe_37 rfl ?_
      exact gk_iret dX7_wipe_38 rfl rfl rfl rfl ⟨rfl, _, rfl, h⟩
    · skip
      refine gk_astore_n dX7_wipe_20 (Nat.le_of_ble_eq_true rfl) rfl rfl ?_
      refine gk_aload_n dX7_wipe_21 rfl ?_
      refine gk_geti dX7_wipe_22 rfl rfl wfX7_83 ?_
      refine gk_nmi (fun v3_25_1 ev3_25_1 => ?_)
      replace h := h v3_25_1 ev3_25_1
      refine gk_istore_n dX7_wipe_25 (Nat.le_of_ble_eq_true rfl) rfl rfl ?_
      refine gk_aload_n dX7_wipe_26 rfl ?_
      refine gk_callV (as := []) (rest := []) (ctX6_clear_6 h) dX7_wipe_27 rfl rfl wvX7_86 wcX6_clear rfl (Nat.le_of_ble_eq_true rfl) ⟨Nat.le_refl _, Nat.le_refl _⟩ (fun h9 => absurd rfl h9) (Nat.le_of_ble_eq_true rfl) rfl (fun v G2 S27_1 hq => ?_)
      obtain ⟨rfl, rfl, h⟩ := hq
      refine gk_aload_n dX7_wipe_30 rfl ?_
      refine gk_getr dX7_wipe_31 rfl rfl wfX7_28 ?_
      refine gk_callV (as := []) (rest := []) (ctX2_judgeAll_16 h) dX7_wipe_34 rfl rfl wvX7_80 wcX2_judgeAll rfl (Nat.le_of_ble_eq_true rfl) ⟨Nat.le_refl _, Nat.le_refl _⟩ (fun h9 => absurd rfl h9) (Nat.le_of_ble_eq_true rfl) rfl (fun v G2 S34_1 hq => ?_)
      obtain ⟨rfl, rfl, h⟩ := hq
      refine gk_iload_n dX7_wipe_37 rfl ?_
      exact gk_iret dX7_wipe_38 rfl rfl rfl rfl ⟨rfl, _, rfl, h⟩
  · replace h := h.2 c6
    refine gk_bipush (v := (-2)) dX7_wipe_9 rfl ?_
    exact gk_iret dX7_wipe_11 rfl rfl rfl rfl ⟨rfl, _, rfl, h⟩
set_option maxHeartbeats 4000000 in
set_option maxRecDepth 100000 in
theorem ctX8_wipe {E : gz_E} {x1 : Int32} {S : gz_S} {Q : Int32 → gz_S → Prop} (h : wX8_wipe x1 S Q) : gz_m E mX8_wipe 3 0 0 [.ref 45, .int x1] gz_F S (gz_qi Q) := by
  refine gz_meet0 (L0 := [some (.ref 45), some (.int x1), none]) (by decide) rfl (Nat.le_of_ble_eq_true rfl) (by decide) ?_
  unfold wX8_wipe at h
  refine gk_iload_n dX8_wipe_0 rfl ?_
  refine gk_callS (as := [_]) (rest := []) (ctX8_isTwo h) dX8_wipe_1 wvX8_121 wcX8_isTwo rfl (Nat.le_of_ble_eq_true rfl) ⟨Nat.le_refl _, Nat.le_refl _⟩ (fun h9 => absurd rfl h9) (Nat.le_of_ble_eq_true rfl) rfl (fun v G2 S1 hq => ?_)
  obtain ⟨rfl, r1, rfl, h⟩ := hq
  refine gk_if_ne (tgt := 10) dX8_wipe_4 (by decide) (fun c4 => ?_) (fun c4 => ?_)
  · replace h := h.1 c4
    refine gk_aload_n dX8_wipe_10 rfl ?_
    refine gk_getr dX8_wipe_11 rfl rfl wfX8_25 ?_
    refine gk_iload_n dX8_wipe_14 rfl ?_
    refine gk_iaload dX8_wipe_15 rfl h.1 ?_
    replace h := h.2
    refine gk_nmi (fun v2_16 ev2_16 => ?_)
    replace h := h v2_16 ev2_16
    refine gk_istore_n dX8_wipe_16 (Nat.le_of_ble_eq_true rfl) rfl rfl ?_
    refine gk_aload_n dX8_wipe_17 rfl ?_
    refine gk_getr dX8_wipe_18 rfl rfl wfX8_25 ?_
    refine gk_iload_n dX8_wipe_21 rfl ?_
    refine gk_iconst (v := 0) dX8_wipe_22 rfl ?_
    refine gk_iastore dX8_wipe_23 rfl h.1 ?_
    replace h := h.2
    refine gk_nmS (fun S23 eS23 => ?_)
    replace h := h S23 eS23
    refine gk_iload_n dX8_wipe_24 rfl ?_
    exact gk_iret dX8_wipe_25 rfl rfl rfl rfl ⟨rfl, _, rfl, h⟩
  · replace h := h.2 c4
    refine gk_bipush (v := (-2)) dX8_wipe_7 rfl ?_
    exact gk_iret dX8_wipe_9 rfl rfl rfl rfl ⟨rfl, _, rfl, h⟩
set_option maxHeartbeats 4000000 in
set_option maxRecDepth 100000 in
theorem ctX7_fault {E : gz_E} {x1 : Int32} {S : gz_S} {Q : Int32 → gz_S → Prop} (h : wX7_fault x1 S Q) : gz_m E mX7_fault 2 0 0 [.ref 0, .int x1] gz_F S (gz_qi Q) := by
  refine gz_meet0 (L0 := [some (.ref 0), some (.int x1)]) (by decide) rfl (Nat.le_of_ble_eq_true rfl) (by decide) ?_
  unfold wX7_fault at h
  refine gk_iload_n dX7_fault_0 rfl ?_
  refine gk_iconst (v := 0) dX7_fault_1 rfl ?_
  refine gk_iconst (v := 1) dX7_fault_2 rfl ?_
  refine gk_callS (as := [_, _, _]) (rest := []) (ctX7_within h) dX7_fault_3 wvX7_62 wcX7_within rfl (Nat.le_of_ble_eq_true rfl) ⟨Nat.le_refl _, Nat.le_refl _⟩ (fun h9 => absurd rfl h9) (Nat.le_of_ble_eq_true rfl) rfl (fun v G2 S3 hq => ?_)
  obtain ⟨rfl, r3, rfl, h⟩ := hq
  refine gk_if_eq (tgt := 23) dX7_fault_6 (by decide) (fun c6 => ?_) (fun c6 => ?_)
  · replace h := h.1 c6
    refine gk_bipush (v := (-2)) dX7_fault_23 rfl ?_
    exact gk_iret dX7_fault_25 rfl rfl rfl rfl ⟨rfl, _, rfl, h⟩
  · replace h := h.2 c6
    refine gk_aload_n dX7_fault_9 rfl ?_
    refine gk_getr dX7_fault_10 rfl rfl wfX7_10 ?_
    refine gk_iload_n dX7_fault_13 rfl ?_
    refine gk_callV (as := [_]) (rest := []) (ctX3_text h) dX7_fault_14 rfl rfl wvX7_66 wcX3_text rfl (Nat.le_of_ble_eq_true rfl) ⟨Nat.le_refl _, Nat.le_refl _⟩ (fun h9 => absurd rfl h9) (Nat.le_of_ble_eq_true rfl) rfl (fun v G2 S14 hq => ?_)
    obtain ⟨rfl, r14, rfl, h2, h⟩ := hq
    rcases h2 with rfl | rfl
    · skip
      refine gk_geti dX7_fault_17 rfl rfl wfX7_89 ?_
      refine gk_goto (tgt := 25) dX7_fault_20 (by decide) ?_
      exact gk_iret dX7_fault_25 rfl rfl rfl rfl ⟨rfl, _, rfl, h⟩
    · skip
      refine gk_geti dX7_fault_17 rfl rfl wfX7_89 ?_
      refine gk_goto (tgt := 25) dX7_fault_20 (by decide) ?_
      exact gk_iret dX7_fault_25 rfl rfl rfl rfl ⟨rfl, _, rfl, h⟩
set_option maxHeartbeats 4000000 in
set_option maxRecDepth 100000 in
theorem ctX8_byteAt {E : gz_E} {x1 : Int32} {x2 : Int32} {S : gz_S} {Q : Int32 → gz_S → Prop} (h : wX8_byteAt x1 x2 S Q) : gz_m E mX8_byteAt 1 0 0 [.ref 45, .int x1, .int x2] gz_F S (gz_qi Q) := by
  refine gz_meet0 (L0 := [some (.ref 45), some (.int x1), some (.int x2)]) (by decide) rfl (Nat.le_of_ble_eq_true rfl) (by decide) ?_
  unfold wX8_byteAt at h
  refine gk_iload_n dX8_byteAt_0 rfl ?_
  refine gk_aload_n dX8_byteAt_1 rfl ?_
  refine gk_getr dX8_byteAt_2 rfl rfl wfX8_25 ?_
  refine gk_iload_n dX8_byteAt_5 rfl ?_
  refine gk_iaload dX8_byteAt_6 rfl h.1 ?_
  replace h := h.2
  refine gk_icmp_ge (tgt := 24) dX8_byteAt_7 (by decide) (fun c7 => ?_) (fun c7 => ?_)
  · replace h := h.1 c7
    refine gk_iconst (v := (-1)) dX8_byteAt_24 rfl ?_
    exact gk_iret dX8_byteAt_25 rfl rfl rfl rfl ⟨rfl, _, rfl, h⟩
  · replace h := h.2 c7
    refine gk_aload_n dX8_byteAt_10 rfl ?_
    refine gk_getr dX8_byteAt_11 rfl rfl wfX8_22 ?_
    refine gk_bipush (v := 16) dX8_byteAt_14 rfl ?_
    refine gk_iload_n dX8_byteAt_16 rfl ?_
    refine gk_imul dX8_byteAt_17 ?_
    refine gk_iload_n dX8_byteAt_18 rfl ?_
    refine gk_iadd dX8_byteAt_19 ?_
    refine gk_iaload dX8_byteAt_20 rfl h.1 ?_
    replace h := h.2
    refine gk_goto (tgt := 25) dX8_byteAt_21 (by decide) ?_
    exact gk_iret dX8_byteAt_25 rfl rfl rfl rfl ⟨rfl, _, rfl, h⟩
set_option maxHeartbeats 4000000 in
set_option maxRecDepth 100000 in
theorem oX8_readsPeople_57 {E : gz_E} {Q : Int32 → gz_S → Prop} : ∀ (x1 : Int32) (S : gz_S), wX8_readsPeople_57 Q x1 S → gz_k E mX8_readsPeople (2, 0, 0, 73) 0 0 57 [some (.ref 45), some (.int x1), none, none] [] gz_F S (gz_qi Q) := by
  intro x1 S h
  unfold wX8_readsPeople_57 at h
  refine gk_aload_n dX8_readsPeople_57 rfl ?_
  refine gk_iconst (v := 0) dX8_readsPeople_58 rfl ?_
  refine gk_puti dX8_readsPeople_59 rfl rfl wfX8_129 wpX8_7 rfl rfl ?_
  refine gk_nmS (fun S59 eS59 => ?_)
  replace h := h S59 eS59
  refine gk_iload_n dX8_readsPeople_62 rfl ?_
  exact gk_iret dX8_readsPeople_63 rfl rfl rfl rfl ⟨rfl, _, rfl, h⟩
set_option maxHeartbeats 4000000 in
set_option maxRecDepth 100000 in
theorem oX8_readsPeople_114 {E : gz_E} {k7 : Int32 → gz_S → Prop} {Q : Int32 → gz_S → Prop} (hk7 : ∀ (x1 : Int32) (S : gz_S), k7 x1 S → gz_k E mX8_readsPeople (2, 0, 0, 73) 0 0 7 [some (.ref 45), some (.int x1), none, none] [] gz_F S (gz_qi Q)) : ∀ (x1 : Int32) (t1 : Int32) (t2 : Int32) (S : gz_S), wX8_readsPeople_114 k7 Q x1 t1 t2 S → gz_k E mX8_readsPeople (2, 0, 0, 73) 0 0 114 [some (.ref 45), some (.int x1), none, none] [.int t2, .int t1, .ref 53] gz_F S (gz_qi Q) := by
  intro x1 t1 t2 S h
  unfold wX8_readsPeople_114 at h
  refine gk_iastore dX8_readsPeople_114 rfl h.1 ?_
  replace h := h.2
  refine gk_nmS (fun S114 eS114 => ?_)
  replace h := h S114 eS114
  refine gk_aload_n dX8_readsPeople_115 rfl ?_
  refine gk_dup dX8_readsPeople_116 rfl ?_
  refine gk_geti dX8_readsPeople_117 rfl rfl wfX8_129 ?_
  refine gk_iconst (v := 1) dX8_readsPeople_120 rfl ?_
  refine gk_iadd dX8_readsPeople_121 ?_
  refine gk_puti dX8_readsPeople_122 rfl rfl wfX8_129 wpX8_7 rfl rfl ?_
  refine gk_nmS (fun S122 eS122 => ?_)
  replace h := h S122 eS122
  refine gk_iinc dX8_readsPeople_125 rfl (Nat.le_of_ble_eq_true rfl) rfl rfl rfl ?_
  refine gk_goto (tgt := 7) dX8_readsPeople_128 (by decide) ?_
  exact gk_less (gz_le_s rfl (gz_le_s rfl (gz_le_n (gz_le_n gz_le_0)))) (hk7 _ _ h)
set_option maxHeartbeats 4000000 in
set_option maxRecDepth 100000 in
theorem oX8_readsPeople_85 {E : gz_E} {k7 : Int32 → gz_S → Prop} {Q : Int32 → gz_S → Prop} (hk7 : ∀ (x1 : Int32) (S : gz_S), k7 x1 S → gz_k E mX8_readsPeople (2, 0, 0, 73) 0 0 7 [some (.ref 45), some (.int x1), none, none] [] gz_F S (gz_qi Q)) : ∀ (x1 : Int32) (x2 : Int32) (x3 : Int32) (S : gz_S), wX8_readsPeople_85 k7 Q x1 x2 x3 S → gz_k E mX8_readsPeople (2, 0, 0, 73) 0 0 85 [some (.ref 45), some (.int x1), some (.int x2), some (.int x3)] [] gz_F S (gz_qi Q) := by
  intro x1 x2 x3 S h
  unfold wX8_readsPeople_85 at h
  refine gk_aload_n dX8_readsPeople_85 rfl ?_
  refine gk_getr dX8_readsPeople_86 rfl rfl wfX8_28 ?_
  refine gk_aload_n dX8_readsPeople_89 rfl ?_
  refine gk_geti dX8_readsPeople_90 rfl rfl wfX8_129 ?_
  refine gk_iload_n dX8_readsPeople_93 rfl ?_
  refine gk_iastore dX8_readsPeople_94 rfl h.1 ?_
  replace h := h.2
  refine gk_nmS (fun S94 eS94 => ?_)
  replace h := h S94 eS94
  refine gk_aload_n dX8_readsPeople_95 rfl ?_
  refine gk_getr dX8_readsPeople_96 rfl rfl wfX8_31 ?_
  refine gk_aload_n dX8_readsPeople_99 rfl ?_
  refine gk_geti dX8_readsPeople_100 rfl rfl wfX8_129 ?_
  refine gk_iload_n dX8_readsPeople_103 rfl ?_
  refine gk_bipush (v := 121) dX8_readsPeople_104 rfl ?_
  refine gk_icmp_ne (tgt := 113) dX8_readsPeople_106 (by decide) (fun c106 => ?_) (fun c106 => ?_)
  · replace h := h.1 c106
    refine gk_iconst (v := 1) dX8_readsPeople_113 rfl ?_
    exact gk_less (gz_le_s rfl (gz_le_s rfl (gz_le_n (gz_le_n gz_le_0)))) (oX8_readsPeople_114 hk7 _ _ _ _ h)
  · replace h := h.2 c106
    refine gk_iconst (v := 0) dX8_readsPeople_109 rfl ?_
    refine gk_goto (tgt := 114) dX8_readsPeople_110 (by decide) ?_
    exact gk_less (gz_le_s rfl (gz_le_s rfl (gz_le_n (gz_le_n gz_le_0)))) (oX8_readsPeople_114 hk7 _ _ _ _ h)
set_option maxHeartbeats 4000000 in
set_option maxRecDepth 100000 in
theorem oX8_readsPeople_7 {E : gz_E} {Q : Int32 → gz_S → Prop} : ∀ (n : Nat) (x1 : Int32) (S : gz_S), wX8_readsPeople_7 Q n x1 S → gz_k E mX8_readsPeople (2, 0, 0, 73) 0 0 7 [some (.ref 45), some (.int x1), none, none] [] gz_F S (gz_qi Q) := by
  intro n
  induction n with
  | zero =>
    intro x1 S h
    exact h.elim
  | succ n ih =>
    intro x1 S h
    unfold wX8_readsPeople_7 at h
    refine gk_iload_n dX8_readsPeople_7 rfl ?_
    refine gk_aload_n dX8_readsPeople_8 rfl ?_
    refine gk_getr dX8_readsPeople_9 rfl rfl wfX8_25 ?_
    refine gk_iconst (v := 0) dX8_readsPeople_12 rfl ?_
    refine gk_iaload dX8_readsPeople_13 rfl h.1 ?_
    replace h := h.2
    refine gk_icmp_ge (tgt := 131) dX8_readsPeople_14 (by decide) (fun c14 => ?_) (fun c14 => ?_)
    · replace h := h.1 c14
      refine gk_iconst (v := (-1)) dX8_readsPeople_131 rfl ?_
      exact gk_iret dX8_readsPeople_132 rfl rfl rfl rfl ⟨rfl, _, rfl, h⟩
    · replace h := h.2 c14
      refine gk_aload_n dX8_readsPeople_17 rfl ?_
      refine gk_iconst (v := 0) dX8_readsPeople_18 rfl ?_
      refine gk_iload_n dX8_readsPeople_19 rfl ?_
      refine gk_callV (as := [_, _]) (rest := []) (ctX8_byteAt h) dX8_readsPeople_20 rfl rfl wvX8_132 wcX8_byteAt rfl (Nat.le_of_ble_eq_true rfl) ⟨Nat.le_refl _, Nat.le_refl _⟩ (fun h9 => absurd rfl h9) (Nat.le_of_ble_eq_true rfl) rfl (fun v G2 S20 hq => ?_)
      obtain ⟨rfl, r20, rfl, h⟩ := hq
      refine gk_bipush (v := 48) dX8_readsPeople_23 rfl ?_
      refine gk_isub dX8_readsPeople_25 ?_
      refine gk_nmi (fun v2_26 ev2_26 => ?_)
      replace h := h v2_26 ev2_26
      refine gk_istore_n dX8_readsPeople_26 (Nat.le_of_ble_eq_true rfl) rfl rfl ?_
      refine gk_aload_n dX8_readsPeople_27 rfl ?_
      refine gk_iconst (v := 0) dX8_readsPeople_28 rfl ?_
      refine gk_iload_n dX8_readsPeople_29 rfl ?_
      refine gk_iconst (v := 1) dX8_readsPeople_30 rfl ?_
      refine gk_iadd dX8_readsPeople_31 ?_
      refine gk_callV (as := [_, _]) (rest := []) (ctX8_byteAt h) dX8_readsPeople_32 rfl rfl wvX8_132 wcX8_byteAt rfl (Nat.le_of_ble_eq_true rfl) ⟨Nat.le_refl _, Nat.le_refl _⟩ (fun h9 => absurd rfl h9) (Nat.le_of_ble_eq_true rfl) rfl (fun v G2 S32 hq => ?_)
      obtain ⟨rfl, r32, rfl, h⟩ := hq
      refine gk_istore_n dX8_readsPeople_35 (Nat.le_of_ble_eq_true rfl) rfl rfl ?_
      refine gk_aload_n dX8_readsPeople_36 rfl ?_
      refine gk_geti dX8_readsPeople_37 rfl rfl wfX8_129 ?_
      refine gk_bipush (v := 8) dX8_readsPeople_40 rfl ?_
      refine gk_icmp_eq (tgt := 57) dX8_readsPeople_42 (by decide) (fun c42 => ?_) (fun c42 => ?_)
      · replace h := h.1 c42
        exact gk_less (gz_le_s rfl (gz_le_s rfl (gz_le_n (gz_le_n gz_le_0)))) (oX8_readsPeople_57 _ _ h)
      · replace h := h.2 c42
        refine gk_iload_n dX8_readsPeople_45 rfl ?_
        refine gk_i2l dX8_readsPeople_46 ?_
        refine gk_lconst (v := 1) dX8_readsPeople_47 rfl ?_
        refine gk_ldc2 dX8_readsPeople_48 wkX8_135 ?_
        refine gk_callS (as := [_, _, _]) (rest := []) (ctX8_in h) dX8_readsPeople_51 wvX8_92 wcX8_in rfl (Nat.le_of_ble_eq_true rfl) ⟨Nat.le_refl _, Nat.le_refl _⟩ (fun h9 => absurd rfl h9) (Nat.le_of_ble_eq_true rfl) rfl (fun v G2 S51 hq => ?_)
        obtain ⟨rfl, r51, rfl, h⟩ := hq
        refine gk_if_ne (tgt := 64) dX8_readsPeople_54 (by decide) (fun c54 => ?_) (fun c54 => ?_)
        · replace h := h.1 c54
          refine gk_iload_n dX8_readsPeople_64 rfl ?_
          refine gk_bipush (v := 121) dX8_readsPeople_65 rfl ?_
          refine gk_icmp_eq (tgt := 85) dX8_readsPeople_67 (by decide) (fun c67 => ?_) (fun c67 => ?_)
          · replace h := h.1 c67
            exact gk_less (gz_le_s rfl (gz_le_s rfl (gz_le_s rfl (gz_le_s rfl gz_le_0)))) (oX8_readsPeople_85 (fun y0 S h => ih y0 S h) _ _ _ _ h)
          · replace h := h.2 c67
            refine gk_iload_n dX8_readsPeople_70 rfl ?_
            refine gk_bipush (v := 110) dX8_readsPeople_71 rfl ?_
            refine gk_icmp_eq (tgt := 85) dX8_readsPeople_73 (by decide) (fun c73 => ?_) (fun c73 => ?_)
            · replace h := h.1 c73
              exact gk_less (gz_le_s rfl (gz_le_s rfl (gz_le_s rfl (gz_le_s rfl gz_le_0)))) (oX8_readsPeople_85 (fun y0 S h => ih y0 S h) _ _ _ _ h)
            · replace h := h.2 c73
              refine gk_aload_n dX8_readsPeople_76 rfl ?_
              refine gk_iconst (v := 0) dX8_readsPeople_77 rfl ?_
              refine gk_puti dX8_readsPeople_78 rfl rfl wfX8_129 wpX8_7 rfl rfl ?_
              refine gk_nmS (fun S78 eS78 => ?_)
              replace h := h S78 eS78
              refine gk_iload_n dX8_readsPeople_81 rfl ?_
              refine gk_iconst (v := 1) dX8_readsPeople_82 rfl ?_
              refine gk_iadd dX8_readsPeople_83 ?_
              exact gk_iret dX8_readsPeople_84 rfl rfl rfl rfl ⟨rfl, _, rfl, h⟩
        · replace h := h.2 c54
          exact gk_less (gz_le_s rfl (gz_le_s rfl (gz_le_n (gz_le_n gz_le_0)))) (oX8_readsPeople_57 _ _ h)
set_option maxHeartbeats 4000000 in
set_option maxRecDepth 100000 in
theorem ctX8_readsPeople {E : gz_E} {S : gz_S} {Q : Int32 → gz_S → Prop} (h : wX8_readsPeople S Q) : gz_m E mX8_readsPeople 2 0 0 [.ref 45] gz_F S (gz_qi Q) := by
  refine gz_meet0 (L0 := [some (.ref 45), none, none, none]) (by decide) rfl (Nat.le_of_ble_eq_true rfl) (by decide) ?_
  unfold wX8_readsPeople at h
  refine gk_aload_n dX8_readsPeople_0 rfl ?_
  refine gk_iconst (v := 0) dX8_readsPeople_1 rfl ?_
  refine gk_puti dX8_readsPeople_2 rfl rfl wfX8_129 wpX8_7 rfl rfl ?_
  refine gk_nmS (fun S2 eS2 => ?_)
  replace h := h S2 eS2
  refine gk_iconst (v := 0) dX8_readsPeople_5 rfl ?_
  refine gk_istore_n dX8_readsPeople_6 (Nat.le_of_ble_eq_true rfl) rfl rfl ?_
  obtain ⟨m7, h⟩ := h
  exact gk_less (gz_le_s rfl (gz_le_s rfl (gz_le_n (gz_le_n gz_le_0)))) (oX8_readsPeople_7 m7 _ _ h)
set_option maxHeartbeats 4000000 in
set_option maxRecDepth 100000 in
theorem oX8_readsStones_60 {E : gz_E} {Q : Int32 → gz_S → Prop} : ∀ (x1 : Int32) (S : gz_S), wX8_readsStones_60 Q x1 S → gz_k E mX8_readsStones (2, 0, 0, 73) 0 0 60 [some (.ref 45), some (.int x1), none, none] [] gz_F S (gz_qi Q) := by
  intro x1 S h
  unfold wX8_readsStones_60 at h
  refine gk_aload_n dX8_readsStones_60 rfl ?_
  refine gk_iconst (v := 0) dX8_readsStones_61 rfl ?_
  refine gk_puti dX8_readsStones_62 rfl rfl wfX8_137 wpX8_10 rfl rfl ?_
  refine gk_nmS (fun S62 eS62 => ?_)
  replace h := h S62 eS62
  refine gk_iload_n dX8_readsStones_65 rfl ?_
  exact gk_iret dX8_readsStones_66 rfl rfl rfl rfl ⟨rfl, _, rfl, h⟩
set_option maxHeartbeats 4000000 in
set_option maxRecDepth 100000 in
theorem oX8_readsStones_7 {E : gz_E} {Q : Int32 → gz_S → Prop} : ∀ (n : Nat) (x1 : Int32) (S : gz_S), wX8_readsStones_7 Q n x1 S → gz_k E mX8_readsStones (2, 0, 0, 73) 0 0 7 [some (.ref 45), some (.int x1), none, none] [] gz_F S (gz_qi Q) := by
  intro n
  induction n with
  | zero =>
    intro x1 S h
    exact h.elim
  | succ n ih =>
    intro x1 S h
    unfold wX8_readsStones_7 at h
    refine gk_iload_n dX8_readsStones_7 rfl ?_
    refine gk_aload_n dX8_readsStones_8 rfl ?_
    refine gk_getr dX8_readsStones_9 rfl rfl wfX8_25 ?_
    refine gk_iconst (v := 1) dX8_readsStones_12 rfl ?_
    refine gk_iaload dX8_readsStones_13 rfl h.1 ?_
    replace h := h.2
    refine gk_icmp_ge (tgt := 124) dX8_readsStones_14 (by decide) (fun c14 => ?_) (fun c14 => ?_)
    · replace h := h.1 c14
      refine gk_iconst (v := (-1)) dX8_readsStones_124 rfl ?_
      exact gk_iret dX8_readsStones_125 rfl rfl rfl rfl ⟨rfl, _, rfl, h⟩
    · replace h := h.2 c14
      refine gk_aload_n dX8_readsStones_17 rfl ?_
      refine gk_iconst (v := 1) dX8_readsStones_18 rfl ?_
      refine gk_iload_n dX8_readsStones_19 rfl ?_
      refine gk_callV (as := [_, _]) (rest := []) (ctX8_byteAt h) dX8_readsStones_20 rfl rfl wvX8_132 wcX8_byteAt rfl (Nat.le_of_ble_eq_true rfl) ⟨Nat.le_refl _, Nat.le_refl _⟩ (fun h9 => absurd rfl h9) (Nat.le_of_ble_eq_true rfl) rfl (fun v G2 S20 hq => ?_)
      obtain ⟨rfl, r20, rfl, h⟩ := hq
      refine gk_bipush (v := 48) dX8_readsStones_23 rfl ?_
      refine gk_isub dX8_readsStones_25 ?_
      refine gk_nmi (fun v2_26 ev2_26 => ?_)
      replace h := h v2_26 ev2_26
      refine gk_istore_n dX8_readsStones_26 (Nat.le_of_ble_eq_true rfl) rfl rfl ?_
      refine gk_aload_n dX8_readsStones_27 rfl ?_
      refine gk_iconst (v := 1) dX8_readsStones_28 rfl ?_
      refine gk_iload_n dX8_readsStones_29 rfl ?_
      refine gk_iconst (v := 1) dX8_readsStones_30 rfl ?_
      refine gk_iadd dX8_readsStones_31 ?_
      refine gk_callV (as := [_, _]) (rest := []) (ctX8_byteAt h) dX8_readsStones_32 rfl rfl wvX8_132 wcX8_byteAt rfl (Nat.le_of_ble_eq_true rfl) ⟨Nat.le_refl _, Nat.le_refl _⟩ (fun h9 => absurd rfl h9) (Nat.le_of_ble_eq_true rfl) rfl (fun v G2 S32 hq => ?_)
      obtain ⟨rfl, r32, rfl, h⟩ := hq
      refine gk_bipush (v := 48) dX8_readsStones_35 rfl ?_
      refine gk_isub dX8_readsStones_37 ?_
      refine gk_nmi (fun v3_38 ev3_38 => ?_)
      replace h := h v3_38 ev3_38
      refine gk_istore_n dX8_readsStones_38 (Nat.le_of_ble_eq_true rfl) rfl rfl ?_
      refine gk_aload_n dX8_readsStones_39 rfl ?_
      refine gk_geti dX8_readsStones_40 rfl rfl wfX8_137 ?_
      refine gk_bipush (v := 9) dX8_readsStones_43 rfl ?_
      refine gk_icmp_eq (tgt := 60) dX8_readsStones_45 (by decide) (fun c45 => ?_) (fun c45 => ?_)
      · replace h := h.1 c45
        exact gk_less (gz_le_s rfl (gz_le_s rfl (gz_le_n (gz_le_n gz_le_0)))) (oX8_readsStones_60 _ _ h)
      · replace h := h.2 c45
        refine gk_iload_n dX8_readsStones_48 rfl ?_
        refine gk_i2l dX8_readsStones_49 ?_
        refine gk_lconst (v := 1) dX8_readsStones_50 rfl ?_
        refine gk_ldc2 dX8_readsStones_51 wkX8_135 ?_
        refine gk_callS (as := [_, _, _]) (rest := []) (ctX8_in h) dX8_readsStones_54 wvX8_92 wcX8_in rfl (Nat.le_of_ble_eq_true rfl) ⟨Nat.le_refl _, Nat.le_refl _⟩ (fun h9 => absurd rfl h9) (Nat.le_of_ble_eq_true rfl) rfl (fun v G2 S54 hq => ?_)
        obtain ⟨rfl, r54, rfl, h⟩ := hq
        refine gk_if_ne (tgt := 67) dX8_readsStones_57 (by decide) (fun c57 => ?_) (fun c57 => ?_)
        · replace h := h.1 c57
          refine gk_iload_n dX8_readsStones_67 rfl ?_
          refine gk_i2l dX8_readsStones_68 ?_
          refine gk_lconst (v := 0) dX8_readsStones_69 rfl ?_
          refine gk_ldc2 dX8_readsStones_70 wkX8_135 ?_
          refine gk_callS (as := [_, _, _]) (rest := []) (ctX8_in h) dX8_readsStones_73 wvX8_92 wcX8_in rfl (Nat.le_of_ble_eq_true rfl) ⟨Nat.le_refl _, Nat.le_refl _⟩ (fun h9 => absurd rfl h9) (Nat.le_of_ble_eq_true rfl) rfl (fun v G2 S73 hq => ?_)
          obtain ⟨rfl, r73, rfl, h⟩ := hq
          refine gk_if_ne (tgt := 88) dX8_readsStones_76 (by decide) (fun c76 => ?_) (fun c76 => ?_)
          · replace h := h.1 c76
            refine gk_aload_n dX8_readsStones_88 rfl ?_
            refine gk_getr dX8_readsStones_89 rfl rfl wfX8_34 ?_
            refine gk_aload_n dX8_readsStones_92 rfl ?_
            refine gk_geti dX8_readsStones_93 rfl rfl wfX8_137 ?_
            refine gk_iload_n dX8_readsStones_96 rfl ?_
            refine gk_iastore dX8_readsStones_97 rfl h.1 ?_
            replace h := h.2
            refine gk_nmS (fun S97 eS97 => ?_)
            replace h := h S97 eS97
            refine gk_aload_n dX8_readsStones_98 rfl ?_
            refine gk_getr dX8_readsStones_99 rfl rfl wfX8_37 ?_
            refine gk_aload_n dX8_readsStones_102 rfl ?_
            refine gk_geti dX8_readsStones_103 rfl rfl wfX8_137 ?_
            refine gk_iload_n dX8_readsStones_106 rfl ?_
            refine gk_iastore dX8_readsStones_107 rfl h.1 ?_
            replace h := h.2
            refine gk_nmS (fun S107 eS107 => ?_)
            replace h := h S107 eS107
            refine gk_aload_n dX8_readsStones_108 rfl ?_
            refine gk_dup dX8_readsStones_109 rfl ?_
            refine gk_geti dX8_readsStones_110 rfl rfl wfX8_137 ?_
            refine gk_iconst (v := 1) dX8_readsStones_113 rfl ?_
            refine gk_iadd dX8_readsStones_114 ?_
            refine gk_puti dX8_readsStones_115 rfl rfl wfX8_137 wpX8_10 rfl rfl ?_
            refine gk_nmS (fun S115 eS115 => ?_)
            replace h := h S115 eS115
            refine gk_iinc dX8_readsStones_118 rfl (Nat.le_of_ble_eq_true rfl) rfl rfl rfl ?_
            refine gk_goto (tgt := 7) dX8_readsStones_121 (by decide) ?_
            exact gk_less (gz_le_s rfl (gz_le_s rfl (gz_le_n (gz_le_n gz_le_0)))) (ih _ _ h)
          · replace h := h.2 c76
            refine gk_aload_n dX8_readsStones_79 rfl ?_
            refine gk_iconst (v := 0) dX8_readsStones_80 rfl ?_
            refine gk_puti dX8_readsStones_81 rfl rfl wfX8_137 wpX8_10 rfl rfl ?_
            refine gk_nmS (fun S81 eS81 => ?_)
            replace h := h S81 eS81
            refine gk_iload_n dX8_readsStones_84 rfl ?_
            refine gk_iconst (v := 1) dX8_readsStones_85 rfl ?_
            refine gk_iadd dX8_readsStones_86 ?_
            exact gk_iret dX8_readsStones_87 rfl rfl rfl rfl ⟨rfl, _, rfl, h⟩
        · replace h := h.2 c57
          exact gk_less (gz_le_s rfl (gz_le_s rfl (gz_le_n (gz_le_n gz_le_0)))) (oX8_readsStones_60 _ _ h)
set_option maxHeartbeats 4000000 in
set_option maxRecDepth 100000 in
theorem ctX8_readsStones {E : gz_E} {S : gz_S} {Q : Int32 → gz_S → Prop} (h : wX8_readsStones S Q) : gz_m E mX8_readsStones 2 0 0 [.ref 45] gz_F S (gz_qi Q) := by
  refine gz_meet0 (L0 := [some (.ref 45), none, none, none]) (by decide) rfl (Nat.le_of_ble_eq_true rfl) (by decide) ?_
  unfold wX8_readsStones at h
  refine gk_aload_n dX8_readsStones_0 rfl ?_
  refine gk_iconst (v := 0) dX8_readsStones_1 rfl ?_
  refine gk_puti dX8_readsStones_2 rfl rfl wfX8_137 wpX8_10 rfl rfl ?_
  refine gk_nmS (fun S2 eS2 => ?_)
  replace h := h S2 eS2
  refine gk_iconst (v := 0) dX8_readsStones_5 rfl ?_
  refine gk_istore_n dX8_readsStones_6 (Nat.le_of_ble_eq_true rfl) rfl rfl ?_
  obtain ⟨m7, h⟩ := h
  exact gk_less (gz_le_s rfl (gz_le_s rfl (gz_le_n (gz_le_n gz_le_0)))) (oX8_readsStones_7 m7 _ _ h)
set_option maxHeartbeats 4000000 in
set_option maxRecDepth 100000 in
theorem ctX8_fault {E : gz_E} {x1 : Int32} {S : gz_S} {Q : Int32 → gz_S → Prop} (h : wX8_fault x1 S Q) : gz_m E mX8_fault 3 0 0 [.ref 45, .int x1] gz_F S (gz_qi Q) := by
  refine gz_meet0 (L0 := [some (.ref 45), some (.int x1)]) (by decide) rfl (Nat.le_of_ble_eq_true rfl) (by decide) ?_
  unfold wX8_fault at h
  refine gk_iload_n dX8_fault_0 rfl ?_
  refine gk_callS (as := [_]) (rest := []) (ctX8_isTwo h) dX8_fault_1 wvX8_121 wcX8_isTwo rfl (Nat.le_of_ble_eq_true rfl) ⟨Nat.le_refl _, Nat.le_refl _⟩ (fun h9 => absurd rfl h9) (Nat.le_of_ble_eq_true rfl) rfl (fun v G2 S1 hq => ?_)
  obtain ⟨rfl, r1, rfl, h⟩ := hq
  refine gk_if_ne (tgt := 12) dX8_fault_4 (by decide) (fun c4 => ?_) (fun c4 => ?_)
  · replace h := h.1 c4
    refine gk_iload_n dX8_fault_12 rfl ?_
    refine gk_if_ne (tgt := 23) dX8_fault_13 (by decide) (fun c13 => ?_) (fun c13 => ?_)
    · replace h := h.1 c13
      refine gk_aload_n dX8_fault_23 rfl ?_
      refine gk_callV (as := []) (rest := []) (ctX8_readsStones h) dX8_fault_24 rfl rfl wvX8_144 wcX8_readsStones rfl (Nat.le_of_ble_eq_true rfl) ⟨Nat.le_refl _, Nat.le_refl _⟩ (fun h9 => absurd rfl h9) (Nat.le_of_ble_eq_true rfl) rfl (fun v G2 S24 hq => ?_)
      obtain ⟨rfl, r24, rfl, h⟩ := hq
      exact gk_iret dX8_fault_27 rfl rfl rfl rfl ⟨rfl, _, rfl, h⟩
    · replace h := h.2 c13
      refine gk_aload_n dX8_fault_16 rfl ?_
      refine gk_callV (as := []) (rest := []) (ctX8_readsPeople h) dX8_fault_17 rfl rfl wvX8_140 wcX8_readsPeople rfl (Nat.le_of_ble_eq_true rfl) ⟨Nat.le_refl _, Nat.le_refl _⟩ (fun h9 => absurd rfl h9) (Nat.le_of_ble_eq_true rfl) rfl (fun v G2 S17 hq => ?_)
      obtain ⟨rfl, r17, rfl, h⟩ := hq
      refine gk_goto (tgt := 27) dX8_fault_20 (by decide) ?_
      exact gk_iret dX8_fault_27 rfl rfl rfl rfl ⟨rfl, _, rfl, h⟩
  · replace h := h.2 c4
    refine gk_bipush (v := (-2)) dX8_fault_7 rfl ?_
    refine gk_goto (tgt := 27) dX8_fault_9 (by decide) ?_
    exact gk_iret dX8_fault_27 rfl rfl rfl rfl ⟨rfl, _, rfl, h⟩
set_option maxHeartbeats 4000000 in
set_option maxRecDepth 100000 in
theorem ctX3_sideOf {E : gz_E} {x1 : Int32} {S : gz_S} {Q : Int32 → gz_S → Prop} (h : wX3_sideOf x1 S Q) : gz_m E mX3_sideOf 1 0 0 [.ref 1, .int x1] gz_F S (gz_qi Q) := by
  refine gz_meet0 (L0 := [some (.ref 1), some (.int x1)]) (by decide) rfl (Nat.le_of_ble_eq_true rfl) (by decide) ?_
  unfold wX3_sideOf at h
  refine gk_aload_n dX3_sideOf_0 rfl ?_
  refine gk_getr dX3_sideOf_1 rfl rfl wfX3_14 ?_
  refine gk_getr dX3_sideOf_4 rfl rfl wfX3_46 ?_
  refine gk_iload_n dX3_sideOf_7 rfl ?_
  refine gk_iaload dX3_sideOf_8 rfl h.1 ?_
  replace h := h.2
  exact gk_iret dX3_sideOf_9 rfl rfl rfl rfl ⟨rfl, _, rfl, h⟩
set_option maxHeartbeats 4000000 in
set_option maxRecDepth 100000 in
theorem ctX7_person {E : gz_E} {x1 : Int32} {x2 : Int32} {S : gz_S} {Q : Int32 → gz_S → Prop} (h : wX7_person x1 x2 S Q) : gz_m E mX7_person 2 0 0 [.ref 0, .int x1, .int x2] gz_F S (gz_qi Q) := by
  refine gz_meet0 (L0 := [some (.ref 0), some (.int x1), some (.int x2)]) (by decide) rfl (Nat.le_of_ble_eq_true rfl) (by decide) ?_
  unfold wX7_person at h
  refine gk_iload_n dX7_person_0 rfl ?_
  refine gk_iconst (v := 0) dX7_person_1 rfl ?_
  refine gk_aload_n dX7_person_2 rfl ?_
  refine gk_getr dX7_person_3 rfl rfl wfX7_10 ?_
  refine gk_getr dX7_person_6 rfl rfl wfX7_92 ?_
  refine gk_geti dX7_person_9 rfl rfl wfX7_96 ?_
  refine gk_iconst (v := 1) dX7_person_12 rfl ?_
  refine gk_isub dX7_person_13 ?_
  refine gk_callS (as := [_, _, _]) (rest := []) (ctX7_within h) dX7_person_14 wvX7_62 wcX7_within rfl (Nat.le_of_ble_eq_true rfl) ⟨Nat.le_refl _, Nat.le_refl _⟩ (fun h9 => absurd rfl h9) (Nat.le_of_ble_eq_true rfl) rfl (fun v G2 S14 hq => ?_)
  obtain ⟨rfl, r14, rfl, h⟩ := hq
  refine gk_if_eq (tgt := 29) dX7_person_17 (by decide) (fun c17 => ?_) (fun c17 => ?_)
  · replace h := h.1 c17
    refine gk_bipush (v := (-2)) dX7_person_29 rfl ?_
    exact gk_iret dX7_person_31 rfl rfl rfl rfl ⟨rfl, _, rfl, h⟩
  · replace h := h.2 c17
    refine gk_iload_n dX7_person_20 rfl ?_
    refine gk_iconst (v := 0) dX7_person_21 rfl ?_
    refine gk_iconst (v := 2) dX7_person_22 rfl ?_
    refine gk_callS (as := [_, _, _]) (rest := []) (ctX7_within h) dX7_person_23 wvX7_62 wcX7_within rfl (Nat.le_of_ble_eq_true rfl) ⟨Nat.le_refl _, Nat.le_refl _⟩ (fun h9 => absurd rfl h9) (Nat.le_of_ble_eq_true rfl) rfl (fun v G2 S23 hq => ?_)
    obtain ⟨rfl, r23, rfl, h⟩ := hq
    refine gk_if_ne (tgt := 32) dX7_person_26 (by decide) (fun c26 => ?_) (fun c26 => ?_)
    · replace h := h.1 c26
      refine gk_iload_n dX7_person_32 rfl ?_
      refine gk_if_ne (tgt := 45) dX7_person_33 (by decide) (fun c33 => ?_) (fun c33 => ?_)
      · replace h := h.1 c33
        refine gk_iload_n dX7_person_45 rfl ?_
        refine gk_iconst (v := 1) dX7_person_46 rfl ?_
        refine gk_icmp_ne (tgt := 61) dX7_person_47 (by decide) (fun c47 => ?_) (fun c47 => ?_)
        · replace h := h.1 c47
          refine gk_aload_n dX7_person_61 rfl ?_
          refine gk_getr dX7_person_62 rfl rfl wfX7_28 ?_
          refine gk_getr dX7_person_65 rfl rfl wfX7_106 ?_
          refine gk_iload_n dX7_person_68 rfl ?_
          refine gk_iaload dX7_person_69 rfl h.1 ?_
          replace h := h.2
          exact gk_iret dX7_person_70 rfl rfl rfl rfl ⟨rfl, _, rfl, h⟩
        · replace h := h.2 c47
          refine gk_aload_n dX7_person_50 rfl ?_
          refine gk_getr dX7_person_51 rfl rfl wfX7_10 ?_
          refine gk_iload_n dX7_person_54 rfl ?_
          refine gk_callV (as := [_]) (rest := []) (ctX3_sideOf h) dX7_person_55 rfl rfl wvX7_103 wcX3_sideOf rfl (Nat.le_of_ble_eq_true rfl) ⟨Nat.le_refl _, Nat.le_refl _⟩ (fun h9 => absurd rfl h9) (Nat.le_of_ble_eq_true rfl) rfl (fun v G2 S55 hq => ?_)
          obtain ⟨rfl, r55, rfl, h⟩ := hq
          refine gk_goto (tgt := 70) dX7_person_58 (by decide) ?_
          exact gk_iret dX7_person_70 rfl rfl rfl rfl ⟨rfl, _, rfl, h⟩
      · replace h := h.2 c33
        refine gk_aload_n dX7_person_36 rfl ?_
        refine gk_getr dX7_person_37 rfl rfl wfX7_10 ?_
        refine gk_iload_n dX7_person_40 rfl ?_
        refine gk_callV (as := [_]) (rest := []) (ctX3_strength h) dX7_person_41 rfl rfl wvX7_99 wcX3_strength rfl (Nat.le_of_ble_eq_true rfl) ⟨Nat.le_refl _, Nat.le_refl _⟩ (fun h9 => absurd rfl h9) (Nat.le_of_ble_eq_true rfl) rfl (fun v G2 S41 hq => ?_)
        obtain ⟨rfl, r41, rfl, h⟩ := hq
        exact gk_iret dX7_person_44 rfl rfl rfl rfl ⟨rfl, _, rfl, h⟩
    · replace h := h.2 c26
      refine gk_bipush (v := (-2)) dX7_person_29 rfl ?_
      exact gk_iret dX7_person_31 rfl rfl rfl rfl ⟨rfl, _, rfl, h⟩
set_option maxHeartbeats 4000000 in
set_option maxRecDepth 100000 in
theorem ctX8_reads {E : gz_E} {S : gz_S} {Q : gz_S → Prop} (h : wX8_reads S Q) : gz_m E mX8_reads 3 0 0 [.ref 45] gz_F S (gz_qv Q) := by
  refine gz_meet0 (L0 := [some (.ref 45)]) (by decide) rfl (Nat.le_of_ble_eq_true rfl) (by decide) ?_
  unfold wX8_reads at h
  refine gk_aload_n dX8_reads_0 rfl ?_
  refine gk_callV (as := []) (rest := []) (ctX8_readsPeople h) dX8_reads_1 rfl rfl wvX8_140 wcX8_readsPeople rfl (Nat.le_of_ble_eq_true rfl) ⟨Nat.le_refl _, Nat.le_refl _⟩ (fun h9 => absurd rfl h9) (Nat.le_of_ble_eq_true rfl) rfl (fun v G2 S1 hq => ?_)
  obtain ⟨rfl, r1, rfl, h⟩ := hq
  refine gk_pop dX8_reads_4 rfl ?_
  refine gk_aload_n dX8_reads_5 rfl ?_
  refine gk_callV (as := []) (rest := []) (ctX8_readsStones h) dX8_reads_6 rfl rfl wvX8_144 wcX8_readsStones rfl (Nat.le_of_ble_eq_true rfl) ⟨Nat.le_refl _, Nat.le_refl _⟩ (fun h9 => absurd rfl h9) (Nat.le_of_ble_eq_true rfl) rfl (fun v G2 S6 hq => ?_)
  obtain ⟨rfl, r6, rfl, h⟩ := hq
  refine gk_pop dX8_reads_9 rfl ?_
  exact gk_vret dX8_reads_10 rfl rfl rfl ⟨rfl, rfl, h⟩
set_option maxHeartbeats 4000000 in
set_option maxRecDepth 100000 in
theorem ctX8_isPerson {E : gz_E} {x1 : Int32} {S : gz_S} {Q : Int32 → gz_S → Prop} (h : wX8_isPerson x1 S Q) : gz_m E mX8_isPerson 4 0 0 [.ref 45, .int x1] gz_F S (gz_qi Q) := by
  refine gz_meet0 (L0 := [some (.ref 45), some (.int x1)]) (by decide) rfl (Nat.le_of_ble_eq_true rfl) (by decide) ?_
  unfold wX8_isPerson at h
  refine gk_aload_n dX8_isPerson_0 rfl ?_
  refine gk_callV (as := []) (rest := []) (ctX8_reads h) dX8_isPerson_1 rfl rfl wvX8_147 wcX8_reads rfl (Nat.le_of_ble_eq_true rfl) ⟨Nat.le_refl _, Nat.le_refl _⟩ (fun h9 => absurd rfl h9) (Nat.le_of_ble_eq_true rfl) rfl (fun v G2 S1 hq => ?_)
  obtain ⟨rfl, rfl, h⟩ := hq
  refine gk_iload_n dX8_isPerson_4 rfl ?_
  refine gk_i2l dX8_isPerson_5 ?_
  refine gk_lconst (v := 0) dX8_isPerson_6 rfl ?_
  refine gk_aload_n dX8_isPerson_7 rfl ?_
  refine gk_geti dX8_isPerson_8 rfl rfl wfX8_129 ?_
  refine gk_iconst (v := 1) dX8_isPerson_11 rfl ?_
  refine gk_isub dX8_isPerson_12 ?_
  refine gk_i2l dX8_isPerson_13 ?_
  refine gk_callS (as := [_, _, _]) (rest := []) (ctX8_in h) dX8_isPerson_14 wvX8_92 wcX8_in rfl (Nat.le_of_ble_eq_true rfl) ⟨Nat.le_refl _, Nat.le_refl _⟩ (fun h9 => absurd rfl h9) (Nat.le_of_ble_eq_true rfl) rfl (fun v G2 S14 hq => ?_)
  obtain ⟨rfl, r14, rfl, h⟩ := hq
  exact gk_iret dX8_isPerson_17 rfl rfl rfl (gz_b01_nz h.1) ⟨rfl, _, rfl, h.2⟩
set_option maxHeartbeats 4000000 in
set_option maxRecDepth 100000 in
theorem ctX8_mayCarry {E : gz_E} {x1 : Int32} {x2 : Int32} {S : gz_S} {Q : Int32 → gz_S → Prop} (h : wX8_mayCarry x1 x2 S Q) : gz_m E mX8_mayCarry 1 0 0 [.ref 45, .int x1, .int x2] gz_F S (gz_qi Q) := by
  refine gz_meet0 (L0 := [some (.ref 45), some (.int x1), some (.int x2)]) (by decide) rfl (Nat.le_of_ble_eq_true rfl) (by decide) ?_
  unfold wX8_mayCarry at h
  refine gk_iload_n dX8_mayCarry_0 rfl ?_
  refine gk_aload_n dX8_mayCarry_1 rfl ?_
  refine gk_geti dX8_mayCarry_2 rfl rfl wfX8_129 ?_
  refine gk_icmp_ge (tgt := 69) dX8_mayCarry_5 (by decide) (fun c5 => ?_) (fun c5 => ?_)
  · replace h := h.1 c5
    refine gk_iconst (v := 0) dX8_mayCarry_69 rfl ?_
    exact gk_iret dX8_mayCarry_70 rfl rfl rfl rfl ⟨rfl, _, rfl, h⟩
  · replace h := h.2 c5
    refine gk_iload_n dX8_mayCarry_8 rfl ?_
    refine gk_aload_n dX8_mayCarry_9 rfl ?_
    refine gk_geti dX8_mayCarry_10 rfl rfl wfX8_137 ?_
    refine gk_icmp_ge (tgt := 69) dX8_mayCarry_13 (by decide) (fun c13 => ?_) (fun c13 => ?_)
    · replace h := h.1 c13
      refine gk_iconst (v := 0) dX8_mayCarry_69 rfl ?_
      exact gk_iret dX8_mayCarry_70 rfl rfl rfl rfl ⟨rfl, _, rfl, h⟩
    · replace h := h.2 c13
      refine gk_aload_n dX8_mayCarry_16 rfl ?_
      refine gk_getr dX8_mayCarry_17 rfl rfl wfX8_58 ?_
      refine gk_iload_n dX8_mayCarry_20 rfl ?_
      refine gk_iaload dX8_mayCarry_21 rfl h.1 ?_
      replace h := h.2
      refine gk_iconst (v := (-1)) dX8_mayCarry_22 rfl ?_
      refine gk_icmp_ne (tgt := 69) dX8_mayCarry_23 (by decide) (fun c23 => ?_) (fun c23 => ?_)
      · replace h := h.1 c23
        refine gk_iconst (v := 0) dX8_mayCarry_69 rfl ?_
        exact gk_iret dX8_mayCarry_70 rfl rfl rfl rfl ⟨rfl, _, rfl, h⟩
      · replace h := h.2 c23
        refine gk_aload_n dX8_mayCarry_26 rfl ?_
        refine gk_getr dX8_mayCarry_27 rfl rfl wfX8_34 ?_
        refine gk_iload_n dX8_mayCarry_30 rfl ?_
        refine gk_iaload dX8_mayCarry_31 rfl h.1 ?_
        replace h := h.2
        refine gk_aload_n dX8_mayCarry_32 rfl ?_
        refine gk_getr dX8_mayCarry_33 rfl rfl wfX8_28 ?_
        refine gk_iload_n dX8_mayCarry_36 rfl ?_
        refine gk_iaload dX8_mayCarry_37 rfl h.1 ?_
        replace h := h.2
        refine gk_icmp_gt (tgt := 69) dX8_mayCarry_38 (by decide) (fun c38 => ?_) (fun c38 => ?_)
        · replace h := h.1 c38
          refine gk_iconst (v := 0) dX8_mayCarry_69 rfl ?_
          exact gk_iret dX8_mayCarry_70 rfl rfl rfl rfl ⟨rfl, _, rfl, h⟩
        · replace h := h.2 c38
          refine gk_aload_n dX8_mayCarry_41 rfl ?_
          refine gk_getr dX8_mayCarry_42 rfl rfl wfX8_55 ?_
          refine gk_iload_n dX8_mayCarry_45 rfl ?_
          refine gk_iaload dX8_mayCarry_46 rfl h.1 ?_
          replace h := h.2
          refine gk_aload_n dX8_mayCarry_47 rfl ?_
          refine gk_getr dX8_mayCarry_48 rfl rfl wfX8_37 ?_
          refine gk_iload_n dX8_mayCarry_51 rfl ?_
          refine gk_iaload dX8_mayCarry_52 rfl h.1 ?_
          replace h := h.2
          refine gk_iadd dX8_mayCarry_53 ?_
          refine gk_iconst (v := 1) dX8_mayCarry_54 rfl ?_
          refine gk_iadd dX8_mayCarry_55 ?_
          refine gk_aload_n dX8_mayCarry_56 rfl ?_
          refine gk_getr dX8_mayCarry_57 rfl rfl wfX8_40 ?_
          refine gk_iconst (v := 0) dX8_mayCarry_60 rfl ?_
          refine gk_iaload dX8_mayCarry_61 rfl h.1 ?_
          replace h := h.2
          refine gk_icmp_gt (tgt := 69) dX8_mayCarry_62 (by decide) (fun c62 => ?_) (fun c62 => ?_)
          · replace h := h.1 c62
            refine gk_iconst (v := 0) dX8_mayCarry_69 rfl ?_
            exact gk_iret dX8_mayCarry_70 rfl rfl rfl rfl ⟨rfl, _, rfl, h⟩
          · replace h := h.2 c62
            refine gk_iconst (v := 1) dX8_mayCarry_65 rfl ?_
            refine gk_goto (tgt := 70) dX8_mayCarry_66 (by decide) ?_
            exact gk_iret dX8_mayCarry_70 rfl rfl rfl rfl ⟨rfl, _, rfl, h⟩
set_option maxHeartbeats 4000000 in
set_option maxRecDepth 100000 in
theorem oX8_goes_181 {E : gz_E} {k54 : Int32 → Int32 → gz_S → Prop} {Q : gz_S → Prop} (hk54 : ∀ (x1 : Int32) (x2 : Int32) (S : gz_S), k54 x1 x2 S → gz_k E mX8_goes (2, 0, 0, 73) 0 0 54 [some (.ref 45), some (.int x1), some (.int x2), none, none] [] gz_F S (gz_qv Q)) : ∀ (x1 : Int32) (x2 : Int32) (S : gz_S), wX8_goes_181 k54 Q x1 x2 S → gz_k E mX8_goes (2, 0, 0, 73) 0 0 181 [some (.ref 45), some (.int x1), some (.int x2), none, none] [] gz_F S (gz_qv Q) := by
  intro x1 x2 S h
  unfold wX8_goes_181 at h
  refine gk_iinc dX8_goes_181 rfl (Nat.le_of_ble_eq_true rfl) rfl rfl rfl ?_
  refine gk_goto (tgt := 54) dX8_goes_184 (by decide) ?_
  exact gk_less (gz_le_s rfl (gz_le_s rfl (gz_le_s rfl (gz_le_n (gz_le_n gz_le_0))))) (hk54 _ _ _ h)
set_option maxHeartbeats 4000000 in
set_option maxRecDepth 100000 in
theorem oX8_goes_178 {E : gz_E} {k54 : Int32 → Int32 → gz_S → Prop} {Q : gz_S → Prop} (hk54 : ∀ (x1 : Int32) (x2 : Int32) (S : gz_S), k54 x1 x2 S → gz_k E mX8_goes (2, 0, 0, 73) 0 0 54 [some (.ref 45), some (.int x1), some (.int x2), none, none] [] gz_F S (gz_qv Q)) : ∀ (x1 : Int32) (x2 : Int32) (t1 : Int32) (S : gz_S), wX8_goes_178 k54 Q x1 x2 t1 S → gz_k E mX8_goes (2, 0, 0, 73) 0 0 178 [some (.ref 45), some (.int x1), some (.int x2), none, none] [.int t1, .ref 45] gz_F S (gz_qv Q) := by
  intro x1 x2 t1 S h
  unfold wX8_goes_178 at h
  refine gk_puti dX8_goes_178 rfl rfl wfX8_176 wpX8_22 rfl rfl ?_
  refine gk_nmS (fun S178 eS178 => ?_)
  replace h := h S178 eS178
  exact gk_less (gz_le_s rfl (gz_le_s rfl (gz_le_s rfl (gz_le_n (gz_le_n gz_le_0))))) (oX8_goes_181 hk54 _ _ _ h)
set_option maxHeartbeats 4000000 in
set_option maxRecDepth 100000 in
theorem oX8_goes_146 {E : gz_E} {k54 : Int32 → Int32 → gz_S → Prop} {Q : gz_S → Prop} (hk54 : ∀ (x1 : Int32) (x2 : Int32) (S : gz_S), k54 x1 x2 S → gz_k E mX8_goes (2, 0, 0, 73) 0 0 54 [some (.ref 45), some (.int x1), some (.int x2), none, none] [] gz_F S (gz_qv Q)) : ∀ (x1 : Int32) (x2 : Int32) (S : gz_S), wX8_goes_146 k54 Q x1 x2 S → gz_k E mX8_goes (2, 0, 0, 73) 0 0 146 [some (.ref 45), some (.int x1), some (.int x2), none, none] [] gz_F S (gz_qv Q) := by
  intro x1 x2 S h
  unfold wX8_goes_146 at h
  refine gk_iload_n dX8_goes_146 rfl ?_
  refine gk_iload_n dX8_goes_147 rfl ?_
  refine gk_icmp_eq (tgt := 181) dX8_goes_148 (by decide) (fun c148 => ?_) (fun c148 => ?_)
  · replace h := h.1 c148
    exact gk_less (gz_le_s rfl (gz_le_s rfl (gz_le_s rfl (gz_le_n (gz_le_n gz_le_0))))) (oX8_goes_181 hk54 _ _ _ h)
  · replace h := h.2 c148
    refine gk_aload_n dX8_goes_151 rfl ?_
    refine gk_dup dX8_goes_152 rfl ?_
    refine gk_geti dX8_goes_153 rfl rfl wfX8_173 ?_
    refine gk_iconst (v := 1) dX8_goes_156 rfl ?_
    refine gk_iadd dX8_goes_157 ?_
    refine gk_puti dX8_goes_158 rfl rfl wfX8_173 wpX8_21 rfl rfl ?_
    refine gk_nmS (fun S158 eS158 => ?_)
    replace h := h S158 eS158
    refine gk_aload_n dX8_goes_161 rfl ?_
    refine gk_aload_n dX8_goes_162 rfl ?_
    refine gk_geti dX8_goes_163 rfl rfl wfX8_176 ?_
    refine gk_iconst (v := (-1)) dX8_goes_166 rfl ?_
    refine gk_icmp_ne (tgt := 174) dX8_goes_167 (by decide) (fun c167 => ?_) (fun c167 => ?_)
    · replace h := h.1 c167
      refine gk_aload_n dX8_goes_174 rfl ?_
      refine gk_geti dX8_goes_175 rfl rfl wfX8_176 ?_
      exact gk_less (gz_le_s rfl (gz_le_s rfl (gz_le_s rfl (gz_le_n (gz_le_n gz_le_0))))) (oX8_goes_178 hk54 _ _ _ _ h)
    · replace h := h.2 c167
      refine gk_iload_n dX8_goes_170 rfl ?_
      refine gk_goto (tgt := 178) dX8_goes_171 (by decide) ?_
      exact gk_less (gz_le_s rfl (gz_le_s rfl (gz_le_s rfl (gz_le_n (gz_le_n gz_le_0))))) (oX8_goes_178 hk54 _ _ _ _ h)
set_option maxHeartbeats 4000000 in
set_option maxRecDepth 100000 in
theorem oX8_goes_54 {E : gz_E} {Q : gz_S → Prop} : ∀ (n : Nat) (x1 : Int32) (x2 : Int32) (S : gz_S), wX8_goes_54 Q n x1 x2 S → gz_k E mX8_goes (2, 0, 0, 73) 0 0 54 [some (.ref 45), some (.int x1), some (.int x2), none, none] [] gz_F S (gz_qv Q) := by
  intro n
  induction n with
  | zero =>
    intro x1 x2 S h
    exact h.elim
  | succ n ih =>
    intro x1 x2 S h
    unfold wX8_goes_54 at h
    refine gk_iload_n dX8_goes_54 rfl ?_
    refine gk_aload_n dX8_goes_55 rfl ?_
    refine gk_geti dX8_goes_56 rfl rfl wfX8_167 ?_
    refine gk_icmp_ge (tgt := 187) dX8_goes_59 (by decide) (fun c59 => ?_) (fun c59 => ?_)
    · replace h := h.1 c59
      exact gk_vret dX8_goes_187 rfl rfl rfl ⟨rfl, rfl, h⟩
    · replace h := h.2 c59
      refine gk_aload_n dX8_goes_62 rfl ?_
      refine gk_getr dX8_goes_63 rfl rfl wfX8_49 ?_
      refine gk_iconst (v := 3) dX8_goes_66 rfl ?_
      refine gk_iload_n dX8_goes_67 rfl ?_
      refine gk_imul dX8_goes_68 ?_
      refine gk_iaload dX8_goes_69 rfl h.1 ?_
      replace h := h.2
      refine gk_nmi (fun v3_70 ev3_70 => ?_)
      replace h := h v3_70 ev3_70
      refine gk_istore_n dX8_goes_70 (Nat.le_of_ble_eq_true rfl) rfl rfl ?_
      refine gk_aload_n dX8_goes_71 rfl ?_
      refine gk_getr dX8_goes_72 rfl rfl wfX8_49 ?_
      refine gk_iconst (v := 3) dX8_goes_75 rfl ?_
      refine gk_iload_n dX8_goes_76 rfl ?_
      refine gk_imul dX8_goes_77 ?_
      refine gk_iconst (v := 1) dX8_goes_78 rfl ?_
      refine gk_iadd dX8_goes_79 ?_
      refine gk_iaload dX8_goes_80 rfl h.1 ?_
      replace h := h.2
      refine gk_nmi (fun v4_81 ev4_81 => ?_)
      replace h := h v4_81 ev4_81
      refine gk_istore dX8_goes_81 (Nat.le_of_ble_eq_true rfl) rfl rfl ?_
      refine gk_aload_n dX8_goes_83 rfl ?_
      refine gk_getr dX8_goes_84 rfl rfl wfX8_52 ?_
      refine gk_iload_n dX8_goes_87 rfl ?_
      refine gk_iconst (v := (-1)) dX8_goes_88 rfl ?_
      refine gk_iastore dX8_goes_89 rfl h.1 ?_
      replace h := h.2
      refine gk_nmS (fun S89 eS89 => ?_)
      replace h := h S89 eS89
      refine gk_iload_n dX8_goes_90 rfl ?_
      refine gk_iload_n dX8_goes_91 rfl ?_
      refine gk_icmp_eq (tgt := 146) dX8_goes_92 (by decide) (fun c92 => ?_) (fun c92 => ?_)
      · replace h := h.1 c92
        exact gk_less (gz_le_s rfl (gz_le_s rfl (gz_le_s rfl (gz_le_n (gz_le_n gz_le_0))))) (oX8_goes_146 (fun y0 y1 S h => ih y0 y1 S h) _ _ _ h)
      · replace h := h.2 c92
        refine gk_aload_n dX8_goes_95 rfl ?_
        refine gk_iload_n dX8_goes_96 rfl ?_
        refine gk_iload dX8_goes_97 rfl ?_
        refine gk_callV (as := [_, _]) (rest := []) (ctX8_mayCarry h) dX8_goes_99 rfl rfl wvX8_179 wcX8_mayCarry rfl (Nat.le_of_ble_eq_true rfl) ⟨Nat.le_refl _, Nat.le_refl _⟩ (fun h9 => absurd rfl h9) (Nat.le_of_ble_eq_true rfl) rfl (fun v G2 S99 hq => ?_)
        obtain ⟨rfl, r99, rfl, h⟩ := hq
        refine gk_if_eq (tgt := 146) dX8_goes_102 (by decide) (fun c102 => ?_) (fun c102 => ?_)
        · replace h := h.1 c102
          exact gk_less (gz_le_s rfl (gz_le_s rfl (gz_le_s rfl (gz_le_n (gz_le_n gz_le_0))))) (oX8_goes_146 (fun y0 y1 S h => ih y0 y1 S h) _ _ _ h)
        · replace h := h.2 c102
          refine gk_aload_n dX8_goes_105 rfl ?_
          refine gk_getr dX8_goes_106 rfl rfl wfX8_55 ?_
          refine gk_iload_n dX8_goes_109 rfl ?_
          refine gk_dup2 dX8_goes_110 rfl rfl ?_
          refine gk_iaload dX8_goes_111 rfl h.1 ?_
          replace h := h.2
          refine gk_aload_n dX8_goes_112 rfl ?_
          refine gk_getr dX8_goes_113 rfl rfl wfX8_37 ?_
          refine gk_iload dX8_goes_116 rfl ?_
          refine gk_iaload dX8_goes_118 rfl h.1 ?_
          replace h := h.2
          refine gk_iconst (v := 1) dX8_goes_119 rfl ?_
          refine gk_iadd dX8_goes_120 ?_
          refine gk_iadd dX8_goes_121 ?_
          refine gk_iastore dX8_goes_122 rfl h.1 ?_
          replace h := h.2
          refine gk_nmS (fun S122 eS122 => ?_)
          replace h := h S122 eS122
          refine gk_aload_n dX8_goes_123 rfl ?_
          refine gk_getr dX8_goes_124 rfl rfl wfX8_58 ?_
          refine gk_iload dX8_goes_127 rfl ?_
          refine gk_iload_n dX8_goes_129 rfl ?_
          refine gk_iastore dX8_goes_130 rfl h.1 ?_
          replace h := h.2
          refine gk_nmS (fun S130 eS130 => ?_)
          replace h := h S130 eS130
          refine gk_aload_n dX8_goes_131 rfl ?_
          refine gk_getr dX8_goes_132 rfl rfl wfX8_52 ?_
          refine gk_iload_n dX8_goes_135 rfl ?_
          refine gk_aload_n dX8_goes_136 rfl ?_
          refine gk_getr dX8_goes_137 rfl rfl wfX8_55 ?_
          refine gk_iload_n dX8_goes_140 rfl ?_
          refine gk_iaload dX8_goes_141 rfl h.1 ?_
          replace h := h.2
          refine gk_iastore dX8_goes_142 rfl h.1 ?_
          replace h := h.2
          refine gk_nmS (fun S142 eS142 => ?_)
          replace h := h S142 eS142
          refine gk_goto (tgt := 181) dX8_goes_143 (by decide) ?_
          exact gk_less (gz_le_s rfl (gz_le_s rfl (gz_le_s rfl (gz_le_n (gz_le_n gz_le_0))))) (oX8_goes_181 (fun y0 y1 S h => ih y0 y1 S h) _ _ _ h)
set_option maxHeartbeats 4000000 in
set_option maxRecDepth 100000 in
theorem oX8_goes_33 {E : gz_E} {Q : gz_S → Prop} : ∀ (n : Nat) (x1 : Int32) (x2 : Int32) (S : gz_S), wX8_goes_33 Q n x1 x2 S → gz_k E mX8_goes (2, 0, 0, 73) 0 0 33 [some (.ref 45), some (.int x1), some (.int x2), none, none] [] gz_F S (gz_qv Q) := by
  intro n
  induction n with
  | zero =>
    intro x1 x2 S h
    exact h.elim
  | succ n ih =>
    intro x1 x2 S h
    unfold wX8_goes_33 at h
    refine gk_iload_n dX8_goes_33 rfl ?_
    refine gk_bipush (v := 9) dX8_goes_34 rfl ?_
    refine gk_icmp_ge (tgt := 52) dX8_goes_36 (by decide) (fun c36 => ?_) (fun c36 => ?_)
    · replace h := h.1 c36
      refine gk_iconst (v := 0) dX8_goes_52 rfl ?_
      refine gk_istore_n dX8_goes_53 (Nat.le_of_ble_eq_true rfl) rfl rfl ?_
      obtain ⟨m54, h⟩ := h
      exact gk_less (gz_le_s rfl (gz_le_s rfl (gz_le_s rfl (gz_le_n (gz_le_n gz_le_0))))) (oX8_goes_54 m54 _ _ _ h)
    · replace h := h.2 c36
      refine gk_aload_n dX8_goes_39 rfl ?_
      refine gk_getr dX8_goes_40 rfl rfl wfX8_58 ?_
      refine gk_iload_n dX8_goes_43 rfl ?_
      refine gk_iconst (v := (-1)) dX8_goes_44 rfl ?_
      refine gk_iastore dX8_goes_45 rfl h.1 ?_
      replace h := h.2
      refine gk_nmS (fun S45 eS45 => ?_)
      replace h := h S45 eS45
      refine gk_iinc dX8_goes_46 rfl (Nat.le_of_ble_eq_true rfl) rfl rfl rfl ?_
      refine gk_goto (tgt := 33) dX8_goes_49 (by decide) ?_
      exact gk_less (gz_le_s rfl (gz_le_s rfl (gz_le_s rfl (gz_le_n (gz_le_n gz_le_0))))) (ih _ _ _ h)
set_option maxHeartbeats 4000000 in
set_option maxRecDepth 100000 in
theorem oX8_goes_12 {E : gz_E} {Q : gz_S → Prop} : ∀ (n : Nat) (x1 : Int32) (x2 : Int32) (S : gz_S), wX8_goes_12 Q n x1 x2 S → gz_k E mX8_goes (2, 0, 0, 73) 0 0 12 [some (.ref 45), some (.int x1), some (.int x2), none, none] [] gz_F S (gz_qv Q) := by
  intro n
  induction n with
  | zero =>
    intro x1 x2 S h
    exact h.elim
  | succ n ih =>
    intro x1 x2 S h
    unfold wX8_goes_12 at h
    refine gk_iload_n dX8_goes_12 rfl ?_
    refine gk_bipush (v := 8) dX8_goes_13 rfl ?_
    refine gk_icmp_ge (tgt := 31) dX8_goes_15 (by decide) (fun c15 => ?_) (fun c15 => ?_)
    · replace h := h.1 c15
      refine gk_iconst (v := 0) dX8_goes_31 rfl ?_
      refine gk_istore_n dX8_goes_32 (Nat.le_of_ble_eq_true rfl) rfl rfl ?_
      obtain ⟨m33, h⟩ := h
      exact gk_less (gz_le_s rfl (gz_le_s rfl (gz_le_s rfl (gz_le_n (gz_le_n gz_le_0))))) (oX8_goes_33 m33 _ _ _ h)
    · replace h := h.2 c15
      refine gk_aload_n dX8_goes_18 rfl ?_
      refine gk_getr dX8_goes_19 rfl rfl wfX8_55 ?_
      refine gk_iload_n dX8_goes_22 rfl ?_
      refine gk_iconst (v := 0) dX8_goes_23 rfl ?_
      refine gk_iastore dX8_goes_24 rfl h.1 ?_
      replace h := h.2
      refine gk_nmS (fun S24 eS24 => ?_)
      replace h := h S24 eS24
      refine gk_iinc dX8_goes_25 rfl (Nat.le_of_ble_eq_true rfl) rfl rfl rfl ?_
      refine gk_goto (tgt := 12) dX8_goes_28 (by decide) ?_
      exact gk_less (gz_le_s rfl (gz_le_s rfl (gz_le_s rfl (gz_le_n (gz_le_n gz_le_0))))) (ih _ _ _ h)
set_option maxHeartbeats 4000000 in
set_option maxRecDepth 100000 in
theorem ctX8_goes {E : gz_E} {x1 : Int32} {S : gz_S} {Q : gz_S → Prop} (h : wX8_goes x1 S Q) : gz_m E mX8_goes 2 0 0 [.ref 45, .int x1] gz_F S (gz_qv Q) := by
  refine gz_meet0 (L0 := [some (.ref 45), some (.int x1), none, none, none]) (by decide) rfl (Nat.le_of_ble_eq_true rfl) (by decide) ?_
  unfold wX8_goes at h
  refine gk_aload_n dX8_goes_0 rfl ?_
  refine gk_iconst (v := 0) dX8_goes_1 rfl ?_
  refine gk_puti dX8_goes_2 rfl rfl wfX8_173 wpX8_21 rfl rfl ?_
  refine gk_nmS (fun S2 eS2 => ?_)
  replace h := h S2 eS2
  refine gk_aload_n dX8_goes_5 rfl ?_
  refine gk_iconst (v := (-1)) dX8_goes_6 rfl ?_
  refine gk_puti dX8_goes_7 rfl rfl wfX8_176 wpX8_22 rfl rfl ?_
  refine gk_nmS (fun S7 eS7 => ?_)
  replace h := h S7 eS7
  refine gk_iconst (v := 0) dX8_goes_10 rfl ?_
  refine gk_istore_n dX8_goes_11 (Nat.le_of_ble_eq_true rfl) rfl rfl ?_
  obtain ⟨m12, h⟩ := h
  exact gk_less (gz_le_s rfl (gz_le_s rfl (gz_le_s rfl (gz_le_n (gz_le_n gz_le_0))))) (oX8_goes_12 m12 _ _ _ h)
set_option maxHeartbeats 4000000 in
set_option maxRecDepth 100000 in
theorem ctX8_personOf {E : gz_E} {x1 : Int32} {x2 : Int32} {S : gz_S} {Q : Int32 → gz_S → Prop} (h : wX8_personOf x1 x2 S Q) : gz_m E mX8_personOf 1 0 0 [.ref 45, .int x1, .int x2] gz_F S (gz_qi Q) := by
  refine gz_meet0 (L0 := [some (.ref 45), some (.int x1), some (.int x2)]) (by decide) rfl (Nat.le_of_ble_eq_true rfl) (by decide) ?_
  unfold wX8_personOf at h
  refine gk_iload_n dX8_personOf_0 rfl ?_
  refine gk_if_ne (tgt := 13) dX8_personOf_1 (by decide) (fun c1 => ?_) (fun c1 => ?_)
  · replace h := h.1 c1
    refine gk_iload_n dX8_personOf_13 rfl ?_
    refine gk_iconst (v := 1) dX8_personOf_14 rfl ?_
    refine gk_icmp_ne (tgt := 27) dX8_personOf_15 (by decide) (fun c15 => ?_) (fun c15 => ?_)
    · replace h := h.1 c15
      refine gk_aload_n dX8_personOf_27 rfl ?_
      refine gk_getr dX8_personOf_28 rfl rfl wfX8_55 ?_
      refine gk_iload_n dX8_personOf_31 rfl ?_
      refine gk_iaload dX8_personOf_32 rfl h.1 ?_
      replace h := h.2
      exact gk_iret dX8_personOf_33 rfl rfl rfl rfl ⟨rfl, _, rfl, h⟩
    · replace h := h.2 c15
      refine gk_aload_n dX8_personOf_18 rfl ?_
      refine gk_getr dX8_personOf_19 rfl rfl wfX8_31 ?_
      refine gk_iload_n dX8_personOf_22 rfl ?_
      refine gk_iaload dX8_personOf_23 rfl h.1 ?_
      replace h := h.2
      refine gk_goto (tgt := 33) dX8_personOf_24 (by decide) ?_
      exact gk_iret dX8_personOf_33 rfl rfl rfl rfl ⟨rfl, _, rfl, h⟩
  · replace h := h.2 c1
    refine gk_aload_n dX8_personOf_4 rfl ?_
    refine gk_getr dX8_personOf_5 rfl rfl wfX8_28 ?_
    refine gk_iload_n dX8_personOf_8 rfl ?_
    refine gk_iaload dX8_personOf_9 rfl h.1 ?_
    replace h := h.2
    refine gk_goto (tgt := 33) dX8_personOf_10 (by decide) ?_
    exact gk_iret dX8_personOf_33 rfl rfl rfl rfl ⟨rfl, _, rfl, h⟩
set_option maxHeartbeats 4000000 in
set_option maxRecDepth 100000 in
theorem ctX8_person {E : gz_E} {x1 : Int32} {x2 : Int32} {S : gz_S} {Q : Int32 → gz_S → Prop} (h : wX8_person x1 x2 S Q) : gz_m E mX8_person 5 0 0 [.ref 45, .int x1, .int x2] gz_F S (gz_qi Q) := by
  refine gz_meet0 (L0 := [some (.ref 45), some (.int x1), some (.int x2)]) (by decide) rfl (Nat.le_of_ble_eq_true rfl) (by decide) ?_
  unfold wX8_person at h
  refine gk_aload_n dX8_person_0 rfl ?_
  refine gk_iload_n dX8_person_1 rfl ?_
  refine gk_callV (as := [_]) (rest := []) (ctX8_isPerson h) dX8_person_2 rfl rfl wvX8_183 wcX8_isPerson rfl (Nat.le_of_ble_eq_true rfl) ⟨Nat.le_refl _, Nat.le_refl _⟩ (fun h9 => absurd rfl h9) (Nat.le_of_ble_eq_true rfl) rfl (fun v G2 S2 hq => ?_)
  obtain ⟨rfl, r2, rfl, h⟩ := hq
  refine gk_if_eq (tgt := 20) dX8_person_5 (by decide) (fun c5 => ?_) (fun c5 => ?_)
  · replace h := h.1 c5
    refine gk_bipush (v := (-2)) dX8_person_20 rfl ?_
    exact gk_iret dX8_person_22 rfl rfl rfl rfl ⟨rfl, _, rfl, h⟩
  · replace h := h.2 c5
    refine gk_iload_n dX8_person_8 rfl ?_
    refine gk_i2l dX8_person_9 ?_
    refine gk_lconst (v := 0) dX8_person_10 rfl ?_
    refine gk_ldc2 dX8_person_11 wkX8_106 ?_
    refine gk_callS (as := [_, _, _]) (rest := []) (ctX8_in h) dX8_person_14 wvX8_92 wcX8_in rfl (Nat.le_of_ble_eq_true rfl) ⟨Nat.le_refl _, Nat.le_refl _⟩ (fun h9 => absurd rfl h9) (Nat.le_of_ble_eq_true rfl) rfl (fun v G2 S14 hq => ?_)
    obtain ⟨rfl, r14, rfl, h⟩ := hq
    refine gk_if_ne (tgt := 23) dX8_person_17 (by decide) (fun c17 => ?_) (fun c17 => ?_)
    · replace h := h.1 c17
      refine gk_aload_n dX8_person_23 rfl ?_
      refine gk_iconst (v := (-1)) dX8_person_24 rfl ?_
      refine gk_callV (as := [_]) (rest := []) (ctX8_goes h) dX8_person_25 rfl rfl wvX8_186 wcX8_goes rfl (Nat.le_of_ble_eq_true rfl) ⟨Nat.le_refl _, Nat.le_refl _⟩ (fun h9 => absurd rfl h9) (Nat.le_of_ble_eq_true rfl) rfl (fun v G2 S25 hq => ?_)
      obtain ⟨rfl, rfl, h⟩ := hq
      refine gk_aload_n dX8_person_28 rfl ?_
      refine gk_iload_n dX8_person_29 rfl ?_
      refine gk_iload_n dX8_person_30 rfl ?_
      refine gk_callV (as := [_, _]) (rest := []) (ctX8_personOf h) dX8_person_31 rfl rfl wvX8_190 wcX8_personOf rfl (Nat.le_of_ble_eq_true rfl) ⟨Nat.le_refl _, Nat.le_refl _⟩ (fun h9 => absurd rfl h9) (Nat.le_of_ble_eq_true rfl) rfl (fun v G2 S31 hq => ?_)
      obtain ⟨rfl, r31, rfl, h⟩ := hq
      exact gk_iret dX8_person_34 rfl rfl rfl rfl ⟨rfl, _, rfl, h⟩
    · replace h := h.2 c17
      refine gk_bipush (v := (-2)) dX8_person_20 rfl ?_
      exact gk_iret dX8_person_22 rfl rfl rfl rfl ⟨rfl, _, rfl, h⟩
set_option maxHeartbeats 4000000 in
set_option maxRecDepth 100000 in
theorem ctX7_stone {E : gz_E} {x1 : Int32} {x2 : Int32} {S : gz_S} {Q : Int32 → gz_S → Prop} (h : wX7_stone x1 x2 S Q) : gz_m E mX7_stone 2 0 0 [.ref 0, .int x1, .int x2] gz_F S (gz_qi Q) := by
  refine gz_meet0 (L0 := [some (.ref 0), some (.int x1), some (.int x2)]) (by decide) rfl (Nat.le_of_ble_eq_true rfl) (by decide) ?_
  unfold wX7_stone at h
  refine gk_iload_n dX7_stone_0 rfl ?_
  refine gk_iconst (v := 0) dX7_stone_1 rfl ?_
  refine gk_aload_n dX7_stone_2 rfl ?_
  refine gk_getr dX7_stone_3 rfl rfl wfX7_10 ?_
  refine gk_getr dX7_stone_6 rfl rfl wfX7_110 ?_
  refine gk_geti dX7_stone_9 rfl rfl wfX7_96 ?_
  refine gk_iconst (v := 1) dX7_stone_12 rfl ?_
  refine gk_isub dX7_stone_13 ?_
  refine gk_callS (as := [_, _, _]) (rest := []) (ctX7_within h) dX7_stone_14 wvX7_62 wcX7_within rfl (Nat.le_of_ble_eq_true rfl) ⟨Nat.le_refl _, Nat.le_refl _⟩ (fun h9 => absurd rfl h9) (Nat.le_of_ble_eq_true rfl) rfl (fun v G2 S14 hq => ?_)
  obtain ⟨rfl, r14, rfl, h⟩ := hq
  refine gk_if_eq (tgt := 29) dX7_stone_17 (by decide) (fun c17 => ?_) (fun c17 => ?_)
  · replace h := h.1 c17
    refine gk_bipush (v := (-2)) dX7_stone_29 rfl ?_
    exact gk_iret dX7_stone_31 rfl rfl rfl rfl ⟨rfl, _, rfl, h⟩
  · replace h := h.2 c17
    refine gk_iload_n dX7_stone_20 rfl ?_
    refine gk_iconst (v := 0) dX7_stone_21 rfl ?_
    refine gk_iconst (v := 2) dX7_stone_22 rfl ?_
    refine gk_callS (as := [_, _, _]) (rest := []) (ctX7_within h) dX7_stone_23 wvX7_62 wcX7_within rfl (Nat.le_of_ble_eq_true rfl) ⟨Nat.le_refl _, Nat.le_refl _⟩ (fun h9 => absurd rfl h9) (Nat.le_of_ble_eq_true rfl) rfl (fun v G2 S23 hq => ?_)
    obtain ⟨rfl, r23, rfl, h⟩ := hq
    refine gk_if_ne (tgt := 32) dX7_stone_26 (by decide) (fun c26 => ?_) (fun c26 => ?_)
    · replace h := h.1 c26
      refine gk_iload_n dX7_stone_32 rfl ?_
      refine gk_if_ne (tgt := 45) dX7_stone_33 (by decide) (fun c33 => ?_) (fun c33 => ?_)
      · replace h := h.1 c33
        refine gk_iload_n dX7_stone_45 rfl ?_
        refine gk_iconst (v := 1) dX7_stone_46 rfl ?_
        refine gk_icmp_ne (tgt := 61) dX7_stone_47 (by decide) (fun c47 => ?_) (fun c47 => ?_)
        · replace h := h.1 c47
          refine gk_aload_n dX7_stone_61 rfl ?_
          refine gk_getr dX7_stone_62 rfl rfl wfX7_28 ?_
          refine gk_getr dX7_stone_65 rfl rfl wfX7_119 ?_
          refine gk_iload_n dX7_stone_68 rfl ?_
          refine gk_iaload dX7_stone_69 rfl h.1 ?_
          replace h := h.2
          exact gk_iret dX7_stone_70 rfl rfl rfl rfl ⟨rfl, _, rfl, h⟩
        · replace h := h.2 c47
          refine gk_aload_n dX7_stone_50 rfl ?_
          refine gk_getr dX7_stone_51 rfl rfl wfX7_10 ?_
          refine gk_iload_n dX7_stone_54 rfl ?_
          refine gk_callV (as := [_]) (rest := []) (ctX3_way h) dX7_stone_55 rfl rfl wvX7_116 wcX3_way rfl (Nat.le_of_ble_eq_true rfl) ⟨Nat.le_refl _, Nat.le_refl _⟩ (fun h9 => absurd rfl h9) (Nat.le_of_ble_eq_true rfl) rfl (fun v G2 S55 hq => ?_)
          obtain ⟨rfl, r55, rfl, h⟩ := hq
          refine gk_goto (tgt := 70) dX7_stone_58 (by decide) ?_
          exact gk_iret dX7_stone_70 rfl rfl rfl rfl ⟨rfl, _, rfl, h⟩
      · replace h := h.2 c33
        refine gk_aload_n dX7_stone_36 rfl ?_
        refine gk_getr dX7_stone_37 rfl rfl wfX7_10 ?_
        refine gk_iload_n dX7_stone_40 rfl ?_
        refine gk_callV (as := [_]) (rest := []) (ctX3_weight h) dX7_stone_41 rfl rfl wvX7_113 wcX3_weight rfl (Nat.le_of_ble_eq_true rfl) ⟨Nat.le_refl _, Nat.le_refl _⟩ (fun h9 => absurd rfl h9) (Nat.le_of_ble_eq_true rfl) rfl (fun v G2 S41 hq => ?_)
        obtain ⟨rfl, r41, rfl, h⟩ := hq
        exact gk_iret dX7_stone_44 rfl rfl rfl rfl ⟨rfl, _, rfl, h⟩
    · replace h := h.2 c26
      refine gk_bipush (v := (-2)) dX7_stone_29 rfl ?_
      exact gk_iret dX7_stone_31 rfl rfl rfl rfl ⟨rfl, _, rfl, h⟩
set_option maxHeartbeats 4000000 in
set_option maxRecDepth 100000 in
theorem ctX8_isStone {E : gz_E} {x1 : Int32} {S : gz_S} {Q : Int32 → gz_S → Prop} (h : wX8_isStone x1 S Q) : gz_m E mX8_isStone 4 0 0 [.ref 45, .int x1] gz_F S (gz_qi Q) := by
  refine gz_meet0 (L0 := [some (.ref 45), some (.int x1)]) (by decide) rfl (Nat.le_of_ble_eq_true rfl) (by decide) ?_
  unfold wX8_isStone at h
  refine gk_aload_n dX8_isStone_0 rfl ?_
  refine gk_callV (as := []) (rest := []) (ctX8_reads h) dX8_isStone_1 rfl rfl wvX8_147 wcX8_reads rfl (Nat.le_of_ble_eq_true rfl) ⟨Nat.le_refl _, Nat.le_refl _⟩ (fun h9 => absurd rfl h9) (Nat.le_of_ble_eq_true rfl) rfl (fun v G2 S1 hq => ?_)
  obtain ⟨rfl, rfl, h⟩ := hq
  refine gk_iload_n dX8_isStone_4 rfl ?_
  refine gk_i2l dX8_isStone_5 ?_
  refine gk_lconst (v := 0) dX8_isStone_6 rfl ?_
  refine gk_aload_n dX8_isStone_7 rfl ?_
  refine gk_geti dX8_isStone_8 rfl rfl wfX8_137 ?_
  refine gk_iconst (v := 1) dX8_isStone_11 rfl ?_
  refine gk_isub dX8_isStone_12 ?_
  refine gk_i2l dX8_isStone_13 ?_
  refine gk_callS (as := [_, _, _]) (rest := []) (ctX8_in h) dX8_isStone_14 wvX8_92 wcX8_in rfl (Nat.le_of_ble_eq_true rfl) ⟨Nat.le_refl _, Nat.le_refl _⟩ (fun h9 => absurd rfl h9) (Nat.le_of_ble_eq_true rfl) rfl (fun v G2 S14 hq => ?_)
  obtain ⟨rfl, r14, rfl, h⟩ := hq
  exact gk_iret dX8_isStone_17 rfl rfl rfl (gz_b01_nz h.1) ⟨rfl, _, rfl, h.2⟩
set_option maxHeartbeats 4000000 in
set_option maxRecDepth 100000 in
theorem ctX8_stoneOf {E : gz_E} {x1 : Int32} {x2 : Int32} {S : gz_S} {Q : Int32 → gz_S → Prop} (h : wX8_stoneOf x1 x2 S Q) : gz_m E mX8_stoneOf 1 0 0 [.ref 45, .int x1, .int x2] gz_F S (gz_qi Q) := by
  refine gz_meet0 (L0 := [some (.ref 45), some (.int x1), some (.int x2)]) (by decide) rfl (Nat.le_of_ble_eq_true rfl) (by decide) ?_
  unfold wX8_stoneOf at h
  refine gk_iload_n dX8_stoneOf_0 rfl ?_
  refine gk_if_ne (tgt := 13) dX8_stoneOf_1 (by decide) (fun c1 => ?_) (fun c1 => ?_)
  · replace h := h.1 c1
    refine gk_iload_n dX8_stoneOf_13 rfl ?_
    refine gk_iconst (v := 1) dX8_stoneOf_14 rfl ?_
    refine gk_icmp_ne (tgt := 27) dX8_stoneOf_15 (by decide) (fun c15 => ?_) (fun c15 => ?_)
    · replace h := h.1 c15
      refine gk_aload_n dX8_stoneOf_27 rfl ?_
      refine gk_getr dX8_stoneOf_28 rfl rfl wfX8_58 ?_
      refine gk_iload_n dX8_stoneOf_31 rfl ?_
      refine gk_iaload dX8_stoneOf_32 rfl h.1 ?_
      replace h := h.2
      exact gk_iret dX8_stoneOf_33 rfl rfl rfl rfl ⟨rfl, _, rfl, h⟩
    · replace h := h.2 c15
      refine gk_aload_n dX8_stoneOf_18 rfl ?_
      refine gk_getr dX8_stoneOf_19 rfl rfl wfX8_37 ?_
      refine gk_iload_n dX8_stoneOf_22 rfl ?_
      refine gk_iaload dX8_stoneOf_23 rfl h.1 ?_
      replace h := h.2
      refine gk_goto (tgt := 33) dX8_stoneOf_24 (by decide) ?_
      exact gk_iret dX8_stoneOf_33 rfl rfl rfl rfl ⟨rfl, _, rfl, h⟩
  · replace h := h.2 c1
    refine gk_aload_n dX8_stoneOf_4 rfl ?_
    refine gk_getr dX8_stoneOf_5 rfl rfl wfX8_34 ?_
    refine gk_iload_n dX8_stoneOf_8 rfl ?_
    refine gk_iaload dX8_stoneOf_9 rfl h.1 ?_
    replace h := h.2
    refine gk_goto (tgt := 33) dX8_stoneOf_10 (by decide) ?_
    exact gk_iret dX8_stoneOf_33 rfl rfl rfl rfl ⟨rfl, _, rfl, h⟩
set_option maxHeartbeats 4000000 in
set_option maxRecDepth 100000 in
theorem ctX8_stone {E : gz_E} {x1 : Int32} {x2 : Int32} {S : gz_S} {Q : Int32 → gz_S → Prop} (h : wX8_stone x1 x2 S Q) : gz_m E mX8_stone 5 0 0 [.ref 45, .int x1, .int x2] gz_F S (gz_qi Q) := by
  refine gz_meet0 (L0 := [some (.ref 45), some (.int x1), some (.int x2)]) (by decide) rfl (Nat.le_of_ble_eq_true rfl) (by decide) ?_
  unfold wX8_stone at h
  refine gk_aload_n dX8_stone_0 rfl ?_
  refine gk_iload_n dX8_stone_1 rfl ?_
  refine gk_callV (as := [_]) (rest := []) (ctX8_isStone h) dX8_stone_2 rfl rfl wvX8_193 wcX8_isStone rfl (Nat.le_of_ble_eq_true rfl) ⟨Nat.le_refl _, Nat.le_refl _⟩ (fun h9 => absurd rfl h9) (Nat.le_of_ble_eq_true rfl) rfl (fun v G2 S2 hq => ?_)
  obtain ⟨rfl, r2, rfl, h⟩ := hq
  refine gk_if_eq (tgt := 20) dX8_stone_5 (by decide) (fun c5 => ?_) (fun c5 => ?_)
  · replace h := h.1 c5
    refine gk_bipush (v := (-2)) dX8_stone_20 rfl ?_
    exact gk_iret dX8_stone_22 rfl rfl rfl rfl ⟨rfl, _, rfl, h⟩
  · replace h := h.2 c5
    refine gk_iload_n dX8_stone_8 rfl ?_
    refine gk_i2l dX8_stone_9 ?_
    refine gk_lconst (v := 0) dX8_stone_10 rfl ?_
    refine gk_ldc2 dX8_stone_11 wkX8_106 ?_
    refine gk_callS (as := [_, _, _]) (rest := []) (ctX8_in h) dX8_stone_14 wvX8_92 wcX8_in rfl (Nat.le_of_ble_eq_true rfl) ⟨Nat.le_refl _, Nat.le_refl _⟩ (fun h9 => absurd rfl h9) (Nat.le_of_ble_eq_true rfl) rfl (fun v G2 S14 hq => ?_)
    obtain ⟨rfl, r14, rfl, h⟩ := hq
    refine gk_if_ne (tgt := 23) dX8_stone_17 (by decide) (fun c17 => ?_) (fun c17 => ?_)
    · replace h := h.1 c17
      refine gk_aload_n dX8_stone_23 rfl ?_
      refine gk_iconst (v := (-1)) dX8_stone_24 rfl ?_
      refine gk_callV (as := [_]) (rest := []) (ctX8_goes h) dX8_stone_25 rfl rfl wvX8_186 wcX8_goes rfl (Nat.le_of_ble_eq_true rfl) ⟨Nat.le_refl _, Nat.le_refl _⟩ (fun h9 => absurd rfl h9) (Nat.le_of_ble_eq_true rfl) rfl (fun v G2 S25 hq => ?_)
      obtain ⟨rfl, rfl, h⟩ := hq
      refine gk_aload_n dX8_stone_28 rfl ?_
      refine gk_iload_n dX8_stone_29 rfl ?_
      refine gk_iload_n dX8_stone_30 rfl ?_
      refine gk_callV (as := [_, _]) (rest := []) (ctX8_stoneOf h) dX8_stone_31 rfl rfl wvX8_196 wcX8_stoneOf rfl (Nat.le_of_ble_eq_true rfl) ⟨Nat.le_refl _, Nat.le_refl _⟩ (fun h9 => absurd rfl h9) (Nat.le_of_ble_eq_true rfl) rfl (fun v G2 S31 hq => ?_)
      obtain ⟨rfl, r31, rfl, h⟩ := hq
      exact gk_iret dX8_stone_34 rfl rfl rfl rfl ⟨rfl, _, rfl, h⟩
    · replace h := h.2 c17
      refine gk_bipush (v := (-2)) dX8_stone_20 rfl ?_
      exact gk_iret dX8_stone_22 rfl rfl rfl rfl ⟨rfl, _, rfl, h⟩
set_option maxHeartbeats 4000000 in
set_option maxRecDepth 100000 in
theorem oX7_set_52 {E : gz_E} {Q : Int32 → gz_S → Prop} : ∀ (x1 : Int32) (x2 : Int32) (t0 : Int32) (S : gz_S), wX7_set_52 Q x1 x2 t0 S → gz_k E mX7_set (5, 0, 0, 73) 0 0 52 [some (.ref 0), some (.int x1), some (.int x2), none] [.int t0] gz_F S (gz_qi Q) := by
  intro x1 x2 t0 S h
  unfold wX7_set_52 at h
  refine gk_istore_n dX7_set_52 (Nat.le_of_ble_eq_true rfl) rfl rfl ?_
  refine gk_iload_n dX7_set_53 rfl ?_
  refine gk_if_ne (tgt := 75) dX7_set_54 (by decide) (fun c54 => ?_) (fun c54 => ?_)
  · replace h := h.1 c54
    refine gk_aload_n dX7_set_75 rfl ?_
    refine gk_getr dX7_set_76 rfl rfl wfX7_10 ?_
    refine gk_iload_n dX7_set_79 rfl ?_
    refine gk_puti dX7_set_80 rfl rfl wfX7_125 wpX3_5 rfl rfl ?_
    refine gk_nmS (fun S80 eS80 => ?_)
    replace h := h S80 eS80
    refine gk_iload_n dX7_set_83 rfl ?_
    exact gk_iret dX7_set_84 rfl rfl rfl rfl ⟨rfl, _, rfl, h⟩
  · replace h := h.2 c54
    refine gk_aload_n dX7_set_57 rfl ?_
    refine gk_getr dX7_set_58 rfl rfl wfX7_10 ?_
    refine gk_iload_n dX7_set_61 rfl ?_
    refine gk_puti dX7_set_62 rfl rfl wfX7_122 wpX3_4 rfl rfl ?_
    refine gk_nmS (fun S62 eS62 => ?_)
    replace h := h S62 eS62
    refine gk_aload_n dX7_set_65 rfl ?_
    refine gk_getr dX7_set_66 rfl rfl wfX7_28 ?_
    refine gk_callV (as := []) (rest := []) (ctX2_judgeAll_16 h) dX7_set_69 rfl rfl wvX7_80 wcX2_judgeAll rfl (Nat.le_of_ble_eq_true rfl) ⟨Nat.le_refl _, Nat.le_refl _⟩ (fun h9 => absurd rfl h9) (Nat.le_of_ble_eq_true rfl) rfl (fun v G2 S69 hq => ?_)
    obtain ⟨rfl, rfl, h⟩ := hq
    refine gk_goto (tgt := 83) dX7_set_72 (by decide) ?_
    refine gk_iload_n dX7_set_83 rfl ?_
    exact gk_iret dX7_set_84 rfl rfl rfl rfl ⟨rfl, _, rfl, h⟩
set_option maxHeartbeats 4000000 in
set_option maxRecDepth 100000 in
theorem oX7_set_22 {E : gz_E} {Q : Int32 → gz_S → Prop} : ∀ (x1 : Int32) (x2 : Int32) (t0 : Int32) (t1 : Int32) (t2 : Int32) (S : gz_S), wX7_set_22 Q x1 x2 t0 t1 t2 S → gz_k E mX7_set (5, 0, 0, 73) 0 0 22 [some (.ref 0), some (.int x1), some (.int x2), none] [.int t2, .int t1, .int t0] gz_F S (gz_qi Q) := by
  intro x1 x2 t0 t1 t2 S h
  unfold wX7_set_22 at h
  refine gk_callS (as := [_, _, _]) (rest := []) (ctX7_within h) dX7_set_22 wvX7_62 wcX7_within rfl (Nat.le_of_ble_eq_true rfl) ⟨Nat.le_refl _, Nat.le_refl _⟩ (fun h9 => absurd rfl h9) (Nat.le_of_ble_eq_true rfl) rfl (fun v G2 S22 hq => ?_)
  obtain ⟨rfl, r22, rfl, h⟩ := hq
  refine gk_if_ne (tgt := 31) dX7_set_25 (by decide) (fun c25 => ?_) (fun c25 => ?_)
  · replace h := h.1 c25
    refine gk_iload_n dX7_set_31 rfl ?_
    refine gk_if_ne (tgt := 45) dX7_set_32 (by decide) (fun c32 => ?_) (fun c32 => ?_)
    · replace h := h.1 c32
      refine gk_aload_n dX7_set_45 rfl ?_
      refine gk_getr dX7_set_46 rfl rfl wfX7_10 ?_
      refine gk_geti dX7_set_49 rfl rfl wfX7_125 ?_
      exact gk_less (gz_le_s rfl (gz_le_s rfl (gz_le_s rfl (gz_le_n gz_le_0)))) (oX7_set_52 _ _ _ _ h)
    · replace h := h.2 c32
      refine gk_aload_n dX7_set_35 rfl ?_
      refine gk_getr dX7_set_36 rfl rfl wfX7_10 ?_
      refine gk_geti dX7_set_39 rfl rfl wfX7_122 ?_
      refine gk_goto (tgt := 52) dX7_set_42 (by decide) ?_
      exact gk_less (gz_le_s rfl (gz_le_s rfl (gz_le_s rfl (gz_le_n gz_le_0)))) (oX7_set_52 _ _ _ _ h)
  · replace h := h.2 c25
    refine gk_bipush (v := (-2)) dX7_set_28 rfl ?_
    exact gk_iret dX7_set_30 rfl rfl rfl rfl ⟨rfl, _, rfl, h⟩
set_option maxHeartbeats 4000000 in
set_option maxRecDepth 100000 in
theorem ctX7_set {E : gz_E} {x1 : Int32} {x2 : Int32} {S : gz_S} {Q : Int32 → gz_S → Prop} (h : wX7_set x1 x2 S Q) : gz_m E mX7_set 5 0 0 [.ref 0, .int x1, .int x2] gz_F S (gz_qi Q) := by
  refine gz_meet0 (L0 := [some (.ref 0), some (.int x1), some (.int x2), none]) (by decide) rfl (Nat.le_of_ble_eq_true rfl) (by decide) ?_
  unfold wX7_set at h
  refine gk_iload_n dX7_set_0 rfl ?_
  refine gk_iconst (v := 0) dX7_set_1 rfl ?_
  refine gk_iconst (v := 1) dX7_set_2 rfl ?_
  refine gk_callS (as := [_, _, _]) (rest := []) (ctX7_within h) dX7_set_3 wvX7_62 wcX7_within rfl (Nat.le_of_ble_eq_true rfl) ⟨Nat.le_refl _, Nat.le_refl _⟩ (fun h9 => absurd rfl h9) (Nat.le_of_ble_eq_true rfl) rfl (fun v G2 S3 hq => ?_)
  obtain ⟨rfl, r3, rfl, h⟩ := hq
  refine gk_if_eq (tgt := 28) dX7_set_6 (by decide) (fun c6 => ?_) (fun c6 => ?_)
  · replace h := h.1 c6
    refine gk_bipush (v := (-2)) dX7_set_28 rfl ?_
    exact gk_iret dX7_set_30 rfl rfl rfl rfl ⟨rfl, _, rfl, h⟩
  · replace h := h.2 c6
    refine gk_iload_n dX7_set_9 rfl ?_
    refine gk_iconst (v := 1) dX7_set_10 rfl ?_
    refine gk_iload_n dX7_set_11 rfl ?_
    refine gk_if_ne (tgt := 20) dX7_set_12 (by decide) (fun c12 => ?_) (fun c12 => ?_)
    · replace h := h.1 c12
      refine gk_bipush (v := 99) dX7_set_20 rfl ?_
      exact gk_less (gz_le_s rfl (gz_le_s rfl (gz_le_s rfl (gz_le_n gz_le_0)))) (oX7_set_22 _ _ _ _ _ _ h)
    · replace h := h.2 c12
      refine gk_bipush (v := 24) dX7_set_15 rfl ?_
      refine gk_goto (tgt := 22) dX7_set_17 (by decide) ?_
      exact gk_less (gz_le_s rfl (gz_le_s rfl (gz_le_s rfl (gz_le_n gz_le_0)))) (oX7_set_22 _ _ _ _ _ _ h)
set_option maxHeartbeats 4000000 in
set_option maxRecDepth 100000 in
theorem oX8_set_23 {E : gz_E} {Q : Int32 → gz_S → Prop} : ∀ (x1 : Int32) (x2 : Int32) (t0 : Int64) (t1 : Int64) (t2 : Int64) (S : gz_S), wX8_set_23 Q x1 x2 t0 t1 t2 S → gz_k E mX8_set (3, 0, 0, 73) 0 0 23 [some (.ref 45), some (.int x1), some (.int x2), none] [.long t2, .long t1, .long t0] gz_F S (gz_qi Q) := by
  intro x1 x2 t0 t1 t2 S h
  unfold wX8_set_23 at h
  refine gk_callS (as := [_, _, _]) (rest := []) (ctX8_in h) dX8_set_23 wvX8_92 wcX8_in rfl (Nat.le_of_ble_eq_true rfl) ⟨Nat.le_refl _, Nat.le_refl _⟩ (fun h9 => absurd rfl h9) (Nat.le_of_ble_eq_true rfl) rfl (fun v G2 S23 hq => ?_)
  obtain ⟨rfl, r23, rfl, h⟩ := hq
  refine gk_if_ne (tgt := 32) dX8_set_26 (by decide) (fun c26 => ?_) (fun c26 => ?_)
  · replace h := h.1 c26
    refine gk_aload_n dX8_set_32 rfl ?_
    refine gk_getr dX8_set_33 rfl rfl wfX8_40 ?_
    refine gk_iload_n dX8_set_36 rfl ?_
    refine gk_iaload dX8_set_37 rfl h.1 ?_
    replace h := h.2
    refine gk_nmi (fun v3_38 ev3_38 => ?_)
    replace h := h v3_38 ev3_38
    refine gk_istore_n dX8_set_38 (Nat.le_of_ble_eq_true rfl) rfl rfl ?_
    refine gk_aload_n dX8_set_39 rfl ?_
    refine gk_getr dX8_set_40 rfl rfl wfX8_40 ?_
    refine gk_iload_n dX8_set_43 rfl ?_
    refine gk_iload_n dX8_set_44 rfl ?_
    refine gk_iastore dX8_set_45 rfl h.1 ?_
    replace h := h.2
    refine gk_nmS (fun S45 eS45 => ?_)
    replace h := h S45 eS45
    refine gk_iload_n dX8_set_46 rfl ?_
    exact gk_iret dX8_set_47 rfl rfl rfl rfl ⟨rfl, _, rfl, h⟩
  · replace h := h.2 c26
    refine gk_bipush (v := (-2)) dX8_set_29 rfl ?_
    exact gk_iret dX8_set_31 rfl rfl rfl rfl ⟨rfl, _, rfl, h⟩
set_option maxHeartbeats 4000000 in
set_option maxRecDepth 100000 in
theorem ctX8_set {E : gz_E} {x1 : Int32} {x2 : Int32} {S : gz_S} {Q : Int32 → gz_S → Prop} (h : wX8_set x1 x2 S Q) : gz_m E mX8_set 3 0 0 [.ref 45, .int x1, .int x2] gz_F S (gz_qi Q) := by
  refine gz_meet0 (L0 := [some (.ref 45), some (.int x1), some (.int x2), none]) (by decide) rfl (Nat.le_of_ble_eq_true rfl) (by decide) ?_
  unfold wX8_set at h
  refine gk_iload_n dX8_set_0 rfl ?_
  refine gk_callS (as := [_]) (rest := []) (ctX8_isTwo h) dX8_set_1 wvX8_121 wcX8_isTwo rfl (Nat.le_of_ble_eq_true rfl) ⟨Nat.le_refl _, Nat.le_refl _⟩ (fun h9 => absurd rfl h9) (Nat.le_of_ble_eq_true rfl) rfl (fun v G2 S1 hq => ?_)
  obtain ⟨rfl, r1, rfl, h⟩ := hq
  refine gk_if_eq (tgt := 29) dX8_set_4 (by decide) (fun c4 => ?_) (fun c4 => ?_)
  · replace h := h.1 c4
    refine gk_bipush (v := (-2)) dX8_set_29 rfl ?_
    exact gk_iret dX8_set_31 rfl rfl rfl rfl ⟨rfl, _, rfl, h⟩
  · replace h := h.2 c4
    refine gk_iload_n dX8_set_7 rfl ?_
    refine gk_i2l dX8_set_8 ?_
    refine gk_lconst (v := 1) dX8_set_9 rfl ?_
    refine gk_iload_n dX8_set_10 rfl ?_
    refine gk_if_ne (tgt := 20) dX8_set_11 (by decide) (fun c11 => ?_) (fun c11 => ?_)
    · replace h := h.1 c11
      refine gk_ldc2 dX8_set_20 wkX8_152 ?_
      exact gk_less (gz_le_s rfl (gz_le_s rfl (gz_le_s rfl (gz_le_n gz_le_0)))) (oX8_set_23 _ _ _ _ _ _ h)
    · replace h := h.2 c11
      refine gk_ldc2 dX8_set_14 wkX8_150 ?_
      refine gk_goto (tgt := 23) dX8_set_17 (by decide) ?_
      exact gk_less (gz_le_s rfl (gz_le_s rfl (gz_le_s rfl (gz_le_n gz_le_0)))) (oX8_set_23 _ _ _ _ _ _ h)
set_option maxHeartbeats 4000000 in
set_option maxRecDepth 100000 in
theorem ctX7_tide {E : gz_E} {x1 : Int32} {x2 : Int32} {S : gz_S} {Q : Int32 → gz_S → Prop} (h : wX7_tide x1 x2 S Q) : gz_m E mX7_tide 2 0 0 [.ref 0, .int x1, .int x2] gz_F S (gz_qi Q) := by
  refine gz_meet0 (L0 := [some (.ref 0), some (.int x1), some (.int x2), none]) (by decide) rfl (Nat.le_of_ble_eq_true rfl) (by decide) ?_
  unfold wX7_tide at h
  refine gk_iload_n dX7_tide_0 rfl ?_
  refine gk_iconst (v := 0) dX7_tide_1 rfl ?_
  refine gk_bipush (v := 24) dX7_tide_2 rfl ?_
  refine gk_callS (as := [_, _, _]) (rest := []) (ctX7_within h) dX7_tide_4 wvX7_62 wcX7_within rfl (Nat.le_of_ble_eq_true rfl) ⟨Nat.le_refl _, Nat.le_refl _⟩ (fun h9 => absurd rfl h9) (Nat.le_of_ble_eq_true rfl) rfl (fun v G2 S4 hq => ?_)
  obtain ⟨rfl, r4, rfl, h⟩ := hq
  refine gk_if_eq (tgt := 21) dX7_tide_7 (by decide) (fun c7 => ?_) (fun c7 => ?_)
  · replace h := h.1 c7
    refine gk_sipush (v := (-10002)) dX7_tide_21 rfl ?_
    exact gk_iret dX7_tide_24 rfl rfl rfl rfl ⟨rfl, _, rfl, h⟩
  · replace h := h.2 c7
    refine gk_iload_n dX7_tide_10 rfl ?_
    refine gk_bipush (v := (-50)) dX7_tide_11 rfl ?_
    refine gk_bipush (v := 50) dX7_tide_13 rfl ?_
    refine gk_callS (as := [_, _, _]) (rest := []) (ctX7_within h) dX7_tide_15 wvX7_62 wcX7_within rfl (Nat.le_of_ble_eq_true rfl) ⟨Nat.le_refl _, Nat.le_refl _⟩ (fun h9 => absurd rfl h9) (Nat.le_of_ble_eq_true rfl) rfl (fun v G2 S15 hq => ?_)
    obtain ⟨rfl, r15, rfl, h⟩ := hq
    refine gk_if_ne (tgt := 25) dX7_tide_18 (by decide) (fun c18 => ?_) (fun c18 => ?_)
    · replace h := h.1 c18
      refine gk_aload_n dX7_tide_25 rfl ?_
      refine gk_getr dX7_tide_26 rfl rfl wfX7_10 ?_
      refine gk_getr dX7_tide_29 rfl rfl wfX7_128 ?_
      refine gk_iload_n dX7_tide_32 rfl ?_
      refine gk_iaload dX7_tide_33 rfl h.1 ?_
      replace h := h.2
      refine gk_nmi (fun v3_34 ev3_34 => ?_)
      replace h := h v3_34 ev3_34
      refine gk_istore_n dX7_tide_34 (Nat.le_of_ble_eq_true rfl) rfl rfl ?_
      refine gk_aload_n dX7_tide_35 rfl ?_
      refine gk_getr dX7_tide_36 rfl rfl wfX7_10 ?_
      refine gk_getr dX7_tide_39 rfl rfl wfX7_128 ?_
      refine gk_iload_n dX7_tide_42 rfl ?_
      refine gk_iload_n dX7_tide_43 rfl ?_
      refine gk_iastore dX7_tide_44 rfl h.1 ?_
      replace h := h.2
      refine gk_nmS (fun S44 eS44 => ?_)
      replace h := h S44 eS44
      refine gk_iload_n dX7_tide_45 rfl ?_
      exact gk_iret dX7_tide_46 rfl rfl rfl rfl ⟨rfl, _, rfl, h⟩
    · replace h := h.2 c18
      refine gk_sipush (v := (-10002)) dX7_tide_21 rfl ?_
      exact gk_iret dX7_tide_24 rfl rfl rfl rfl ⟨rfl, _, rfl, h⟩
