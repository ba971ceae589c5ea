set_option maxHeartbeats 4000000 in
set_option maxRecDepth 100000 in
theorem oX8_doubles_6 {E : gz_E} {Q : Int32 → gz_S → Prop} : ∀ (n : Nat) (x1 : Int32) (x2 : Int32) (x3 : Int32) (S : gz_S), wX8_doubles_6 Q n x1 x2 x3 S → gz_k E mX8_doubles (1, 0, 0, 73) 0 0 6 [some (.ref 45), some (.int x1), some (.int x2), some (.int x3), none] [] gz_F S (gz_qi Q) := by
  intro n
  induction n with
  | zero =>
    intro x1 x2 x3 S h
    exact h.elim
  | succ n ih =>
    intro x1 x2 x3 S h
    unfold wX8_doubles_6 at h
    refine gk_iload_n dX8_doubles_6 rfl ?_
    refine gk_aload_n dX8_doubles_7 rfl ?_
    refine gk_geti dX8_doubles_8 rfl rfl wfX8_167 ?_
    refine gk_icmp_ge (tgt := 46) dX8_doubles_11 (by decide) (fun c11 => ?_) (fun c11 => ?_)
    · replace h := h.1 c11
      refine gk_iload_n dX8_doubles_46 rfl ?_
      exact gk_iret dX8_doubles_47 rfl rfl rfl rfl ⟨rfl, _, rfl, h⟩
    · replace h := h.2 c11
      refine gk_iconst (v := 1) dX8_doubles_14 rfl ?_
      refine gk_aload_n dX8_doubles_15 rfl ?_
      refine gk_getr dX8_doubles_16 rfl rfl wfX8_49 ?_
      refine gk_iconst (v := 3) dX8_doubles_19 rfl ?_
      refine gk_iload_n dX8_doubles_20 rfl ?_
      refine gk_imul dX8_doubles_21 ?_
      refine gk_iconst (v := 1) dX8_doubles_22 rfl ?_
      refine gk_iadd dX8_doubles_23 ?_
      refine gk_iaload dX8_doubles_24 rfl h.1 ?_
      replace h := h.2
      refine gk_ishl dX8_doubles_25 ?_
      refine gk_nmi (fun v4_26 ev4_26 => ?_)
      replace h := h v4_26 ev4_26
      refine gk_istore dX8_doubles_26 (Nat.le_of_ble_eq_true rfl) rfl rfl ?_
      refine gk_iload_n dX8_doubles_28 rfl ?_
      refine gk_iload_n dX8_doubles_29 rfl ?_
      refine gk_iload dX8_doubles_30 rfl ?_
      refine gk_iand dX8_doubles_32 ?_
      refine gk_ior dX8_doubles_33 ?_
      refine gk_nmi (fun v2_34 ev2_34 => ?_)
      replace h := h v2_34 ev2_34
      refine gk_istore_n dX8_doubles_34 (Nat.le_of_ble_eq_true rfl) rfl rfl ?_
      refine gk_iload_n dX8_doubles_35 rfl ?_
      refine gk_iload dX8_doubles_36 rfl ?_
      refine gk_ior dX8_doubles_38 ?_
      refine gk_nmi (fun v1_39 ev1_39 => ?_)
      replace h := h v1_39 ev1_39
      refine gk_istore_n dX8_doubles_39 (Nat.le_of_ble_eq_true rfl) rfl rfl ?_
      refine gk_iinc dX8_doubles_40 rfl (Nat.le_of_ble_eq_true rfl) rfl rfl rfl ?_
      refine gk_goto (tgt := 6) dX8_doubles_43 (by decide) ?_
      exact gk_less (gz_le_s rfl (gz_le_s rfl (gz_le_s rfl (gz_le_s rfl (gz_le_n gz_le_0))))) (ih _ _ _ _ h)
set_option maxHeartbeats 4000000 in
set_option maxRecDepth 100000 in
theorem ctX8_doubles {E : gz_E} {S : gz_S} {Q : Int32 → gz_S → Prop} (h : wX8_doubles S Q) : gz_m E mX8_doubles 1 0 0 [.ref 45] gz_F S (gz_qi Q) := by
  refine gz_meet0 (L0 := [some (.ref 45), none, none, none, none]) (by decide) rfl (Nat.le_of_ble_eq_true rfl) (by decide) ?_
  unfold wX8_doubles at h
  refine gk_iconst (v := 0) dX8_doubles_0 rfl ?_
  refine gk_istore_n dX8_doubles_1 (Nat.le_of_ble_eq_true rfl) rfl rfl ?_
  refine gk_iconst (v := 0) dX8_doubles_2 rfl ?_
  refine gk_istore_n dX8_doubles_3 (Nat.le_of_ble_eq_true rfl) rfl rfl ?_
  refine gk_iconst (v := 0) dX8_doubles_4 rfl ?_
  refine gk_istore_n dX8_doubles_5 (Nat.le_of_ble_eq_true rfl) rfl rfl ?_
  obtain ⟨m6, h⟩ := h
  exact gk_less (gz_le_s rfl (gz_le_s rfl (gz_le_s rfl (gz_le_s rfl (gz_le_n gz_le_0))))) (oX8_doubles_6 m6 _ _ _ _ h)
set_option maxHeartbeats 4000000 in
set_option maxRecDepth 100000 in
theorem oX3_strongest_34 {E : gz_E} {k4 : Int32 → Int32 → Int32 → gz_S → Prop} {Q : Int32 → gz_S → Prop} (hk4 : ∀ (x1 : Int32) (x2 : Int32) (x3 : Int32) (S : gz_S), k4 x1 x2 x3 S → gz_k E mX3_strongest (2, 0, 0, 73) 0 0 4 [some (.ref 1), some (.int x1), some (.int x2), some (.int x3)] [] gz_F S (gz_qi Q)) : ∀ (x1 : Int32) (x2 : Int32) (x3 : Int32) (S : gz_S), wX3_strongest_34 k4 Q x1 x2 x3 S → gz_k E mX3_strongest (2, 0, 0, 73) 0 0 34 [some (.ref 1), some (.int x1), some (.int x2), some (.int x3)] [] gz_F S (gz_qi Q) := by
  intro x1 x2 x3 S h
  unfold wX3_strongest_34 at h
  refine gk_iinc dX3_strongest_34 rfl (Nat.le_of_ble_eq_true rfl) rfl rfl rfl ?_
  refine gk_goto (tgt := 4) dX3_strongest_37 (by decide) ?_
  exact gk_less (gz_le_s rfl (gz_le_s rfl (gz_le_s rfl (gz_le_s rfl gz_le_0)))) (hk4 _ _ _ _ h)
set_option maxHeartbeats 4000000 in
set_option maxRecDepth 100000 in
theorem oX3_strongest_4 {E : gz_E} {Q : Int32 → gz_S → Prop} : ∀ (n : Nat) (x1 : Int32) (x2 : Int32) (x3 : Int32) (S : gz_S), wX3_strongest_4 Q n x1 x2 x3 S → gz_k E mX3_strongest (2, 0, 0, 73) 0 0 4 [some (.ref 1), some (.int x1), some (.int x2), some (.int x3)] [] gz_F S (gz_qi Q) := by
  intro n
  induction n with
  | zero =>
    intro x1 x2 x3 S h
    exact h.elim
  | succ n ih =>
    intro x1 x2 x3 S h
    unfold wX3_strongest_4 at h
    refine gk_iload_n dX3_strongest_4 rfl ?_
    refine gk_aload_n dX3_strongest_5 rfl ?_
    refine gk_getr dX3_strongest_6 rfl rfl wfX3_14 ?_
    refine gk_geti dX3_strongest_9 rfl rfl wfX3_49 ?_
    refine gk_icmp_ge (tgt := 40) dX3_strongest_12 (by decide) (fun c12 => ?_) (fun c12 => ?_)
    · replace h := h.1 c12
      refine gk_iload_n dX3_strongest_40 rfl ?_
      exact gk_iret dX3_strongest_41 rfl rfl rfl rfl ⟨rfl, _, rfl, h⟩
    · replace h := h.2 c12
      refine gk_aload_n dX3_strongest_15 rfl ?_
      refine gk_iload_n dX3_strongest_16 rfl ?_
      refine gk_callV (as := [_]) (rest := []) (ctX3_sideOf h) dX3_strongest_17 rfl rfl wvX3_56 wcX3_sideOf rfl (Nat.le_of_ble_eq_true rfl) ⟨Nat.le_refl _, Nat.le_refl _⟩ (fun h9 => absurd rfl h9) (Nat.le_of_ble_eq_true rfl) rfl (fun v G2 S17 hq => ?_)
      obtain ⟨rfl, r17, rfl, h⟩ := hq
      refine gk_iload_n dX3_strongest_20 rfl ?_
      refine gk_icmp_ne (tgt := 34) dX3_strongest_21 (by decide) (fun c21 => ?_) (fun c21 => ?_)
      · replace h := h.1 c21
        exact gk_less (gz_le_s rfl (gz_le_s rfl (gz_le_s rfl (gz_le_s rfl gz_le_0)))) (oX3_strongest_34 (fun y0 y1 y2 S h => ih y0 y1 y2 S h) _ _ _ _ h)
      · replace h := h.2 c21
        refine gk_iload_n dX3_strongest_24 rfl ?_
        refine gk_aload_n dX3_strongest_25 rfl ?_
        refine gk_iload_n dX3_strongest_26 rfl ?_
        refine gk_callV (as := [_]) (rest := [_]) (ctX3_strength h) dX3_strongest_27 rfl rfl wvX3_59 wcX3_strength rfl (Nat.le_of_ble_eq_true rfl) ⟨Nat.le_refl _, Nat.le_refl _⟩ (fun h9 => absurd rfl h9) (Nat.le_of_ble_eq_true rfl) rfl (fun v G2 S27 hq => ?_)
        obtain ⟨rfl, r27, rfl, h⟩ := hq
        refine gk_max em_max dX3_strongest_30 wvX3_62 wcJ9_max_7cf53 (Nat.le_of_ble_eq_true rfl) (Nat.le_refl _) (Nat.le_refl _) (Nat.le_of_ble_eq_true rfl) ?_
        refine gk_nmi (fun v2_33 ev2_33 => ?_)
        replace h := h v2_33 ev2_33
        refine gk_istore_n dX3_strongest_33 (Nat.le_of_ble_eq_true rfl) rfl rfl ?_
        exact gk_less (gz_le_s rfl (gz_le_s rfl (gz_le_s rfl (gz_le_s rfl gz_le_0)))) (oX3_strongest_34 (fun y0 y1 y2 S h => ih y0 y1 y2 S h) _ _ _ _ h)
set_option maxHeartbeats 4000000 in
set_option maxRecDepth 100000 in
theorem ctX3_strongest {E : gz_E} {x1 : Int32} {S : gz_S} {Q : Int32 → gz_S → Prop} (h : wX3_strongest x1 S Q) : gz_m E mX3_strongest 2 0 0 [.ref 1, .int x1] gz_F S (gz_qi Q) := by
  refine gz_meet0 (L0 := [some (.ref 1), some (.int x1), none, none]) (by decide) rfl (Nat.le_of_ble_eq_true rfl) (by decide) ?_
  unfold wX3_strongest at h
  refine gk_iconst (v := 0) dX3_strongest_0 rfl ?_
  refine gk_istore_n dX3_strongest_1 (Nat.le_of_ble_eq_true rfl) rfl rfl ?_
  refine gk_iconst (v := 0) dX3_strongest_2 rfl ?_
  refine gk_istore_n dX3_strongest_3 (Nat.le_of_ble_eq_true rfl) rfl rfl ?_
  obtain ⟨m4, h⟩ := h
  exact gk_less (gz_le_s rfl (gz_le_s rfl (gz_le_s rfl (gz_le_s rfl gz_le_0)))) (oX3_strongest_4 m4 _ _ _ _ h)
set_option maxHeartbeats 4000000 in
set_option maxRecDepth 100000 in
theorem oX7_layable_63 {E : gz_E} {k14 : Int32 → Int32 → Int32 → gz_S → Prop} {Q : Int32 → gz_S → Prop} (hk14 : ∀ (x2 : Int32) (x3 : Int32) (x4 : Int32) (S : gz_S), k14 x2 x3 x4 S → gz_k E mX7_layable (3, 0, 0, 73) 0 0 14 [some (.ref 0), none, some (.int x2), some (.int x3), some (.int x4)] [] gz_F S (gz_qi Q)) : ∀ (x2 : Int32) (x3 : Int32) (x4 : Int32) (S : gz_S), wX7_layable_63 k14 Q x2 x3 x4 S → gz_k E mX7_layable (3, 0, 0, 73) 0 0 63 [some (.ref 0), none, some (.int x2), some (.int x3), some (.int x4)] [] gz_F S (gz_qi Q) := by
  intro x2 x3 x4 S h
  unfold wX7_layable_63 at h
  refine gk_iinc dX7_layable_63 rfl (Nat.le_of_ble_eq_true rfl) rfl rfl rfl ?_
  refine gk_goto (tgt := 14) dX7_layable_66 (by decide) ?_
  exact gk_less (gz_le_s rfl (gz_le_n (gz_le_s rfl (gz_le_s rfl (gz_le_s rfl gz_le_0))))) (hk14 _ _ _ _ h)
set_option maxHeartbeats 4000000 in
set_option maxRecDepth 100000 in
theorem oX7_layable_14 {E : gz_E} {Q : Int32 → gz_S → Prop} : ∀ (n : Nat) (x2 : Int32) (x3 : Int32) (x4 : Int32) (S : gz_S), wX7_layable_14 Q n x2 x3 x4 S → gz_k E mX7_layable (3, 0, 0, 73) 0 0 14 [some (.ref 0), none, some (.int x2), some (.int x3), some (.int x4)] [] gz_F S (gz_qi Q) := by
  intro n
  induction n with
  | zero =>
    intro x2 x3 x4 S h
    exact h.elim
  | succ n ih =>
    intro x2 x3 x4 S h
    unfold wX7_layable_14 at h
    refine gk_iload dX7_layable_14 rfl ?_
    refine gk_aload_n dX7_layable_16 rfl ?_
    refine gk_getr dX7_layable_17 rfl rfl wfX7_10 ?_
    refine gk_getr dX7_layable_20 rfl rfl wfX7_110 ?_
    refine gk_geti dX7_layable_23 rfl rfl wfX7_96 ?_
    refine gk_icmp_ge (tgt := 69) dX7_layable_26 (by decide) (fun c26 => ?_) (fun c26 => ?_)
    · replace h := h.1 c26
      refine gk_iload_n dX7_layable_69 rfl ?_
      exact gk_iret dX7_layable_70 rfl rfl rfl rfl ⟨rfl, _, rfl, h⟩
    · replace h := h.2 c26
      refine gk_aload_n dX7_layable_29 rfl ?_
      refine gk_getr dX7_layable_30 rfl rfl wfX7_28 ?_
      refine gk_getr dX7_layable_33 rfl rfl wfX7_119 ?_
      refine gk_iload dX7_layable_36 rfl ?_
      refine gk_iaload dX7_layable_38 rfl h.1 ?_
      replace h := h.2
      refine gk_iconst (v := (-1)) dX7_layable_39 rfl ?_
      refine gk_icmp_ne (tgt := 63) dX7_layable_40 (by decide) (fun c40 => ?_) (fun c40 => ?_)
      · replace h := h.1 c40
        exact gk_less (gz_le_s rfl (gz_le_n (gz_le_s rfl (gz_le_s rfl (gz_le_s rfl gz_le_0))))) (oX7_layable_63 (fun y0 y1 y2 S h => ih y0 y1 y2 S h) _ _ _ _ h)
      · replace h := h.2 c40
        refine gk_aload_n dX7_layable_43 rfl ?_
        refine gk_getr dX7_layable_44 rfl rfl wfX7_10 ?_
        refine gk_iload dX7_layable_47 rfl ?_
        refine gk_callV (as := [_]) (rest := []) (ctX3_weight h) dX7_layable_49 rfl rfl wvX7_113 wcX3_weight rfl (Nat.le_of_ble_eq_true rfl) ⟨Nat.le_refl _, Nat.le_refl _⟩ (fun h9 => absurd rfl h9) (Nat.le_of_ble_eq_true rfl) rfl (fun v G2 S49 hq => ?_)
        obtain ⟨rfl, r49, rfl, h⟩ := hq
        refine gk_iload_n dX7_layable_52 rfl ?_
        refine gk_icmp_gt (tgt := 63) dX7_layable_53 (by decide) (fun c53 => ?_) (fun c53 => ?_)
        · replace h := h.1 c53
          exact gk_less (gz_le_s rfl (gz_le_n (gz_le_s rfl (gz_le_s rfl (gz_le_s rfl gz_le_0))))) (oX7_layable_63 (fun y0 y1 y2 S h => ih y0 y1 y2 S h) _ _ _ _ h)
        · replace h := h.2 c53
          refine gk_iload_n dX7_layable_56 rfl ?_
          refine gk_iconst (v := 1) dX7_layable_57 rfl ?_
          refine gk_iload dX7_layable_58 rfl ?_
          refine gk_ishl dX7_layable_60 ?_
          refine gk_ior dX7_layable_61 ?_
          refine gk_nmi (fun v3_62 ev3_62 => ?_)
          replace h := h v3_62 ev3_62
          refine gk_istore_n dX7_layable_62 (Nat.le_of_ble_eq_true rfl) rfl rfl ?_
          exact gk_less (gz_le_s rfl (gz_le_n (gz_le_s rfl (gz_le_s rfl (gz_le_s rfl gz_le_0))))) (oX7_layable_63 (fun y0 y1 y2 S h => ih y0 y1 y2 S h) _ _ _ _ h)
set_option maxHeartbeats 4000000 in
set_option maxRecDepth 100000 in
theorem ctX7_layable {E : gz_E} {x1 : Int32} {S : gz_S} {Q : Int32 → gz_S → Prop} (h : wX7_layable x1 S Q) : gz_m E mX7_layable 3 0 0 [.ref 0, .int x1] gz_F S (gz_qi Q) := by
  refine gz_meet0 (L0 := [some (.ref 0), some (.int x1), none, none, none]) (by decide) rfl (Nat.le_of_ble_eq_true rfl) (by decide) ?_
  unfold wX7_layable at h
  refine gk_aload_n dX7_layable_0 rfl ?_
  refine gk_getr dX7_layable_1 rfl rfl wfX7_10 ?_
  refine gk_iload_n dX7_layable_4 rfl ?_
  refine gk_callV (as := [_]) (rest := []) (ctX3_strongest h) dX7_layable_5 rfl rfl wvX7_333 wcX3_strongest rfl (Nat.le_of_ble_eq_true rfl) ⟨Nat.le_refl _, Nat.le_refl _⟩ (fun h9 => absurd rfl h9) (Nat.le_of_ble_eq_true rfl) rfl (fun v G2 S5 hq => ?_)
  obtain ⟨rfl, r5, rfl, h⟩ := hq
  refine gk_istore_n dX7_layable_8 (Nat.le_of_ble_eq_true rfl) rfl rfl ?_
  refine gk_iconst (v := 0) dX7_layable_9 rfl ?_
  refine gk_istore_n dX7_layable_10 (Nat.le_of_ble_eq_true rfl) rfl rfl ?_
  refine gk_iconst (v := 0) dX7_layable_11 rfl ?_
  refine gk_istore dX7_layable_12 (Nat.le_of_ble_eq_true rfl) rfl rfl ?_
  obtain ⟨m14, h⟩ := h
  exact gk_less (gz_le_s rfl (gz_le_n (gz_le_s rfl (gz_le_s rfl (gz_le_s rfl gz_le_0))))) (oX7_layable_14 m14 _ _ _ _ h)
set_option maxHeartbeats 4000000 in
set_option maxRecDepth 100000 in
theorem ctJ6_bitCount_0f7a4 {E : gz_E} {x0 : Int32} {S : gz_S} {Q : Int32 → gz_S → Prop} (h : wJ6_bitCount_0f7a4 x0 S Q) : gz_m E mJ6_bitCount_0f7a4 1 0 0 [.int x0] gz_F S (gz_qi Q) := by
  refine gz_meet0 (L0 := [some (.int x0)]) (by decide) rfl (Nat.le_of_ble_eq_true rfl) (by decide) ?_
  unfold wJ6_bitCount_0f7a4 at h
  refine gk_iload_n dJ6_bitCount_0f7a4_0 rfl ?_
  refine gk_iload_n dJ6_bitCount_0f7a4_1 rfl ?_
  refine gk_iconst (v := 1) dJ6_bitCount_0f7a4_2 rfl ?_
  refine gk_iushr dJ6_bitCount_0f7a4_3 ?_
  refine gk_ldcw dJ6_bitCount_0f7a4_4 wkJ6_265 ?_
  refine gk_iand dJ6_bitCount_0f7a4_7 ?_
  refine gk_isub dJ6_bitCount_0f7a4_8 ?_
  refine gk_nmi (fun v0_9 ev0_9 => ?_)
  replace h := h v0_9 ev0_9
  refine gk_istore_n dJ6_bitCount_0f7a4_9 (Nat.le_of_ble_eq_true rfl) rfl rfl ?_
  refine gk_iload_n dJ6_bitCount_0f7a4_10 rfl ?_
  refine gk_ldcw dJ6_bitCount_0f7a4_11 wkJ6_266 ?_
  refine gk_iand dJ6_bitCount_0f7a4_14 ?_
  refine gk_iload_n dJ6_bitCount_0f7a4_15 rfl ?_
  refine gk_iconst (v := 2) dJ6_bitCount_0f7a4_16 rfl ?_
  refine gk_iushr dJ6_bitCount_0f7a4_17 ?_
  refine gk_ldcw dJ6_bitCount_0f7a4_18 wkJ6_266 ?_
  refine gk_iand dJ6_bitCount_0f7a4_21 ?_
  refine gk_iadd dJ6_bitCount_0f7a4_22 ?_
  refine gk_nmi (fun v0_23 ev0_23 => ?_)
  replace h := h v0_23 ev0_23
  refine gk_istore_n dJ6_bitCount_0f7a4_23 (Nat.le_of_ble_eq_true rfl) rfl rfl ?_
  refine gk_iload_n dJ6_bitCount_0f7a4_24 rfl ?_
  refine gk_iload_n dJ6_bitCount_0f7a4_25 rfl ?_
  refine gk_iconst (v := 4) dJ6_bitCount_0f7a4_26 rfl ?_
  refine gk_iushr dJ6_bitCount_0f7a4_27 ?_
  refine gk_iadd dJ6_bitCount_0f7a4_28 ?_
  refine gk_ldcw dJ6_bitCount_0f7a4_29 wkJ6_267 ?_
  refine gk_iand dJ6_bitCount_0f7a4_32 ?_
  refine gk_nmi (fun v0_33 ev0_33 => ?_)
  replace h := h v0_33 ev0_33
  refine gk_istore_n dJ6_bitCount_0f7a4_33 (Nat.le_of_ble_eq_true rfl) rfl rfl ?_
  refine gk_iload_n dJ6_bitCount_0f7a4_34 rfl ?_
  refine gk_iload_n dJ6_bitCount_0f7a4_35 rfl ?_
  refine gk_bipush (v := 8) dJ6_bitCount_0f7a4_36 rfl ?_
  refine gk_iushr dJ6_bitCount_0f7a4_38 ?_
  refine gk_iadd dJ6_bitCount_0f7a4_39 ?_
  refine gk_nmi (fun v0_40 ev0_40 => ?_)
  replace h := h v0_40 ev0_40
  refine gk_istore_n dJ6_bitCount_0f7a4_40 (Nat.le_of_ble_eq_true rfl) rfl rfl ?_
  refine gk_iload_n dJ6_bitCount_0f7a4_41 rfl ?_
  refine gk_iload_n dJ6_bitCount_0f7a4_42 rfl ?_
  refine gk_bipush (v := 16) dJ6_bitCount_0f7a4_43 rfl ?_
  refine gk_iushr dJ6_bitCount_0f7a4_45 ?_
  refine gk_iadd dJ6_bitCount_0f7a4_46 ?_
  refine gk_nmi (fun v0_47 ev0_47 => ?_)
  replace h := h v0_47 ev0_47
  refine gk_istore_n dJ6_bitCount_0f7a4_47 (Nat.le_of_ble_eq_true rfl) rfl rfl ?_
  refine gk_iload_n dJ6_bitCount_0f7a4_48 rfl ?_
  refine gk_bipush (v := 63) dJ6_bitCount_0f7a4_49 rfl ?_
  refine gk_iand dJ6_bitCount_0f7a4_51 ?_
  exact gk_iret dJ6_bitCount_0f7a4_52 rfl rfl rfl rfl ⟨rfl, _, rfl, h⟩
set_option maxHeartbeats 4000000 in
set_option maxRecDepth 100000 in
theorem oX3_weightOf_31 {E : gz_E} {k4 : Int32 → Int32 → Int32 → gz_S → Prop} {Q : Int32 → gz_S → Prop} (hk4 : ∀ (x1 : Int32) (x2 : Int32) (x3 : Int32) (S : gz_S), k4 x1 x2 x3 S → gz_k E mX3_weightOf (2, 0, 0, 73) 0 0 4 [some (.ref 1), some (.int x1), some (.int x2), some (.int x3)] [] gz_F S (gz_qi Q)) : ∀ (x1 : Int32) (x2 : Int32) (x3 : Int32) (S : gz_S), wX3_weightOf_31 k4 Q x1 x2 x3 S → gz_k E mX3_weightOf (2, 0, 0, 73) 0 0 31 [some (.ref 1), some (.int x1), some (.int x2), some (.int x3)] [] gz_F S (gz_qi Q) := by
  intro x1 x2 x3 S h
  unfold wX3_weightOf_31 at h
  refine gk_iinc dX3_weightOf_31 rfl (Nat.le_of_ble_eq_true rfl) rfl rfl rfl ?_
  refine gk_goto (tgt := 4) dX3_weightOf_34 (by decide) ?_
  exact gk_less (gz_le_s rfl (gz_le_s rfl (gz_le_s rfl (gz_le_s rfl gz_le_0)))) (hk4 _ _ _ _ h)
set_option maxHeartbeats 4000000 in
set_option maxRecDepth 100000 in
theorem oX3_weightOf_4 {E : gz_E} {Q : Int32 → gz_S → Prop} : ∀ (n : Nat) (x1 : Int32) (x2 : Int32) (x3 : Int32) (S : gz_S), wX3_weightOf_4 Q n x1 x2 x3 S → gz_k E mX3_weightOf (2, 0, 0, 73) 0 0 4 [some (.ref 1), some (.int x1), some (.int x2), some (.int x3)] [] gz_F S (gz_qi Q) := by
  intro n
  induction n with
  | zero =>
    intro x1 x2 x3 S h
    exact h.elim
  | succ n ih =>
    intro x1 x2 x3 S h
    unfold wX3_weightOf_4 at h
    refine gk_iload_n dX3_weightOf_4 rfl ?_
    refine gk_aload_n dX3_weightOf_5 rfl ?_
    refine gk_getr dX3_weightOf_6 rfl rfl wfX3_20 ?_
    refine gk_geti dX3_weightOf_9 rfl rfl wfX3_49 ?_
    refine gk_icmp_ge (tgt := 37) dX3_weightOf_12 (by decide) (fun c12 => ?_) (fun c12 => ?_)
    · replace h := h.1 c12
      refine gk_iload_n dX3_weightOf_37 rfl ?_
      exact gk_iret dX3_weightOf_38 rfl rfl rfl rfl ⟨rfl, _, rfl, h⟩
    · replace h := h.2 c12
      refine gk_iload_n dX3_weightOf_15 rfl ?_
      refine gk_iload_n dX3_weightOf_16 rfl ?_
      refine gk_ishr dX3_weightOf_17 ?_
      refine gk_iconst (v := 1) dX3_weightOf_18 rfl ?_
      refine gk_iand dX3_weightOf_19 ?_
      refine gk_if_eq (tgt := 31) dX3_weightOf_20 (by decide) (fun c20 => ?_) (fun c20 => ?_)
      · replace h := h.1 c20
        exact gk_less (gz_le_s rfl (gz_le_s rfl (gz_le_s rfl (gz_le_s rfl gz_le_0)))) (oX3_weightOf_31 (fun y0 y1 y2 S h => ih y0 y1 y2 S h) _ _ _ _ h)
      · replace h := h.2 c20
        refine gk_iload_n dX3_weightOf_23 rfl ?_
        refine gk_aload_n dX3_weightOf_24 rfl ?_
        refine gk_iload_n dX3_weightOf_25 rfl ?_
        refine gk_callV (as := [_]) (rest := [_]) (ctX3_weight h) dX3_weightOf_26 rfl rfl wvX3_52 wcX3_weight rfl (Nat.le_of_ble_eq_true rfl) ⟨Nat.le_refl _, Nat.le_refl _⟩ (fun h9 => absurd rfl h9) (Nat.le_of_ble_eq_true rfl) rfl (fun v G2 S26 hq => ?_)
        obtain ⟨rfl, r26, rfl, h⟩ := hq
        refine gk_iadd dX3_weightOf_29 ?_
        refine gk_nmi (fun v2_30 ev2_30 => ?_)
        replace h := h v2_30 ev2_30
        refine gk_istore_n dX3_weightOf_30 (Nat.le_of_ble_eq_true rfl) rfl rfl ?_
        exact gk_less (gz_le_s rfl (gz_le_s rfl (gz_le_s rfl (gz_le_s rfl gz_le_0)))) (oX3_weightOf_31 (fun y0 y1 y2 S h => ih y0 y1 y2 S h) _ _ _ _ h)
set_option maxHeartbeats 4000000 in
set_option maxRecDepth 100000 in
theorem ctX3_weightOf {E : gz_E} {x1 : Int32} {S : gz_S} {Q : Int32 → gz_S → Prop} (h : wX3_weightOf x1 S Q) : gz_m E mX3_weightOf 2 0 0 [.ref 1, .int x1] gz_F S (gz_qi Q) := by
  refine gz_meet0 (L0 := [some (.ref 1), some (.int x1), none, none]) (by decide) rfl (Nat.le_of_ble_eq_true rfl) (by decide) ?_
  unfold wX3_weightOf at h
  refine gk_iconst (v := 0) dX3_weightOf_0 rfl ?_
  refine gk_istore_n dX3_weightOf_1 (Nat.le_of_ble_eq_true rfl) rfl rfl ?_
  refine gk_iconst (v := 0) dX3_weightOf_2 rfl ?_
  refine gk_istore_n dX3_weightOf_3 (Nat.le_of_ble_eq_true rfl) rfl rfl ?_
  obtain ⟨m4, h⟩ := h
  exact gk_less (gz_le_s rfl (gz_le_s rfl (gz_le_s rfl (gz_le_s rfl gz_le_0)))) (oX3_weightOf_4 m4 _ _ _ _ h)
set_option maxHeartbeats 4000000 in
set_option maxRecDepth 100000 in
theorem oX7_fewestBits_117 {E : gz_E} {k32 : Int32 → Int32 → Int32 → Int32 → Int32 → Int32 → gz_S → Prop} {Q : Int32 → gz_S → Prop} (hk32 : ∀ (x1 : Int32) (x2 : Int32) (x3 : Int32) (x4 : Int32) (x5 : Int32) (x6 : Int32) (S : gz_S), k32 x1 x2 x3 x4 x5 x6 S → gz_k E mX7_fewestBits (5, 0, 0, 73) 0 0 32 [some (.ref 0), some (.int x1), some (.int x2), some (.int x3), some (.int x4), some (.int x5), some (.int x6), none, none] [] gz_F S (gz_qi Q)) : ∀ (x1 : Int32) (x2 : Int32) (x3 : Int32) (x4 : Int32) (x5 : Int32) (x6 : Int32) (S : gz_S), wX7_fewestBits_117 k32 Q x1 x2 x3 x4 x5 x6 S → gz_k E mX7_fewestBits (5, 0, 0, 73) 0 0 117 [some (.ref 0), some (.int x1), some (.int x2), some (.int x3), some (.int x4), some (.int x5), some (.int x6), none, none] [] gz_F S (gz_qi Q) := by
  intro x1 x2 x3 x4 x5 x6 S h
  unfold wX7_fewestBits_117 at h
  refine gk_iinc dX7_fewestBits_117 rfl (Nat.le_of_ble_eq_true rfl) rfl rfl rfl ?_
  refine gk_goto (tgt := 32) dX7_fewestBits_120 (by decide) ?_
  exact gk_less (gz_le_s rfl (gz_le_s rfl (gz_le_s rfl (gz_le_s rfl (gz_le_s rfl (gz_le_s rfl (gz_le_s rfl (gz_le_n (gz_le_n gz_le_0))))))))) (hk32 _ _ _ _ _ _ _ h)
set_option maxHeartbeats 4000000 in
set_option maxRecDepth 100000 in
theorem oX7_fewestBits_106 {E : gz_E} {k32 : Int32 → Int32 → Int32 → Int32 → Int32 → Int32 → gz_S → Prop} {Q : Int32 → gz_S → Prop} (hk32 : ∀ (x1 : Int32) (x2 : Int32) (x3 : Int32) (x4 : Int32) (x5 : Int32) (x6 : Int32) (S : gz_S), k32 x1 x2 x3 x4 x5 x6 S → gz_k E mX7_fewestBits (5, 0, 0, 73) 0 0 32 [some (.ref 0), some (.int x1), some (.int x2), some (.int x3), some (.int x4), some (.int x5), some (.int x6), none, none] [] gz_F S (gz_qi Q)) : ∀ (x1 : Int32) (x2 : Int32) (x6 : Int32) (x7 : Int32) (x8 : Int32) (S : gz_S), wX7_fewestBits_106 k32 Q x1 x2 x6 x7 x8 S → gz_k E mX7_fewestBits (5, 0, 0, 73) 0 0 106 [some (.ref 0), some (.int x1), some (.int x2), none, none, none, some (.int x6), some (.int x7), some (.int x8)] [] gz_F S (gz_qi Q) := by
  intro x1 x2 x6 x7 x8 S h
  unfold wX7_fewestBits_106 at h
  refine gk_iload dX7_fewestBits_106 rfl ?_
  refine gk_istore_n dX7_fewestBits_108 (Nat.le_of_ble_eq_true rfl) rfl rfl ?_
  refine gk_iload dX7_fewestBits_109 rfl ?_
  refine gk_istore dX7_fewestBits_111 (Nat.le_of_ble_eq_true rfl) rfl rfl ?_
  refine gk_iload dX7_fewestBits_113 rfl ?_
  refine gk_istore dX7_fewestBits_115 (Nat.le_of_ble_eq_true rfl) rfl rfl ?_
  exact gk_less (gz_le_s rfl (gz_le_s rfl (gz_le_s rfl (gz_le_s rfl (gz_le_s rfl (gz_le_s rfl (gz_le_s rfl (gz_le_n (gz_le_n gz_le_0))))))))) (oX7_fewestBits_117 hk32 _ _ _ _ _ _ _ h)
set_option maxHeartbeats 4000000 in
set_option maxRecDepth 100000 in
theorem oX7_fewestBits_32 {E : gz_E} {Q : Int32 → gz_S → Prop} : ∀ (n : Nat) (x1 : Int32) (x2 : Int32) (x3 : Int32) (x4 : Int32) (x5 : Int32) (x6 : Int32) (S : gz_S), wX7_fewestBits_32 Q n x1 x2 x3 x4 x5 x6 S → gz_k E mX7_fewestBits (5, 0, 0, 73) 0 0 32 [some (.ref 0), some (.int x1), some (.int x2), some (.int x3), some (.int x4), some (.int x5), some (.int x6), none, none] [] gz_F S (gz_qi Q) := by
  intro n
  induction n with
  | zero =>
    intro x1 x2 x3 x4 x5 x6 S h
    exact h.elim
  | succ n ih =>
    intro x1 x2 x3 x4 x5 x6 S h
    unfold wX7_fewestBits_32 at h
    refine gk_iload dX7_fewestBits_32 rfl ?_
    refine gk_iload_n dX7_fewestBits_34 rfl ?_
    refine gk_icmp_gt (tgt := 123) dX7_fewestBits_35 (by decide) (fun c35 => ?_) (fun c35 => ?_)
    · replace h := h.1 c35
      refine gk_iload_n dX7_fewestBits_123 rfl ?_
      exact gk_iret dX7_fewestBits_124 rfl rfl rfl rfl ⟨rfl, _, rfl, h⟩
    · replace h := h.2 c35
      refine gk_iload dX7_fewestBits_38 rfl ?_
      refine gk_iload_n dX7_fewestBits_40 rfl ?_
      refine gk_iconst (v := (-1)) dX7_fewestBits_41 rfl ?_
      refine gk_ixor dX7_fewestBits_42 ?_
      refine gk_iand dX7_fewestBits_43 ?_
      refine gk_if_eq (tgt := 50) dX7_fewestBits_44 (by decide) (fun c44 => ?_) (fun c44 => ?_)
      · replace h := h.1 c44
        refine gk_iload dX7_fewestBits_50 rfl ?_
        refine gk_callS (as := [_]) (rest := []) (ctJ6_bitCount_0f7a4 h) dX7_fewestBits_52 wvX7_186 wcJ6_bitCount_0f7a4 rfl (Nat.le_of_ble_eq_true rfl) ⟨Nat.le_refl _, Nat.le_refl _⟩ (fun h9 => absurd rfl h9) (Nat.le_of_ble_eq_true rfl) rfl (fun v G2 S52 hq => ?_)
        obtain ⟨rfl, r52, rfl, h⟩ := hq
        refine gk_istore dX7_fewestBits_55 (Nat.le_of_ble_eq_true rfl) rfl rfl ?_
        refine gk_aload_n dX7_fewestBits_57 rfl ?_
        refine gk_getr dX7_fewestBits_58 rfl rfl wfX7_10 ?_
        refine gk_iload dX7_fewestBits_61 rfl ?_
        refine gk_callV (as := [_]) (rest := []) (ctX3_weightOf h) dX7_fewestBits_63 rfl rfl wvX7_336 wcX3_weightOf rfl (Nat.le_of_ble_eq_true rfl) ⟨Nat.le_refl _, Nat.le_refl _⟩ (fun h9 => absurd rfl h9) (Nat.le_of_ble_eq_true rfl) rfl (fun v G2 S63 hq => ?_)
        obtain ⟨rfl, r63, rfl, h⟩ := hq
        refine gk_istore dX7_fewestBits_66 (Nat.le_of_ble_eq_true rfl) rfl rfl ?_
        refine gk_iload_n dX7_fewestBits_68 rfl ?_
        refine gk_iconst (v := 5) dX7_fewestBits_69 rfl ?_
        refine gk_iload dX7_fewestBits_70 rfl ?_
        refine gk_imul dX7_fewestBits_72 ?_
        refine gk_iadd dX7_fewestBits_73 ?_
        refine gk_if_gt (tgt := 80) dX7_fewestBits_74 (by decide) (fun c74 => ?_) (fun c74 => ?_)
        · replace h := h.1 c74
          refine gk_iload_n dX7_fewestBits_80 rfl ?_
          refine gk_iconst (v := (-1)) dX7_fewestBits_81 rfl ?_
          refine gk_icmp_eq (tgt := 106) dX7_fewestBits_82 (by decide) (fun c82 => ?_) (fun c82 => ?_)
          · replace h := h.1 c82
            exact gk_less (gz_le_s rfl (gz_le_s rfl (gz_le_s rfl (gz_le_n (gz_le_n (gz_le_n (gz_le_s rfl (gz_le_s rfl (gz_le_s rfl gz_le_0))))))))) (oX7_fewestBits_106 (fun y0 y1 y2 y3 y4 y5 S h => ih y0 y1 y2 y3 y4 y5 S h) _ _ _ _ _ _ h)
          · replace h := h.2 c82
            refine gk_iload dX7_fewestBits_85 rfl ?_
            refine gk_iload dX7_fewestBits_87 rfl ?_
            refine gk_icmp_lt (tgt := 106) dX7_fewestBits_89 (by decide) (fun c89 => ?_) (fun c89 => ?_)
            · replace h := h.1 c89
              exact gk_less (gz_le_s rfl (gz_le_s rfl (gz_le_s rfl (gz_le_n (gz_le_n (gz_le_n (gz_le_s rfl (gz_le_s rfl (gz_le_s rfl gz_le_0))))))))) (oX7_fewestBits_106 (fun y0 y1 y2 y3 y4 y5 S h => ih y0 y1 y2 y3 y4 y5 S h) _ _ _ _ _ _ h)
            · replace h := h.2 c89
              refine gk_iload dX7_fewestBits_92 rfl ?_
              refine gk_iload dX7_fewestBits_94 rfl ?_
              refine gk_icmp_ne (tgt := 117) dX7_fewestBits_96 (by decide) (fun c96 => ?_) (fun c96 => ?_)
              · replace h := h.1 c96
                exact gk_less (gz_le_s rfl (gz_le_s rfl (gz_le_s rfl (gz_le_s rfl (gz_le_s rfl (gz_le_s rfl (gz_le_s rfl (gz_le_n (gz_le_n gz_le_0))))))))) (oX7_fewestBits_117 (fun y0 y1 y2 y3 y4 y5 S h => ih y0 y1 y2 y3 y4 y5 S h) _ _ _ _ _ _ _ h)
              · replace h := h.2 c96
                refine gk_iload dX7_fewestBits_99 rfl ?_
                refine gk_iload dX7_fewestBits_101 rfl ?_
                refine gk_icmp_ge (tgt := 117) dX7_fewestBits_103 (by decide) (fun c103 => ?_) (fun c103 => ?_)
                · replace h := h.1 c103
                  exact gk_less (gz_le_s rfl (gz_le_s rfl (gz_le_s rfl (gz_le_s rfl (gz_le_s rfl (gz_le_s rfl (gz_le_s rfl (gz_le_n (gz_le_n gz_le_0))))))))) (oX7_fewestBits_117 (fun y0 y1 y2 y3 y4 y5 S h => ih y0 y1 y2 y3 y4 y5 S h) _ _ _ _ _ _ _ h)
                · replace h := h.2 c103
                  exact gk_less (gz_le_s rfl (gz_le_s rfl (gz_le_s rfl (gz_le_n (gz_le_n (gz_le_n (gz_le_s rfl (gz_le_s rfl (gz_le_s rfl gz_le_0))))))))) (oX7_fewestBits_106 (fun y0 y1 y2 y3 y4 y5 S h => ih y0 y1 y2 y3 y4 y5 S h) _ _ _ _ _ _ h)
        · replace h := h.2 c74
          refine gk_goto (tgt := 117) dX7_fewestBits_77 (by decide) ?_
          exact gk_less (gz_le_s rfl (gz_le_s rfl (gz_le_s rfl (gz_le_s rfl (gz_le_s rfl (gz_le_s rfl (gz_le_s rfl (gz_le_n (gz_le_n gz_le_0))))))))) (oX7_fewestBits_117 (fun y0 y1 y2 y3 y4 y5 S h => ih y0 y1 y2 y3 y4 y5 S h) _ _ _ _ _ _ _ h)
      · replace h := h.2 c44
        refine gk_goto (tgt := 117) dX7_fewestBits_47 (by decide) ?_
        exact gk_less (gz_le_s rfl (gz_le_s rfl (gz_le_s rfl (gz_le_s rfl (gz_le_s rfl (gz_le_s rfl (gz_le_s rfl (gz_le_n (gz_le_n gz_le_0))))))))) (oX7_fewestBits_117 (fun y0 y1 y2 y3 y4 y5 S h => ih y0 y1 y2 y3 y4 y5 S h) _ _ _ _ _ _ _ h)
set_option maxHeartbeats 4000000 in
set_option maxRecDepth 100000 in
theorem ctX7_fewestBits {E : gz_E} {S : gz_S} {Q : Int32 → gz_S → Prop} (h : wX7_fewestBits S Q) : gz_m E mX7_fewestBits 5 0 0 [.ref 0] gz_F S (gz_qi Q) := by
  refine gz_meet0 (L0 := [some (.ref 0), none, none, none, none, none, none, none, none]) (by decide) rfl (Nat.le_of_ble_eq_true rfl) (by decide) ?_
  unfold wX7_fewestBits at h
  refine gk_aload_n dX7_fewestBits_0 rfl ?_
  refine gk_iconst (v := 0) dX7_fewestBits_1 rfl ?_
  refine gk_callV (as := [_]) (rest := []) (ctX7_layable h) dX7_fewestBits_2 rfl rfl wvX7_192 wcX7_layable rfl (Nat.le_of_ble_eq_true rfl) ⟨Nat.le_refl _, Nat.le_refl _⟩ (fun h9 => absurd rfl h9) (Nat.le_of_ble_eq_true rfl) rfl (fun v G2 S2 hq => ?_)
  obtain ⟨rfl, r2, rfl, h⟩ := hq
  refine gk_istore_n dX7_fewestBits_5 (Nat.le_of_ble_eq_true rfl) rfl rfl ?_
  refine gk_aload_n dX7_fewestBits_6 rfl ?_
  refine gk_getr dX7_fewestBits_7 rfl rfl wfX7_28 ?_
  refine gk_aload_n dX7_fewestBits_10 rfl ?_
  refine gk_getr dX7_fewestBits_11 rfl rfl wfX7_10 ?_
  refine gk_geti dX7_fewestBits_14 rfl rfl wfX7_122 ?_
  refine gk_callV (as := [_]) (rest := []) (ctX2_tipAt_16 h) dX7_fewestBits_17 rfl rfl wvX7_149 wcX2_tipAt rfl (Nat.le_of_ble_eq_true rfl) ⟨Nat.le_refl _, Nat.le_refl _⟩ (fun h9 => absurd rfl h9) (Nat.le_of_ble_eq_true rfl) rfl (fun v G2 S17 hq => ?_)
  obtain ⟨rfl, r17, rfl, h⟩ := hq
  refine gk_istore_n dX7_fewestBits_20 (Nat.le_of_ble_eq_true rfl) rfl rfl ?_
  refine gk_iconst (v := (-1)) dX7_fewestBits_21 rfl ?_
  refine gk_istore_n dX7_fewestBits_22 (Nat.le_of_ble_eq_true rfl) rfl rfl ?_
  refine gk_iconst (v := 0) dX7_fewestBits_23 rfl ?_
  refine gk_istore dX7_fewestBits_24 (Nat.le_of_ble_eq_true rfl) rfl rfl ?_
  refine gk_iconst (v := 0) dX7_fewestBits_26 rfl ?_
  refine gk_istore dX7_fewestBits_27 (Nat.le_of_ble_eq_true rfl) rfl rfl ?_
  refine gk_iconst (v := 0) dX7_fewestBits_29 rfl ?_
  refine gk_istore dX7_fewestBits_30 (Nat.le_of_ble_eq_true rfl) rfl rfl ?_
  obtain ⟨m32, h⟩ := h
  exact gk_less (gz_le_s rfl (gz_le_s rfl (gz_le_s rfl (gz_le_s rfl (gz_le_s rfl (gz_le_s rfl (gz_le_s rfl (gz_le_n (gz_le_n gz_le_0))))))))) (oX7_fewestBits_32 m32 _ _ _ _ _ _ _ h)
set_option maxHeartbeats 4000000 in
set_option maxRecDepth 100000 in
theorem ctX7_fewest {E : gz_E} {x1 : Int32} {S : gz_S} {Q : Int32 → gz_S → Prop} (h : wX7_fewest x1 S Q) : gz_m E mX7_fewest 6 0 0 [.ref 0, .int x1] gz_F S (gz_qi Q) := by
  refine gz_meet0 (L0 := [some (.ref 0), some (.int x1), none]) (by decide) rfl (Nat.le_of_ble_eq_true rfl) (by decide) ?_
  unfold wX7_fewest at h
  refine gk_iload_n dX7_fewest_0 rfl ?_
  refine gk_iconst (v := 0) dX7_fewest_1 rfl ?_
  refine gk_iconst (v := 1) dX7_fewest_2 rfl ?_
  refine gk_callS (as := [_, _, _]) (rest := []) (ctX7_within h) dX7_fewest_3 wvX7_62 wcX7_within rfl (Nat.le_of_ble_eq_true rfl) ⟨Nat.le_refl _, Nat.le_refl _⟩ (fun h9 => absurd rfl h9) (Nat.le_of_ble_eq_true rfl) rfl (fun v G2 S3 hq => ?_)
  obtain ⟨rfl, r3, rfl, h⟩ := hq
  refine gk_if_ne (tgt := 12) dX7_fewest_6 (by decide) (fun c6 => ?_) (fun c6 => ?_)
  · replace h := h.1 c6
    refine gk_aload_n dX7_fewest_12 rfl ?_
    refine gk_callV (as := []) (rest := []) (ctX7_fewestBits h) dX7_fewest_13 rfl rfl wvX7_183 wcX7_fewestBits rfl (Nat.le_of_ble_eq_true rfl) ⟨Nat.le_refl _, Nat.le_refl _⟩ (fun h9 => absurd rfl h9) (Nat.le_of_ble_eq_true rfl) rfl (fun v G2 S13 hq => ?_)
    obtain ⟨rfl, r13, rfl, h⟩ := hq
    refine gk_istore_n dX7_fewest_16 (Nat.le_of_ble_eq_true rfl) rfl rfl ?_
    refine gk_iload_n dX7_fewest_17 rfl ?_
    refine gk_iconst (v := (-1)) dX7_fewest_18 rfl ?_
    refine gk_icmp_ne (tgt := 24) dX7_fewest_19 (by decide) (fun c19 => ?_) (fun c19 => ?_)
    · replace h := h.1 c19
      refine gk_iload_n dX7_fewest_24 rfl ?_
      refine gk_if_ne (tgt := 35) dX7_fewest_25 (by decide) (fun c25 => ?_) (fun c25 => ?_)
      · replace h := h.1 c25
        refine gk_iload_n dX7_fewest_35 rfl ?_
        exact gk_iret dX7_fewest_36 rfl rfl rfl rfl ⟨rfl, _, rfl, h⟩
      · replace h := h.2 c25
        refine gk_iload_n dX7_fewest_28 rfl ?_
        refine gk_callS (as := [_]) (rest := []) (ctJ6_bitCount_0f7a4 h) dX7_fewest_29 wvX7_186 wcJ6_bitCount_0f7a4 rfl (Nat.le_of_ble_eq_true rfl) ⟨Nat.le_refl _, Nat.le_refl _⟩ (fun h9 => absurd rfl h9) (Nat.le_of_ble_eq_true rfl) rfl (fun v G2 S29 hq => ?_)
        obtain ⟨rfl, r29, rfl, h⟩ := hq
        refine gk_goto (tgt := 36) dX7_fewest_32 (by decide) ?_
        exact gk_iret dX7_fewest_36 rfl rfl rfl rfl ⟨rfl, _, rfl, h⟩
    · replace h := h.2 c19
      refine gk_iconst (v := (-1)) dX7_fewest_22 rfl ?_
      exact gk_iret dX7_fewest_23 rfl rfl rfl rfl ⟨rfl, _, rfl, h⟩
  · replace h := h.2 c6
    refine gk_bipush (v := (-2)) dX7_fewest_9 rfl ?_
    exact gk_iret dX7_fewest_11 rfl rfl rfl rfl ⟨rfl, _, rfl, h⟩
set_option maxHeartbeats 4000000 in
set_option maxRecDepth 100000 in
theorem oX8_isLifted_50 {E : gz_E} {k5 : Int32 → Int32 → Int32 → Int32 → gz_S → Prop} {Q : Int32 → gz_S → Prop} (hk5 : ∀ (x1 : Int32) (x2 : Int32) (x3 : Int32) (x4 : Int32) (S : gz_S), k5 x1 x2 x3 x4 S → gz_k E mX8_isLifted (1, 0, 0, 73) 0 0 5 [some (.ref 45), some (.int x1), some (.int x2), some (.int x3), some (.int x4)] [] gz_F S (gz_qi Q)) : ∀ (x1 : Int32) (x2 : Int32) (x4 : Int32) (t0 : Int32) (S : gz_S), wX8_isLifted_50 k5 Q x1 x2 x4 t0 S → gz_k E mX8_isLifted (1, 0, 0, 73) 0 0 50 [some (.ref 45), some (.int x1), some (.int x2), none, some (.int x4)] [.int t0] gz_F S (gz_qi Q) := by
  intro x1 x2 x4 t0 S h
  unfold wX8_isLifted_50 at h
  refine gk_istore_n dX8_isLifted_50 (Nat.le_of_ble_eq_true rfl) rfl rfl ?_
  refine gk_iinc dX8_isLifted_51 rfl (Nat.le_of_ble_eq_true rfl) rfl rfl rfl ?_
  refine gk_goto (tgt := 5) dX8_isLifted_54 (by decide) ?_
  exact gk_less (gz_le_s rfl (gz_le_s rfl (gz_le_s rfl (gz_le_s rfl (gz_le_s rfl gz_le_0))))) (hk5 _ _ _ _ _ h)
set_option maxHeartbeats 4000000 in
set_option maxRecDepth 100000 in
theorem oX8_isLifted_45 {E : gz_E} {k5 : Int32 → Int32 → Int32 → Int32 → gz_S → Prop} {Q : Int32 → gz_S → Prop} (hk5 : ∀ (x1 : Int32) (x2 : Int32) (x3 : Int32) (x4 : Int32) (S : gz_S), k5 x1 x2 x3 x4 S → gz_k E mX8_isLifted (1, 0, 0, 73) 0 0 5 [some (.ref 45), some (.int x1), some (.int x2), some (.int x3), some (.int x4)] [] gz_F S (gz_qi Q)) : ∀ (x1 : Int32) (x2 : Int32) (x4 : Int32) (S : gz_S), wX8_isLifted_45 k5 Q x1 x2 x4 S → gz_k E mX8_isLifted (1, 0, 0, 73) 0 0 45 [some (.ref 45), some (.int x1), some (.int x2), none, some (.int x4)] [] gz_F S (gz_qi Q) := by
  intro x1 x2 x4 S h
  unfold wX8_isLifted_45 at h
  refine gk_iconst (v := 1) dX8_isLifted_45 rfl ?_
  refine gk_goto (tgt := 50) dX8_isLifted_46 (by decide) ?_
  exact gk_less (gz_le_s rfl (gz_le_s rfl (gz_le_s rfl (gz_le_n (gz_le_s rfl gz_le_0))))) (oX8_isLifted_50 hk5 _ _ _ _ _ h)
set_option maxHeartbeats 4000000 in
set_option maxRecDepth 100000 in
theorem oX8_isLifted_49 {E : gz_E} {k5 : Int32 → Int32 → Int32 → Int32 → gz_S → Prop} {Q : Int32 → gz_S → Prop} (hk5 : ∀ (x1 : Int32) (x2 : Int32) (x3 : Int32) (x4 : Int32) (S : gz_S), k5 x1 x2 x3 x4 S → gz_k E mX8_isLifted (1, 0, 0, 73) 0 0 5 [some (.ref 45), some (.int x1), some (.int x2), some (.int x3), some (.int x4)] [] gz_F S (gz_qi Q)) : ∀ (x1 : Int32) (x2 : Int32) (x4 : Int32) (S : gz_S), wX8_isLifted_49 k5 Q x1 x2 x4 S → gz_k E mX8_isLifted (1, 0, 0, 73) 0 0 49 [some (.ref 45), some (.int x1), some (.int x2), none, some (.int x4)] [] gz_F S (gz_qi Q) := by
  intro x1 x2 x4 S h
  unfold wX8_isLifted_49 at h
  refine gk_iconst (v := 0) dX8_isLifted_49 rfl ?_
  exact gk_less (gz_le_s rfl (gz_le_s rfl (gz_le_s rfl (gz_le_n (gz_le_s rfl gz_le_0))))) (oX8_isLifted_50 hk5 _ _ _ _ _ h)
set_option maxHeartbeats 4000000 in
set_option maxRecDepth 100000 in
theorem oX8_isLifted_5 {E : gz_E} {Q : Int32 → gz_S → Prop} : ∀ (n : Nat) (x1 : Int32) (x2 : Int32) (x3 : Int32) (x4 : Int32) (S : gz_S), wX8_isLifted_5 Q n x1 x2 x3 x4 S → gz_k E mX8_isLifted (1, 0, 0, 73) 0 0 5 [some (.ref 45), some (.int x1), some (.int x2), some (.int x3), some (.int x4)] [] gz_F S (gz_qi Q) := by
  intro n
  induction n with
  | zero =>
    intro x1 x2 x3 x4 S h
    exact h.elim
  | succ n ih =>
    intro x1 x2 x3 x4 S h
    unfold wX8_isLifted_5 at h
    refine gk_iload dX8_isLifted_5 rfl ?_
    refine gk_aload_n dX8_isLifted_7 rfl ?_
    refine gk_geti dX8_isLifted_8 rfl rfl wfX8_129 ?_
    refine gk_icmp_ge (tgt := 57) dX8_isLifted_11 (by decide) (fun c11 => ?_) (fun c11 => ?_)
    · replace h := h.1 c11
      refine gk_iload_n dX8_isLifted_57 rfl ?_
      exact gk_iret dX8_isLifted_58 rfl rfl rfl (gz_b01_nz h.1) ⟨rfl, _, rfl, h.2⟩
    · replace h := h.2 c11
      refine gk_iload_n dX8_isLifted_14 rfl ?_
      refine gk_if_ne (tgt := 45) dX8_isLifted_15 (by decide) (fun c15 => ?_) (fun c15 => ?_)
      · replace h := h.1 c15
        exact gk_less (gz_le_s rfl (gz_le_s rfl (gz_le_s rfl (gz_le_n (gz_le_s rfl gz_le_0))))) (oX8_isLifted_45 (fun y0 y1 y2 y3 S h => ih y0 y1 y2 y3 S h) _ _ _ _ h)
      · replace h := h.2 c15
        refine gk_aload_n dX8_isLifted_18 rfl ?_
        refine gk_getr dX8_isLifted_19 rfl rfl wfX8_31 ?_
        refine gk_iload dX8_isLifted_22 rfl ?_
        refine gk_iaload dX8_isLifted_24 rfl h.1 ?_
        replace h := h.2
        refine gk_iload_n dX8_isLifted_25 rfl ?_
        refine gk_icmp_ne (tgt := 49) dX8_isLifted_26 (by decide) (fun c26 => ?_) (fun c26 => ?_)
        · replace h := h.1 c26
          exact gk_less (gz_le_s rfl (gz_le_s rfl (gz_le_s rfl (gz_le_n (gz_le_s rfl gz_le_0))))) (oX8_isLifted_49 (fun y0 y1 y2 y3 S h => ih y0 y1 y2 y3 S h) _ _ _ _ h)
        · replace h := h.2 c26
          refine gk_aload_n dX8_isLifted_29 rfl ?_
          refine gk_getr dX8_isLifted_30 rfl rfl wfX8_28 ?_
          refine gk_iload dX8_isLifted_33 rfl ?_
          refine gk_iaload dX8_isLifted_35 rfl h.1 ?_
          replace h := h.2
          refine gk_aload_n dX8_isLifted_36 rfl ?_
          refine gk_getr dX8_isLifted_37 rfl rfl wfX8_34 ?_
          refine gk_iload_n dX8_isLifted_40 rfl ?_
          refine gk_iaload dX8_isLifted_41 rfl h.1 ?_
          replace h := h.2
          refine gk_icmp_lt (tgt := 49) dX8_isLifted_42 (by decide) (fun c42 => ?_) (fun c42 => ?_)
          · replace h := h.1 c42
            exact gk_less (gz_le_s rfl (gz_le_s rfl (gz_le_s rfl (gz_le_n (gz_le_s rfl gz_le_0))))) (oX8_isLifted_49 (fun y0 y1 y2 y3 S h => ih y0 y1 y2 y3 S h) _ _ _ _ h)
          · replace h := h.2 c42
            exact gk_less (gz_le_s rfl (gz_le_s rfl (gz_le_s rfl (gz_le_n (gz_le_s rfl gz_le_0))))) (oX8_isLifted_45 (fun y0 y1 y2 y3 S h => ih y0 y1 y2 y3 S h) _ _ _ _ h)
set_option maxHeartbeats 4000000 in
set_option maxRecDepth 100000 in
theorem ctX8_isLifted {E : gz_E} {x1 : Int32} {x2 : Int32} {S : gz_S} {Q : Int32 → gz_S → Prop} (h : wX8_isLifted x1 x2 S Q) : gz_m E mX8_isLifted 1 0 0 [.ref 45, .int x1, .int x2] gz_F S (gz_qi Q) := by
  refine gz_meet0 (L0 := [some (.ref 45), some (.int x1), some (.int x2), none, none]) (by decide) rfl (Nat.le_of_ble_eq_true rfl) (by decide) ?_
  unfold wX8_isLifted at h
  refine gk_iconst (v := 0) dX8_isLifted_0 rfl ?_
  refine gk_istore_n dX8_isLifted_1 (Nat.le_of_ble_eq_true rfl) rfl rfl ?_
  refine gk_iconst (v := 0) dX8_isLifted_2 rfl ?_
  refine gk_istore dX8_isLifted_3 (Nat.le_of_ble_eq_true rfl) rfl rfl ?_
  obtain ⟨m5, h⟩ := h
  exact gk_less (gz_le_s rfl (gz_le_s rfl (gz_le_s rfl (gz_le_s rfl (gz_le_s rfl gz_le_0))))) (oX8_isLifted_5 m5 _ _ _ _ _ h)
set_option maxHeartbeats 4000000 in
set_option maxRecDepth 100000 in
theorem oX8_freeOf_39 {E : gz_E} {k4 : Int32 → Int32 → Int32 → gz_S → Prop} {Q : Int32 → gz_S → Prop} (hk4 : ∀ (x1 : Int32) (x2 : Int32) (x3 : Int32) (S : gz_S), k4 x1 x2 x3 S → gz_k E mX8_freeOf (2, 0, 0, 73) 0 0 4 [some (.ref 45), some (.int x1), some (.int x2), some (.int x3)] [] gz_F S (gz_qi Q)) : ∀ (x1 : Int32) (x3 : Int32) (t0 : Int32) (t1 : Int32) (S : gz_S), wX8_freeOf_39 k4 Q x1 x3 t0 t1 S → gz_k E mX8_freeOf (2, 0, 0, 73) 0 0 39 [some (.ref 45), some (.int x1), none, some (.int x3)] [.int t1, .int t0] gz_F S (gz_qi Q) := by
  intro x1 x3 t0 t1 S h
  unfold wX8_freeOf_39 at h
  refine gk_ior dX8_freeOf_39 ?_
  refine gk_nmi (fun v2_40 ev2_40 => ?_)
  replace h := h v2_40 ev2_40
  refine gk_istore_n dX8_freeOf_40 (Nat.le_of_ble_eq_true rfl) rfl rfl ?_
  refine gk_iinc dX8_freeOf_41 rfl (Nat.le_of_ble_eq_true rfl) rfl rfl rfl ?_
  refine gk_goto (tgt := 4) dX8_freeOf_44 (by decide) ?_
  exact gk_less (gz_le_s rfl (gz_le_s rfl (gz_le_s rfl (gz_le_s rfl gz_le_0)))) (hk4 _ _ _ _ h)
set_option maxHeartbeats 4000000 in
set_option maxRecDepth 100000 in
theorem oX8_freeOf_38 {E : gz_E} {k4 : Int32 → Int32 → Int32 → gz_S → Prop} {Q : Int32 → gz_S → Prop} (hk4 : ∀ (x1 : Int32) (x2 : Int32) (x3 : Int32) (S : gz_S), k4 x1 x2 x3 S → gz_k E mX8_freeOf (2, 0, 0, 73) 0 0 4 [some (.ref 45), some (.int x1), some (.int x2), some (.int x3)] [] gz_F S (gz_qi Q)) : ∀ (x1 : Int32) (x3 : Int32) (t0 : Int32) (S : gz_S), wX8_freeOf_38 k4 Q x1 x3 t0 S → gz_k E mX8_freeOf (2, 0, 0, 73) 0 0 38 [some (.ref 45), some (.int x1), none, some (.int x3)] [.int t0] gz_F S (gz_qi Q) := by
  intro x1 x3 t0 S h
  unfold wX8_freeOf_38 at h
  refine gk_iconst (v := 0) dX8_freeOf_38 rfl ?_
  exact gk_less (gz_le_s rfl (gz_le_s rfl (gz_le_n (gz_le_s rfl gz_le_0)))) (oX8_freeOf_39 hk4 _ _ _ _ _ h)
set_option maxHeartbeats 4000000 in
set_option maxRecDepth 100000 in
theorem oX8_freeOf_4 {E : gz_E} {Q : Int32 → gz_S → Prop} : ∀ (n : Nat) (x1 : Int32) (x2 : Int32) (x3 : Int32) (S : gz_S), wX8_freeOf_4 Q n x1 x2 x3 S → gz_k E mX8_freeOf (2, 0, 0, 73) 0 0 4 [some (.ref 45), some (.int x1), some (.int x2), some (.int x3)] [] gz_F S (gz_qi Q) := by
  intro n
  induction n with
  | zero =>
    intro x1 x2 x3 S h
    exact h.elim
  | succ n ih =>
    intro x1 x2 x3 S h
    unfold wX8_freeOf_4 at h
    refine gk_iload_n dX8_freeOf_4 rfl ?_
    refine gk_aload_n dX8_freeOf_5 rfl ?_
    refine gk_geti dX8_freeOf_6 rfl rfl wfX8_137 ?_
    refine gk_icmp_ge (tgt := 47) dX8_freeOf_9 (by decide) (fun c9 => ?_) (fun c9 => ?_)
    · replace h := h.1 c9
      refine gk_iload_n dX8_freeOf_47 rfl ?_
      exact gk_iret dX8_freeOf_48 rfl rfl rfl rfl ⟨rfl, _, rfl, h⟩
    · replace h := h.2 c9
      refine gk_iload_n dX8_freeOf_12 rfl ?_
      refine gk_aload_n dX8_freeOf_13 rfl ?_
      refine gk_getr dX8_freeOf_14 rfl rfl wfX8_58 ?_
      refine gk_iload_n dX8_freeOf_17 rfl ?_
      refine gk_iaload dX8_freeOf_18 rfl h.1 ?_
      replace h := h.2
      refine gk_iconst (v := (-1)) dX8_freeOf_19 rfl ?_
      refine gk_icmp_ne (tgt := 38) dX8_freeOf_20 (by decide) (fun c20 => ?_) (fun c20 => ?_)
      · replace h := h.1 c20
        exact gk_less (gz_le_s rfl (gz_le_s rfl (gz_le_n (gz_le_s rfl gz_le_0)))) (oX8_freeOf_38 (fun y0 y1 y2 S h => ih y0 y1 y2 S h) _ _ _ _ h)
      · replace h := h.2 c20
        refine gk_aload_n dX8_freeOf_23 rfl ?_
        refine gk_iload_n dX8_freeOf_24 rfl ?_
        refine gk_iload_n dX8_freeOf_25 rfl ?_
        refine gk_callV (as := [_, _]) (rest := [_]) (ctX8_isLifted h) dX8_freeOf_26 rfl rfl wvX8_241 wcX8_isLifted rfl (Nat.le_of_ble_eq_true rfl) ⟨Nat.le_refl _, Nat.le_refl _⟩ (fun h9 => absurd rfl h9) (Nat.le_of_ble_eq_true rfl) rfl (fun v G2 S26 hq => ?_)
        obtain ⟨rfl, r26, rfl, h⟩ := hq
        refine gk_if_eq (tgt := 38) dX8_freeOf_29 (by decide) (fun c29 => ?_) (fun c29 => ?_)
        · replace h := h.1 c29
          exact gk_less (gz_le_s rfl (gz_le_s rfl (gz_le_n (gz_le_s rfl gz_le_0)))) (oX8_freeOf_38 (fun y0 y1 y2 S h => ih y0 y1 y2 S h) _ _ _ _ h)
        · replace h := h.2 c29
          refine gk_iconst (v := 1) dX8_freeOf_32 rfl ?_
          refine gk_iload_n dX8_freeOf_33 rfl ?_
          refine gk_ishl dX8_freeOf_34 ?_
          refine gk_goto (tgt := 39) dX8_freeOf_35 (by decide) ?_
          exact gk_less (gz_le_s rfl (gz_le_s rfl (gz_le_n (gz_le_s rfl gz_le_0)))) (oX8_freeOf_39 (fun y0 y1 y2 S h => ih y0 y1 y2 S h) _ _ _ _ _ h)
set_option maxHeartbeats 4000000 in
set_option maxRecDepth 100000 in
theorem ctX8_freeOf {E : gz_E} {x1 : Int32} {S : gz_S} {Q : Int32 → gz_S → Prop} (h : wX8_freeOf x1 S Q) : gz_m E mX8_freeOf 2 0 0 [.ref 45, .int x1] gz_F S (gz_qi Q) := by
  refine gz_meet0 (L0 := [some (.ref 45), some (.int x1), none, none]) (by decide) rfl (Nat.le_of_ble_eq_true rfl) (by decide) ?_
  unfold wX8_freeOf at h
  refine gk_iconst (v := 0) dX8_freeOf_0 rfl ?_
  refine gk_istore_n dX8_freeOf_1 (Nat.le_of_ble_eq_true rfl) rfl rfl ?_
  refine gk_iconst (v := 0) dX8_freeOf_2 rfl ?_
  refine gk_istore_n dX8_freeOf_3 (Nat.le_of_ble_eq_true rfl) rfl rfl ?_
  obtain ⟨m4, h⟩ := h
  exact gk_less (gz_le_s rfl (gz_le_s rfl (gz_le_s rfl (gz_le_s rfl gz_le_0)))) (oX8_freeOf_4 m4 _ _ _ _ h)
set_option maxHeartbeats 4000000 in
set_option maxRecDepth 100000 in
theorem oX8_weightOf_31 {E : gz_E} {k4 : Int32 → Int32 → Int32 → gz_S → Prop} {Q : Int32 → gz_S → Prop} (hk4 : ∀ (x1 : Int32) (x2 : Int32) (x3 : Int32) (S : gz_S), k4 x1 x2 x3 S → gz_k E mX8_weightOf (2, 0, 0, 73) 0 0 4 [some (.ref 45), some (.int x1), some (.int x2), some (.int x3)] [] gz_F S (gz_qi Q)) : ∀ (x1 : Int32) (x3 : Int32) (t0 : Int32) (t1 : Int32) (S : gz_S), wX8_weightOf_31 k4 Q x1 x3 t0 t1 S → gz_k E mX8_weightOf (2, 0, 0, 73) 0 0 31 [some (.ref 45), some (.int x1), none, some (.int x3)] [.int t1, .int t0] gz_F S (gz_qi Q) := by
  intro x1 x3 t0 t1 S h
  unfold wX8_weightOf_31 at h
  refine gk_iadd dX8_weightOf_31 ?_
  refine gk_nmi (fun v2_32 ev2_32 => ?_)
  replace h := h v2_32 ev2_32
  refine gk_istore_n dX8_weightOf_32 (Nat.le_of_ble_eq_true rfl) rfl rfl ?_
  refine gk_iinc dX8_weightOf_33 rfl (Nat.le_of_ble_eq_true rfl) rfl rfl rfl ?_
  refine gk_goto (tgt := 4) dX8_weightOf_36 (by decide) ?_
  exact gk_less (gz_le_s rfl (gz_le_s rfl (gz_le_s rfl (gz_le_s rfl gz_le_0)))) (hk4 _ _ _ _ h)
set_option maxHeartbeats 4000000 in
set_option maxRecDepth 100000 in
theorem oX8_weightOf_4 {E : gz_E} {Q : Int32 → gz_S → Prop} : ∀ (n : Nat) (x1 : Int32) (x2 : Int32) (x3 : Int32) (S : gz_S), wX8_weightOf_4 Q n x1 x2 x3 S → gz_k E mX8_weightOf (2, 0, 0, 73) 0 0 4 [some (.ref 45), some (.int x1), some (.int x2), some (.int x3)] [] gz_F S (gz_qi Q) := by
  intro n
  induction n with
  | zero =>
    intro x1 x2 x3 S h
    exact h.elim
  | succ n ih =>
    intro x1 x2 x3 S h
    unfold wX8_weightOf_4 at h
    refine gk_iload_n dX8_weightOf_4 rfl ?_
    refine gk_aload_n dX8_weightOf_5 rfl ?_
    refine gk_geti dX8_weightOf_6 rfl rfl wfX8_137 ?_
    refine gk_icmp_ge (tgt := 39) dX8_weightOf_9 (by decide) (fun c9 => ?_) (fun c9 => ?_)
    · replace h := h.1 c9
      refine gk_iload_n dX8_weightOf_39 rfl ?_
      exact gk_iret dX8_weightOf_40 rfl rfl rfl rfl ⟨rfl, _, rfl, h⟩
    · replace h := h.2 c9
      refine gk_iload_n dX8_weightOf_12 rfl ?_
      refine gk_iload_n dX8_weightOf_13 rfl ?_
      refine gk_iload_n dX8_weightOf_14 rfl ?_
      refine gk_callS (as := [_, _]) (rest := [_]) (ctX8_isIn h) dX8_weightOf_15 wvX8_226 wcX8_isIn rfl (Nat.le_of_ble_eq_true rfl) ⟨Nat.le_refl _, Nat.le_refl _⟩ (fun h9 => absurd rfl h9) (Nat.le_of_ble_eq_true rfl) rfl (fun v G2 S15 hq => ?_)
      obtain ⟨rfl, r15, rfl, h⟩ := hq
      refine gk_if_eq (tgt := 30) dX8_weightOf_18 (by decide) (fun c18 => ?_) (fun c18 => ?_)
      · replace h := h.1 c18
        refine gk_iconst (v := 0) dX8_weightOf_30 rfl ?_
        exact gk_less (gz_le_s rfl (gz_le_s rfl (gz_le_n (gz_le_s rfl gz_le_0)))) (oX8_weightOf_31 (fun y0 y1 y2 S h => ih y0 y1 y2 S h) _ _ _ _ _ h)
      · replace h := h.2 c18
        refine gk_aload_n dX8_weightOf_21 rfl ?_
        refine gk_getr dX8_weightOf_22 rfl rfl wfX8_34 ?_
        refine gk_iload_n dX8_weightOf_25 rfl ?_
        refine gk_iaload dX8_weightOf_26 rfl h.1 ?_
        replace h := h.2
        refine gk_goto (tgt := 31) dX8_weightOf_27 (by decide) ?_
        exact gk_less (gz_le_s rfl (gz_le_s rfl (gz_le_n (gz_le_s rfl gz_le_0)))) (oX8_weightOf_31 (fun y0 y1 y2 S h => ih y0 y1 y2 S h) _ _ _ _ _ h)
set_option maxHeartbeats 4000000 in
set_option maxRecDepth 100000 in
theorem ctX8_weightOf {E : gz_E} {x1 : Int32} {S : gz_S} {Q : Int32 → gz_S → Prop} (h : wX8_weightOf x1 S Q) : gz_m E mX8_weightOf 2 0 0 [.ref 45, .int x1] gz_F S (gz_qi Q) := by
  refine gz_meet0 (L0 := [some (.ref 45), some (.int x1), none, none]) (by decide) rfl (Nat.le_of_ble_eq_true rfl) (by decide) ?_
  unfold wX8_weightOf at h
  refine gk_iconst (v := 0) dX8_weightOf_0 rfl ?_
  refine gk_istore_n dX8_weightOf_1 (Nat.le_of_ble_eq_true rfl) rfl rfl ?_
  refine gk_iconst (v := 0) dX8_weightOf_2 rfl ?_
  refine gk_istore_n dX8_weightOf_3 (Nat.le_of_ble_eq_true rfl) rfl rfl ?_
  obtain ⟨m4, h⟩ := h
  exact gk_less (gz_le_s rfl (gz_le_s rfl (gz_le_s rfl (gz_le_s rfl gz_le_0)))) (oX8_weightOf_4 m4 _ _ _ _ h)
set_option maxHeartbeats 4000000 in
set_option maxRecDepth 100000 in
theorem oX8_ones_4 {E : gz_E} {Q : Int32 → gz_S → Prop} : ∀ (n : Nat) (x1 : Int32) (x2 : Int32) (S : gz_S), wX8_ones_4 Q n x1 x2 S → gz_k E mX8_ones (1, 0, 0, 73) 0 0 4 [none, some (.int x1), some (.int x2)] [] gz_F S (gz_qi Q) := by
  intro n
  induction n with
  | zero =>
    intro x1 x2 S h
    exact h.elim
  | succ n ih =>
    intro x1 x2 S h
    unfold wX8_ones_4 at h
    refine gk_iload_n dX8_ones_4 rfl ?_
    refine gk_if_eq (tgt := 20) dX8_ones_5 (by decide) (fun c5 => ?_) (fun c5 => ?_)
    · replace h := h.1 c5
      refine gk_iload_n dX8_ones_20 rfl ?_
      exact gk_iret dX8_ones_21 rfl rfl rfl rfl ⟨rfl, _, rfl, h⟩
    · replace h := h.2 c5
      refine gk_iinc dX8_ones_8 rfl (Nat.le_of_ble_eq_true rfl) rfl rfl rfl ?_
      refine gk_iload_n dX8_ones_11 rfl ?_
      refine gk_iload_n dX8_ones_12 rfl ?_
      refine gk_iconst (v := 1) dX8_ones_13 rfl ?_
      refine gk_isub dX8_ones_14 ?_
      refine gk_iand dX8_ones_15 ?_
      refine gk_nmi (fun v2_16 ev2_16 => ?_)
      replace h := h v2_16 ev2_16
      refine gk_istore_n dX8_ones_16 (Nat.le_of_ble_eq_true rfl) rfl rfl ?_
      refine gk_goto (tgt := 4) dX8_ones_17 (by decide) ?_
      exact gk_less (gz_le_n (gz_le_s rfl (gz_le_s rfl gz_le_0))) (ih _ _ _ h)
set_option maxHeartbeats 4000000 in
set_option maxRecDepth 100000 in
theorem ctX8_ones {E : gz_E} {x0 : Int32} {S : gz_S} {Q : Int32 → gz_S → Prop} (h : wX8_ones x0 S Q) : gz_m E mX8_ones 1 0 0 [.int x0] gz_F S (gz_qi Q) := by
  refine gz_meet0 (L0 := [some (.int x0), none, none]) (by decide) rfl (Nat.le_of_ble_eq_true rfl) (by decide) ?_
  unfold wX8_ones at h
  refine gk_iconst (v := 0) dX8_ones_0 rfl ?_
  refine gk_istore_n dX8_ones_1 (Nat.le_of_ble_eq_true rfl) rfl rfl ?_
  refine gk_iload_n dX8_ones_2 rfl ?_
  refine gk_istore_n dX8_ones_3 (Nat.le_of_ble_eq_true rfl) rfl rfl ?_
  obtain ⟨m4, h⟩ := h
  exact gk_less (gz_le_n (gz_le_s rfl (gz_le_s rfl gz_le_0))) (oX8_ones_4 m4 _ _ _ h)
set_option maxHeartbeats 4000000 in
set_option maxRecDepth 100000 in
theorem oX8_fewestOf_151 {E : gz_E} {Q : Int32 → gz_S → Prop} : ∀ (x4 : Int32) (S : gz_S), wX8_fewestOf_151 Q x4 S → gz_k E mX8_fewestOf (5, 0, 0, 73) 0 0 151 [none, none, none, none, some (.int x4), none, none, none] [] gz_F S (gz_qi Q) := by
  intro x4 S h
  unfold wX8_fewestOf_151 at h
  refine gk_iload dX8_fewestOf_151 rfl ?_
  refine gk_goto (tgt := 161) dX8_fewestOf_153 (by decide) ?_
  exact gk_iret dX8_fewestOf_161 rfl rfl rfl rfl ⟨rfl, _, rfl, h⟩
set_option maxHeartbeats 4000000 in
set_option maxRecDepth 100000 in
theorem oX8_fewestOf_132 {E : gz_E} {k21 : Int32 → Int32 → Int32 → Int32 → Int32 → gz_S → Prop} {Q : Int32 → gz_S → Prop} (hk21 : ∀ (x1 : Int32) (x2 : Int32) (x3 : Int32) (x4 : Int32) (x5 : Int32) (S : gz_S), k21 x1 x2 x3 x4 x5 S → gz_k E mX8_fewestOf (5, 0, 0, 73) 0 0 21 [some (.ref 45), some (.int x1), some (.int x2), some (.int x3), some (.int x4), some (.int x5), none, none] [] gz_F S (gz_qi Q)) : ∀ (x1 : Int32) (x2 : Int32) (x3 : Int32) (x5 : Int32) (t0 : Int32) (S : gz_S), wX8_fewestOf_132 k21 Q x1 x2 x3 x5 t0 S → gz_k E mX8_fewestOf (5, 0, 0, 73) 0 0 132 [some (.ref 45), some (.int x1), some (.int x2), some (.int x3), none, some (.int x5), none, none] [.int t0] gz_F S (gz_qi Q) := by
  intro x1 x2 x3 x5 t0 S h
  unfold wX8_fewestOf_132 at h
  refine gk_istore dX8_fewestOf_132 (Nat.le_of_ble_eq_true rfl) rfl rfl ?_
  refine gk_iinc dX8_fewestOf_134 rfl (Nat.le_of_ble_eq_true rfl) rfl rfl rfl ?_
  refine gk_goto (tgt := 21) dX8_fewestOf_137 (by decide) ?_
  exact gk_less (gz_le_s rfl (gz_le_s rfl (gz_le_s rfl (gz_le_s rfl (gz_le_s rfl (gz_le_s rfl (gz_le_n (gz_le_n gz_le_0)))))))) (hk21 _ _ _ _ _ _ h)
set_option maxHeartbeats 4000000 in
set_option maxRecDepth 100000 in
theorem oX8_fewestOf_130 {E : gz_E} {k21 : Int32 → Int32 → Int32 → Int32 → Int32 → gz_S → Prop} {Q : Int32 → gz_S → Prop} (hk21 : ∀ (x1 : Int32) (x2 : Int32) (x3 : Int32) (x4 : Int32) (x5 : Int32) (S : gz_S), k21 x1 x2 x3 x4 x5 S → gz_k E mX8_fewestOf (5, 0, 0, 73) 0 0 21 [some (.ref 45), some (.int x1), some (.int x2), some (.int x3), some (.int x4), some (.int x5), none, none] [] gz_F S (gz_qi Q)) : ∀ (x1 : Int32) (x2 : Int32) (x3 : Int32) (x4 : Int32) (x5 : Int32) (S : gz_S), wX8_fewestOf_130 k21 Q x1 x2 x3 x4 x5 S → gz_k E mX8_fewestOf (5, 0, 0, 73) 0 0 130 [some (.ref 45), some (.int x1), some (.int x2), some (.int x3), some (.int x4), some (.int x5), none, none] [] gz_F S (gz_qi Q) := by
  intro x1 x2 x3 x4 x5 S h
  unfold wX8_fewestOf_130 at h
  refine gk_iload dX8_fewestOf_130 rfl ?_
  exact gk_less (gz_le_s rfl (gz_le_s rfl (gz_le_s rfl (gz_le_s rfl (gz_le_n (gz_le_s rfl (gz_le_n (gz_le_n gz_le_0)))))))) (oX8_fewestOf_132 hk21 _ _ _ _ _ _ h)
set_option maxHeartbeats 4000000 in
set_option maxRecDepth 100000 in
theorem oX8_fewestOf_113 {E : gz_E} {k21 : Int32 → Int32 → Int32 → Int32 → Int32 → gz_S → Prop} {Q : Int32 → gz_S → Prop} (hk21 : ∀ (x1 : Int32) (x2 : Int32) (x3 : Int32) (x4 : Int32) (x5 : Int32) (S : gz_S), k21 x1 x2 x3 x4 x5 S → gz_k E mX8_fewestOf (5, 0, 0, 73) 0 0 21 [some (.ref 45), some (.int x1), some (.int x2), some (.int x3), some (.int x4), some (.int x5), none, none] [] gz_F S (gz_qi Q)) : ∀ (x1 : Int32) (x2 : Int32) (x3 : Int32) (x4 : Int32) (x5 : Int32) (x6 : Int32) (t0 : Int32) (S : gz_S), wX8_fewestOf_113 k21 Q x1 x2 x3 x4 x5 x6 t0 S → gz_k E mX8_fewestOf (5, 0, 0, 73) 0 0 113 [some (.ref 45), some (.int x1), some (.int x2), some (.int x3), some (.int x4), some (.int x5), some (.int x6), none] [.int t0] gz_F S (gz_qi Q) := by
  intro x1 x2 x3 x4 x5 x6 t0 S h
  unfold wX8_fewestOf_113 at h
  refine gk_istore dX8_fewestOf_113 (Nat.le_of_ble_eq_true rfl) rfl rfl ?_
  refine gk_iload dX8_fewestOf_115 rfl ?_
  refine gk_if_eq (tgt := 130) dX8_fewestOf_117 (by decide) (fun c117 => ?_) (fun c117 => ?_)
  · replace h := h.1 c117
    exact gk_less (gz_le_s rfl (gz_le_s rfl (gz_le_s rfl (gz_le_s rfl (gz_le_s rfl (gz_le_s rfl (gz_le_n (gz_le_n gz_le_0)))))))) (oX8_fewestOf_130 hk21 _ _ _ _ _ _ h)
  · replace h := h.2 c117
    refine gk_iload dX8_fewestOf_120 rfl ?_
    refine gk_if_eq (tgt := 130) dX8_fewestOf_122 (by decide) (fun c122 => ?_) (fun c122 => ?_)
    · replace h := h.1 c122
      exact gk_less (gz_le_s rfl (gz_le_s rfl (gz_le_s rfl (gz_le_s rfl (gz_le_s rfl (gz_le_s rfl (gz_le_n (gz_le_n gz_le_0)))))))) (oX8_fewestOf_130 hk21 _ _ _ _ _ _ h)
    · replace h := h.2 c122
      refine gk_iload dX8_fewestOf_125 rfl ?_
      refine gk_goto (tgt := 132) dX8_fewestOf_127 (by decide) ?_
      exact gk_less (gz_le_s rfl (gz_le_s rfl (gz_le_s rfl (gz_le_s rfl (gz_le_n (gz_le_s rfl (gz_le_n (gz_le_n gz_le_0)))))))) (oX8_fewestOf_132 hk21 _ _ _ _ _ _ h)
set_option maxHeartbeats 4000000 in
set_option maxRecDepth 100000 in
theorem oX8_fewestOf_108 {E : gz_E} {k21 : Int32 → Int32 → Int32 → Int32 → Int32 → gz_S → Prop} {Q : Int32 → gz_S → Prop} (hk21 : ∀ (x1 : Int32) (x2 : Int32) (x3 : Int32) (x4 : Int32) (x5 : Int32) (S : gz_S), k21 x1 x2 x3 x4 x5 S → gz_k E mX8_fewestOf (5, 0, 0, 73) 0 0 21 [some (.ref 45), some (.int x1), some (.int x2), some (.int x3), some (.int x4), some (.int x5), none, none] [] gz_F S (gz_qi Q)) : ∀ (x1 : Int32) (x2 : Int32) (x3 : Int32) (x4 : Int32) (x5 : Int32) (x6 : Int32) (S : gz_S), wX8_fewestOf_108 k21 Q x1 x2 x3 x4 x5 x6 S → gz_k E mX8_fewestOf (5, 0, 0, 73) 0 0 108 [some (.ref 45), some (.int x1), some (.int x2), some (.int x3), some (.int x4), some (.int x5), some (.int x6), none] [] gz_F S (gz_qi Q) := by
  intro x1 x2 x3 x4 x5 x6 S h
  unfold wX8_fewestOf_108 at h
  refine gk_iconst (v := 1) dX8_fewestOf_108 rfl ?_
  refine gk_goto (tgt := 113) dX8_fewestOf_109 (by decide) ?_
  exact gk_less (gz_le_s rfl (gz_le_s rfl (gz_le_s rfl (gz_le_s rfl (gz_le_s rfl (gz_le_s rfl (gz_le_s rfl (gz_le_n gz_le_0)))))))) (oX8_fewestOf_113 hk21 _ _ _ _ _ _ _ _ h)
set_option maxHeartbeats 4000000 in
set_option maxRecDepth 100000 in
theorem oX8_fewestOf_112 {E : gz_E} {k21 : Int32 → Int32 → Int32 → Int32 → Int32 → gz_S → Prop} {Q : Int32 → gz_S → Prop} (hk21 : ∀ (x1 : Int32) (x2 : Int32) (x3 : Int32) (x4 : Int32) (x5 : Int32) (S : gz_S), k21 x1 x2 x3 x4 x5 S → gz_k E mX8_fewestOf (5, 0, 0, 73) 0 0 21 [some (.ref 45), some (.int x1), some (.int x2), some (.int x3), some (.int x4), some (.int x5), none, none] [] gz_F S (gz_qi Q)) : ∀ (x1 : Int32) (x2 : Int32) (x3 : Int32) (x4 : Int32) (x5 : Int32) (x6 : Int32) (S : gz_S), wX8_fewestOf_112 k21 Q x1 x2 x3 x4 x5 x6 S → gz_k E mX8_fewestOf (5, 0, 0, 73) 0 0 112 [some (.ref 45), some (.int x1), some (.int x2), some (.int x3), some (.int x4), some (.int x5), some (.int x6), none] [] gz_F S (gz_qi Q) := by
  intro x1 x2 x3 x4 x5 x6 S h
  unfold wX8_fewestOf_112 at h
  refine gk_iconst (v := 0) dX8_fewestOf_112 rfl ?_
  exact gk_less (gz_le_s rfl (gz_le_s rfl (gz_le_s rfl (gz_le_s rfl (gz_le_s rfl (gz_le_s rfl (gz_le_s rfl (gz_le_n gz_le_0)))))))) (oX8_fewestOf_113 hk21 _ _ _ _ _ _ _ _ h)
set_option maxHeartbeats 4000000 in
set_option maxRecDepth 100000 in
theorem oX8_fewestOf_59 {E : gz_E} {k21 : Int32 → Int32 → Int32 → Int32 → Int32 → gz_S → Prop} {Q : Int32 → gz_S → Prop} (hk21 : ∀ (x1 : Int32) (x2 : Int32) (x3 : Int32) (x4 : Int32) (x5 : Int32) (S : gz_S), k21 x1 x2 x3 x4 x5 S → gz_k E mX8_fewestOf (5, 0, 0, 73) 0 0 21 [some (.ref 45), some (.int x1), some (.int x2), some (.int x3), some (.int x4), some (.int x5), none, none] [] gz_F S (gz_qi Q)) : ∀ (x1 : Int32) (x2 : Int32) (x3 : Int32) (x4 : Int32) (x5 : Int32) (t0 : Int32) (S : gz_S), wX8_fewestOf_59 k21 Q x1 x2 x3 x4 x5 t0 S → gz_k E mX8_fewestOf (5, 0, 0, 73) 0 0 59 [some (.ref 45), some (.int x1), some (.int x2), some (.int x3), some (.int x4), some (.int x5), none, none] [.int t0] gz_F S (gz_qi Q) := by
  intro x1 x2 x3 x4 x5 t0 S h
  unfold wX8_fewestOf_59 at h
  refine gk_istore dX8_fewestOf_59 (Nat.le_of_ble_eq_true rfl) rfl rfl ?_
  refine gk_iload dX8_fewestOf_61 rfl ?_
  refine gk_iconst (v := (-1)) dX8_fewestOf_63 rfl ?_
  refine gk_icmp_eq (tgt := 108) dX8_fewestOf_64 (by decide) (fun c64 => ?_) (fun c64 => ?_)
  · replace h := h.1 c64
    exact gk_less (gz_le_s rfl (gz_le_s rfl (gz_le_s rfl (gz_le_s rfl (gz_le_s rfl (gz_le_s rfl (gz_le_s rfl (gz_le_n gz_le_0)))))))) (oX8_fewestOf_108 hk21 _ _ _ _ _ _ _ h)
  · replace h := h.2 c64
    refine gk_iload dX8_fewestOf_67 rfl ?_
    refine gk_callS (as := [_]) (rest := []) (ctX8_ones h) dX8_fewestOf_69 wvX8_250 wcX8_ones rfl (Nat.le_of_ble_eq_true rfl) ⟨Nat.le_refl _, Nat.le_refl _⟩ (fun h9 => absurd rfl h9) (Nat.le_of_ble_eq_true rfl) rfl (fun v G2 S69 hq => ?_)
    obtain ⟨rfl, r69, rfl, h⟩ := hq
    refine gk_iload dX8_fewestOf_72 rfl ?_
    refine gk_callS (as := [_]) (rest := [_]) (ctX8_ones h) dX8_fewestOf_74 wvX8_250 wcX8_ones rfl (Nat.le_of_ble_eq_true rfl) ⟨Nat.le_refl _, Nat.le_refl _⟩ (fun h9 => absurd rfl h9) (Nat.le_of_ble_eq_true rfl) rfl (fun v G2 S74 hq => ?_)
    obtain ⟨rfl, r74, rfl, h⟩ := hq
    refine gk_icmp_lt (tgt := 108) dX8_fewestOf_77 (by decide) (fun c77 => ?_) (fun c77 => ?_)
    · replace h := h.1 c77
      exact gk_less (gz_le_s rfl (gz_le_s rfl (gz_le_s rfl (gz_le_s rfl (gz_le_s rfl (gz_le_s rfl (gz_le_s rfl (gz_le_n gz_le_0)))))))) (oX8_fewestOf_108 hk21 _ _ _ _ _ _ _ h)
    · replace h := h.2 c77
      refine gk_iload dX8_fewestOf_80 rfl ?_
      refine gk_callS (as := [_]) (rest := []) (ctX8_ones h) dX8_fewestOf_82 wvX8_250 wcX8_ones rfl (Nat.le_of_ble_eq_true rfl) ⟨Nat.le_refl _, Nat.le_refl _⟩ (fun h9 => absurd rfl h9) (Nat.le_of_ble_eq_true rfl) rfl (fun v G2 S82 hq => ?_)
      obtain ⟨rfl, r82, rfl, h⟩ := hq
      refine gk_iload dX8_fewestOf_85 rfl ?_
      refine gk_callS (as := [_]) (rest := [_]) (ctX8_ones h) dX8_fewestOf_87 wvX8_250 wcX8_ones rfl (Nat.le_of_ble_eq_true rfl) ⟨Nat.le_refl _, Nat.le_refl _⟩ (fun h9 => absurd rfl h9) (Nat.le_of_ble_eq_true rfl) rfl (fun v G2 S87 hq => ?_)
      obtain ⟨rfl, r87, rfl, h⟩ := hq
      refine gk_icmp_ne (tgt := 112) dX8_fewestOf_90 (by decide) (fun c90 => ?_) (fun c90 => ?_)
      · replace h := h.1 c90
        exact gk_less (gz_le_s rfl (gz_le_s rfl (gz_le_s rfl (gz_le_s rfl (gz_le_s rfl (gz_le_s rfl (gz_le_s rfl (gz_le_n gz_le_0)))))))) (oX8_fewestOf_112 hk21 _ _ _ _ _ _ _ h)
      · replace h := h.2 c90
        refine gk_aload_n dX8_fewestOf_93 rfl ?_
        refine gk_iload dX8_fewestOf_94 rfl ?_
        refine gk_callV (as := [_]) (rest := []) (ctX8_weightOf h) dX8_fewestOf_96 rfl rfl wvX8_247 wcX8_weightOf rfl (Nat.le_of_ble_eq_true rfl) ⟨Nat.le_refl _, Nat.le_refl _⟩ (fun h9 => absurd rfl h9) (Nat.le_of_ble_eq_true rfl) rfl (fun v G2 S96 hq => ?_)
        obtain ⟨rfl, r96, rfl, h⟩ := hq
        refine gk_aload_n dX8_fewestOf_99 rfl ?_
        refine gk_iload dX8_fewestOf_100 rfl ?_
        refine gk_callV (as := [_]) (rest := [_]) (ctX8_weightOf h) dX8_fewestOf_102 rfl rfl wvX8_247 wcX8_weightOf rfl (Nat.le_of_ble_eq_true rfl) ⟨Nat.le_refl _, Nat.le_refl _⟩ (fun h9 => absurd rfl h9) (Nat.le_of_ble_eq_true rfl) rfl (fun v G2 S102 hq => ?_)
        obtain ⟨rfl, r102, rfl, h⟩ := hq
        refine gk_icmp_ge (tgt := 112) dX8_fewestOf_105 (by decide) (fun c105 => ?_) (fun c105 => ?_)
        · replace h := h.1 c105
          exact gk_less (gz_le_s rfl (gz_le_s rfl (gz_le_s rfl (gz_le_s rfl (gz_le_s rfl (gz_le_s rfl (gz_le_s rfl (gz_le_n gz_le_0)))))))) (oX8_fewestOf_112 hk21 _ _ _ _ _ _ _ h)
        · replace h := h.2 c105
          exact gk_less (gz_le_s rfl (gz_le_s rfl (gz_le_s rfl (gz_le_s rfl (gz_le_s rfl (gz_le_s rfl (gz_le_s rfl (gz_le_n gz_le_0)))))))) (oX8_fewestOf_108 hk21 _ _ _ _ _ _ _ h)
set_option maxHeartbeats 4000000 in
set_option maxRecDepth 100000 in
theorem oX8_fewestOf_58 {E : gz_E} {k21 : Int32 → Int32 → Int32 → Int32 → Int32 → gz_S → Prop} {Q : Int32 → gz_S → Prop} (hk21 : ∀ (x1 : Int32) (x2 : Int32) (x3 : Int32) (x4 : Int32) (x5 : Int32) (S : gz_S), k21 x1 x2 x3 x4 x5 S → gz_k E mX8_fewestOf (5, 0, 0, 73) 0 0 21 [some (.ref 45), some (.int x1), some (.int x2), some (.int x3), some (.int x4), some (.int x5), none, none] [] gz_F S (gz_qi Q)) : ∀ (x1 : Int32) (x2 : Int32) (x3 : Int32) (x4 : Int32) (x5 : Int32) (S : gz_S), wX8_fewestOf_58 k21 Q x1 x2 x3 x4 x5 S → gz_k E mX8_fewestOf (5, 0, 0, 73) 0 0 58 [some (.ref 45), some (.int x1), some (.int x2), some (.int x3), some (.int x4), some (.int x5), none, none] [] gz_F S (gz_qi Q) := by
  intro x1 x2 x3 x4 x5 S h
  unfold wX8_fewestOf_58 at h
  refine gk_iconst (v := 0) dX8_fewestOf_58 rfl ?_
  exact gk_less (gz_le_s rfl (gz_le_s rfl (gz_le_s rfl (gz_le_s rfl (gz_le_s rfl (gz_le_s rfl (gz_le_n (gz_le_n gz_le_0)))))))) (oX8_fewestOf_59 hk21 _ _ _ _ _ _ _ h)
set_option maxHeartbeats 4000000 in
set_option maxRecDepth 100000 in
theorem oX8_fewestOf_21 {E : gz_E} {Q : Int32 → gz_S → Prop} : ∀ (n : Nat) (x1 : Int32) (x2 : Int32) (x3 : Int32) (x4 : Int32) (x5 : Int32) (S : gz_S), wX8_fewestOf_21 Q n x1 x2 x3 x4 x5 S → gz_k E mX8_fewestOf (5, 0, 0, 73) 0 0 21 [some (.ref 45), some (.int x1), some (.int x2), some (.int x3), some (.int x4), some (.int x5), none, none] [] gz_F S (gz_qi Q) := by
  intro n
  induction n with
  | zero =>
    intro x1 x2 x3 x4 x5 S h
    exact h.elim
  | succ n ih =>
    intro x1 x2 x3 x4 x5 S h
    unfold wX8_fewestOf_21 at h
    refine gk_iload dX8_fewestOf_21 rfl ?_
    refine gk_iconst (v := 1) dX8_fewestOf_23 rfl ?_
    refine gk_aload_n dX8_fewestOf_24 rfl ?_
    refine gk_geti dX8_fewestOf_25 rfl rfl wfX8_137 ?_
    refine gk_ishl dX8_fewestOf_28 ?_
    refine gk_icmp_ge (tgt := 140) dX8_fewestOf_29 (by decide) (fun c29 => ?_) (fun c29 => ?_)
    · replace h := h.1 c29
      refine gk_iload dX8_fewestOf_140 rfl ?_
      refine gk_iconst (v := (-1)) dX8_fewestOf_142 rfl ?_
      refine gk_icmp_eq (tgt := 151) dX8_fewestOf_143 (by decide) (fun c143 => ?_) (fun c143 => ?_)
      · replace h := h.1 c143
        exact gk_less (gz_le_n (gz_le_n (gz_le_n (gz_le_n (gz_le_s rfl (gz_le_n (gz_le_n (gz_le_n gz_le_0)))))))) (oX8_fewestOf_151 _ _ h)
      · replace h := h.2 c143
        refine gk_iload_n dX8_fewestOf_146 rfl ?_
        refine gk_iconst (v := 1) dX8_fewestOf_147 rfl ?_
        refine gk_icmp_ne (tgt := 156) dX8_fewestOf_148 (by decide) (fun c148 => ?_) (fun c148 => ?_)
        · replace h := h.1 c148
          refine gk_iload dX8_fewestOf_156 rfl ?_
          refine gk_callS (as := [_]) (rest := []) (ctX8_ones h) dX8_fewestOf_158 wvX8_250 wcX8_ones rfl (Nat.le_of_ble_eq_true rfl) ⟨Nat.le_refl _, Nat.le_refl _⟩ (fun h9 => absurd rfl h9) (Nat.le_of_ble_eq_true rfl) rfl (fun v G2 S158 hq => ?_)
          obtain ⟨rfl, r158, rfl, h⟩ := hq
          exact gk_iret dX8_fewestOf_161 rfl rfl rfl rfl ⟨rfl, _, rfl, h⟩
        · replace h := h.2 c148
          exact gk_less (gz_le_n (gz_le_n (gz_le_n (gz_le_n (gz_le_s rfl (gz_le_n (gz_le_n (gz_le_n gz_le_0)))))))) (oX8_fewestOf_151 _ _ h)
    · replace h := h.2 c29
      refine gk_iload dX8_fewestOf_32 rfl ?_
      refine gk_iload_n dX8_fewestOf_34 rfl ?_
      refine gk_iconst (v := (-1)) dX8_fewestOf_35 rfl ?_
      refine gk_ixor dX8_fewestOf_36 ?_
      refine gk_iand dX8_fewestOf_37 ?_
      refine gk_if_ne (tgt := 58) dX8_fewestOf_38 (by decide) (fun c38 => ?_) (fun c38 => ?_)
      · replace h := h.1 c38
        exact gk_less (gz_le_s rfl (gz_le_s rfl (gz_le_s rfl (gz_le_s rfl (gz_le_s rfl (gz_le_s rfl (gz_le_n (gz_le_n gz_le_0)))))))) (oX8_fewestOf_58 (fun y0 y1 y2 y3 y4 S h => ih y0 y1 y2 y3 y4 S h) _ _ _ _ _ _ h)
      · replace h := h.2 c38
        refine gk_iload_n dX8_fewestOf_41 rfl ?_
        refine gk_iconst (v := 5) dX8_fewestOf_42 rfl ?_
        refine gk_aload_n dX8_fewestOf_43 rfl ?_
        refine gk_iload dX8_fewestOf_44 rfl ?_
        refine gk_callV (as := [_]) (rest := [_, _]) (ctX8_weightOf h) dX8_fewestOf_46 rfl rfl wvX8_247 wcX8_weightOf rfl (Nat.le_of_ble_eq_true rfl) ⟨Nat.le_refl _, Nat.le_refl _⟩ (fun h9 => absurd rfl h9) (Nat.le_of_ble_eq_true rfl) rfl (fun v G2 S46 hq => ?_)
        obtain ⟨rfl, r46, rfl, h⟩ := hq
        refine gk_imul dX8_fewestOf_49 ?_
        refine gk_iadd dX8_fewestOf_50 ?_
        refine gk_if_le (tgt := 58) dX8_fewestOf_51 (by decide) (fun c51 => ?_) (fun c51 => ?_)
        · replace h := h.1 c51
          exact gk_less (gz_le_s rfl (gz_le_s rfl (gz_le_s rfl (gz_le_s rfl (gz_le_s rfl (gz_le_s rfl (gz_le_n (gz_le_n gz_le_0)))))))) (oX8_fewestOf_58 (fun y0 y1 y2 y3 y4 S h => ih y0 y1 y2 y3 y4 S h) _ _ _ _ _ _ h)
        · replace h := h.2 c51
          refine gk_iconst (v := 1) dX8_fewestOf_54 rfl ?_
          refine gk_goto (tgt := 59) dX8_fewestOf_55 (by decide) ?_
          exact gk_less (gz_le_s rfl (gz_le_s rfl (gz_le_s rfl (gz_le_s rfl (gz_le_s rfl (gz_le_s rfl (gz_le_n (gz_le_n gz_le_0)))))))) (oX8_fewestOf_59 (fun y0 y1 y2 y3 y4 S h => ih y0 y1 y2 y3 y4 S h) _ _ _ _ _ _ _ h)
set_option maxHeartbeats 4000000 in
set_option maxRecDepth 100000 in
theorem ctX8_fewestOf {E : gz_E} {x1 : Int32} {S : gz_S} {Q : Int32 → gz_S → Prop} (h : wX8_fewestOf x1 S Q) : gz_m E mX8_fewestOf 5 0 0 [.ref 45, .int x1] gz_F S (gz_qi Q) := by
  refine gz_meet0 (L0 := [some (.ref 45), some (.int x1), none, none, none, none, none, none]) (by decide) rfl (Nat.le_of_ble_eq_true rfl) (by decide) ?_
  unfold wX8_fewestOf at h
  refine gk_aload_n dX8_fewestOf_0 rfl ?_
  refine gk_aload_n dX8_fewestOf_1 rfl ?_
  refine gk_callV (as := []) (rest := [_]) (ctX8_end h) dX8_fewestOf_2 rfl rfl wvX8_220 wcX8_end rfl (Nat.le_of_ble_eq_true rfl) ⟨Nat.le_refl _, Nat.le_refl _⟩ (fun h9 => absurd rfl h9) (Nat.le_of_ble_eq_true rfl) rfl (fun v G2 S2 hq => ?_)
  obtain ⟨rfl, r2, rfl, h⟩ := hq
  refine gk_callV (as := [_]) (rest := []) (ctX8_tipOf h) dX8_fewestOf_5 rfl rfl wvX8_214 wcX8_tipOf rfl (Nat.le_of_ble_eq_true rfl) ⟨Nat.le_refl _, Nat.le_refl _⟩ (fun h9 => absurd rfl h9) (Nat.le_of_ble_eq_true rfl) rfl (fun v G2 S5 hq => ?_)
  obtain ⟨rfl, r5, rfl, h⟩ := hq
  refine gk_istore_n dX8_fewestOf_8 (Nat.le_of_ble_eq_true rfl) rfl rfl ?_
  refine gk_aload_n dX8_fewestOf_9 rfl ?_
  refine gk_iconst (v := 0) dX8_fewestOf_10 rfl ?_
  refine gk_callV (as := [_]) (rest := []) (ctX8_freeOf h) dX8_fewestOf_11 rfl rfl wvX8_244 wcX8_freeOf rfl (Nat.le_of_ble_eq_true rfl) ⟨Nat.le_refl _, Nat.le_refl _⟩ (fun h9 => absurd rfl h9) (Nat.le_of_ble_eq_true rfl) rfl (fun v G2 S11 hq => ?_)
  obtain ⟨rfl, r11, rfl, h⟩ := hq
  refine gk_istore_n dX8_fewestOf_14 (Nat.le_of_ble_eq_true rfl) rfl rfl ?_
  refine gk_iconst (v := (-1)) dX8_fewestOf_15 rfl ?_
  refine gk_istore dX8_fewestOf_16 (Nat.le_of_ble_eq_true rfl) rfl rfl ?_
  refine gk_iconst (v := 0) dX8_fewestOf_18 rfl ?_
  refine gk_istore dX8_fewestOf_19 (Nat.le_of_ble_eq_true rfl) rfl rfl ?_
  obtain ⟨m21, h⟩ := h
  exact gk_less (gz_le_s rfl (gz_le_s rfl (gz_le_s rfl (gz_le_s rfl (gz_le_s rfl (gz_le_s rfl (gz_le_n (gz_le_n gz_le_0)))))))) (oX8_fewestOf_21 m21 _ _ _ _ _ _ h)
set_option maxHeartbeats 4000000 in
set_option maxRecDepth 100000 in
theorem ctX8_fewest {E : gz_E} {x1 : Int32} {S : gz_S} {Q : Int32 → gz_S → Prop} (h : wX8_fewest x1 S Q) : gz_m E mX8_fewest 6 0 0 [.ref 45, .int x1] gz_F S (gz_qi Q) := by
  refine gz_meet0 (L0 := [some (.ref 45), some (.int x1)]) (by decide) rfl (Nat.le_of_ble_eq_true rfl) (by decide) ?_
  unfold wX8_fewest at h
  refine gk_aload_n dX8_fewest_0 rfl ?_
  refine gk_callV (as := []) (rest := []) (ctX8_reads h) dX8_fewest_1 rfl rfl wvX8_147 wcX8_reads rfl (Nat.le_of_ble_eq_true rfl) ⟨Nat.le_refl _, Nat.le_refl _⟩ (fun h9 => absurd rfl h9) (Nat.le_of_ble_eq_true rfl) rfl (fun v G2 S1 hq => ?_)
  obtain ⟨rfl, rfl, h⟩ := hq
  refine gk_iload_n dX8_fewest_4 rfl ?_
  refine gk_callS (as := [_]) (rest := []) (ctX8_isTwo h) dX8_fewest_5 wvX8_121 wcX8_isTwo rfl (Nat.le_of_ble_eq_true rfl) ⟨Nat.le_refl _, Nat.le_refl _⟩ (fun h9 => absurd rfl h9) (Nat.le_of_ble_eq_true rfl) rfl (fun v G2 S5 hq => ?_)
  obtain ⟨rfl, r5, rfl, h⟩ := hq
  refine gk_if_eq (tgt := 19) dX8_fewest_8 (by decide) (fun c8 => ?_) (fun c8 => ?_)
  · replace h := h.1 c8
    refine gk_bipush (v := (-2)) dX8_fewest_19 rfl ?_
    exact gk_iret dX8_fewest_21 rfl rfl rfl rfl ⟨rfl, _, rfl, h⟩
  · replace h := h.2 c8
    refine gk_aload_n dX8_fewest_11 rfl ?_
    refine gk_iload_n dX8_fewest_12 rfl ?_
    refine gk_callV (as := [_]) (rest := []) (ctX8_fewestOf h) dX8_fewest_13 rfl rfl wvX8_253 wcX8_fewestOf rfl (Nat.le_of_ble_eq_true rfl) ⟨Nat.le_refl _, Nat.le_refl _⟩ (fun h9 => absurd rfl h9) (Nat.le_of_ble_eq_true rfl) rfl (fun v G2 S13 hq => ?_)
    obtain ⟨rfl, r13, rfl, h⟩ := hq
    refine gk_goto (tgt := 21) dX8_fewest_16 (by decide) ?_
    exact gk_iret dX8_fewest_21 rfl rfl rfl rfl ⟨rfl, _, rfl, h⟩
set_option maxHeartbeats 4000000 in
set_option maxRecDepth 100000 in
theorem oX4_gather_65 {E : gz_E} {k7 : Int32 → Int32 → Int32 → gz_S → Prop} {Q : gz_S → Prop} (hk7 : ∀ (x1 : Int32) (x2 : Int32) (x3 : Int32) (S : gz_S), k7 x1 x2 x3 S → gz_k E mX4_gather (2, 0, 0, 73) 0 0 7 [some (.ref 30), some (.int x1), some (.int x2), some (.int x3)] [] gz_F S (gz_qv Q)) : ∀ (x1 : Int32) (x2 : Int32) (x3 : Int32) (S : gz_S), wX4_gather_65 k7 Q x1 x2 x3 S → gz_k E mX4_gather (2, 0, 0, 73) 0 0 65 [some (.ref 30), some (.int x1), some (.int x2), some (.int x3)] [] gz_F S (gz_qv Q) := by
  intro x1 x2 x3 S h
  unfold wX4_gather_65 at h
  refine gk_iinc dX4_gather_65 rfl (Nat.le_of_ble_eq_true rfl) rfl rfl rfl ?_
  refine gk_goto (tgt := 7) dX4_gather_68 (by decide) ?_
  exact gk_less (gz_le_s rfl (gz_le_s rfl (gz_le_s rfl (gz_le_s rfl gz_le_0)))) (hk7 _ _ _ _ h)
set_option maxHeartbeats 4000000 in
set_option maxRecDepth 100000 in
theorem oX4_gather_7 {E : gz_E} {Q : gz_S → Prop} : ∀ (n : Nat) (x1 : Int32) (x2 : Int32) (x3 : Int32) (S : gz_S), wX4_gather_7 Q n x1 x2 x3 S → gz_k E mX4_gather (2, 0, 0, 73) 0 0 7 [some (.ref 30), some (.int x1), some (.int x2), some (.int x3)] [] gz_F S (gz_qv Q) := by
  intro n
  induction n with
  | zero =>
    intro x1 x2 x3 S h
    exact h.elim
  | succ n ih =>
    intro x1 x2 x3 S h
    unfold wX4_gather_7 at h
    refine gk_iload_n dX4_gather_7 rfl ?_
    refine gk_aload_n dX4_gather_8 rfl ?_
    refine gk_getr dX4_gather_9 rfl rfl wfX4_22 ?_
    refine gk_getr dX4_gather_12 rfl rfl wfX4_53 ?_
    refine gk_geti dX4_gather_15 rfl rfl wfX4_36 ?_
    refine gk_icmp_ge (tgt := 71) dX4_gather_18 (by decide) (fun c18 => ?_) (fun c18 => ?_)
    · replace h := h.1 c18
      exact gk_vret dX4_gather_71 rfl rfl rfl ⟨rfl, rfl, h⟩
    · replace h := h.2 c18
      refine gk_iload_n dX4_gather_21 rfl ?_
      refine gk_iload_n dX4_gather_22 rfl ?_
      refine gk_icmp_eq (tgt := 65) dX4_gather_23 (by decide) (fun c23 => ?_) (fun c23 => ?_)
      · replace h := h.1 c23
        exact gk_less (gz_le_s rfl (gz_le_s rfl (gz_le_s rfl (gz_le_s rfl gz_le_0)))) (oX4_gather_65 (fun y0 y1 y2 S h => ih y0 y1 y2 S h) _ _ _ _ h)
      · replace h := h.2 c23
        refine gk_aload_n dX4_gather_26 rfl ?_
        refine gk_getr dX4_gather_27 rfl rfl wfX4_22 ?_
        refine gk_iload_n dX4_gather_30 rfl ?_
        refine gk_callV (as := [_]) (rest := []) (ctX3_sideOf h) dX4_gather_31 rfl rfl wvX4_56 wcX3_sideOf rfl (Nat.le_of_ble_eq_true rfl) ⟨Nat.le_refl _, Nat.le_refl _⟩ (fun h9 => absurd rfl h9) (Nat.le_of_ble_eq_true rfl) rfl (fun v G2 S31 hq => ?_)
        obtain ⟨rfl, r31, rfl, h⟩ := hq
        refine gk_iload_n dX4_gather_34 rfl ?_
        refine gk_icmp_ne (tgt := 65) dX4_gather_35 (by decide) (fun c35 => ?_) (fun c35 => ?_)
        · replace h := h.1 c35
          exact gk_less (gz_le_s rfl (gz_le_s rfl (gz_le_s rfl (gz_le_s rfl gz_le_0)))) (oX4_gather_65 (fun y0 y1 y2 S h => ih y0 y1 y2 S h) _ _ _ _ h)
        · replace h := h.2 c35
          refine gk_aload_n dX4_gather_38 rfl ?_
          refine gk_getr dX4_gather_39 rfl rfl wfX4_9 ?_
          refine gk_aload_n dX4_gather_42 rfl ?_
          refine gk_geti dX4_gather_43 rfl rfl wfX4_15 ?_
          refine gk_aload_n dX4_gather_46 rfl ?_
          refine gk_getr dX4_gather_47 rfl rfl wfX4_22 ?_
          refine gk_iload_n dX4_gather_50 rfl ?_
          refine gk_callV (as := [_]) (rest := [_, _]) (ctX3_strength h) dX4_gather_51 rfl rfl wvX4_59 wcX3_strength rfl (Nat.le_of_ble_eq_true rfl) ⟨Nat.le_refl _, Nat.le_refl _⟩ (fun h9 => absurd rfl h9) (Nat.le_of_ble_eq_true rfl) rfl (fun v G2 S51 hq => ?_)
          obtain ⟨rfl, r51, rfl, h⟩ := hq
          refine gk_iastore dX4_gather_54 rfl h.1 ?_
          replace h := h.2
          refine gk_nmS (fun S54 eS54 => ?_)
          replace h := h S54 eS54
          refine gk_aload_n dX4_gather_55 rfl ?_
          refine gk_dup dX4_gather_56 rfl ?_
          refine gk_geti dX4_gather_57 rfl rfl wfX4_15 ?_
          refine gk_iconst (v := 1) dX4_gather_60 rfl ?_
          refine gk_iadd dX4_gather_61 ?_
          refine gk_puti dX4_gather_62 rfl rfl wfX4_15 wpX4_2 rfl rfl ?_
          refine gk_nmS (fun S62 eS62 => ?_)
          replace h := h S62 eS62
          exact gk_less (gz_le_s rfl (gz_le_s rfl (gz_le_s rfl (gz_le_s rfl gz_le_0)))) (oX4_gather_65 (fun y0 y1 y2 S h => ih y0 y1 y2 S h) _ _ _ _ h)
set_option maxHeartbeats 4000000 in
set_option maxRecDepth 100000 in
theorem ctX4_gather {E : gz_E} {x1 : Int32} {x2 : Int32} {S : gz_S} {Q : gz_S → Prop} (h : wX4_gather x1 x2 S Q) : gz_m E mX4_gather 2 0 0 [.ref 30, .int x1, .int x2] gz_F S (gz_qv Q) := by
  refine gz_meet0 (L0 := [some (.ref 30), some (.int x1), some (.int x2), none]) (by decide) rfl (Nat.le_of_ble_eq_true rfl) (by decide) ?_
  unfold wX4_gather at h
  refine gk_aload_n dX4_gather_0 rfl ?_
  refine gk_iconst (v := 0) dX4_gather_1 rfl ?_
  refine gk_puti dX4_gather_2 rfl rfl wfX4_15 wpX4_2 rfl rfl ?_
  refine gk_nmS (fun S2 eS2 => ?_)
  replace h := h S2 eS2
  refine gk_iconst (v := 0) dX4_gather_5 rfl ?_
  refine gk_istore_n dX4_gather_6 (Nat.le_of_ble_eq_true rfl) rfl rfl ?_
  obtain ⟨m7, h⟩ := h
  exact gk_less (gz_le_s rfl (gz_le_s rfl (gz_le_s rfl (gz_le_s rfl gz_le_0)))) (oX4_gather_7 m7 _ _ _ _ h)
set_option maxHeartbeats 4000000 in
set_option maxRecDepth 100000 in
theorem oX4_after_101 {E : gz_E} {k40 : Int32 → Int32 → Int32 → Int32 → Int32 → gz_S → Prop} {Q : Int32 → gz_S → Prop} (hk40 : ∀ (x1 : Int32) (x3 : Int32) (x4 : Int32) (x5 : Int32) (x6 : Int32) (S : gz_S), k40 x1 x3 x4 x5 x6 S → gz_k E mX4_after (2, 0, 0, 73) 0 0 40 [some (.ref 30), some (.int x1), none, some (.int x3), some (.int x4), some (.int x5), some (.int x6), none] [] gz_F S (gz_qi Q)) : ∀ (x1 : Int32) (x3 : Int32) (x4 : Int32) (x5 : Int32) (x6 : Int32) (S : gz_S), wX4_after_101 k40 Q x1 x3 x4 x5 x6 S → gz_k E mX4_after (2, 0, 0, 73) 0 0 101 [some (.ref 30), some (.int x1), none, some (.int x3), some (.int x4), some (.int x5), some (.int x6), none] [] gz_F S (gz_qi Q) := by
  intro x1 x3 x4 x5 x6 S h
  unfold wX4_after_101 at h
  refine gk_iinc dX4_after_101 rfl (Nat.le_of_ble_eq_true rfl) rfl rfl rfl ?_
  refine gk_goto (tgt := 40) dX4_after_104 (by decide) ?_
  exact gk_less (gz_le_s rfl (gz_le_s rfl (gz_le_n (gz_le_s rfl (gz_le_s rfl (gz_le_s rfl (gz_le_s rfl (gz_le_n gz_le_0)))))))) (hk40 _ _ _ _ _ _ h)
set_option maxHeartbeats 4000000 in
set_option maxRecDepth 100000 in
theorem oX4_after_64 {E : gz_E} {k40 : Int32 → Int32 → Int32 → Int32 → Int32 → gz_S → Prop} {Q : Int32 → gz_S → Prop} (hk40 : ∀ (x1 : Int32) (x3 : Int32) (x4 : Int32) (x5 : Int32) (x6 : Int32) (S : gz_S), k40 x1 x3 x4 x5 x6 S → gz_k E mX4_after (2, 0, 0, 73) 0 0 40 [some (.ref 30), some (.int x1), none, some (.int x3), some (.int x4), some (.int x5), some (.int x6), none] [] gz_F S (gz_qi Q)) : ∀ (x1 : Int32) (x3 : Int32) (x4 : Int32) (x5 : Int32) (x6 : Int32) (t0 : Int32) (S : gz_S), wX4_after_64 k40 Q x1 x3 x4 x5 x6 t0 S → gz_k E mX4_after (2, 0, 0, 73) 0 0 64 [some (.ref 30), some (.int x1), none, some (.int x3), some (.int x4), some (.int x5), some (.int x6), none] [.int t0] gz_F S (gz_qi Q) := by
  intro x1 x3 x4 x5 x6 t0 S h
  unfold wX4_after_64 at h
  refine gk_iload dX4_after_64 rfl ?_
  refine gk_iadd dX4_after_66 ?_
  refine gk_nmi (fun v7_67 ev7_67 => ?_)
  replace h := h v7_67 ev7_67
  refine gk_istore dX4_after_67 (Nat.le_of_ble_eq_true rfl) rfl rfl ?_
  refine gk_iload_n dX4_after_69 rfl ?_
  refine gk_aload_n dX4_after_70 rfl ?_
  refine gk_getr dX4_after_71 rfl rfl wfX4_9 ?_
  refine gk_iload dX4_after_74 rfl ?_
  refine gk_iaload dX4_after_76 rfl h.1 ?_
  replace h := h.2
  refine gk_icmp_gt (tgt := 101) dX4_after_77 (by decide) (fun c77 => ?_) (fun c77 => ?_)
  · replace h := h.1 c77
    exact gk_less (gz_le_s rfl (gz_le_s rfl (gz_le_n (gz_le_s rfl (gz_le_s rfl (gz_le_s rfl (gz_le_s rfl (gz_le_n gz_le_0)))))))) (oX4_after_101 hk40 _ _ _ _ _ _ h)
  · replace h := h.2 c77
    refine gk_iload dX4_after_80 rfl ?_
    refine gk_aload_n dX4_after_82 rfl ?_
    refine gk_getr dX4_after_83 rfl rfl wfX4_22 ?_
    refine gk_geti dX4_after_86 rfl rfl wfX4_74 ?_
    refine gk_icmp_gt (tgt := 101) dX4_after_89 (by decide) (fun c89 => ?_) (fun c89 => ?_)
    · replace h := h.1 c89
      exact gk_less (gz_le_s rfl (gz_le_s rfl (gz_le_n (gz_le_s rfl (gz_le_s rfl (gz_le_s rfl (gz_le_s rfl (gz_le_n gz_le_0)))))))) (oX4_after_101 hk40 _ _ _ _ _ _ h)
    · replace h := h.2 c89
      refine gk_iload dX4_after_92 rfl ?_
      refine gk_bipush (v := 32) dX4_after_94 rfl ?_
      refine gk_imul dX4_after_96 ?_
      refine gk_iload dX4_after_97 rfl ?_
      refine gk_iadd dX4_after_99 ?_
      exact gk_iret dX4_after_100 rfl rfl rfl rfl ⟨rfl, _, rfl, h⟩
set_option maxHeartbeats 4000000 in
set_option maxRecDepth 100000 in
theorem oX4_after_40 {E : gz_E} {Q : Int32 → gz_S → Prop} : ∀ (n : Nat) (x1 : Int32) (x3 : Int32) (x4 : Int32) (x5 : Int32) (x6 : Int32) (S : gz_S), wX4_after_40 Q n x1 x3 x4 x5 x6 S → gz_k E mX4_after (2, 0, 0, 73) 0 0 40 [some (.ref 30), some (.int x1), none, some (.int x3), some (.int x4), some (.int x5), some (.int x6), none] [] gz_F S (gz_qi Q) := by
  intro n
  induction n with
  | zero =>
    intro x1 x3 x4 x5 x6 S h
    exact h.elim
  | succ n ih =>
    intro x1 x3 x4 x5 x6 S h
    unfold wX4_after_40 at h
    refine gk_iload dX4_after_40 rfl ?_
    refine gk_aload_n dX4_after_42 rfl ?_
    refine gk_geti dX4_after_43 rfl rfl wfX4_15 ?_
    refine gk_icmp_ge (tgt := 107) dX4_after_46 (by decide) (fun c46 => ?_) (fun c46 => ?_)
    · replace h := h.1 c46
      refine gk_ldc dX4_after_107 wkX4_43 ?_
      exact gk_iret dX4_after_109 rfl rfl rfl rfl ⟨rfl, _, rfl, h⟩
    · replace h := h.2 c46
      refine gk_iload dX4_after_49 rfl ?_
      refine gk_iload dX4_after_51 rfl ?_
      refine gk_icmp_ne (tgt := 63) dX4_after_53 (by decide) (fun c53 => ?_) (fun c53 => ?_)
      · replace h := h.1 c53
        refine gk_iconst (v := 0) dX4_after_63 rfl ?_
        exact gk_less (gz_le_s rfl (gz_le_s rfl (gz_le_n (gz_le_s rfl (gz_le_s rfl (gz_le_s rfl (gz_le_s rfl (gz_le_n gz_le_0)))))))) (oX4_after_64 (fun y0 y1 y2 y3 y4 S h => ih y0 y1 y2 y3 y4 S h) _ _ _ _ _ _ _ h)
      · replace h := h.2 c53
        refine gk_iload_n dX4_after_56 rfl ?_
        refine gk_bipush (v := 32) dX4_after_57 rfl ?_
        refine gk_irem dX4_after_59 (by decide) ?_
        refine gk_goto (tgt := 64) dX4_after_60 (by decide) ?_
        exact gk_less (gz_le_s rfl (gz_le_s rfl (gz_le_n (gz_le_s rfl (gz_le_s rfl (gz_le_s rfl (gz_le_s rfl (gz_le_n gz_le_0)))))))) (oX4_after_64 (fun y0 y1 y2 y3 y4 S h => ih y0 y1 y2 y3 y4 S h) _ _ _ _ _ _ _ h)
set_option maxHeartbeats 4000000 in
set_option maxRecDepth 100000 in
theorem ctX4_after {E : gz_E} {x1 : Int32} {x2 : Int32} {S : gz_S} {Q : Int32 → gz_S → Prop} (h : wX4_after x1 x2 S Q) : gz_m E mX4_after 2 0 0 [.ref 30, .int x1, .int x2] gz_F S (gz_qi Q) := by
  refine gz_meet0 (L0 := [some (.ref 30), some (.int x1), some (.int x2), none, none, none, none, none]) (by decide) rfl (Nat.le_of_ble_eq_true rfl) (by decide) ?_
  unfold wX4_after at h
  refine gk_iload_n dX4_after_0 rfl ?_
  refine gk_ldc dX4_after_1 wkX4_43 ?_
  refine gk_icmp_lt (tgt := 9) dX4_after_3 (by decide) (fun c3 => ?_) (fun c3 => ?_)
  · replace h := h.1 c3
    refine gk_aload_n dX4_after_9 rfl ?_
    refine gk_getr dX4_after_10 rfl rfl wfX4_22 ?_
    refine gk_iload_n dX4_after_13 rfl ?_
    refine gk_callV (as := [_]) (rest := []) (ctX3_weight h) dX4_after_14 rfl rfl wvX4_68 wcX3_weight rfl (Nat.le_of_ble_eq_true rfl) ⟨Nat.le_refl _, Nat.le_refl _⟩ (fun h9 => absurd rfl h9) (Nat.le_of_ble_eq_true rfl) rfl (fun v G2 S14 hq => ?_)
    obtain ⟨rfl, r14, rfl, h⟩ := hq
    refine gk_istore_n dX4_after_17 (Nat.le_of_ble_eq_true rfl) rfl rfl ?_
    refine gk_aload_n dX4_after_18 rfl ?_
    refine gk_getr dX4_after_19 rfl rfl wfX4_22 ?_
    refine gk_iload_n dX4_after_22 rfl ?_
    refine gk_callV (as := [_]) (rest := []) (ctX3_way h) dX4_after_23 rfl rfl wvX4_71 wcX3_way rfl (Nat.le_of_ble_eq_true rfl) ⟨Nat.le_refl _, Nat.le_refl _⟩ (fun h9 => absurd rfl h9) (Nat.le_of_ble_eq_true rfl) rfl (fun v G2 S23 hq => ?_)
    obtain ⟨rfl, r23, rfl, h⟩ := hq
    refine gk_iconst (v := 1) dX4_after_26 rfl ?_
    refine gk_iadd dX4_after_27 ?_
    refine gk_nmi (fun v4_28 ev4_28 => ?_)
    replace h := h v4_28 ev4_28
    refine gk_istore dX4_after_28 (Nat.le_of_ble_eq_true rfl) rfl rfl ?_
    refine gk_iload_n dX4_after_30 rfl ?_
    refine gk_bipush (v := 32) dX4_after_31 rfl ?_
    refine gk_idiv dX4_after_33 (by decide) ?_
    refine gk_nmi (fun v5_34 ev5_34 => ?_)
    replace h := h v5_34 ev5_34
    refine gk_istore dX4_after_34 (Nat.le_of_ble_eq_true rfl) rfl rfl ?_
    refine gk_iload dX4_after_36 rfl ?_
    refine gk_istore dX4_after_38 (Nat.le_of_ble_eq_true rfl) rfl rfl ?_
    obtain ⟨m40, h⟩ := h
    exact gk_less (gz_le_s rfl (gz_le_s rfl (gz_le_n (gz_le_s rfl (gz_le_s rfl (gz_le_s rfl (gz_le_s rfl (gz_le_n gz_le_0)))))))) (oX4_after_40 m40 _ _ _ _ _ _ h)
  · replace h := h.2 c3
    refine gk_ldc dX4_after_6 wkX4_43 ?_
    exact gk_iret dX4_after_8 rfl rfl rfl rfl ⟨rfl, _, rfl, h⟩
set_option maxHeartbeats 4000000 in
set_option maxRecDepth 100000 in
theorem oX4_leastFor_49 {E : gz_E} {k5 : Int32 → Int32 → Int32 → gz_S → Prop} {Q : Int32 → gz_S → Prop} (hk5 : ∀ (x1 : Int32) (x2 : Int32) (x3 : Int32) (S : gz_S), k5 x1 x2 x3 S → gz_k E mX4_leastFor (3, 0, 0, 73) 0 0 5 [some (.ref 30), some (.int x1), some (.int x2), some (.int x3)] [] gz_F S (gz_qi Q)) : ∀ (x1 : Int32) (x2 : Int32) (x3 : Int32) (S : gz_S), wX4_leastFor_49 k5 Q x1 x2 x3 S → gz_k E mX4_leastFor (3, 0, 0, 73) 0 0 49 [some (.ref 30), some (.int x1), some (.int x2), some (.int x3)] [] gz_F S (gz_qi Q) := by
  intro x1 x2 x3 S h
  unfold wX4_leastFor_49 at h
  refine gk_iinc dX4_leastFor_49 rfl (Nat.le_of_ble_eq_true rfl) rfl rfl rfl ?_
  refine gk_goto (tgt := 5) dX4_leastFor_52 (by decide) ?_
  exact gk_less (gz_le_s rfl (gz_le_s rfl (gz_le_s rfl (gz_le_s rfl gz_le_0)))) (hk5 _ _ _ _ h)
set_option maxHeartbeats 4000000 in
set_option maxRecDepth 100000 in
theorem oX4_leastFor_5 {E : gz_E} {Q : Int32 → gz_S → Prop} : ∀ (n : Nat) (x1 : Int32) (x2 : Int32) (x3 : Int32) (S : gz_S), wX4_leastFor_5 Q n x1 x2 x3 S → gz_k E mX4_leastFor (3, 0, 0, 73) 0 0 5 [some (.ref 30), some (.int x1), some (.int x2), some (.int x3)] [] gz_F S (gz_qi Q) := by
  intro n
  induction n with
  | zero =>
    intro x1 x2 x3 S h
    exact h.elim
  | succ n ih =>
    intro x1 x2 x3 S h
    unfold wX4_leastFor_5 at h
    refine gk_iload_n dX4_leastFor_5 rfl ?_
    refine gk_aload_n dX4_leastFor_6 rfl ?_
    refine gk_getr dX4_leastFor_7 rfl rfl wfX4_22 ?_
    refine gk_getr dX4_leastFor_10 rfl rfl wfX4_30 ?_
    refine gk_geti dX4_leastFor_13 rfl rfl wfX4_36 ?_
    refine gk_icmp_ge (tgt := 55) dX4_leastFor_16 (by decide) (fun c16 => ?_) (fun c16 => ?_)
    · replace h := h.1 c16
      refine gk_iload_n dX4_leastFor_55 rfl ?_
      exact gk_iret dX4_leastFor_56 rfl rfl rfl rfl ⟨rfl, _, rfl, h⟩
    · replace h := h.2 c16
      refine gk_iload_n dX4_leastFor_19 rfl ?_
      refine gk_iload_n dX4_leastFor_20 rfl ?_
      refine gk_ishr dX4_leastFor_21 ?_
      refine gk_iconst (v := 1) dX4_leastFor_22 rfl ?_
      refine gk_iand dX4_leastFor_23 ?_
      refine gk_if_eq (tgt := 49) dX4_leastFor_24 (by decide) (fun c24 => ?_) (fun c24 => ?_)
      · replace h := h.1 c24
        exact gk_less (gz_le_s rfl (gz_le_s rfl (gz_le_s rfl (gz_le_s rfl gz_le_0)))) (oX4_leastFor_49 (fun y0 y1 y2 S h => ih y0 y1 y2 S h) _ _ _ _ h)
      · replace h := h.2 c24
        refine gk_iload_n dX4_leastFor_27 rfl ?_
        refine gk_aload_n dX4_leastFor_28 rfl ?_
        refine gk_aload_n dX4_leastFor_29 rfl ?_
        refine gk_getr dX4_leastFor_30 rfl rfl wfX4_19 ?_
        refine gk_iload_n dX4_leastFor_33 rfl ?_
        refine gk_iconst (v := 1) dX4_leastFor_34 rfl ?_
        refine gk_iload_n dX4_leastFor_35 rfl ?_
        refine gk_ishl dX4_leastFor_36 ?_
        refine gk_iconst (v := (-1)) dX4_leastFor_37 rfl ?_
        refine gk_ixor dX4_leastFor_38 ?_
        refine gk_iand dX4_leastFor_39 ?_
        refine gk_iaload dX4_leastFor_40 rfl h.1 ?_
        replace h := h.2
        refine gk_iload_n dX4_leastFor_41 rfl ?_
        refine gk_callV (as := [_, _]) (rest := [_]) (ctX4_after h) dX4_leastFor_42 rfl rfl wvX4_62 wcX4_after rfl (Nat.le_of_ble_eq_true rfl) ⟨Nat.le_refl _, Nat.le_refl _⟩ (fun h9 => absurd rfl h9) (Nat.le_of_ble_eq_true rfl) rfl (fun v G2 S42 hq => ?_)
        obtain ⟨rfl, r42, rfl, h⟩ := hq
        refine gk_min em_min dX4_leastFor_45 wvX4_65 wcJ9_min_7cf53 (Nat.le_of_ble_eq_true rfl) (Nat.le_refl _) (Nat.le_refl _) (Nat.le_of_ble_eq_true rfl) ?_
        refine gk_nmi (fun v2_48 ev2_48 => ?_)
        replace h := h v2_48 ev2_48
        refine gk_istore_n dX4_leastFor_48 (Nat.le_of_ble_eq_true rfl) rfl rfl ?_
        exact gk_less (gz_le_s rfl (gz_le_s rfl (gz_le_s rfl (gz_le_s rfl gz_le_0)))) (oX4_leastFor_49 (fun y0 y1 y2 S h => ih y0 y1 y2 S h) _ _ _ _ h)
set_option maxHeartbeats 4000000 in
set_option maxRecDepth 100000 in
theorem ctX4_leastFor {E : gz_E} {x1 : Int32} {S : gz_S} {Q : Int32 → gz_S → Prop} (h : wX4_leastFor x1 S Q) : gz_m E mX4_leastFor 3 0 0 [.ref 30, .int x1] gz_F S (gz_qi Q) := by
  refine gz_meet0 (L0 := [some (.ref 30), some (.int x1), none, none]) (by decide) rfl (Nat.le_of_ble_eq_true rfl) (by decide) ?_
  unfold wX4_leastFor at h
  refine gk_ldc dX4_leastFor_0 wkX4_43 ?_
  refine gk_istore_n dX4_leastFor_2 (Nat.le_of_ble_eq_true rfl) rfl rfl ?_
  refine gk_iconst (v := 0) dX4_leastFor_3 rfl ?_
  refine gk_istore_n dX4_leastFor_4 (Nat.le_of_ble_eq_true rfl) rfl rfl ?_
  obtain ⟨m5, h⟩ := h
  exact gk_less (gz_le_s rfl (gz_le_s rfl (gz_le_s rfl (gz_le_s rfl gz_le_0)))) (oX4_leastFor_5 m5 _ _ _ _ h)
set_option maxHeartbeats 4000000 in
set_option maxRecDepth 100000 in
theorem oX4_mostWeight_74 {E : gz_E} {k18 : Int32 → Int32 → gz_S → Prop} {Q : Int32 → gz_S → Prop} (hk18 : ∀ (x3 : Int32) (x4 : Int32) (S : gz_S), k18 x3 x4 S → gz_k E mX4_mostWeight (4, 0, 0, 73) 0 0 18 [some (.ref 30), none, none, some (.int x3), some (.int x4)] [] gz_F S (gz_qi Q)) : ∀ (x3 : Int32) (x4 : Int32) (S : gz_S), wX4_mostWeight_74 k18 Q x3 x4 S → gz_k E mX4_mostWeight (4, 0, 0, 73) 0 0 74 [some (.ref 30), none, none, some (.int x3), some (.int x4)] [] gz_F S (gz_qi Q) := by
  intro x3 x4 S h
  unfold wX4_mostWeight_74 at h
  refine gk_iinc dX4_mostWeight_74 rfl (Nat.le_of_ble_eq_true rfl) rfl rfl rfl ?_
  refine gk_goto (tgt := 18) dX4_mostWeight_77 (by decide) ?_
  exact gk_less (gz_le_s rfl (gz_le_n (gz_le_n (gz_le_s rfl (gz_le_s rfl gz_le_0))))) (hk18 _ _ _ h)
set_option maxHeartbeats 4000000 in
set_option maxRecDepth 100000 in
theorem oX4_mostWeight_18 {E : gz_E} {Q : Int32 → gz_S → Prop} : ∀ (n : Nat) (x3 : Int32) (x4 : Int32) (S : gz_S), wX4_mostWeight_18 Q n x3 x4 S → gz_k E mX4_mostWeight (4, 0, 0, 73) 0 0 18 [some (.ref 30), none, none, some (.int x3), some (.int x4)] [] gz_F S (gz_qi Q) := by
  intro n
  induction n with
  | zero =>
    intro x3 x4 S h
    exact h.elim
  | succ n ih =>
    intro x3 x4 S h
    unfold wX4_mostWeight_18 at h
    refine gk_iload dX4_mostWeight_18 rfl ?_
    refine gk_iconst (v := 1) dX4_mostWeight_20 rfl ?_
    refine gk_aload_n dX4_mostWeight_21 rfl ?_
    refine gk_getr dX4_mostWeight_22 rfl rfl wfX4_22 ?_
    refine gk_getr dX4_mostWeight_25 rfl rfl wfX4_30 ?_
    refine gk_geti dX4_mostWeight_28 rfl rfl wfX4_36 ?_
    refine gk_ishl dX4_mostWeight_31 ?_
    refine gk_icmp_ge (tgt := 80) dX4_mostWeight_32 (by decide) (fun c32 => ?_) (fun c32 => ?_)
    · replace h := h.1 c32
      refine gk_iload_n dX4_mostWeight_80 rfl ?_
      exact gk_iret dX4_mostWeight_81 rfl rfl rfl rfl ⟨rfl, _, rfl, h⟩
    · replace h := h.2 c32
      refine gk_aload_n dX4_mostWeight_35 rfl ?_
      refine gk_getr dX4_mostWeight_36 rfl rfl wfX4_19 ?_
      refine gk_iload dX4_mostWeight_39 rfl ?_
      refine gk_aload_n dX4_mostWeight_41 rfl ?_
      refine gk_iload dX4_mostWeight_42 rfl ?_
      refine gk_callV (as := [_]) (rest := [_, _]) (ctX4_leastFor h) dX4_mostWeight_44 rfl rfl wvX4_39 wcX4_leastFor rfl (Nat.le_of_ble_eq_true rfl) ⟨Nat.le_refl _, Nat.le_refl _⟩ (fun h9 => absurd rfl h9) (Nat.le_of_ble_eq_true rfl) rfl (fun v G2 S44 hq => ?_)
      obtain ⟨rfl, r44, rfl, h⟩ := hq
      refine gk_iastore dX4_mostWeight_47 rfl h.1 ?_
      replace h := h.2
      refine gk_nmS (fun S47 eS47 => ?_)
      replace h := h S47 eS47
      refine gk_aload_n dX4_mostWeight_48 rfl ?_
      refine gk_getr dX4_mostWeight_49 rfl rfl wfX4_19 ?_
      refine gk_iload dX4_mostWeight_52 rfl ?_
      refine gk_iaload dX4_mostWeight_54 rfl h.1 ?_
      replace h := h.2
      refine gk_ldc dX4_mostWeight_55 wkX4_43 ?_
      refine gk_icmp_ge (tgt := 74) dX4_mostWeight_57 (by decide) (fun c57 => ?_) (fun c57 => ?_)
      · replace h := h.1 c57
        exact gk_less (gz_le_s rfl (gz_le_n (gz_le_n (gz_le_s rfl (gz_le_s rfl gz_le_0))))) (oX4_mostWeight_74 (fun y0 y1 S h => ih y0 y1 S h) _ _ _ h)
      · replace h := h.2 c57
        refine gk_iload_n dX4_mostWeight_60 rfl ?_
        refine gk_aload_n dX4_mostWeight_61 rfl ?_
        refine gk_getr dX4_mostWeight_62 rfl rfl wfX4_22 ?_
        refine gk_iload dX4_mostWeight_65 rfl ?_
        refine gk_callV (as := [_]) (rest := [_]) (ctX3_weightOf h) dX4_mostWeight_67 rfl rfl wvX4_44 wcX3_weightOf rfl (Nat.le_of_ble_eq_true rfl) ⟨Nat.le_refl _, Nat.le_refl _⟩ (fun h9 => absurd rfl h9) (Nat.le_of_ble_eq_true rfl) rfl (fun v G2 S67 hq => ?_)
        obtain ⟨rfl, r67, rfl, h⟩ := hq
        refine gk_max em_max dX4_mostWeight_70 wvX4_47 wcJ9_max_7cf53 (Nat.le_of_ble_eq_true rfl) (Nat.le_refl _) (Nat.le_refl _) (Nat.le_of_ble_eq_true rfl) ?_
        refine gk_nmi (fun v3_73 ev3_73 => ?_)
        replace h := h v3_73 ev3_73
        refine gk_istore_n dX4_mostWeight_73 (Nat.le_of_ble_eq_true rfl) rfl rfl ?_
        exact gk_less (gz_le_s rfl (gz_le_n (gz_le_n (gz_le_s rfl (gz_le_s rfl gz_le_0))))) (oX4_mostWeight_74 (fun y0 y1 S h => ih y0 y1 S h) _ _ _ h)
set_option maxHeartbeats 4000000 in
set_option maxRecDepth 100000 in
theorem ctX4_mostWeight {E : gz_E} {x1 : Int32} {x2 : Int32} {S : gz_S} {Q : Int32 → gz_S → Prop} (h : wX4_mostWeight x1 x2 S Q) : gz_m E mX4_mostWeight 4 0 0 [.ref 30, .int x1, .int x2] gz_F S (gz_qi Q) := by
  refine gz_meet0 (L0 := [some (.ref 30), some (.int x1), some (.int x2), none, none]) (by decide) rfl (Nat.le_of_ble_eq_true rfl) (by decide) ?_
  unfold wX4_mostWeight at h
  refine gk_aload_n dX4_mostWeight_0 rfl ?_
  refine gk_iload_n dX4_mostWeight_1 rfl ?_
  refine gk_iload_n dX4_mostWeight_2 rfl ?_
  refine gk_callV (as := [_, _]) (rest := []) (ctX4_gather h) dX4_mostWeight_3 rfl rfl wvX4_26 wcX4_gather rfl (Nat.le_of_ble_eq_true rfl) ⟨Nat.le_refl _, Nat.le_refl _⟩ (fun h9 => absurd rfl h9) (Nat.le_of_ble_eq_true rfl) rfl (fun v G2 S3 hq => ?_)
  obtain ⟨rfl, rfl, h⟩ := hq
  refine gk_iconst (v := 0) dX4_mostWeight_6 rfl ?_
  refine gk_istore_n dX4_mostWeight_7 (Nat.le_of_ble_eq_true rfl) rfl rfl ?_
  refine gk_aload_n dX4_mostWeight_8 rfl ?_
  refine gk_getr dX4_mostWeight_9 rfl rfl wfX4_19 ?_
  refine gk_iconst (v := 0) dX4_mostWeight_12 rfl ?_
  refine gk_iconst (v := 0) dX4_mostWeight_13 rfl ?_
  refine gk_iastore dX4_mostWeight_14 rfl h.1 ?_
  replace h := h.2
  refine gk_nmS (fun S14 eS14 => ?_)
  replace h := h S14 eS14
  refine gk_iconst (v := 1) dX4_mostWeight_15 rfl ?_
  refine gk_istore dX4_mostWeight_16 (Nat.le_of_ble_eq_true rfl) rfl rfl ?_
  obtain ⟨m18, h⟩ := h
  exact gk_less (gz_le_s rfl (gz_le_n (gz_le_n (gz_le_s rfl (gz_le_s rfl gz_le_0))))) (oX4_mostWeight_18 m18 _ _ _ h)
set_option maxHeartbeats 4000000 in
set_option maxRecDepth 100000 in
theorem ctX7_most {E : gz_E} {x1 : Int32} {S : gz_S} {Q : Int32 → gz_S → Prop} (h : wX7_most x1 S Q) : gz_m E mX7_most 5 0 0 [.ref 0, .int x1] gz_F S (gz_qi Q) := by
  refine gz_meet0 (L0 := [some (.ref 0), some (.int x1)]) (by decide) rfl (Nat.le_of_ble_eq_true rfl) (by decide) ?_
  unfold wX7_most at h
  refine gk_iload_n dX7_most_0 rfl ?_
  refine gk_iconst (v := 0) dX7_most_1 rfl ?_
  refine gk_iconst (v := 1) dX7_most_2 rfl ?_
  refine gk_callS (as := [_, _, _]) (rest := []) (ctX7_within h) dX7_most_3 wvX7_62 wcX7_within rfl (Nat.le_of_ble_eq_true rfl) ⟨Nat.le_refl _, Nat.le_refl _⟩ (fun h9 => absurd rfl h9) (Nat.le_of_ble_eq_true rfl) rfl (fun v G2 S3 hq => ?_)
  obtain ⟨rfl, r3, rfl, h⟩ := hq
  refine gk_if_eq (tgt := 21) dX7_most_6 (by decide) (fun c6 => ?_) (fun c6 => ?_)
  · replace h := h.1 c6
    refine gk_bipush (v := (-2)) dX7_most_21 rfl ?_
    exact gk_iret dX7_most_23 rfl rfl rfl rfl ⟨rfl, _, rfl, h⟩
  · replace h := h.2 c6
    refine gk_aload_n dX7_most_9 rfl ?_
    refine gk_getr dX7_most_10 rfl rfl wfX7_40 ?_
    refine gk_iload_n dX7_most_13 rfl ?_
    refine gk_iconst (v := (-1)) dX7_most_14 rfl ?_
    refine gk_callV (as := [_, _]) (rest := []) (ctX4_mostWeight h) dX7_most_15 rfl rfl wvX7_189 wcX4_mostWeight rfl (Nat.le_of_ble_eq_true rfl) ⟨Nat.le_refl _, Nat.le_refl _⟩ (fun h9 => absurd rfl h9) (Nat.le_of_ble_eq_true rfl) rfl (fun v G2 S15 hq => ?_)
    obtain ⟨rfl, r15, rfl, h⟩ := hq
    refine gk_goto (tgt := 23) dX7_most_18 (by decide) ?_
    exact gk_iret dX7_most_23 rfl rfl rfl rfl ⟨rfl, _, rfl, h⟩
set_option maxHeartbeats 4000000 in
set_option maxRecDepth 100000 in
theorem oX8_carriesAll_77 {E : gz_E} {k8 : Int32 → Int32 → Int32 → Int32 → Int32 → gz_S → Prop} {Q : Int32 → gz_S → Prop} (hk8 : ∀ (x1 : Int32) (x2 : Int32) (x3 : Int32) (x4 : Int32) (x5 : Int32) (S : gz_S), k8 x1 x2 x3 x4 x5 S → gz_k E mX8_carriesAll (2, 0, 0, 73) 0 0 8 [some (.ref 45), some (.int x1), some (.int x2), some (.int x3), some (.int x4), some (.int x5)] [] gz_F S (gz_qi Q)) : ∀ (x1 : Int32) (x2 : Int32) (x3 : Int32) (x5 : Int32) (t0 : Int32) (S : gz_S), wX8_carriesAll_77 k8 Q x1 x2 x3 x5 t0 S → gz_k E mX8_carriesAll (2, 0, 0, 73) 0 0 77 [some (.ref 45), some (.int x1), some (.int x2), some (.int x3), none, some (.int x5)] [.int t0] gz_F S (gz_qi Q) := by
  intro x1 x2 x3 x5 t0 S h
  unfold wX8_carriesAll_77 at h
  refine gk_istore dX8_carriesAll_77 (Nat.le_of_ble_eq_true rfl) rfl rfl ?_
  refine gk_iinc dX8_carriesAll_79 rfl (Nat.le_of_ble_eq_true rfl) rfl rfl rfl ?_
  refine gk_goto (tgt := 8) dX8_carriesAll_82 (by decide) ?_
  exact gk_less (gz_le_s rfl (gz_le_s rfl (gz_le_s rfl (gz_le_s rfl (gz_le_s rfl (gz_le_s rfl gz_le_0)))))) (hk8 _ _ _ _ _ _ h)
set_option maxHeartbeats 4000000 in
set_option maxRecDepth 100000 in
theorem oX8_carriesAll_72 {E : gz_E} {k8 : Int32 → Int32 → Int32 → Int32 → Int32 → gz_S → Prop} {Q : Int32 → gz_S → Prop} (hk8 : ∀ (x1 : Int32) (x2 : Int32) (x3 : Int32) (x4 : Int32) (x5 : Int32) (S : gz_S), k8 x1 x2 x3 x4 x5 S → gz_k E mX8_carriesAll (2, 0, 0, 73) 0 0 8 [some (.ref 45), some (.int x1), some (.int x2), some (.int x3), some (.int x4), some (.int x5)] [] gz_F S (gz_qi Q)) : ∀ (x1 : Int32) (x2 : Int32) (x3 : Int32) (x5 : Int32) (S : gz_S), wX8_carriesAll_72 k8 Q x1 x2 x3 x5 S → gz_k E mX8_carriesAll (2, 0, 0, 73) 0 0 72 [some (.ref 45), some (.int x1), some (.int x2), some (.int x3), none, some (.int x5)] [] gz_F S (gz_qi Q) := by
  intro x1 x2 x3 x5 S h
  unfold wX8_carriesAll_72 at h
  refine gk_iconst (v := 1) dX8_carriesAll_72 rfl ?_
  refine gk_goto (tgt := 77) dX8_carriesAll_73 (by decide) ?_
  exact gk_less (gz_le_s rfl (gz_le_s rfl (gz_le_s rfl (gz_le_s rfl (gz_le_n (gz_le_s rfl gz_le_0)))))) (oX8_carriesAll_77 hk8 _ _ _ _ _ _ h)
set_option maxHeartbeats 4000000 in
set_option maxRecDepth 100000 in
theorem oX8_carriesAll_76 {E : gz_E} {k8 : Int32 → Int32 → Int32 → Int32 → Int32 → gz_S → Prop} {Q : Int32 → gz_S → Prop} (hk8 : ∀ (x1 : Int32) (x2 : Int32) (x3 : Int32) (x4 : Int32) (x5 : Int32) (S : gz_S), k8 x1 x2 x3 x4 x5 S → gz_k E mX8_carriesAll (2, 0, 0, 73) 0 0 8 [some (.ref 45), some (.int x1), some (.int x2), some (.int x3), some (.int x4), some (.int x5)] [] gz_F S (gz_qi Q)) : ∀ (x1 : Int32) (x2 : Int32) (x3 : Int32) (x5 : Int32) (S : gz_S), wX8_carriesAll_76 k8 Q x1 x2 x3 x5 S → gz_k E mX8_carriesAll (2, 0, 0, 73) 0 0 76 [some (.ref 45), some (.int x1), some (.int x2), some (.int x3), none, some (.int x5)] [] gz_F S (gz_qi Q) := by
  intro x1 x2 x3 x5 S h
  unfold wX8_carriesAll_76 at h
  refine gk_iconst (v := 0) dX8_carriesAll_76 rfl ?_
  exact gk_less (gz_le_s rfl (gz_le_s rfl (gz_le_s rfl (gz_le_s rfl (gz_le_n (gz_le_s rfl gz_le_0)))))) (oX8_carriesAll_77 hk8 _ _ _ _ _ _ h)
set_option maxHeartbeats 4000000 in
set_option maxRecDepth 100000 in
theorem oX8_carriesAll_40 {E : gz_E} {k8 : Int32 → Int32 → Int32 → Int32 → Int32 → gz_S → Prop} {Q : Int32 → gz_S → Prop} (hk8 : ∀ (x1 : Int32) (x2 : Int32) (x3 : Int32) (x4 : Int32) (x5 : Int32) (S : gz_S), k8 x1 x2 x3 x4 x5 S → gz_k E mX8_carriesAll (2, 0, 0, 73) 0 0 8 [some (.ref 45), some (.int x1), some (.int x2), some (.int x3), some (.int x4), some (.int x5)] [] gz_F S (gz_qi Q)) : ∀ (x1 : Int32) (x2 : Int32) (x4 : Int32) (x5 : Int32) (t0 : Int32) (t1 : Int32) (S : gz_S), wX8_carriesAll_40 k8 Q x1 x2 x4 x5 t0 t1 S → gz_k E mX8_carriesAll (2, 0, 0, 73) 0 0 40 [some (.ref 45), some (.int x1), some (.int x2), none, some (.int x4), some (.int x5)] [.int t1, .int t0] gz_F S (gz_qi Q) := by
  intro x1 x2 x4 x5 t0 t1 S h
  unfold wX8_carriesAll_40 at h
  refine gk_iadd dX8_carriesAll_40 ?_
  refine gk_nmi (fun v3_41 ev3_41 => ?_)
  replace h := h v3_41 ev3_41
  refine gk_istore_n dX8_carriesAll_41 (Nat.le_of_ble_eq_true rfl) rfl rfl ?_
  refine gk_iload dX8_carriesAll_42 rfl ?_
  refine gk_if_eq (tgt := 76) dX8_carriesAll_44 (by decide) (fun c44 => ?_) (fun c44 => ?_)
  · replace h := h.1 c44
    exact gk_less (gz_le_s rfl (gz_le_s rfl (gz_le_s rfl (gz_le_s rfl (gz_le_n (gz_le_s rfl gz_le_0)))))) (oX8_carriesAll_76 hk8 _ _ _ _ _ h)
  · replace h := h.2 c44
    refine gk_iload_n dX8_carriesAll_47 rfl ?_
    refine gk_iload dX8_carriesAll_48 rfl ?_
    refine gk_callS (as := [_, _]) (rest := []) (ctX8_isIn h) dX8_carriesAll_50 wvX8_226 wcX8_isIn rfl (Nat.le_of_ble_eq_true rfl) ⟨Nat.le_refl _, Nat.le_refl _⟩ (fun h9 => absurd rfl h9) (Nat.le_of_ble_eq_true rfl) rfl (fun v G2 S50 hq => ?_)
    obtain ⟨rfl, r50, rfl, h⟩ := hq
    refine gk_if_eq (tgt := 72) dX8_carriesAll_53 (by decide) (fun c53 => ?_) (fun c53 => ?_)
    · replace h := h.1 c53
      exact gk_less (gz_le_s rfl (gz_le_s rfl (gz_le_s rfl (gz_le_s rfl (gz_le_n (gz_le_s rfl gz_le_0)))))) (oX8_carriesAll_72 hk8 _ _ _ _ _ h)
    · replace h := h.2 c53
      refine gk_aload_n dX8_carriesAll_56 rfl ?_
      refine gk_getr dX8_carriesAll_57 rfl rfl wfX8_34 ?_
      refine gk_iload dX8_carriesAll_60 rfl ?_
      refine gk_iaload dX8_carriesAll_62 rfl h.1 ?_
      replace h := h.2
      refine gk_aload_n dX8_carriesAll_63 rfl ?_
      refine gk_getr dX8_carriesAll_64 rfl rfl wfX8_28 ?_
      refine gk_iload_n dX8_carriesAll_67 rfl ?_
      refine gk_iaload dX8_carriesAll_68 rfl h.1 ?_
      replace h := h.2
      refine gk_icmp_gt (tgt := 76) dX8_carriesAll_69 (by decide) (fun c69 => ?_) (fun c69 => ?_)
      · replace h := h.1 c69
        exact gk_less (gz_le_s rfl (gz_le_s rfl (gz_le_s rfl (gz_le_s rfl (gz_le_n (gz_le_s rfl gz_le_0)))))) (oX8_carriesAll_76 hk8 _ _ _ _ _ h)
      · replace h := h.2 c69
        exact gk_less (gz_le_s rfl (gz_le_s rfl (gz_le_s rfl (gz_le_s rfl (gz_le_n (gz_le_s rfl gz_le_0)))))) (oX8_carriesAll_72 hk8 _ _ _ _ _ h)
set_option maxHeartbeats 4000000 in
set_option maxRecDepth 100000 in
theorem oX8_carriesAll_8 {E : gz_E} {Q : Int32 → gz_S → Prop} : ∀ (n : Nat) (x1 : Int32) (x2 : Int32) (x3 : Int32) (x4 : Int32) (x5 : Int32) (S : gz_S), wX8_carriesAll_8 Q n x1 x2 x3 x4 x5 S → gz_k E mX8_carriesAll (2, 0, 0, 73) 0 0 8 [some (.ref 45), some (.int x1), some (.int x2), some (.int x3), some (.int x4), some (.int x5)] [] gz_F S (gz_qi Q) := by
  intro n
  induction n with
  | zero =>
    intro x1 x2 x3 x4 x5 S h
    exact h.elim
  | succ n ih =>
    intro x1 x2 x3 x4 x5 S h
    unfold wX8_carriesAll_8 at h
    refine gk_iload dX8_carriesAll_8 rfl ?_
    refine gk_aload_n dX8_carriesAll_10 rfl ?_
    refine gk_geti dX8_carriesAll_11 rfl rfl wfX8_137 ?_
    refine gk_icmp_ge (tgt := 85) dX8_carriesAll_14 (by decide) (fun c14 => ?_) (fun c14 => ?_)
    · replace h := h.1 c14
      refine gk_iload dX8_carriesAll_85 rfl ?_
      refine gk_if_eq (tgt := 104) dX8_carriesAll_87 (by decide) (fun c87 => ?_) (fun c87 => ?_)
      · replace h := h.1 c87
        refine gk_iconst (v := 0) dX8_carriesAll_104 rfl ?_
        exact gk_iret dX8_carriesAll_105 rfl rfl rfl rfl ⟨rfl, _, rfl, h⟩
      · replace h := h.2 c87
        refine gk_iload_n dX8_carriesAll_90 rfl ?_
        refine gk_aload_n dX8_carriesAll_91 rfl ?_
        refine gk_getr dX8_carriesAll_92 rfl rfl wfX8_40 ?_
        refine gk_iconst (v := 0) dX8_carriesAll_95 rfl ?_
        refine gk_iaload dX8_carriesAll_96 rfl h.1 ?_
        replace h := h.2
        refine gk_icmp_gt (tgt := 104) dX8_carriesAll_97 (by decide) (fun c97 => ?_) (fun c97 => ?_)
        · replace h := h.1 c97
          refine gk_iconst (v := 0) dX8_carriesAll_104 rfl ?_
          exact gk_iret dX8_carriesAll_105 rfl rfl rfl rfl ⟨rfl, _, rfl, h⟩
        · replace h := h.2 c97
          refine gk_iconst (v := 1) dX8_carriesAll_100 rfl ?_
          refine gk_goto (tgt := 105) dX8_carriesAll_101 (by decide) ?_
          exact gk_iret dX8_carriesAll_105 rfl rfl rfl rfl ⟨rfl, _, rfl, h⟩
    · replace h := h.2 c14
      refine gk_iload_n dX8_carriesAll_17 rfl ?_
      refine gk_iload_n dX8_carriesAll_18 rfl ?_
      refine gk_iload dX8_carriesAll_19 rfl ?_
      refine gk_callS (as := [_, _]) (rest := [_]) (ctX8_isIn h) dX8_carriesAll_21 wvX8_226 wcX8_isIn rfl (Nat.le_of_ble_eq_true rfl) ⟨Nat.le_refl _, Nat.le_refl _⟩ (fun h9 => absurd rfl h9) (Nat.le_of_ble_eq_true rfl) rfl (fun v G2 S21 hq => ?_)
      obtain ⟨rfl, r21, rfl, h⟩ := hq
      refine gk_if_eq (tgt := 39) dX8_carriesAll_24 (by decide) (fun c24 => ?_) (fun c24 => ?_)
      · replace h := h.1 c24
        refine gk_iconst (v := 0) dX8_carriesAll_39 rfl ?_
        exact gk_less (gz_le_s rfl (gz_le_s rfl (gz_le_s rfl (gz_le_n (gz_le_s rfl (gz_le_s rfl gz_le_0)))))) (oX8_carriesAll_40 (fun y0 y1 y2 y3 y4 S h => ih y0 y1 y2 y3 y4 S h) _ _ _ _ _ _ _ h)
      · replace h := h.2 c24
        refine gk_aload_n dX8_carriesAll_27 rfl ?_
        refine gk_getr dX8_carriesAll_28 rfl rfl wfX8_37 ?_
        refine gk_iload dX8_carriesAll_31 rfl ?_
        refine gk_iaload dX8_carriesAll_33 rfl h.1 ?_
        replace h := h.2
        refine gk_iconst (v := 1) dX8_carriesAll_34 rfl ?_
        refine gk_iadd dX8_carriesAll_35 ?_
        refine gk_goto (tgt := 40) dX8_carriesAll_36 (by decide) ?_
        exact gk_less (gz_le_s rfl (gz_le_s rfl (gz_le_s rfl (gz_le_n (gz_le_s rfl (gz_le_s rfl gz_le_0)))))) (oX8_carriesAll_40 (fun y0 y1 y2 y3 y4 S h => ih y0 y1 y2 y3 y4 S h) _ _ _ _ _ _ _ h)
set_option maxHeartbeats 4000000 in
set_option maxRecDepth 100000 in
theorem ctX8_carriesAll {E : gz_E} {x1 : Int32} {x2 : Int32} {S : gz_S} {Q : Int32 → gz_S → Prop} (h : wX8_carriesAll x1 x2 S Q) : gz_m E mX8_carriesAll 2 0 0 [.ref 45, .int x1, .int x2] gz_F S (gz_qi Q) := by
  refine gz_meet0 (L0 := [some (.ref 45), some (.int x1), some (.int x2), none, none, none]) (by decide) rfl (Nat.le_of_ble_eq_true rfl) (by decide) ?_
  unfold wX8_carriesAll at h
  refine gk_iconst (v := 0) dX8_carriesAll_0 rfl ?_
  refine gk_istore_n dX8_carriesAll_1 (Nat.le_of_ble_eq_true rfl) rfl rfl ?_
  refine gk_iconst (v := 1) dX8_carriesAll_2 rfl ?_
  refine gk_istore dX8_carriesAll_3 (Nat.le_of_ble_eq_true rfl) rfl rfl ?_
  refine gk_iconst (v := 0) dX8_carriesAll_5 rfl ?_
  refine gk_istore dX8_carriesAll_6 (Nat.le_of_ble_eq_true rfl) rfl rfl ?_
  obtain ⟨m8, h⟩ := h
  exact gk_less (gz_le_s rfl (gz_le_s rfl (gz_le_s rfl (gz_le_s rfl (gz_le_s rfl (gz_le_s rfl gz_le_0)))))) (oX8_carriesAll_8 m8 _ _ _ _ _ _ h)
set_option maxHeartbeats 4000000 in
set_option maxRecDepth 100000 in
theorem oX8_mostOf_23 {E : gz_E} {k2 : Int32 → Int32 → Int32 → gz_S → Prop} {Q : Int32 → gz_S → Prop} (hk2 : ∀ (x1 : Int32) (x2 : Int32) (x3 : Int32) (S : gz_S), k2 x1 x2 x3 S → gz_k E mX8_mostOf (3, 0, 0, 73) 0 0 2 [some (.ref 45), some (.int x1), some (.int x2), some (.int x3), none, none, none] [] gz_F S (gz_qi Q)) : ∀ (x1 : Int32) (x2 : Int32) (x3 : Int32) (t1 : Int32) (t2 : Int32) (S : gz_S), wX8_mostOf_23 k2 Q x1 x2 x3 t1 t2 S → gz_k E mX8_mostOf (3, 0, 0, 73) 0 0 23 [some (.ref 45), some (.int x1), some (.int x2), some (.int x3), none, none, none] [.int t2, .int t1, .ref 65] gz_F S (gz_qi Q) := by
  intro x1 x2 x3 t1 t2 S h
  unfold wX8_mostOf_23 at h
  refine gk_bastore dX8_mostOf_23 rfl h.1 (gz_b01_nar h.2.1) ?_
  replace h := h.2.2
  refine gk_nmS (fun S23 eS23 => ?_)
  replace h := h S23 eS23
  refine gk_iinc dX8_mostOf_24 rfl (Nat.le_of_ble_eq_true rfl) rfl rfl rfl ?_
  refine gk_goto (tgt := 2) dX8_mostOf_27 (by decide) ?_
  exact gk_less (gz_le_s rfl (gz_le_s rfl (gz_le_s rfl (gz_le_s rfl (gz_le_n (gz_le_n (gz_le_n gz_le_0))))))) (hk2 _ _ _ _ h)
set_option maxHeartbeats 4000000 in
set_option maxRecDepth 100000 in
theorem oX8_mostOf_194 {E : gz_E} {k32 : Int32 → Int32 → Int32 → gz_S → Prop} {Q : Int32 → gz_S → Prop} (hk32 : ∀ (x1 : Int32) (x2 : Int32) (x3 : Int32) (S : gz_S), k32 x1 x2 x3 S → gz_k E mX8_mostOf (3, 0, 0, 73) 0 0 32 [some (.ref 45), some (.int x1), some (.int x2), some (.int x3), none, none, none] [] gz_F S (gz_qi Q)) : ∀ (x1 : Int32) (x2 : Int32) (x3 : Int32) (S : gz_S), wX8_mostOf_194 k32 Q x1 x2 x3 S → gz_k E mX8_mostOf (3, 0, 0, 73) 0 0 194 [some (.ref 45), some (.int x1), some (.int x2), some (.int x3), none, none, none] [] gz_F S (gz_qi Q) := by
  intro x1 x2 x3 S h
  unfold wX8_mostOf_194 at h
  refine gk_iinc dX8_mostOf_194 rfl (Nat.le_of_ble_eq_true rfl) rfl rfl rfl ?_
  refine gk_goto (tgt := 32) dX8_mostOf_197 (by decide) ?_
  exact gk_less (gz_le_s rfl (gz_le_s rfl (gz_le_s rfl (gz_le_s rfl (gz_le_n (gz_le_n (gz_le_n gz_le_0))))))) (hk32 _ _ _ _ h)
set_option maxHeartbeats 4000000 in
set_option maxRecDepth 100000 in
theorem oX8_mostOf_246 {E : gz_E} {k205 : Int32 → Int32 → gz_S → Prop} {Q : Int32 → gz_S → Prop} (hk205 : ∀ (x3 : Int32) (x4 : Int32) (S : gz_S), k205 x3 x4 S → gz_k E mX8_mostOf (3, 0, 0, 73) 0 0 205 [some (.ref 45), none, none, some (.int x3), some (.int x4), none, none] [] gz_F S (gz_qi Q)) : ∀ (x4 : Int32) (t0 : Int32) (S : gz_S), wX8_mostOf_246 k205 Q x4 t0 S → gz_k E mX8_mostOf (3, 0, 0, 73) 0 0 246 [some (.ref 45), none, none, none, some (.int x4), none, none] [.int t0] gz_F S (gz_qi Q) := by
  intro x4 t0 S h
  unfold wX8_mostOf_246 at h
  refine gk_istore_n dX8_mostOf_246 (Nat.le_of_ble_eq_true rfl) rfl rfl ?_
  refine gk_iinc dX8_mostOf_247 rfl (Nat.le_of_ble_eq_true rfl) rfl rfl rfl ?_
  refine gk_goto (tgt := 205) dX8_mostOf_250 (by decide) ?_
  exact gk_less (gz_le_s rfl (gz_le_n (gz_le_n (gz_le_s rfl (gz_le_s rfl (gz_le_n (gz_le_n gz_le_0))))))) (hk205 _ _ _ h)
set_option maxHeartbeats 4000000 in
set_option maxRecDepth 100000 in
theorem oX8_mostOf_245 {E : gz_E} {k205 : Int32 → Int32 → gz_S → Prop} {Q : Int32 → gz_S → Prop} (hk205 : ∀ (x3 : Int32) (x4 : Int32) (S : gz_S), k205 x3 x4 S → gz_k E mX8_mostOf (3, 0, 0, 73) 0 0 205 [some (.ref 45), none, none, some (.int x3), some (.int x4), none, none] [] gz_F S (gz_qi Q)) : ∀ (x3 : Int32) (x4 : Int32) (S : gz_S), wX8_mostOf_245 k205 Q x3 x4 S → gz_k E mX8_mostOf (3, 0, 0, 73) 0 0 245 [some (.ref 45), none, none, some (.int x3), some (.int x4), none, none] [] gz_F S (gz_qi Q) := by
  intro x3 x4 S h
  unfold wX8_mostOf_245 at h
  refine gk_iload_n dX8_mostOf_245 rfl ?_
  exact gk_less (gz_le_s rfl (gz_le_n (gz_le_n (gz_le_n (gz_le_s rfl (gz_le_n (gz_le_n gz_le_0))))))) (oX8_mostOf_246 hk205 _ _ _ h)
set_option maxHeartbeats 4000000 in
set_option maxRecDepth 100000 in
theorem oX8_mostOf_205 {E : gz_E} {Q : Int32 → gz_S → Prop} : ∀ (n : Nat) (x3 : Int32) (x4 : Int32) (S : gz_S), wX8_mostOf_205 Q n x3 x4 S → gz_k E mX8_mostOf (3, 0, 0, 73) 0 0 205 [some (.ref 45), none, none, some (.int x3), some (.int x4), none, none] [] gz_F S (gz_qi Q) := by
  intro n
  induction n with
  | zero =>
    intro x3 x4 S h
    exact h.elim
  | succ n ih =>
    intro x3 x4 S h
    unfold wX8_mostOf_205 at h
    refine gk_iload dX8_mostOf_205 rfl ?_
    refine gk_iconst (v := 1) dX8_mostOf_207 rfl ?_
    refine gk_aload_n dX8_mostOf_208 rfl ?_
    refine gk_geti dX8_mostOf_209 rfl rfl wfX8_137 ?_
    refine gk_ishl dX8_mostOf_212 ?_
    refine gk_icmp_ge (tgt := 253) dX8_mostOf_213 (by decide) (fun c213 => ?_) (fun c213 => ?_)
    · replace h := h.1 c213
      refine gk_iload_n dX8_mostOf_253 rfl ?_
      exact gk_iret dX8_mostOf_254 rfl rfl rfl rfl ⟨rfl, _, rfl, h⟩
    · replace h := h.2 c213
      refine gk_aload_n dX8_mostOf_216 rfl ?_
      refine gk_getr dX8_mostOf_217 rfl rfl wfX8_68 ?_
      refine gk_iload dX8_mostOf_220 rfl ?_
      refine gk_baload dX8_mostOf_222 rfl h.1 ?_
      replace h := h.2
      refine gk_if_eq (tgt := 245) dX8_mostOf_223 (by decide) (fun c223 => ?_) (fun c223 => ?_)
      · replace h := h.1 c223
        exact gk_less (gz_le_s rfl (gz_le_n (gz_le_n (gz_le_s rfl (gz_le_s rfl (gz_le_n (gz_le_n gz_le_0))))))) (oX8_mostOf_245 (fun y0 y1 S h => ih y0 y1 S h) _ _ _ h)
      · replace h := h.2 c223
        refine gk_aload_n dX8_mostOf_226 rfl ?_
        refine gk_iload dX8_mostOf_227 rfl ?_
        refine gk_callV (as := [_]) (rest := []) (ctX8_weightOf h) dX8_mostOf_229 rfl rfl wvX8_247 wcX8_weightOf rfl (Nat.le_of_ble_eq_true rfl) ⟨Nat.le_refl _, Nat.le_refl _⟩ (fun h9 => absurd rfl h9) (Nat.le_of_ble_eq_true rfl) rfl (fun v G2 S229 hq => ?_)
        obtain ⟨rfl, r229, rfl, h⟩ := hq
        refine gk_iload_n dX8_mostOf_232 rfl ?_
        refine gk_icmp_le (tgt := 245) dX8_mostOf_233 (by decide) (fun c233 => ?_) (fun c233 => ?_)
        · replace h := h.1 c233
          exact gk_less (gz_le_s rfl (gz_le_n (gz_le_n (gz_le_s rfl (gz_le_s rfl (gz_le_n (gz_le_n gz_le_0))))))) (oX8_mostOf_245 (fun y0 y1 S h => ih y0 y1 S h) _ _ _ h)
        · replace h := h.2 c233
          refine gk_aload_n dX8_mostOf_236 rfl ?_
          refine gk_iload dX8_mostOf_237 rfl ?_
          refine gk_callV (as := [_]) (rest := []) (ctX8_weightOf h) dX8_mostOf_239 rfl rfl wvX8_247 wcX8_weightOf rfl (Nat.le_of_ble_eq_true rfl) ⟨Nat.le_refl _, Nat.le_refl _⟩ (fun h9 => absurd rfl h9) (Nat.le_of_ble_eq_true rfl) rfl (fun v G2 S239 hq => ?_)
          obtain ⟨rfl, r239, rfl, h⟩ := hq
          refine gk_goto (tgt := 246) dX8_mostOf_242 (by decide) ?_
          exact gk_less (gz_le_s rfl (gz_le_n (gz_le_n (gz_le_n (gz_le_s rfl (gz_le_n (gz_le_n gz_le_0))))))) (oX8_mostOf_246 (fun y0 y1 S h => ih y0 y1 S h) _ _ _ h)
set_option maxHeartbeats 4000000 in
set_option maxRecDepth 100000 in
theorem oX8_mostOf_181 {E : gz_E} {k32 : Int32 → Int32 → Int32 → gz_S → Prop} {k89 : Int32 → Int32 → Int32 → Int32 → gz_S → Prop} {k113 : Int32 → Int32 → Int32 → Int32 → Int32 → gz_S → Prop} {Q : Int32 → gz_S → Prop} (hk32 : ∀ (x1 : Int32) (x2 : Int32) (x3 : Int32) (S : gz_S), k32 x1 x2 x3 S → gz_k E mX8_mostOf (3, 0, 0, 73) 0 0 32 [some (.ref 45), some (.int x1), some (.int x2), some (.int x3), none, none, none] [] gz_F S (gz_qi Q)) (hk89 : ∀ (x1 : Int32) (x2 : Int32) (x3 : Int32) (x4 : Int32) (S : gz_S), k89 x1 x2 x3 x4 S → gz_k E mX8_mostOf (3, 0, 0, 73) 0 0 89 [some (.ref 45), some (.int x1), some (.int x2), some (.int x3), some (.int x4), none, none] [] gz_F S (gz_qi Q)) (hk113 : ∀ (x1 : Int32) (x2 : Int32) (x3 : Int32) (x4 : Int32) (x5 : Int32) (S : gz_S), k113 x1 x2 x3 x4 x5 S → gz_k E mX8_mostOf (3, 0, 0, 73) 0 0 113 [some (.ref 45), some (.int x1), some (.int x2), some (.int x3), some (.int x4), some (.int x5), none] [] gz_F S (gz_qi Q)) : ∀ (x1 : Int32) (x2 : Int32) (x3 : Int32) (x4 : Int32) (x5 : Int32) (t1 : Int32) (t2 : Int32) (S : gz_S), wX8_mostOf_181 k32 k89 k113 Q x1 x2 x3 x4 x5 t1 t2 S → gz_k E mX8_mostOf (3, 0, 0, 73) 0 0 181 [some (.ref 45), some (.int x1), some (.int x2), some (.int x3), some (.int x4), some (.int x5), none] [.int t2, .int t1, .ref 65] gz_F S (gz_qi Q) := by
  intro x1 x2 x3 x4 x5 t1 t2 S h
  unfold wX8_mostOf_181 at h
  refine gk_bastore dX8_mostOf_181 rfl h.1 (gz_b01_nar h.2.1) ?_
  replace h := h.2.2
  refine gk_nmS (fun S181 eS181 => ?_)
  replace h := h S181 eS181
  refine gk_iinc dX8_mostOf_182 rfl (Nat.le_of_ble_eq_true rfl) rfl rfl rfl ?_
  refine gk_goto (tgt := 113) dX8_mostOf_185 (by decide) ?_
  exact gk_less (gz_le_s rfl (gz_le_s rfl (gz_le_s rfl (gz_le_s rfl (gz_le_s rfl (gz_le_s rfl (gz_le_n gz_le_0))))))) (hk113 _ _ _ _ _ _ h)
set_option maxHeartbeats 4000000 in
set_option maxRecDepth 100000 in
theorem oX8_mostOf_176 {E : gz_E} {k32 : Int32 → Int32 → Int32 → gz_S → Prop} {k89 : Int32 → Int32 → Int32 → Int32 → gz_S → Prop} {k113 : Int32 → Int32 → Int32 → Int32 → Int32 → gz_S → Prop} {Q : Int32 → gz_S → Prop} (hk32 : ∀ (x1 : Int32) (x2 : Int32) (x3 : Int32) (S : gz_S), k32 x1 x2 x3 S → gz_k E mX8_mostOf (3, 0, 0, 73) 0 0 32 [some (.ref 45), some (.int x1), some (.int x2), some (.int x3), none, none, none] [] gz_F S (gz_qi Q)) (hk89 : ∀ (x1 : Int32) (x2 : Int32) (x3 : Int32) (x4 : Int32) (S : gz_S), k89 x1 x2 x3 x4 S → gz_k E mX8_mostOf (3, 0, 0, 73) 0 0 89 [some (.ref 45), some (.int x1), some (.int x2), some (.int x3), some (.int x4), none, none] [] gz_F S (gz_qi Q)) (hk113 : ∀ (x1 : Int32) (x2 : Int32) (x3 : Int32) (x4 : Int32) (x5 : Int32) (S : gz_S), k113 x1 x2 x3 x4 x5 S → gz_k E mX8_mostOf (3, 0, 0, 73) 0 0 113 [some (.ref 45), some (.int x1), some (.int x2), some (.int x3), some (.int x4), some (.int x5), none] [] gz_F S (gz_qi Q)) : ∀ (x1 : Int32) (x2 : Int32) (x3 : Int32) (x4 : Int32) (x5 : Int32) (t1 : Int32) (S : gz_S), wX8_mostOf_176 k32 k89 k113 Q x1 x2 x3 x4 x5 t1 S → gz_k E mX8_mostOf (3, 0, 0, 73) 0 0 176 [some (.ref 45), some (.int x1), some (.int x2), some (.int x3), some (.int x4), some (.int x5), none] [.int t1, .ref 65] gz_F S (gz_qi Q) := by
  intro x1 x2 x3 x4 x5 t1 S h
  unfold wX8_mostOf_176 at h
  refine gk_iconst (v := 1) dX8_mostOf_176 rfl ?_
  refine gk_goto (tgt := 181) dX8_mostOf_177 (by decide) ?_
  exact gk_less (gz_le_s rfl (gz_le_s rfl (gz_le_s rfl (gz_le_s rfl (gz_le_s rfl (gz_le_s rfl (gz_le_n gz_le_0))))))) (oX8_mostOf_181 hk32 hk89 hk113 _ _ _ _ _ _ _ _ h)
set_option maxHeartbeats 4000000 in
set_option maxRecDepth 100000 in
theorem oX8_mostOf_147 {E : gz_E} {k32 : Int32 → Int32 → Int32 → gz_S → Prop} {k89 : Int32 → Int32 → Int32 → Int32 → gz_S → Prop} {k113 : Int32 → Int32 → Int32 → Int32 → Int32 → gz_S → Prop} {Q : Int32 → gz_S → Prop} (hk32 : ∀ (x1 : Int32) (x2 : Int32) (x3 : Int32) (S : gz_S), k32 x1 x2 x3 S → gz_k E mX8_mostOf (3, 0, 0, 73) 0 0 32 [some (.ref 45), some (.int x1), some (.int x2), some (.int x3), none, none, none] [] gz_F S (gz_qi Q)) (hk89 : ∀ (x1 : Int32) (x2 : Int32) (x3 : Int32) (x4 : Int32) (S : gz_S), k89 x1 x2 x3 x4 S → gz_k E mX8_mostOf (3, 0, 0, 73) 0 0 89 [some (.ref 45), some (.int x1), some (.int x2), some (.int x3), some (.int x4), none, none] [] gz_F S (gz_qi Q)) (hk113 : ∀ (x1 : Int32) (x2 : Int32) (x3 : Int32) (x4 : Int32) (x5 : Int32) (S : gz_S), k113 x1 x2 x3 x4 x5 S → gz_k E mX8_mostOf (3, 0, 0, 73) 0 0 113 [some (.ref 45), some (.int x1), some (.int x2), some (.int x3), some (.int x4), some (.int x5), none] [] gz_F S (gz_qi Q)) : ∀ (x1 : Int32) (x2 : Int32) (x3 : Int32) (x4 : Int32) (x5 : Int32) (t0 : Int32) (S : gz_S), wX8_mostOf_147 k32 k89 k113 Q x1 x2 x3 x4 x5 t0 S → gz_k E mX8_mostOf (3, 0, 0, 73) 0 0 147 [some (.ref 45), some (.int x1), some (.int x2), some (.int x3), some (.int x4), some (.int x5), none] [.int t0] gz_F S (gz_qi Q) := by
  intro x1 x2 x3 x4 x5 t0 S h
  unfold wX8_mostOf_147 at h
  refine gk_istore dX8_mostOf_147 (Nat.le_of_ble_eq_true rfl) rfl rfl ?_
  refine gk_aload_n dX8_mostOf_149 rfl ?_
  refine gk_getr dX8_mostOf_150 rfl rfl wfX8_68 ?_
  refine gk_iload dX8_mostOf_153 rfl ?_
  refine gk_iload dX8_mostOf_155 rfl ?_
  refine gk_ior dX8_mostOf_157 ?_
  refine gk_aload_n dX8_mostOf_158 rfl ?_
  refine gk_getr dX8_mostOf_159 rfl rfl wfX8_68 ?_
  refine gk_iload dX8_mostOf_162 rfl ?_
  refine gk_iload dX8_mostOf_164 rfl ?_
  refine gk_ior dX8_mostOf_166 ?_
  refine gk_baload dX8_mostOf_167 rfl h.1 ?_
  replace h := h.2
  refine gk_if_ne (tgt := 176) dX8_mostOf_168 (by decide) (fun c168 => ?_) (fun c168 => ?_)
  · replace h := h.1 c168
    exact gk_less (gz_le_s rfl (gz_le_s rfl (gz_le_s rfl (gz_le_s rfl (gz_le_s rfl (gz_le_s rfl (gz_le_n gz_le_0))))))) (oX8_mostOf_176 hk32 hk89 hk113 _ _ _ _ _ _ _ h)
  · replace h := h.2 c168
    refine gk_iload dX8_mostOf_171 rfl ?_
    refine gk_if_eq (tgt := 180) dX8_mostOf_173 (by decide) (fun c173 => ?_) (fun c173 => ?_)
    · replace h := h.1 c173
      refine gk_iconst (v := 0) dX8_mostOf_180 rfl ?_
      exact gk_less (gz_le_s rfl (gz_le_s rfl (gz_le_s rfl (gz_le_s rfl (gz_le_s rfl (gz_le_s rfl (gz_le_n gz_le_0))))))) (oX8_mostOf_181 hk32 hk89 hk113 _ _ _ _ _ _ _ _ h)
    · replace h := h.2 c173
      exact gk_less (gz_le_s rfl (gz_le_s rfl (gz_le_s rfl (gz_le_s rfl (gz_le_s rfl (gz_le_s rfl (gz_le_n gz_le_0))))))) (oX8_mostOf_176 hk32 hk89 hk113 _ _ _ _ _ _ _ h)
set_option maxHeartbeats 4000000 in
set_option maxRecDepth 100000 in
theorem oX8_mostOf_146 {E : gz_E} {k32 : Int32 → Int32 → Int32 → gz_S → Prop} {k89 : Int32 → Int32 → Int32 → Int32 → gz_S → Prop} {k113 : Int32 → Int32 → Int32 → Int32 → Int32 → gz_S → Prop} {Q : Int32 → gz_S → Prop} (hk32 : ∀ (x1 : Int32) (x2 : Int32) (x3 : Int32) (S : gz_S), k32 x1 x2 x3 S → gz_k E mX8_mostOf (3, 0, 0, 73) 0 0 32 [some (.ref 45), some (.int x1), some (.int x2), some (.int x3), none, none, none] [] gz_F S (gz_qi Q)) (hk89 : ∀ (x1 : Int32) (x2 : Int32) (x3 : Int32) (x4 : Int32) (S : gz_S), k89 x1 x2 x3 x4 S → gz_k E mX8_mostOf (3, 0, 0, 73) 0 0 89 [some (.ref 45), some (.int x1), some (.int x2), some (.int x3), some (.int x4), none, none] [] gz_F S (gz_qi Q)) (hk113 : ∀ (x1 : Int32) (x2 : Int32) (x3 : Int32) (x4 : Int32) (x5 : Int32) (S : gz_S), k113 x1 x2 x3 x4 x5 S → gz_k E mX8_mostOf (3, 0, 0, 73) 0 0 113 [some (.ref 45), some (.int x1), some (.int x2), some (.int x3), some (.int x4), some (.int x5), none] [] gz_F S (gz_qi Q)) : ∀ (x1 : Int32) (x2 : Int32) (x3 : Int32) (x4 : Int32) (x5 : Int32) (S : gz_S), wX8_mostOf_146 k32 k89 k113 Q x1 x2 x3 x4 x5 S → gz_k E mX8_mostOf (3, 0, 0, 73) 0 0 146 [some (.ref 45), some (.int x1), some (.int x2), some (.int x3), some (.int x4), some (.int x5), none] [] gz_F S (gz_qi Q) := by
  intro x1 x2 x3 x4 x5 S h
  unfold wX8_mostOf_146 at h
  refine gk_iconst (v := 0) dX8_mostOf_146 rfl ?_
  exact gk_less (gz_le_s rfl (gz_le_s rfl (gz_le_s rfl (gz_le_s rfl (gz_le_s rfl (gz_le_s rfl (gz_le_n gz_le_0))))))) (oX8_mostOf_147 hk32 hk89 hk113 _ _ _ _ _ _ _ h)
set_option maxHeartbeats 4000000 in
set_option maxRecDepth 100000 in
theorem oX8_mostOf_188 {E : gz_E} {k32 : Int32 → Int32 → Int32 → gz_S → Prop} {k89 : Int32 → Int32 → Int32 → Int32 → gz_S → Prop} {Q : Int32 → gz_S → Prop} (hk32 : ∀ (x1 : Int32) (x2 : Int32) (x3 : Int32) (S : gz_S), k32 x1 x2 x3 S → gz_k E mX8_mostOf (3, 0, 0, 73) 0 0 32 [some (.ref 45), some (.int x1), some (.int x2), some (.int x3), none, none, none] [] gz_F S (gz_qi Q)) (hk89 : ∀ (x1 : Int32) (x2 : Int32) (x3 : Int32) (x4 : Int32) (S : gz_S), k89 x1 x2 x3 x4 S → gz_k E mX8_mostOf (3, 0, 0, 73) 0 0 89 [some (.ref 45), some (.int x1), some (.int x2), some (.int x3), some (.int x4), none, none] [] gz_F S (gz_qi Q)) : ∀ (x1 : Int32) (x2 : Int32) (x3 : Int32) (x4 : Int32) (S : gz_S), wX8_mostOf_188 k32 k89 Q x1 x2 x3 x4 S → gz_k E mX8_mostOf (3, 0, 0, 73) 0 0 188 [some (.ref 45), some (.int x1), some (.int x2), some (.int x3), some (.int x4), none, none] [] gz_F S (gz_qi Q) := by
  intro x1 x2 x3 x4 S h
  unfold wX8_mostOf_188 at h
  refine gk_iinc dX8_mostOf_188 rfl (Nat.le_of_ble_eq_true rfl) rfl rfl rfl ?_
  refine gk_goto (tgt := 89) dX8_mostOf_191 (by decide) ?_
  exact gk_less (gz_le_s rfl (gz_le_s rfl (gz_le_s rfl (gz_le_s rfl (gz_le_s rfl (gz_le_n (gz_le_n gz_le_0))))))) (hk89 _ _ _ _ _ h)
set_option maxHeartbeats 4000000 in
set_option maxRecDepth 100000 in
theorem oX8_mostOf_113 {E : gz_E} {k32 : Int32 → Int32 → Int32 → gz_S → Prop} {k89 : Int32 → Int32 → Int32 → Int32 → gz_S → Prop} {Q : Int32 → gz_S → Prop} (hk32 : ∀ (x1 : Int32) (x2 : Int32) (x3 : Int32) (S : gz_S), k32 x1 x2 x3 S → gz_k E mX8_mostOf (3, 0, 0, 73) 0 0 32 [some (.ref 45), some (.int x1), some (.int x2), some (.int x3), none, none, none] [] gz_F S (gz_qi Q)) (hk89 : ∀ (x1 : Int32) (x2 : Int32) (x3 : Int32) (x4 : Int32) (S : gz_S), k89 x1 x2 x3 x4 S → gz_k E mX8_mostOf (3, 0, 0, 73) 0 0 89 [some (.ref 45), some (.int x1), some (.int x2), some (.int x3), some (.int x4), none, none] [] gz_F S (gz_qi Q)) : ∀ (n : Nat) (x1 : Int32) (x2 : Int32) (x3 : Int32) (x4 : Int32) (x5 : Int32) (S : gz_S), wX8_mostOf_113 k32 k89 Q n x1 x2 x3 x4 x5 S → gz_k E mX8_mostOf (3, 0, 0, 73) 0 0 113 [some (.ref 45), some (.int x1), some (.int x2), some (.int x3), some (.int x4), some (.int x5), none] [] gz_F S (gz_qi Q) := by
  intro n
  induction n with
  | zero =>
    intro x1 x2 x3 x4 x5 S h
    exact h.elim
  | succ n ih =>
    intro x1 x2 x3 x4 x5 S h
    unfold wX8_mostOf_113 at h
    refine gk_iload dX8_mostOf_113 rfl ?_
    refine gk_iconst (v := 1) dX8_mostOf_115 rfl ?_
    refine gk_aload_n dX8_mostOf_116 rfl ?_
    refine gk_geti dX8_mostOf_117 rfl rfl wfX8_137 ?_
    refine gk_ishl dX8_mostOf_120 ?_
    refine gk_icmp_ge (tgt := 188) dX8_mostOf_121 (by decide) (fun c121 => ?_) (fun c121 => ?_)
    · replace h := h.1 c121
      exact gk_less (gz_le_s rfl (gz_le_s rfl (gz_le_s rfl (gz_le_s rfl (gz_le_s rfl (gz_le_n (gz_le_n gz_le_0))))))) (oX8_mostOf_188 hk32 hk89 _ _ _ _ _ h)
    · replace h := h.2 c121
      refine gk_aload_n dX8_mostOf_124 rfl ?_
      refine gk_getr dX8_mostOf_125 rfl rfl wfX8_71 ?_
      refine gk_iload dX8_mostOf_128 rfl ?_
      refine gk_baload dX8_mostOf_130 rfl h.1 ?_
      replace h := h.2
      refine gk_if_eq (tgt := 146) dX8_mostOf_131 (by decide) (fun c131 => ?_) (fun c131 => ?_)
      · replace h := h.1 c131
        exact gk_less (gz_le_s rfl (gz_le_s rfl (gz_le_s rfl (gz_le_s rfl (gz_le_s rfl (gz_le_s rfl (gz_le_n gz_le_0))))))) (oX8_mostOf_146 hk32 hk89 (fun y0 y1 y2 y3 y4 S h => ih y0 y1 y2 y3 y4 S h) _ _ _ _ _ _ h)
      · replace h := h.2 c131
        refine gk_iload dX8_mostOf_134 rfl ?_
        refine gk_iload dX8_mostOf_136 rfl ?_
        refine gk_iand dX8_mostOf_138 ?_
        refine gk_if_ne (tgt := 146) dX8_mostOf_139 (by decide) (fun c139 => ?_) (fun c139 => ?_)
        · replace h := h.1 c139
          exact gk_less (gz_le_s rfl (gz_le_s rfl (gz_le_s rfl (gz_le_s rfl (gz_le_s rfl (gz_le_s rfl (gz_le_n gz_le_0))))))) (oX8_mostOf_146 hk32 hk89 (fun y0 y1 y2 y3 y4 S h => ih y0 y1 y2 y3 y4 S h) _ _ _ _ _ _ h)
        · replace h := h.2 c139
          refine gk_iconst (v := 1) dX8_mostOf_142 rfl ?_
          refine gk_goto (tgt := 147) dX8_mostOf_143 (by decide) ?_
          exact gk_less (gz_le_s rfl (gz_le_s rfl (gz_le_s rfl (gz_le_s rfl (gz_le_s rfl (gz_le_s rfl (gz_le_n gz_le_0))))))) (oX8_mostOf_147 hk32 hk89 (fun y0 y1 y2 y3 y4 S h => ih y0 y1 y2 y3 y4 S h) _ _ _ _ _ _ _ h)
set_option maxHeartbeats 4000000 in
set_option maxRecDepth 100000 in
theorem oX8_mostOf_89 {E : gz_E} {k32 : Int32 → Int32 → Int32 → gz_S → Prop} {Q : Int32 → gz_S → Prop} (hk32 : ∀ (x1 : Int32) (x2 : Int32) (x3 : Int32) (S : gz_S), k32 x1 x2 x3 S → gz_k E mX8_mostOf (3, 0, 0, 73) 0 0 32 [some (.ref 45), some (.int x1), some (.int x2), some (.int x3), none, none, none] [] gz_F S (gz_qi Q)) : ∀ (n : Nat) (x1 : Int32) (x2 : Int32) (x3 : Int32) (x4 : Int32) (S : gz_S), wX8_mostOf_89 k32 Q n x1 x2 x3 x4 S → gz_k E mX8_mostOf (3, 0, 0, 73) 0 0 89 [some (.ref 45), some (.int x1), some (.int x2), some (.int x3), some (.int x4), none, none] [] gz_F S (gz_qi Q) := by
  intro n
  induction n with
  | zero =>
    intro x1 x2 x3 x4 S h
    exact h.elim
  | succ n ih =>
    intro x1 x2 x3 x4 S h
    unfold wX8_mostOf_89 at h
    refine gk_iload dX8_mostOf_89 rfl ?_
    refine gk_iconst (v := 1) dX8_mostOf_91 rfl ?_
    refine gk_aload_n dX8_mostOf_92 rfl ?_
    refine gk_geti dX8_mostOf_93 rfl rfl wfX8_137 ?_
    refine gk_ishl dX8_mostOf_96 ?_
    refine gk_icmp_ge (tgt := 194) dX8_mostOf_97 (by decide) (fun c97 => ?_) (fun c97 => ?_)
    · replace h := h.1 c97
      exact gk_less (gz_le_s rfl (gz_le_s rfl (gz_le_s rfl (gz_le_s rfl (gz_le_n (gz_le_n (gz_le_n gz_le_0))))))) (oX8_mostOf_194 hk32 _ _ _ _ h)
    · replace h := h.2 c97
      refine gk_aload_n dX8_mostOf_100 rfl ?_
      refine gk_iload_n dX8_mostOf_101 rfl ?_
      refine gk_iload dX8_mostOf_102 rfl ?_
      refine gk_callV (as := [_, _]) (rest := []) (ctX8_carriesAll h) dX8_mostOf_104 rfl rfl wvX8_256 wcX8_carriesAll rfl (Nat.le_of_ble_eq_true rfl) ⟨Nat.le_refl _, Nat.le_refl _⟩ (fun h9 => absurd rfl h9) (Nat.le_of_ble_eq_true rfl) rfl (fun v G2 S104 hq => ?_)
      obtain ⟨rfl, r104, rfl, h⟩ := hq
      refine gk_if_eq (tgt := 188) dX8_mostOf_107 (by decide) (fun c107 => ?_) (fun c107 => ?_)
      · replace h := h.1 c107
        exact gk_less (gz_le_s rfl (gz_le_s rfl (gz_le_s rfl (gz_le_s rfl (gz_le_s rfl (gz_le_n (gz_le_n gz_le_0))))))) (oX8_mostOf_188 hk32 (fun y0 y1 y2 y3 S h => ih y0 y1 y2 y3 S h) _ _ _ _ _ h)
      · replace h := h.2 c107
        refine gk_iconst (v := 0) dX8_mostOf_110 rfl ?_
        refine gk_istore dX8_mostOf_111 (Nat.le_of_ble_eq_true rfl) rfl rfl ?_
        obtain ⟨m113, h⟩ := h
        exact gk_less (gz_le_s rfl (gz_le_s rfl (gz_le_s rfl (gz_le_s rfl (gz_le_s rfl (gz_le_s rfl (gz_le_n gz_le_0))))))) (oX8_mostOf_113 hk32 (fun y0 y1 y2 y3 S h => ih y0 y1 y2 y3 S h) m113 _ _ _ _ _ _ h)
