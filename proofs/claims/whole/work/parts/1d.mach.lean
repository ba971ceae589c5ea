set_option maxHeartbeats 4000000 in
set_option maxRecDepth 100000 in
theorem oX2_tipAt_17_16 {E : gz_E} {Q : Int32 → gz_S → Prop} : ∀ (n : Nat) (x2 : Int32) (x3 : Int32) (S : gz_S), wX2_tipAt_17 Q n 16 x2 x3 S → gz_k E mX2_tipAt (4, 0, 0, 73) 0 0 17 [some (.ref 16), none, some (.int x2), some (.int x3)] [] gz_F S (gz_qi Q) := by
  intro n
  induction n with
  | zero =>
    intro x2 x3 S h
    exact h.elim
  | succ n ih =>
    intro x2 x3 S h
    unfold wX2_tipAt_17 at h
    refine gk_iload_n dX2_tipAt_17 rfl ?_
    refine gk_iconst (v := 5) dX2_tipAt_18 rfl ?_
    refine gk_icmp_gt (tgt := 54) dX2_tipAt_19 (by decide) (fun c19 => ?_) (fun c19 => ?_)
    · replace h := h.1 c19
      refine gk_iload_n dX2_tipAt_54 rfl ?_
      exact gk_iret dX2_tipAt_55 rfl rfl rfl rfl ⟨rfl, _, rfl, h⟩
    · replace h := h.2 c19
      refine gk_iload_n dX2_tipAt_22 rfl ?_
      refine gk_iload_n dX2_tipAt_23 rfl ?_
      refine gk_aload_n dX2_tipAt_24 rfl ?_
      refine gk_getr dX2_tipAt_25 rfl rfl wfX2_28 ?_
      refine gk_iconst (v := 0) dX2_tipAt_28 rfl ?_
      refine gk_iload_n dX2_tipAt_29 rfl ?_
      refine gk_callSN (as := [_, _]) (rest := [_, _, _]) (ctX7_shelfNumber h) dX2_tipAt_30 wvX2_106 wcX7_shelfNumber rfl (Nat.le_of_ble_eq_true rfl) ⟨Nat.le_refl _, Nat.le_refl _⟩ (fun h9 => absurd rfl h9) (Nat.le_of_ble_eq_true rfl) rfl (fun v G2 S30 hq => ?_)
      obtain ⟨rfl, r30, rfl, h⟩ := hq
      refine gk_iaload dX2_tipAt_33 rfl h.1 ?_
      replace h := h.2
      refine gk_aload_n dX2_tipAt_34 rfl ?_
      refine gk_getr dX2_tipAt_35 rfl rfl wfX2_28 ?_
      refine gk_iconst (v := 1) dX2_tipAt_38 rfl ?_
      refine gk_iload_n dX2_tipAt_39 rfl ?_
      refine gk_callSN (as := [_, _]) (rest := [_, _, _, _]) (ctX7_shelfNumber h) dX2_tipAt_40 wvX2_106 wcX7_shelfNumber rfl (Nat.le_of_ble_eq_true rfl) ⟨Nat.le_refl _, Nat.le_refl _⟩ (fun h9 => absurd rfl h9) (Nat.le_of_ble_eq_true rfl) rfl (fun v G2 S40 hq => ?_)
      obtain ⟨rfl, r40, rfl, h⟩ := hq
      refine gk_iaload dX2_tipAt_43 rfl h.1 ?_
      replace h := h.2
      refine gk_isub dX2_tipAt_44 ?_
      refine gk_imul dX2_tipAt_45 ?_
      refine gk_iadd dX2_tipAt_46 ?_
      refine gk_nmi (fun v2_47 ev2_47 => ?_)
      replace h := h v2_47 ev2_47
      refine gk_istore_n dX2_tipAt_47 (Nat.le_of_ble_eq_true rfl) rfl rfl ?_
      refine gk_iinc dX2_tipAt_48 rfl (Nat.le_of_ble_eq_true rfl) rfl rfl rfl ?_
      refine gk_goto (tgt := 17) dX2_tipAt_51 (by decide) ?_
      exact gk_less (gz_le_s rfl (gz_le_n (gz_le_s rfl (gz_le_s rfl gz_le_0)))) (ih _ _ _ h)
set_option maxHeartbeats 4000000 in
set_option maxRecDepth 100000 in
theorem ctX2_tipAt_16 {E : gz_E} {x1 : Int32} {S : gz_S} {Q : Int32 → gz_S → Prop} (h : wX2_tipAt 16 x1 S Q) : gz_m E mX2_tipAt 4 0 0 [.ref 16, .int x1] gz_F S (gz_qi Q) := by
  refine gz_meet0 (L0 := [some (.ref 16), some (.int x1), none, none]) (by decide) rfl (Nat.le_of_ble_eq_true rfl) (by decide) ?_
  unfold wX2_tipAt at h
  refine gk_aload_n dX2_tipAt_0 rfl ?_
  refine gk_iload_n dX2_tipAt_1 rfl ?_
  refine gk_callV (as := [_]) (rest := []) (ctX2_pileUp_16 h) dX2_tipAt_2 rfl rfl wvX2_116 wcX2_pileUp rfl (Nat.le_of_ble_eq_true rfl) ⟨Nat.le_refl _, Nat.le_refl _⟩ (fun h9 => absurd rfl h9) (Nat.le_of_ble_eq_true rfl) rfl (fun v G2 S2 hq => ?_)
  obtain ⟨rfl, rfl, h⟩ := hq
  refine gk_aload_n dX2_tipAt_5 rfl ?_
  refine gk_getr dX2_tipAt_6 rfl rfl wfX2_37 ?_
  refine gk_getr dX2_tipAt_9 rfl rfl wfX2_119 ?_
  refine gk_iload_n dX2_tipAt_12 rfl ?_
  refine gk_iaload dX2_tipAt_13 rfl h.1 ?_
  replace h := h.2
  refine gk_nmi (fun v2_14 ev2_14 => ?_)
  replace h := h v2_14 ev2_14
  refine gk_istore_n dX2_tipAt_14 (Nat.le_of_ble_eq_true rfl) rfl rfl ?_
  refine gk_iconst (v := 1) dX2_tipAt_15 rfl ?_
  refine gk_istore_n dX2_tipAt_16 (Nat.le_of_ble_eq_true rfl) rfl rfl ?_
  obtain ⟨m17, h⟩ := h
  exact gk_less (gz_le_s rfl (gz_le_n (gz_le_s rfl (gz_le_s rfl gz_le_0)))) (oX2_tipAt_17_16 m17 _ _ _ h)
set_option maxHeartbeats 4000000 in
set_option maxRecDepth 100000 in
theorem oX2_tipAt_17_23 {E : gz_E} {Q : Int32 → gz_S → Prop} : ∀ (n : Nat) (x2 : Int32) (x3 : Int32) (S : gz_S), wX2_tipAt_17 Q n 23 x2 x3 S → gz_k E mX2_tipAt (4, 0, 0, 73) 0 0 17 [some (.ref 23), none, some (.int x2), some (.int x3)] [] gz_F S (gz_qi Q) := by
  intro n
  induction n with
  | zero =>
    intro x2 x3 S h
    exact h.elim
  | succ n ih =>
    intro x2 x3 S h
    unfold wX2_tipAt_17 at h
    refine gk_iload_n dX2_tipAt_17 rfl ?_
    refine gk_iconst (v := 5) dX2_tipAt_18 rfl ?_
    refine gk_icmp_gt (tgt := 54) dX2_tipAt_19 (by decide) (fun c19 => ?_) (fun c19 => ?_)
    · replace h := h.1 c19
      refine gk_iload_n dX2_tipAt_54 rfl ?_
      exact gk_iret dX2_tipAt_55 rfl rfl rfl rfl ⟨rfl, _, rfl, h⟩
    · replace h := h.2 c19
      refine gk_iload_n dX2_tipAt_22 rfl ?_
      refine gk_iload_n dX2_tipAt_23 rfl ?_
      refine gk_aload_n dX2_tipAt_24 rfl ?_
      refine gk_getr dX2_tipAt_25 rfl rfl wfX2_28 ?_
      refine gk_iconst (v := 0) dX2_tipAt_28 rfl ?_
      refine gk_iload_n dX2_tipAt_29 rfl ?_
      refine gk_callSN (as := [_, _]) (rest := [_, _, _]) (ctX7_shelfNumber h) dX2_tipAt_30 wvX2_106 wcX7_shelfNumber rfl (Nat.le_of_ble_eq_true rfl) ⟨Nat.le_refl _, Nat.le_refl _⟩ (fun h9 => absurd rfl h9) (Nat.le_of_ble_eq_true rfl) rfl (fun v G2 S30 hq => ?_)
      obtain ⟨rfl, r30, rfl, h⟩ := hq
      refine gk_iaload dX2_tipAt_33 rfl h.1 ?_
      replace h := h.2
      refine gk_aload_n dX2_tipAt_34 rfl ?_
      refine gk_getr dX2_tipAt_35 rfl rfl wfX2_28 ?_
      refine gk_iconst (v := 1) dX2_tipAt_38 rfl ?_
      refine gk_iload_n dX2_tipAt_39 rfl ?_
      refine gk_callSN (as := [_, _]) (rest := [_, _, _, _]) (ctX7_shelfNumber h) dX2_tipAt_40 wvX2_106 wcX7_shelfNumber rfl (Nat.le_of_ble_eq_true rfl) ⟨Nat.le_refl _, Nat.le_refl _⟩ (fun h9 => absurd rfl h9) (Nat.le_of_ble_eq_true rfl) rfl (fun v G2 S40 hq => ?_)
      obtain ⟨rfl, r40, rfl, h⟩ := hq
      refine gk_iaload dX2_tipAt_43 rfl h.1 ?_
      replace h := h.2
      refine gk_isub dX2_tipAt_44 ?_
      refine gk_imul dX2_tipAt_45 ?_
      refine gk_iadd dX2_tipAt_46 ?_
      refine gk_nmi (fun v2_47 ev2_47 => ?_)
      replace h := h v2_47 ev2_47
      refine gk_istore_n dX2_tipAt_47 (Nat.le_of_ble_eq_true rfl) rfl rfl ?_
      refine gk_iinc dX2_tipAt_48 rfl (Nat.le_of_ble_eq_true rfl) rfl rfl rfl ?_
      refine gk_goto (tgt := 17) dX2_tipAt_51 (by decide) ?_
      exact gk_less (gz_le_s rfl (gz_le_n (gz_le_s rfl (gz_le_s rfl gz_le_0)))) (ih _ _ _ h)
set_option maxHeartbeats 4000000 in
set_option maxRecDepth 100000 in
theorem ctX2_tipAt_23 {E : gz_E} {x1 : Int32} {S : gz_S} {Q : Int32 → gz_S → Prop} (h : wX2_tipAt 23 x1 S Q) : gz_m E mX2_tipAt 4 0 0 [.ref 23, .int x1] gz_F S (gz_qi Q) := by
  refine gz_meet0 (L0 := [some (.ref 23), some (.int x1), none, none]) (by decide) rfl (Nat.le_of_ble_eq_true rfl) (by decide) ?_
  unfold wX2_tipAt at h
  refine gk_aload_n dX2_tipAt_0 rfl ?_
  refine gk_iload_n dX2_tipAt_1 rfl ?_
  refine gk_callV (as := [_]) (rest := []) (ctX2_pileUp_23 h) dX2_tipAt_2 rfl rfl wvX2_116 wcX2_pileUp rfl (Nat.le_of_ble_eq_true rfl) ⟨Nat.le_refl _, Nat.le_refl _⟩ (fun h9 => absurd rfl h9) (Nat.le_of_ble_eq_true rfl) rfl (fun v G2 S2 hq => ?_)
  obtain ⟨rfl, rfl, h⟩ := hq
  refine gk_aload_n dX2_tipAt_5 rfl ?_
  refine gk_getr dX2_tipAt_6 rfl rfl wfX2_37 ?_
  refine gk_getr dX2_tipAt_9 rfl rfl wfX2_119 ?_
  refine gk_iload_n dX2_tipAt_12 rfl ?_
  refine gk_iaload dX2_tipAt_13 rfl h.1 ?_
  replace h := h.2
  refine gk_nmi (fun v2_14 ev2_14 => ?_)
  replace h := h v2_14 ev2_14
  refine gk_istore_n dX2_tipAt_14 (Nat.le_of_ble_eq_true rfl) rfl rfl ?_
  refine gk_iconst (v := 1) dX2_tipAt_15 rfl ?_
  refine gk_istore_n dX2_tipAt_16 (Nat.le_of_ble_eq_true rfl) rfl rfl ?_
  obtain ⟨m17, h⟩ := h
  exact gk_less (gz_le_s rfl (gz_le_n (gz_le_s rfl (gz_le_s rfl gz_le_0)))) (oX2_tipAt_17_23 m17 _ _ _ h)
set_option maxHeartbeats 4000000 in
set_option maxRecDepth 100000 in
theorem ctX7_tip {E : gz_E} {x1 : Int32} {S : gz_S} {Q : Int32 → gz_S → Prop} (h : wX7_tip x1 S Q) : gz_m E mX7_tip 5 0 0 [.ref 0, .int x1] gz_F S (gz_qi Q) := by
  refine gz_meet0 (L0 := [some (.ref 0), some (.int x1)]) (by decide) rfl (Nat.le_of_ble_eq_true rfl) (by decide) ?_
  unfold wX7_tip at h
  refine gk_iload_n dX7_tip_0 rfl ?_
  refine gk_iconst (v := 0) dX7_tip_1 rfl ?_
  refine gk_bipush (v := 24) dX7_tip_2 rfl ?_
  refine gk_callS (as := [_, _, _]) (rest := []) (ctX7_within h) dX7_tip_4 wvX7_62 wcX7_within rfl (Nat.le_of_ble_eq_true rfl) ⟨Nat.le_refl _, Nat.le_refl _⟩ (fun h9 => absurd rfl h9) (Nat.le_of_ble_eq_true rfl) rfl (fun v G2 S4 hq => ?_)
  obtain ⟨rfl, r4, rfl, h⟩ := hq
  refine gk_if_eq (tgt := 21) dX7_tip_7 (by decide) (fun c7 => ?_) (fun c7 => ?_)
  · replace h := h.1 c7
    refine gk_sipush (v := (-10002)) dX7_tip_21 rfl ?_
    exact gk_iret dX7_tip_24 rfl rfl rfl rfl ⟨rfl, _, rfl, h⟩
  · replace h := h.2 c7
    refine gk_aload_n dX7_tip_10 rfl ?_
    refine gk_getr dX7_tip_11 rfl rfl wfX7_28 ?_
    refine gk_iload_n dX7_tip_14 rfl ?_
    refine gk_callV (as := [_]) (rest := []) (ctX2_tipAt_16 h) dX7_tip_15 rfl rfl wvX7_149 wcX2_tipAt rfl (Nat.le_of_ble_eq_true rfl) ⟨Nat.le_refl _, Nat.le_refl _⟩ (fun h9 => absurd rfl h9) (Nat.le_of_ble_eq_true rfl) rfl (fun v G2 S15 hq => ?_)
    obtain ⟨rfl, r15, rfl, h⟩ := hq
    refine gk_goto (tgt := 24) dX7_tip_18 (by decide) ?_
    exact gk_iret dX7_tip_24 rfl rfl rfl rfl ⟨rfl, _, rfl, h⟩
set_option maxHeartbeats 4000000 in
set_option maxRecDepth 100000 in
theorem ctX8_shelfOf {E : gz_E} {x1 : Int32} {S : gz_S} {Q : Int32 → gz_S → Prop} (h : wX8_shelfOf x1 S Q) : gz_m E mX8_shelfOf 1 0 0 [.ref 45, .int x1] gz_F S (gz_qi Q) := by
  refine gz_meet0 (L0 := [some (.ref 45), some (.int x1)]) (by decide) rfl (Nat.le_of_ble_eq_true rfl) (by decide) ?_
  unfold wX8_shelfOf at h
  refine gk_bipush (v := 6) dX8_shelfOf_0 rfl ?_
  refine gk_aload_n dX8_shelfOf_2 rfl ?_
  refine gk_getr dX8_shelfOf_3 rfl rfl wfX8_31 ?_
  refine gk_aload_n dX8_shelfOf_6 rfl ?_
  refine gk_getr dX8_shelfOf_7 rfl rfl wfX8_49 ?_
  refine gk_iconst (v := 3) dX8_shelfOf_10 rfl ?_
  refine gk_iload_n dX8_shelfOf_11 rfl ?_
  refine gk_imul dX8_shelfOf_12 ?_
  refine gk_iaload dX8_shelfOf_13 rfl h.1 ?_
  replace h := h.2
  refine gk_iaload dX8_shelfOf_14 rfl h.1 ?_
  replace h := h.2
  refine gk_imul dX8_shelfOf_15 ?_
  refine gk_aload_n dX8_shelfOf_16 rfl ?_
  refine gk_getr dX8_shelfOf_17 rfl rfl wfX8_49 ?_
  refine gk_iconst (v := 3) dX8_shelfOf_20 rfl ?_
  refine gk_iload_n dX8_shelfOf_21 rfl ?_
  refine gk_imul dX8_shelfOf_22 ?_
  refine gk_iconst (v := 2) dX8_shelfOf_23 rfl ?_
  refine gk_iadd dX8_shelfOf_24 ?_
  refine gk_iaload dX8_shelfOf_25 rfl h.1 ?_
  replace h := h.2
  refine gk_iadd dX8_shelfOf_26 ?_
  exact gk_iret dX8_shelfOf_27 rfl rfl rfl rfl ⟨rfl, _, rfl, h⟩
set_option maxHeartbeats 4000000 in
set_option maxRecDepth 100000 in
theorem oX8_slides_45 {E : gz_E} {k2 : Int32 → Int32 → gz_S → Prop} {Q : gz_S → Prop} (hk2 : ∀ (x1 : Int32) (x2 : Int32) (S : gz_S), k2 x1 x2 S → gz_k E mX8_slides (2, 0, 0, 73) 0 0 2 [some (.ref 45), some (.int x1), some (.int x2)] [] gz_F S (gz_qv Q)) : ∀ (x1 : Int32) (x2 : Int32) (S : gz_S), wX8_slides_45 k2 Q x1 x2 S → gz_k E mX8_slides (2, 0, 0, 73) 0 0 45 [some (.ref 45), some (.int x1), some (.int x2)] [] gz_F S (gz_qv Q) := by
  intro x1 x2 S h
  unfold wX8_slides_45 at h
  refine gk_iinc dX8_slides_45 rfl (Nat.le_of_ble_eq_true rfl) rfl rfl rfl ?_
  refine gk_goto (tgt := 2) dX8_slides_48 (by decide) ?_
  exact gk_less (gz_le_s rfl (gz_le_s rfl (gz_le_s rfl gz_le_0))) (hk2 _ _ _ h)
set_option maxHeartbeats 4000000 in
set_option maxRecDepth 100000 in
theorem oX8_slides_2 {E : gz_E} {Q : gz_S → Prop} : ∀ (n : Nat) (x1 : Int32) (x2 : Int32) (S : gz_S), wX8_slides_2 Q n x1 x2 S → gz_k E mX8_slides (2, 0, 0, 73) 0 0 2 [some (.ref 45), some (.int x1), some (.int x2)] [] gz_F S (gz_qv Q) := by
  intro n
  induction n with
  | zero =>
    intro x1 x2 S h
    exact h.elim
  | succ n ih =>
    intro x1 x2 S h
    unfold wX8_slides_2 at h
    refine gk_iload_n dX8_slides_2 rfl ?_
    refine gk_aload_n dX8_slides_3 rfl ?_
    refine gk_geti dX8_slides_4 rfl rfl wfX8_167 ?_
    refine gk_icmp_ge (tgt := 51) dX8_slides_7 (by decide) (fun c7 => ?_) (fun c7 => ?_)
    · replace h := h.1 c7
      refine gk_aload_n dX8_slides_51 rfl ?_
      refine gk_getr dX8_slides_52 rfl rfl wfX8_61 ?_
      refine gk_iload_n dX8_slides_55 rfl ?_
      refine gk_iconst (v := 0) dX8_slides_56 rfl ?_
      refine gk_iastore dX8_slides_57 rfl h.1 ?_
      replace h := h.2
      refine gk_nmS (fun S57 eS57 => ?_)
      replace h := h S57 eS57
      exact gk_vret dX8_slides_58 rfl rfl rfl ⟨rfl, rfl, h⟩
    · replace h := h.2 c7
      refine gk_aload_n dX8_slides_10 rfl ?_
      refine gk_getr dX8_slides_11 rfl rfl wfX8_64 ?_
      refine gk_iload_n dX8_slides_14 rfl ?_
      refine gk_baload dX8_slides_15 rfl h.1 ?_
      replace h := h.2
      refine gk_if_eq (tgt := 45) dX8_slides_16 (by decide) (fun c16 => ?_) (fun c16 => ?_)
      · replace h := h.1 c16
        exact gk_less (gz_le_s rfl (gz_le_s rfl (gz_le_s rfl gz_le_0))) (oX8_slides_45 (fun y0 y1 S h => ih y0 y1 S h) _ _ _ h)
      · replace h := h.2 c16
        refine gk_aload_n dX8_slides_19 rfl ?_
        refine gk_iload_n dX8_slides_20 rfl ?_
        refine gk_callV (as := [_]) (rest := []) (ctX8_shelfOf h) dX8_slides_21 rfl rfl wvX8_202 wcX8_shelfOf rfl (Nat.le_of_ble_eq_true rfl) ⟨Nat.le_refl _, Nat.le_refl _⟩ (fun h9 => absurd rfl h9) (Nat.le_of_ble_eq_true rfl) rfl (fun v G2 S21 hq => ?_)
        obtain ⟨rfl, r21, rfl, h⟩ := hq
        refine gk_iload_n dX8_slides_24 rfl ?_
        refine gk_icmp_ne (tgt := 45) dX8_slides_25 (by decide) (fun c25 => ?_) (fun c25 => ?_)
        · replace h := h.1 c25
          exact gk_less (gz_le_s rfl (gz_le_s rfl (gz_le_s rfl gz_le_0))) (oX8_slides_45 (fun y0 y1 S h => ih y0 y1 S h) _ _ _ h)
        · replace h := h.2 c25
          refine gk_aload_n dX8_slides_28 rfl ?_
          refine gk_getr dX8_slides_29 rfl rfl wfX8_64 ?_
          refine gk_iload_n dX8_slides_32 rfl ?_
          refine gk_iconst (v := 0) dX8_slides_33 rfl ?_
          refine gk_bastore dX8_slides_34 rfl h.1 rfl ?_
          replace h := h.2
          refine gk_nmS (fun S34 eS34 => ?_)
          replace h := h S34 eS34
          refine gk_aload_n dX8_slides_35 rfl ?_
          refine gk_dup dX8_slides_36 rfl ?_
          refine gk_geti dX8_slides_37 rfl rfl wfX8_199 ?_
          refine gk_iconst (v := 1) dX8_slides_40 rfl ?_
          refine gk_iadd dX8_slides_41 ?_
          refine gk_puti dX8_slides_42 rfl rfl wfX8_199 wpX8_25 rfl rfl ?_
          refine gk_nmS (fun S42 eS42 => ?_)
          replace h := h S42 eS42
          exact gk_less (gz_le_s rfl (gz_le_s rfl (gz_le_s rfl gz_le_0))) (oX8_slides_45 (fun y0 y1 S h => ih y0 y1 S h) _ _ _ h)
set_option maxHeartbeats 4000000 in
set_option maxRecDepth 100000 in
theorem ctX8_slides {E : gz_E} {x1 : Int32} {S : gz_S} {Q : gz_S → Prop} (h : wX8_slides x1 S Q) : gz_m E mX8_slides 2 0 0 [.ref 45, .int x1] gz_F S (gz_qv Q) := by
  refine gz_meet0 (L0 := [some (.ref 45), some (.int x1), none]) (by decide) rfl (Nat.le_of_ble_eq_true rfl) (by decide) ?_
  unfold wX8_slides at h
  refine gk_iconst (v := 0) dX8_slides_0 rfl ?_
  refine gk_istore_n dX8_slides_1 (Nat.le_of_ble_eq_true rfl) rfl rfl ?_
  obtain ⟨m2, h⟩ := h
  exact gk_less (gz_le_s rfl (gz_le_s rfl (gz_le_s rfl gz_le_0))) (oX8_slides_2 m2 _ _ _ h)
set_option maxHeartbeats 4000000 in
set_option maxRecDepth 100000 in
theorem oX8_heaps_139 {E : gz_E} {k51 : Int32 → Int32 → gz_S → Prop} {k58 : Int32 → Int32 → Int32 → gz_S → Prop} {Q : gz_S → Prop} (hk51 : ∀ (x1 : Int32) (x2 : Int32) (S : gz_S), k51 x1 x2 S → gz_k E mX8_heaps (3, 0, 0, 73) 0 0 51 [some (.ref 45), some (.int x1), some (.int x2), none] [] gz_F S (gz_qv Q)) (hk58 : ∀ (x1 : Int32) (x2 : Int32) (x3 : Int32) (S : gz_S), k58 x1 x2 x3 S → gz_k E mX8_heaps (3, 0, 0, 73) 0 0 58 [some (.ref 45), some (.int x1), some (.int x2), some (.int x3)] [] gz_F S (gz_qv Q)) : ∀ (x1 : Int32) (x2 : Int32) (x3 : Int32) (S : gz_S), wX8_heaps_139 k51 k58 Q x1 x2 x3 S → gz_k E mX8_heaps (3, 0, 0, 73) 0 0 139 [some (.ref 45), some (.int x1), some (.int x2), some (.int x3)] [] gz_F S (gz_qv Q) := by
  intro x1 x2 x3 S h
  unfold wX8_heaps_139 at h
  refine gk_iinc dX8_heaps_139 rfl (Nat.le_of_ble_eq_true rfl) rfl rfl rfl ?_
  refine gk_goto (tgt := 58) dX8_heaps_142 (by decide) ?_
  exact gk_less (gz_le_s rfl (gz_le_s rfl (gz_le_s rfl (gz_le_s rfl gz_le_0)))) (hk58 _ _ _ _ h)
set_option maxHeartbeats 4000000 in
set_option maxRecDepth 100000 in
theorem oX8_heaps_58 {E : gz_E} {k51 : Int32 → Int32 → gz_S → Prop} {Q : gz_S → Prop} (hk51 : ∀ (x1 : Int32) (x2 : Int32) (S : gz_S), k51 x1 x2 S → gz_k E mX8_heaps (3, 0, 0, 73) 0 0 51 [some (.ref 45), some (.int x1), some (.int x2), none] [] gz_F S (gz_qv Q)) : ∀ (n : Nat) (x1 : Int32) (x2 : Int32) (x3 : Int32) (S : gz_S), wX8_heaps_58 k51 Q n x1 x2 x3 S → gz_k E mX8_heaps (3, 0, 0, 73) 0 0 58 [some (.ref 45), some (.int x1), some (.int x2), some (.int x3)] [] gz_F S (gz_qv Q) := by
  intro n
  induction n with
  | zero =>
    intro x1 x2 x3 S h
    exact h.elim
  | succ n ih =>
    intro x1 x2 x3 S h
    unfold wX8_heaps_58 at h
    refine gk_iload_n dX8_heaps_58 rfl ?_
    refine gk_aload_n dX8_heaps_59 rfl ?_
    refine gk_geti dX8_heaps_60 rfl rfl wfX8_167 ?_
    refine gk_icmp_ge (tgt := 145) dX8_heaps_63 (by decide) (fun c63 => ?_) (fun c63 => ?_)
    · replace h := h.1 c63
      refine gk_iinc dX8_heaps_145 rfl (Nat.le_of_ble_eq_true rfl) rfl rfl rfl ?_
      refine gk_goto (tgt := 51) dX8_heaps_148 (by decide) ?_
      exact gk_less (gz_le_s rfl (gz_le_s rfl (gz_le_s rfl (gz_le_n gz_le_0)))) (hk51 _ _ _ h)
    · replace h := h.2 c63
      refine gk_aload_n dX8_heaps_66 rfl ?_
      refine gk_getr dX8_heaps_67 rfl rfl wfX8_52 ?_
      refine gk_iload_n dX8_heaps_70 rfl ?_
      refine gk_iaload dX8_heaps_71 rfl h.1 ?_
      replace h := h.2
      refine gk_iload_n dX8_heaps_72 rfl ?_
      refine gk_icmp_ne (tgt := 139) dX8_heaps_73 (by decide) (fun c73 => ?_) (fun c73 => ?_)
      · replace h := h.1 c73
        exact gk_less (gz_le_s rfl (gz_le_s rfl (gz_le_s rfl (gz_le_s rfl gz_le_0)))) (oX8_heaps_139 hk51 (fun y0 y1 y2 S h => ih y0 y1 y2 S h) _ _ _ _ h)
      · replace h := h.2 c73
        refine gk_aload_n dX8_heaps_76 rfl ?_
        refine gk_getr dX8_heaps_77 rfl rfl wfX8_64 ?_
        refine gk_iload_n dX8_heaps_80 rfl ?_
        refine gk_iconst (v := 1) dX8_heaps_81 rfl ?_
        refine gk_bastore dX8_heaps_82 rfl h.1 rfl ?_
        replace h := h.2
        refine gk_nmS (fun S82 eS82 => ?_)
        replace h := h S82 eS82
        refine gk_aload_n dX8_heaps_83 rfl ?_
        refine gk_getr dX8_heaps_84 rfl rfl wfX8_61 ?_
        refine gk_aload_n dX8_heaps_87 rfl ?_
        refine gk_iload_n dX8_heaps_88 rfl ?_
        refine gk_callV (as := [_]) (rest := [_]) (ctX8_shelfOf h) dX8_heaps_89 rfl rfl wvX8_202 wcX8_shelfOf rfl (Nat.le_of_ble_eq_true rfl) ⟨Nat.le_refl _, Nat.le_refl _⟩ (fun h9 => absurd rfl h9) (Nat.le_of_ble_eq_true rfl) rfl (fun v G2 S89 hq => ?_)
        obtain ⟨rfl, r89, rfl, h⟩ := hq
        refine gk_dup2 dX8_heaps_92 rfl rfl ?_
        refine gk_iaload dX8_heaps_93 rfl h.1 ?_
        replace h := h.2
        refine gk_aload_n dX8_heaps_94 rfl ?_
        refine gk_getr dX8_heaps_95 rfl rfl wfX8_34 ?_
        refine gk_aload_n dX8_heaps_98 rfl ?_
        refine gk_getr dX8_heaps_99 rfl rfl wfX8_49 ?_
        refine gk_iconst (v := 3) dX8_heaps_102 rfl ?_
        refine gk_iload_n dX8_heaps_103 rfl ?_
        refine gk_imul dX8_heaps_104 ?_
        refine gk_iconst (v := 1) dX8_heaps_105 rfl ?_
        refine gk_iadd dX8_heaps_106 ?_
        refine gk_iaload dX8_heaps_107 rfl h.1 ?_
        replace h := h.2
        refine gk_iaload dX8_heaps_108 rfl h.1 ?_
        replace h := h.2
        refine gk_iadd dX8_heaps_109 ?_
        refine gk_iastore dX8_heaps_110 rfl h.1 ?_
        replace h := h.2
        refine gk_nmS (fun S110 eS110 => ?_)
        replace h := h S110 eS110
        refine gk_aload_n dX8_heaps_111 rfl ?_
        refine gk_getr dX8_heaps_112 rfl rfl wfX8_61 ?_
        refine gk_aload_n dX8_heaps_115 rfl ?_
        refine gk_iload_n dX8_heaps_116 rfl ?_
        refine gk_callV (as := [_]) (rest := [_]) (ctX8_shelfOf h) dX8_heaps_117 rfl rfl wvX8_202 wcX8_shelfOf rfl (Nat.le_of_ble_eq_true rfl) ⟨Nat.le_refl _, Nat.le_refl _⟩ (fun h9 => absurd rfl h9) (Nat.le_of_ble_eq_true rfl) rfl (fun v G2 S117 hq => ?_)
        obtain ⟨rfl, r117, rfl, h⟩ := hq
        refine gk_iaload dX8_heaps_120 rfl h.1 ?_
        replace h := h.2
        refine gk_aload_n dX8_heaps_121 rfl ?_
        refine gk_getr dX8_heaps_122 rfl rfl wfX8_40 ?_
        refine gk_iconst (v := 1) dX8_heaps_125 rfl ?_
        refine gk_iaload dX8_heaps_126 rfl h.1 ?_
        replace h := h.2
        refine gk_icmp_le (tgt := 139) dX8_heaps_127 (by decide) (fun c127 => ?_) (fun c127 => ?_)
        · replace h := h.1 c127
          exact gk_less (gz_le_s rfl (gz_le_s rfl (gz_le_s rfl (gz_le_s rfl gz_le_0)))) (oX8_heaps_139 hk51 (fun y0 y1 y2 S h => ih y0 y1 y2 S h) _ _ _ _ h)
        · replace h := h.2 c127
          refine gk_aload_n dX8_heaps_130 rfl ?_
          refine gk_aload_n dX8_heaps_131 rfl ?_
          refine gk_iload_n dX8_heaps_132 rfl ?_
          refine gk_callV (as := [_]) (rest := [_]) (ctX8_shelfOf h) dX8_heaps_133 rfl rfl wvX8_202 wcX8_shelfOf rfl (Nat.le_of_ble_eq_true rfl) ⟨Nat.le_refl _, Nat.le_refl _⟩ (fun h9 => absurd rfl h9) (Nat.le_of_ble_eq_true rfl) rfl (fun v G2 S133 hq => ?_)
          obtain ⟨rfl, r133, rfl, h⟩ := hq
          refine gk_callV (as := [_]) (rest := []) (ctX8_slides h) dX8_heaps_136 rfl rfl wvX8_205 wcX8_slides rfl (Nat.le_of_ble_eq_true rfl) ⟨Nat.le_refl _, Nat.le_refl _⟩ (fun h9 => absurd rfl h9) (Nat.le_of_ble_eq_true rfl) rfl (fun v G2 S136 hq => ?_)
          obtain ⟨rfl, rfl, h⟩ := hq
          exact gk_less (gz_le_s rfl (gz_le_s rfl (gz_le_s rfl (gz_le_s rfl gz_le_0)))) (oX8_heaps_139 hk51 (fun y0 y1 y2 S h => ih y0 y1 y2 S h) _ _ _ _ h)
set_option maxHeartbeats 4000000 in
set_option maxRecDepth 100000 in
theorem oX8_heaps_51 {E : gz_E} {Q : gz_S → Prop} : ∀ (n : Nat) (x1 : Int32) (x2 : Int32) (S : gz_S), wX8_heaps_51 Q n x1 x2 S → gz_k E mX8_heaps (3, 0, 0, 73) 0 0 51 [some (.ref 45), some (.int x1), some (.int x2), none] [] gz_F S (gz_qv Q) := by
  intro n
  induction n with
  | zero =>
    intro x1 x2 S h
    exact h.elim
  | succ n ih =>
    intro x1 x2 S h
    unfold wX8_heaps_51 at h
    refine gk_iload_n dX8_heaps_51 rfl ?_
    refine gk_iload_n dX8_heaps_52 rfl ?_
    refine gk_icmp_gt (tgt := 151) dX8_heaps_53 (by decide) (fun c53 => ?_) (fun c53 => ?_)
    · replace h := h.1 c53
      exact gk_vret dX8_heaps_151 rfl rfl rfl ⟨rfl, rfl, h⟩
    · replace h := h.2 c53
      refine gk_iconst (v := 0) dX8_heaps_56 rfl ?_
      refine gk_istore_n dX8_heaps_57 (Nat.le_of_ble_eq_true rfl) rfl rfl ?_
      obtain ⟨m58, h⟩ := h
      exact gk_less (gz_le_s rfl (gz_le_s rfl (gz_le_s rfl (gz_le_s rfl gz_le_0)))) (oX8_heaps_58 (fun y0 y1 S h => ih y0 y1 S h) m58 _ _ _ _ h)
set_option maxHeartbeats 4000000 in
set_option maxRecDepth 100000 in
theorem oX8_heaps_23 {E : gz_E} {Q : gz_S → Prop} : ∀ (n : Nat) (x1 : Int32) (x2 : Int32) (S : gz_S), wX8_heaps_23 Q n x1 x2 S → gz_k E mX8_heaps (3, 0, 0, 73) 0 0 23 [some (.ref 45), some (.int x1), some (.int x2), none] [] gz_F S (gz_qv Q) := by
  intro n
  induction n with
  | zero =>
    intro x1 x2 S h
    exact h.elim
  | succ n ih =>
    intro x1 x2 S h
    unfold wX8_heaps_23 at h
    refine gk_iload_n dX8_heaps_23 rfl ?_
    refine gk_aload_n dX8_heaps_24 rfl ?_
    refine gk_geti dX8_heaps_25 rfl rfl wfX8_167 ?_
    refine gk_icmp_ge (tgt := 44) dX8_heaps_28 (by decide) (fun c28 => ?_) (fun c28 => ?_)
    · replace h := h.1 c28
      refine gk_aload_n dX8_heaps_44 rfl ?_
      refine gk_iconst (v := 0) dX8_heaps_45 rfl ?_
      refine gk_puti dX8_heaps_46 rfl rfl wfX8_199 wpX8_25 rfl rfl ?_
      refine gk_nmS (fun S46 eS46 => ?_)
      replace h := h S46 eS46
      refine gk_iconst (v := 0) dX8_heaps_49 rfl ?_
      refine gk_istore_n dX8_heaps_50 (Nat.le_of_ble_eq_true rfl) rfl rfl ?_
      obtain ⟨m51, h⟩ := h
      exact gk_less (gz_le_s rfl (gz_le_s rfl (gz_le_s rfl (gz_le_n gz_le_0)))) (oX8_heaps_51 m51 _ _ _ h)
    · replace h := h.2 c28
      refine gk_aload_n dX8_heaps_31 rfl ?_
      refine gk_getr dX8_heaps_32 rfl rfl wfX8_64 ?_
      refine gk_iload_n dX8_heaps_35 rfl ?_
      refine gk_iconst (v := 0) dX8_heaps_36 rfl ?_
      refine gk_bastore dX8_heaps_37 rfl h.1 rfl ?_
      replace h := h.2
      refine gk_nmS (fun S37 eS37 => ?_)
      replace h := h S37 eS37
      refine gk_iinc dX8_heaps_38 rfl (Nat.le_of_ble_eq_true rfl) rfl rfl rfl ?_
      refine gk_goto (tgt := 23) dX8_heaps_41 (by decide) ?_
      exact gk_less (gz_le_s rfl (gz_le_s rfl (gz_le_s rfl (gz_le_n gz_le_0)))) (ih _ _ _ h)
set_option maxHeartbeats 4000000 in
set_option maxRecDepth 100000 in
theorem oX8_heaps_2 {E : gz_E} {Q : gz_S → Prop} : ∀ (n : Nat) (x1 : Int32) (x2 : Int32) (S : gz_S), wX8_heaps_2 Q n x1 x2 S → gz_k E mX8_heaps (3, 0, 0, 73) 0 0 2 [some (.ref 45), some (.int x1), some (.int x2), none] [] gz_F S (gz_qv Q) := by
  intro n
  induction n with
  | zero =>
    intro x1 x2 S h
    exact h.elim
  | succ n ih =>
    intro x1 x2 S h
    unfold wX8_heaps_2 at h
    refine gk_iload_n dX8_heaps_2 rfl ?_
    refine gk_bipush (v := 12) dX8_heaps_3 rfl ?_
    refine gk_icmp_ge (tgt := 21) dX8_heaps_5 (by decide) (fun c5 => ?_) (fun c5 => ?_)
    · replace h := h.1 c5
      refine gk_iconst (v := 0) dX8_heaps_21 rfl ?_
      refine gk_istore_n dX8_heaps_22 (Nat.le_of_ble_eq_true rfl) rfl rfl ?_
      obtain ⟨m23, h⟩ := h
      exact gk_less (gz_le_s rfl (gz_le_s rfl (gz_le_s rfl (gz_le_n gz_le_0)))) (oX8_heaps_23 m23 _ _ _ h)
    · replace h := h.2 c5
      refine gk_aload_n dX8_heaps_8 rfl ?_
      refine gk_getr dX8_heaps_9 rfl rfl wfX8_61 ?_
      refine gk_iload_n dX8_heaps_12 rfl ?_
      refine gk_iconst (v := 0) dX8_heaps_13 rfl ?_
      refine gk_iastore dX8_heaps_14 rfl h.1 ?_
      replace h := h.2
      refine gk_nmS (fun S14 eS14 => ?_)
      replace h := h S14 eS14
      refine gk_iinc dX8_heaps_15 rfl (Nat.le_of_ble_eq_true rfl) rfl rfl rfl ?_
      refine gk_goto (tgt := 2) dX8_heaps_18 (by decide) ?_
      exact gk_less (gz_le_s rfl (gz_le_s rfl (gz_le_s rfl (gz_le_n gz_le_0)))) (ih _ _ _ h)
set_option maxHeartbeats 4000000 in
set_option maxRecDepth 100000 in
theorem ctX8_heaps {E : gz_E} {x1 : Int32} {S : gz_S} {Q : gz_S → Prop} (h : wX8_heaps x1 S Q) : gz_m E mX8_heaps 3 0 0 [.ref 45, .int x1] gz_F S (gz_qv Q) := by
  refine gz_meet0 (L0 := [some (.ref 45), some (.int x1), none, none]) (by decide) rfl (Nat.le_of_ble_eq_true rfl) (by decide) ?_
  unfold wX8_heaps at h
  refine gk_iconst (v := 0) dX8_heaps_0 rfl ?_
  refine gk_istore_n dX8_heaps_1 (Nat.le_of_ble_eq_true rfl) rfl rfl ?_
  obtain ⟨m2, h⟩ := h
  exact gk_less (gz_le_s rfl (gz_le_s rfl (gz_le_s rfl (gz_le_n gz_le_0)))) (oX8_heaps_2 m2 _ _ _ h)
set_option maxHeartbeats 4000000 in
set_option maxRecDepth 100000 in
theorem oX8_tipNow_9 {E : gz_E} {Q : Int32 → gz_S → Prop} : ∀ (n : Nat) (x2 : Int32) (x3 : Int32) (S : gz_S), wX8_tipNow_9 Q n x2 x3 S → gz_k E mX8_tipNow (1, 0, 0, 73) 0 0 9 [some (.ref 45), none, some (.int x2), some (.int x3)] [] gz_F S (gz_qi Q) := by
  intro n
  induction n with
  | zero =>
    intro x2 x3 S h
    exact h.elim
  | succ n ih =>
    intro x2 x3 S h
    unfold wX8_tipNow_9 at h
    refine gk_iload_n dX8_tipNow_9 rfl ?_
    refine gk_bipush (v := 6) dX8_tipNow_10 rfl ?_
    refine gk_icmp_ge (tgt := 42) dX8_tipNow_12 (by decide) (fun c12 => ?_) (fun c12 => ?_)
    · replace h := h.1 c12
      refine gk_iload_n dX8_tipNow_42 rfl ?_
      exact gk_iret dX8_tipNow_43 rfl rfl rfl rfl ⟨rfl, _, rfl, h⟩
    · replace h := h.2 c12
      refine gk_iload_n dX8_tipNow_15 rfl ?_
      refine gk_iload_n dX8_tipNow_16 rfl ?_
      refine gk_aload_n dX8_tipNow_17 rfl ?_
      refine gk_getr dX8_tipNow_18 rfl rfl wfX8_61 ?_
      refine gk_iload_n dX8_tipNow_21 rfl ?_
      refine gk_iaload dX8_tipNow_22 rfl h.1 ?_
      replace h := h.2
      refine gk_aload_n dX8_tipNow_23 rfl ?_
      refine gk_getr dX8_tipNow_24 rfl rfl wfX8_61 ?_
      refine gk_bipush (v := 6) dX8_tipNow_27 rfl ?_
      refine gk_iload_n dX8_tipNow_29 rfl ?_
      refine gk_iadd dX8_tipNow_30 ?_
      refine gk_iaload dX8_tipNow_31 rfl h.1 ?_
      replace h := h.2
      refine gk_isub dX8_tipNow_32 ?_
      refine gk_imul dX8_tipNow_33 ?_
      refine gk_iadd dX8_tipNow_34 ?_
      refine gk_nmi (fun v2_35 ev2_35 => ?_)
      replace h := h v2_35 ev2_35
      refine gk_istore_n dX8_tipNow_35 (Nat.le_of_ble_eq_true rfl) rfl rfl ?_
      refine gk_iinc dX8_tipNow_36 rfl (Nat.le_of_ble_eq_true rfl) rfl rfl rfl ?_
      refine gk_goto (tgt := 9) dX8_tipNow_39 (by decide) ?_
      exact gk_less (gz_le_s rfl (gz_le_n (gz_le_s rfl (gz_le_s rfl gz_le_0)))) (ih _ _ _ h)
set_option maxHeartbeats 4000000 in
set_option maxRecDepth 100000 in
theorem ctX8_tipNow {E : gz_E} {x1 : Int32} {S : gz_S} {Q : Int32 → gz_S → Prop} (h : wX8_tipNow x1 S Q) : gz_m E mX8_tipNow 1 0 0 [.ref 45, .int x1] gz_F S (gz_qi Q) := by
  refine gz_meet0 (L0 := [some (.ref 45), some (.int x1), none, none]) (by decide) rfl (Nat.le_of_ble_eq_true rfl) (by decide) ?_
  unfold wX8_tipNow at h
  refine gk_aload_n dX8_tipNow_0 rfl ?_
  refine gk_getr dX8_tipNow_1 rfl rfl wfX8_43 ?_
  refine gk_iload_n dX8_tipNow_4 rfl ?_
  refine gk_iaload dX8_tipNow_5 rfl h.1 ?_
  replace h := h.2
  refine gk_nmi (fun v2_6 ev2_6 => ?_)
  replace h := h v2_6 ev2_6
  refine gk_istore_n dX8_tipNow_6 (Nat.le_of_ble_eq_true rfl) rfl rfl ?_
  refine gk_iconst (v := 1) dX8_tipNow_7 rfl ?_
  refine gk_istore_n dX8_tipNow_8 (Nat.le_of_ble_eq_true rfl) rfl rfl ?_
  obtain ⟨m9, h⟩ := h
  exact gk_less (gz_le_s rfl (gz_le_n (gz_le_s rfl (gz_le_s rfl gz_le_0)))) (oX8_tipNow_9 m9 _ _ _ h)
set_option maxHeartbeats 4000000 in
set_option maxRecDepth 100000 in
theorem ctX8_tipOf {E : gz_E} {x1 : Int32} {S : gz_S} {Q : Int32 → gz_S → Prop} (h : wX8_tipOf x1 S Q) : gz_m E mX8_tipOf 4 0 0 [.ref 45, .int x1] gz_F S (gz_qi Q) := by
  refine gz_meet0 (L0 := [some (.ref 45), some (.int x1)]) (by decide) rfl (Nat.le_of_ble_eq_true rfl) (by decide) ?_
  unfold wX8_tipOf at h
  refine gk_aload_n dX8_tipOf_0 rfl ?_
  refine gk_iconst (v := (-1)) dX8_tipOf_1 rfl ?_
  refine gk_callV (as := [_]) (rest := []) (ctX8_goes h) dX8_tipOf_2 rfl rfl wvX8_186 wcX8_goes rfl (Nat.le_of_ble_eq_true rfl) ⟨Nat.le_refl _, Nat.le_refl _⟩ (fun h9 => absurd rfl h9) (Nat.le_of_ble_eq_true rfl) rfl (fun v G2 S2 hq => ?_)
  obtain ⟨rfl, rfl, h⟩ := hq
  refine gk_aload_n dX8_tipOf_5 rfl ?_
  refine gk_iload_n dX8_tipOf_6 rfl ?_
  refine gk_callV (as := [_]) (rest := []) (ctX8_heaps h) dX8_tipOf_7 rfl rfl wvX8_208 wcX8_heaps rfl (Nat.le_of_ble_eq_true rfl) ⟨Nat.le_refl _, Nat.le_refl _⟩ (fun h9 => absurd rfl h9) (Nat.le_of_ble_eq_true rfl) rfl (fun v G2 S7 hq => ?_)
  obtain ⟨rfl, rfl, h⟩ := hq
  refine gk_aload_n dX8_tipOf_10 rfl ?_
  refine gk_iload_n dX8_tipOf_11 rfl ?_
  refine gk_callV (as := [_]) (rest := []) (ctX8_tipNow h) dX8_tipOf_12 rfl rfl wvX8_211 wcX8_tipNow rfl (Nat.le_of_ble_eq_true rfl) ⟨Nat.le_refl _, Nat.le_refl _⟩ (fun h9 => absurd rfl h9) (Nat.le_of_ble_eq_true rfl) rfl (fun v G2 S12 hq => ?_)
  obtain ⟨rfl, r12, rfl, h⟩ := hq
  exact gk_iret dX8_tipOf_15 rfl rfl rfl rfl ⟨rfl, _, rfl, h⟩
set_option maxHeartbeats 4000000 in
set_option maxRecDepth 100000 in
theorem ctX8_tip {E : gz_E} {x1 : Int32} {S : gz_S} {Q : Int32 → gz_S → Prop} (h : wX8_tip x1 S Q) : gz_m E mX8_tip 5 0 0 [.ref 45, .int x1] gz_F S (gz_qi Q) := by
  refine gz_meet0 (L0 := [some (.ref 45), some (.int x1)]) (by decide) rfl (Nat.le_of_ble_eq_true rfl) (by decide) ?_
  unfold wX8_tip at h
  refine gk_aload_n dX8_tip_0 rfl ?_
  refine gk_callV (as := []) (rest := []) (ctX8_reads h) dX8_tip_1 rfl rfl wvX8_147 wcX8_reads rfl (Nat.le_of_ble_eq_true rfl) ⟨Nat.le_refl _, Nat.le_refl _⟩ (fun h9 => absurd rfl h9) (Nat.le_of_ble_eq_true rfl) rfl (fun v G2 S1 hq => ?_)
  obtain ⟨rfl, rfl, h⟩ := hq
  refine gk_iload_n dX8_tip_4 rfl ?_
  refine gk_callS (as := [_]) (rest := []) (ctX8_isHour h) dX8_tip_5 wvX8_154 wcX8_isHour rfl (Nat.le_of_ble_eq_true rfl) ⟨Nat.le_refl _, Nat.le_refl _⟩ (fun h9 => absurd rfl h9) (Nat.le_of_ble_eq_true rfl) rfl (fun v G2 S5 hq => ?_)
  obtain ⟨rfl, r5, rfl, h⟩ := hq
  refine gk_if_eq (tgt := 19) dX8_tip_8 (by decide) (fun c8 => ?_) (fun c8 => ?_)
  · replace h := h.1 c8
    refine gk_sipush (v := (-10002)) dX8_tip_19 rfl ?_
    exact gk_iret dX8_tip_22 rfl rfl rfl rfl ⟨rfl, _, rfl, h⟩
  · replace h := h.2 c8
    refine gk_aload_n dX8_tip_11 rfl ?_
    refine gk_iload_n dX8_tip_12 rfl ?_
    refine gk_callV (as := [_]) (rest := []) (ctX8_tipOf h) dX8_tip_13 rfl rfl wvX8_214 wcX8_tipOf rfl (Nat.le_of_ble_eq_true rfl) ⟨Nat.le_refl _, Nat.le_refl _⟩ (fun h9 => absurd rfl h9) (Nat.le_of_ble_eq_true rfl) rfl (fun v G2 S13 hq => ?_)
    obtain ⟨rfl, r13, rfl, h⟩ := hq
    refine gk_goto (tgt := 22) dX8_tip_16 (by decide) ?_
    exact gk_iret dX8_tip_22 rfl rfl rfl rfl ⟨rfl, _, rfl, h⟩
set_option maxHeartbeats 4000000 in
set_option maxRecDepth 100000 in
theorem ctX7_shelf {E : gz_E} {x1 : Int32} {x2 : Int32} {x3 : Int32} {S : gz_S} {Q : Int32 → gz_S → Prop} (h : wX7_shelf x1 x2 x3 S Q) : gz_m E mX7_shelf 4 0 0 [.ref 0, .int x1, .int x2, .int x3] gz_F S (gz_qi Q) := by
  refine gz_meet0 (L0 := [some (.ref 0), some (.int x1), some (.int x2), some (.int x3)]) (by decide) rfl (Nat.le_of_ble_eq_true rfl) (by decide) ?_
  unfold wX7_shelf at h
  refine gk_iload_n dX7_shelf_0 rfl ?_
  refine gk_iconst (v := 0) dX7_shelf_1 rfl ?_
  refine gk_iconst (v := 1) dX7_shelf_2 rfl ?_
  refine gk_callS (as := [_, _, _]) (rest := []) (ctX7_within h) dX7_shelf_3 wvX7_62 wcX7_within rfl (Nat.le_of_ble_eq_true rfl) ⟨Nat.le_refl _, Nat.le_refl _⟩ (fun h9 => absurd rfl h9) (Nat.le_of_ble_eq_true rfl) rfl (fun v G2 S3 hq => ?_)
  obtain ⟨rfl, r3, rfl, h⟩ := hq
  refine gk_if_eq (tgt := 28) dX7_shelf_6 (by decide) (fun c6 => ?_) (fun c6 => ?_)
  · replace h := h.1 c6
    refine gk_bipush (v := (-2)) dX7_shelf_28 rfl ?_
    exact gk_iret dX7_shelf_30 rfl rfl rfl rfl ⟨rfl, _, rfl, h⟩
  · replace h := h.2 c6
    refine gk_iload_n dX7_shelf_9 rfl ?_
    refine gk_iconst (v := 1) dX7_shelf_10 rfl ?_
    refine gk_iconst (v := 5) dX7_shelf_11 rfl ?_
    refine gk_callS (as := [_, _, _]) (rest := []) (ctX7_within h) dX7_shelf_12 wvX7_62 wcX7_within rfl (Nat.le_of_ble_eq_true rfl) ⟨Nat.le_refl _, Nat.le_refl _⟩ (fun h9 => absurd rfl h9) (Nat.le_of_ble_eq_true rfl) rfl (fun v G2 S12 hq => ?_)
    obtain ⟨rfl, r12, rfl, h⟩ := hq
    refine gk_if_eq (tgt := 28) dX7_shelf_15 (by decide) (fun c15 => ?_) (fun c15 => ?_)
    · replace h := h.1 c15
      refine gk_bipush (v := (-2)) dX7_shelf_28 rfl ?_
      exact gk_iret dX7_shelf_30 rfl rfl rfl rfl ⟨rfl, _, rfl, h⟩
    · replace h := h.2 c15
      refine gk_iload_n dX7_shelf_18 rfl ?_
      refine gk_iconst (v := 0) dX7_shelf_19 rfl ?_
      refine gk_bipush (v := 24) dX7_shelf_20 rfl ?_
      refine gk_callS (as := [_, _, _]) (rest := []) (ctX7_within h) dX7_shelf_22 wvX7_62 wcX7_within rfl (Nat.le_of_ble_eq_true rfl) ⟨Nat.le_refl _, Nat.le_refl _⟩ (fun h9 => absurd rfl h9) (Nat.le_of_ble_eq_true rfl) rfl (fun v G2 S22 hq => ?_)
      obtain ⟨rfl, r22, rfl, h⟩ := hq
      refine gk_if_ne (tgt := 31) dX7_shelf_25 (by decide) (fun c25 => ?_) (fun c25 => ?_)
      · replace h := h.1 c25
        refine gk_aload_n dX7_shelf_31 rfl ?_
        refine gk_getr dX7_shelf_32 rfl rfl wfX7_28 ?_
        refine gk_iload_n dX7_shelf_35 rfl ?_
        refine gk_callV (as := [_]) (rest := []) (ctX2_pileUp_16 h) dX7_shelf_36 rfl rfl wvX7_152 wcX2_pileUp rfl (Nat.le_of_ble_eq_true rfl) ⟨Nat.le_refl _, Nat.le_refl _⟩ (fun h9 => absurd rfl h9) (Nat.le_of_ble_eq_true rfl) rfl (fun v G2 S36 hq => ?_)
        obtain ⟨rfl, rfl, h⟩ := hq
        refine gk_aload_n dX7_shelf_39 rfl ?_
        refine gk_getr dX7_shelf_40 rfl rfl wfX7_28 ?_
        refine gk_getr dX7_shelf_43 rfl rfl wfX7_155 ?_
        refine gk_iload_n dX7_shelf_46 rfl ?_
        refine gk_iload_n dX7_shelf_47 rfl ?_
        refine gk_callS (as := [_, _]) (rest := [_]) (ctX7_shelfNumber h) dX7_shelf_48 wvX7_158 wcX7_shelfNumber rfl (Nat.le_of_ble_eq_true rfl) ⟨Nat.le_refl _, Nat.le_refl _⟩ (fun h9 => absurd rfl h9) (Nat.le_of_ble_eq_true rfl) rfl (fun v G2 S48 hq => ?_)
        obtain ⟨rfl, r48, rfl, h⟩ := hq
        refine gk_iaload dX7_shelf_51 rfl h.1 ?_
        replace h := h.2
        exact gk_iret dX7_shelf_52 rfl rfl rfl rfl ⟨rfl, _, rfl, h⟩
      · replace h := h.2 c25
        refine gk_bipush (v := (-2)) dX7_shelf_28 rfl ?_
        exact gk_iret dX7_shelf_30 rfl rfl rfl rfl ⟨rfl, _, rfl, h⟩
set_option maxHeartbeats 4000000 in
set_option maxRecDepth 100000 in
theorem ctX8_shelf {E : gz_E} {x1 : Int32} {x2 : Int32} {x3 : Int32} {S : gz_S} {Q : Int32 → gz_S → Prop} (h : wX8_shelf x1 x2 x3 S Q) : gz_m E mX8_shelf 4 0 0 [.ref 45, .int x1, .int x2, .int x3] gz_F S (gz_qi Q) := by
  refine gz_meet0 (L0 := [some (.ref 45), some (.int x1), some (.int x2), some (.int x3)]) (by decide) rfl (Nat.le_of_ble_eq_true rfl) (by decide) ?_
  unfold wX8_shelf at h
  refine gk_iload_n dX8_shelf_0 rfl ?_
  refine gk_callS (as := [_]) (rest := []) (ctX8_isTwo h) dX8_shelf_1 wvX8_121 wcX8_isTwo rfl (Nat.le_of_ble_eq_true rfl) ⟨Nat.le_refl _, Nat.le_refl _⟩ (fun h9 => absurd rfl h9) (Nat.le_of_ble_eq_true rfl) rfl (fun v G2 S1 hq => ?_)
  obtain ⟨rfl, r1, rfl, h⟩ := hq
  refine gk_if_eq (tgt := 26) dX8_shelf_4 (by decide) (fun c4 => ?_) (fun c4 => ?_)
  · replace h := h.1 c4
    refine gk_bipush (v := (-2)) dX8_shelf_26 rfl ?_
    exact gk_iret dX8_shelf_28 rfl rfl rfl rfl ⟨rfl, _, rfl, h⟩
  · replace h := h.2 c4
    refine gk_iload_n dX8_shelf_7 rfl ?_
    refine gk_i2l dX8_shelf_8 ?_
    refine gk_lconst (v := 1) dX8_shelf_9 rfl ?_
    refine gk_ldc2 dX8_shelf_10 wkX8_165 ?_
    refine gk_callS (as := [_, _, _]) (rest := []) (ctX8_in h) dX8_shelf_13 wvX8_92 wcX8_in rfl (Nat.le_of_ble_eq_true rfl) ⟨Nat.le_refl _, Nat.le_refl _⟩ (fun h9 => absurd rfl h9) (Nat.le_of_ble_eq_true rfl) rfl (fun v G2 S13 hq => ?_)
    obtain ⟨rfl, r13, rfl, h⟩ := hq
    refine gk_if_eq (tgt := 26) dX8_shelf_16 (by decide) (fun c16 => ?_) (fun c16 => ?_)
    · replace h := h.1 c16
      refine gk_bipush (v := (-2)) dX8_shelf_26 rfl ?_
      exact gk_iret dX8_shelf_28 rfl rfl rfl rfl ⟨rfl, _, rfl, h⟩
    · replace h := h.2 c16
      refine gk_iload_n dX8_shelf_19 rfl ?_
      refine gk_callS (as := [_]) (rest := []) (ctX8_isHour h) dX8_shelf_20 wvX8_154 wcX8_isHour rfl (Nat.le_of_ble_eq_true rfl) ⟨Nat.le_refl _, Nat.le_refl _⟩ (fun h9 => absurd rfl h9) (Nat.le_of_ble_eq_true rfl) rfl (fun v G2 S20 hq => ?_)
      obtain ⟨rfl, r20, rfl, h⟩ := hq
      refine gk_if_ne (tgt := 29) dX8_shelf_23 (by decide) (fun c23 => ?_) (fun c23 => ?_)
      · replace h := h.1 c23
        refine gk_aload_n dX8_shelf_29 rfl ?_
        refine gk_callV (as := []) (rest := []) (ctX8_reads h) dX8_shelf_30 rfl rfl wvX8_147 wcX8_reads rfl (Nat.le_of_ble_eq_true rfl) ⟨Nat.le_refl _, Nat.le_refl _⟩ (fun h9 => absurd rfl h9) (Nat.le_of_ble_eq_true rfl) rfl (fun v G2 S30 hq => ?_)
        obtain ⟨rfl, rfl, h⟩ := hq
        refine gk_aload_n dX8_shelf_33 rfl ?_
        refine gk_iconst (v := (-1)) dX8_shelf_34 rfl ?_
        refine gk_callV (as := [_]) (rest := []) (ctX8_goes h) dX8_shelf_35 rfl rfl wvX8_186 wcX8_goes rfl (Nat.le_of_ble_eq_true rfl) ⟨Nat.le_refl _, Nat.le_refl _⟩ (fun h9 => absurd rfl h9) (Nat.le_of_ble_eq_true rfl) rfl (fun v G2 S35 hq => ?_)
        obtain ⟨rfl, rfl, h⟩ := hq
        refine gk_aload_n dX8_shelf_38 rfl ?_
        refine gk_iload_n dX8_shelf_39 rfl ?_
        refine gk_callV (as := [_]) (rest := []) (ctX8_heaps h) dX8_shelf_40 rfl rfl wvX8_208 wcX8_heaps rfl (Nat.le_of_ble_eq_true rfl) ⟨Nat.le_refl _, Nat.le_refl _⟩ (fun h9 => absurd rfl h9) (Nat.le_of_ble_eq_true rfl) rfl (fun v G2 S40 hq => ?_)
        obtain ⟨rfl, rfl, h⟩ := hq
        refine gk_aload_n dX8_shelf_43 rfl ?_
        refine gk_getr dX8_shelf_44 rfl rfl wfX8_61 ?_
        refine gk_bipush (v := 6) dX8_shelf_47 rfl ?_
        refine gk_iload_n dX8_shelf_49 rfl ?_
        refine gk_imul dX8_shelf_50 ?_
        refine gk_iload_n dX8_shelf_51 rfl ?_
        refine gk_iadd dX8_shelf_52 ?_
        refine gk_iaload dX8_shelf_53 rfl h.1 ?_
        replace h := h.2
        exact gk_iret dX8_shelf_54 rfl rfl rfl rfl ⟨rfl, _, rfl, h⟩
      · replace h := h.2 c23
        refine gk_bipush (v := (-2)) dX8_shelf_26 rfl ?_
        exact gk_iret dX8_shelf_28 rfl rfl rfl rfl ⟨rfl, _, rfl, h⟩
set_option maxHeartbeats 4000000 in
set_option maxRecDepth 100000 in
theorem ctX7_slid {E : gz_E} {x1 : Int32} {S : gz_S} {Q : Int32 → gz_S → Prop} (h : wX7_slid x1 S Q) : gz_m E mX7_slid 4 0 0 [.ref 0, .int x1] gz_F S (gz_qi Q) := by
  refine gz_meet0 (L0 := [some (.ref 0), some (.int x1)]) (by decide) rfl (Nat.le_of_ble_eq_true rfl) (by decide) ?_
  unfold wX7_slid at h
  refine gk_iload_n dX7_slid_0 rfl ?_
  refine gk_iconst (v := 0) dX7_slid_1 rfl ?_
  refine gk_bipush (v := 24) dX7_slid_2 rfl ?_
  refine gk_callS (as := [_, _, _]) (rest := []) (ctX7_within h) dX7_slid_4 wvX7_62 wcX7_within rfl (Nat.le_of_ble_eq_true rfl) ⟨Nat.le_refl _, Nat.le_refl _⟩ (fun h9 => absurd rfl h9) (Nat.le_of_ble_eq_true rfl) rfl (fun v G2 S4 hq => ?_)
  obtain ⟨rfl, r4, rfl, h⟩ := hq
  refine gk_if_ne (tgt := 13) dX7_slid_7 (by decide) (fun c7 => ?_) (fun c7 => ?_)
  · replace h := h.1 c7
    refine gk_aload_n dX7_slid_13 rfl ?_
    refine gk_getr dX7_slid_14 rfl rfl wfX7_28 ?_
    refine gk_iload_n dX7_slid_17 rfl ?_
    refine gk_callV (as := [_]) (rest := []) (ctX2_pileUp_16 h) dX7_slid_18 rfl rfl wvX7_152 wcX2_pileUp rfl (Nat.le_of_ble_eq_true rfl) ⟨Nat.le_refl _, Nat.le_refl _⟩ (fun h9 => absurd rfl h9) (Nat.le_of_ble_eq_true rfl) rfl (fun v G2 S18 hq => ?_)
    obtain ⟨rfl, rfl, h⟩ := hq
    refine gk_aload_n dX7_slid_21 rfl ?_
    refine gk_getr dX7_slid_22 rfl rfl wfX7_28 ?_
    refine gk_geti dX7_slid_25 rfl rfl wfX7_162 ?_
    exact gk_iret dX7_slid_28 rfl rfl rfl rfl ⟨rfl, _, rfl, h⟩
  · replace h := h.2 c7
    refine gk_bipush (v := (-2)) dX7_slid_10 rfl ?_
    exact gk_iret dX7_slid_12 rfl rfl rfl rfl ⟨rfl, _, rfl, h⟩
set_option maxHeartbeats 4000000 in
set_option maxRecDepth 100000 in
theorem ctX8_slidOf {E : gz_E} {x1 : Int32} {S : gz_S} {Q : Int32 → gz_S → Prop} (h : wX8_slidOf x1 S Q) : gz_m E mX8_slidOf 4 0 0 [.ref 45, .int x1] gz_F S (gz_qi Q) := by
  refine gz_meet0 (L0 := [some (.ref 45), some (.int x1)]) (by decide) rfl (Nat.le_of_ble_eq_true rfl) (by decide) ?_
  unfold wX8_slidOf at h
  refine gk_aload_n dX8_slidOf_0 rfl ?_
  refine gk_iconst (v := (-1)) dX8_slidOf_1 rfl ?_
  refine gk_callV (as := [_]) (rest := []) (ctX8_goes h) dX8_slidOf_2 rfl rfl wvX8_186 wcX8_goes rfl (Nat.le_of_ble_eq_true rfl) ⟨Nat.le_refl _, Nat.le_refl _⟩ (fun h9 => absurd rfl h9) (Nat.le_of_ble_eq_true rfl) rfl (fun v G2 S2 hq => ?_)
  obtain ⟨rfl, rfl, h⟩ := hq
  refine gk_aload_n dX8_slidOf_5 rfl ?_
  refine gk_iload_n dX8_slidOf_6 rfl ?_
  refine gk_callV (as := [_]) (rest := []) (ctX8_heaps h) dX8_slidOf_7 rfl rfl wvX8_208 wcX8_heaps rfl (Nat.le_of_ble_eq_true rfl) ⟨Nat.le_refl _, Nat.le_refl _⟩ (fun h9 => absurd rfl h9) (Nat.le_of_ble_eq_true rfl) rfl (fun v G2 S7 hq => ?_)
  obtain ⟨rfl, rfl, h⟩ := hq
  refine gk_aload_n dX8_slidOf_10 rfl ?_
  refine gk_geti dX8_slidOf_11 rfl rfl wfX8_199 ?_
  exact gk_iret dX8_slidOf_14 rfl rfl rfl rfl ⟨rfl, _, rfl, h⟩
set_option maxHeartbeats 4000000 in
set_option maxRecDepth 100000 in
theorem ctX8_slid {E : gz_E} {x1 : Int32} {S : gz_S} {Q : Int32 → gz_S → Prop} (h : wX8_slid x1 S Q) : gz_m E mX8_slid 5 0 0 [.ref 45, .int x1] gz_F S (gz_qi Q) := by
  refine gz_meet0 (L0 := [some (.ref 45), some (.int x1)]) (by decide) rfl (Nat.le_of_ble_eq_true rfl) (by decide) ?_
  unfold wX8_slid at h
  refine gk_aload_n dX8_slid_0 rfl ?_
  refine gk_callV (as := []) (rest := []) (ctX8_reads h) dX8_slid_1 rfl rfl wvX8_147 wcX8_reads rfl (Nat.le_of_ble_eq_true rfl) ⟨Nat.le_refl _, Nat.le_refl _⟩ (fun h9 => absurd rfl h9) (Nat.le_of_ble_eq_true rfl) rfl (fun v G2 S1 hq => ?_)
  obtain ⟨rfl, rfl, h⟩ := hq
  refine gk_iload_n dX8_slid_4 rfl ?_
  refine gk_callS (as := [_]) (rest := []) (ctX8_isHour h) dX8_slid_5 wvX8_154 wcX8_isHour rfl (Nat.le_of_ble_eq_true rfl) ⟨Nat.le_refl _, Nat.le_refl _⟩ (fun h9 => absurd rfl h9) (Nat.le_of_ble_eq_true rfl) rfl (fun v G2 S5 hq => ?_)
  obtain ⟨rfl, r5, rfl, h⟩ := hq
  refine gk_if_eq (tgt := 19) dX8_slid_8 (by decide) (fun c8 => ?_) (fun c8 => ?_)
  · replace h := h.1 c8
    refine gk_bipush (v := (-2)) dX8_slid_19 rfl ?_
    exact gk_iret dX8_slid_21 rfl rfl rfl rfl ⟨rfl, _, rfl, h⟩
  · replace h := h.2 c8
    refine gk_aload_n dX8_slid_11 rfl ?_
    refine gk_iload_n dX8_slid_12 rfl ?_
    refine gk_callV (as := [_]) (rest := []) (ctX8_slidOf h) dX8_slid_13 rfl rfl wvX8_217 wcX8_slidOf rfl (Nat.le_of_ble_eq_true rfl) ⟨Nat.le_refl _, Nat.le_refl _⟩ (fun h9 => absurd rfl h9) (Nat.le_of_ble_eq_true rfl) rfl (fun v G2 S13 hq => ?_)
    obtain ⟨rfl, r13, rfl, h⟩ := hq
    refine gk_goto (tgt := 21) dX8_slid_16 (by decide) ?_
    exact gk_iret dX8_slid_21 rfl rfl rfl rfl ⟨rfl, _, rfl, h⟩
set_option maxHeartbeats 4000000 in
set_option maxRecDepth 100000 in
theorem oX7_when_2 {E : gz_E} {Q : Int32 → gz_S → Prop} : ∀ (n : Nat) (x1 : Int32) (S : gz_S), wX7_when_2 Q n x1 S → gz_k E mX7_when (5, 0, 0, 73) 0 0 2 [some (.ref 0), some (.int x1)] [] gz_F S (gz_qi Q) := by
  intro n
  induction n with
  | zero =>
    intro x1 S h
    exact h.elim
  | succ n ih =>
    intro x1 S h
    unfold wX7_when_2 at h
    refine gk_iload_n dX7_when_2 rfl ?_
    refine gk_aload_n dX7_when_3 rfl ?_
    refine gk_getr dX7_when_4 rfl rfl wfX7_10 ?_
    refine gk_geti dX7_when_7 rfl rfl wfX7_122 ?_
    refine gk_icmp_gt (tgt := 32) dX7_when_10 (by decide) (fun c10 => ?_) (fun c10 => ?_)
    · replace h := h.1 c10
      refine gk_iconst (v := (-1)) dX7_when_32 rfl ?_
      exact gk_iret dX7_when_33 rfl rfl rfl rfl ⟨rfl, _, rfl, h⟩
    · replace h := h.2 c10
      refine gk_aload_n dX7_when_13 rfl ?_
      refine gk_getr dX7_when_14 rfl rfl wfX7_28 ?_
      refine gk_iload_n dX7_when_17 rfl ?_
      refine gk_callV (as := [_]) (rest := []) (ctX2_tipAt_16 h) dX7_when_18 rfl rfl wvX7_149 wcX2_tipAt rfl (Nat.le_of_ble_eq_true rfl) ⟨Nat.le_refl _, Nat.le_refl _⟩ (fun h9 => absurd rfl h9) (Nat.le_of_ble_eq_true rfl) rfl (fun v G2 S18 hq => ?_)
      obtain ⟨rfl, r18, rfl, h⟩ := hq
      refine gk_if_le (tgt := 26) dX7_when_21 (by decide) (fun c21 => ?_) (fun c21 => ?_)
      · replace h := h.1 c21
        refine gk_iinc dX7_when_26 rfl (Nat.le_of_ble_eq_true rfl) rfl rfl rfl ?_
        refine gk_goto (tgt := 2) dX7_when_29 (by decide) ?_
        exact gk_less (gz_le_s rfl (gz_le_s rfl gz_le_0)) (ih _ _ h)
      · replace h := h.2 c21
        refine gk_iload_n dX7_when_24 rfl ?_
        exact gk_iret dX7_when_25 rfl rfl rfl rfl ⟨rfl, _, rfl, h⟩
set_option maxHeartbeats 4000000 in
set_option maxRecDepth 100000 in
theorem ctX7_when {E : gz_E} {S : gz_S} {Q : Int32 → gz_S → Prop} (h : wX7_when S Q) : gz_m E mX7_when 5 0 0 [.ref 0] gz_F S (gz_qi Q) := by
  refine gz_meet0 (L0 := [some (.ref 0), none]) (by decide) rfl (Nat.le_of_ble_eq_true rfl) (by decide) ?_
  unfold wX7_when at h
  refine gk_iconst (v := 0) dX7_when_0 rfl ?_
  refine gk_istore_n dX7_when_1 (Nat.le_of_ble_eq_true rfl) rfl rfl ?_
  obtain ⟨m2, h⟩ := h
  exact gk_less (gz_le_s rfl (gz_le_s rfl gz_le_0)) (oX7_when_2 m2 _ _ h)
set_option maxHeartbeats 4000000 in
set_option maxRecDepth 100000 in
theorem ctX8_end {E : gz_E} {S : gz_S} {Q : Int32 → gz_S → Prop} (h : wX8_end S Q) : gz_m E mX8_end 1 0 0 [.ref 45] gz_F S (gz_qi Q) := by
  refine gz_meet0 (L0 := [some (.ref 45)]) (by decide) rfl (Nat.le_of_ble_eq_true rfl) (by decide) ?_
  unfold wX8_end at h
  refine gk_aload_n dX8_end_0 rfl ?_
  refine gk_getr dX8_end_1 rfl rfl wfX8_40 ?_
  refine gk_iconst (v := 0) dX8_end_4 rfl ?_
  refine gk_iaload dX8_end_5 rfl h.1 ?_
  replace h := h.2
  exact gk_iret dX8_end_6 rfl rfl rfl rfl ⟨rfl, _, rfl, h⟩
set_option maxHeartbeats 4000000 in
set_option maxRecDepth 100000 in
theorem oX8_whenNow_2 {E : gz_E} {Q : Int32 → gz_S → Prop} : ∀ (n : Nat) (x1 : Int32) (S : gz_S), wX8_whenNow_2 Q n x1 S → gz_k E mX8_whenNow (5, 0, 0, 73) 0 0 2 [some (.ref 45), some (.int x1)] [] gz_F S (gz_qi Q) := by
  intro n
  induction n with
  | zero =>
    intro x1 S h
    exact h.elim
  | succ n ih =>
    intro x1 S h
    unfold wX8_whenNow_2 at h
    refine gk_iload_n dX8_whenNow_2 rfl ?_
    refine gk_aload_n dX8_whenNow_3 rfl ?_
    refine gk_callV (as := []) (rest := [_]) (ctX8_end h) dX8_whenNow_4 rfl rfl wvX8_220 wcX8_end rfl (Nat.le_of_ble_eq_true rfl) ⟨Nat.le_refl _, Nat.le_refl _⟩ (fun h9 => absurd rfl h9) (Nat.le_of_ble_eq_true rfl) rfl (fun v G2 S4 hq => ?_)
    obtain ⟨rfl, r4, rfl, h⟩ := hq
    refine gk_icmp_gt (tgt := 26) dX8_whenNow_7 (by decide) (fun c7 => ?_) (fun c7 => ?_)
    · replace h := h.1 c7
      refine gk_iconst (v := (-1)) dX8_whenNow_26 rfl ?_
      exact gk_iret dX8_whenNow_27 rfl rfl rfl rfl ⟨rfl, _, rfl, h⟩
    · replace h := h.2 c7
      refine gk_aload_n dX8_whenNow_10 rfl ?_
      refine gk_iload_n dX8_whenNow_11 rfl ?_
      refine gk_callV (as := [_]) (rest := []) (ctX8_tipOf h) dX8_whenNow_12 rfl rfl wvX8_214 wcX8_tipOf rfl (Nat.le_of_ble_eq_true rfl) ⟨Nat.le_refl _, Nat.le_refl _⟩ (fun h9 => absurd rfl h9) (Nat.le_of_ble_eq_true rfl) rfl (fun v G2 S12 hq => ?_)
      obtain ⟨rfl, r12, rfl, h⟩ := hq
      refine gk_if_le (tgt := 20) dX8_whenNow_15 (by decide) (fun c15 => ?_) (fun c15 => ?_)
      · replace h := h.1 c15
        refine gk_iinc dX8_whenNow_20 rfl (Nat.le_of_ble_eq_true rfl) rfl rfl rfl ?_
        refine gk_goto (tgt := 2) dX8_whenNow_23 (by decide) ?_
        exact gk_less (gz_le_s rfl (gz_le_s rfl gz_le_0)) (ih _ _ h)
      · replace h := h.2 c15
        refine gk_iload_n dX8_whenNow_18 rfl ?_
        exact gk_iret dX8_whenNow_19 rfl rfl rfl rfl ⟨rfl, _, rfl, h⟩
set_option maxHeartbeats 4000000 in
set_option maxRecDepth 100000 in
theorem ctX8_whenNow {E : gz_E} {S : gz_S} {Q : Int32 → gz_S → Prop} (h : wX8_whenNow S Q) : gz_m E mX8_whenNow 5 0 0 [.ref 45] gz_F S (gz_qi Q) := by
  refine gz_meet0 (L0 := [some (.ref 45), none]) (by decide) rfl (Nat.le_of_ble_eq_true rfl) (by decide) ?_
  unfold wX8_whenNow at h
  refine gk_iconst (v := 0) dX8_whenNow_0 rfl ?_
  refine gk_istore_n dX8_whenNow_1 (Nat.le_of_ble_eq_true rfl) rfl rfl ?_
  obtain ⟨m2, h⟩ := h
  exact gk_less (gz_le_s rfl (gz_le_s rfl gz_le_0)) (oX8_whenNow_2 m2 _ _ h)
set_option maxHeartbeats 4000000 in
set_option maxRecDepth 100000 in
theorem ctX8_when {E : gz_E} {S : gz_S} {Q : Int32 → gz_S → Prop} (h : wX8_when S Q) : gz_m E mX8_when 6 0 0 [.ref 45] gz_F S (gz_qi Q) := by
  refine gz_meet0 (L0 := [some (.ref 45)]) (by decide) rfl (Nat.le_of_ble_eq_true rfl) (by decide) ?_
  unfold wX8_when at h
  refine gk_aload_n dX8_when_0 rfl ?_
  refine gk_callV (as := []) (rest := []) (ctX8_reads h) dX8_when_1 rfl rfl wvX8_147 wcX8_reads rfl (Nat.le_of_ble_eq_true rfl) ⟨Nat.le_refl _, Nat.le_refl _⟩ (fun h9 => absurd rfl h9) (Nat.le_of_ble_eq_true rfl) rfl (fun v G2 S1 hq => ?_)
  obtain ⟨rfl, rfl, h⟩ := hq
  refine gk_aload_n dX8_when_4 rfl ?_
  refine gk_callV (as := []) (rest := []) (ctX8_whenNow h) dX8_when_5 rfl rfl wvX8_223 wcX8_whenNow rfl (Nat.le_of_ble_eq_true rfl) ⟨Nat.le_refl _, Nat.le_refl _⟩ (fun h9 => absurd rfl h9) (Nat.le_of_ble_eq_true rfl) rfl (fun v G2 S5 hq => ?_)
  obtain ⟨rfl, r5, rfl, h⟩ := hq
  exact gk_iret dX8_when_8 rfl rfl rfl rfl ⟨rfl, _, rfl, h⟩
set_option maxHeartbeats 4000000 in
set_option maxRecDepth 100000 in
theorem oX2_weightLead_4_16 {E : gz_E} {Q : Int32 → gz_S → Prop} : ∀ (n : Nat) (x1 : Int32) (x2 : Int32) (S : gz_S), wX2_weightLead_4 Q n 16 x1 x2 S → gz_k E mX2_weightLead (2, 0, 0, 73) 0 0 4 [some (.ref 16), some (.int x1), some (.int x2)] [] gz_F S (gz_qi Q) := by
  intro n
  induction n with
  | zero =>
    intro x1 x2 S h
    exact h.elim
  | succ n ih =>
    intro x1 x2 S h
    unfold wX2_weightLead_4 at h
    refine gk_iload_n dX2_weightLead_4 rfl ?_
    refine gk_iconst (v := 5) dX2_weightLead_5 rfl ?_
    refine gk_icmp_gt (tgt := 39) dX2_weightLead_6 (by decide) (fun c6 => ?_) (fun c6 => ?_)
    · replace h := h.1 c6
      refine gk_iload_n dX2_weightLead_39 rfl ?_
      exact gk_iret dX2_weightLead_40 rfl rfl rfl rfl ⟨rfl, _, rfl, h⟩
    · replace h := h.2 c6
      refine gk_iload_n dX2_weightLead_9 rfl ?_
      refine gk_aload_n dX2_weightLead_10 rfl ?_
      refine gk_getr dX2_weightLead_11 rfl rfl wfX2_28 ?_
      refine gk_iconst (v := 0) dX2_weightLead_14 rfl ?_
      refine gk_iload_n dX2_weightLead_15 rfl ?_
      refine gk_callSN (as := [_, _]) (rest := [_, _]) (ctX7_shelfNumber h) dX2_weightLead_16 wvX2_106 wcX7_shelfNumber rfl (Nat.le_of_ble_eq_true rfl) ⟨Nat.le_refl _, Nat.le_refl _⟩ (fun h9 => absurd rfl h9) (Nat.le_of_ble_eq_true rfl) rfl (fun v G2 S16 hq => ?_)
      obtain ⟨rfl, r16, rfl, h⟩ := hq
      refine gk_iaload dX2_weightLead_19 rfl h.1 ?_
      replace h := h.2
      refine gk_aload_n dX2_weightLead_20 rfl ?_
      refine gk_getr dX2_weightLead_21 rfl rfl wfX2_28 ?_
      refine gk_iconst (v := 1) dX2_weightLead_24 rfl ?_
      refine gk_iload_n dX2_weightLead_25 rfl ?_
      refine gk_callSN (as := [_, _]) (rest := [_, _, _]) (ctX7_shelfNumber h) dX2_weightLead_26 wvX2_106 wcX7_shelfNumber rfl (Nat.le_of_ble_eq_true rfl) ⟨Nat.le_refl _, Nat.le_refl _⟩ (fun h9 => absurd rfl h9) (Nat.le_of_ble_eq_true rfl) rfl (fun v G2 S26 hq => ?_)
      obtain ⟨rfl, r26, rfl, h⟩ := hq
      refine gk_iaload dX2_weightLead_29 rfl h.1 ?_
      replace h := h.2
      refine gk_isub dX2_weightLead_30 ?_
      refine gk_iadd dX2_weightLead_31 ?_
      refine gk_nmi (fun v1_32 ev1_32 => ?_)
      replace h := h v1_32 ev1_32
      refine gk_istore_n dX2_weightLead_32 (Nat.le_of_ble_eq_true rfl) rfl rfl ?_
      refine gk_iinc dX2_weightLead_33 rfl (Nat.le_of_ble_eq_true rfl) rfl rfl rfl ?_
      refine gk_goto (tgt := 4) dX2_weightLead_36 (by decide) ?_
      exact gk_less (gz_le_s rfl (gz_le_s rfl (gz_le_s rfl gz_le_0))) (ih _ _ _ h)
set_option maxHeartbeats 4000000 in
set_option maxRecDepth 100000 in
theorem ctX2_weightLead_16 {E : gz_E} {S : gz_S} {Q : Int32 → gz_S → Prop} (h : wX2_weightLead 16 S Q) : gz_m E mX2_weightLead 2 0 0 [.ref 16] gz_F S (gz_qi Q) := by
  refine gz_meet0 (L0 := [some (.ref 16), none, none]) (by decide) rfl (Nat.le_of_ble_eq_true rfl) (by decide) ?_
  unfold wX2_weightLead at h
  refine gk_iconst (v := 0) dX2_weightLead_0 rfl ?_
  refine gk_istore_n dX2_weightLead_1 (Nat.le_of_ble_eq_true rfl) rfl rfl ?_
  refine gk_iconst (v := 1) dX2_weightLead_2 rfl ?_
  refine gk_istore_n dX2_weightLead_3 (Nat.le_of_ble_eq_true rfl) rfl rfl ?_
  obtain ⟨m4, h⟩ := h
  exact gk_less (gz_le_s rfl (gz_le_s rfl (gz_le_s rfl gz_le_0))) (oX2_weightLead_4_16 m4 _ _ _ h)
set_option maxHeartbeats 4000000 in
set_option maxRecDepth 100000 in
theorem oX2_votersLead_31_16 {E : gz_E} {k4 : Int32 → Int32 → gz_S → Prop} {Q : Int32 → gz_S → Prop} (hk4 : ∀ (x1 : Int32) (x2 : Int32) (S : gz_S), k4 x1 x2 S → gz_k E mX2_votersLead (2, 0, 0, 73) 0 0 4 [some (.ref 16), some (.int x1), some (.int x2), none] [] gz_F S (gz_qi Q)) : ∀ (x1 : Int32) (x2 : Int32) (S : gz_S), wX2_votersLead_31 k4 Q 16 x1 x2 S → gz_k E mX2_votersLead (2, 0, 0, 73) 0 0 31 [some (.ref 16), some (.int x1), some (.int x2), none] [] gz_F S (gz_qi Q) := by
  intro x1 x2 S h
  unfold wX2_votersLead_31 at h
  refine gk_iinc dX2_votersLead_31 rfl (Nat.le_of_ble_eq_true rfl) rfl rfl rfl ?_
  refine gk_goto (tgt := 4) dX2_votersLead_34 (by decide) ?_
  exact gk_less (gz_le_s rfl (gz_le_s rfl (gz_le_s rfl (gz_le_n gz_le_0)))) (hk4 _ _ _ h)
set_option maxHeartbeats 4000000 in
set_option maxRecDepth 100000 in
theorem oX2_votersLead_82_16 {E : gz_E} {k41 : Int32 → Int32 → Int32 → gz_S → Prop} {Q : Int32 → gz_S → Prop} (hk41 : ∀ (x1 : Int32) (x2 : Int32) (x3 : Int32) (S : gz_S), k41 x1 x2 x3 S → gz_k E mX2_votersLead (2, 0, 0, 73) 0 0 41 [some (.ref 16), some (.int x1), some (.int x2), some (.int x3)] [] gz_F S (gz_qi Q)) : ∀ (x1 : Int32) (x2 : Int32) (x3 : Int32) (S : gz_S), wX2_votersLead_82 k41 Q 16 x1 x2 x3 S → gz_k E mX2_votersLead (2, 0, 0, 73) 0 0 82 [some (.ref 16), some (.int x1), some (.int x2), some (.int x3)] [] gz_F S (gz_qi Q) := by
  intro x1 x2 x3 S h
  unfold wX2_votersLead_82 at h
  refine gk_iinc dX2_votersLead_82 rfl (Nat.le_of_ble_eq_true rfl) rfl rfl rfl ?_
  refine gk_goto (tgt := 41) dX2_votersLead_85 (by decide) ?_
  exact gk_less (gz_le_s rfl (gz_le_s rfl (gz_le_s rfl (gz_le_s rfl gz_le_0)))) (hk41 _ _ _ _ h)
set_option maxHeartbeats 4000000 in
set_option maxRecDepth 100000 in
theorem oX2_votersLead_80_16 {E : gz_E} {k41 : Int32 → Int32 → Int32 → gz_S → Prop} {Q : Int32 → gz_S → Prop} (hk41 : ∀ (x1 : Int32) (x2 : Int32) (x3 : Int32) (S : gz_S), k41 x1 x2 x3 S → gz_k E mX2_votersLead (2, 0, 0, 73) 0 0 41 [some (.ref 16), some (.int x1), some (.int x2), some (.int x3)] [] gz_F S (gz_qi Q)) : ∀ (x1 : Int32) (x3 : Int32) (t0 : Int32) (t1 : Int32) (S : gz_S), wX2_votersLead_80 k41 Q 16 x1 x3 t0 t1 S → gz_k E mX2_votersLead (2, 0, 0, 73) 0 0 80 [some (.ref 16), some (.int x1), none, some (.int x3)] [.int t1, .int t0] gz_F S (gz_qi Q) := by
  intro x1 x3 t0 t1 S h
  unfold wX2_votersLead_80 at h
  refine gk_iadd dX2_votersLead_80 ?_
  refine gk_nmi (fun v2_81 ev2_81 => ?_)
  replace h := h v2_81 ev2_81
  refine gk_istore_n dX2_votersLead_81 (Nat.le_of_ble_eq_true rfl) rfl rfl ?_
  exact gk_less (gz_le_s rfl (gz_le_s rfl (gz_le_s rfl (gz_le_s rfl gz_le_0)))) (oX2_votersLead_82_16 hk41 _ _ _ _ h)
set_option maxHeartbeats 4000000 in
set_option maxRecDepth 100000 in
theorem oX2_votersLead_41_16 {E : gz_E} {Q : Int32 → gz_S → Prop} : ∀ (n : Nat) (x1 : Int32) (x2 : Int32) (x3 : Int32) (S : gz_S), wX2_votersLead_41 Q n 16 x1 x2 x3 S → gz_k E mX2_votersLead (2, 0, 0, 73) 0 0 41 [some (.ref 16), some (.int x1), some (.int x2), some (.int x3)] [] gz_F S (gz_qi Q) := by
  intro n
  induction n with
  | zero =>
    intro x1 x2 x3 S h
    exact h.elim
  | succ n ih =>
    intro x1 x2 x3 S h
    unfold wX2_votersLead_41 at h
    refine gk_iload_n dX2_votersLead_41 rfl ?_
    refine gk_aload_n dX2_votersLead_42 rfl ?_
    refine gk_getr dX2_votersLead_43 rfl rfl wfX2_37 ?_
    refine gk_getr dX2_votersLead_46 rfl rfl wfX2_73 ?_
    refine gk_geti dX2_votersLead_49 rfl rfl wfX2_79 ?_
    refine gk_icmp_ge (tgt := 88) dX2_votersLead_52 (by decide) (fun c52 => ?_) (fun c52 => ?_)
    · replace h := h.1 c52
      refine gk_iload_n dX2_votersLead_88 rfl ?_
      exact gk_iret dX2_votersLead_89 rfl rfl rfl rfl ⟨rfl, _, rfl, h⟩
    · replace h := h.2 c52
      refine gk_iload_n dX2_votersLead_55 rfl ?_
      refine gk_iload_n dX2_votersLead_56 rfl ?_
      refine gk_ishr dX2_votersLead_57 ?_
      refine gk_iconst (v := 1) dX2_votersLead_58 rfl ?_
      refine gk_iand dX2_votersLead_59 ?_
      refine gk_if_eq (tgt := 82) dX2_votersLead_60 (by decide) (fun c60 => ?_) (fun c60 => ?_)
      · replace h := h.1 c60
        exact gk_less (gz_le_s rfl (gz_le_s rfl (gz_le_s rfl (gz_le_s rfl gz_le_0)))) (oX2_votersLead_82_16 (fun y0 y1 y2 S h => ih y0 y1 y2 S h) _ _ _ _ h)
      · replace h := h.2 c60
        refine gk_iload_n dX2_votersLead_63 rfl ?_
        refine gk_aload_n dX2_votersLead_64 rfl ?_
        refine gk_getr dX2_votersLead_65 rfl rfl wfX2_37 ?_
        refine gk_iload_n dX2_votersLead_68 rfl ?_
        refine gk_callV (as := [_]) (rest := [_]) (ctX3_sideOf h) dX2_votersLead_69 rfl rfl wvX2_100 wcX3_sideOf rfl (Nat.le_of_ble_eq_true rfl) ⟨Nat.le_refl _, Nat.le_refl _⟩ (fun h9 => absurd rfl h9) (Nat.le_of_ble_eq_true rfl) rfl (fun v G2 S69 hq => ?_)
        obtain ⟨rfl, r69, rfl, h⟩ := hq
        refine gk_if_ne (tgt := 79) dX2_votersLead_72 (by decide) (fun c72 => ?_) (fun c72 => ?_)
        · replace h := h.1 c72
          refine gk_iconst (v := (-1)) dX2_votersLead_79 rfl ?_
          exact gk_less (gz_le_s rfl (gz_le_s rfl (gz_le_n (gz_le_s rfl gz_le_0)))) (oX2_votersLead_80_16 (fun y0 y1 y2 S h => ih y0 y1 y2 S h) _ _ _ _ _ h)
        · replace h := h.2 c72
          refine gk_iconst (v := 1) dX2_votersLead_75 rfl ?_
          refine gk_goto (tgt := 80) dX2_votersLead_76 (by decide) ?_
          exact gk_less (gz_le_s rfl (gz_le_s rfl (gz_le_n (gz_le_s rfl gz_le_0)))) (oX2_votersLead_80_16 (fun y0 y1 y2 S h => ih y0 y1 y2 S h) _ _ _ _ _ h)
set_option maxHeartbeats 4000000 in
set_option maxRecDepth 100000 in
theorem oX2_votersLead_4_16 {E : gz_E} {Q : Int32 → gz_S → Prop} : ∀ (n : Nat) (x1 : Int32) (x2 : Int32) (S : gz_S), wX2_votersLead_4 Q n 16 x1 x2 S → gz_k E mX2_votersLead (2, 0, 0, 73) 0 0 4 [some (.ref 16), some (.int x1), some (.int x2), none] [] gz_F S (gz_qi Q) := by
  intro n
  induction n with
  | zero =>
    intro x1 x2 S h
    exact h.elim
  | succ n ih =>
    intro x1 x2 S h
    unfold wX2_votersLead_4 at h
    refine gk_iload_n dX2_votersLead_4 rfl ?_
    refine gk_bipush (v := 9) dX2_votersLead_5 rfl ?_
    refine gk_icmp_ge (tgt := 37) dX2_votersLead_7 (by decide) (fun c7 => ?_) (fun c7 => ?_)
    · replace h := h.1 c7
      refine gk_iconst (v := 0) dX2_votersLead_37 rfl ?_
      refine gk_istore_n dX2_votersLead_38 (Nat.le_of_ble_eq_true rfl) rfl rfl ?_
      refine gk_iconst (v := 0) dX2_votersLead_39 rfl ?_
      refine gk_istore_n dX2_votersLead_40 (Nat.le_of_ble_eq_true rfl) rfl rfl ?_
      obtain ⟨m41, h⟩ := h
      exact gk_less (gz_le_s rfl (gz_le_s rfl (gz_le_s rfl (gz_le_s rfl gz_le_0)))) (oX2_votersLead_41_16 m41 _ _ _ _ h)
    · replace h := h.2 c7
      refine gk_aload_n dX2_votersLead_10 rfl ?_
      refine gk_getr dX2_votersLead_11 rfl rfl wfX2_31 ?_
      refine gk_iload_n dX2_votersLead_14 rfl ?_
      refine gk_iaload dX2_votersLead_15 rfl h.1 ?_
      replace h := h.2
      refine gk_iconst (v := (-1)) dX2_votersLead_16 rfl ?_
      refine gk_icmp_eq (tgt := 31) dX2_votersLead_17 (by decide) (fun c17 => ?_) (fun c17 => ?_)
      · replace h := h.1 c17
        exact gk_less (gz_le_s rfl (gz_le_s rfl (gz_le_s rfl (gz_le_n gz_le_0)))) (oX2_votersLead_31_16 (fun y0 y1 S h => ih y0 y1 S h) _ _ _ h)
      · replace h := h.2 c17
        refine gk_iload_n dX2_votersLead_20 rfl ?_
        refine gk_iconst (v := 1) dX2_votersLead_21 rfl ?_
        refine gk_aload_n dX2_votersLead_22 rfl ?_
        refine gk_getr dX2_votersLead_23 rfl rfl wfX2_15 ?_
        refine gk_iload_n dX2_votersLead_26 rfl ?_
        refine gk_iaload dX2_votersLead_27 rfl h.1 ?_
        replace h := h.2
        refine gk_ishl dX2_votersLead_28 ?_
        refine gk_ior dX2_votersLead_29 ?_
        refine gk_nmi (fun v1_30 ev1_30 => ?_)
        replace h := h v1_30 ev1_30
        refine gk_istore_n dX2_votersLead_30 (Nat.le_of_ble_eq_true rfl) rfl rfl ?_
        exact gk_less (gz_le_s rfl (gz_le_s rfl (gz_le_s rfl (gz_le_n gz_le_0)))) (oX2_votersLead_31_16 (fun y0 y1 S h => ih y0 y1 S h) _ _ _ h)
set_option maxHeartbeats 4000000 in
set_option maxRecDepth 100000 in
theorem ctX2_votersLead_16 {E : gz_E} {S : gz_S} {Q : Int32 → gz_S → Prop} (h : wX2_votersLead 16 S Q) : gz_m E mX2_votersLead 2 0 0 [.ref 16] gz_F S (gz_qi Q) := by
  refine gz_meet0 (L0 := [some (.ref 16), none, none, none]) (by decide) rfl (Nat.le_of_ble_eq_true rfl) (by decide) ?_
  unfold wX2_votersLead at h
  refine gk_iconst (v := 0) dX2_votersLead_0 rfl ?_
  refine gk_istore_n dX2_votersLead_1 (Nat.le_of_ble_eq_true rfl) rfl rfl ?_
  refine gk_iconst (v := 0) dX2_votersLead_2 rfl ?_
  refine gk_istore_n dX2_votersLead_3 (Nat.le_of_ble_eq_true rfl) rfl rfl ?_
  obtain ⟨m4, h⟩ := h
  exact gk_less (gz_le_s rfl (gz_le_s rfl (gz_le_s rfl (gz_le_n gz_le_0)))) (oX2_votersLead_4_16 m4 _ _ _ h)
set_option maxHeartbeats 4000000 in
set_option maxRecDepth 100000 in
theorem ctX7_result {E : gz_E} {x1 : Int32} {S : gz_S} {Q : Int32 → gz_S → Prop} (h : wX7_result x1 S Q) : gz_m E mX7_result 5 0 0 [.ref 0, .int x1] gz_F S (gz_qi Q) := by
  refine gz_meet0 (L0 := [some (.ref 0), some (.int x1), none]) (by decide) rfl (Nat.le_of_ble_eq_true rfl) (by decide) ?_
  unfold wX7_result at h
  refine gk_iload_n dX7_result_0 rfl ?_
  refine gk_iconst (v := 0) dX7_result_1 rfl ?_
  refine gk_iconst (v := 2) dX7_result_2 rfl ?_
  refine gk_callS (as := [_, _, _]) (rest := []) (ctX7_within h) dX7_result_3 wvX7_62 wcX7_within rfl (Nat.le_of_ble_eq_true rfl) ⟨Nat.le_refl _, Nat.le_refl _⟩ (fun h9 => absurd rfl h9) (Nat.le_of_ble_eq_true rfl) rfl (fun v G2 S3 hq => ?_)
  obtain ⟨rfl, r3, rfl, h⟩ := hq
  refine gk_if_ne (tgt := 13) dX7_result_6 (by decide) (fun c6 => ?_) (fun c6 => ?_)
  · replace h := h.1 c6
    refine gk_aload_n dX7_result_13 rfl ?_
    refine gk_getr dX7_result_14 rfl rfl wfX7_28 ?_
    refine gk_aload_n dX7_result_17 rfl ?_
    refine gk_getr dX7_result_18 rfl rfl wfX7_10 ?_
    refine gk_geti dX7_result_21 rfl rfl wfX7_122 ?_
    refine gk_callV (as := [_]) (rest := []) (ctX2_tipAt_16 h) dX7_result_24 rfl rfl wvX7_149 wcX2_tipAt rfl (Nat.le_of_ble_eq_true rfl) ⟨Nat.le_refl _, Nat.le_refl _⟩ (fun h9 => absurd rfl h9) (Nat.le_of_ble_eq_true rfl) rfl (fun v G2 S24 hq => ?_)
    obtain ⟨rfl, r24, rfl, h⟩ := hq
    refine gk_istore_n dX7_result_27 (Nat.le_of_ble_eq_true rfl) rfl rfl ?_
    refine gk_iload_n dX7_result_28 rfl ?_
    refine gk_if_ne (tgt := 34) dX7_result_29 (by decide) (fun c29 => ?_) (fun c29 => ?_)
    · replace h := h.1 c29
      refine gk_iload_n dX7_result_34 rfl ?_
      refine gk_iconst (v := 1) dX7_result_35 rfl ?_
      refine gk_icmp_ne (tgt := 49) dX7_result_36 (by decide) (fun c36 => ?_) (fun c36 => ?_)
      · replace h := h.1 c36
        refine gk_aload_n dX7_result_49 rfl ?_
        refine gk_getr dX7_result_50 rfl rfl wfX7_28 ?_
        refine gk_callV (as := []) (rest := []) (ctX2_votersLead_16 h) dX7_result_53 rfl rfl wvX7_169 wcX2_votersLead rfl (Nat.le_of_ble_eq_true rfl) ⟨Nat.le_refl _, Nat.le_refl _⟩ (fun h9 => absurd rfl h9) (Nat.le_of_ble_eq_true rfl) rfl (fun v G2 S53 hq => ?_)
        obtain ⟨rfl, r53, rfl, h⟩ := hq
        exact gk_iret dX7_result_56 rfl rfl rfl rfl ⟨rfl, _, rfl, h⟩
      · replace h := h.2 c36
        refine gk_aload_n dX7_result_39 rfl ?_
        refine gk_getr dX7_result_40 rfl rfl wfX7_28 ?_
        refine gk_callV (as := []) (rest := []) (ctX2_weightLead_16 h) dX7_result_43 rfl rfl wvX7_165 wcX2_weightLead rfl (Nat.le_of_ble_eq_true rfl) ⟨Nat.le_refl _, Nat.le_refl _⟩ (fun h9 => absurd rfl h9) (Nat.le_of_ble_eq_true rfl) rfl (fun v G2 S43 hq => ?_)
        obtain ⟨rfl, r43, rfl, h⟩ := hq
        refine gk_goto (tgt := 56) dX7_result_46 (by decide) ?_
        exact gk_iret dX7_result_56 rfl rfl rfl rfl ⟨rfl, _, rfl, h⟩
    · replace h := h.2 c29
      refine gk_iload_n dX7_result_32 rfl ?_
      exact gk_iret dX7_result_33 rfl rfl rfl rfl ⟨rfl, _, rfl, h⟩
  · replace h := h.2 c6
    refine gk_sipush (v := (-10002)) dX7_result_9 rfl ?_
    exact gk_iret dX7_result_12 rfl rfl rfl rfl ⟨rfl, _, rfl, h⟩
set_option maxHeartbeats 4000000 in
set_option maxRecDepth 100000 in
theorem ctX8_isIn {E : gz_E} {x0 : Int32} {x1 : Int32} {S : gz_S} {Q : Int32 → gz_S → Prop} (h : wX8_isIn x0 x1 S Q) : gz_m E mX8_isIn 1 0 0 [.int x0, .int x1] gz_F S (gz_qi Q) := by
  refine gz_meet0 (L0 := [some (.int x0), some (.int x1)]) (by decide) rfl (Nat.le_of_ble_eq_true rfl) (by decide) ?_
  unfold wX8_isIn at h
  refine gk_iload_n dX8_isIn_0 rfl ?_
  refine gk_iload_n dX8_isIn_1 rfl ?_
  refine gk_ishr dX8_isIn_2 ?_
  refine gk_iconst (v := 1) dX8_isIn_3 rfl ?_
  refine gk_iand dX8_isIn_4 ?_
  refine gk_iconst (v := 1) dX8_isIn_5 rfl ?_
  refine gk_icmp_ne (tgt := 13) dX8_isIn_6 (by decide) (fun c6 => ?_) (fun c6 => ?_)
  · replace h := h.1 c6
    refine gk_iconst (v := 0) dX8_isIn_13 rfl ?_
    exact gk_iret dX8_isIn_14 rfl rfl rfl rfl ⟨rfl, _, rfl, h⟩
  · replace h := h.2 c6
    refine gk_iconst (v := 1) dX8_isIn_9 rfl ?_
    refine gk_goto (tgt := 14) dX8_isIn_10 (by decide) ?_
    exact gk_iret dX8_isIn_14 rfl rfl rfl rfl ⟨rfl, _, rfl, h⟩
set_option maxHeartbeats 4000000 in
set_option maxRecDepth 100000 in
theorem oX8_resultOf_111 {E : gz_E} {k23 : Int32 → Int32 → Int32 → Int32 → gz_S → Prop} {Q : Int32 → gz_S → Prop} (hk23 : ∀ (x1 : Int32) (x3 : Int32) (x4 : Int32) (x5 : Int32) (S : gz_S), k23 x1 x3 x4 x5 S → gz_k E mX8_resultOf (5, 0, 0, 73) 0 0 23 [some (.ref 45), some (.int x1), none, some (.int x3), some (.int x4), some (.int x5), none] [] gz_F S (gz_qi Q)) : ∀ (x1 : Int32) (x3 : Int32) (x4 : Int32) (x5 : Int32) (S : gz_S), wX8_resultOf_111 k23 Q x1 x3 x4 x5 S → gz_k E mX8_resultOf (5, 0, 0, 73) 0 0 111 [some (.ref 45), some (.int x1), none, some (.int x3), some (.int x4), some (.int x5), none] [] gz_F S (gz_qi Q) := by
  intro x1 x3 x4 x5 S h
  unfold wX8_resultOf_111 at h
  refine gk_iinc dX8_resultOf_111 rfl (Nat.le_of_ble_eq_true rfl) rfl rfl rfl ?_
  refine gk_goto (tgt := 23) dX8_resultOf_114 (by decide) ?_
  exact gk_less (gz_le_s rfl (gz_le_s rfl (gz_le_n (gz_le_s rfl (gz_le_s rfl (gz_le_s rfl (gz_le_n gz_le_0))))))) (hk23 _ _ _ _ _ h)
set_option maxHeartbeats 4000000 in
set_option maxRecDepth 100000 in
theorem oX8_resultOf_100 {E : gz_E} {k23 : Int32 → Int32 → Int32 → Int32 → gz_S → Prop} {Q : Int32 → gz_S → Prop} (hk23 : ∀ (x1 : Int32) (x3 : Int32) (x4 : Int32) (x5 : Int32) (S : gz_S), k23 x1 x3 x4 x5 S → gz_k E mX8_resultOf (5, 0, 0, 73) 0 0 23 [some (.ref 45), some (.int x1), none, some (.int x3), some (.int x4), some (.int x5), none] [] gz_F S (gz_qi Q)) : ∀ (x1 : Int32) (x4 : Int32) (x5 : Int32) (x6 : Int32) (t0 : Int32) (t1 : Int32) (S : gz_S), wX8_resultOf_100 k23 Q x1 x4 x5 x6 t0 t1 S → gz_k E mX8_resultOf (5, 0, 0, 73) 0 0 100 [some (.ref 45), some (.int x1), none, none, some (.int x4), some (.int x5), some (.int x6)] [.int t1, .int t0] gz_F S (gz_qi Q) := by
  intro x1 x4 x5 x6 t0 t1 S h
  unfold wX8_resultOf_100 at h
  refine gk_iadd dX8_resultOf_100 ?_
  refine gk_nmi (fun v3_101 ev3_101 => ?_)
  replace h := h v3_101 ev3_101
  refine gk_istore_n dX8_resultOf_101 (Nat.le_of_ble_eq_true rfl) rfl rfl ?_
  refine gk_iload dX8_resultOf_102 rfl ?_
  refine gk_iconst (v := 1) dX8_resultOf_104 rfl ?_
  refine gk_iload dX8_resultOf_105 rfl ?_
  refine gk_ishl dX8_resultOf_107 ?_
  refine gk_ior dX8_resultOf_108 ?_
  refine gk_nmi (fun v4_109 ev4_109 => ?_)
  replace h := h v4_109 ev4_109
  refine gk_istore dX8_resultOf_109 (Nat.le_of_ble_eq_true rfl) rfl rfl ?_
  exact gk_less (gz_le_s rfl (gz_le_s rfl (gz_le_n (gz_le_s rfl (gz_le_s rfl (gz_le_s rfl (gz_le_n gz_le_0))))))) (oX8_resultOf_111 hk23 _ _ _ _ _ h)
set_option maxHeartbeats 4000000 in
set_option maxRecDepth 100000 in
theorem oX8_resultOf_170 {E : gz_E} {k130 : Int32 → Int32 → Int32 → gz_S → Prop} {Q : Int32 → gz_S → Prop} (hk130 : ∀ (x4 : Int32) (x5 : Int32) (x6 : Int32) (S : gz_S), k130 x4 x5 x6 S → gz_k E mX8_resultOf (5, 0, 0, 73) 0 0 130 [some (.ref 45), none, none, none, some (.int x4), some (.int x5), some (.int x6)] [] gz_F S (gz_qi Q)) : ∀ (x4 : Int32) (x6 : Int32) (t0 : Int32) (t1 : Int32) (S : gz_S), wX8_resultOf_170 k130 Q x4 x6 t0 t1 S → gz_k E mX8_resultOf (5, 0, 0, 73) 0 0 170 [some (.ref 45), none, none, none, some (.int x4), none, some (.int x6)] [.int t1, .int t0] gz_F S (gz_qi Q) := by
  intro x4 x6 t0 t1 S h
  unfold wX8_resultOf_170 at h
  refine gk_iadd dX8_resultOf_170 ?_
  refine gk_nmi (fun v5_171 ev5_171 => ?_)
  replace h := h v5_171 ev5_171
  refine gk_istore dX8_resultOf_171 (Nat.le_of_ble_eq_true rfl) rfl rfl ?_
  refine gk_iinc dX8_resultOf_173 rfl (Nat.le_of_ble_eq_true rfl) rfl rfl rfl ?_
  refine gk_goto (tgt := 130) dX8_resultOf_176 (by decide) ?_
  exact gk_less (gz_le_s rfl (gz_le_n (gz_le_n (gz_le_n (gz_le_s rfl (gz_le_s rfl (gz_le_s rfl gz_le_0))))))) (hk130 _ _ _ _ h)
set_option maxHeartbeats 4000000 in
set_option maxRecDepth 100000 in
theorem oX8_resultOf_130 {E : gz_E} {Q : Int32 → gz_S → Prop} : ∀ (n : Nat) (x4 : Int32) (x5 : Int32) (x6 : Int32) (S : gz_S), wX8_resultOf_130 Q n x4 x5 x6 S → gz_k E mX8_resultOf (5, 0, 0, 73) 0 0 130 [some (.ref 45), none, none, none, some (.int x4), some (.int x5), some (.int x6)] [] gz_F S (gz_qi Q) := by
  intro n
  induction n with
  | zero =>
    intro x4 x5 x6 S h
    exact h.elim
  | succ n ih =>
    intro x4 x5 x6 S h
    unfold wX8_resultOf_130 at h
    refine gk_iload dX8_resultOf_130 rfl ?_
    refine gk_aload_n dX8_resultOf_132 rfl ?_
    refine gk_geti dX8_resultOf_133 rfl rfl wfX8_129 ?_
    refine gk_icmp_ge (tgt := 179) dX8_resultOf_136 (by decide) (fun c136 => ?_) (fun c136 => ?_)
    · replace h := h.1 c136
      refine gk_iload dX8_resultOf_179 rfl ?_
      exact gk_iret dX8_resultOf_181 rfl rfl rfl rfl ⟨rfl, _, rfl, h⟩
    · replace h := h.2 c136
      refine gk_iload dX8_resultOf_139 rfl ?_
      refine gk_iload dX8_resultOf_141 rfl ?_
      refine gk_iload dX8_resultOf_143 rfl ?_
      refine gk_callS (as := [_, _]) (rest := [_]) (ctX8_isIn h) dX8_resultOf_145 wvX8_226 wcX8_isIn rfl (Nat.le_of_ble_eq_true rfl) ⟨Nat.le_refl _, Nat.le_refl _⟩ (fun h9 => absurd rfl h9) (Nat.le_of_ble_eq_true rfl) rfl (fun v G2 S145 hq => ?_)
      obtain ⟨rfl, r145, rfl, h⟩ := hq
      refine gk_if_ne (tgt := 155) dX8_resultOf_148 (by decide) (fun c148 => ?_) (fun c148 => ?_)
      · replace h := h.1 c148
        refine gk_aload_n dX8_resultOf_155 rfl ?_
        refine gk_getr dX8_resultOf_156 rfl rfl wfX8_31 ?_
        refine gk_iload dX8_resultOf_159 rfl ?_
        refine gk_iaload dX8_resultOf_161 rfl h.1 ?_
        replace h := h.2
        refine gk_if_ne (tgt := 169) dX8_resultOf_162 (by decide) (fun c162 => ?_) (fun c162 => ?_)
        · replace h := h.1 c162
          refine gk_iconst (v := (-1)) dX8_resultOf_169 rfl ?_
          exact gk_less (gz_le_s rfl (gz_le_n (gz_le_n (gz_le_n (gz_le_s rfl (gz_le_n (gz_le_s rfl gz_le_0))))))) (oX8_resultOf_170 (fun y0 y1 y2 S h => ih y0 y1 y2 S h) _ _ _ _ _ h)
        · replace h := h.2 c162
          refine gk_iconst (v := 1) dX8_resultOf_165 rfl ?_
          refine gk_goto (tgt := 170) dX8_resultOf_166 (by decide) ?_
          exact gk_less (gz_le_s rfl (gz_le_n (gz_le_n (gz_le_n (gz_le_s rfl (gz_le_n (gz_le_s rfl gz_le_0))))))) (oX8_resultOf_170 (fun y0 y1 y2 S h => ih y0 y1 y2 S h) _ _ _ _ _ h)
      · replace h := h.2 c148
        refine gk_iconst (v := 0) dX8_resultOf_151 rfl ?_
        refine gk_goto (tgt := 170) dX8_resultOf_152 (by decide) ?_
        exact gk_less (gz_le_s rfl (gz_le_n (gz_le_n (gz_le_n (gz_le_s rfl (gz_le_n (gz_le_s rfl gz_le_0))))))) (oX8_resultOf_170 (fun y0 y1 y2 S h => ih y0 y1 y2 S h) _ _ _ _ _ h)
set_option maxHeartbeats 4000000 in
set_option maxRecDepth 100000 in
theorem oX8_resultOf_23 {E : gz_E} {Q : Int32 → gz_S → Prop} : ∀ (n : Nat) (x1 : Int32) (x3 : Int32) (x4 : Int32) (x5 : Int32) (S : gz_S), wX8_resultOf_23 Q n x1 x3 x4 x5 S → gz_k E mX8_resultOf (5, 0, 0, 73) 0 0 23 [some (.ref 45), some (.int x1), none, some (.int x3), some (.int x4), some (.int x5), none] [] gz_F S (gz_qi Q) := by
  intro n
  induction n with
  | zero =>
    intro x1 x3 x4 x5 S h
    exact h.elim
  | succ n ih =>
    intro x1 x3 x4 x5 S h
    unfold wX8_resultOf_23 at h
    refine gk_iload dX8_resultOf_23 rfl ?_
    refine gk_aload_n dX8_resultOf_25 rfl ?_
    refine gk_geti dX8_resultOf_26 rfl rfl wfX8_167 ?_
    refine gk_icmp_ge (tgt := 117) dX8_resultOf_29 (by decide) (fun c29 => ?_) (fun c29 => ?_)
    · replace h := h.1 c29
      refine gk_iload_n dX8_resultOf_117 rfl ?_
      refine gk_iconst (v := 1) dX8_resultOf_118 rfl ?_
      refine gk_icmp_ne (tgt := 124) dX8_resultOf_119 (by decide) (fun c119 => ?_) (fun c119 => ?_)
      · replace h := h.1 c119
        refine gk_iconst (v := 0) dX8_resultOf_124 rfl ?_
        refine gk_istore dX8_resultOf_125 (Nat.le_of_ble_eq_true rfl) rfl rfl ?_
        refine gk_iconst (v := 0) dX8_resultOf_127 rfl ?_
        refine gk_istore dX8_resultOf_128 (Nat.le_of_ble_eq_true rfl) rfl rfl ?_
        obtain ⟨m130, h⟩ := h
        exact gk_less (gz_le_s rfl (gz_le_n (gz_le_n (gz_le_n (gz_le_s rfl (gz_le_s rfl (gz_le_s rfl gz_le_0))))))) (oX8_resultOf_130 m130 _ _ _ _ h)
      · replace h := h.2 c119
        refine gk_iload_n dX8_resultOf_122 rfl ?_
        exact gk_iret dX8_resultOf_123 rfl rfl rfl rfl ⟨rfl, _, rfl, h⟩
    · replace h := h.2 c29
      refine gk_aload_n dX8_resultOf_32 rfl ?_
      refine gk_getr dX8_resultOf_33 rfl rfl wfX8_64 ?_
      refine gk_iload dX8_resultOf_36 rfl ?_
      refine gk_baload dX8_resultOf_38 rfl h.1 ?_
      replace h := h.2
      refine gk_if_eq (tgt := 111) dX8_resultOf_39 (by decide) (fun c39 => ?_) (fun c39 => ?_)
      · replace h := h.1 c39
        exact gk_less (gz_le_s rfl (gz_le_s rfl (gz_le_n (gz_le_s rfl (gz_le_s rfl (gz_le_s rfl (gz_le_n gz_le_0))))))) (oX8_resultOf_111 (fun y0 y1 y2 y3 S h => ih y0 y1 y2 y3 S h) _ _ _ _ _ h)
      · replace h := h.2 c39
        refine gk_aload_n dX8_resultOf_42 rfl ?_
        refine gk_getr dX8_resultOf_43 rfl rfl wfX8_49 ?_
        refine gk_iconst (v := 3) dX8_resultOf_46 rfl ?_
        refine gk_iload dX8_resultOf_47 rfl ?_
        refine gk_imul dX8_resultOf_49 ?_
        refine gk_iaload dX8_resultOf_50 rfl h.1 ?_
        replace h := h.2
        refine gk_nmi (fun v6_51 ev6_51 => ?_)
        replace h := h v6_51 ev6_51
        refine gk_istore dX8_resultOf_51 (Nat.le_of_ble_eq_true rfl) rfl rfl ?_
        refine gk_iload_n dX8_resultOf_53 rfl ?_
        refine gk_aload_n dX8_resultOf_54 rfl ?_
        refine gk_getr dX8_resultOf_55 rfl rfl wfX8_31 ?_
        refine gk_iload dX8_resultOf_58 rfl ?_
        refine gk_iaload dX8_resultOf_60 rfl h.1 ?_
        replace h := h.2
        refine gk_if_ne (tgt := 83) dX8_resultOf_61 (by decide) (fun c61 => ?_) (fun c61 => ?_)
        · replace h := h.1 c61
          refine gk_aload_n dX8_resultOf_83 rfl ?_
          refine gk_getr dX8_resultOf_84 rfl rfl wfX8_34 ?_
          refine gk_aload_n dX8_resultOf_87 rfl ?_
          refine gk_getr dX8_resultOf_88 rfl rfl wfX8_49 ?_
          refine gk_iconst (v := 3) dX8_resultOf_91 rfl ?_
          refine gk_iload dX8_resultOf_92 rfl ?_
          refine gk_imul dX8_resultOf_94 ?_
          refine gk_iconst (v := 1) dX8_resultOf_95 rfl ?_
          refine gk_iadd dX8_resultOf_96 ?_
          refine gk_iaload dX8_resultOf_97 rfl h.1 ?_
          replace h := h.2
          refine gk_iaload dX8_resultOf_98 rfl h.1 ?_
          replace h := h.2
          refine gk_ineg dX8_resultOf_99 ?_
          exact gk_less (gz_le_s rfl (gz_le_s rfl (gz_le_n (gz_le_n (gz_le_s rfl (gz_le_s rfl (gz_le_s rfl gz_le_0))))))) (oX8_resultOf_100 (fun y0 y1 y2 y3 S h => ih y0 y1 y2 y3 S h) _ _ _ _ _ _ _ h)
        · replace h := h.2 c61
          refine gk_aload_n dX8_resultOf_64 rfl ?_
          refine gk_getr dX8_resultOf_65 rfl rfl wfX8_34 ?_
          refine gk_aload_n dX8_resultOf_68 rfl ?_
          refine gk_getr dX8_resultOf_69 rfl rfl wfX8_49 ?_
          refine gk_iconst (v := 3) dX8_resultOf_72 rfl ?_
          refine gk_iload dX8_resultOf_73 rfl ?_
          refine gk_imul dX8_resultOf_75 ?_
          refine gk_iconst (v := 1) dX8_resultOf_76 rfl ?_
          refine gk_iadd dX8_resultOf_77 ?_
          refine gk_iaload dX8_resultOf_78 rfl h.1 ?_
          replace h := h.2
          refine gk_iaload dX8_resultOf_79 rfl h.1 ?_
          replace h := h.2
          refine gk_goto (tgt := 100) dX8_resultOf_80 (by decide) ?_
          exact gk_less (gz_le_s rfl (gz_le_s rfl (gz_le_n (gz_le_n (gz_le_s rfl (gz_le_s rfl (gz_le_s rfl gz_le_0))))))) (oX8_resultOf_100 (fun y0 y1 y2 y3 S h => ih y0 y1 y2 y3 S h) _ _ _ _ _ _ _ h)
set_option maxHeartbeats 4000000 in
set_option maxRecDepth 100000 in
theorem ctX8_resultOf {E : gz_E} {x1 : Int32} {S : gz_S} {Q : Int32 → gz_S → Prop} (h : wX8_resultOf x1 S Q) : gz_m E mX8_resultOf 5 0 0 [.ref 45, .int x1] gz_F S (gz_qi Q) := by
  refine gz_meet0 (L0 := [some (.ref 45), some (.int x1), none, none, none, none, none]) (by decide) rfl (Nat.le_of_ble_eq_true rfl) (by decide) ?_
  unfold wX8_resultOf at h
  refine gk_aload_n dX8_resultOf_0 rfl ?_
  refine gk_aload_n dX8_resultOf_1 rfl ?_
  refine gk_callV (as := []) (rest := [_]) (ctX8_end h) dX8_resultOf_2 rfl rfl wvX8_220 wcX8_end rfl (Nat.le_of_ble_eq_true rfl) ⟨Nat.le_refl _, Nat.le_refl _⟩ (fun h9 => absurd rfl h9) (Nat.le_of_ble_eq_true rfl) rfl (fun v G2 S2 hq => ?_)
  obtain ⟨rfl, r2, rfl, h⟩ := hq
  refine gk_callV (as := [_]) (rest := []) (ctX8_tipOf h) dX8_resultOf_5 rfl rfl wvX8_214 wcX8_tipOf rfl (Nat.le_of_ble_eq_true rfl) ⟨Nat.le_refl _, Nat.le_refl _⟩ (fun h9 => absurd rfl h9) (Nat.le_of_ble_eq_true rfl) rfl (fun v G2 S5 hq => ?_)
  obtain ⟨rfl, r5, rfl, h⟩ := hq
  refine gk_istore_n dX8_resultOf_8 (Nat.le_of_ble_eq_true rfl) rfl rfl ?_
  refine gk_iload_n dX8_resultOf_9 rfl ?_
  refine gk_if_ne (tgt := 15) dX8_resultOf_10 (by decide) (fun c10 => ?_) (fun c10 => ?_)
  · replace h := h.1 c10
    refine gk_iconst (v := 0) dX8_resultOf_15 rfl ?_
    refine gk_istore_n dX8_resultOf_16 (Nat.le_of_ble_eq_true rfl) rfl rfl ?_
    refine gk_iconst (v := 0) dX8_resultOf_17 rfl ?_
    refine gk_istore dX8_resultOf_18 (Nat.le_of_ble_eq_true rfl) rfl rfl ?_
    refine gk_iconst (v := 0) dX8_resultOf_20 rfl ?_
    refine gk_istore dX8_resultOf_21 (Nat.le_of_ble_eq_true rfl) rfl rfl ?_
    obtain ⟨m23, h⟩ := h
    exact gk_less (gz_le_s rfl (gz_le_s rfl (gz_le_n (gz_le_s rfl (gz_le_s rfl (gz_le_s rfl (gz_le_n gz_le_0))))))) (oX8_resultOf_23 m23 _ _ _ _ _ h)
  · replace h := h.2 c10
    refine gk_iload_n dX8_resultOf_13 rfl ?_
    exact gk_iret dX8_resultOf_14 rfl rfl rfl rfl ⟨rfl, _, rfl, h⟩
set_option maxHeartbeats 4000000 in
set_option maxRecDepth 100000 in
theorem ctX8_result {E : gz_E} {x1 : Int32} {S : gz_S} {Q : Int32 → gz_S → Prop} (h : wX8_result x1 S Q) : gz_m E mX8_result 6 0 0 [.ref 45, .int x1] gz_F S (gz_qi Q) := by
  refine gz_meet0 (L0 := [some (.ref 45), some (.int x1)]) (by decide) rfl (Nat.le_of_ble_eq_true rfl) (by decide) ?_
  unfold wX8_result at h
  refine gk_aload_n dX8_result_0 rfl ?_
  refine gk_callV (as := []) (rest := []) (ctX8_reads h) dX8_result_1 rfl rfl wvX8_147 wcX8_reads rfl (Nat.le_of_ble_eq_true rfl) ⟨Nat.le_refl _, Nat.le_refl _⟩ (fun h9 => absurd rfl h9) (Nat.le_of_ble_eq_true rfl) rfl (fun v G2 S1 hq => ?_)
  obtain ⟨rfl, rfl, h⟩ := hq
  refine gk_iload_n dX8_result_4 rfl ?_
  refine gk_i2l dX8_result_5 ?_
  refine gk_lconst (v := 0) dX8_result_6 rfl ?_
  refine gk_ldc2 dX8_result_7 wkX8_106 ?_
  refine gk_callS (as := [_, _, _]) (rest := []) (ctX8_in h) dX8_result_10 wvX8_92 wcX8_in rfl (Nat.le_of_ble_eq_true rfl) ⟨Nat.le_refl _, Nat.le_refl _⟩ (fun h9 => absurd rfl h9) (Nat.le_of_ble_eq_true rfl) rfl (fun v G2 S10 hq => ?_)
  obtain ⟨rfl, r10, rfl, h⟩ := hq
  refine gk_if_eq (tgt := 24) dX8_result_13 (by decide) (fun c13 => ?_) (fun c13 => ?_)
  · replace h := h.1 c13
    refine gk_sipush (v := (-10002)) dX8_result_24 rfl ?_
    exact gk_iret dX8_result_27 rfl rfl rfl rfl ⟨rfl, _, rfl, h⟩
  · replace h := h.2 c13
    refine gk_aload_n dX8_result_16 rfl ?_
    refine gk_iload_n dX8_result_17 rfl ?_
    refine gk_callV (as := [_]) (rest := []) (ctX8_resultOf h) dX8_result_18 rfl rfl wvX8_229 wcX8_resultOf rfl (Nat.le_of_ble_eq_true rfl) ⟨Nat.le_refl _, Nat.le_refl _⟩ (fun h9 => absurd rfl h9) (Nat.le_of_ble_eq_true rfl) rfl (fun v G2 S18 hq => ?_)
    obtain ⟨rfl, r18, rfl, h⟩ := hq
    refine gk_goto (tgt := 27) dX8_result_21 (by decide) ?_
    exact gk_iret dX8_result_27 rfl rfl rfl rfl ⟨rfl, _, rfl, h⟩
set_option maxHeartbeats 4000000 in
set_option maxRecDepth 100000 in
theorem ctX7_without {E : gz_E} {x1 : Int32} {S : gz_S} {Q : Int32 → gz_S → Prop} (h : wX7_without x1 S Q) : gz_m E mX7_without 5 0 0 [.ref 0, .int x1] gz_F S (gz_qi Q) := by
  refine gz_meet0 (L0 := [some (.ref 0), some (.int x1)]) (by decide) rfl (Nat.le_of_ble_eq_true rfl) (by decide) ?_
  unfold wX7_without at h
  refine gk_iload_n dX7_without_0 rfl ?_
  refine gk_iconst (v := 0) dX7_without_1 rfl ?_
  refine gk_aload_n dX7_without_2 rfl ?_
  refine gk_getr dX7_without_3 rfl rfl wfX7_19 ?_
  refine gk_geti dX7_without_6 rfl rfl wfX7_138 ?_
  refine gk_iconst (v := 1) dX7_without_9 rfl ?_
  refine gk_isub dX7_without_10 ?_
  refine gk_callS (as := [_, _, _]) (rest := []) (ctX7_within h) dX7_without_11 wvX7_62 wcX7_within rfl (Nat.le_of_ble_eq_true rfl) ⟨Nat.le_refl _, Nat.le_refl _⟩ (fun h9 => absurd rfl h9) (Nat.le_of_ble_eq_true rfl) rfl (fun v G2 S11 hq => ?_)
  obtain ⟨rfl, r11, rfl, h⟩ := hq
  refine gk_if_ne (tgt := 21) dX7_without_14 (by decide) (fun c14 => ?_) (fun c14 => ?_)
  · replace h := h.1 c14
    refine gk_aload_n dX7_without_21 rfl ?_
    refine gk_getr dX7_without_22 rfl rfl wfX7_32 ?_
    refine gk_iload_n dX7_without_25 rfl ?_
    refine gk_callV (as := [_]) (rest := []) (ctX2_judgeWithout_23 h) dX7_without_26 rfl rfl wvX7_172 wcX2_judgeWithout rfl (Nat.le_of_ble_eq_true rfl) ⟨Nat.le_refl _, Nat.le_refl _⟩ (fun h9 => absurd rfl h9) (Nat.le_of_ble_eq_true rfl) rfl (fun v G2 S26 hq => ?_)
    obtain ⟨rfl, rfl, h⟩ := hq
    refine gk_aload_n dX7_without_29 rfl ?_
    refine gk_getr dX7_without_30 rfl rfl wfX7_32 ?_
    refine gk_aload_n dX7_without_33 rfl ?_
    refine gk_getr dX7_without_34 rfl rfl wfX7_10 ?_
    refine gk_geti dX7_without_37 rfl rfl wfX7_122 ?_
    refine gk_callV (as := [_]) (rest := []) (ctX2_tipAt_23 h) dX7_without_40 rfl rfl wvX7_149 wcX2_tipAt rfl (Nat.le_of_ble_eq_true rfl) ⟨Nat.le_refl _, Nat.le_refl _⟩ (fun h9 => absurd rfl h9) (Nat.le_of_ble_eq_true rfl) rfl (fun v G2 S40 hq => ?_)
    obtain ⟨rfl, r40, rfl, h⟩ := hq
    exact gk_iret dX7_without_43 rfl rfl rfl rfl ⟨rfl, _, rfl, h⟩
  · replace h := h.2 c14
    refine gk_sipush (v := (-10002)) dX7_without_17 rfl ?_
    exact gk_iret dX7_without_20 rfl rfl rfl rfl ⟨rfl, _, rfl, h⟩
set_option maxHeartbeats 4000000 in
set_option maxRecDepth 100000 in
theorem ctX8_withoutOf {E : gz_E} {x1 : Int32} {S : gz_S} {Q : Int32 → gz_S → Prop} (h : wX8_withoutOf x1 S Q) : gz_m E mX8_withoutOf 4 0 0 [.ref 45, .int x1] gz_F S (gz_qi Q) := by
  refine gz_meet0 (L0 := [some (.ref 45), some (.int x1)]) (by decide) rfl (Nat.le_of_ble_eq_true rfl) (by decide) ?_
  unfold wX8_withoutOf at h
  refine gk_aload_n dX8_withoutOf_0 rfl ?_
  refine gk_iload_n dX8_withoutOf_1 rfl ?_
  refine gk_callV (as := [_]) (rest := []) (ctX8_goes h) dX8_withoutOf_2 rfl rfl wvX8_186 wcX8_goes rfl (Nat.le_of_ble_eq_true rfl) ⟨Nat.le_refl _, Nat.le_refl _⟩ (fun h9 => absurd rfl h9) (Nat.le_of_ble_eq_true rfl) rfl (fun v G2 S2 hq => ?_)
  obtain ⟨rfl, rfl, h⟩ := hq
  refine gk_aload_n dX8_withoutOf_5 rfl ?_
  refine gk_aload_n dX8_withoutOf_6 rfl ?_
  refine gk_callV (as := []) (rest := [_]) (ctX8_end h) dX8_withoutOf_7 rfl rfl wvX8_220 wcX8_end rfl (Nat.le_of_ble_eq_true rfl) ⟨Nat.le_refl _, Nat.le_refl _⟩ (fun h9 => absurd rfl h9) (Nat.le_of_ble_eq_true rfl) rfl (fun v G2 S7 hq => ?_)
  obtain ⟨rfl, r7, rfl, h⟩ := hq
  refine gk_callV (as := [_]) (rest := []) (ctX8_heaps h) dX8_withoutOf_10 rfl rfl wvX8_208 wcX8_heaps rfl (Nat.le_of_ble_eq_true rfl) ⟨Nat.le_refl _, Nat.le_refl _⟩ (fun h9 => absurd rfl h9) (Nat.le_of_ble_eq_true rfl) rfl (fun v G2 S10 hq => ?_)
  obtain ⟨rfl, rfl, h⟩ := hq
  refine gk_aload_n dX8_withoutOf_13 rfl ?_
  refine gk_aload_n dX8_withoutOf_14 rfl ?_
  refine gk_callV (as := []) (rest := [_]) (ctX8_end h) dX8_withoutOf_15 rfl rfl wvX8_220 wcX8_end rfl (Nat.le_of_ble_eq_true rfl) ⟨Nat.le_refl _, Nat.le_refl _⟩ (fun h9 => absurd rfl h9) (Nat.le_of_ble_eq_true rfl) rfl (fun v G2 S15 hq => ?_)
  obtain ⟨rfl, r15, rfl, h⟩ := hq
  refine gk_callV (as := [_]) (rest := []) (ctX8_tipNow h) dX8_withoutOf_18 rfl rfl wvX8_211 wcX8_tipNow rfl (Nat.le_of_ble_eq_true rfl) ⟨Nat.le_refl _, Nat.le_refl _⟩ (fun h9 => absurd rfl h9) (Nat.le_of_ble_eq_true rfl) rfl (fun v G2 S18 hq => ?_)
  obtain ⟨rfl, r18, rfl, h⟩ := hq
  exact gk_iret dX8_withoutOf_21 rfl rfl rfl rfl ⟨rfl, _, rfl, h⟩
set_option maxHeartbeats 4000000 in
set_option maxRecDepth 100000 in
theorem ctX8_without {E : gz_E} {x1 : Int32} {S : gz_S} {Q : Int32 → gz_S → Prop} (h : wX8_without x1 S Q) : gz_m E mX8_without 5 0 0 [.ref 45, .int x1] gz_F S (gz_qi Q) := by
  refine gz_meet0 (L0 := [some (.ref 45), some (.int x1)]) (by decide) rfl (Nat.le_of_ble_eq_true rfl) (by decide) ?_
  unfold wX8_without at h
  refine gk_aload_n dX8_without_0 rfl ?_
  refine gk_callV (as := []) (rest := []) (ctX8_reads h) dX8_without_1 rfl rfl wvX8_147 wcX8_reads rfl (Nat.le_of_ble_eq_true rfl) ⟨Nat.le_refl _, Nat.le_refl _⟩ (fun h9 => absurd rfl h9) (Nat.le_of_ble_eq_true rfl) rfl (fun v G2 S1 hq => ?_)
  obtain ⟨rfl, rfl, h⟩ := hq
  refine gk_iload_n dX8_without_4 rfl ?_
  refine gk_i2l dX8_without_5 ?_
  refine gk_lconst (v := 0) dX8_without_6 rfl ?_
  refine gk_aload_n dX8_without_7 rfl ?_
  refine gk_geti dX8_without_8 rfl rfl wfX8_167 ?_
  refine gk_iconst (v := 1) dX8_without_11 rfl ?_
  refine gk_isub dX8_without_12 ?_
  refine gk_i2l dX8_without_13 ?_
  refine gk_callS (as := [_, _, _]) (rest := []) (ctX8_in h) dX8_without_14 wvX8_92 wcX8_in rfl (Nat.le_of_ble_eq_true rfl) ⟨Nat.le_refl _, Nat.le_refl _⟩ (fun h9 => absurd rfl h9) (Nat.le_of_ble_eq_true rfl) rfl (fun v G2 S14 hq => ?_)
  obtain ⟨rfl, r14, rfl, h⟩ := hq
  refine gk_if_eq (tgt := 28) dX8_without_17 (by decide) (fun c17 => ?_) (fun c17 => ?_)
  · replace h := h.1 c17
    refine gk_sipush (v := (-10002)) dX8_without_28 rfl ?_
    exact gk_iret dX8_without_31 rfl rfl rfl rfl ⟨rfl, _, rfl, h⟩
  · replace h := h.2 c17
    refine gk_aload_n dX8_without_20 rfl ?_
    refine gk_iload_n dX8_without_21 rfl ?_
    refine gk_callV (as := [_]) (rest := []) (ctX8_withoutOf h) dX8_without_22 rfl rfl wvX8_232 wcX8_withoutOf rfl (Nat.le_of_ble_eq_true rfl) ⟨Nat.le_refl _, Nat.le_refl _⟩ (fun h9 => absurd rfl h9) (Nat.le_of_ble_eq_true rfl) rfl (fun v G2 S22 hq => ?_)
    obtain ⟨rfl, r22, rfl, h⟩ := hq
    refine gk_goto (tgt := 31) dX8_without_25 (by decide) ?_
    exact gk_iret dX8_without_31 rfl rfl rfl rfl ⟨rfl, _, rfl, h⟩
set_option maxHeartbeats 4000000 in
set_option maxRecDepth 100000 in
theorem ctJ6_compare_7cf53 {E : gz_E} {x0 : Int32} {x1 : Int32} {S : gz_S} {Q : Int32 → gz_S → Prop} (h : wJ6_compare_7cf53 x0 x1 S Q) : gz_m E mJ6_compare_7cf53 1 0 0 [.int x0, .int x1] gz_F S (gz_qi Q) := by
  refine gz_meet0 (L0 := [some (.int x0), some (.int x1)]) (by decide) rfl (Nat.le_of_ble_eq_true rfl) (by decide) ?_
  unfold wJ6_compare_7cf53 at h
  refine gk_iload_n dJ6_compare_7cf53_0 rfl ?_
  refine gk_iload_n dJ6_compare_7cf53_1 rfl ?_
  refine gk_icmp_ge (tgt := 9) dJ6_compare_7cf53_2 (by decide) (fun c2 => ?_) (fun c2 => ?_)
  · replace h := h.1 c2
    refine gk_iload_n dJ6_compare_7cf53_9 rfl ?_
    refine gk_iload_n dJ6_compare_7cf53_10 rfl ?_
    refine gk_icmp_ne (tgt := 18) dJ6_compare_7cf53_11 (by decide) (fun c11 => ?_) (fun c11 => ?_)
    · replace h := h.1 c11
      refine gk_iconst (v := 1) dJ6_compare_7cf53_18 rfl ?_
      exact gk_iret dJ6_compare_7cf53_19 rfl rfl rfl rfl ⟨rfl, _, rfl, h⟩
    · replace h := h.2 c11
      refine gk_iconst (v := 0) dJ6_compare_7cf53_14 rfl ?_
      refine gk_goto (tgt := 19) dJ6_compare_7cf53_15 (by decide) ?_
      exact gk_iret dJ6_compare_7cf53_19 rfl rfl rfl rfl ⟨rfl, _, rfl, h⟩
  · replace h := h.2 c2
    refine gk_iconst (v := (-1)) dJ6_compare_7cf53_5 rfl ?_
    refine gk_goto (tgt := 19) dJ6_compare_7cf53_6 (by decide) ?_
    exact gk_iret dJ6_compare_7cf53_19 rfl rfl rfl rfl ⟨rfl, _, rfl, h⟩
set_option maxHeartbeats 4000000 in
set_option maxRecDepth 100000 in
theorem oX7_settled_43 {E : gz_E} {Q : Int32 → gz_S → Prop} : ∀ (n : Nat) (x1 : Int32) (x2 : Int32) (x3 : Int32) (S : gz_S), wX7_settled_43 Q n x1 x2 x3 S → gz_k E mX7_settled (5, 0, 0, 73) 0 0 43 [some (.ref 0), some (.int x1), some (.int x2), some (.int x3)] [] gz_F S (gz_qi Q) := by
  intro n
  induction n with
  | zero =>
    intro x1 x2 x3 S h
    exact h.elim
  | succ n ih =>
    intro x1 x2 x3 S h
    unfold wX7_settled_43 at h
    refine gk_iload_n dX7_settled_43 rfl ?_
    refine gk_if_lt (tgt := 74) dX7_settled_44 (by decide) (fun c44 => ?_) (fun c44 => ?_)
    · replace h := h.1 c44
      refine gk_iload_n dX7_settled_74 rfl ?_
      exact gk_iret dX7_settled_75 rfl rfl rfl rfl ⟨rfl, _, rfl, h⟩
    · replace h := h.2 c44
      refine gk_aload_n dX7_settled_47 rfl ?_
      refine gk_getr dX7_settled_48 rfl rfl wfX7_28 ?_
      refine gk_iload_n dX7_settled_51 rfl ?_
      refine gk_callV (as := [_]) (rest := []) (ctX2_tipAt_16 h) dX7_settled_52 rfl rfl wvX7_149 wcX2_tipAt rfl (Nat.le_of_ble_eq_true rfl) ⟨Nat.le_refl _, Nat.le_refl _⟩ (fun h9 => absurd rfl h9) (Nat.le_of_ble_eq_true rfl) rfl (fun v G2 S52 hq => ?_)
      obtain ⟨rfl, r52, rfl, h⟩ := hq
      refine gk_iconst (v := 0) dX7_settled_55 rfl ?_
      refine gk_callS (as := [_, _]) (rest := []) (ctJ6_compare_7cf53 h) dX7_settled_56 wvX7_175 wcJ6_compare_7cf53 rfl (Nat.le_of_ble_eq_true rfl) ⟨Nat.le_refl _, Nat.le_refl _⟩ (fun h9 => absurd rfl h9) (Nat.le_of_ble_eq_true rfl) rfl (fun v G2 S56 hq => ?_)
      obtain ⟨rfl, r56, rfl, h⟩ := hq
      refine gk_iload_n dX7_settled_59 rfl ?_
      refine gk_icmp_eq (tgt := 66) dX7_settled_60 (by decide) (fun c60 => ?_) (fun c60 => ?_)
      · replace h := h.1 c60
        refine gk_iload_n dX7_settled_66 rfl ?_
        refine gk_istore_n dX7_settled_67 (Nat.le_of_ble_eq_true rfl) rfl rfl ?_
        refine gk_iinc dX7_settled_68 rfl (Nat.le_of_ble_eq_true rfl) rfl rfl rfl ?_
        refine gk_goto (tgt := 43) dX7_settled_71 (by decide) ?_
        exact gk_less (gz_le_s rfl (gz_le_s rfl (gz_le_s rfl (gz_le_s rfl gz_le_0)))) (ih _ _ _ _ h)
      · replace h := h.2 c60
        refine gk_goto (tgt := 74) dX7_settled_63 (by decide) ?_
        refine gk_iload_n dX7_settled_74 rfl ?_
        exact gk_iret dX7_settled_75 rfl rfl rfl rfl ⟨rfl, _, rfl, h⟩
set_option maxHeartbeats 4000000 in
set_option maxRecDepth 100000 in
theorem ctX7_settled {E : gz_E} {S : gz_S} {Q : Int32 → gz_S → Prop} (h : wX7_settled S Q) : gz_m E mX7_settled 5 0 0 [.ref 0] gz_F S (gz_qi Q) := by
  refine gz_meet0 (L0 := [some (.ref 0), none, none, none]) (by decide) rfl (Nat.le_of_ble_eq_true rfl) (by decide) ?_
  unfold wX7_settled at h
  refine gk_aload_n dX7_settled_0 rfl ?_
  refine gk_getr dX7_settled_1 rfl rfl wfX7_28 ?_
  refine gk_aload_n dX7_settled_4 rfl ?_
  refine gk_getr dX7_settled_5 rfl rfl wfX7_10 ?_
  refine gk_geti dX7_settled_8 rfl rfl wfX7_122 ?_
  refine gk_callV (as := [_]) (rest := []) (ctX2_tipAt_16 h) dX7_settled_11 rfl rfl wvX7_149 wcX2_tipAt rfl (Nat.le_of_ble_eq_true rfl) ⟨Nat.le_refl _, Nat.le_refl _⟩ (fun h9 => absurd rfl h9) (Nat.le_of_ble_eq_true rfl) rfl (fun v G2 S11 hq => ?_)
  obtain ⟨rfl, r11, rfl, h⟩ := hq
  refine gk_iconst (v := 0) dX7_settled_14 rfl ?_
  refine gk_callS (as := [_, _]) (rest := []) (ctJ6_compare_7cf53 h) dX7_settled_15 wvX7_175 wcJ6_compare_7cf53 rfl (Nat.le_of_ble_eq_true rfl) ⟨Nat.le_refl _, Nat.le_refl _⟩ (fun h9 => absurd rfl h9) (Nat.le_of_ble_eq_true rfl) rfl (fun v G2 S15 hq => ?_)
  obtain ⟨rfl, r15, rfl, h⟩ := hq
  refine gk_istore_n dX7_settled_18 (Nat.le_of_ble_eq_true rfl) rfl rfl ?_
  refine gk_iload_n dX7_settled_19 rfl ?_
  refine gk_if_ne (tgt := 25) dX7_settled_20 (by decide) (fun c20 => ?_) (fun c20 => ?_)
  · replace h := h.1 c20
    refine gk_aload_n dX7_settled_25 rfl ?_
    refine gk_getr dX7_settled_26 rfl rfl wfX7_10 ?_
    refine gk_geti dX7_settled_29 rfl rfl wfX7_122 ?_
    refine gk_nmi (fun v2_32 ev2_32 => ?_)
    replace h := h v2_32 ev2_32
    refine gk_istore_n dX7_settled_32 (Nat.le_of_ble_eq_true rfl) rfl rfl ?_
    refine gk_aload_n dX7_settled_33 rfl ?_
    refine gk_getr dX7_settled_34 rfl rfl wfX7_10 ?_
    refine gk_geti dX7_settled_37 rfl rfl wfX7_122 ?_
    refine gk_iconst (v := 1) dX7_settled_40 rfl ?_
    refine gk_isub dX7_settled_41 ?_
    refine gk_nmi (fun v3_42 ev3_42 => ?_)
    replace h := h v3_42 ev3_42
    refine gk_istore_n dX7_settled_42 (Nat.le_of_ble_eq_true rfl) rfl rfl ?_
    obtain ⟨m43, h⟩ := h
    exact gk_less (gz_le_s rfl (gz_le_s rfl (gz_le_s rfl (gz_le_s rfl gz_le_0)))) (oX7_settled_43 m43 _ _ _ _ h)
  · replace h := h.2 c20
    refine gk_iconst (v := (-1)) dX7_settled_23 rfl ?_
    exact gk_iret dX7_settled_24 rfl rfl rfl rfl ⟨rfl, _, rfl, h⟩
set_option maxHeartbeats 4000000 in
set_option maxRecDepth 100000 in
theorem ctX8_sign {E : gz_E} {x0 : Int32} {S : gz_S} {Q : Int32 → gz_S → Prop} (h : wX8_sign x0 S Q) : gz_m E mX8_sign 1 0 0 [.int x0] gz_F S (gz_qi Q) := by
  refine gz_meet0 (L0 := [some (.int x0)]) (by decide) rfl (Nat.le_of_ble_eq_true rfl) (by decide) ?_
  unfold wX8_sign at h
  refine gk_iload_n dX8_sign_0 rfl ?_
  refine gk_if_le (tgt := 8) dX8_sign_1 (by decide) (fun c1 => ?_) (fun c1 => ?_)
  · replace h := h.1 c1
    refine gk_iload_n dX8_sign_8 rfl ?_
    refine gk_if_ge (tgt := 16) dX8_sign_9 (by decide) (fun c9 => ?_) (fun c9 => ?_)
    · replace h := h.1 c9
      refine gk_iconst (v := 0) dX8_sign_16 rfl ?_
      exact gk_iret dX8_sign_17 rfl rfl rfl rfl ⟨rfl, _, rfl, h⟩
    · replace h := h.2 c9
      refine gk_iconst (v := (-1)) dX8_sign_12 rfl ?_
      refine gk_goto (tgt := 17) dX8_sign_13 (by decide) ?_
      exact gk_iret dX8_sign_17 rfl rfl rfl rfl ⟨rfl, _, rfl, h⟩
  · replace h := h.2 c1
    refine gk_iconst (v := 1) dX8_sign_4 rfl ?_
    refine gk_goto (tgt := 17) dX8_sign_5 (by decide) ?_
    exact gk_iret dX8_sign_17 rfl rfl rfl rfl ⟨rfl, _, rfl, h⟩
set_option maxHeartbeats 4000000 in
set_option maxRecDepth 100000 in
theorem oX8_settledNow_23 {E : gz_E} {Q : Int32 → gz_S → Prop} : ∀ (n : Nat) (x1 : Int32) (x2 : Int32) (S : gz_S), wX8_settledNow_23 Q n x1 x2 S → gz_k E mX8_settledNow (5, 0, 0, 73) 0 0 23 [some (.ref 45), some (.int x1), some (.int x2)] [] gz_F S (gz_qi Q) := by
  intro n
  induction n with
  | zero =>
    intro x1 x2 S h
    exact h.elim
  | succ n ih =>
    intro x1 x2 S h
    unfold wX8_settledNow_23 at h
    refine gk_iload_n dX8_settledNow_23 rfl ?_
    refine gk_if_le (tgt := 47) dX8_settledNow_24 (by decide) (fun c24 => ?_) (fun c24 => ?_)
    · replace h := h.1 c24
      refine gk_iload_n dX8_settledNow_47 rfl ?_
      exact gk_iret dX8_settledNow_48 rfl rfl rfl rfl ⟨rfl, _, rfl, h⟩
    · replace h := h.2 c24
      refine gk_aload_n dX8_settledNow_27 rfl ?_
      refine gk_iload_n dX8_settledNow_28 rfl ?_
      refine gk_iconst (v := 1) dX8_settledNow_29 rfl ?_
      refine gk_isub dX8_settledNow_30 ?_
      refine gk_callV (as := [_]) (rest := []) (ctX8_tipOf h) dX8_settledNow_31 rfl rfl wvX8_214 wcX8_tipOf rfl (Nat.le_of_ble_eq_true rfl) ⟨Nat.le_refl _, Nat.le_refl _⟩ (fun h9 => absurd rfl h9) (Nat.le_of_ble_eq_true rfl) rfl (fun v G2 S31 hq => ?_)
      obtain ⟨rfl, r31, rfl, h⟩ := hq
      refine gk_callS (as := [_]) (rest := []) (ctX8_sign h) dX8_settledNow_34 wvX8_235 wcX8_sign rfl (Nat.le_of_ble_eq_true rfl) ⟨Nat.le_refl _, Nat.le_refl _⟩ (fun h9 => absurd rfl h9) (Nat.le_of_ble_eq_true rfl) rfl (fun v G2 S34 hq => ?_)
      obtain ⟨rfl, r34, rfl, h⟩ := hq
      refine gk_iload_n dX8_settledNow_37 rfl ?_
      refine gk_icmp_ne (tgt := 47) dX8_settledNow_38 (by decide) (fun c38 => ?_) (fun c38 => ?_)
      · replace h := h.1 c38
        refine gk_iload_n dX8_settledNow_47 rfl ?_
        exact gk_iret dX8_settledNow_48 rfl rfl rfl rfl ⟨rfl, _, rfl, h⟩
      · replace h := h.2 c38
        refine gk_iinc dX8_settledNow_41 rfl (Nat.le_of_ble_eq_true rfl) rfl rfl rfl ?_
        refine gk_goto (tgt := 23) dX8_settledNow_44 (by decide) ?_
        exact gk_less (gz_le_s rfl (gz_le_s rfl (gz_le_s rfl gz_le_0))) (ih _ _ _ h)
set_option maxHeartbeats 4000000 in
set_option maxRecDepth 100000 in
theorem ctX8_settledNow {E : gz_E} {S : gz_S} {Q : Int32 → gz_S → Prop} (h : wX8_settledNow S Q) : gz_m E mX8_settledNow 5 0 0 [.ref 45] gz_F S (gz_qi Q) := by
  refine gz_meet0 (L0 := [some (.ref 45), none, none]) (by decide) rfl (Nat.le_of_ble_eq_true rfl) (by decide) ?_
  unfold wX8_settledNow at h
  refine gk_aload_n dX8_settledNow_0 rfl ?_
  refine gk_aload_n dX8_settledNow_1 rfl ?_
  refine gk_callV (as := []) (rest := [_]) (ctX8_end h) dX8_settledNow_2 rfl rfl wvX8_220 wcX8_end rfl (Nat.le_of_ble_eq_true rfl) ⟨Nat.le_refl _, Nat.le_refl _⟩ (fun h9 => absurd rfl h9) (Nat.le_of_ble_eq_true rfl) rfl (fun v G2 S2 hq => ?_)
  obtain ⟨rfl, r2, rfl, h⟩ := hq
  refine gk_callV (as := [_]) (rest := []) (ctX8_tipOf h) dX8_settledNow_5 rfl rfl wvX8_214 wcX8_tipOf rfl (Nat.le_of_ble_eq_true rfl) ⟨Nat.le_refl _, Nat.le_refl _⟩ (fun h9 => absurd rfl h9) (Nat.le_of_ble_eq_true rfl) rfl (fun v G2 S5 hq => ?_)
  obtain ⟨rfl, r5, rfl, h⟩ := hq
  refine gk_callS (as := [_]) (rest := []) (ctX8_sign h) dX8_settledNow_8 wvX8_235 wcX8_sign rfl (Nat.le_of_ble_eq_true rfl) ⟨Nat.le_refl _, Nat.le_refl _⟩ (fun h9 => absurd rfl h9) (Nat.le_of_ble_eq_true rfl) rfl (fun v G2 S8 hq => ?_)
  obtain ⟨rfl, r8, rfl, h⟩ := hq
  refine gk_istore_n dX8_settledNow_11 (Nat.le_of_ble_eq_true rfl) rfl rfl ?_
  refine gk_iload_n dX8_settledNow_12 rfl ?_
  refine gk_if_ne (tgt := 18) dX8_settledNow_13 (by decide) (fun c13 => ?_) (fun c13 => ?_)
  · replace h := h.1 c13
    refine gk_aload_n dX8_settledNow_18 rfl ?_
    refine gk_callV (as := []) (rest := []) (ctX8_end h) dX8_settledNow_19 rfl rfl wvX8_220 wcX8_end rfl (Nat.le_of_ble_eq_true rfl) ⟨Nat.le_refl _, Nat.le_refl _⟩ (fun h9 => absurd rfl h9) (Nat.le_of_ble_eq_true rfl) rfl (fun v G2 S19 hq => ?_)
    obtain ⟨rfl, r19, rfl, h⟩ := hq
    refine gk_istore_n dX8_settledNow_22 (Nat.le_of_ble_eq_true rfl) rfl rfl ?_
    obtain ⟨m23, h⟩ := h
    exact gk_less (gz_le_s rfl (gz_le_s rfl (gz_le_s rfl gz_le_0))) (oX8_settledNow_23 m23 _ _ _ h)
  · replace h := h.2 c13
    refine gk_iconst (v := (-1)) dX8_settledNow_16 rfl ?_
    exact gk_iret dX8_settledNow_17 rfl rfl rfl rfl ⟨rfl, _, rfl, h⟩
set_option maxHeartbeats 4000000 in
set_option maxRecDepth 100000 in
theorem ctX8_settled {E : gz_E} {S : gz_S} {Q : Int32 → gz_S → Prop} (h : wX8_settled S Q) : gz_m E mX8_settled 6 0 0 [.ref 45] gz_F S (gz_qi Q) := by
  refine gz_meet0 (L0 := [some (.ref 45)]) (by decide) rfl (Nat.le_of_ble_eq_true rfl) (by decide) ?_
  unfold wX8_settled at h
  refine gk_aload_n dX8_settled_0 rfl ?_
  refine gk_callV (as := []) (rest := []) (ctX8_reads h) dX8_settled_1 rfl rfl wvX8_147 wcX8_reads rfl (Nat.le_of_ble_eq_true rfl) ⟨Nat.le_refl _, Nat.le_refl _⟩ (fun h9 => absurd rfl h9) (Nat.le_of_ble_eq_true rfl) rfl (fun v G2 S1 hq => ?_)
  obtain ⟨rfl, rfl, h⟩ := hq
  refine gk_aload_n dX8_settled_4 rfl ?_
  refine gk_callV (as := []) (rest := []) (ctX8_settledNow h) dX8_settled_5 rfl rfl wvX8_238 wcX8_settledNow rfl (Nat.le_of_ble_eq_true rfl) ⟨Nat.le_refl _, Nat.le_refl _⟩ (fun h9 => absurd rfl h9) (Nat.le_of_ble_eq_true rfl) rfl (fun v G2 S5 hq => ?_)
  obtain ⟨rfl, r5, rfl, h⟩ := hq
  exact gk_iret dX8_settled_8 rfl rfl rfl rfl ⟨rfl, _, rfl, h⟩
set_option maxHeartbeats 4000000 in
set_option maxRecDepth 100000 in
theorem oX7_doubles_6 {E : gz_E} {Q : Int32 → gz_S → Prop} : ∀ (n : Nat) (x1 : Int32) (x2 : Int32) (x3 : Int32) (S : gz_S), wX7_doubles_6 Q n x1 x2 x3 S → gz_k E mX7_doubles (1, 0, 0, 73) 0 0 6 [some (.ref 0), some (.int x1), some (.int x2), some (.int x3), none] [] gz_F S (gz_qi Q) := by
  intro n
  induction n with
  | zero =>
    intro x1 x2 x3 S h
    exact h.elim
  | succ n ih =>
    intro x1 x2 x3 S h
    unfold wX7_doubles_6 at h
    refine gk_iload_n dX7_doubles_6 rfl ?_
    refine gk_aload_n dX7_doubles_7 rfl ?_
    refine gk_getr dX7_doubles_8 rfl rfl wfX7_19 ?_
    refine gk_geti dX7_doubles_11 rfl rfl wfX7_138 ?_
    refine gk_icmp_ge (tgt := 48) dX7_doubles_14 (by decide) (fun c14 => ?_) (fun c14 => ?_)
    · replace h := h.1 c14
      refine gk_iload_n dX7_doubles_48 rfl ?_
      exact gk_iret dX7_doubles_49 rfl rfl rfl rfl ⟨rfl, _, rfl, h⟩
    · replace h := h.2 c14
      refine gk_iconst (v := 1) dX7_doubles_17 rfl ?_
      refine gk_aload_n dX7_doubles_18 rfl ?_
      refine gk_getr dX7_doubles_19 rfl rfl wfX7_19 ?_
      refine gk_getr dX7_doubles_22 rfl rfl wfX7_180 ?_
      refine gk_iload_n dX7_doubles_25 rfl ?_
      refine gk_iaload dX7_doubles_26 rfl h.1 ?_
      replace h := h.2
      refine gk_ishl dX7_doubles_27 ?_
      refine gk_nmi (fun v4_28 ev4_28 => ?_)
      replace h := h v4_28 ev4_28
      refine gk_istore dX7_doubles_28 (Nat.le_of_ble_eq_true rfl) rfl rfl ?_
      refine gk_iload_n dX7_doubles_30 rfl ?_
      refine gk_iload_n dX7_doubles_31 rfl ?_
      refine gk_iload dX7_doubles_32 rfl ?_
      refine gk_iand dX7_doubles_34 ?_
      refine gk_ior dX7_doubles_35 ?_
      refine gk_nmi (fun v2_36 ev2_36 => ?_)
      replace h := h v2_36 ev2_36
      refine gk_istore_n dX7_doubles_36 (Nat.le_of_ble_eq_true rfl) rfl rfl ?_
      refine gk_iload_n dX7_doubles_37 rfl ?_
      refine gk_iload dX7_doubles_38 rfl ?_
      refine gk_ior dX7_doubles_40 ?_
      refine gk_nmi (fun v1_41 ev1_41 => ?_)
      replace h := h v1_41 ev1_41
      refine gk_istore_n dX7_doubles_41 (Nat.le_of_ble_eq_true rfl) rfl rfl ?_
      refine gk_iinc dX7_doubles_42 rfl (Nat.le_of_ble_eq_true rfl) rfl rfl rfl ?_
      refine gk_goto (tgt := 6) dX7_doubles_45 (by decide) ?_
      exact gk_less (gz_le_s rfl (gz_le_s rfl (gz_le_s rfl (gz_le_s rfl (gz_le_n gz_le_0))))) (ih _ _ _ _ h)
set_option maxHeartbeats 4000000 in
set_option maxRecDepth 100000 in
theorem ctX7_doubles {E : gz_E} {S : gz_S} {Q : Int32 → gz_S → Prop} (h : wX7_doubles S Q) : gz_m E mX7_doubles 1 0 0 [.ref 0] gz_F S (gz_qi Q) := by
  refine gz_meet0 (L0 := [some (.ref 0), none, none, none, none]) (by decide) rfl (Nat.le_of_ble_eq_true rfl) (by decide) ?_
  unfold wX7_doubles at h
  refine gk_iconst (v := 0) dX7_doubles_0 rfl ?_
  refine gk_istore_n dX7_doubles_1 (Nat.le_of_ble_eq_true rfl) rfl rfl ?_
  refine gk_iconst (v := 0) dX7_doubles_2 rfl ?_
  refine gk_istore_n dX7_doubles_3 (Nat.le_of_ble_eq_true rfl) rfl rfl ?_
  refine gk_iconst (v := 0) dX7_doubles_4 rfl ?_
  refine gk_istore_n dX7_doubles_5 (Nat.le_of_ble_eq_true rfl) rfl rfl ?_
  obtain ⟨m6, h⟩ := h
  exact gk_less (gz_le_s rfl (gz_le_s rfl (gz_le_s rfl (gz_le_s rfl (gz_le_n gz_le_0))))) (oX7_doubles_6 m6 _ _ _ _ h)
