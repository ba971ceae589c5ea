set_option maxHeartbeats 4000000 in
set_option maxRecDepth 100000 in
theorem oX8_mostOf_58 {E : gz_E} {k32 : Int32 → Int32 → Int32 → gz_S → Prop} {Q : Int32 → gz_S → Prop} (hk32 : ∀ (x1 : Int32) (x2 : Int32) (x3 : Int32) (S : gz_S), k32 x1 x2 x3 S → gz_k E mX8_mostOf (3, 0, 0, 73) 0 0 32 [some (.ref 45), some (.int x1), some (.int x2), some (.int x3), none, none, none] [] gz_F S (gz_qi Q)) : ∀ (n : Nat) (x1 : Int32) (x2 : Int32) (x3 : Int32) (x4 : Int32) (S : gz_S), wX8_mostOf_58 k32 Q n x1 x2 x3 x4 S → gz_k E mX8_mostOf (3, 0, 0, 73) 0 0 58 [some (.ref 45), some (.int x1), some (.int x2), some (.int x3), some (.int x4), none, none] [] gz_F S (gz_qi Q) := by
  intro n
  induction n with
  | zero =>
    intro x1 x2 x3 x4 S h
    exact h.elim
  | succ n ih =>
    intro x1 x2 x3 x4 S h
    unfold wX8_mostOf_58 at h
    refine gk_iload dX8_mostOf_58 rfl ?_
    refine gk_sipush (v := 512) dX8_mostOf_60 rfl ?_
    refine gk_icmp_ge (tgt := 86) dX8_mostOf_63 (by decide) (fun c63 => ?_) (fun c63 => ?_)
    · replace h := h.1 c63
      refine gk_iconst (v := 1) dX8_mostOf_86 rfl ?_
      refine gk_istore dX8_mostOf_87 (Nat.le_of_ble_eq_true rfl) rfl rfl ?_
      obtain ⟨m89, h⟩ := h
      exact gk_less (gz_le_s rfl (gz_le_s rfl (gz_le_s rfl (gz_le_s rfl (gz_le_s rfl (gz_le_n (gz_le_n gz_le_0))))))) (oX8_mostOf_89 hk32 m89 _ _ _ _ _ h)
    · replace h := h.2 c63
      refine gk_aload_n dX8_mostOf_66 rfl ?_
      refine gk_getr dX8_mostOf_67 rfl rfl wfX8_71 ?_
      refine gk_iload dX8_mostOf_70 rfl ?_
      refine gk_aload_n dX8_mostOf_72 rfl ?_
      refine gk_getr dX8_mostOf_73 rfl rfl wfX8_68 ?_
      refine gk_iload dX8_mostOf_76 rfl ?_
      refine gk_baload dX8_mostOf_78 rfl h.1 ?_
      replace h := h.2
      refine gk_bastore dX8_mostOf_79 rfl h.1 (gz_b01_nar h.2.1) ?_
      replace h := h.2.2
      refine gk_nmS (fun S79 eS79 => ?_)
      replace h := h S79 eS79
      refine gk_iinc dX8_mostOf_80 rfl (Nat.le_of_ble_eq_true rfl) rfl rfl rfl ?_
      refine gk_goto (tgt := 58) dX8_mostOf_83 (by decide) ?_
      exact gk_less (gz_le_s rfl (gz_le_s rfl (gz_le_s rfl (gz_le_s rfl (gz_le_s rfl (gz_le_n (gz_le_n gz_le_0))))))) (ih _ _ _ _ _ h)
set_option maxHeartbeats 4000000 in
set_option maxRecDepth 100000 in
theorem oX8_mostOf_32 {E : gz_E} {Q : Int32 → gz_S → Prop} : ∀ (n : Nat) (x1 : Int32) (x2 : Int32) (x3 : Int32) (S : gz_S), wX8_mostOf_32 Q n x1 x2 x3 S → gz_k E mX8_mostOf (3, 0, 0, 73) 0 0 32 [some (.ref 45), some (.int x1), some (.int x2), some (.int x3), none, none, none] [] gz_F S (gz_qi Q) := by
  intro n
  induction n with
  | zero =>
    intro x1 x2 x3 S h
    exact h.elim
  | succ n ih =>
    intro x1 x2 x3 S h
    unfold wX8_mostOf_32 at h
    refine gk_iload_n dX8_mostOf_32 rfl ?_
    refine gk_aload_n dX8_mostOf_33 rfl ?_
    refine gk_geti dX8_mostOf_34 rfl rfl wfX8_129 ?_
    refine gk_icmp_ge (tgt := 200) dX8_mostOf_37 (by decide) (fun c37 => ?_) (fun c37 => ?_)
    · replace h := h.1 c37
      refine gk_iconst (v := 0) dX8_mostOf_200 rfl ?_
      refine gk_istore_n dX8_mostOf_201 (Nat.le_of_ble_eq_true rfl) rfl rfl ?_
      refine gk_iconst (v := 0) dX8_mostOf_202 rfl ?_
      refine gk_istore dX8_mostOf_203 (Nat.le_of_ble_eq_true rfl) rfl rfl ?_
      obtain ⟨m205, h⟩ := h
      exact gk_less (gz_le_s rfl (gz_le_n (gz_le_n (gz_le_s rfl (gz_le_s rfl (gz_le_n (gz_le_n gz_le_0))))))) (oX8_mostOf_205 m205 _ _ _ h)
    · replace h := h.2 c37
      refine gk_aload_n dX8_mostOf_40 rfl ?_
      refine gk_getr dX8_mostOf_41 rfl rfl wfX8_31 ?_
      refine gk_iload_n dX8_mostOf_44 rfl ?_
      refine gk_iaload dX8_mostOf_45 rfl h.1 ?_
      replace h := h.2
      refine gk_iload_n dX8_mostOf_46 rfl ?_
      refine gk_icmp_ne (tgt := 194) dX8_mostOf_47 (by decide) (fun c47 => ?_) (fun c47 => ?_)
      · replace h := h.1 c47
        exact gk_less (gz_le_s rfl (gz_le_s rfl (gz_le_s rfl (gz_le_s rfl (gz_le_n (gz_le_n (gz_le_n gz_le_0))))))) (oX8_mostOf_194 (fun y0 y1 y2 S h => ih y0 y1 y2 S h) _ _ _ _ h)
      · replace h := h.2 c47
        refine gk_iload_n dX8_mostOf_50 rfl ?_
        refine gk_iload_n dX8_mostOf_51 rfl ?_
        refine gk_icmp_eq (tgt := 194) dX8_mostOf_52 (by decide) (fun c52 => ?_) (fun c52 => ?_)
        · replace h := h.1 c52
          exact gk_less (gz_le_s rfl (gz_le_s rfl (gz_le_s rfl (gz_le_s rfl (gz_le_n (gz_le_n (gz_le_n gz_le_0))))))) (oX8_mostOf_194 (fun y0 y1 y2 S h => ih y0 y1 y2 S h) _ _ _ _ h)
        · replace h := h.2 c52
          refine gk_iconst (v := 0) dX8_mostOf_55 rfl ?_
          refine gk_istore dX8_mostOf_56 (Nat.le_of_ble_eq_true rfl) rfl rfl ?_
          obtain ⟨m58, h⟩ := h
          exact gk_less (gz_le_s rfl (gz_le_s rfl (gz_le_s rfl (gz_le_s rfl (gz_le_s rfl (gz_le_n (gz_le_n gz_le_0))))))) (oX8_mostOf_58 (fun y0 y1 y2 S h => ih y0 y1 y2 S h) m58 _ _ _ _ _ h)
set_option maxHeartbeats 4000000 in
set_option maxRecDepth 100000 in
theorem oX8_mostOf_2 {E : gz_E} {Q : Int32 → gz_S → Prop} : ∀ (n : Nat) (x1 : Int32) (x2 : Int32) (x3 : Int32) (S : gz_S), wX8_mostOf_2 Q n x1 x2 x3 S → gz_k E mX8_mostOf (3, 0, 0, 73) 0 0 2 [some (.ref 45), some (.int x1), some (.int x2), some (.int x3), none, none, none] [] gz_F S (gz_qi Q) := by
  intro n
  induction n with
  | zero =>
    intro x1 x2 x3 S h
    exact h.elim
  | succ n ih =>
    intro x1 x2 x3 S h
    unfold wX8_mostOf_2 at h
    refine gk_iload_n dX8_mostOf_2 rfl ?_
    refine gk_sipush (v := 512) dX8_mostOf_3 rfl ?_
    refine gk_icmp_ge (tgt := 30) dX8_mostOf_6 (by decide) (fun c6 => ?_) (fun c6 => ?_)
    · replace h := h.1 c6
      refine gk_iconst (v := 0) dX8_mostOf_30 rfl ?_
      refine gk_istore_n dX8_mostOf_31 (Nat.le_of_ble_eq_true rfl) rfl rfl ?_
      obtain ⟨m32, h⟩ := h
      exact gk_less (gz_le_s rfl (gz_le_s rfl (gz_le_s rfl (gz_le_s rfl (gz_le_n (gz_le_n (gz_le_n gz_le_0))))))) (oX8_mostOf_32 m32 _ _ _ _ h)
    · replace h := h.2 c6
      refine gk_aload_n dX8_mostOf_9 rfl ?_
      refine gk_getr dX8_mostOf_10 rfl rfl wfX8_68 ?_
      refine gk_iload_n dX8_mostOf_13 rfl ?_
      refine gk_iload_n dX8_mostOf_14 rfl ?_
      refine gk_if_ne (tgt := 22) dX8_mostOf_15 (by decide) (fun c15 => ?_) (fun c15 => ?_)
      · replace h := h.1 c15
        refine gk_iconst (v := 0) dX8_mostOf_22 rfl ?_
        exact gk_less (gz_le_s rfl (gz_le_s rfl (gz_le_s rfl (gz_le_s rfl (gz_le_n (gz_le_n (gz_le_n gz_le_0))))))) (oX8_mostOf_23 (fun y0 y1 y2 S h => ih y0 y1 y2 S h) _ _ _ _ _ _ h)
      · replace h := h.2 c15
        refine gk_iconst (v := 1) dX8_mostOf_18 rfl ?_
        refine gk_goto (tgt := 23) dX8_mostOf_19 (by decide) ?_
        exact gk_less (gz_le_s rfl (gz_le_s rfl (gz_le_s rfl (gz_le_s rfl (gz_le_n (gz_le_n (gz_le_n gz_le_0))))))) (oX8_mostOf_23 (fun y0 y1 y2 S h => ih y0 y1 y2 S h) _ _ _ _ _ _ h)
set_option maxHeartbeats 4000000 in
set_option maxRecDepth 100000 in
theorem ctX8_mostOf {E : gz_E} {x1 : Int32} {x2 : Int32} {S : gz_S} {Q : Int32 → gz_S → Prop} (h : wX8_mostOf x1 x2 S Q) : gz_m E mX8_mostOf 3 0 0 [.ref 45, .int x1, .int x2] gz_F S (gz_qi Q) := by
  refine gz_meet0 (L0 := [some (.ref 45), some (.int x1), some (.int x2), none, none, none, none]) (by decide) rfl (Nat.le_of_ble_eq_true rfl) (by decide) ?_
  unfold wX8_mostOf at h
  refine gk_iconst (v := 0) dX8_mostOf_0 rfl ?_
  refine gk_istore_n dX8_mostOf_1 (Nat.le_of_ble_eq_true rfl) rfl rfl ?_
  obtain ⟨m2, h⟩ := h
  exact gk_less (gz_le_s rfl (gz_le_s rfl (gz_le_s rfl (gz_le_s rfl (gz_le_n (gz_le_n (gz_le_n gz_le_0))))))) (oX8_mostOf_2 m2 _ _ _ _ h)
set_option maxHeartbeats 4000000 in
set_option maxRecDepth 100000 in
theorem ctX8_most {E : gz_E} {x1 : Int32} {S : gz_S} {Q : Int32 → gz_S → Prop} (h : wX8_most x1 S Q) : gz_m E mX8_most 4 0 0 [.ref 45, .int x1] gz_F S (gz_qi Q) := by
  refine gz_meet0 (L0 := [some (.ref 45), some (.int x1)]) (by decide) rfl (Nat.le_of_ble_eq_true rfl) (by decide) ?_
  unfold wX8_most at h
  refine gk_aload_n dX8_most_0 rfl ?_
  refine gk_callV (as := []) (rest := []) (ctX8_reads h) dX8_most_1 rfl rfl wvX8_147 wcX8_reads rfl (Nat.le_of_ble_eq_true rfl) ⟨Nat.le_refl _, Nat.le_refl _⟩ (fun h9 => absurd rfl h9) (Nat.le_of_ble_eq_true rfl) rfl (fun v G2 S1 hq => ?_)
  obtain ⟨rfl, rfl, h⟩ := hq
  refine gk_iload_n dX8_most_4 rfl ?_
  refine gk_callS (as := [_]) (rest := []) (ctX8_isTwo h) dX8_most_5 wvX8_121 wcX8_isTwo rfl (Nat.le_of_ble_eq_true rfl) ⟨Nat.le_refl _, Nat.le_refl _⟩ (fun h9 => absurd rfl h9) (Nat.le_of_ble_eq_true rfl) rfl (fun v G2 S5 hq => ?_)
  obtain ⟨rfl, r5, rfl, h⟩ := hq
  refine gk_if_eq (tgt := 20) dX8_most_8 (by decide) (fun c8 => ?_) (fun c8 => ?_)
  · replace h := h.1 c8
    refine gk_bipush (v := (-2)) dX8_most_20 rfl ?_
    exact gk_iret dX8_most_22 rfl rfl rfl rfl ⟨rfl, _, rfl, h⟩
  · replace h := h.2 c8
    refine gk_aload_n dX8_most_11 rfl ?_
    refine gk_iload_n dX8_most_12 rfl ?_
    refine gk_iconst (v := (-1)) dX8_most_13 rfl ?_
    refine gk_callV (as := [_, _]) (rest := []) (ctX8_mostOf h) dX8_most_14 rfl rfl wvX8_259 wcX8_mostOf rfl (Nat.le_of_ble_eq_true rfl) ⟨Nat.le_refl _, Nat.le_refl _⟩ (fun h9 => absurd rfl h9) (Nat.le_of_ble_eq_true rfl) rfl (fun v G2 S14 hq => ?_)
    obtain ⟨rfl, r14, rfl, h⟩ := hq
    refine gk_goto (tgt := 22) dX8_most_17 (by decide) ?_
    exact gk_iret dX8_most_22 rfl rfl rfl rfl ⟨rfl, _, rfl, h⟩
set_option maxHeartbeats 4000000 in
set_option maxRecDepth 100000 in
theorem oX7_hold_76 {E : gz_E} {k19 : Int32 → Int32 → Int32 → Int32 → gz_S → Prop} {Q : Int32 → gz_S → Prop} (hk19 : ∀ (x1 : Int32) (x2 : Int32) (x3 : Int32) (x4 : Int32) (S : gz_S), k19 x1 x2 x3 x4 S → gz_k E mX7_hold (5, 0, 0, 73) 0 0 19 [some (.ref 0), some (.int x1), some (.int x2), some (.int x3), some (.int x4), none] [] gz_F S (gz_qi Q)) : ∀ (x1 : Int32) (x2 : Int32) (x3 : Int32) (x4 : Int32) (S : gz_S), wX7_hold_76 k19 Q x1 x2 x3 x4 S → gz_k E mX7_hold (5, 0, 0, 73) 0 0 76 [some (.ref 0), some (.int x1), some (.int x2), some (.int x3), some (.int x4), none] [] gz_F S (gz_qi Q) := by
  intro x1 x2 x3 x4 S h
  unfold wX7_hold_76 at h
  refine gk_iinc dX7_hold_76 rfl (Nat.le_of_ble_eq_true rfl) rfl rfl rfl ?_
  refine gk_goto (tgt := 19) dX7_hold_79 (by decide) ?_
  exact gk_less (gz_le_s rfl (gz_le_s rfl (gz_le_s rfl (gz_le_s rfl (gz_le_s rfl (gz_le_n gz_le_0)))))) (hk19 _ _ _ _ _ h)
set_option maxHeartbeats 4000000 in
set_option maxRecDepth 100000 in
theorem oX7_hold_70 {E : gz_E} {k19 : Int32 → Int32 → Int32 → Int32 → gz_S → Prop} {Q : Int32 → gz_S → Prop} (hk19 : ∀ (x1 : Int32) (x2 : Int32) (x3 : Int32) (x4 : Int32) (S : gz_S), k19 x1 x2 x3 x4 S → gz_k E mX7_hold (5, 0, 0, 73) 0 0 19 [some (.ref 0), some (.int x1), some (.int x2), some (.int x3), some (.int x4), none] [] gz_F S (gz_qi Q)) : ∀ (x1 : Int32) (x4 : Int32) (x5 : Int32) (S : gz_S), wX7_hold_70 k19 Q x1 x4 x5 S → gz_k E mX7_hold (5, 0, 0, 73) 0 0 70 [some (.ref 0), some (.int x1), none, none, some (.int x4), some (.int x5)] [] gz_F S (gz_qi Q) := by
  intro x1 x4 x5 S h
  unfold wX7_hold_70 at h
  refine gk_iload dX7_hold_70 rfl ?_
  refine gk_istore_n dX7_hold_72 (Nat.le_of_ble_eq_true rfl) rfl rfl ?_
  refine gk_iload dX7_hold_73 rfl ?_
  refine gk_istore_n dX7_hold_75 (Nat.le_of_ble_eq_true rfl) rfl rfl ?_
  exact gk_less (gz_le_s rfl (gz_le_s rfl (gz_le_s rfl (gz_le_s rfl (gz_le_s rfl (gz_le_n gz_le_0)))))) (oX7_hold_76 hk19 _ _ _ _ _ h)
set_option maxHeartbeats 4000000 in
set_option maxRecDepth 100000 in
theorem oX7_hold_19 {E : gz_E} {Q : Int32 → gz_S → Prop} : ∀ (n : Nat) (x1 : Int32) (x2 : Int32) (x3 : Int32) (x4 : Int32) (S : gz_S), wX7_hold_19 Q n x1 x2 x3 x4 S → gz_k E mX7_hold (5, 0, 0, 73) 0 0 19 [some (.ref 0), some (.int x1), some (.int x2), some (.int x3), some (.int x4), none] [] gz_F S (gz_qi Q) := by
  intro n
  induction n with
  | zero =>
    intro x1 x2 x3 x4 S h
    exact h.elim
  | succ n ih =>
    intro x1 x2 x3 x4 S h
    unfold wX7_hold_19 at h
    refine gk_iload dX7_hold_19 rfl ?_
    refine gk_aload_n dX7_hold_21 rfl ?_
    refine gk_getr dX7_hold_22 rfl rfl wfX7_10 ?_
    refine gk_getr dX7_hold_25 rfl rfl wfX7_92 ?_
    refine gk_geti dX7_hold_28 rfl rfl wfX7_96 ?_
    refine gk_icmp_ge (tgt := 82) dX7_hold_31 (by decide) (fun c31 => ?_) (fun c31 => ?_)
    · replace h := h.1 c31
      refine gk_iload_n dX7_hold_82 rfl ?_
      exact gk_iret dX7_hold_83 rfl rfl rfl rfl ⟨rfl, _, rfl, h⟩
    · replace h := h.2 c31
      refine gk_aload_n dX7_hold_34 rfl ?_
      refine gk_getr dX7_hold_35 rfl rfl wfX7_10 ?_
      refine gk_iload dX7_hold_38 rfl ?_
      refine gk_callV (as := [_]) (rest := []) (ctX3_sideOf h) dX7_hold_40 rfl rfl wvX7_103 wcX3_sideOf rfl (Nat.le_of_ble_eq_true rfl) ⟨Nat.le_refl _, Nat.le_refl _⟩ (fun h9 => absurd rfl h9) (Nat.le_of_ble_eq_true rfl) rfl (fun v G2 S40 hq => ?_)
      obtain ⟨rfl, r40, rfl, h⟩ := hq
      refine gk_iload_n dX7_hold_43 rfl ?_
      refine gk_icmp_ne (tgt := 76) dX7_hold_44 (by decide) (fun c44 => ?_) (fun c44 => ?_)
      · replace h := h.1 c44
        exact gk_less (gz_le_s rfl (gz_le_s rfl (gz_le_s rfl (gz_le_s rfl (gz_le_s rfl (gz_le_n gz_le_0)))))) (oX7_hold_76 (fun y0 y1 y2 y3 S h => ih y0 y1 y2 y3 S h) _ _ _ _ _ h)
      · replace h := h.2 c44
        refine gk_aload_n dX7_hold_47 rfl ?_
        refine gk_getr dX7_hold_48 rfl rfl wfX7_40 ?_
        refine gk_iload_n dX7_hold_51 rfl ?_
        refine gk_iload dX7_hold_52 rfl ?_
        refine gk_callV (as := [_, _]) (rest := []) (ctX4_mostWeight h) dX7_hold_54 rfl rfl wvX7_189 wcX4_mostWeight rfl (Nat.le_of_ble_eq_true rfl) ⟨Nat.le_refl _, Nat.le_refl _⟩ (fun h9 => absurd rfl h9) (Nat.le_of_ble_eq_true rfl) rfl (fun v G2 S54 hq => ?_)
        obtain ⟨rfl, r54, rfl, h⟩ := hq
        refine gk_istore dX7_hold_57 (Nat.le_of_ble_eq_true rfl) rfl rfl ?_
        refine gk_iload_n dX7_hold_59 rfl ?_
        refine gk_iconst (v := (-1)) dX7_hold_60 rfl ?_
        refine gk_icmp_eq (tgt := 70) dX7_hold_61 (by decide) (fun c61 => ?_) (fun c61 => ?_)
        · replace h := h.1 c61
          exact gk_less (gz_le_s rfl (gz_le_s rfl (gz_le_n (gz_le_n (gz_le_s rfl (gz_le_s rfl gz_le_0)))))) (oX7_hold_70 (fun y0 y1 y2 y3 S h => ih y0 y1 y2 y3 S h) _ _ _ _ h)
        · replace h := h.2 c61
          refine gk_iload dX7_hold_64 rfl ?_
          refine gk_iload_n dX7_hold_66 rfl ?_
          refine gk_icmp_ge (tgt := 76) dX7_hold_67 (by decide) (fun c67 => ?_) (fun c67 => ?_)
          · replace h := h.1 c67
            exact gk_less (gz_le_s rfl (gz_le_s rfl (gz_le_s rfl (gz_le_s rfl (gz_le_s rfl (gz_le_n gz_le_0)))))) (oX7_hold_76 (fun y0 y1 y2 y3 S h => ih y0 y1 y2 y3 S h) _ _ _ _ _ h)
          · replace h := h.2 c67
            exact gk_less (gz_le_s rfl (gz_le_s rfl (gz_le_n (gz_le_n (gz_le_s rfl (gz_le_s rfl gz_le_0)))))) (oX7_hold_70 (fun y0 y1 y2 y3 S h => ih y0 y1 y2 y3 S h) _ _ _ _ h)
set_option maxHeartbeats 4000000 in
set_option maxRecDepth 100000 in
theorem ctX7_hold {E : gz_E} {x1 : Int32} {S : gz_S} {Q : Int32 → gz_S → Prop} (h : wX7_hold x1 S Q) : gz_m E mX7_hold 5 0 0 [.ref 0, .int x1] gz_F S (gz_qi Q) := by
  refine gz_meet0 (L0 := [some (.ref 0), some (.int x1), none, none, none, none]) (by decide) rfl (Nat.le_of_ble_eq_true rfl) (by decide) ?_
  unfold wX7_hold at h
  refine gk_iload_n dX7_hold_0 rfl ?_
  refine gk_iconst (v := 0) dX7_hold_1 rfl ?_
  refine gk_iconst (v := 1) dX7_hold_2 rfl ?_
  refine gk_callS (as := [_, _, _]) (rest := []) (ctX7_within h) dX7_hold_3 wvX7_62 wcX7_within rfl (Nat.le_of_ble_eq_true rfl) ⟨Nat.le_refl _, Nat.le_refl _⟩ (fun h9 => absurd rfl h9) (Nat.le_of_ble_eq_true rfl) rfl (fun v G2 S3 hq => ?_)
  obtain ⟨rfl, r3, rfl, h⟩ := hq
  refine gk_if_ne (tgt := 12) dX7_hold_6 (by decide) (fun c6 => ?_) (fun c6 => ?_)
  · replace h := h.1 c6
    refine gk_iconst (v := (-1)) dX7_hold_12 rfl ?_
    refine gk_istore_n dX7_hold_13 (Nat.le_of_ble_eq_true rfl) rfl rfl ?_
    refine gk_iconst (v := 0) dX7_hold_14 rfl ?_
    refine gk_istore_n dX7_hold_15 (Nat.le_of_ble_eq_true rfl) rfl rfl ?_
    refine gk_iconst (v := 0) dX7_hold_16 rfl ?_
    refine gk_istore dX7_hold_17 (Nat.le_of_ble_eq_true rfl) rfl rfl ?_
    obtain ⟨m19, h⟩ := h
    exact gk_less (gz_le_s rfl (gz_le_s rfl (gz_le_s rfl (gz_le_s rfl (gz_le_s rfl (gz_le_n gz_le_0)))))) (oX7_hold_19 m19 _ _ _ _ _ h)
  · replace h := h.2 c6
    refine gk_bipush (v := (-2)) dX7_hold_9 rfl ?_
    exact gk_iret dX7_hold_11 rfl rfl rfl rfl ⟨rfl, _, rfl, h⟩
set_option maxHeartbeats 4000000 in
set_option maxRecDepth 100000 in
theorem oX8_holdOf_53 {E : gz_E} {k7 : Int32 → Int32 → Int32 → Int32 → gz_S → Prop} {Q : Int32 → gz_S → Prop} (hk7 : ∀ (x1 : Int32) (x2 : Int32) (x3 : Int32) (x4 : Int32) (S : gz_S), k7 x1 x2 x3 x4 S → gz_k E mX8_holdOf (4, 0, 0, 73) 0 0 7 [some (.ref 45), some (.int x1), some (.int x2), some (.int x3), some (.int x4), none] [] gz_F S (gz_qi Q)) : ∀ (x1 : Int32) (x2 : Int32) (x3 : Int32) (x4 : Int32) (S : gz_S), wX8_holdOf_53 k7 Q x1 x2 x3 x4 S → gz_k E mX8_holdOf (4, 0, 0, 73) 0 0 53 [some (.ref 45), some (.int x1), some (.int x2), some (.int x3), some (.int x4), none] [] gz_F S (gz_qi Q) := by
  intro x1 x2 x3 x4 S h
  unfold wX8_holdOf_53 at h
  refine gk_iinc dX8_holdOf_53 rfl (Nat.le_of_ble_eq_true rfl) rfl rfl rfl ?_
  refine gk_goto (tgt := 7) dX8_holdOf_56 (by decide) ?_
  exact gk_less (gz_le_s rfl (gz_le_s rfl (gz_le_s rfl (gz_le_s rfl (gz_le_s rfl (gz_le_n gz_le_0)))))) (hk7 _ _ _ _ _ h)
set_option maxHeartbeats 4000000 in
set_option maxRecDepth 100000 in
theorem oX8_holdOf_47 {E : gz_E} {k7 : Int32 → Int32 → Int32 → Int32 → gz_S → Prop} {Q : Int32 → gz_S → Prop} (hk7 : ∀ (x1 : Int32) (x2 : Int32) (x3 : Int32) (x4 : Int32) (S : gz_S), k7 x1 x2 x3 x4 S → gz_k E mX8_holdOf (4, 0, 0, 73) 0 0 7 [some (.ref 45), some (.int x1), some (.int x2), some (.int x3), some (.int x4), none] [] gz_F S (gz_qi Q)) : ∀ (x1 : Int32) (x4 : Int32) (x5 : Int32) (S : gz_S), wX8_holdOf_47 k7 Q x1 x4 x5 S → gz_k E mX8_holdOf (4, 0, 0, 73) 0 0 47 [some (.ref 45), some (.int x1), none, none, some (.int x4), some (.int x5)] [] gz_F S (gz_qi Q) := by
  intro x1 x4 x5 S h
  unfold wX8_holdOf_47 at h
  refine gk_iload dX8_holdOf_47 rfl ?_
  refine gk_istore_n dX8_holdOf_49 (Nat.le_of_ble_eq_true rfl) rfl rfl ?_
  refine gk_iload dX8_holdOf_50 rfl ?_
  refine gk_istore_n dX8_holdOf_52 (Nat.le_of_ble_eq_true rfl) rfl rfl ?_
  exact gk_less (gz_le_s rfl (gz_le_s rfl (gz_le_s rfl (gz_le_s rfl (gz_le_s rfl (gz_le_n gz_le_0)))))) (oX8_holdOf_53 hk7 _ _ _ _ _ h)
set_option maxHeartbeats 4000000 in
set_option maxRecDepth 100000 in
theorem oX8_holdOf_7 {E : gz_E} {Q : Int32 → gz_S → Prop} : ∀ (n : Nat) (x1 : Int32) (x2 : Int32) (x3 : Int32) (x4 : Int32) (S : gz_S), wX8_holdOf_7 Q n x1 x2 x3 x4 S → gz_k E mX8_holdOf (4, 0, 0, 73) 0 0 7 [some (.ref 45), some (.int x1), some (.int x2), some (.int x3), some (.int x4), none] [] gz_F S (gz_qi Q) := by
  intro n
  induction n with
  | zero =>
    intro x1 x2 x3 x4 S h
    exact h.elim
  | succ n ih =>
    intro x1 x2 x3 x4 S h
    unfold wX8_holdOf_7 at h
    refine gk_iload dX8_holdOf_7 rfl ?_
    refine gk_aload_n dX8_holdOf_9 rfl ?_
    refine gk_geti dX8_holdOf_10 rfl rfl wfX8_129 ?_
    refine gk_icmp_ge (tgt := 59) dX8_holdOf_13 (by decide) (fun c13 => ?_) (fun c13 => ?_)
    · replace h := h.1 c13
      refine gk_iload_n dX8_holdOf_59 rfl ?_
      exact gk_iret dX8_holdOf_60 rfl rfl rfl rfl ⟨rfl, _, rfl, h⟩
    · replace h := h.2 c13
      refine gk_aload_n dX8_holdOf_16 rfl ?_
      refine gk_getr dX8_holdOf_17 rfl rfl wfX8_31 ?_
      refine gk_iload dX8_holdOf_20 rfl ?_
      refine gk_iaload dX8_holdOf_22 rfl h.1 ?_
      replace h := h.2
      refine gk_iload_n dX8_holdOf_23 rfl ?_
      refine gk_icmp_ne (tgt := 53) dX8_holdOf_24 (by decide) (fun c24 => ?_) (fun c24 => ?_)
      · replace h := h.1 c24
        exact gk_less (gz_le_s rfl (gz_le_s rfl (gz_le_s rfl (gz_le_s rfl (gz_le_s rfl (gz_le_n gz_le_0)))))) (oX8_holdOf_53 (fun y0 y1 y2 y3 S h => ih y0 y1 y2 y3 S h) _ _ _ _ _ h)
      · replace h := h.2 c24
        refine gk_aload_n dX8_holdOf_27 rfl ?_
        refine gk_iload_n dX8_holdOf_28 rfl ?_
        refine gk_iload dX8_holdOf_29 rfl ?_
        refine gk_callV (as := [_, _]) (rest := []) (ctX8_mostOf h) dX8_holdOf_31 rfl rfl wvX8_259 wcX8_mostOf rfl (Nat.le_of_ble_eq_true rfl) ⟨Nat.le_refl _, Nat.le_refl _⟩ (fun h9 => absurd rfl h9) (Nat.le_of_ble_eq_true rfl) rfl (fun v G2 S31 hq => ?_)
        obtain ⟨rfl, r31, rfl, h⟩ := hq
        refine gk_istore dX8_holdOf_34 (Nat.le_of_ble_eq_true rfl) rfl rfl ?_
        refine gk_iload_n dX8_holdOf_36 rfl ?_
        refine gk_iconst (v := (-1)) dX8_holdOf_37 rfl ?_
        refine gk_icmp_eq (tgt := 47) dX8_holdOf_38 (by decide) (fun c38 => ?_) (fun c38 => ?_)
        · replace h := h.1 c38
          exact gk_less (gz_le_s rfl (gz_le_s rfl (gz_le_n (gz_le_n (gz_le_s rfl (gz_le_s rfl gz_le_0)))))) (oX8_holdOf_47 (fun y0 y1 y2 y3 S h => ih y0 y1 y2 y3 S h) _ _ _ _ h)
        · replace h := h.2 c38
          refine gk_iload dX8_holdOf_41 rfl ?_
          refine gk_iload_n dX8_holdOf_43 rfl ?_
          refine gk_icmp_ge (tgt := 53) dX8_holdOf_44 (by decide) (fun c44 => ?_) (fun c44 => ?_)
          · replace h := h.1 c44
            exact gk_less (gz_le_s rfl (gz_le_s rfl (gz_le_s rfl (gz_le_s rfl (gz_le_s rfl (gz_le_n gz_le_0)))))) (oX8_holdOf_53 (fun y0 y1 y2 y3 S h => ih y0 y1 y2 y3 S h) _ _ _ _ _ h)
          · replace h := h.2 c44
            exact gk_less (gz_le_s rfl (gz_le_s rfl (gz_le_n (gz_le_n (gz_le_s rfl (gz_le_s rfl gz_le_0)))))) (oX8_holdOf_47 (fun y0 y1 y2 y3 S h => ih y0 y1 y2 y3 S h) _ _ _ _ h)
set_option maxHeartbeats 4000000 in
set_option maxRecDepth 100000 in
theorem ctX8_holdOf {E : gz_E} {x1 : Int32} {S : gz_S} {Q : Int32 → gz_S → Prop} (h : wX8_holdOf x1 S Q) : gz_m E mX8_holdOf 4 0 0 [.ref 45, .int x1] gz_F S (gz_qi Q) := by
  refine gz_meet0 (L0 := [some (.ref 45), some (.int x1), none, none, none, none]) (by decide) rfl (Nat.le_of_ble_eq_true rfl) (by decide) ?_
  unfold wX8_holdOf at h
  refine gk_iconst (v := (-1)) dX8_holdOf_0 rfl ?_
  refine gk_istore_n dX8_holdOf_1 (Nat.le_of_ble_eq_true rfl) rfl rfl ?_
  refine gk_iconst (v := 0) dX8_holdOf_2 rfl ?_
  refine gk_istore_n dX8_holdOf_3 (Nat.le_of_ble_eq_true rfl) rfl rfl ?_
  refine gk_iconst (v := 0) dX8_holdOf_4 rfl ?_
  refine gk_istore dX8_holdOf_5 (Nat.le_of_ble_eq_true rfl) rfl rfl ?_
  obtain ⟨m7, h⟩ := h
  exact gk_less (gz_le_s rfl (gz_le_s rfl (gz_le_s rfl (gz_le_s rfl (gz_le_s rfl (gz_le_n gz_le_0)))))) (oX8_holdOf_7 m7 _ _ _ _ _ h)
set_option maxHeartbeats 4000000 in
set_option maxRecDepth 100000 in
theorem ctX8_hold {E : gz_E} {x1 : Int32} {S : gz_S} {Q : Int32 → gz_S → Prop} (h : wX8_hold x1 S Q) : gz_m E mX8_hold 5 0 0 [.ref 45, .int x1] gz_F S (gz_qi Q) := by
  refine gz_meet0 (L0 := [some (.ref 45), some (.int x1)]) (by decide) rfl (Nat.le_of_ble_eq_true rfl) (by decide) ?_
  unfold wX8_hold at h
  refine gk_aload_n dX8_hold_0 rfl ?_
  refine gk_callV (as := []) (rest := []) (ctX8_reads h) dX8_hold_1 rfl rfl wvX8_147 wcX8_reads rfl (Nat.le_of_ble_eq_true rfl) ⟨Nat.le_refl _, Nat.le_refl _⟩ (fun h9 => absurd rfl h9) (Nat.le_of_ble_eq_true rfl) rfl (fun v G2 S1 hq => ?_)
  obtain ⟨rfl, rfl, h⟩ := hq
  refine gk_iload_n dX8_hold_4 rfl ?_
  refine gk_callS (as := [_]) (rest := []) (ctX8_isTwo h) dX8_hold_5 wvX8_121 wcX8_isTwo rfl (Nat.le_of_ble_eq_true rfl) ⟨Nat.le_refl _, Nat.le_refl _⟩ (fun h9 => absurd rfl h9) (Nat.le_of_ble_eq_true rfl) rfl (fun v G2 S5 hq => ?_)
  obtain ⟨rfl, r5, rfl, h⟩ := hq
  refine gk_if_eq (tgt := 19) dX8_hold_8 (by decide) (fun c8 => ?_) (fun c8 => ?_)
  · replace h := h.1 c8
    refine gk_bipush (v := (-2)) dX8_hold_19 rfl ?_
    exact gk_iret dX8_hold_21 rfl rfl rfl rfl ⟨rfl, _, rfl, h⟩
  · replace h := h.2 c8
    refine gk_aload_n dX8_hold_11 rfl ?_
    refine gk_iload_n dX8_hold_12 rfl ?_
    refine gk_callV (as := [_]) (rest := []) (ctX8_holdOf h) dX8_hold_13 rfl rfl wvX8_262 wcX8_holdOf rfl (Nat.le_of_ble_eq_true rfl) ⟨Nat.le_refl _, Nat.le_refl _⟩ (fun h9 => absurd rfl h9) (Nat.le_of_ble_eq_true rfl) rfl (fun v G2 S13 hq => ?_)
    obtain ⟨rfl, r13, rfl, h⟩ := hq
    refine gk_goto (tgt := 21) dX8_hold_16 (by decide) ?_
    exact gk_iret dX8_hold_21 rfl rfl rfl rfl ⟨rfl, _, rfl, h⟩
set_option maxHeartbeats 4000000 in
set_option maxRecDepth 100000 in
theorem oX7_playOut_154 {E : gz_E} {rc : Int32 → Int32 → Int32 → Int32 → Int32 → gz_S → (Int32 → gz_S → Prop) → Prop} {d : Nat} (hd : 1 ≤ d) (hrc : ∀ (x1 : Int32) (x2 : Int32) (x3 : Int32) (x4 : Int32) (x5 : Int32) (S : gz_S) (Q : Int32 → gz_S → Prop), rc x1 x2 x3 x4 x5 S Q → gz_m E mX7_playOut d 0 0 [.ref 1, .int x1, .int x2, .int x3, .int x4, .int x5] gz_F S (gz_qi Q)) {k60 : Int32 → Int32 → Int32 → Int32 → Int32 → Int32 → Int32 → Int32 → Int32 → Int32 → gz_S → Prop} {Q : Int32 → gz_S → Prop} (hk60 : ∀ (x1 : Int32) (x2 : Int32) (x3 : Int32) (x4 : Int32) (x5 : Int32) (x6 : Int32) (x7 : Int32) (x8 : Int32) (x9 : Int32) (x10 : Int32) (S : gz_S), k60 x1 x2 x3 x4 x5 x6 x7 x8 x9 x10 S → gz_k E mX7_playOut ((d + 1), 0, 0, 73) 0 0 60 [some (.ref 1), some (.int x1), some (.int x2), some (.int x3), some (.int x4), some (.int x5), some (.int x6), some (.int x7), some (.int x8), some (.int x9), some (.int x10), none, none, none] [] gz_F S (gz_qi Q)) : ∀ (x1 : Int32) (x2 : Int32) (x3 : Int32) (x4 : Int32) (x5 : Int32) (x6 : Int32) (x7 : Int32) (x8 : Int32) (x9 : Int32) (x10 : Int32) (S : gz_S), wX7_playOut_154 rc k60 Q x1 x2 x3 x4 x5 x6 x7 x8 x9 x10 S → gz_k E mX7_playOut ((d + 1), 0, 0, 73) 0 0 154 [some (.ref 1), some (.int x1), some (.int x2), some (.int x3), some (.int x4), some (.int x5), some (.int x6), some (.int x7), some (.int x8), some (.int x9), some (.int x10), none, none, none] [] gz_F S (gz_qi Q) := by
  intro x1 x2 x3 x4 x5 x6 x7 x8 x9 x10 S h
  unfold wX7_playOut_154 at h
  refine gk_iinc dX7_playOut_154 rfl (Nat.le_of_ble_eq_true rfl) rfl rfl rfl ?_
  refine gk_goto (tgt := 60) dX7_playOut_157 (by decide) ?_
  exact gk_less (gz_le_s rfl (gz_le_s rfl (gz_le_s rfl (gz_le_s rfl (gz_le_s rfl (gz_le_s rfl (gz_le_s rfl (gz_le_s rfl (gz_le_s rfl (gz_le_s rfl (gz_le_s rfl (gz_le_n (gz_le_n (gz_le_n gz_le_0)))))))))))))) (hk60 _ _ _ _ _ _ _ _ _ _ _ h)
set_option maxHeartbeats 4000000 in
set_option maxRecDepth 100000 in
theorem oX7_playOut_147 {E : gz_E} {rc : Int32 → Int32 → Int32 → Int32 → Int32 → gz_S → (Int32 → gz_S → Prop) → Prop} {d : Nat} (hd : 1 ≤ d) (hrc : ∀ (x1 : Int32) (x2 : Int32) (x3 : Int32) (x4 : Int32) (x5 : Int32) (S : gz_S) (Q : Int32 → gz_S → Prop), rc x1 x2 x3 x4 x5 S Q → gz_m E mX7_playOut d 0 0 [.ref 1, .int x1, .int x2, .int x3, .int x4, .int x5] gz_F S (gz_qi Q)) {k60 : Int32 → Int32 → Int32 → Int32 → Int32 → Int32 → Int32 → Int32 → Int32 → Int32 → gz_S → Prop} {Q : Int32 → gz_S → Prop} (hk60 : ∀ (x1 : Int32) (x2 : Int32) (x3 : Int32) (x4 : Int32) (x5 : Int32) (x6 : Int32) (x7 : Int32) (x8 : Int32) (x9 : Int32) (x10 : Int32) (S : gz_S), k60 x1 x2 x3 x4 x5 x6 x7 x8 x9 x10 S → gz_k E mX7_playOut ((d + 1), 0, 0, 73) 0 0 60 [some (.ref 1), some (.int x1), some (.int x2), some (.int x3), some (.int x4), some (.int x5), some (.int x6), some (.int x7), some (.int x8), some (.int x9), some (.int x10), none, none, none] [] gz_F S (gz_qi Q)) : ∀ (x1 : Int32) (x2 : Int32) (x3 : Int32) (x4 : Int32) (x5 : Int32) (x6 : Int32) (x7 : Int32) (x10 : Int32) (x13 : Int32) (S : gz_S), wX7_playOut_147 rc k60 Q x1 x2 x3 x4 x5 x6 x7 x10 x13 S → gz_k E mX7_playOut ((d + 1), 0, 0, 73) 0 0 147 [some (.ref 1), some (.int x1), some (.int x2), some (.int x3), some (.int x4), some (.int x5), some (.int x6), some (.int x7), none, none, some (.int x10), none, none, some (.int x13)] [] gz_F S (gz_qi Q) := by
  intro x1 x2 x3 x4 x5 x6 x7 x10 x13 S h
  unfold wX7_playOut_147 at h
  refine gk_iconst (v := 1) dX7_playOut_147 rfl ?_
  refine gk_istore dX7_playOut_148 (Nat.le_of_ble_eq_true rfl) rfl rfl ?_
  refine gk_iload dX7_playOut_150 rfl ?_
  refine gk_istore dX7_playOut_152 (Nat.le_of_ble_eq_true rfl) rfl rfl ?_
  exact gk_less (gz_le_s rfl (gz_le_s rfl (gz_le_s rfl (gz_le_s rfl (gz_le_s rfl (gz_le_s rfl (gz_le_s rfl (gz_le_s rfl (gz_le_s rfl (gz_le_s rfl (gz_le_s rfl (gz_le_n (gz_le_n (gz_le_n gz_le_0)))))))))))))) (oX7_playOut_154 hd hrc hk60 _ _ _ _ _ _ _ _ _ _ _ h)
set_option maxHeartbeats 4000000 in
set_option maxRecDepth 100000 in
theorem oX7_playOut_60 {E : gz_E} {rc : Int32 → Int32 → Int32 → Int32 → Int32 → gz_S → (Int32 → gz_S → Prop) → Prop} {d : Nat} (hd : 1 ≤ d) (hrc : ∀ (x1 : Int32) (x2 : Int32) (x3 : Int32) (x4 : Int32) (x5 : Int32) (S : gz_S) (Q : Int32 → gz_S → Prop), rc x1 x2 x3 x4 x5 S Q → gz_m E mX7_playOut d 0 0 [.ref 1, .int x1, .int x2, .int x3, .int x4, .int x5] gz_F S (gz_qi Q)) {Q : Int32 → gz_S → Prop} : ∀ (n : Nat) (x1 : Int32) (x2 : Int32) (x3 : Int32) (x4 : Int32) (x5 : Int32) (x6 : Int32) (x7 : Int32) (x8 : Int32) (x9 : Int32) (x10 : Int32) (S : gz_S), wX7_playOut_60 rc Q n x1 x2 x3 x4 x5 x6 x7 x8 x9 x10 S → gz_k E mX7_playOut ((d + 1), 0, 0, 73) 0 0 60 [some (.ref 1), some (.int x1), some (.int x2), some (.int x3), some (.int x4), some (.int x5), some (.int x6), some (.int x7), some (.int x8), some (.int x9), some (.int x10), none, none, none] [] gz_F S (gz_qi Q) := by
  intro n
  induction n with
  | zero =>
    intro x1 x2 x3 x4 x5 x6 x7 x8 x9 x10 S h
    exact h.elim
  | succ n ih =>
    intro x1 x2 x3 x4 x5 x6 x7 x8 x9 x10 S h
    unfold wX7_playOut_60 at h
    refine gk_iload dX7_playOut_60 rfl ?_
    refine gk_aload_n dX7_playOut_62 rfl ?_
    refine gk_getr dX7_playOut_63 rfl rfl wfX7_110 ?_
    refine gk_geti dX7_playOut_66 rfl rfl wfX7_96 ?_
    refine gk_icmp_ge (tgt := 160) dX7_playOut_69 (by decide) (fun c69 => ?_) (fun c69 => ?_)
    · replace h := h.1 c69
      refine gk_iload dX7_playOut_160 rfl ?_
      exact gk_iret dX7_playOut_162 rfl rfl rfl rfl ⟨rfl, _, rfl, h⟩
    · replace h := h.2 c69
      refine gk_iconst (v := 1) dX7_playOut_72 rfl ?_
      refine gk_iload dX7_playOut_73 rfl ?_
      refine gk_ishl dX7_playOut_75 ?_
      refine gk_nmi (fun v11_76 ev11_76 => ?_)
      replace h := h v11_76 ev11_76
      refine gk_istore dX7_playOut_76 (Nat.le_of_ble_eq_true rfl) rfl rfl ?_
      refine gk_iload dX7_playOut_78 rfl ?_
      refine gk_iload dX7_playOut_80 rfl ?_
      refine gk_iand dX7_playOut_82 ?_
      refine gk_if_eq (tgt := 154) dX7_playOut_83 (by decide) (fun c83 => ?_) (fun c83 => ?_)
      · replace h := h.1 c83
        exact gk_less (gz_le_s rfl (gz_le_s rfl (gz_le_s rfl (gz_le_s rfl (gz_le_s rfl (gz_le_s rfl (gz_le_s rfl (gz_le_s rfl (gz_le_s rfl (gz_le_s rfl (gz_le_s rfl (gz_le_n (gz_le_n (gz_le_n gz_le_0)))))))))))))) (oX7_playOut_154 hd hrc (fun y0 y1 y2 y3 y4 y5 y6 y7 y8 y9 S h => ih y0 y1 y2 y3 y4 y5 y6 y7 y8 y9 S h) _ _ _ _ _ _ _ _ _ _ _ h)
      · replace h := h.2 c83
        refine gk_iload dX7_playOut_86 rfl ?_
        refine gk_iload dX7_playOut_88 rfl ?_
        refine gk_iconst (v := 5) dX7_playOut_90 rfl ?_
        refine gk_imul dX7_playOut_91 ?_
        refine gk_aload_n dX7_playOut_92 rfl ?_
        refine gk_iload dX7_playOut_93 rfl ?_
        refine gk_callV (as := [_]) (rest := [_, _]) (ctX3_weight h) dX7_playOut_95 rfl rfl wvX7_113 wcX3_weight rfl (by omega) ⟨Nat.le_refl _, Nat.le_refl _⟩ (fun h9 => absurd rfl h9) (Nat.le_of_ble_eq_true rfl) rfl (fun v G2 S95 hq => ?_)
        obtain ⟨rfl, r95, rfl, h⟩ := hq
        refine gk_imul dX7_playOut_98 ?_
        refine gk_iadd dX7_playOut_99 ?_
        refine gk_nmi (fun v12_100 ev12_100 => ?_)
        replace h := h v12_100 ev12_100
        refine gk_istore dX7_playOut_100 (Nat.le_of_ble_eq_true rfl) rfl rfl ?_
        refine gk_aload_n dX7_playOut_102 rfl ?_
        refine gk_iload_n dX7_playOut_103 rfl ?_
        refine gk_iconst (v := 1) dX7_playOut_104 rfl ?_
        refine gk_isub dX7_playOut_105 ?_
        refine gk_iconst (v := 1) dX7_playOut_106 rfl ?_
        refine gk_iload_n dX7_playOut_107 rfl ?_
        refine gk_isub dX7_playOut_108 ?_
        refine gk_iload_n dX7_playOut_109 rfl ?_
        refine gk_iload dX7_playOut_110 rfl ?_
        refine gk_iconst (v := (-1)) dX7_playOut_112 rfl ?_
        refine gk_ixor dX7_playOut_113 ?_
        refine gk_iand dX7_playOut_114 ?_
        refine gk_iload dX7_playOut_115 rfl ?_
        refine gk_iload dX7_playOut_117 rfl ?_
        refine gk_iconst (v := (-1)) dX7_playOut_119 rfl ?_
        refine gk_ixor dX7_playOut_120 ?_
        refine gk_iand dX7_playOut_121 ?_
        refine gk_iload dX7_playOut_122 rfl ?_
        refine gk_callS (as := [_, _, _, _, _, _]) (rest := []) (hrc _ _ _ _ _ _ _ h) dX7_playOut_124 wvX7_195 wcX7_playOut rfl (by omega) ⟨Nat.le_refl _, Nat.le_refl _⟩ (fun h9 => absurd rfl h9) (Nat.le_of_ble_eq_true rfl) rfl (fun v G2 S124 hq => ?_)
        obtain ⟨rfl, r124, rfl, h⟩ := hq
        refine gk_istore dX7_playOut_127 (Nat.le_of_ble_eq_true rfl) rfl rfl ?_
        refine gk_iload dX7_playOut_129 rfl ?_
        refine gk_if_eq (tgt := 147) dX7_playOut_131 (by decide) (fun c131 => ?_) (fun c131 => ?_)
        · replace h := h.1 c131
          exact gk_less (gz_le_s rfl (gz_le_s rfl (gz_le_s rfl (gz_le_s rfl (gz_le_s rfl (gz_le_s rfl (gz_le_s rfl (gz_le_s rfl (gz_le_n (gz_le_n (gz_le_s rfl (gz_le_n (gz_le_n (gz_le_s rfl gz_le_0)))))))))))))) (oX7_playOut_147 hd hrc (fun y0 y1 y2 y3 y4 y5 y6 y7 y8 y9 S h => ih y0 y1 y2 y3 y4 y5 y6 y7 y8 y9 S h) _ _ _ _ _ _ _ _ _ _ h)
        · replace h := h.2 c131
          refine gk_iload dX7_playOut_134 rfl ?_
          refine gk_iload dX7_playOut_136 rfl ?_
          refine gk_imul dX7_playOut_138 ?_
          refine gk_iload dX7_playOut_139 rfl ?_
          refine gk_iload dX7_playOut_141 rfl ?_
          refine gk_imul dX7_playOut_143 ?_
          refine gk_icmp_le (tgt := 154) dX7_playOut_144 (by decide) (fun c144 => ?_) (fun c144 => ?_)
          · replace h := h.1 c144
            exact gk_less (gz_le_s rfl (gz_le_s rfl (gz_le_s rfl (gz_le_s rfl (gz_le_s rfl (gz_le_s rfl (gz_le_s rfl (gz_le_s rfl (gz_le_s rfl (gz_le_s rfl (gz_le_s rfl (gz_le_n (gz_le_n (gz_le_n gz_le_0)))))))))))))) (oX7_playOut_154 hd hrc (fun y0 y1 y2 y3 y4 y5 y6 y7 y8 y9 S h => ih y0 y1 y2 y3 y4 y5 y6 y7 y8 y9 S h) _ _ _ _ _ _ _ _ _ _ _ h)
          · replace h := h.2 c144
            exact gk_less (gz_le_s rfl (gz_le_s rfl (gz_le_s rfl (gz_le_s rfl (gz_le_s rfl (gz_le_s rfl (gz_le_s rfl (gz_le_s rfl (gz_le_n (gz_le_n (gz_le_s rfl (gz_le_n (gz_le_n (gz_le_s rfl gz_le_0)))))))))))))) (oX7_playOut_147 hd hrc (fun y0 y1 y2 y3 y4 y5 y6 y7 y8 y9 S h => ih y0 y1 y2 y3 y4 y5 y6 y7 y8 y9 S h) _ _ _ _ _ _ _ _ _ _ h)
set_option maxHeartbeats 4000000 in
set_option maxRecDepth 100000 in
theorem oX7_playOut_49 {E : gz_E} {rc : Int32 → Int32 → Int32 → Int32 → Int32 → gz_S → (Int32 → gz_S → Prop) → Prop} {d : Nat} (hd : 1 ≤ d) (hrc : ∀ (x1 : Int32) (x2 : Int32) (x3 : Int32) (x4 : Int32) (x5 : Int32) (S : gz_S) (Q : Int32 → gz_S → Prop), rc x1 x2 x3 x4 x5 S Q → gz_m E mX7_playOut d 0 0 [.ref 1, .int x1, .int x2, .int x3, .int x4, .int x5] gz_F S (gz_qi Q)) {Q : Int32 → gz_S → Prop} : ∀ (x1 : Int32) (x2 : Int32) (x3 : Int32) (x4 : Int32) (x5 : Int32) (x6 : Int32) (t0 : Int32) (S : gz_S), wX7_playOut_49 rc Q x1 x2 x3 x4 x5 x6 t0 S → gz_k E mX7_playOut ((d + 1), 0, 0, 73) 0 0 49 [some (.ref 1), some (.int x1), some (.int x2), some (.int x3), some (.int x4), some (.int x5), some (.int x6), none, none, none, none, none, none, none] [.int t0] gz_F S (gz_qi Q) := by
  intro x1 x2 x3 x4 x5 x6 t0 S h
  unfold wX7_playOut_49 at h
  refine gk_istore dX7_playOut_49 (Nat.le_of_ble_eq_true rfl) rfl rfl ?_
  refine gk_iconst (v := 0) dX7_playOut_51 rfl ?_
  refine gk_istore dX7_playOut_52 (Nat.le_of_ble_eq_true rfl) rfl rfl ?_
  refine gk_iconst (v := 0) dX7_playOut_54 rfl ?_
  refine gk_istore dX7_playOut_55 (Nat.le_of_ble_eq_true rfl) rfl rfl ?_
  refine gk_iconst (v := 0) dX7_playOut_57 rfl ?_
  refine gk_istore dX7_playOut_58 (Nat.le_of_ble_eq_true rfl) rfl rfl ?_
  obtain ⟨m60, h⟩ := h
  exact gk_less (gz_le_s rfl (gz_le_s rfl (gz_le_s rfl (gz_le_s rfl (gz_le_s rfl (gz_le_s rfl (gz_le_s rfl (gz_le_s rfl (gz_le_s rfl (gz_le_s rfl (gz_le_s rfl (gz_le_n (gz_le_n (gz_le_n gz_le_0)))))))))))))) (oX7_playOut_60 hd hrc m60 _ _ _ _ _ _ _ _ _ _ _ h)
set_option maxHeartbeats 4000000 in
set_option maxRecDepth 100000 in
theorem oX7_playOut_17 {E : gz_E} {rc : Int32 → Int32 → Int32 → Int32 → Int32 → gz_S → (Int32 → gz_S → Prop) → Prop} {d : Nat} (hd : 1 ≤ d) (hrc : ∀ (x1 : Int32) (x2 : Int32) (x3 : Int32) (x4 : Int32) (x5 : Int32) (S : gz_S) (Q : Int32 → gz_S → Prop), rc x1 x2 x3 x4 x5 S Q → gz_m E mX7_playOut d 0 0 [.ref 1, .int x1, .int x2, .int x3, .int x4, .int x5] gz_F S (gz_qi Q)) {Q : Int32 → gz_S → Prop} : ∀ (x1 : Int32) (x2 : Int32) (x3 : Int32) (x4 : Int32) (x5 : Int32) (t0 : Int32) (S : gz_S), wX7_playOut_17 rc Q x1 x2 x3 x4 x5 t0 S → gz_k E mX7_playOut ((d + 1), 0, 0, 73) 0 0 17 [some (.ref 1), some (.int x1), some (.int x2), some (.int x3), some (.int x4), some (.int x5), none, none, none, none, none, none, none, none] [.int t0] gz_F S (gz_qi Q) := by
  intro x1 x2 x3 x4 x5 t0 S h
  unfold wX7_playOut_17 at h
  refine gk_istore dX7_playOut_17 (Nat.le_of_ble_eq_true rfl) rfl rfl ?_
  refine gk_iload dX7_playOut_19 rfl ?_
  refine gk_if_ne (tgt := 40) dX7_playOut_21 (by decide) (fun c21 => ?_) (fun c21 => ?_)
  · replace h := h.1 c21
    refine gk_iload_n dX7_playOut_40 rfl ?_
    refine gk_if_ne (tgt := 48) dX7_playOut_41 (by decide) (fun c41 => ?_) (fun c41 => ?_)
    · replace h := h.1 c41
      refine gk_iconst (v := (-1)) dX7_playOut_48 rfl ?_
      exact gk_less (gz_le_s rfl (gz_le_s rfl (gz_le_s rfl (gz_le_s rfl (gz_le_s rfl (gz_le_s rfl (gz_le_s rfl (gz_le_n (gz_le_n (gz_le_n (gz_le_n (gz_le_n (gz_le_n (gz_le_n gz_le_0)))))))))))))) (oX7_playOut_49 hd hrc _ _ _ _ _ _ _ _ h)
    · replace h := h.2 c41
      refine gk_iconst (v := 1) dX7_playOut_44 rfl ?_
      refine gk_goto (tgt := 49) dX7_playOut_45 (by decide) ?_
      exact gk_less (gz_le_s rfl (gz_le_s rfl (gz_le_s rfl (gz_le_s rfl (gz_le_s rfl (gz_le_s rfl (gz_le_s rfl (gz_le_n (gz_le_n (gz_le_n (gz_le_n (gz_le_n (gz_le_n (gz_le_n gz_le_0)))))))))))))) (oX7_playOut_49 hd hrc _ _ _ _ _ _ _ _ h)
  · replace h := h.2 c21
    refine gk_aload_n dX7_playOut_24 rfl ?_
    refine gk_iload_n dX7_playOut_25 rfl ?_
    refine gk_iconst (v := 1) dX7_playOut_26 rfl ?_
    refine gk_isub dX7_playOut_27 ?_
    refine gk_iconst (v := 1) dX7_playOut_28 rfl ?_
    refine gk_iload_n dX7_playOut_29 rfl ?_
    refine gk_isub dX7_playOut_30 ?_
    refine gk_iload_n dX7_playOut_31 rfl ?_
    refine gk_iload dX7_playOut_32 rfl ?_
    refine gk_iload dX7_playOut_34 rfl ?_
    refine gk_callS (as := [_, _, _, _, _, _]) (rest := []) (hrc _ _ _ _ _ _ _ h) dX7_playOut_36 wvX7_195 wcX7_playOut rfl (by omega) ⟨Nat.le_refl _, Nat.le_refl _⟩ (fun h9 => absurd rfl h9) (Nat.le_of_ble_eq_true rfl) rfl (fun v G2 S36 hq => ?_)
    obtain ⟨rfl, r36, rfl, h⟩ := hq
    exact gk_iret dX7_playOut_39 rfl rfl rfl rfl ⟨rfl, _, rfl, h⟩
set_option maxHeartbeats 4000000 in
set_option maxRecDepth 100000 in
theorem ctX7_playOut_b {E : gz_E} {rc : Int32 → Int32 → Int32 → Int32 → Int32 → gz_S → (Int32 → gz_S → Prop) → Prop} {d : Nat} (hd : 1 ≤ d) (hrc : ∀ (x1 : Int32) (x2 : Int32) (x3 : Int32) (x4 : Int32) (x5 : Int32) (S : gz_S) (Q : Int32 → gz_S → Prop), rc x1 x2 x3 x4 x5 S Q → gz_m E mX7_playOut d 0 0 [.ref 1, .int x1, .int x2, .int x3, .int x4, .int x5] gz_F S (gz_qi Q)) {x1 : Int32} {x2 : Int32} {x3 : Int32} {x4 : Int32} {x5 : Int32} {S : gz_S} {Q : Int32 → gz_S → Prop} (h : wX7_playOut_b rc x1 x2 x3 x4 x5 S Q) : gz_m E mX7_playOut (d + 1) 0 0 [.ref 1, .int x1, .int x2, .int x3, .int x4, .int x5] gz_F S (gz_qi Q) := by
  refine gz_meet0 (L0 := [some (.ref 1), some (.int x1), some (.int x2), some (.int x3), some (.int x4), some (.int x5), none, none, none, none, none, none, none, none]) (by decide) rfl (Nat.le_of_ble_eq_true rfl) (by decide) ?_
  unfold wX7_playOut_b at h
  refine gk_iload_n dX7_playOut_0 rfl ?_
  refine gk_if_gt (tgt := 7) dX7_playOut_1 (by decide) (fun c1 => ?_) (fun c1 => ?_)
  · replace h := h.1 c1
    refine gk_iload_n dX7_playOut_7 rfl ?_
    refine gk_if_ne (tgt := 15) dX7_playOut_8 (by decide) (fun c8 => ?_) (fun c8 => ?_)
    · replace h := h.1 c8
      refine gk_iload dX7_playOut_15 rfl ?_
      exact gk_less (gz_le_s rfl (gz_le_s rfl (gz_le_s rfl (gz_le_s rfl (gz_le_s rfl (gz_le_s rfl (gz_le_n (gz_le_n (gz_le_n (gz_le_n (gz_le_n (gz_le_n (gz_le_n (gz_le_n gz_le_0)))))))))))))) (oX7_playOut_17 hd hrc _ _ _ _ _ _ _ h)
    · replace h := h.2 c8
      refine gk_iload_n dX7_playOut_11 rfl ?_
      refine gk_goto (tgt := 17) dX7_playOut_12 (by decide) ?_
      exact gk_less (gz_le_s rfl (gz_le_s rfl (gz_le_s rfl (gz_le_s rfl (gz_le_s rfl (gz_le_s rfl (gz_le_n (gz_le_n (gz_le_n (gz_le_n (gz_le_n (gz_le_n (gz_le_n (gz_le_n gz_le_0)))))))))))))) (oX7_playOut_17 hd hrc _ _ _ _ _ _ _ h)
  · replace h := h.2 c1
    refine gk_iload dX7_playOut_4 rfl ?_
    exact gk_iret dX7_playOut_6 rfl rfl rfl rfl ⟨rfl, _, rfl, h⟩
theorem ctX7_playOut {E : gz_E} : ∀ {n : Nat} {x1 : Int32} {x2 : Int32} {x3 : Int32} {x4 : Int32} {x5 : Int32} {S : gz_S} {Q : Int32 → gz_S → Prop}, wX7_playOut n x1 x2 x3 x4 x5 S Q → gz_m E mX7_playOut (n + 1) 0 0 [.ref 1, .int x1, .int x2, .int x3, .int x4, .int x5] gz_F S (gz_qi Q)
  | 0, _, _, _, _, _, _, _, h => h.elim
  | n + 1, _, _, _, _, _, _, _, h => ctX7_playOut_b (rc := wX7_playOut n) (d := n + 1) (Nat.succ_le_succ (Nat.zero_le n)) (fun _ _ _ _ _ _ _ h2 => ctX7_playOut h2) h
set_option maxHeartbeats 4000000 in
set_option maxRecDepth 100000 in
theorem oX7_firstStone_97 {E : gz_E} {k9 : Int32 → Int32 → Int32 → Int32 → Int32 → Int32 → Int32 → gz_S → Prop} {Q : Int32 → gz_S → Prop} (hk9 : ∀ (x1 : Int32) (x2 : Int32) (x3 : Int32) (x4 : Int32) (x5 : Int32) (x6 : Int32) (x7 : Int32) (S : gz_S), k9 x1 x2 x3 x4 x5 x6 x7 S → gz_k E mX7_firstStone (8, 0, 0, 73) 0 0 9 [some (.ref 0), some (.int x1), some (.int x2), some (.int x3), some (.int x4), some (.int x5), some (.int x6), some (.int x7), none, none] [] gz_F S (gz_qi Q)) : ∀ (x1 : Int32) (x2 : Int32) (x3 : Int32) (x4 : Int32) (x5 : Int32) (x6 : Int32) (x7 : Int32) (S : gz_S), wX7_firstStone_97 k9 Q x1 x2 x3 x4 x5 x6 x7 S → gz_k E mX7_firstStone (8, 0, 0, 73) 0 0 97 [some (.ref 0), some (.int x1), some (.int x2), some (.int x3), some (.int x4), some (.int x5), some (.int x6), some (.int x7), none, none] [] gz_F S (gz_qi Q) := by
  intro x1 x2 x3 x4 x5 x6 x7 S h
  unfold wX7_firstStone_97 at h
  refine gk_iinc dX7_firstStone_97 rfl (Nat.le_of_ble_eq_true rfl) rfl rfl rfl ?_
  refine gk_goto (tgt := 9) dX7_firstStone_100 (by decide) ?_
  exact gk_less (gz_le_s rfl (gz_le_s rfl (gz_le_s rfl (gz_le_s rfl (gz_le_s rfl (gz_le_s rfl (gz_le_s rfl (gz_le_s rfl (gz_le_n (gz_le_n gz_le_0)))))))))) (hk9 _ _ _ _ _ _ _ _ h)
set_option maxHeartbeats 4000000 in
set_option maxRecDepth 100000 in
theorem oX7_firstStone_89 {E : gz_E} {k9 : Int32 → Int32 → Int32 → Int32 → Int32 → Int32 → Int32 → gz_S → Prop} {Q : Int32 → gz_S → Prop} (hk9 : ∀ (x1 : Int32) (x2 : Int32) (x3 : Int32) (x4 : Int32) (x5 : Int32) (x6 : Int32) (x7 : Int32) (S : gz_S), k9 x1 x2 x3 x4 x5 x6 x7 S → gz_k E mX7_firstStone (8, 0, 0, 73) 0 0 9 [some (.ref 0), some (.int x1), some (.int x2), some (.int x3), some (.int x4), some (.int x5), some (.int x6), some (.int x7), none, none] [] gz_F S (gz_qi Q)) : ∀ (x1 : Int32) (x2 : Int32) (x3 : Int32) (x4 : Int32) (x7 : Int32) (x9 : Int32) (S : gz_S), wX7_firstStone_89 k9 Q x1 x2 x3 x4 x7 x9 S → gz_k E mX7_firstStone (8, 0, 0, 73) 0 0 89 [some (.ref 0), some (.int x1), some (.int x2), some (.int x3), some (.int x4), none, none, some (.int x7), none, some (.int x9)] [] gz_F S (gz_qi Q) := by
  intro x1 x2 x3 x4 x7 x9 S h
  unfold wX7_firstStone_89 at h
  refine gk_iload dX7_firstStone_89 rfl ?_
  refine gk_istore dX7_firstStone_91 (Nat.le_of_ble_eq_true rfl) rfl rfl ?_
  refine gk_iload dX7_firstStone_93 rfl ?_
  refine gk_istore dX7_firstStone_95 (Nat.le_of_ble_eq_true rfl) rfl rfl ?_
  exact gk_less (gz_le_s rfl (gz_le_s rfl (gz_le_s rfl (gz_le_s rfl (gz_le_s rfl (gz_le_s rfl (gz_le_s rfl (gz_le_s rfl (gz_le_n (gz_le_n gz_le_0)))))))))) (oX7_firstStone_97 hk9 _ _ _ _ _ _ _ _ h)
set_option maxHeartbeats 4000000 in
set_option maxRecDepth 100000 in
theorem oX7_firstStone_9 {E : gz_E} {Q : Int32 → gz_S → Prop} : ∀ (n : Nat) (x1 : Int32) (x2 : Int32) (x3 : Int32) (x4 : Int32) (x5 : Int32) (x6 : Int32) (x7 : Int32) (S : gz_S), wX7_firstStone_9 Q n x1 x2 x3 x4 x5 x6 x7 S → gz_k E mX7_firstStone (8, 0, 0, 73) 0 0 9 [some (.ref 0), some (.int x1), some (.int x2), some (.int x3), some (.int x4), some (.int x5), some (.int x6), some (.int x7), none, none] [] gz_F S (gz_qi Q) := by
  intro n
  induction n with
  | zero =>
    intro x1 x2 x3 x4 x5 x6 x7 S h
    exact h.elim
  | succ n ih =>
    intro x1 x2 x3 x4 x5 x6 x7 S h
    unfold wX7_firstStone_9 at h
    refine gk_iload dX7_firstStone_9 rfl ?_
    refine gk_aload_n dX7_firstStone_11 rfl ?_
    refine gk_getr dX7_firstStone_12 rfl rfl wfX7_10 ?_
    refine gk_getr dX7_firstStone_15 rfl rfl wfX7_110 ?_
    refine gk_geti dX7_firstStone_18 rfl rfl wfX7_96 ?_
    refine gk_icmp_ge (tgt := 103) dX7_firstStone_21 (by decide) (fun c21 => ?_) (fun c21 => ?_)
    · replace h := h.1 c21
      refine gk_iload dX7_firstStone_103 rfl ?_
      exact gk_iret dX7_firstStone_105 rfl rfl rfl rfl ⟨rfl, _, rfl, h⟩
    · replace h := h.2 c21
      refine gk_iconst (v := 1) dX7_firstStone_24 rfl ?_
      refine gk_iload dX7_firstStone_25 rfl ?_
      refine gk_ishl dX7_firstStone_27 ?_
      refine gk_nmi (fun v8_28 ev8_28 => ?_)
      replace h := h v8_28 ev8_28
      refine gk_istore dX7_firstStone_28 (Nat.le_of_ble_eq_true rfl) rfl rfl ?_
      refine gk_iload_n dX7_firstStone_30 rfl ?_
      refine gk_iload dX7_firstStone_31 rfl ?_
      refine gk_iand dX7_firstStone_33 ?_
      refine gk_if_eq (tgt := 97) dX7_firstStone_34 (by decide) (fun c34 => ?_) (fun c34 => ?_)
      · replace h := h.1 c34
        exact gk_less (gz_le_s rfl (gz_le_s rfl (gz_le_s rfl (gz_le_s rfl (gz_le_s rfl (gz_le_s rfl (gz_le_s rfl (gz_le_s rfl (gz_le_n (gz_le_n gz_le_0)))))))))) (oX7_firstStone_97 (fun y0 y1 y2 y3 y4 y5 y6 S h => ih y0 y1 y2 y3 y4 y5 y6 S h) _ _ _ _ _ _ _ _ h)
      · replace h := h.2 c34
        refine gk_aload_n dX7_firstStone_37 rfl ?_
        refine gk_getr dX7_firstStone_38 rfl rfl wfX7_10 ?_
        refine gk_iload_n dX7_firstStone_41 rfl ?_
        refine gk_iconst (v := 1) dX7_firstStone_42 rfl ?_
        refine gk_isub dX7_firstStone_43 ?_
        refine gk_iconst (v := 1) dX7_firstStone_44 rfl ?_
        refine gk_iload_n dX7_firstStone_45 rfl ?_
        refine gk_iload dX7_firstStone_46 rfl ?_
        refine gk_iconst (v := (-1)) dX7_firstStone_48 rfl ?_
        refine gk_ixor dX7_firstStone_49 ?_
        refine gk_iand dX7_firstStone_50 ?_
        refine gk_iload_n dX7_firstStone_51 rfl ?_
        refine gk_iload dX7_firstStone_52 rfl ?_
        refine gk_iconst (v := (-1)) dX7_firstStone_54 rfl ?_
        refine gk_ixor dX7_firstStone_55 ?_
        refine gk_iand dX7_firstStone_56 ?_
        refine gk_iload dX7_firstStone_57 rfl ?_
        refine gk_iconst (v := 5) dX7_firstStone_59 rfl ?_
        refine gk_aload_n dX7_firstStone_60 rfl ?_
        refine gk_getr dX7_firstStone_61 rfl rfl wfX7_10 ?_
        refine gk_iload dX7_firstStone_64 rfl ?_
        refine gk_callV (as := [_]) (rest := [_, _, _, _, _, _, _]) (ctX3_weight h) dX7_firstStone_66 rfl rfl wvX7_113 wcX3_weight rfl (Nat.le_of_ble_eq_true rfl) ⟨Nat.le_refl _, Nat.le_refl _⟩ (fun h9 => absurd rfl h9) (Nat.le_of_ble_eq_true rfl) rfl (fun v G2 S66 hq => ?_)
        obtain ⟨rfl, r66, rfl, h⟩ := hq
        refine gk_imul dX7_firstStone_69 ?_
        refine gk_iadd dX7_firstStone_70 ?_
        refine gk_callS (as := [_, _, _, _, _, _]) (rest := []) (ctX7_playOut h) dX7_firstStone_71 wvX7_195 wcX7_playOut rfl (Nat.le_of_ble_eq_true rfl) ⟨Nat.le_refl _, Nat.le_refl _⟩ (fun h9 => absurd rfl h9) (Nat.le_of_ble_eq_true rfl) rfl (fun v G2 S71 hq => ?_)
        obtain ⟨rfl, r71, rfl, h⟩ := hq
        refine gk_istore dX7_firstStone_74 (Nat.le_of_ble_eq_true rfl) rfl rfl ?_
        refine gk_iload dX7_firstStone_76 rfl ?_
        refine gk_iconst (v := (-1)) dX7_firstStone_78 rfl ?_
        refine gk_icmp_eq (tgt := 89) dX7_firstStone_79 (by decide) (fun c79 => ?_) (fun c79 => ?_)
        · replace h := h.1 c79
          exact gk_less (gz_le_s rfl (gz_le_s rfl (gz_le_s rfl (gz_le_s rfl (gz_le_s rfl (gz_le_n (gz_le_n (gz_le_s rfl (gz_le_n (gz_le_s rfl gz_le_0)))))))))) (oX7_firstStone_89 (fun y0 y1 y2 y3 y4 y5 y6 S h => ih y0 y1 y2 y3 y4 y5 y6 S h) _ _ _ _ _ _ _ h)
        · replace h := h.2 c79
          refine gk_iload dX7_firstStone_82 rfl ?_
          refine gk_iload dX7_firstStone_84 rfl ?_
          refine gk_icmp_le (tgt := 97) dX7_firstStone_86 (by decide) (fun c86 => ?_) (fun c86 => ?_)
          · replace h := h.1 c86
            exact gk_less (gz_le_s rfl (gz_le_s rfl (gz_le_s rfl (gz_le_s rfl (gz_le_s rfl (gz_le_s rfl (gz_le_s rfl (gz_le_s rfl (gz_le_n (gz_le_n gz_le_0)))))))))) (oX7_firstStone_97 (fun y0 y1 y2 y3 y4 y5 y6 S h => ih y0 y1 y2 y3 y4 y5 y6 S h) _ _ _ _ _ _ _ _ h)
          · replace h := h.2 c86
            exact gk_less (gz_le_s rfl (gz_le_s rfl (gz_le_s rfl (gz_le_s rfl (gz_le_s rfl (gz_le_n (gz_le_n (gz_le_s rfl (gz_le_n (gz_le_s rfl gz_le_0)))))))))) (oX7_firstStone_89 (fun y0 y1 y2 y3 y4 y5 y6 S h => ih y0 y1 y2 y3 y4 y5 y6 S h) _ _ _ _ _ _ _ h)
set_option maxHeartbeats 4000000 in
set_option maxRecDepth 100000 in
theorem ctX7_firstStone {E : gz_E} {x1 : Int32} {x2 : Int32} {x3 : Int32} {x4 : Int32} {S : gz_S} {Q : Int32 → gz_S → Prop} (h : wX7_firstStone x1 x2 x3 x4 S Q) : gz_m E mX7_firstStone 8 0 0 [.ref 0, .int x1, .int x2, .int x3, .int x4] gz_F S (gz_qi Q) := by
  refine gz_meet0 (L0 := [some (.ref 0), some (.int x1), some (.int x2), some (.int x3), some (.int x4), none, none, none, none, none]) (by decide) rfl (Nat.le_of_ble_eq_true rfl) (by decide) ?_
  unfold wX7_firstStone at h
  refine gk_iconst (v := (-1)) dX7_firstStone_0 rfl ?_
  refine gk_istore dX7_firstStone_1 (Nat.le_of_ble_eq_true rfl) rfl rfl ?_
  refine gk_iconst (v := 0) dX7_firstStone_3 rfl ?_
  refine gk_istore dX7_firstStone_4 (Nat.le_of_ble_eq_true rfl) rfl rfl ?_
  refine gk_iconst (v := 0) dX7_firstStone_6 rfl ?_
  refine gk_istore dX7_firstStone_7 (Nat.le_of_ble_eq_true rfl) rfl rfl ?_
  obtain ⟨m9, h⟩ := h
  exact gk_less (gz_le_s rfl (gz_le_s rfl (gz_le_s rfl (gz_le_s rfl (gz_le_s rfl (gz_le_s rfl (gz_le_s rfl (gz_le_s rfl (gz_le_n (gz_le_n gz_le_0)))))))))) (oX7_firstStone_9 m9 _ _ _ _ _ _ _ _ h)
set_option maxHeartbeats 4000000 in
set_option maxRecDepth 100000 in
theorem ctX7_game {E : gz_E} {x1 : Int32} {x2 : Int32} {S : gz_S} {Q : Int32 → gz_S → Prop} (h : wX7_game x1 x2 S Q) : gz_m E mX7_game 9 0 0 [.ref 0, .int x1, .int x2] gz_F S (gz_qi Q) := by
  refine gz_meet0 (L0 := [some (.ref 0), some (.int x1), some (.int x2), none, none, none]) (by decide) rfl (Nat.le_of_ble_eq_true rfl) (by decide) ?_
  unfold wX7_game at h
  refine gk_iload_n dX7_game_0 rfl ?_
  refine gk_iconst (v := 1) dX7_game_1 rfl ?_
  refine gk_iconst (v := 4) dX7_game_2 rfl ?_
  refine gk_callS (as := [_, _, _]) (rest := []) (ctX7_within h) dX7_game_3 wvX7_62 wcX7_within rfl (Nat.le_of_ble_eq_true rfl) ⟨Nat.le_refl _, Nat.le_refl _⟩ (fun h9 => absurd rfl h9) (Nat.le_of_ble_eq_true rfl) rfl (fun v G2 S3 hq => ?_)
  obtain ⟨rfl, r3, rfl, h⟩ := hq
  refine gk_if_eq (tgt := 18) dX7_game_6 (by decide) (fun c6 => ?_) (fun c6 => ?_)
  · replace h := h.1 c6
    refine gk_sipush (v := (-10002)) dX7_game_18 rfl ?_
    exact gk_iret dX7_game_21 rfl rfl rfl rfl ⟨rfl, _, rfl, h⟩
  · replace h := h.2 c6
    refine gk_iload_n dX7_game_9 rfl ?_
    refine gk_iconst (v := 0) dX7_game_10 rfl ?_
    refine gk_iconst (v := 1) dX7_game_11 rfl ?_
    refine gk_callS (as := [_, _, _]) (rest := []) (ctX7_within h) dX7_game_12 wvX7_62 wcX7_within rfl (Nat.le_of_ble_eq_true rfl) ⟨Nat.le_refl _, Nat.le_refl _⟩ (fun h9 => absurd rfl h9) (Nat.le_of_ble_eq_true rfl) rfl (fun v G2 S12 hq => ?_)
    obtain ⟨rfl, r12, rfl, h⟩ := hq
    refine gk_if_ne (tgt := 22) dX7_game_15 (by decide) (fun c15 => ?_) (fun c15 => ?_)
    · replace h := h.1 c15
      refine gk_aload_n dX7_game_22 rfl ?_
      refine gk_iconst (v := 0) dX7_game_23 rfl ?_
      refine gk_callV (as := [_]) (rest := []) (ctX7_layable h) dX7_game_24 rfl rfl wvX7_192 wcX7_layable rfl (Nat.le_of_ble_eq_true rfl) ⟨Nat.le_refl _, Nat.le_refl _⟩ (fun h9 => absurd rfl h9) (Nat.le_of_ble_eq_true rfl) rfl (fun v G2 S24 hq => ?_)
      obtain ⟨rfl, r24, rfl, h⟩ := hq
      refine gk_istore_n dX7_game_27 (Nat.le_of_ble_eq_true rfl) rfl rfl ?_
      refine gk_aload_n dX7_game_28 rfl ?_
      refine gk_iconst (v := 1) dX7_game_29 rfl ?_
      refine gk_callV (as := [_]) (rest := []) (ctX7_layable h) dX7_game_30 rfl rfl wvX7_192 wcX7_layable rfl (Nat.le_of_ble_eq_true rfl) ⟨Nat.le_refl _, Nat.le_refl _⟩ (fun h9 => absurd rfl h9) (Nat.le_of_ble_eq_true rfl) rfl (fun v G2 S30 hq => ?_)
      obtain ⟨rfl, r30, rfl, h⟩ := hq
      refine gk_istore dX7_game_33 (Nat.le_of_ble_eq_true rfl) rfl rfl ?_
      refine gk_aload_n dX7_game_35 rfl ?_
      refine gk_getr dX7_game_36 rfl rfl wfX7_28 ?_
      refine gk_aload_n dX7_game_39 rfl ?_
      refine gk_getr dX7_game_40 rfl rfl wfX7_10 ?_
      refine gk_geti dX7_game_43 rfl rfl wfX7_122 ?_
      refine gk_callV (as := [_]) (rest := []) (ctX2_tipAt_16 h) dX7_game_46 rfl rfl wvX7_149 wcX2_tipAt rfl (Nat.le_of_ble_eq_true rfl) ⟨Nat.le_refl _, Nat.le_refl _⟩ (fun h9 => absurd rfl h9) (Nat.le_of_ble_eq_true rfl) rfl (fun v G2 S46 hq => ?_)
      obtain ⟨rfl, r46, rfl, h⟩ := hq
      refine gk_istore dX7_game_49 (Nat.le_of_ble_eq_true rfl) rfl rfl ?_
      refine gk_iload_n dX7_game_51 rfl ?_
      refine gk_if_ne (tgt := 72) dX7_game_52 (by decide) (fun c52 => ?_) (fun c52 => ?_)
      · replace h := h.1 c52
        refine gk_aload_n dX7_game_72 rfl ?_
        refine gk_iload_n dX7_game_73 rfl ?_
        refine gk_iload_n dX7_game_74 rfl ?_
        refine gk_iload dX7_game_75 rfl ?_
        refine gk_iload dX7_game_77 rfl ?_
        refine gk_callV (as := [_, _, _, _]) (rest := []) (ctX7_firstStone h) dX7_game_79 rfl rfl wvX7_199 wcX7_firstStone rfl (Nat.le_of_ble_eq_true rfl) ⟨Nat.le_refl _, Nat.le_refl _⟩ (fun h9 => absurd rfl h9) (Nat.le_of_ble_eq_true rfl) rfl (fun v G2 S79 hq => ?_)
        obtain ⟨rfl, r79, rfl, h⟩ := hq
        exact gk_iret dX7_game_82 rfl rfl rfl rfl ⟨rfl, _, rfl, h⟩
      · replace h := h.2 c52
        refine gk_aload_n dX7_game_55 rfl ?_
        refine gk_getr dX7_game_56 rfl rfl wfX7_10 ?_
        refine gk_iload_n dX7_game_59 rfl ?_
        refine gk_iconst (v := 0) dX7_game_60 rfl ?_
        refine gk_iload_n dX7_game_61 rfl ?_
        refine gk_iload dX7_game_62 rfl ?_
        refine gk_iload dX7_game_64 rfl ?_
        refine gk_callS (as := [_, _, _, _, _, _]) (rest := []) (ctX7_playOut h) dX7_game_66 wvX7_195 wcX7_playOut rfl (Nat.le_of_ble_eq_true rfl) ⟨Nat.le_refl _, Nat.le_refl _⟩ (fun h9 => absurd rfl h9) (Nat.le_of_ble_eq_true rfl) rfl (fun v G2 S66 hq => ?_)
        obtain ⟨rfl, r66, rfl, h⟩ := hq
        refine gk_goto (tgt := 82) dX7_game_69 (by decide) ?_
        exact gk_iret dX7_game_82 rfl rfl rfl rfl ⟨rfl, _, rfl, h⟩
    · replace h := h.2 c15
      refine gk_sipush (v := (-10002)) dX7_game_18 rfl ?_
      exact gk_iret dX7_game_21 rfl rfl rfl rfl ⟨rfl, _, rfl, h⟩
set_option maxHeartbeats 4000000 in
set_option maxRecDepth 100000 in
theorem ctX8_enters {E : gz_E} {x1 : Int32} {x2 : Int32} {x3 : Int32} {S : gz_S} {Q : gz_S → Prop} (h : wX8_enters x1 x2 x3 S Q) : gz_m E mX8_enters 1 0 0 [.ref 45, .int x1, .int x2, .int x3] gz_F S (gz_qv Q) := by
  refine gz_meet0 (L0 := [some (.ref 45), some (.int x1), some (.int x2), some (.int x3)]) (by decide) rfl (Nat.le_of_ble_eq_true rfl) (by decide) ?_
  unfold wX8_enters at h
  refine gk_aload_n dX8_enters_0 rfl ?_
  refine gk_getr dX8_enters_1 rfl rfl wfX8_74 ?_
  refine gk_iload_n dX8_enters_4 rfl ?_
  refine gk_iload_n dX8_enters_5 rfl ?_
  refine gk_iastore dX8_enters_6 rfl h.1 ?_
  replace h := h.2
  refine gk_nmS (fun S6 eS6 => ?_)
  replace h := h S6 eS6
  refine gk_aload_n dX8_enters_7 rfl ?_
  refine gk_getr dX8_enters_8 rfl rfl wfX8_77 ?_
  refine gk_iload_n dX8_enters_11 rfl ?_
  refine gk_iload_n dX8_enters_12 rfl ?_
  refine gk_iastore dX8_enters_13 rfl h.1 ?_
  replace h := h.2
  refine gk_nmS (fun S13 eS13 => ?_)
  replace h := h S13 eS13
  refine gk_aload_n dX8_enters_14 rfl ?_
  refine gk_getr dX8_enters_15 rfl rfl wfX8_80 ?_
  refine gk_iload_n dX8_enters_18 rfl ?_
  refine gk_bipush (v := (-2)) dX8_enters_19 rfl ?_
  refine gk_iastore dX8_enters_21 rfl h.1 ?_
  replace h := h.2
  refine gk_nmS (fun S21 eS21 => ?_)
  replace h := h S21 eS21
  refine gk_aload_n dX8_enters_22 rfl ?_
  refine gk_getr dX8_enters_23 rfl rfl wfX8_86 ?_
  refine gk_iload_n dX8_enters_26 rfl ?_
  refine gk_iconst (v := 0) dX8_enters_27 rfl ?_
  refine gk_bastore dX8_enters_28 rfl h.1 rfl ?_
  replace h := h.2
  refine gk_nmS (fun S28 eS28 => ?_)
  replace h := h S28 eS28
  exact gk_vret dX8_enters_29 rfl rfl rfl ⟨rfl, rfl, h⟩
set_option maxHeartbeats 4000000 in
set_option maxRecDepth 100000 in
theorem oX8_gameOf_299 {E : gz_E} {k44 : Int32 → Int32 → Int32 → Int32 → Int32 → gz_S → Prop} {Q : Int32 → gz_S → Prop} (hk44 : ∀ (x1 : Int32) (x2 : Int32) (x3 : Int32) (x4 : Int32) (x5 : Int32) (S : gz_S), k44 x1 x2 x3 x4 x5 S → gz_k E mX8_gameOf (5, 0, 0, 73) 0 0 44 [some (.ref 45), some (.int x1), some (.int x2), some (.int x3), some (.int x4), some (.int x5), none, none, none, none] [] gz_F S (gz_qi Q)) : ∀ (x1 : Int32) (x2 : Int32) (x3 : Int32) (x4 : Int32) (x5 : Int32) (t1 : Int32) (t2 : Int32) (S : gz_S), wX8_gameOf_299 k44 Q x1 x2 x3 x4 x5 t1 t2 S → gz_k E mX8_gameOf (5, 0, 0, 73) 0 0 299 [some (.ref 45), some (.int x1), some (.int x2), some (.int x3), some (.int x4), some (.int x5), none, none, none, none] [.int t2, .int t1, .ref 70] gz_F S (gz_qi Q) := by
  intro x1 x2 x3 x4 x5 t1 t2 S h
  unfold wX8_gameOf_299 at h
  refine gk_iastore dX8_gameOf_299 rfl h.1 ?_
  replace h := h.2
  refine gk_nmS (fun S299 eS299 => ?_)
  replace h := h S299 eS299
  refine gk_goto (tgt := 395) dX8_gameOf_300 (by decide) ?_
  refine gk_goto (tgt := 44) dX8_gameOf_395 (by decide) ?_
  exact gk_less (gz_le_s rfl (gz_le_s rfl (gz_le_s rfl (gz_le_s rfl (gz_le_s rfl (gz_le_s rfl (gz_le_n (gz_le_n (gz_le_n (gz_le_n gz_le_0)))))))))) (hk44 _ _ _ _ _ _ h)
set_option maxHeartbeats 4000000 in
set_option maxRecDepth 100000 in
theorem oX8_gameOf_276 {E : gz_E} {k44 : Int32 → Int32 → Int32 → Int32 → Int32 → gz_S → Prop} {Q : Int32 → gz_S → Prop} (hk44 : ∀ (x1 : Int32) (x2 : Int32) (x3 : Int32) (x4 : Int32) (x5 : Int32) (S : gz_S), k44 x1 x2 x3 x4 x5 S → gz_k E mX8_gameOf (5, 0, 0, 73) 0 0 44 [some (.ref 45), some (.int x1), some (.int x2), some (.int x3), some (.int x4), some (.int x5), none, none, none, none] [] gz_F S (gz_qi Q)) : ∀ (x1 : Int32) (x2 : Int32) (x3 : Int32) (x5 : Int32) (x8 : Int32) (t0 : Int32) (S : gz_S), wX8_gameOf_276 k44 Q x1 x2 x3 x5 x8 t0 S → gz_k E mX8_gameOf (5, 0, 0, 73) 0 0 276 [some (.ref 45), some (.int x1), some (.int x2), some (.int x3), none, some (.int x5), none, none, some (.int x8), none] [.int t0] gz_F S (gz_qi Q) := by
  intro x1 x2 x3 x5 x8 t0 S h
  unfold wX8_gameOf_276 at h
  refine gk_istore dX8_gameOf_276 (Nat.le_of_ble_eq_true rfl) rfl rfl ?_
  refine gk_aload_n dX8_gameOf_278 rfl ?_
  refine gk_getr dX8_gameOf_279 rfl rfl wfX8_83 ?_
  refine gk_iload_n dX8_gameOf_282 rfl ?_
  refine gk_iload dX8_gameOf_283 rfl ?_
  refine gk_if_eq (tgt := 293) dX8_gameOf_285 (by decide) (fun c285 => ?_) (fun c285 => ?_)
  · replace h := h.1 c285
    refine gk_aload_n dX8_gameOf_293 rfl ?_
    refine gk_getr dX8_gameOf_294 rfl rfl wfX8_83 ?_
    refine gk_iload_n dX8_gameOf_297 rfl ?_
    refine gk_iaload dX8_gameOf_298 rfl h.1 ?_
    replace h := h.2
    exact gk_less (gz_le_s rfl (gz_le_s rfl (gz_le_s rfl (gz_le_s rfl (gz_le_s rfl (gz_le_s rfl (gz_le_n (gz_le_n (gz_le_n (gz_le_n gz_le_0)))))))))) (oX8_gameOf_299 hk44 _ _ _ _ _ _ _ _ h)
  · replace h := h.2 c285
    refine gk_iload dX8_gameOf_288 rfl ?_
    refine gk_goto (tgt := 299) dX8_gameOf_290 (by decide) ?_
    exact gk_less (gz_le_s rfl (gz_le_s rfl (gz_le_s rfl (gz_le_s rfl (gz_le_s rfl (gz_le_s rfl (gz_le_n (gz_le_n (gz_le_n (gz_le_n gz_le_0)))))))))) (oX8_gameOf_299 hk44 _ _ _ _ _ _ _ _ h)
set_option maxHeartbeats 4000000 in
set_option maxRecDepth 100000 in
theorem oX8_gameOf_274 {E : gz_E} {k44 : Int32 → Int32 → Int32 → Int32 → Int32 → gz_S → Prop} {Q : Int32 → gz_S → Prop} (hk44 : ∀ (x1 : Int32) (x2 : Int32) (x3 : Int32) (x4 : Int32) (x5 : Int32) (S : gz_S), k44 x1 x2 x3 x4 x5 S → gz_k E mX8_gameOf (5, 0, 0, 73) 0 0 44 [some (.ref 45), some (.int x1), some (.int x2), some (.int x3), some (.int x4), some (.int x5), none, none, none, none] [] gz_F S (gz_qi Q)) : ∀ (x1 : Int32) (x2 : Int32) (x3 : Int32) (x4 : Int32) (x5 : Int32) (x8 : Int32) (S : gz_S), wX8_gameOf_274 k44 Q x1 x2 x3 x4 x5 x8 S → gz_k E mX8_gameOf (5, 0, 0, 73) 0 0 274 [some (.ref 45), some (.int x1), some (.int x2), some (.int x3), some (.int x4), some (.int x5), none, none, some (.int x8), none] [] gz_F S (gz_qi Q) := by
  intro x1 x2 x3 x4 x5 x8 S h
  unfold wX8_gameOf_274 at h
  refine gk_iload dX8_gameOf_274 rfl ?_
  exact gk_less (gz_le_s rfl (gz_le_s rfl (gz_le_s rfl (gz_le_s rfl (gz_le_n (gz_le_s rfl (gz_le_n (gz_le_n (gz_le_s rfl (gz_le_n gz_le_0)))))))))) (oX8_gameOf_276 hk44 _ _ _ _ _ _ _ h)
set_option maxHeartbeats 4000000 in
set_option maxRecDepth 100000 in
theorem oX8_gameOf_247 {E : gz_E} {k44 : Int32 → Int32 → Int32 → Int32 → Int32 → gz_S → Prop} {Q : Int32 → gz_S → Prop} (hk44 : ∀ (x1 : Int32) (x2 : Int32) (x3 : Int32) (x4 : Int32) (x5 : Int32) (S : gz_S), k44 x1 x2 x3 x4 x5 S → gz_k E mX8_gameOf (5, 0, 0, 73) 0 0 44 [some (.ref 45), some (.int x1), some (.int x2), some (.int x3), some (.int x4), some (.int x5), none, none, none, none] [] gz_F S (gz_qi Q)) : ∀ (x1 : Int32) (x2 : Int32) (x3 : Int32) (x4 : Int32) (x5 : Int32) (t0 : Int32) (S : gz_S), wX8_gameOf_247 k44 Q x1 x2 x3 x4 x5 t0 S → gz_k E mX8_gameOf (5, 0, 0, 73) 0 0 247 [some (.ref 45), some (.int x1), some (.int x2), some (.int x3), some (.int x4), some (.int x5), none, none, none, none] [.int t0] gz_F S (gz_qi Q) := by
  intro x1 x2 x3 x4 x5 t0 S h
  unfold wX8_gameOf_247 at h
  refine gk_istore dX8_gameOf_247 (Nat.le_of_ble_eq_true rfl) rfl rfl ?_
  refine gk_aload_n dX8_gameOf_249 rfl ?_
  refine gk_getr dX8_gameOf_250 rfl rfl wfX8_86 ?_
  refine gk_iload_n dX8_gameOf_253 rfl ?_
  refine gk_iconst (v := 1) dX8_gameOf_254 rfl ?_
  refine gk_bastore dX8_gameOf_255 rfl h.1 rfl ?_
  replace h := h.2
  refine gk_nmS (fun S255 eS255 => ?_)
  replace h := h S255 eS255
  refine gk_iload dX8_gameOf_256 rfl ?_
  refine gk_if_eq (tgt := 274) dX8_gameOf_258 (by decide) (fun c258 => ?_) (fun c258 => ?_)
  · replace h := h.1 c258
    exact gk_less (gz_le_s rfl (gz_le_s rfl (gz_le_s rfl (gz_le_s rfl (gz_le_s rfl (gz_le_s rfl (gz_le_n (gz_le_n (gz_le_s rfl (gz_le_n gz_le_0)))))))))) (oX8_gameOf_274 hk44 _ _ _ _ _ _ _ h)
  · replace h := h.2 c258
    refine gk_iload_n dX8_gameOf_261 rfl ?_
    refine gk_if_ne (tgt := 274) dX8_gameOf_262 (by decide) (fun c262 => ?_) (fun c262 => ?_)
    · replace h := h.1 c262
      exact gk_less (gz_le_s rfl (gz_le_s rfl (gz_le_s rfl (gz_le_s rfl (gz_le_s rfl (gz_le_s rfl (gz_le_n (gz_le_n (gz_le_s rfl (gz_le_n gz_le_0)))))))))) (oX8_gameOf_274 hk44 _ _ _ _ _ _ _ h)
    · replace h := h.2 c262
      refine gk_aload_n dX8_gameOf_265 rfl ?_
      refine gk_getr dX8_gameOf_266 rfl rfl wfX8_80 ?_
      refine gk_iconst (v := 0) dX8_gameOf_269 rfl ?_
      refine gk_iaload dX8_gameOf_270 rfl h.1 ?_
      replace h := h.2
      refine gk_goto (tgt := 276) dX8_gameOf_271 (by decide) ?_
      exact gk_less (gz_le_s rfl (gz_le_s rfl (gz_le_s rfl (gz_le_s rfl (gz_le_n (gz_le_s rfl (gz_le_n (gz_le_n (gz_le_s rfl (gz_le_n gz_le_0)))))))))) (oX8_gameOf_276 hk44 _ _ _ _ _ _ _ h)
set_option maxHeartbeats 4000000 in
set_option maxRecDepth 100000 in
theorem oX8_gameOf_242 {E : gz_E} {k44 : Int32 → Int32 → Int32 → Int32 → Int32 → gz_S → Prop} {Q : Int32 → gz_S → Prop} (hk44 : ∀ (x1 : Int32) (x2 : Int32) (x3 : Int32) (x4 : Int32) (x5 : Int32) (S : gz_S), k44 x1 x2 x3 x4 x5 S → gz_k E mX8_gameOf (5, 0, 0, 73) 0 0 44 [some (.ref 45), some (.int x1), some (.int x2), some (.int x3), some (.int x4), some (.int x5), none, none, none, none] [] gz_F S (gz_qi Q)) : ∀ (x1 : Int32) (x2 : Int32) (x3 : Int32) (x4 : Int32) (x5 : Int32) (S : gz_S), wX8_gameOf_242 k44 Q x1 x2 x3 x4 x5 S → gz_k E mX8_gameOf (5, 0, 0, 73) 0 0 242 [some (.ref 45), some (.int x1), some (.int x2), some (.int x3), some (.int x4), some (.int x5), none, none, none, none] [] gz_F S (gz_qi Q) := by
  intro x1 x2 x3 x4 x5 S h
  unfold wX8_gameOf_242 at h
  refine gk_iconst (v := 1) dX8_gameOf_242 rfl ?_
  refine gk_goto (tgt := 247) dX8_gameOf_243 (by decide) ?_
  exact gk_less (gz_le_s rfl (gz_le_s rfl (gz_le_s rfl (gz_le_s rfl (gz_le_s rfl (gz_le_s rfl (gz_le_n (gz_le_n (gz_le_n (gz_le_n gz_le_0)))))))))) (oX8_gameOf_247 hk44 _ _ _ _ _ _ _ h)
set_option maxHeartbeats 4000000 in
set_option maxRecDepth 100000 in
theorem oX8_gameOf_246 {E : gz_E} {k44 : Int32 → Int32 → Int32 → Int32 → Int32 → gz_S → Prop} {Q : Int32 → gz_S → Prop} (hk44 : ∀ (x1 : Int32) (x2 : Int32) (x3 : Int32) (x4 : Int32) (x5 : Int32) (S : gz_S), k44 x1 x2 x3 x4 x5 S → gz_k E mX8_gameOf (5, 0, 0, 73) 0 0 44 [some (.ref 45), some (.int x1), some (.int x2), some (.int x3), some (.int x4), some (.int x5), none, none, none, none] [] gz_F S (gz_qi Q)) : ∀ (x1 : Int32) (x2 : Int32) (x3 : Int32) (x4 : Int32) (x5 : Int32) (S : gz_S), wX8_gameOf_246 k44 Q x1 x2 x3 x4 x5 S → gz_k E mX8_gameOf (5, 0, 0, 73) 0 0 246 [some (.ref 45), some (.int x1), some (.int x2), some (.int x3), some (.int x4), some (.int x5), none, none, none, none] [] gz_F S (gz_qi Q) := by
  intro x1 x2 x3 x4 x5 S h
  unfold wX8_gameOf_246 at h
  refine gk_iconst (v := 0) dX8_gameOf_246 rfl ?_
  exact gk_less (gz_le_s rfl (gz_le_s rfl (gz_le_s rfl (gz_le_s rfl (gz_le_s rfl (gz_le_s rfl (gz_le_n (gz_le_n (gz_le_n (gz_le_n gz_le_0)))))))))) (oX8_gameOf_247 hk44 _ _ _ _ _ _ _ h)
set_option maxHeartbeats 4000000 in
set_option maxRecDepth 100000 in
theorem oX8_gameOf_193 {E : gz_E} {k44 : Int32 → Int32 → Int32 → Int32 → Int32 → gz_S → Prop} {Q : Int32 → gz_S → Prop} (hk44 : ∀ (x1 : Int32) (x2 : Int32) (x3 : Int32) (x4 : Int32) (x5 : Int32) (S : gz_S), k44 x1 x2 x3 x4 x5 S → gz_k E mX8_gameOf (5, 0, 0, 73) 0 0 44 [some (.ref 45), some (.int x1), some (.int x2), some (.int x3), some (.int x4), some (.int x5), none, none, none, none] [] gz_F S (gz_qi Q)) : ∀ (x1 : Int32) (x2 : Int32) (x3 : Int32) (x4 : Int32) (t0 : Int32) (S : gz_S), wX8_gameOf_193 k44 Q x1 x2 x3 x4 t0 S → gz_k E mX8_gameOf (5, 0, 0, 73) 0 0 193 [some (.ref 45), some (.int x1), some (.int x2), some (.int x3), some (.int x4), none, none, none, none, none] [.int t0] gz_F S (gz_qi Q) := by
  intro x1 x2 x3 x4 t0 S h
  unfold wX8_gameOf_193 at h
  refine gk_istore dX8_gameOf_193 (Nat.le_of_ble_eq_true rfl) rfl rfl ?_
  refine gk_iinc dX8_gameOf_195 rfl (Nat.le_of_ble_eq_true rfl) rfl rfl rfl ?_
  refine gk_iload_n dX8_gameOf_198 rfl ?_
  refine gk_if_lt (tgt := 395) dX8_gameOf_199 (by decide) (fun c199 => ?_) (fun c199 => ?_)
  · replace h := h.1 c199
    refine gk_goto (tgt := 44) dX8_gameOf_395 (by decide) ?_
    exact gk_less (gz_le_s rfl (gz_le_s rfl (gz_le_s rfl (gz_le_s rfl (gz_le_s rfl (gz_le_s rfl (gz_le_n (gz_le_n (gz_le_n (gz_le_n gz_le_0)))))))))) (hk44 _ _ _ _ _ _ h)
  · replace h := h.2 c199
    refine gk_aload_n dX8_gameOf_202 rfl ?_
    refine gk_getr dX8_gameOf_203 rfl rfl wfX8_86 ?_
    refine gk_iload_n dX8_gameOf_206 rfl ?_
    refine gk_baload dX8_gameOf_207 rfl h.1 ?_
    replace h := h.2
    refine gk_if_eq (tgt := 242) dX8_gameOf_208 (by decide) (fun c208 => ?_) (fun c208 => ?_)
    · replace h := h.1 c208
      exact gk_less (gz_le_s rfl (gz_le_s rfl (gz_le_s rfl (gz_le_s rfl (gz_le_s rfl (gz_le_s rfl (gz_le_n (gz_le_n (gz_le_n (gz_le_n gz_le_0)))))))))) (oX8_gameOf_242 hk44 _ _ _ _ _ _ h)
    · replace h := h.2 c208
      refine gk_iload_n dX8_gameOf_211 rfl ?_
      refine gk_iconst (v := 2) dX8_gameOf_212 rfl ?_
      refine gk_irem dX8_gameOf_213 (by decide) ?_
      refine gk_if_ne (tgt := 231) dX8_gameOf_214 (by decide) (fun c214 => ?_) (fun c214 => ?_)
      · replace h := h.1 c214
        refine gk_iload dX8_gameOf_231 rfl ?_
        refine gk_aload_n dX8_gameOf_233 rfl ?_
        refine gk_getr dX8_gameOf_234 rfl rfl wfX8_83 ?_
        refine gk_iload_n dX8_gameOf_237 rfl ?_
        refine gk_iaload dX8_gameOf_238 rfl h.1 ?_
        replace h := h.2
        refine gk_icmp_ge (tgt := 246) dX8_gameOf_239 (by decide) (fun c239 => ?_) (fun c239 => ?_)
        · replace h := h.1 c239
          exact gk_less (gz_le_s rfl (gz_le_s rfl (gz_le_s rfl (gz_le_s rfl (gz_le_s rfl (gz_le_s rfl (gz_le_n (gz_le_n (gz_le_n (gz_le_n gz_le_0)))))))))) (oX8_gameOf_246 hk44 _ _ _ _ _ _ h)
        · replace h := h.2 c239
          exact gk_less (gz_le_s rfl (gz_le_s rfl (gz_le_s rfl (gz_le_s rfl (gz_le_s rfl (gz_le_s rfl (gz_le_n (gz_le_n (gz_le_n (gz_le_n gz_le_0)))))))))) (oX8_gameOf_242 hk44 _ _ _ _ _ _ h)
      · replace h := h.2 c214
        refine gk_iload dX8_gameOf_217 rfl ?_
        refine gk_aload_n dX8_gameOf_219 rfl ?_
        refine gk_getr dX8_gameOf_220 rfl rfl wfX8_83 ?_
        refine gk_iload_n dX8_gameOf_223 rfl ?_
        refine gk_iaload dX8_gameOf_224 rfl h.1 ?_
        replace h := h.2
        refine gk_icmp_le (tgt := 246) dX8_gameOf_225 (by decide) (fun c225 => ?_) (fun c225 => ?_)
        · replace h := h.1 c225
          exact gk_less (gz_le_s rfl (gz_le_s rfl (gz_le_s rfl (gz_le_s rfl (gz_le_s rfl (gz_le_s rfl (gz_le_n (gz_le_n (gz_le_n (gz_le_n gz_le_0)))))))))) (oX8_gameOf_246 hk44 _ _ _ _ _ _ h)
        · replace h := h.2 c225
          refine gk_goto (tgt := 242) dX8_gameOf_228 (by decide) ?_
          exact gk_less (gz_le_s rfl (gz_le_s rfl (gz_le_s rfl (gz_le_s rfl (gz_le_s rfl (gz_le_s rfl (gz_le_n (gz_le_n (gz_le_n (gz_le_n gz_le_0)))))))))) (oX8_gameOf_242 hk44 _ _ _ _ _ _ h)
set_option maxHeartbeats 4000000 in
set_option maxRecDepth 100000 in
theorem oX8_gameOf_173 {E : gz_E} {k44 : Int32 → Int32 → Int32 → Int32 → Int32 → gz_S → Prop} {Q : Int32 → gz_S → Prop} (hk44 : ∀ (x1 : Int32) (x2 : Int32) (x3 : Int32) (x4 : Int32) (x5 : Int32) (S : gz_S), k44 x1 x2 x3 x4 x5 S → gz_k E mX8_gameOf (5, 0, 0, 73) 0 0 44 [some (.ref 45), some (.int x1), some (.int x2), some (.int x3), some (.int x4), some (.int x5), none, none, none, none] [] gz_F S (gz_qi Q)) : ∀ (x1 : Int32) (x2 : Int32) (x3 : Int32) (x4 : Int32) (S : gz_S), wX8_gameOf_173 k44 Q x1 x2 x3 x4 S → gz_k E mX8_gameOf (5, 0, 0, 73) 0 0 173 [some (.ref 45), some (.int x1), some (.int x2), some (.int x3), some (.int x4), none, none, none, none, none] [] gz_F S (gz_qi Q) := by
  intro x1 x2 x3 x4 S h
  unfold wX8_gameOf_173 at h
  refine gk_iload_n dX8_gameOf_173 rfl ?_
  refine gk_iload_n dX8_gameOf_174 rfl ?_
  refine gk_icmp_ne (tgt := 187) dX8_gameOf_175 (by decide) (fun c175 => ?_) (fun c175 => ?_)
  · replace h := h.1 c175
    refine gk_aload_n dX8_gameOf_187 rfl ?_
    refine gk_getr dX8_gameOf_188 rfl rfl wfX8_83 ?_
    refine gk_iload_n dX8_gameOf_191 rfl ?_
    refine gk_iaload dX8_gameOf_192 rfl h.1 ?_
    replace h := h.2
    exact gk_less (gz_le_s rfl (gz_le_s rfl (gz_le_s rfl (gz_le_s rfl (gz_le_s rfl (gz_le_n (gz_le_n (gz_le_n (gz_le_n (gz_le_n gz_le_0)))))))))) (oX8_gameOf_193 hk44 _ _ _ _ _ _ h)
  · replace h := h.2 c175
    refine gk_aload_n dX8_gameOf_178 rfl ?_
    refine gk_getr dX8_gameOf_179 rfl rfl wfX8_77 ?_
    refine gk_iload_n dX8_gameOf_182 rfl ?_
    refine gk_iaload dX8_gameOf_183 rfl h.1 ?_
    replace h := h.2
    refine gk_goto (tgt := 193) dX8_gameOf_184 (by decide) ?_
    exact gk_less (gz_le_s rfl (gz_le_s rfl (gz_le_s rfl (gz_le_s rfl (gz_le_s rfl (gz_le_n (gz_le_n (gz_le_n (gz_le_n (gz_le_n gz_le_0)))))))))) (oX8_gameOf_193 hk44 _ _ _ _ _ _ h)
set_option maxHeartbeats 4000000 in
set_option maxRecDepth 100000 in
theorem oX8_gameOf_380 {E : gz_E} {k44 : Int32 → Int32 → Int32 → Int32 → Int32 → gz_S → Prop} {Q : Int32 → gz_S → Prop} (hk44 : ∀ (x1 : Int32) (x2 : Int32) (x3 : Int32) (x4 : Int32) (x5 : Int32) (S : gz_S), k44 x1 x2 x3 x4 x5 S → gz_k E mX8_gameOf (5, 0, 0, 73) 0 0 44 [some (.ref 45), some (.int x1), some (.int x2), some (.int x3), some (.int x4), some (.int x5), none, none, none, none] [] gz_F S (gz_qi Q)) : ∀ (x1 : Int32) (x2 : Int32) (x3 : Int32) (x4 : Int32) (x5 : Int32) (x9 : Int32) (t1 : Int32) (t2 : Int32) (S : gz_S), wX8_gameOf_380 k44 Q x1 x2 x3 x4 x5 x9 t1 t2 S → gz_k E mX8_gameOf (5, 0, 0, 73) 0 0 380 [some (.ref 45), some (.int x1), some (.int x2), some (.int x3), some (.int x4), some (.int x5), none, none, none, some (.int x9)] [.int t2, .int t1, .ref 45] gz_F S (gz_qi Q) := by
  intro x1 x2 x3 x4 x5 x9 t1 t2 S h
  unfold wX8_gameOf_380 at h
  refine gk_aload_n dX8_gameOf_380 rfl ?_
  refine gk_getr dX8_gameOf_381 rfl rfl wfX8_77 ?_
  refine gk_iload_n dX8_gameOf_384 rfl ?_
  refine gk_iaload dX8_gameOf_385 rfl h.1 ?_
  replace h := h.2
  refine gk_iload dX8_gameOf_386 rfl ?_
  refine gk_iadd dX8_gameOf_388 ?_
  refine gk_callV (as := [_, _, _]) (rest := []) (ctX8_enters h) dX8_gameOf_389 rfl rfl wvX8_265 wcX8_enters rfl (Nat.le_of_ble_eq_true rfl) ⟨Nat.le_refl _, Nat.le_refl _⟩ (fun h9 => absurd rfl h9) (Nat.le_of_ble_eq_true rfl) rfl (fun v G2 S389 hq => ?_)
  obtain ⟨rfl, rfl, h⟩ := hq
  refine gk_iinc dX8_gameOf_392 rfl (Nat.le_of_ble_eq_true rfl) rfl rfl rfl ?_
  refine gk_goto (tgt := 44) dX8_gameOf_395 (by decide) ?_
  exact gk_less (gz_le_s rfl (gz_le_s rfl (gz_le_s rfl (gz_le_s rfl (gz_le_s rfl (gz_le_s rfl (gz_le_n (gz_le_n (gz_le_n (gz_le_n gz_le_0)))))))))) (hk44 _ _ _ _ _ _ h)
set_option maxHeartbeats 4000000 in
set_option maxRecDepth 100000 in
theorem oX8_gameOf_348 {E : gz_E} {k44 : Int32 → Int32 → Int32 → Int32 → Int32 → gz_S → Prop} {Q : Int32 → gz_S → Prop} (hk44 : ∀ (x1 : Int32) (x2 : Int32) (x3 : Int32) (x4 : Int32) (x5 : Int32) (S : gz_S), k44 x1 x2 x3 x4 x5 S → gz_k E mX8_gameOf (5, 0, 0, 73) 0 0 44 [some (.ref 45), some (.int x1), some (.int x2), some (.int x3), some (.int x4), some (.int x5), none, none, none, none] [] gz_F S (gz_qi Q)) : ∀ (x1 : Int32) (x2 : Int32) (x3 : Int32) (x4 : Int32) (x5 : Int32) (x8 : Int32) (t0 : Int32) (S : gz_S), wX8_gameOf_348 k44 Q x1 x2 x3 x4 x5 x8 t0 S → gz_k E mX8_gameOf (5, 0, 0, 73) 0 0 348 [some (.ref 45), some (.int x1), some (.int x2), some (.int x3), some (.int x4), some (.int x5), none, none, some (.int x8), none] [.int t0] gz_F S (gz_qi Q) := by
  intro x1 x2 x3 x4 x5 x8 t0 S h
  unfold wX8_gameOf_348 at h
  refine gk_istore dX8_gameOf_348 (Nat.le_of_ble_eq_true rfl) rfl rfl ?_
  refine gk_aload_n dX8_gameOf_350 rfl ?_
  refine gk_iload_n dX8_gameOf_351 rfl ?_
  refine gk_iconst (v := 1) dX8_gameOf_352 rfl ?_
  refine gk_iadd dX8_gameOf_353 ?_
  refine gk_iload dX8_gameOf_354 rfl ?_
  refine gk_iconst (v := (-1)) dX8_gameOf_356 rfl ?_
  refine gk_icmp_ne (tgt := 369) dX8_gameOf_357 (by decide) (fun c357 => ?_) (fun c357 => ?_)
  · replace h := h.1 c357
    refine gk_aload_n dX8_gameOf_369 rfl ?_
    refine gk_getr dX8_gameOf_370 rfl rfl wfX8_74 ?_
    refine gk_iload_n dX8_gameOf_373 rfl ?_
    refine gk_iaload dX8_gameOf_374 rfl h.1 ?_
    replace h := h.2
    refine gk_iconst (v := 1) dX8_gameOf_375 rfl ?_
    refine gk_iload dX8_gameOf_376 rfl ?_
    refine gk_ishl dX8_gameOf_378 ?_
    refine gk_ior dX8_gameOf_379 ?_
    exact gk_less (gz_le_s rfl (gz_le_s rfl (gz_le_s rfl (gz_le_s rfl (gz_le_s rfl (gz_le_s rfl (gz_le_n (gz_le_n (gz_le_n (gz_le_s rfl gz_le_0)))))))))) (oX8_gameOf_380 hk44 _ _ _ _ _ _ _ _ _ h)
  · replace h := h.2 c357
    refine gk_aload_n dX8_gameOf_360 rfl ?_
    refine gk_getr dX8_gameOf_361 rfl rfl wfX8_74 ?_
    refine gk_iload_n dX8_gameOf_364 rfl ?_
    refine gk_iaload dX8_gameOf_365 rfl h.1 ?_
    replace h := h.2
    refine gk_goto (tgt := 380) dX8_gameOf_366 (by decide) ?_
    exact gk_less (gz_le_s rfl (gz_le_s rfl (gz_le_s rfl (gz_le_s rfl (gz_le_s rfl (gz_le_s rfl (gz_le_n (gz_le_n (gz_le_n (gz_le_s rfl gz_le_0)))))))))) (oX8_gameOf_380 hk44 _ _ _ _ _ _ _ _ _ h)
set_option maxHeartbeats 4000000 in
set_option maxRecDepth 100000 in
theorem oX8_gameOf_157 {E : gz_E} {k44 : Int32 → Int32 → Int32 → Int32 → Int32 → gz_S → Prop} {Q : Int32 → gz_S → Prop} (hk44 : ∀ (x1 : Int32) (x2 : Int32) (x3 : Int32) (x4 : Int32) (x5 : Int32) (S : gz_S), k44 x1 x2 x3 x4 x5 S → gz_k E mX8_gameOf (5, 0, 0, 73) 0 0 44 [some (.ref 45), some (.int x1), some (.int x2), some (.int x3), some (.int x4), some (.int x5), none, none, none, none] [] gz_F S (gz_qi Q)) : ∀ (x1 : Int32) (x2 : Int32) (x3 : Int32) (x4 : Int32) (x5 : Int32) (x6 : Int32) (S : gz_S), wX8_gameOf_157 k44 Q x1 x2 x3 x4 x5 x6 S → gz_k E mX8_gameOf (5, 0, 0, 73) 0 0 157 [some (.ref 45), some (.int x1), some (.int x2), some (.int x3), some (.int x4), some (.int x5), some (.int x6), none, none, none] [] gz_F S (gz_qi Q) := by
  intro x1 x2 x3 x4 x5 x6 S h
  unfold wX8_gameOf_157 at h
  refine gk_iload_n dX8_gameOf_157 rfl ?_
  refine gk_iload_n dX8_gameOf_158 rfl ?_
  refine gk_icmp_eq (tgt := 173) dX8_gameOf_159 (by decide) (fun c159 => ?_) (fun c159 => ?_)
  · replace h := h.1 c159
    exact gk_less (gz_le_s rfl (gz_le_s rfl (gz_le_s rfl (gz_le_s rfl (gz_le_s rfl (gz_le_n (gz_le_n (gz_le_n (gz_le_n (gz_le_n gz_le_0)))))))))) (oX8_gameOf_173 hk44 _ _ _ _ _ h)
  · replace h := h.2 c159
    refine gk_aload_n dX8_gameOf_162 rfl ?_
    refine gk_getr dX8_gameOf_163 rfl rfl wfX8_80 ?_
    refine gk_iload_n dX8_gameOf_166 rfl ?_
    refine gk_iaload dX8_gameOf_167 rfl h.1 ?_
    replace h := h.2
    refine gk_bipush (v := 9) dX8_gameOf_168 rfl ?_
    refine gk_icmp_ne (tgt := 303) dX8_gameOf_170 (by decide) (fun c170 => ?_) (fun c170 => ?_)
    · replace h := h.1 c170
      refine gk_aload_n dX8_gameOf_303 rfl ?_
      refine gk_getr dX8_gameOf_304 rfl rfl wfX8_80 ?_
      refine gk_iload_n dX8_gameOf_307 rfl ?_
      refine gk_iaload dX8_gameOf_308 rfl h.1 ?_
      replace h := h.2
      refine gk_nmi (fun v8_309 ev8_309 => ?_)
      replace h := h v8_309 ev8_309
      refine gk_istore dX8_gameOf_309 (Nat.le_of_ble_eq_true rfl) rfl rfl ?_
      refine gk_iload dX8_gameOf_311 rfl ?_
      refine gk_iconst (v := (-1)) dX8_gameOf_313 rfl ?_
      refine gk_icmp_ne (tgt := 321) dX8_gameOf_314 (by decide) (fun c314 => ?_) (fun c314 => ?_)
      · replace h := h.1 c314
        refine gk_iload dX8_gameOf_321 rfl ?_
        refine gk_if_ne (tgt := 338) dX8_gameOf_323 (by decide) (fun c323 => ?_) (fun c323 => ?_)
        · replace h := h.1 c323
          refine gk_bipush (v := (-5)) dX8_gameOf_338 rfl ?_
          refine gk_aload_n dX8_gameOf_340 rfl ?_
          refine gk_getr dX8_gameOf_341 rfl rfl wfX8_34 ?_
          refine gk_iload dX8_gameOf_344 rfl ?_
          refine gk_iaload dX8_gameOf_346 rfl h.1 ?_
          replace h := h.2
          refine gk_imul dX8_gameOf_347 ?_
          exact gk_less (gz_le_s rfl (gz_le_s rfl (gz_le_s rfl (gz_le_s rfl (gz_le_s rfl (gz_le_s rfl (gz_le_n (gz_le_n (gz_le_s rfl (gz_le_n gz_le_0)))))))))) (oX8_gameOf_348 hk44 _ _ _ _ _ _ _ _ h)
        · replace h := h.2 c323
          refine gk_iconst (v := 5) dX8_gameOf_326 rfl ?_
          refine gk_aload_n dX8_gameOf_327 rfl ?_
          refine gk_getr dX8_gameOf_328 rfl rfl wfX8_34 ?_
          refine gk_iload dX8_gameOf_331 rfl ?_
          refine gk_iaload dX8_gameOf_333 rfl h.1 ?_
          replace h := h.2
          refine gk_imul dX8_gameOf_334 ?_
          refine gk_goto (tgt := 348) dX8_gameOf_335 (by decide) ?_
          exact gk_less (gz_le_s rfl (gz_le_s rfl (gz_le_s rfl (gz_le_s rfl (gz_le_s rfl (gz_le_s rfl (gz_le_n (gz_le_n (gz_le_s rfl (gz_le_n gz_le_0)))))))))) (oX8_gameOf_348 hk44 _ _ _ _ _ _ _ _ h)
      · replace h := h.2 c314
        refine gk_iconst (v := 0) dX8_gameOf_317 rfl ?_
        refine gk_goto (tgt := 348) dX8_gameOf_318 (by decide) ?_
        exact gk_less (gz_le_s rfl (gz_le_s rfl (gz_le_s rfl (gz_le_s rfl (gz_le_s rfl (gz_le_s rfl (gz_le_n (gz_le_n (gz_le_s rfl (gz_le_n gz_le_0)))))))))) (oX8_gameOf_348 hk44 _ _ _ _ _ _ _ _ h)
    · replace h := h.2 c170
      exact gk_less (gz_le_s rfl (gz_le_s rfl (gz_le_s rfl (gz_le_s rfl (gz_le_s rfl (gz_le_n (gz_le_n (gz_le_n (gz_le_n (gz_le_n gz_le_0)))))))))) (oX8_gameOf_173 hk44 _ _ _ _ _ h)
set_option maxHeartbeats 4000000 in
set_option maxRecDepth 100000 in
theorem oX8_gameOf_110 {E : gz_E} {k44 : Int32 → Int32 → Int32 → Int32 → Int32 → gz_S → Prop} {Q : Int32 → gz_S → Prop} (hk44 : ∀ (x1 : Int32) (x2 : Int32) (x3 : Int32) (x4 : Int32) (x5 : Int32) (S : gz_S), k44 x1 x2 x3 x4 x5 S → gz_k E mX8_gameOf (5, 0, 0, 73) 0 0 44 [some (.ref 45), some (.int x1), some (.int x2), some (.int x3), some (.int x4), some (.int x5), none, none, none, none] [] gz_F S (gz_qi Q)) : ∀ (n : Nat) (x1 : Int32) (x2 : Int32) (x3 : Int32) (x4 : Int32) (x5 : Int32) (x6 : Int32) (x7 : Int32) (S : gz_S), wX8_gameOf_110 k44 Q n x1 x2 x3 x4 x5 x6 x7 S → gz_k E mX8_gameOf (5, 0, 0, 73) 0 0 110 [some (.ref 45), some (.int x1), some (.int x2), some (.int x3), some (.int x4), some (.int x5), some (.int x6), some (.int x7), none, none] [] gz_F S (gz_qi Q) := by
  intro n
  induction n with
  | zero =>
    intro x1 x2 x3 x4 x5 x6 x7 S h
    exact h.elim
  | succ n ih =>
    intro x1 x2 x3 x4 x5 x6 x7 S h
    unfold wX8_gameOf_110 at h
    refine gk_aload_n dX8_gameOf_110 rfl ?_
    refine gk_getr dX8_gameOf_111 rfl rfl wfX8_80 ?_
    refine gk_iload_n dX8_gameOf_114 rfl ?_
    refine gk_iaload dX8_gameOf_115 rfl h.1 ?_
    replace h := h.2
    refine gk_if_lt (tgt := 157) dX8_gameOf_116 (by decide) (fun c116 => ?_) (fun c116 => ?_)
    · replace h := h.1 c116
      exact gk_less (gz_le_s rfl (gz_le_s rfl (gz_le_s rfl (gz_le_s rfl (gz_le_s rfl (gz_le_s rfl (gz_le_s rfl (gz_le_n (gz_le_n (gz_le_n gz_le_0)))))))))) (oX8_gameOf_157 hk44 _ _ _ _ _ _ _ h)
    · replace h := h.2 c116
      refine gk_aload_n dX8_gameOf_119 rfl ?_
      refine gk_getr dX8_gameOf_120 rfl rfl wfX8_80 ?_
      refine gk_iload_n dX8_gameOf_123 rfl ?_
      refine gk_iaload dX8_gameOf_124 rfl h.1 ?_
      replace h := h.2
      refine gk_bipush (v := 9) dX8_gameOf_125 rfl ?_
      refine gk_icmp_ge (tgt := 157) dX8_gameOf_127 (by decide) (fun c127 => ?_) (fun c127 => ?_)
      · replace h := h.1 c127
        exact gk_less (gz_le_s rfl (gz_le_s rfl (gz_le_s rfl (gz_le_s rfl (gz_le_s rfl (gz_le_s rfl (gz_le_s rfl (gz_le_n (gz_le_n (gz_le_n gz_le_0)))))))))) (oX8_gameOf_157 hk44 _ _ _ _ _ _ _ h)
      · replace h := h.2 c127
        refine gk_iload dX8_gameOf_130 rfl ?_
        refine gk_aload_n dX8_gameOf_132 rfl ?_
        refine gk_getr dX8_gameOf_133 rfl rfl wfX8_80 ?_
        refine gk_iload_n dX8_gameOf_136 rfl ?_
        refine gk_iaload dX8_gameOf_137 rfl h.1 ?_
        replace h := h.2
        refine gk_callS (as := [_, _]) (rest := []) (ctX8_isIn h) dX8_gameOf_138 wvX8_226 wcX8_isIn rfl (Nat.le_of_ble_eq_true rfl) ⟨Nat.le_refl _, Nat.le_refl _⟩ (fun h9 => absurd rfl h9) (Nat.le_of_ble_eq_true rfl) rfl (fun v G2 S138 hq => ?_)
        obtain ⟨rfl, r138, rfl, h⟩ := hq
        refine gk_if_ne (tgt := 157) dX8_gameOf_141 (by decide) (fun c141 => ?_) (fun c141 => ?_)
        · replace h := h.1 c141
          exact gk_less (gz_le_s rfl (gz_le_s rfl (gz_le_s rfl (gz_le_s rfl (gz_le_s rfl (gz_le_s rfl (gz_le_s rfl (gz_le_n (gz_le_n (gz_le_n gz_le_0)))))))))) (oX8_gameOf_157 hk44 _ _ _ _ _ _ _ h)
        · replace h := h.2 c141
          refine gk_aload_n dX8_gameOf_144 rfl ?_
          refine gk_getr dX8_gameOf_145 rfl rfl wfX8_80 ?_
          refine gk_iload_n dX8_gameOf_148 rfl ?_
          refine gk_dup2 dX8_gameOf_149 rfl rfl ?_
          refine gk_iaload dX8_gameOf_150 rfl h.1 ?_
          replace h := h.2
          refine gk_iconst (v := 1) dX8_gameOf_151 rfl ?_
          refine gk_iadd dX8_gameOf_152 ?_
          refine gk_iastore dX8_gameOf_153 rfl h.1 ?_
          replace h := h.2
          refine gk_nmS (fun S153 eS153 => ?_)
          replace h := h S153 eS153
          refine gk_goto (tgt := 110) dX8_gameOf_154 (by decide) ?_
          exact gk_less (gz_le_s rfl (gz_le_s rfl (gz_le_s rfl (gz_le_s rfl (gz_le_s rfl (gz_le_s rfl (gz_le_s rfl (gz_le_s rfl (gz_le_n (gz_le_n gz_le_0)))))))))) (ih _ _ _ _ _ _ _ _ h)
set_option maxHeartbeats 4000000 in
set_option maxRecDepth 100000 in
theorem oX8_gameOf_108 {E : gz_E} {k44 : Int32 → Int32 → Int32 → Int32 → Int32 → gz_S → Prop} {Q : Int32 → gz_S → Prop} (hk44 : ∀ (x1 : Int32) (x2 : Int32) (x3 : Int32) (x4 : Int32) (x5 : Int32) (S : gz_S), k44 x1 x2 x3 x4 x5 S → gz_k E mX8_gameOf (5, 0, 0, 73) 0 0 44 [some (.ref 45), some (.int x1), some (.int x2), some (.int x3), some (.int x4), some (.int x5), none, none, none, none] [] gz_F S (gz_qi Q)) : ∀ (x1 : Int32) (x2 : Int32) (x3 : Int32) (x4 : Int32) (x5 : Int32) (x6 : Int32) (x7 : Int32) (t1 : Int32) (t2 : Int32) (t3 : Int32) (S : gz_S), wX8_gameOf_108 k44 Q x1 x2 x3 x4 x5 x6 x7 t1 t2 t3 S → gz_k E mX8_gameOf (5, 0, 0, 73) 0 0 108 [some (.ref 45), some (.int x1), some (.int x2), some (.int x3), some (.int x4), some (.int x5), some (.int x6), some (.int x7), none, none] [.int t3, .int t2, .int t1, .ref 69] gz_F S (gz_qi Q) := by
  intro x1 x2 x3 x4 x5 x6 x7 t1 t2 t3 S h
  unfold wX8_gameOf_108 at h
  refine gk_iadd dX8_gameOf_108 ?_
  refine gk_iastore dX8_gameOf_109 rfl h.1 ?_
  replace h := h.2
  refine gk_nmS (fun S109 eS109 => ?_)
  replace h := h S109 eS109
  obtain ⟨m110, h⟩ := h
  exact gk_less (gz_le_s rfl (gz_le_s rfl (gz_le_s rfl (gz_le_s rfl (gz_le_s rfl (gz_le_s rfl (gz_le_s rfl (gz_le_s rfl (gz_le_n (gz_le_n gz_le_0)))))))))) (oX8_gameOf_110 hk44 m110 _ _ _ _ _ _ _ _ h)
set_option maxHeartbeats 4000000 in
set_option maxRecDepth 100000 in
theorem oX8_gameOf_107 {E : gz_E} {k44 : Int32 → Int32 → Int32 → Int32 → Int32 → gz_S → Prop} {Q : Int32 → gz_S → Prop} (hk44 : ∀ (x1 : Int32) (x2 : Int32) (x3 : Int32) (x4 : Int32) (x5 : Int32) (S : gz_S), k44 x1 x2 x3 x4 x5 S → gz_k E mX8_gameOf (5, 0, 0, 73) 0 0 44 [some (.ref 45), some (.int x1), some (.int x2), some (.int x3), some (.int x4), some (.int x5), none, none, none, none] [] gz_F S (gz_qi Q)) : ∀ (x1 : Int32) (x2 : Int32) (x3 : Int32) (x4 : Int32) (x5 : Int32) (x6 : Int32) (x7 : Int32) (t1 : Int32) (t2 : Int32) (S : gz_S), wX8_gameOf_107 k44 Q x1 x2 x3 x4 x5 x6 x7 t1 t2 S → gz_k E mX8_gameOf (5, 0, 0, 73) 0 0 107 [some (.ref 45), some (.int x1), some (.int x2), some (.int x3), some (.int x4), some (.int x5), some (.int x6), some (.int x7), none, none] [.int t2, .int t1, .ref 69] gz_F S (gz_qi Q) := by
  intro x1 x2 x3 x4 x5 x6 x7 t1 t2 S h
  unfold wX8_gameOf_107 at h
  refine gk_iconst (v := 0) dX8_gameOf_107 rfl ?_
  exact gk_less (gz_le_s rfl (gz_le_s rfl (gz_le_s rfl (gz_le_s rfl (gz_le_s rfl (gz_le_s rfl (gz_le_s rfl (gz_le_s rfl (gz_le_n (gz_le_n gz_le_0)))))))))) (oX8_gameOf_108 hk44 _ _ _ _ _ _ _ _ _ _ _ h)
set_option maxHeartbeats 4000000 in
set_option maxRecDepth 100000 in
theorem oX8_gameOf_44 {E : gz_E} {Q : Int32 → gz_S → Prop} : ∀ (n : Nat) (x1 : Int32) (x2 : Int32) (x3 : Int32) (x4 : Int32) (x5 : Int32) (S : gz_S), wX8_gameOf_44 Q n x1 x2 x3 x4 x5 S → gz_k E mX8_gameOf (5, 0, 0, 73) 0 0 44 [some (.ref 45), some (.int x1), some (.int x2), some (.int x3), some (.int x4), some (.int x5), none, none, none, none] [] gz_F S (gz_qi Q) := by
  intro n
  induction n with
  | zero =>
    intro x1 x2 x3 x4 x5 S h
    exact h.elim
  | succ n ih =>
    intro x1 x2 x3 x4 x5 S h
    unfold wX8_gameOf_44 at h
    refine gk_iload_n dX8_gameOf_44 rfl ?_
    refine gk_if_lt (tgt := 398) dX8_gameOf_45 (by decide) (fun c45 => ?_) (fun c45 => ?_)
    · replace h := h.1 c45
      refine gk_iload_n dX8_gameOf_398 rfl ?_
      refine gk_if_ne (tgt := 407) dX8_gameOf_399 (by decide) (fun c399 => ?_) (fun c399 => ?_)
      · replace h := h.1 c399
        refine gk_iload dX8_gameOf_407 rfl ?_
        exact gk_iret dX8_gameOf_409 rfl rfl rfl rfl ⟨rfl, _, rfl, h⟩
      · replace h := h.2 c399
        refine gk_iload dX8_gameOf_402 rfl ?_
        refine gk_goto (tgt := 409) dX8_gameOf_404 (by decide) ?_
        exact gk_iret dX8_gameOf_409 rfl rfl rfl rfl ⟨rfl, _, rfl, h⟩
    · replace h := h.2 c45
      refine gk_iload_n dX8_gameOf_48 rfl ?_
      refine gk_iconst (v := 2) dX8_gameOf_49 rfl ?_
      refine gk_irem dX8_gameOf_50 (by decide) ?_
      refine gk_nmi (fun v6_51 ev6_51 => ?_)
      replace h := h v6_51 ev6_51
      refine gk_istore dX8_gameOf_51 (Nat.le_of_ble_eq_true rfl) rfl rfl ?_
      refine gk_aload_n dX8_gameOf_53 rfl ?_
      refine gk_getr dX8_gameOf_54 rfl rfl wfX8_80 ?_
      refine gk_iload_n dX8_gameOf_57 rfl ?_
      refine gk_dup2 dX8_gameOf_58 rfl rfl ?_
      refine gk_iaload dX8_gameOf_59 rfl h.1 ?_
      replace h := h.2
      refine gk_iconst (v := 1) dX8_gameOf_60 rfl ?_
      refine gk_iadd dX8_gameOf_61 ?_
      refine gk_iastore dX8_gameOf_62 rfl h.1 ?_
      replace h := h.2
      refine gk_nmS (fun S62 eS62 => ?_)
      replace h := h S62 eS62
      refine gk_aload_n dX8_gameOf_63 rfl ?_
      refine gk_getr dX8_gameOf_64 rfl rfl wfX8_89 ?_
      refine gk_iload dX8_gameOf_67 rfl ?_
      refine gk_iaload dX8_gameOf_69 rfl h.1 ?_
      replace h := h.2
      refine gk_aload_n dX8_gameOf_70 rfl ?_
      refine gk_getr dX8_gameOf_71 rfl rfl wfX8_74 ?_
      refine gk_iload_n dX8_gameOf_74 rfl ?_
      refine gk_iaload dX8_gameOf_75 rfl h.1 ?_
      replace h := h.2
      refine gk_iconst (v := (-1)) dX8_gameOf_76 rfl ?_
      refine gk_ixor dX8_gameOf_77 ?_
      refine gk_iand dX8_gameOf_78 ?_
      refine gk_nmi (fun v7_79 ev7_79 => ?_)
      replace h := h v7_79 ev7_79
      refine gk_istore dX8_gameOf_79 (Nat.le_of_ble_eq_true rfl) rfl rfl ?_
      refine gk_aload_n dX8_gameOf_81 rfl ?_
      refine gk_getr dX8_gameOf_82 rfl rfl wfX8_80 ?_
      refine gk_iload_n dX8_gameOf_85 rfl ?_
      refine gk_dup2 dX8_gameOf_86 rfl rfl ?_
      refine gk_iaload dX8_gameOf_87 rfl h.1 ?_
      replace h := h.2
      refine gk_aload_n dX8_gameOf_88 rfl ?_
      refine gk_getr dX8_gameOf_89 rfl rfl wfX8_80 ?_
      refine gk_iload_n dX8_gameOf_92 rfl ?_
      refine gk_iaload dX8_gameOf_93 rfl h.1 ?_
      replace h := h.2
      refine gk_iconst (v := (-1)) dX8_gameOf_94 rfl ?_
      refine gk_icmp_ne (tgt := 107) dX8_gameOf_95 (by decide) (fun c95 => ?_) (fun c95 => ?_)
      · replace h := h.1 c95
        exact gk_less (gz_le_s rfl (gz_le_s rfl (gz_le_s rfl (gz_le_s rfl (gz_le_s rfl (gz_le_s rfl (gz_le_s rfl (gz_le_s rfl (gz_le_n (gz_le_n gz_le_0)))))))))) (oX8_gameOf_107 (fun y0 y1 y2 y3 y4 S h => ih y0 y1 y2 y3 y4 S h) _ _ _ _ _ _ _ _ _ _ h)
      · replace h := h.2 c95
        refine gk_iload dX8_gameOf_98 rfl ?_
        refine gk_if_eq (tgt := 107) dX8_gameOf_100 (by decide) (fun c100 => ?_) (fun c100 => ?_)
        · replace h := h.1 c100
          exact gk_less (gz_le_s rfl (gz_le_s rfl (gz_le_s rfl (gz_le_s rfl (gz_le_s rfl (gz_le_s rfl (gz_le_s rfl (gz_le_s rfl (gz_le_n (gz_le_n gz_le_0)))))))))) (oX8_gameOf_107 (fun y0 y1 y2 y3 y4 S h => ih y0 y1 y2 y3 y4 S h) _ _ _ _ _ _ _ _ _ _ h)
        · replace h := h.2 c100
          refine gk_iconst (v := 1) dX8_gameOf_103 rfl ?_
          refine gk_goto (tgt := 108) dX8_gameOf_104 (by decide) ?_
          exact gk_less (gz_le_s rfl (gz_le_s rfl (gz_le_s rfl (gz_le_s rfl (gz_le_s rfl (gz_le_s rfl (gz_le_s rfl (gz_le_s rfl (gz_le_n (gz_le_n gz_le_0)))))))))) (oX8_gameOf_108 (fun y0 y1 y2 y3 y4 S h => ih y0 y1 y2 y3 y4 S h) _ _ _ _ _ _ _ _ _ _ _ h)
set_option maxHeartbeats 4000000 in
set_option maxRecDepth 100000 in
theorem ctX8_gameOf {E : gz_E} {x1 : Int32} {x2 : Int32} {S : gz_S} {Q : Int32 → gz_S → Prop} (h : wX8_gameOf x1 x2 S Q) : gz_m E mX8_gameOf 5 0 0 [.ref 45, .int x1, .int x2] gz_F S (gz_qi Q) := by
  refine gz_meet0 (L0 := [some (.ref 45), some (.int x1), some (.int x2), none, none, none, none, none, none, none]) (by decide) rfl (Nat.le_of_ble_eq_true rfl) (by decide) ?_
  unfold wX8_gameOf at h
  refine gk_iconst (v := 0) dX8_gameOf_0 rfl ?_
  refine gk_istore_n dX8_gameOf_1 (Nat.le_of_ble_eq_true rfl) rfl rfl ?_
  refine gk_iconst (v := (-1)) dX8_gameOf_2 rfl ?_
  refine gk_istore dX8_gameOf_3 (Nat.le_of_ble_eq_true rfl) rfl rfl ?_
  refine gk_iconst (v := 0) dX8_gameOf_5 rfl ?_
  refine gk_istore dX8_gameOf_6 (Nat.le_of_ble_eq_true rfl) rfl rfl ?_
  refine gk_aload_n dX8_gameOf_8 rfl ?_
  refine gk_iconst (v := 0) dX8_gameOf_9 rfl ?_
  refine gk_iconst (v := 0) dX8_gameOf_10 rfl ?_
  refine gk_aload_n dX8_gameOf_11 rfl ?_
  refine gk_aload_n dX8_gameOf_12 rfl ?_
  refine gk_callV (as := []) (rest := [_, _, _, _]) (ctX8_end h) dX8_gameOf_13 rfl rfl wvX8_220 wcX8_end rfl (Nat.le_of_ble_eq_true rfl) ⟨Nat.le_refl _, Nat.le_refl _⟩ (fun h9 => absurd rfl h9) (Nat.le_of_ble_eq_true rfl) rfl (fun v G2 S13 hq => ?_)
  obtain ⟨rfl, r13, rfl, h⟩ := hq
  refine gk_callV (as := [_]) (rest := [_, _, _]) (ctX8_tipOf h) dX8_gameOf_16 rfl rfl wvX8_214 wcX8_tipOf rfl (Nat.le_of_ble_eq_true rfl) ⟨Nat.le_refl _, Nat.le_refl _⟩ (fun h9 => absurd rfl h9) (Nat.le_of_ble_eq_true rfl) rfl (fun v G2 S16 hq => ?_)
  obtain ⟨rfl, r16, rfl, h⟩ := hq
  refine gk_callV (as := [_, _, _]) (rest := []) (ctX8_enters h) dX8_gameOf_19 rfl rfl wvX8_265 wcX8_enters rfl (Nat.le_of_ble_eq_true rfl) ⟨Nat.le_refl _, Nat.le_refl _⟩ (fun h9 => absurd rfl h9) (Nat.le_of_ble_eq_true rfl) rfl (fun v G2 S19 hq => ?_)
  obtain ⟨rfl, rfl, h⟩ := hq
  refine gk_aload_n dX8_gameOf_22 rfl ?_
  refine gk_getr dX8_gameOf_23 rfl rfl wfX8_89 ?_
  refine gk_iconst (v := 0) dX8_gameOf_26 rfl ?_
  refine gk_aload_n dX8_gameOf_27 rfl ?_
  refine gk_iconst (v := 0) dX8_gameOf_28 rfl ?_
  refine gk_callV (as := [_]) (rest := [_, _]) (ctX8_freeOf h) dX8_gameOf_29 rfl rfl wvX8_244 wcX8_freeOf rfl (Nat.le_of_ble_eq_true rfl) ⟨Nat.le_refl _, Nat.le_refl _⟩ (fun h9 => absurd rfl h9) (Nat.le_of_ble_eq_true rfl) rfl (fun v G2 S29 hq => ?_)
  obtain ⟨rfl, r29, rfl, h⟩ := hq
  refine gk_iastore dX8_gameOf_32 rfl h.1 ?_
  replace h := h.2
  refine gk_nmS (fun S32 eS32 => ?_)
  replace h := h S32 eS32
  refine gk_aload_n dX8_gameOf_33 rfl ?_
  refine gk_getr dX8_gameOf_34 rfl rfl wfX8_89 ?_
  refine gk_iconst (v := 1) dX8_gameOf_37 rfl ?_
  refine gk_aload_n dX8_gameOf_38 rfl ?_
  refine gk_iconst (v := 1) dX8_gameOf_39 rfl ?_
  refine gk_callV (as := [_]) (rest := [_, _]) (ctX8_freeOf h) dX8_gameOf_40 rfl rfl wvX8_244 wcX8_freeOf rfl (Nat.le_of_ble_eq_true rfl) ⟨Nat.le_refl _, Nat.le_refl _⟩ (fun h9 => absurd rfl h9) (Nat.le_of_ble_eq_true rfl) rfl (fun v G2 S40 hq => ?_)
  obtain ⟨rfl, r40, rfl, h⟩ := hq
  refine gk_iastore dX8_gameOf_43 rfl h.1 ?_
  replace h := h.2
  refine gk_nmS (fun S43 eS43 => ?_)
  replace h := h S43 eS43
  obtain ⟨m44, h⟩ := h
  exact gk_less (gz_le_s rfl (gz_le_s rfl (gz_le_s rfl (gz_le_s rfl (gz_le_s rfl (gz_le_s rfl (gz_le_n (gz_le_n (gz_le_n (gz_le_n gz_le_0)))))))))) (oX8_gameOf_44 m44 _ _ _ _ _ _ h)
set_option maxHeartbeats 4000000 in
set_option maxRecDepth 100000 in
theorem ctX8_game {E : gz_E} {x1 : Int32} {x2 : Int32} {S : gz_S} {Q : Int32 → gz_S → Prop} (h : wX8_game x1 x2 S Q) : gz_m E mX8_game 6 0 0 [.ref 45, .int x1, .int x2] gz_F S (gz_qi Q) := by
  refine gz_meet0 (L0 := [some (.ref 45), some (.int x1), some (.int x2)]) (by decide) rfl (Nat.le_of_ble_eq_true rfl) (by decide) ?_
  unfold wX8_game at h
  refine gk_aload_n dX8_game_0 rfl ?_
  refine gk_callV (as := []) (rest := []) (ctX8_reads h) dX8_game_1 rfl rfl wvX8_147 wcX8_reads rfl (Nat.le_of_ble_eq_true rfl) ⟨Nat.le_refl _, Nat.le_refl _⟩ (fun h9 => absurd rfl h9) (Nat.le_of_ble_eq_true rfl) rfl (fun v G2 S1 hq => ?_)
  obtain ⟨rfl, rfl, h⟩ := hq
  refine gk_iload_n dX8_game_4 rfl ?_
  refine gk_i2l dX8_game_5 ?_
  refine gk_lconst (v := 1) dX8_game_6 rfl ?_
  refine gk_ldc2 dX8_game_7 wkX8_269 ?_
  refine gk_callS (as := [_, _, _]) (rest := []) (ctX8_in h) dX8_game_10 wvX8_92 wcX8_in rfl (Nat.le_of_ble_eq_true rfl) ⟨Nat.le_refl _, Nat.le_refl _⟩ (fun h9 => absurd rfl h9) (Nat.le_of_ble_eq_true rfl) rfl (fun v G2 S10 hq => ?_)
  obtain ⟨rfl, r10, rfl, h⟩ := hq
  refine gk_if_eq (tgt := 32) dX8_game_13 (by decide) (fun c13 => ?_) (fun c13 => ?_)
  · replace h := h.1 c13
    refine gk_sipush (v := (-10002)) dX8_game_32 rfl ?_
    exact gk_iret dX8_game_35 rfl rfl rfl rfl ⟨rfl, _, rfl, h⟩
  · replace h := h.2 c13
    refine gk_iload_n dX8_game_16 rfl ?_
    refine gk_callS (as := [_]) (rest := []) (ctX8_isTwo h) dX8_game_17 wvX8_121 wcX8_isTwo rfl (Nat.le_of_ble_eq_true rfl) ⟨Nat.le_refl _, Nat.le_refl _⟩ (fun h9 => absurd rfl h9) (Nat.le_of_ble_eq_true rfl) rfl (fun v G2 S17 hq => ?_)
    obtain ⟨rfl, r17, rfl, h⟩ := hq
    refine gk_if_eq (tgt := 32) dX8_game_20 (by decide) (fun c20 => ?_) (fun c20 => ?_)
    · replace h := h.1 c20
      refine gk_sipush (v := (-10002)) dX8_game_32 rfl ?_
      exact gk_iret dX8_game_35 rfl rfl rfl rfl ⟨rfl, _, rfl, h⟩
    · replace h := h.2 c20
      refine gk_aload_n dX8_game_23 rfl ?_
      refine gk_iload_n dX8_game_24 rfl ?_
      refine gk_iload_n dX8_game_25 rfl ?_
      refine gk_callV (as := [_, _]) (rest := []) (ctX8_gameOf h) dX8_game_26 rfl rfl wvX8_271 wcX8_gameOf rfl (Nat.le_of_ble_eq_true rfl) ⟨Nat.le_refl _, Nat.le_refl _⟩ (fun h9 => absurd rfl h9) (Nat.le_of_ble_eq_true rfl) rfl (fun v G2 S26 hq => ?_)
      obtain ⟨rfl, r26, rfl, h⟩ := hq
      refine gk_goto (tgt := 35) dX8_game_29 (by decide) ?_
      exact gk_iret dX8_game_35 rfl rfl rfl rfl ⟨rfl, _, rfl, h⟩
set_option maxHeartbeats 4000000 in
set_option maxRecDepth 100000 in
theorem ctX7_arm {E : gz_E} {x1 : Int32} {x2 : Int32} {S : gz_S} {Q : Int32 → gz_S → Prop} (h : wX7_arm x1 x2 S Q) : gz_m E mX7_arm 2 0 0 [.ref 0, .int x1, .int x2] gz_F S (gz_qi Q) := by
  refine gz_meet0 (L0 := [some (.ref 0), some (.int x1), some (.int x2), none]) (by decide) rfl (Nat.le_of_ble_eq_true rfl) (by decide) ?_
  unfold wX7_arm at h
  refine gk_iload_n dX7_arm_0 rfl ?_
  refine gk_iconst (v := 0) dX7_arm_1 rfl ?_
  refine gk_bipush (v := 7) dX7_arm_2 rfl ?_
  refine gk_callS (as := [_, _, _]) (rest := []) (ctX7_within h) dX7_arm_4 wvX7_62 wcX7_within rfl (Nat.le_of_ble_eq_true rfl) ⟨Nat.le_refl _, Nat.le_refl _⟩ (fun h9 => absurd rfl h9) (Nat.le_of_ble_eq_true rfl) rfl (fun v G2 S4 hq => ?_)
  obtain ⟨rfl, r4, rfl, h⟩ := hq
  refine gk_if_eq (tgt := 19) dX7_arm_7 (by decide) (fun c7 => ?_) (fun c7 => ?_)
  · replace h := h.1 c7
    refine gk_bipush (v := (-2)) dX7_arm_19 rfl ?_
    exact gk_iret dX7_arm_21 rfl rfl rfl rfl ⟨rfl, _, rfl, h⟩
  · replace h := h.2 c7
    refine gk_iload_n dX7_arm_10 rfl ?_
    refine gk_iconst (v := 0) dX7_arm_11 rfl ?_
    refine gk_iconst (v := 5) dX7_arm_12 rfl ?_
    refine gk_callS (as := [_, _, _]) (rest := []) (ctX7_within h) dX7_arm_13 wvX7_62 wcX7_within rfl (Nat.le_of_ble_eq_true rfl) ⟨Nat.le_refl _, Nat.le_refl _⟩ (fun h9 => absurd rfl h9) (Nat.le_of_ble_eq_true rfl) rfl (fun v G2 S13 hq => ?_)
    obtain ⟨rfl, r13, rfl, h⟩ := hq
    refine gk_if_ne (tgt := 22) dX7_arm_16 (by decide) (fun c16 => ?_) (fun c16 => ?_)
    · replace h := h.1 c16
      refine gk_aload_n dX7_arm_22 rfl ?_
      refine gk_getr dX7_arm_23 rfl rfl wfX7_10 ?_
      refine gk_getr dX7_arm_26 rfl rfl wfX7_203 ?_
      refine gk_iload_n dX7_arm_29 rfl ?_
      refine gk_iaload dX7_arm_30 rfl h.1 ?_
      replace h := h.2
      refine gk_nmi (fun v3_31 ev3_31 => ?_)
      replace h := h v3_31 ev3_31
      refine gk_istore_n dX7_arm_31 (Nat.le_of_ble_eq_true rfl) rfl rfl ?_
      refine gk_aload_n dX7_arm_32 rfl ?_
      refine gk_getr dX7_arm_33 rfl rfl wfX7_10 ?_
      refine gk_getr dX7_arm_36 rfl rfl wfX7_203 ?_
      refine gk_iload_n dX7_arm_39 rfl ?_
      refine gk_iload_n dX7_arm_40 rfl ?_
      refine gk_iastore dX7_arm_41 rfl h.1 ?_
      replace h := h.2
      refine gk_nmS (fun S41 eS41 => ?_)
      replace h := h S41 eS41
      refine gk_iload_n dX7_arm_42 rfl ?_
      exact gk_iret dX7_arm_43 rfl rfl rfl rfl ⟨rfl, _, rfl, h⟩
    · replace h := h.2 c16
      refine gk_bipush (v := (-2)) dX7_arm_19 rfl ?_
      exact gk_iret dX7_arm_21 rfl rfl rfl rfl ⟨rfl, _, rfl, h⟩
set_option maxHeartbeats 4000000 in
set_option maxRecDepth 100000 in
theorem ctX8_arm {E : gz_E} {x1 : Int32} {x2 : Int32} {S : gz_S} {Q : Int32 → gz_S → Prop} (h : wX8_arm x1 x2 S Q) : gz_m E mX8_arm 2 0 0 [.ref 45, .int x1, .int x2] gz_F S (gz_qi Q) := by
  refine gz_meet0 (L0 := [some (.ref 45), some (.int x1), some (.int x2), none]) (by decide) rfl (Nat.le_of_ble_eq_true rfl) (by decide) ?_
  unfold wX8_arm at h
  refine gk_iload_n dX8_arm_0 rfl ?_
  refine gk_i2l dX8_arm_1 ?_
  refine gk_lconst (v := 0) dX8_arm_2 rfl ?_
  refine gk_ldc2 dX8_arm_3 wkX8_161 ?_
  refine gk_callS (as := [_, _, _]) (rest := []) (ctX8_in h) dX8_arm_6 wvX8_92 wcX8_in rfl (Nat.le_of_ble_eq_true rfl) ⟨Nat.le_refl _, Nat.le_refl _⟩ (fun h9 => absurd rfl h9) (Nat.le_of_ble_eq_true rfl) rfl (fun v G2 S6 hq => ?_)
  obtain ⟨rfl, r6, rfl, h⟩ := hq
  refine gk_if_eq (tgt := 24) dX8_arm_9 (by decide) (fun c9 => ?_) (fun c9 => ?_)
  · replace h := h.1 c9
    refine gk_bipush (v := (-2)) dX8_arm_24 rfl ?_
    exact gk_iret dX8_arm_26 rfl rfl rfl rfl ⟨rfl, _, rfl, h⟩
  · replace h := h.2 c9
    refine gk_iload_n dX8_arm_12 rfl ?_
    refine gk_i2l dX8_arm_13 ?_
    refine gk_lconst (v := 0) dX8_arm_14 rfl ?_
    refine gk_ldc2 dX8_arm_15 wkX8_165 ?_
    refine gk_callS (as := [_, _, _]) (rest := []) (ctX8_in h) dX8_arm_18 wvX8_92 wcX8_in rfl (Nat.le_of_ble_eq_true rfl) ⟨Nat.le_refl _, Nat.le_refl _⟩ (fun h9 => absurd rfl h9) (Nat.le_of_ble_eq_true rfl) rfl (fun v G2 S18 hq => ?_)
    obtain ⟨rfl, r18, rfl, h⟩ := hq
    refine gk_if_ne (tgt := 27) dX8_arm_21 (by decide) (fun c21 => ?_) (fun c21 => ?_)
    · replace h := h.1 c21
      refine gk_aload_n dX8_arm_27 rfl ?_
      refine gk_getr dX8_arm_28 rfl rfl wfX8_46 ?_
      refine gk_iload_n dX8_arm_31 rfl ?_
      refine gk_iaload dX8_arm_32 rfl h.1 ?_
      replace h := h.2
      refine gk_nmi (fun v3_33 ev3_33 => ?_)
      replace h := h v3_33 ev3_33
      refine gk_istore_n dX8_arm_33 (Nat.le_of_ble_eq_true rfl) rfl rfl ?_
      refine gk_aload_n dX8_arm_34 rfl ?_
      refine gk_getr dX8_arm_35 rfl rfl wfX8_46 ?_
      refine gk_iload_n dX8_arm_38 rfl ?_
      refine gk_iload_n dX8_arm_39 rfl ?_
      refine gk_iastore dX8_arm_40 rfl h.1 ?_
      replace h := h.2
      refine gk_nmS (fun S40 eS40 => ?_)
      replace h := h S40 eS40
      refine gk_iload_n dX8_arm_41 rfl ?_
      exact gk_iret dX8_arm_42 rfl rfl rfl rfl ⟨rfl, _, rfl, h⟩
    · replace h := h.2 c21
      refine gk_bipush (v := (-2)) dX8_arm_24 rfl ?_
      exact gk_iret dX8_arm_26 rfl rfl rfl rfl ⟨rfl, _, rfl, h⟩
set_option maxHeartbeats 4000000 in
set_option maxRecDepth 100000 in
theorem ctX0_vote_b {E : gz_E} {rc : Int32 → Int32 → Int32 → Int32 → gz_S → (gz_S → Prop) → Prop} {d : Nat} (hd : 1 ≤ d) (hrc : ∀ (x1 : Int32) (x2 : Int32) (x3 : Int32) (x4 : Int32) (S : gz_S) (Q : gz_S → Prop), rc x1 x2 x3 x4 S Q → gz_m E mX0_vote d 0 0 [.ref 33, .int x1, .int x2, .int x3, .int x4] gz_F S (gz_qv Q)) {x1 : Int32} {x2 : Int32} {x3 : Int32} {x4 : Int32} {S : gz_S} {Q : gz_S → Prop} (h : wX0_vote_b rc x1 x2 x3 x4 S Q) : gz_m E mX0_vote (d + 1) 0 0 [.ref 33, .int x1, .int x2, .int x3, .int x4] gz_F S (gz_qv Q) := by
  refine gz_meet0 (L0 := [some (.ref 33), some (.int x1), some (.int x2), some (.int x3), some (.int x4), none]) (by decide) rfl (Nat.le_of_ble_eq_true rfl) (by decide) ?_
  unfold wX0_vote_b at h
  refine gk_aload_n dX0_vote_0 rfl ?_
  refine gk_geti dX0_vote_1 rfl rfl wfX0_22 ?_
  refine gk_iload_n dX0_vote_4 rfl ?_
  refine gk_isub dX0_vote_5 ?_
  refine gk_abs em_abs dX0_vote_6 wvX0_58 wcJ9_abs_0f7a4 (by omega) (Nat.le_refl _) (Nat.le_refl _) (Nat.le_of_ble_eq_true rfl) ?_
  refine gk_aload_n dX0_vote_9 rfl ?_
  refine gk_getr dX0_vote_10 rfl rfl wfX0_15 ?_
  refine gk_iload_n dX0_vote_13 rfl ?_
  refine gk_iaload dX0_vote_14 rfl h.1 ?_
  replace h := h.2
  refine gk_icmp_le (tgt := 19) dX0_vote_15 (by decide) (fun c15 => ?_) (fun c15 => ?_)
  · replace h := h.1 c15
    refine gk_iload_n dX0_vote_19 rfl ?_
    refine gk_aload_n dX0_vote_20 rfl ?_
    refine gk_geti dX0_vote_21 rfl rfl wfX0_18 ?_
    refine gk_icmp_lt (tgt := 59) dX0_vote_24 (by decide) (fun c24 => ?_) (fun c24 => ?_)
    · replace h := h.1 c24
      refine gk_aload_n dX0_vote_59 rfl ?_
      refine gk_getr dX0_vote_60 rfl rfl wfX0_9 ?_
      refine gk_iload_n dX0_vote_63 rfl ?_
      refine gk_iaload dX0_vote_64 rfl h.1 ?_
      replace h := h.2
      refine gk_nmi (fun v5_65 ev5_65 => ?_)
      replace h := h v5_65 ev5_65
      refine gk_istore dX0_vote_65 (Nat.le_of_ble_eq_true rfl) rfl rfl ?_
      refine gk_aload_n dX0_vote_67 rfl ?_
      refine gk_iload_n dX0_vote_68 rfl ?_
      refine gk_iconst (v := 1) dX0_vote_69 rfl ?_
      refine gk_iadd dX0_vote_70 ?_
      refine gk_iload_n dX0_vote_71 rfl ?_
      refine gk_iload_n dX0_vote_72 rfl ?_
      refine gk_iload dX0_vote_73 rfl ?_
      refine gk_callS (as := [_, _, _, _, _]) (rest := []) (hrc _ _ _ _ _ _ h) dX0_vote_75 wvX0_54 wcX0_vote rfl (by omega) ⟨Nat.le_refl _, Nat.le_refl _⟩ (fun h9 => absurd rfl h9) (Nat.le_of_ble_eq_true rfl) rfl (fun v G2 S75 hq => ?_)
      obtain ⟨rfl, rfl, h⟩ := hq
      refine gk_aload_n dX0_vote_78 rfl ?_
      refine gk_iload_n dX0_vote_79 rfl ?_
      refine gk_iconst (v := 1) dX0_vote_80 rfl ?_
      refine gk_iadd dX0_vote_81 ?_
      refine gk_iload_n dX0_vote_82 rfl ?_
      refine gk_iload dX0_vote_83 rfl ?_
      refine gk_iadd dX0_vote_85 ?_
      refine gk_iload_n dX0_vote_86 rfl ?_
      refine gk_iconst (v := 1) dX0_vote_87 rfl ?_
      refine gk_iload_n dX0_vote_88 rfl ?_
      refine gk_ishl dX0_vote_89 ?_
      refine gk_ior dX0_vote_90 ?_
      refine gk_iload dX0_vote_91 rfl ?_
      refine gk_callS (as := [_, _, _, _, _]) (rest := []) (hrc _ _ _ _ _ _ h) dX0_vote_93 wvX0_54 wcX0_vote rfl (by omega) ⟨Nat.le_refl _, Nat.le_refl _⟩ (fun h9 => absurd rfl h9) (Nat.le_of_ble_eq_true rfl) rfl (fun v G2 S93 hq => ?_)
      obtain ⟨rfl, rfl, h⟩ := hq
      refine gk_aload_n dX0_vote_96 rfl ?_
      refine gk_iload_n dX0_vote_97 rfl ?_
      refine gk_iconst (v := 1) dX0_vote_98 rfl ?_
      refine gk_iadd dX0_vote_99 ?_
      refine gk_iload_n dX0_vote_100 rfl ?_
      refine gk_iload dX0_vote_101 rfl ?_
      refine gk_isub dX0_vote_103 ?_
      refine gk_iload_n dX0_vote_104 rfl ?_
      refine gk_iload dX0_vote_105 rfl ?_
      refine gk_iconst (v := 1) dX0_vote_107 rfl ?_
      refine gk_iload_n dX0_vote_108 rfl ?_
      refine gk_ishl dX0_vote_109 ?_
      refine gk_ior dX0_vote_110 ?_
      refine gk_callS (as := [_, _, _, _, _]) (rest := []) (hrc _ _ _ _ _ _ h) dX0_vote_111 wvX0_54 wcX0_vote rfl (by omega) ⟨Nat.le_refl _, Nat.le_refl _⟩ (fun h9 => absurd rfl h9) (Nat.le_of_ble_eq_true rfl) rfl (fun v G2 S111 hq => ?_)
      obtain ⟨rfl, rfl, h⟩ := hq
      exact gk_vret dX0_vote_114 rfl rfl rfl ⟨rfl, rfl, h⟩
    · replace h := h.2 c24
      refine gk_aload_n dX0_vote_27 rfl ?_
      refine gk_dup dX0_vote_28 rfl ?_
      refine gk_geti dX0_vote_29 rfl rfl wfX0_25 ?_
      refine gk_iconst (v := 1) dX0_vote_32 rfl ?_
      refine gk_iadd dX0_vote_33 ?_
      refine gk_puti dX0_vote_34 rfl rfl wfX0_25 wpX0_5 rfl rfl ?_
      refine gk_nmS (fun S34 eS34 => ?_)
      replace h := h S34 eS34
      refine gk_aload_n dX0_vote_37 rfl ?_
      refine gk_dup dX0_vote_38 rfl ?_
      refine gk_geti dX0_vote_39 rfl rfl wfX0_28 ?_
      refine gk_iload_n dX0_vote_42 rfl ?_
      refine gk_iand dX0_vote_43 ?_
      refine gk_puti dX0_vote_44 rfl rfl wfX0_28 wpX0_6 rfl rfl ?_
      refine gk_nmS (fun S44 eS44 => ?_)
      replace h := h S44 eS44
      refine gk_aload_n dX0_vote_47 rfl ?_
      refine gk_dup dX0_vote_48 rfl ?_
      refine gk_geti dX0_vote_49 rfl rfl wfX0_31 ?_
      refine gk_iload dX0_vote_52 rfl ?_
      refine gk_iand dX0_vote_54 ?_
      refine gk_puti dX0_vote_55 rfl rfl wfX0_31 wpX0_7 rfl rfl ?_
      refine gk_nmS (fun S55 eS55 => ?_)
      replace h := h S55 eS55
      exact gk_vret dX0_vote_58 rfl rfl rfl ⟨rfl, rfl, h⟩
  · replace h := h.2 c15
    exact gk_vret dX0_vote_18 rfl rfl rfl ⟨rfl, rfl, h⟩
theorem ctX0_vote {E : gz_E} : ∀ {n : Nat} {x1 : Int32} {x2 : Int32} {x3 : Int32} {x4 : Int32} {S : gz_S} {Q : gz_S → Prop}, wX0_vote n x1 x2 x3 x4 S Q → gz_m E mX0_vote (n + 1) 0 0 [.ref 33, .int x1, .int x2, .int x3, .int x4] gz_F S (gz_qv Q)
  | 0, _, _, _, _, _, _, h => h.elim
  | n + 1, _, _, _, _, _, _, h => ctX0_vote_b (rc := wX0_vote n) (d := n + 1) (Nat.succ_le_succ (Nat.zero_le n)) (fun _ _ _ _ _ _ h2 => ctX0_vote h2) h
set_option maxHeartbeats 4000000 in
set_option maxRecDepth 100000 in
theorem oX0_open_36 {E : gz_E} {Q : gz_S → Prop} : ∀ (n : Nat) (x2 : Int32) (S : gz_S), wX0_open_36 Q n x2 S → gz_k E mX0_open (12, 0, 0, 73) 0 0 36 [some (.ref 33), none, some (.int x2)] [] gz_F S (gz_qv Q) := by
  intro n
  induction n with
  | zero =>
    intro x2 S h
    exact h.elim
  | succ n ih =>
    intro x2 S h
    unfold wX0_open_36 at h
    refine gk_iload_n dX0_open_36 rfl ?_
    refine gk_if_lt (tgt := 91) dX0_open_37 (by decide) (fun c37 => ?_) (fun c37 => ?_)
    · replace h := h.1 c37
      refine gk_aload_n dX0_open_91 rfl ?_
      refine gk_iconst (v := 0) dX0_open_92 rfl ?_
      refine gk_puti dX0_open_93 rfl rfl wfX0_25 wpX0_5 rfl rfl ?_
      refine gk_nmS (fun S93 eS93 => ?_)
      replace h := h S93 eS93
      refine gk_aload_n dX0_open_96 rfl ?_
      refine gk_iconst (v := 1) dX0_open_97 rfl ?_
      refine gk_aload_n dX0_open_98 rfl ?_
      refine gk_geti dX0_open_99 rfl rfl wfX0_18 ?_
      refine gk_ishl dX0_open_102 ?_
      refine gk_iconst (v := 1) dX0_open_103 rfl ?_
      refine gk_isub dX0_open_104 ?_
      refine gk_puti dX0_open_105 rfl rfl wfX0_28 wpX0_6 rfl rfl ?_
      refine gk_nmS (fun S105 eS105 => ?_)
      replace h := h S105 eS105
      refine gk_aload_n dX0_open_108 rfl ?_
      refine gk_aload_n dX0_open_109 rfl ?_
      refine gk_geti dX0_open_110 rfl rfl wfX0_28 ?_
      refine gk_puti dX0_open_113 rfl rfl wfX0_31 wpX0_7 rfl rfl ?_
      refine gk_nmS (fun S113 eS113 => ?_)
      replace h := h S113 eS113
      refine gk_aload_n dX0_open_116 rfl ?_
      refine gk_iconst (v := 0) dX0_open_117 rfl ?_
      refine gk_iconst (v := 0) dX0_open_118 rfl ?_
      refine gk_iconst (v := 0) dX0_open_119 rfl ?_
      refine gk_iconst (v := 0) dX0_open_120 rfl ?_
      refine gk_callS (as := [_, _, _, _, _]) (rest := []) (ctX0_vote h) dX0_open_121 wvX0_54 wcX0_vote rfl (Nat.le_of_ble_eq_true rfl) ⟨Nat.le_refl _, Nat.le_refl _⟩ (fun h9 => absurd rfl h9) (Nat.le_of_ble_eq_true rfl) rfl (fun v G2 S121 hq => ?_)
      obtain ⟨rfl, rfl, h⟩ := hq
      refine gk_aload_n dX0_open_124 rfl ?_
      refine gk_geti dX0_open_125 rfl rfl wfX0_25 ?_
      refine gk_if_ne (tgt := 141) dX0_open_128 (by decide) (fun c128 => ?_) (fun c128 => ?_)
      · replace h := h.1 c128
        exact gk_vret dX0_open_141 rfl rfl rfl ⟨rfl, rfl, h⟩
      · replace h := h.2 c128
        refine gk_aload_n dX0_open_131 rfl ?_
        refine gk_iconst (v := 0) dX0_open_132 rfl ?_
        refine gk_puti dX0_open_133 rfl rfl wfX0_28 wpX0_6 rfl rfl ?_
        refine gk_nmS (fun S133 eS133 => ?_)
        replace h := h S133 eS133
        refine gk_aload_n dX0_open_136 rfl ?_
        refine gk_iconst (v := 0) dX0_open_137 rfl ?_
        refine gk_puti dX0_open_138 rfl rfl wfX0_31 wpX0_7 rfl rfl ?_
        refine gk_nmS (fun S138 eS138 => ?_)
        replace h := h S138 eS138
        exact gk_vret dX0_open_141 rfl rfl rfl ⟨rfl, rfl, h⟩
    · replace h := h.2 c37
      refine gk_aload_n dX0_open_40 rfl ?_
      refine gk_getr dX0_open_41 rfl rfl wfX0_9 ?_
      refine gk_iload_n dX0_open_44 rfl ?_
      refine gk_aload_n dX0_open_45 rfl ?_
      refine gk_getr dX0_open_46 rfl rfl wfX0_34 ?_
      refine gk_iload_n dX0_open_49 rfl ?_
      refine gk_callV (as := [_]) (rest := [_, _]) (ctX3_strength h) dX0_open_50 rfl rfl wvX0_47 wcX3_strength rfl (Nat.le_of_ble_eq_true rfl) ⟨Nat.le_refl _, Nat.le_refl _⟩ (fun h9 => absurd rfl h9) (Nat.le_of_ble_eq_true rfl) rfl (fun v G2 S50 hq => ?_)
      obtain ⟨rfl, r50, rfl, h⟩ := hq
      refine gk_aload_n dX0_open_53 rfl ?_
      refine gk_getr dX0_open_54 rfl rfl wfX0_34 ?_
      refine gk_getr dX0_open_57 rfl rfl wfX0_51 ?_
      refine gk_iload_n dX0_open_60 rfl ?_
      refine gk_iaload dX0_open_61 rfl h.1 ?_
      replace h := h.2
      refine gk_imul dX0_open_62 ?_
      refine gk_iastore dX0_open_63 rfl h.1 ?_
      replace h := h.2
      refine gk_nmS (fun S63 eS63 => ?_)
      replace h := h S63 eS63
      refine gk_aload_n dX0_open_64 rfl ?_
      refine gk_getr dX0_open_65 rfl rfl wfX0_15 ?_
      refine gk_iload_n dX0_open_68 rfl ?_
      refine gk_aload_n dX0_open_69 rfl ?_
      refine gk_getr dX0_open_70 rfl rfl wfX0_15 ?_
      refine gk_iload_n dX0_open_73 rfl ?_
      refine gk_iconst (v := 1) dX0_open_74 rfl ?_
      refine gk_iadd dX0_open_75 ?_
      refine gk_iaload dX0_open_76 rfl h.1 ?_
      replace h := h.2
      refine gk_aload_n dX0_open_77 rfl ?_
      refine gk_getr dX0_open_78 rfl rfl wfX0_9 ?_
      refine gk_iload_n dX0_open_81 rfl ?_
      refine gk_iaload dX0_open_82 rfl h.1 ?_
      replace h := h.2
      refine gk_iadd dX0_open_83 ?_
      refine gk_iastore dX0_open_84 rfl h.1 ?_
      replace h := h.2
      refine gk_nmS (fun S84 eS84 => ?_)
      replace h := h S84 eS84
      refine gk_iinc dX0_open_85 rfl (Nat.le_of_ble_eq_true rfl) rfl rfl rfl ?_
      refine gk_goto (tgt := 36) dX0_open_88 (by decide) ?_
      exact gk_less (gz_le_s rfl (gz_le_n (gz_le_s rfl gz_le_0))) (ih _ _ h)
set_option maxHeartbeats 4000000 in
set_option maxRecDepth 100000 in
theorem ctX0_open {E : gz_E} {x1 : Int32} {S : gz_S} {Q : gz_S → Prop} (h : wX0_open x1 S Q) : gz_m E mX0_open 12 0 0 [.ref 33, .int x1] gz_F S (gz_qv Q) := by
  refine gz_meet0 (L0 := [some (.ref 33), some (.int x1), none]) (by decide) rfl (Nat.le_of_ble_eq_true rfl) (by decide) ?_
  unfold wX0_open at h
  refine gk_aload_n dX0_open_0 rfl ?_
  refine gk_iload_n dX0_open_1 rfl ?_
  refine gk_puti dX0_open_2 rfl rfl wfX0_22 wpX0_4 rfl rfl ?_
  refine gk_nmS (fun S2 eS2 => ?_)
  replace h := h S2 eS2
  refine gk_aload_n dX0_open_5 rfl ?_
  refine gk_aload_n dX0_open_6 rfl ?_
  refine gk_getr dX0_open_7 rfl rfl wfX0_34 ?_
  refine gk_getr dX0_open_10 rfl rfl wfX0_38 ?_
  refine gk_geti dX0_open_13 rfl rfl wfX0_44 ?_
  refine gk_puti dX0_open_16 rfl rfl wfX0_18 wpX0_3 rfl rfl ?_
  refine gk_nmS (fun S16 eS16 => ?_)
  replace h := h S16 eS16
  refine gk_aload_n dX0_open_19 rfl ?_
  refine gk_getr dX0_open_20 rfl rfl wfX0_15 ?_
  refine gk_aload_n dX0_open_23 rfl ?_
  refine gk_geti dX0_open_24 rfl rfl wfX0_18 ?_
  refine gk_iconst (v := 0) dX0_open_27 rfl ?_
  refine gk_iastore dX0_open_28 rfl h.1 ?_
  replace h := h.2
  refine gk_nmS (fun S28 eS28 => ?_)
  replace h := h S28 eS28
  refine gk_aload_n dX0_open_29 rfl ?_
  refine gk_geti dX0_open_30 rfl rfl wfX0_18 ?_
  refine gk_iconst (v := 1) dX0_open_33 rfl ?_
  refine gk_isub dX0_open_34 ?_
  refine gk_nmi (fun v2_35 ev2_35 => ?_)
  replace h := h v2_35 ev2_35
  refine gk_istore_n dX0_open_35 (Nat.le_of_ble_eq_true rfl) rfl rfl ?_
  obtain ⟨m36, h⟩ := h
  exact gk_less (gz_le_s rfl (gz_le_n (gz_le_s rfl gz_le_0))) (oX0_open_36 m36 _ _ h)
set_option maxHeartbeats 4000000 in
set_option maxRecDepth 100000 in
theorem ctX7_secret {E : gz_E} {x1 : Int32} {x2 : Int32} {S : gz_S} {Q : Int32 → gz_S → Prop} (h : wX7_secret x1 x2 S Q) : gz_m E mX7_secret 13 0 0 [.ref 0, .int x1, .int x2] gz_F S (gz_qi Q) := by
  refine gz_meet0 (L0 := [some (.ref 0), some (.int x1), some (.int x2)]) (by decide) rfl (Nat.le_of_ble_eq_true rfl) (by decide) ?_
  unfold wX7_secret at h
  refine gk_iload_n dX7_secret_0 rfl ?_
  refine gk_sipush (v := (-999)) dX7_secret_1 rfl ?_
  refine gk_sipush (v := 999) dX7_secret_4 rfl ?_
  refine gk_callS (as := [_, _, _]) (rest := []) (ctX7_within h) dX7_secret_7 wvX7_62 wcX7_within rfl (Nat.le_of_ble_eq_true rfl) ⟨Nat.le_refl _, Nat.le_refl _⟩ (fun h9 => absurd rfl h9) (Nat.le_of_ble_eq_true rfl) rfl (fun v G2 S7 hq => ?_)
  obtain ⟨rfl, r7, rfl, h⟩ := hq
  refine gk_if_eq (tgt := 22) dX7_secret_10 (by decide) (fun c10 => ?_) (fun c10 => ?_)
  · replace h := h.1 c10
    refine gk_bipush (v := (-2)) dX7_secret_22 rfl ?_
    exact gk_iret dX7_secret_24 rfl rfl rfl rfl ⟨rfl, _, rfl, h⟩
  · replace h := h.2 c10
    refine gk_iload_n dX7_secret_13 rfl ?_
    refine gk_iconst (v := 0) dX7_secret_14 rfl ?_
    refine gk_iconst (v := 2) dX7_secret_15 rfl ?_
    refine gk_callS (as := [_, _, _]) (rest := []) (ctX7_within h) dX7_secret_16 wvX7_62 wcX7_within rfl (Nat.le_of_ble_eq_true rfl) ⟨Nat.le_refl _, Nat.le_refl _⟩ (fun h9 => absurd rfl h9) (Nat.le_of_ble_eq_true rfl) rfl (fun v G2 S16 hq => ?_)
    obtain ⟨rfl, r16, rfl, h⟩ := hq
    refine gk_if_ne (tgt := 25) dX7_secret_19 (by decide) (fun c19 => ?_) (fun c19 => ?_)
    · replace h := h.1 c19
      refine gk_aload_n dX7_secret_25 rfl ?_
      refine gk_getr dX7_secret_26 rfl rfl wfX7_47 ?_
      refine gk_iload_n dX7_secret_29 rfl ?_
      refine gk_callV (as := [_]) (rest := []) (ctX0_open h) dX7_secret_30 rfl rfl wvX7_206 wcX0_open rfl (Nat.le_of_ble_eq_true rfl) ⟨Nat.le_refl _, Nat.le_refl _⟩ (fun h9 => absurd rfl h9) (Nat.le_of_ble_eq_true rfl) rfl (fun v G2 S30 hq => ?_)
      obtain ⟨rfl, rfl, h⟩ := hq
      refine gk_iload_n dX7_secret_33 rfl ?_
      refine gk_if_ne (tgt := 45) dX7_secret_34 (by decide) (fun c34 => ?_) (fun c34 => ?_)
      · replace h := h.1 c34
        refine gk_iload_n dX7_secret_45 rfl ?_
        refine gk_iconst (v := 1) dX7_secret_46 rfl ?_
        refine gk_icmp_ne (tgt := 60) dX7_secret_47 (by decide) (fun c47 => ?_) (fun c47 => ?_)
        · replace h := h.1 c47
          refine gk_aload_n dX7_secret_60 rfl ?_
          refine gk_getr dX7_secret_61 rfl rfl wfX7_47 ?_
          refine gk_geti dX7_secret_64 rfl rfl wfX7_215 ?_
          exact gk_iret dX7_secret_67 rfl rfl rfl rfl ⟨rfl, _, rfl, h⟩
        · replace h := h.2 c47
          refine gk_aload_n dX7_secret_50 rfl ?_
          refine gk_getr dX7_secret_51 rfl rfl wfX7_47 ?_
          refine gk_geti dX7_secret_54 rfl rfl wfX7_212 ?_
          refine gk_goto (tgt := 67) dX7_secret_57 (by decide) ?_
          exact gk_iret dX7_secret_67 rfl rfl rfl rfl ⟨rfl, _, rfl, h⟩
      · replace h := h.2 c34
        refine gk_aload_n dX7_secret_37 rfl ?_
        refine gk_getr dX7_secret_38 rfl rfl wfX7_47 ?_
        refine gk_geti dX7_secret_41 rfl rfl wfX7_209 ?_
        exact gk_iret dX7_secret_44 rfl rfl rfl rfl ⟨rfl, _, rfl, h⟩
    · replace h := h.2 c19
      refine gk_bipush (v := (-2)) dX7_secret_22 rfl ?_
      exact gk_iret dX7_secret_24 rfl rfl rfl rfl ⟨rfl, _, rfl, h⟩
set_option maxHeartbeats 4000000 in
set_option maxRecDepth 100000 in
theorem oX8_secretOf_168 {E : gz_E} {k44 : Int32 → Int32 → Int32 → Int32 → Int32 → Int32 → Int32 → gz_S → Prop} {k66 : Int32 → Int32 → Int32 → Int32 → Int32 → Int32 → Int32 → Int32 → Int32 → Int32 → Int32 → Int32 → gz_S → Prop} {Q : Int32 → gz_S → Prop} (hk44 : ∀ (x1 : Int32) (x2 : Int32) (x3 : Int32) (x4 : Int32) (x5 : Int32) (x6 : Int32) (x7 : Int32) (S : gz_S), k44 x1 x2 x3 x4 x5 x6 x7 S → gz_k E mX8_secretOf (1, 0, 0, 73) 0 0 44 [some (.ref 45), some (.int x1), some (.int x2), some (.int x3), some (.int x4), some (.int x5), some (.int x6), some (.int x7), none, none, none, none, none, none, none] [] gz_F S (gz_qi Q)) (hk66 : ∀ (x1 : Int32) (x2 : Int32) (x3 : Int32) (x4 : Int32) (x5 : Int32) (x6 : Int32) (x7 : Int32) (x8 : Int32) (x9 : Int32) (x10 : Int32) (x11 : Int32) (x12 : Int32) (S : gz_S), k66 x1 x2 x3 x4 x5 x6 x7 x8 x9 x10 x11 x12 S → gz_k E mX8_secretOf (1, 0, 0, 73) 0 0 66 [some (.ref 45), some (.int x1), some (.int x2), some (.int x3), some (.int x4), some (.int x5), some (.int x6), some (.int x7), some (.int x8), some (.int x9), some (.int x10), some (.int x11), some (.int x12), none, none] [] gz_F S (gz_qi Q)) : ∀ (x1 : Int32) (x2 : Int32) (x3 : Int32) (x4 : Int32) (x5 : Int32) (x6 : Int32) (x7 : Int32) (x8 : Int32) (x9 : Int32) (x10 : Int32) (x12 : Int32) (t0 : Int32) (t1 : Int32) (S : gz_S), wX8_secretOf_168 k44 k66 Q x1 x2 x3 x4 x5 x6 x7 x8 x9 x10 x12 t0 t1 S → gz_k E mX8_secretOf (1, 0, 0, 73) 0 0 168 [some (.ref 45), some (.int x1), some (.int x2), some (.int x3), some (.int x4), some (.int x5), some (.int x6), some (.int x7), some (.int x8), some (.int x9), some (.int x10), none, some (.int x12), none, none] [.int t1, .int t0] gz_F S (gz_qi Q) := by
  intro x1 x2 x3 x4 x5 x6 x7 x8 x9 x10 x12 t0 t1 S h
  unfold wX8_secretOf_168 at h
  refine gk_ior dX8_secretOf_168 ?_
  refine gk_nmi (fun v11_169 ev11_169 => ?_)
  replace h := h v11_169 ev11_169
  refine gk_istore dX8_secretOf_169 (Nat.le_of_ble_eq_true rfl) rfl rfl ?_
  refine gk_iinc dX8_secretOf_171 rfl (Nat.le_of_ble_eq_true rfl) rfl rfl rfl ?_
  refine gk_goto (tgt := 66) dX8_secretOf_174 (by decide) ?_
  exact gk_less (gz_le_s rfl (gz_le_s rfl (gz_le_s rfl (gz_le_s rfl (gz_le_s rfl (gz_le_s rfl (gz_le_s rfl (gz_le_s rfl (gz_le_s rfl (gz_le_s rfl (gz_le_s rfl (gz_le_s rfl (gz_le_s rfl (gz_le_n (gz_le_n gz_le_0))))))))))))))) (hk66 _ _ _ _ _ _ _ _ _ _ _ _ _ h)
