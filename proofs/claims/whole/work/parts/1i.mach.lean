set_option maxHeartbeats 4000000 in
set_option maxRecDepth 100000 in
theorem oX8_digest_120 {E : gz_E} {Q : Int64 → gz_S → Prop} : ∀ (n : Nat) (x1 : Int64) (x3 : Int32) (S : gz_S), wX8_digest_120 Q n x1 x3 S → gz_k E mX8_digest (6, 0, 0, 73) 0 0 120 [some (.ref 45), some (.long x1), none, some (.int x3), none] [] gz_F S (gz_ql Q) := by
  intro n
  induction n with
  | zero =>
    intro x1 x3 S h
    exact h.elim
  | succ n ih =>
    intro x1 x3 S h
    unfold wX8_digest_120 at h
    refine gk_iload_n dX8_digest_120 rfl ?_
    refine gk_aload_n dX8_digest_121 rfl ?_
    refine gk_geti dX8_digest_122 rfl rfl wfX8_137 ?_
    refine gk_icmp_ge (tgt := 164) dX8_digest_125 (by decide) (fun c125 => ?_) (fun c125 => ?_)
    · replace h := h.1 c125
      refine gk_iconst (v := 0) dX8_digest_164 rfl ?_
      refine gk_istore_n dX8_digest_165 (Nat.le_of_ble_eq_true rfl) rfl rfl ?_
      obtain ⟨m166, h⟩ := h
      exact gk_less (gz_le_s rfl (gz_le_s rfl (gz_le_n (gz_le_s rfl (gz_le_n gz_le_0))))) (oX8_digest_166 m166 _ _ _ h)
    · replace h := h.2 c125
      refine gk_iconst (v := 0) dX8_digest_128 rfl ?_
      refine gk_istore dX8_digest_129 (Nat.le_of_ble_eq_true rfl) rfl rfl ?_
      obtain ⟨m131, h⟩ := h
      exact gk_less (gz_le_s rfl (gz_le_s rfl (gz_le_n (gz_le_s rfl (gz_le_s rfl gz_le_0))))) (oX8_digest_131 (fun y0 y1 S h => ih y0 y1 S h) m131 _ _ _ _ h)
set_option maxHeartbeats 4000000 in
set_option maxRecDepth 100000 in
theorem oX8_digest_85 {E : gz_E} {k74 : Int64 → Int32 → gz_S → Prop} {Q : Int64 → gz_S → Prop} (hk74 : ∀ (x1 : Int64) (x3 : Int32) (S : gz_S), k74 x1 x3 S → gz_k E mX8_digest (6, 0, 0, 73) 0 0 74 [some (.ref 45), some (.long x1), none, some (.int x3), none] [] gz_F S (gz_ql Q)) : ∀ (n : Nat) (x1 : Int64) (x3 : Int32) (x4 : Int32) (S : gz_S), wX8_digest_85 k74 Q n x1 x3 x4 S → gz_k E mX8_digest (6, 0, 0, 73) 0 0 85 [some (.ref 45), some (.long x1), none, some (.int x3), some (.int x4)] [] gz_F S (gz_ql Q) := by
  intro n
  induction n with
  | zero =>
    intro x1 x3 x4 S h
    exact h.elim
  | succ n ih =>
    intro x1 x3 x4 S h
    unfold wX8_digest_85 at h
    refine gk_iload dX8_digest_85 rfl ?_
    refine gk_iconst (v := 3) dX8_digest_87 rfl ?_
    refine gk_icmp_ge (tgt := 112) dX8_digest_88 (by decide) (fun c88 => ?_) (fun c88 => ?_)
    · replace h := h.1 c88
      refine gk_iinc dX8_digest_112 rfl (Nat.le_of_ble_eq_true rfl) rfl rfl rfl ?_
      refine gk_goto (tgt := 74) dX8_digest_115 (by decide) ?_
      exact gk_less (gz_le_s rfl (gz_le_s rfl (gz_le_n (gz_le_s rfl (gz_le_n gz_le_0))))) (hk74 _ _ _ h)
    · replace h := h.2 c88
      refine gk_ldc2 dX8_digest_91 wkX8_283 ?_
      refine gk_lload_n dX8_digest_94 rfl ?_
      refine gk_lmul dX8_digest_95 ?_
      refine gk_aload_n dX8_digest_96 rfl ?_
      refine gk_iload_n dX8_digest_97 rfl ?_
      refine gk_iload dX8_digest_98 rfl ?_
      refine gk_callV (as := [_, _]) (rest := [_]) (ctX8_personOf h) dX8_digest_100 rfl rfl wvX8_190 wcX8_personOf rfl (Nat.le_of_ble_eq_true rfl) ⟨Nat.le_refl _, Nat.le_refl _⟩ (fun h9 => absurd rfl h9) (Nat.le_of_ble_eq_true rfl) rfl (fun v G2 S100 hq => ?_)
      obtain ⟨rfl, r100, rfl, h⟩ := hq
      refine gk_i2l dX8_digest_103 ?_
      refine gk_ladd dX8_digest_104 ?_
      refine gk_nml (fun v1_105 ev1_105 => ?_)
      replace h := h v1_105 ev1_105
      refine gk_lstore_n dX8_digest_105 (Nat.le_of_ble_eq_true rfl) rfl rfl ?_
      refine gk_iinc dX8_digest_106 rfl (Nat.le_of_ble_eq_true rfl) rfl rfl rfl ?_
      refine gk_goto (tgt := 85) dX8_digest_109 (by decide) ?_
      exact gk_less (gz_le_s rfl (gz_le_s rfl (gz_le_n (gz_le_s rfl (gz_le_s rfl gz_le_0))))) (ih _ _ _ _ h)
set_option maxHeartbeats 4000000 in
set_option maxRecDepth 100000 in
theorem oX8_digest_74 {E : gz_E} {Q : Int64 → gz_S → Prop} : ∀ (n : Nat) (x1 : Int64) (x3 : Int32) (S : gz_S), wX8_digest_74 Q n x1 x3 S → gz_k E mX8_digest (6, 0, 0, 73) 0 0 74 [some (.ref 45), some (.long x1), none, some (.int x3), none] [] gz_F S (gz_ql Q) := by
  intro n
  induction n with
  | zero =>
    intro x1 x3 S h
    exact h.elim
  | succ n ih =>
    intro x1 x3 S h
    unfold wX8_digest_74 at h
    refine gk_iload_n dX8_digest_74 rfl ?_
    refine gk_aload_n dX8_digest_75 rfl ?_
    refine gk_geti dX8_digest_76 rfl rfl wfX8_129 ?_
    refine gk_icmp_ge (tgt := 118) dX8_digest_79 (by decide) (fun c79 => ?_) (fun c79 => ?_)
    · replace h := h.1 c79
      refine gk_iconst (v := 0) dX8_digest_118 rfl ?_
      refine gk_istore_n dX8_digest_119 (Nat.le_of_ble_eq_true rfl) rfl rfl ?_
      obtain ⟨m120, h⟩ := h
      exact gk_less (gz_le_s rfl (gz_le_s rfl (gz_le_n (gz_le_s rfl (gz_le_n gz_le_0))))) (oX8_digest_120 m120 _ _ _ h)
    · replace h := h.2 c79
      refine gk_iconst (v := 0) dX8_digest_82 rfl ?_
      refine gk_istore dX8_digest_83 (Nat.le_of_ble_eq_true rfl) rfl rfl ?_
      obtain ⟨m85, h⟩ := h
      exact gk_less (gz_le_s rfl (gz_le_s rfl (gz_le_n (gz_le_s rfl (gz_le_s rfl gz_le_0))))) (oX8_digest_85 (fun y0 y1 S h => ih y0 y1 S h) m85 _ _ _ _ h)
set_option maxHeartbeats 4000000 in
set_option maxRecDepth 100000 in
theorem oX8_digest_6 {E : gz_E} {Q : Int64 → gz_S → Prop} : ∀ (n : Nat) (x1 : Int64) (x3 : Int32) (S : gz_S), wX8_digest_6 Q n x1 x3 S → gz_k E mX8_digest (6, 0, 0, 73) 0 0 6 [some (.ref 45), some (.long x1), none, some (.int x3), none] [] gz_F S (gz_ql Q) := by
  intro n
  induction n with
  | zero =>
    intro x1 x3 S h
    exact h.elim
  | succ n ih =>
    intro x1 x3 S h
    unfold wX8_digest_6 at h
    refine gk_iload_n dX8_digest_6 rfl ?_
    refine gk_bipush (v := 8) dX8_digest_7 rfl ?_
    refine gk_icmp_ge (tgt := 31) dX8_digest_9 (by decide) (fun c9 => ?_) (fun c9 => ?_)
    · replace h := h.1 c9
      refine gk_ldc2 dX8_digest_31 wkX8_283 ?_
      refine gk_lload_n dX8_digest_34 rfl ?_
      refine gk_lmul dX8_digest_35 ?_
      refine gk_aload_n dX8_digest_36 rfl ?_
      refine gk_callV (as := []) (rest := [_]) (ctX8_readsPeople h) dX8_digest_37 rfl rfl wvX8_140 wcX8_readsPeople rfl (Nat.le_of_ble_eq_true rfl) ⟨Nat.le_refl _, Nat.le_refl _⟩ (fun h9 => absurd rfl h9) (Nat.le_of_ble_eq_true rfl) rfl (fun v G2 S37 hq => ?_)
      obtain ⟨rfl, r37, rfl, h⟩ := hq
      refine gk_i2l dX8_digest_40 ?_
      refine gk_ladd dX8_digest_41 ?_
      refine gk_nml (fun v1_42 ev1_42 => ?_)
      replace h := h v1_42 ev1_42
      refine gk_lstore_n dX8_digest_42 (Nat.le_of_ble_eq_true rfl) rfl rfl ?_
      refine gk_ldc2 dX8_digest_43 wkX8_283 ?_
      refine gk_lload_n dX8_digest_46 rfl ?_
      refine gk_lmul dX8_digest_47 ?_
      refine gk_aload_n dX8_digest_48 rfl ?_
      refine gk_callV (as := []) (rest := [_]) (ctX8_readsStones h) dX8_digest_49 rfl rfl wvX8_144 wcX8_readsStones rfl (Nat.le_of_ble_eq_true rfl) ⟨Nat.le_refl _, Nat.le_refl _⟩ (fun h9 => absurd rfl h9) (Nat.le_of_ble_eq_true rfl) rfl (fun v G2 S49 hq => ?_)
      obtain ⟨rfl, r49, rfl, h⟩ := hq
      refine gk_i2l dX8_digest_52 ?_
      refine gk_ladd dX8_digest_53 ?_
      refine gk_nml (fun v1_54 ev1_54 => ?_)
      replace h := h v1_54 ev1_54
      refine gk_lstore_n dX8_digest_54 (Nat.le_of_ble_eq_true rfl) rfl rfl ?_
      refine gk_aload_n dX8_digest_55 rfl ?_
      refine gk_iconst (v := (-1)) dX8_digest_56 rfl ?_
      refine gk_callV (as := [_]) (rest := []) (ctX8_goes h) dX8_digest_57 rfl rfl wvX8_186 wcX8_goes rfl (Nat.le_of_ble_eq_true rfl) ⟨Nat.le_refl _, Nat.le_refl _⟩ (fun h9 => absurd rfl h9) (Nat.le_of_ble_eq_true rfl) rfl (fun v G2 S57 hq => ?_)
      obtain ⟨rfl, rfl, h⟩ := hq
      refine gk_ldc2 dX8_digest_60 wkX8_283 ?_
      refine gk_lload_n dX8_digest_63 rfl ?_
      refine gk_lmul dX8_digest_64 ?_
      refine gk_aload_n dX8_digest_65 rfl ?_
      refine gk_geti dX8_digest_66 rfl rfl wfX8_176 ?_
      refine gk_i2l dX8_digest_69 ?_
      refine gk_ladd dX8_digest_70 ?_
      refine gk_nml (fun v1_71 ev1_71 => ?_)
      replace h := h v1_71 ev1_71
      refine gk_lstore_n dX8_digest_71 (Nat.le_of_ble_eq_true rfl) rfl rfl ?_
      refine gk_iconst (v := 0) dX8_digest_72 rfl ?_
      refine gk_istore_n dX8_digest_73 (Nat.le_of_ble_eq_true rfl) rfl rfl ?_
      obtain ⟨m74, h⟩ := h
      exact gk_less (gz_le_s rfl (gz_le_s rfl (gz_le_n (gz_le_s rfl (gz_le_n gz_le_0))))) (oX8_digest_74 m74 _ _ _ h)
    · replace h := h.2 c9
      refine gk_ldc2 dX8_digest_12 wkX8_283 ?_
      refine gk_lload_n dX8_digest_15 rfl ?_
      refine gk_lmul dX8_digest_16 ?_
      refine gk_aload_n dX8_digest_17 rfl ?_
      refine gk_iload_n dX8_digest_18 rfl ?_
      refine gk_callV (as := [_]) (rest := [_]) (ctX8_count h) dX8_digest_19 rfl rfl wvX8_285 wcX8_count rfl (Nat.le_of_ble_eq_true rfl) ⟨Nat.le_refl _, Nat.le_refl _⟩ (fun h9 => absurd rfl h9) (Nat.le_of_ble_eq_true rfl) rfl (fun v G2 S19 hq => ?_)
      obtain ⟨rfl, r19, rfl, h⟩ := hq
      refine gk_i2l dX8_digest_22 ?_
      refine gk_ladd dX8_digest_23 ?_
      refine gk_nml (fun v1_24 ev1_24 => ?_)
      replace h := h v1_24 ev1_24
      refine gk_lstore_n dX8_digest_24 (Nat.le_of_ble_eq_true rfl) rfl rfl ?_
      refine gk_iinc dX8_digest_25 rfl (Nat.le_of_ble_eq_true rfl) rfl rfl rfl ?_
      refine gk_goto (tgt := 6) dX8_digest_28 (by decide) ?_
      exact gk_less (gz_le_s rfl (gz_le_s rfl (gz_le_n (gz_le_s rfl (gz_le_n gz_le_0))))) (ih _ _ _ h)
set_option maxHeartbeats 4000000 in
set_option maxRecDepth 100000 in
theorem ctX8_digest {E : gz_E} {S : gz_S} {Q : Int64 → gz_S → Prop} (h : wX8_digest S Q) : gz_m E mX8_digest 6 0 0 [.ref 45] gz_F S (gz_ql Q) := by
  refine gz_meet0 (L0 := [some (.ref 45), none, none, none, none]) (by decide) rfl (Nat.le_of_ble_eq_true rfl) (by decide) ?_
  unfold wX8_digest at h
  refine gk_ldc2 dX8_digest_0 wkX8_281 ?_
  refine gk_lstore_n dX8_digest_3 (Nat.le_of_ble_eq_true rfl) rfl rfl ?_
  refine gk_iconst (v := 0) dX8_digest_4 rfl ?_
  refine gk_istore_n dX8_digest_5 (Nat.le_of_ble_eq_true rfl) rfl rfl ?_
  obtain ⟨m6, h⟩ := h
  exact gk_less (gz_le_s rfl (gz_le_s rfl (gz_le_n (gz_le_s rfl (gz_le_n gz_le_0))))) (oX8_digest_6 m6 _ _ _ h)
set_option maxHeartbeats 4000000 in
set_option maxRecDepth 100000 in
theorem oL_law_1137 {E : gz_E} {k18 : Int32 → gz_S → Prop} {Q : Int32 → gz_S → Prop} (hk18 : ∀ (x3 : Int32) (S : gz_S), k18 x3 S → gz_k E mL_law (16, 73, 2886, 0) 73 2886 18 [some (.float 0), some (.ref 0), some (.ref 45), some (.int x3)] [] gz_F S (gz_qi Q)) : ∀ (x3 : Int32) (S : gz_S), wL_law_1137 (gz_L E) (gz_xs E) k18 Q x3 S → gz_k E mL_law (16, 73, 2886, 0) 73 2886 1137 [some (.float 0), some (.ref 0), some (.ref 45), some (.int x3)] [] gz_F S (gz_qi Q) := by
  intro x3 S h
  unfold wL_law_1137 at h
  refine gk_iinc dL_law_1137 rfl (Nat.le_of_ble_eq_true rfl) rfl rfl rfl ?_
  refine gk_goto (tgt := 18) dL_law_1140 (by decide) ?_
  exact gk_less (gz_le_s rfl (gz_le_s rfl (gz_le_s rfl (gz_le_s rfl gz_le_0)))) (hk18 _ _ h)
set_option maxHeartbeats 4000000 in
set_option maxRecDepth 100000 in
theorem oL_law_18 {E : gz_E} {Q : Int32 → gz_S → Prop} : ∀ (n : Nat) (x3 : Int32) (S : gz_S), wL_law_18 (gz_L E) (gz_xs E) Q n x3 S → gz_k E mL_law (16, 73, 2886, 0) 73 2886 18 [some (.float 0), some (.ref 0), some (.ref 45), some (.int x3)] [] gz_F S (gz_qi Q) := by
  intro n
  induction n with
  | zero =>
    intro x3 S h
    exact h.elim
  | succ n ih =>
    intro x3 S h
    unfold wL_law_18 at h
    refine gk_iload_n dL_law_18 rfl ?_
    refine gk_sload_n dL_law_19 rfl ?_
    refine gk_slen dL_law_20 rfl rfl ?_
    refine gk_bipush (v := 6) dL_law_21 rfl ?_
    refine gk_isub dL_law_23 ?_
    refine gk_icmp_gt (tgt := 1143) dL_law_24 (by decide) (fun c24 => ?_) (fun c24 => ?_)
    · replace h := h.1 c24
      refine gk_iconst (v := 1) dL_law_1143 rfl ?_
      exact gk_iret dL_law_1144 rfl rfl rfl rfl ⟨rfl, _, rfl, h⟩
    · replace h := h.2 c24
      refine gk_sload_n dL_law_27 rfl ?_
      refine gk_iload_n dL_law_28 rfl ?_
      refine gk_sld dL_law_29 rfl h.1 ?_
      replace h := h.2
      refine gk_bipush (v := 63) dL_law_30 rfl ?_
      refine gk_iand dL_law_32 ?_
      have hc33 : (((gz_xs E x3.toNatClampNeg) &&& 63).toInt < 0 ∨ 33 < ((gz_xs E x3.toNatClampNeg) &&& 63).toInt) ∨ ((gz_xs E x3.toNatClampNeg) &&& 63).toInt = 0 ∨ ((gz_xs E x3.toNatClampNeg) &&& 63).toInt = 1 ∨ ((gz_xs E x3.toNatClampNeg) &&& 63).toInt = 2 ∨ ((gz_xs E x3.toNatClampNeg) &&& 63).toInt = 3 ∨ ((gz_xs E x3.toNatClampNeg) &&& 63).toInt = 4 ∨ ((gz_xs E x3.toNatClampNeg) &&& 63).toInt = 5 ∨ ((gz_xs E x3.toNatClampNeg) &&& 63).toInt = 6 ∨ ((gz_xs E x3.toNatClampNeg) &&& 63).toInt = 7 ∨ ((gz_xs E x3.toNatClampNeg) &&& 63).toInt = 8 ∨ ((gz_xs E x3.toNatClampNeg) &&& 63).toInt = 9 ∨ ((gz_xs E x3.toNatClampNeg) &&& 63).toInt = 10 ∨ ((gz_xs E x3.toNatClampNeg) &&& 63).toInt = 11 ∨ ((gz_xs E x3.toNatClampNeg) &&& 63).toInt = 12 ∨ ((gz_xs E x3.toNatClampNeg) &&& 63).toInt = 13 ∨ ((gz_xs E x3.toNatClampNeg) &&& 63).toInt = 14 ∨ ((gz_xs E x3.toNatClampNeg) &&& 63).toInt = 15 ∨ ((gz_xs E x3.toNatClampNeg) &&& 63).toInt = 16 ∨ ((gz_xs E x3.toNatClampNeg) &&& 63).toInt = 17 ∨ ((gz_xs E x3.toNatClampNeg) &&& 63).toInt = 18 ∨ ((gz_xs E x3.toNatClampNeg) &&& 63).toInt = 19 ∨ ((gz_xs E x3.toNatClampNeg) &&& 63).toInt = 20 ∨ ((gz_xs E x3.toNatClampNeg) &&& 63).toInt = 21 ∨ ((gz_xs E x3.toNatClampNeg) &&& 63).toInt = 22 ∨ ((gz_xs E x3.toNatClampNeg) &&& 63).toInt = 23 ∨ ((gz_xs E x3.toNatClampNeg) &&& 63).toInt = 24 ∨ ((gz_xs E x3.toNatClampNeg) &&& 63).toInt = 25 ∨ ((gz_xs E x3.toNatClampNeg) &&& 63).toInt = 26 ∨ ((gz_xs E x3.toNatClampNeg) &&& 63).toInt = 27 ∨ ((gz_xs E x3.toNatClampNeg) &&& 63).toInt = 28 ∨ ((gz_xs E x3.toNatClampNeg) &&& 63).toInt = 29 ∨ ((gz_xs E x3.toNatClampNeg) &&& 63).toInt = 30 ∨ ((gz_xs E x3.toNatClampNeg) &&& 63).toInt = 31 ∨ ((gz_xs E x3.toNatClampNeg) &&& 63).toInt = 32 ∨ ((gz_xs E x3.toNatClampNeg) &&& 63).toInt = 33 := by omega
      rcases hc33 with hc | hc | hc | hc | hc | hc | hc | hc | hc | hc | hc | hc | hc | hc | hc | hc | hc | hc | hc | hc | hc | hc | hc | hc | hc | hc | hc | hc | hc | hc | hc | hc | hc | hc | hc
      · replace h := h.1 hc
        refine gk_tableOut (tgt := 1137) dL_law_33 hc (by decide) ?_
        exact gk_less (gz_le_s rfl (gz_le_s rfl (gz_le_s rfl (gz_le_s rfl gz_le_0)))) (oL_law_1137 (fun y0 S h => ih y0 S h) _ _ h)
      · replace h := h.2.1 hc
        refine gk_tableIn (off := 151) (tgt := 184) dL_law_33 (by omega) (by omega) (by rw [hc]; rfl) (by decide) ?_
        refine gk_aload_n dL_law_184 rfl ?_
        refine gk_sload_n dL_law_185 rfl ?_
        refine gk_iload_n dL_law_186 rfl ?_
        refine gk_iconst (v := 1) dL_law_187 rfl ?_
        refine gk_iadd dL_law_188 ?_
        refine gk_sld dL_law_189 rfl h.1 ?_
        replace h := h.2
        refine gk_sload_n dL_law_190 rfl ?_
        refine gk_iload_n dL_law_191 rfl ?_
        refine gk_iconst (v := 2) dL_law_192 rfl ?_
        refine gk_iadd dL_law_193 ?_
        refine gk_sld dL_law_194 rfl h.1 ?_
        replace h := h.2
        refine gk_callV (as := [_, _]) (rest := []) (ctX7_type h) dL_law_195 rfl rfl wvL_13 wcX7_type rfl (Nat.le_of_ble_eq_true rfl) ⟨Nat.le_refl _, Nat.le_refl _⟩ (fun h9 => absurd rfl h9) (Nat.le_of_ble_eq_true rfl) rfl (fun v G2 S195 hq => ?_)
        obtain ⟨rfl, r195, rfl, h⟩ := hq
        refine gk_aload_n dL_law_198 rfl ?_
        refine gk_sload_n dL_law_199 rfl ?_
        refine gk_iload_n dL_law_200 rfl ?_
        refine gk_iconst (v := 1) dL_law_201 rfl ?_
        refine gk_iadd dL_law_202 ?_
        refine gk_sld dL_law_203 rfl h.1 ?_
        replace h := h.2
        refine gk_sload_n dL_law_204 rfl ?_
        refine gk_iload_n dL_law_205 rfl ?_
        refine gk_iconst (v := 2) dL_law_206 rfl ?_
        refine gk_iadd dL_law_207 ?_
        refine gk_sld dL_law_208 rfl h.1 ?_
        replace h := h.2
        refine gk_callV (as := [_, _]) (rest := [_]) (ctX8_type h) dL_law_209 rfl rfl wvL_17 wcX8_type rfl (Nat.le_of_ble_eq_true rfl) ⟨Nat.le_refl _, Nat.le_refl _⟩ (fun h9 => absurd rfl h9) (Nat.le_of_ble_eq_true rfl) rfl (fun v G2 S209 hq => ?_)
        obtain ⟨rfl, r209, rfl, h⟩ := hq
        refine gk_icmp_eq (tgt := 1137) dL_law_212 (by decide) (fun c212 => ?_) (fun c212 => ?_)
        · replace h := h.1 c212
          exact gk_less (gz_le_s rfl (gz_le_s rfl (gz_le_s rfl (gz_le_s rfl gz_le_0)))) (oL_law_1137 (fun y0 S h => ih y0 S h) _ _ h)
        · replace h := h.2 c212
          refine gk_iconst (v := 0) dL_law_215 rfl ?_
          exact gk_iret dL_law_216 rfl rfl rfl rfl ⟨rfl, _, rfl, h⟩
      · replace h := h.2.2.1 hc
        refine gk_tableIn (off := 184) (tgt := 217) dL_law_33 (by omega) (by omega) (by rw [hc]; rfl) (by decide) ?_
        refine gk_aload_n dL_law_217 rfl ?_
        refine gk_sload_n dL_law_218 rfl ?_
        refine gk_iload_n dL_law_219 rfl ?_
        refine gk_iconst (v := 1) dL_law_220 rfl ?_
        refine gk_iadd dL_law_221 ?_
        refine gk_sld dL_law_222 rfl h.1 ?_
        replace h := h.2
        refine gk_callV (as := [_]) (rest := []) (ctX7_wipe h) dL_law_223 rfl rfl wvL_18 wcX7_wipe rfl (Nat.le_of_ble_eq_true rfl) ⟨Nat.le_refl _, Nat.le_refl _⟩ (fun h9 => absurd rfl h9) (Nat.le_of_ble_eq_true rfl) rfl (fun v G2 S223 hq => ?_)
        obtain ⟨rfl, r223, rfl, h⟩ := hq
        refine gk_aload_n dL_law_226 rfl ?_
        refine gk_sload_n dL_law_227 rfl ?_
        refine gk_iload_n dL_law_228 rfl ?_
        refine gk_iconst (v := 1) dL_law_229 rfl ?_
        refine gk_iadd dL_law_230 ?_
        refine gk_sld dL_law_231 rfl h.1 ?_
        replace h := h.2
        refine gk_callV (as := [_]) (rest := [_]) (ctX8_wipe h) dL_law_232 rfl rfl wvL_22 wcX8_wipe rfl (Nat.le_of_ble_eq_true rfl) ⟨Nat.le_refl _, Nat.le_refl _⟩ (fun h9 => absurd rfl h9) (Nat.le_of_ble_eq_true rfl) rfl (fun v G2 S232 hq => ?_)
        obtain ⟨rfl, r232, rfl, h⟩ := hq
        refine gk_icmp_eq (tgt := 1137) dL_law_235 (by decide) (fun c235 => ?_) (fun c235 => ?_)
        · replace h := h.1 c235
          exact gk_less (gz_le_s rfl (gz_le_s rfl (gz_le_s rfl (gz_le_s rfl gz_le_0)))) (oL_law_1137 (fun y0 S h => ih y0 S h) _ _ h)
        · replace h := h.2 c235
          refine gk_iconst (v := 0) dL_law_238 rfl ?_
          exact gk_iret dL_law_239 rfl rfl rfl rfl ⟨rfl, _, rfl, h⟩
      · replace h := h.2.2.2.1 hc
        refine gk_tableIn (off := 207) (tgt := 240) dL_law_33 (by omega) (by omega) (by rw [hc]; rfl) (by decide) ?_
        refine gk_aload_n dL_law_240 rfl ?_
        refine gk_sload_n dL_law_241 rfl ?_
        refine gk_iload_n dL_law_242 rfl ?_
        refine gk_iconst (v := 1) dL_law_243 rfl ?_
        refine gk_iadd dL_law_244 ?_
        refine gk_sld dL_law_245 rfl h.1 ?_
        replace h := h.2
        refine gk_callV (as := [_]) (rest := []) (ctX7_fault h) dL_law_246 rfl rfl wvL_23 wcX7_fault rfl (Nat.le_of_ble_eq_true rfl) ⟨Nat.le_refl _, Nat.le_refl _⟩ (fun h9 => absurd rfl h9) (Nat.le_of_ble_eq_true rfl) rfl (fun v G2 S246 hq => ?_)
        obtain ⟨rfl, r246, rfl, h⟩ := hq
        refine gk_aload_n dL_law_249 rfl ?_
        refine gk_sload_n dL_law_250 rfl ?_
        refine gk_iload_n dL_law_251 rfl ?_
        refine gk_iconst (v := 1) dL_law_252 rfl ?_
        refine gk_iadd dL_law_253 ?_
        refine gk_sld dL_law_254 rfl h.1 ?_
        replace h := h.2
        refine gk_callV (as := [_]) (rest := [_]) (ctX8_fault h) dL_law_255 rfl rfl wvL_26 wcX8_fault rfl (Nat.le_of_ble_eq_true rfl) ⟨Nat.le_refl _, Nat.le_refl _⟩ (fun h9 => absurd rfl h9) (Nat.le_of_ble_eq_true rfl) rfl (fun v G2 S255 hq => ?_)
        obtain ⟨rfl, r255, rfl, h⟩ := hq
        refine gk_icmp_eq (tgt := 1137) dL_law_258 (by decide) (fun c258 => ?_) (fun c258 => ?_)
        · replace h := h.1 c258
          exact gk_less (gz_le_s rfl (gz_le_s rfl (gz_le_s rfl (gz_le_s rfl gz_le_0)))) (oL_law_1137 (fun y0 S h => ih y0 S h) _ _ h)
        · replace h := h.2 c258
          refine gk_iconst (v := 0) dL_law_261 rfl ?_
          exact gk_iret dL_law_262 rfl rfl rfl rfl ⟨rfl, _, rfl, h⟩
      · replace h := h.2.2.2.2.1 hc
        refine gk_tableIn (off := 230) (tgt := 263) dL_law_33 (by omega) (by omega) (by rw [hc]; rfl) (by decide) ?_
        refine gk_aload_n dL_law_263 rfl ?_
        refine gk_sload_n dL_law_264 rfl ?_
        refine gk_iload_n dL_law_265 rfl ?_
        refine gk_iconst (v := 1) dL_law_266 rfl ?_
        refine gk_iadd dL_law_267 ?_
        refine gk_sld dL_law_268 rfl h.1 ?_
        replace h := h.2
        refine gk_sload_n dL_law_269 rfl ?_
        refine gk_iload_n dL_law_270 rfl ?_
        refine gk_iconst (v := 2) dL_law_271 rfl ?_
        refine gk_iadd dL_law_272 ?_
        refine gk_sld dL_law_273 rfl h.1 ?_
        replace h := h.2
        refine gk_callV (as := [_, _]) (rest := []) (ctX7_person h) dL_law_274 rfl rfl wvL_27 wcX7_person rfl (Nat.le_of_ble_eq_true rfl) ⟨Nat.le_refl _, Nat.le_refl _⟩ (fun h9 => absurd rfl h9) (Nat.le_of_ble_eq_true rfl) rfl (fun v G2 S274 hq => ?_)
        obtain ⟨rfl, r274, rfl, h⟩ := hq
        refine gk_aload_n dL_law_277 rfl ?_
        refine gk_sload_n dL_law_278 rfl ?_
        refine gk_iload_n dL_law_279 rfl ?_
        refine gk_iconst (v := 1) dL_law_280 rfl ?_
        refine gk_iadd dL_law_281 ?_
        refine gk_sld dL_law_282 rfl h.1 ?_
        replace h := h.2
        refine gk_sload_n dL_law_283 rfl ?_
        refine gk_iload_n dL_law_284 rfl ?_
        refine gk_iconst (v := 2) dL_law_285 rfl ?_
        refine gk_iadd dL_law_286 ?_
        refine gk_sld dL_law_287 rfl h.1 ?_
        replace h := h.2
        refine gk_callV (as := [_, _]) (rest := [_]) (ctX8_person h) dL_law_288 rfl rfl wvL_30 wcX8_person rfl (Nat.le_of_ble_eq_true rfl) ⟨Nat.le_refl _, Nat.le_refl _⟩ (fun h9 => absurd rfl h9) (Nat.le_of_ble_eq_true rfl) rfl (fun v G2 S288 hq => ?_)
        obtain ⟨rfl, r288, rfl, h⟩ := hq
        refine gk_icmp_eq (tgt := 1137) dL_law_291 (by decide) (fun c291 => ?_) (fun c291 => ?_)
        · replace h := h.1 c291
          exact gk_less (gz_le_s rfl (gz_le_s rfl (gz_le_s rfl (gz_le_s rfl gz_le_0)))) (oL_law_1137 (fun y0 S h => ih y0 S h) _ _ h)
        · replace h := h.2 c291
          refine gk_iconst (v := 0) dL_law_294 rfl ?_
          exact gk_iret dL_law_295 rfl rfl rfl rfl ⟨rfl, _, rfl, h⟩
      · replace h := h.2.2.2.2.2.1 hc
        refine gk_tableIn (off := 263) (tgt := 296) dL_law_33 (by omega) (by omega) (by rw [hc]; rfl) (by decide) ?_
        refine gk_aload_n dL_law_296 rfl ?_
        refine gk_sload_n dL_law_297 rfl ?_
        refine gk_iload_n dL_law_298 rfl ?_
        refine gk_iconst (v := 1) dL_law_299 rfl ?_
        refine gk_iadd dL_law_300 ?_
        refine gk_sld dL_law_301 rfl h.1 ?_
        replace h := h.2
        refine gk_sload_n dL_law_302 rfl ?_
        refine gk_iload_n dL_law_303 rfl ?_
        refine gk_iconst (v := 2) dL_law_304 rfl ?_
        refine gk_iadd dL_law_305 ?_
        refine gk_sld dL_law_306 rfl h.1 ?_
        replace h := h.2
        refine gk_callV (as := [_, _]) (rest := []) (ctX7_stone h) dL_law_307 rfl rfl wvL_31 wcX7_stone rfl (Nat.le_of_ble_eq_true rfl) ⟨Nat.le_refl _, Nat.le_refl _⟩ (fun h9 => absurd rfl h9) (Nat.le_of_ble_eq_true rfl) rfl (fun v G2 S307 hq => ?_)
        obtain ⟨rfl, r307, rfl, h⟩ := hq
        refine gk_aload_n dL_law_310 rfl ?_
        refine gk_sload_n dL_law_311 rfl ?_
        refine gk_iload_n dL_law_312 rfl ?_
        refine gk_iconst (v := 1) dL_law_313 rfl ?_
        refine gk_iadd dL_law_314 ?_
        refine gk_sld dL_law_315 rfl h.1 ?_
        replace h := h.2
        refine gk_sload_n dL_law_316 rfl ?_
        refine gk_iload_n dL_law_317 rfl ?_
        refine gk_iconst (v := 2) dL_law_318 rfl ?_
        refine gk_iadd dL_law_319 ?_
        refine gk_sld dL_law_320 rfl h.1 ?_
        replace h := h.2
        refine gk_callV (as := [_, _]) (rest := [_]) (ctX8_stone h) dL_law_321 rfl rfl wvL_34 wcX8_stone rfl (Nat.le_of_ble_eq_true rfl) ⟨Nat.le_refl _, Nat.le_refl _⟩ (fun h9 => absurd rfl h9) (Nat.le_of_ble_eq_true rfl) rfl (fun v G2 S321 hq => ?_)
        obtain ⟨rfl, r321, rfl, h⟩ := hq
        refine gk_icmp_eq (tgt := 1137) dL_law_324 (by decide) (fun c324 => ?_) (fun c324 => ?_)
        · replace h := h.1 c324
          exact gk_less (gz_le_s rfl (gz_le_s rfl (gz_le_s rfl (gz_le_s rfl gz_le_0)))) (oL_law_1137 (fun y0 S h => ih y0 S h) _ _ h)
        · replace h := h.2 c324
          refine gk_iconst (v := 0) dL_law_327 rfl ?_
          exact gk_iret dL_law_328 rfl rfl rfl rfl ⟨rfl, _, rfl, h⟩
      · replace h := h.2.2.2.2.2.2.1 hc
        refine gk_tableIn (off := 296) (tgt := 329) dL_law_33 (by omega) (by omega) (by rw [hc]; rfl) (by decide) ?_
        refine gk_aload_n dL_law_329 rfl ?_
        refine gk_sload_n dL_law_330 rfl ?_
        refine gk_iload_n dL_law_331 rfl ?_
        refine gk_iconst (v := 1) dL_law_332 rfl ?_
        refine gk_iadd dL_law_333 ?_
        refine gk_sld dL_law_334 rfl h.1 ?_
        replace h := h.2
        refine gk_sload_n dL_law_335 rfl ?_
        refine gk_iload_n dL_law_336 rfl ?_
        refine gk_iconst (v := 2) dL_law_337 rfl ?_
        refine gk_iadd dL_law_338 ?_
        refine gk_sld dL_law_339 rfl h.1 ?_
        replace h := h.2
        refine gk_callV (as := [_, _]) (rest := []) (ctX7_set h) dL_law_340 rfl rfl wvL_35 wcX7_set rfl (Nat.le_of_ble_eq_true rfl) ⟨Nat.le_refl _, Nat.le_refl _⟩ (fun h9 => absurd rfl h9) (Nat.le_of_ble_eq_true rfl) rfl (fun v G2 S340 hq => ?_)
        obtain ⟨rfl, r340, rfl, h⟩ := hq
        refine gk_aload_n dL_law_343 rfl ?_
        refine gk_sload_n dL_law_344 rfl ?_
        refine gk_iload_n dL_law_345 rfl ?_
        refine gk_iconst (v := 1) dL_law_346 rfl ?_
        refine gk_iadd dL_law_347 ?_
        refine gk_sld dL_law_348 rfl h.1 ?_
        replace h := h.2
        refine gk_sload_n dL_law_349 rfl ?_
        refine gk_iload_n dL_law_350 rfl ?_
        refine gk_iconst (v := 2) dL_law_351 rfl ?_
        refine gk_iadd dL_law_352 ?_
        refine gk_sld dL_law_353 rfl h.1 ?_
        replace h := h.2
        refine gk_callV (as := [_, _]) (rest := [_]) (ctX8_set h) dL_law_354 rfl rfl wvL_38 wcX8_set rfl (Nat.le_of_ble_eq_true rfl) ⟨Nat.le_refl _, Nat.le_refl _⟩ (fun h9 => absurd rfl h9) (Nat.le_of_ble_eq_true rfl) rfl (fun v G2 S354 hq => ?_)
        obtain ⟨rfl, r354, rfl, h⟩ := hq
        refine gk_icmp_eq (tgt := 1137) dL_law_357 (by decide) (fun c357 => ?_) (fun c357 => ?_)
        · replace h := h.1 c357
          exact gk_less (gz_le_s rfl (gz_le_s rfl (gz_le_s rfl (gz_le_s rfl gz_le_0)))) (oL_law_1137 (fun y0 S h => ih y0 S h) _ _ h)
        · replace h := h.2 c357
          refine gk_iconst (v := 0) dL_law_360 rfl ?_
          exact gk_iret dL_law_361 rfl rfl rfl rfl ⟨rfl, _, rfl, h⟩
      · replace h := h.2.2.2.2.2.2.2.1 hc
        refine gk_tableIn (off := 329) (tgt := 362) dL_law_33 (by omega) (by omega) (by rw [hc]; rfl) (by decide) ?_
        refine gk_aload_n dL_law_362 rfl ?_
        refine gk_sload_n dL_law_363 rfl ?_
        refine gk_iload_n dL_law_364 rfl ?_
        refine gk_iconst (v := 1) dL_law_365 rfl ?_
        refine gk_iadd dL_law_366 ?_
        refine gk_sld dL_law_367 rfl h.1 ?_
        replace h := h.2
        refine gk_sload_n dL_law_368 rfl ?_
        refine gk_iload_n dL_law_369 rfl ?_
        refine gk_iconst (v := 2) dL_law_370 rfl ?_
        refine gk_iadd dL_law_371 ?_
        refine gk_sld dL_law_372 rfl h.1 ?_
        replace h := h.2
        refine gk_callV (as := [_, _]) (rest := []) (ctX7_tide h) dL_law_373 rfl rfl wvL_39 wcX7_tide rfl (Nat.le_of_ble_eq_true rfl) ⟨Nat.le_refl _, Nat.le_refl _⟩ (fun h9 => absurd rfl h9) (Nat.le_of_ble_eq_true rfl) rfl (fun v G2 S373 hq => ?_)
        obtain ⟨rfl, r373, rfl, h⟩ := hq
        refine gk_aload_n dL_law_376 rfl ?_
        refine gk_sload_n dL_law_377 rfl ?_
        refine gk_iload_n dL_law_378 rfl ?_
        refine gk_iconst (v := 1) dL_law_379 rfl ?_
        refine gk_iadd dL_law_380 ?_
        refine gk_sld dL_law_381 rfl h.1 ?_
        replace h := h.2
        refine gk_sload_n dL_law_382 rfl ?_
        refine gk_iload_n dL_law_383 rfl ?_
        refine gk_iconst (v := 2) dL_law_384 rfl ?_
        refine gk_iadd dL_law_385 ?_
        refine gk_sld dL_law_386 rfl h.1 ?_
        replace h := h.2
        refine gk_callV (as := [_, _]) (rest := [_]) (ctX8_tide h) dL_law_387 rfl rfl wvL_42 wcX8_tide rfl (Nat.le_of_ble_eq_true rfl) ⟨Nat.le_refl _, Nat.le_refl _⟩ (fun h9 => absurd rfl h9) (Nat.le_of_ble_eq_true rfl) rfl (fun v G2 S387 hq => ?_)
        obtain ⟨rfl, r387, rfl, h⟩ := hq
        refine gk_icmp_eq (tgt := 1137) dL_law_390 (by decide) (fun c390 => ?_) (fun c390 => ?_)
        · replace h := h.1 c390
          exact gk_less (gz_le_s rfl (gz_le_s rfl (gz_le_s rfl (gz_le_s rfl gz_le_0)))) (oL_law_1137 (fun y0 S h => ih y0 S h) _ _ h)
        · replace h := h.2 c390
          refine gk_iconst (v := 0) dL_law_393 rfl ?_
          exact gk_iret dL_law_394 rfl rfl rfl rfl ⟨rfl, _, rfl, h⟩
      · replace h := h.2.2.2.2.2.2.2.2.1 hc
        refine gk_tableIn (off := 362) (tgt := 395) dL_law_33 (by omega) (by omega) (by rw [hc]; rfl) (by decide) ?_
        refine gk_aload_n dL_law_395 rfl ?_
        refine gk_sload_n dL_law_396 rfl ?_
        refine gk_iload_n dL_law_397 rfl ?_
        refine gk_iconst (v := 1) dL_law_398 rfl ?_
        refine gk_iadd dL_law_399 ?_
        refine gk_sld dL_law_400 rfl h.1 ?_
        replace h := h.2
        refine gk_sload_n dL_law_401 rfl ?_
        refine gk_iload_n dL_law_402 rfl ?_
        refine gk_iconst (v := 2) dL_law_403 rfl ?_
        refine gk_iadd dL_law_404 ?_
        refine gk_sld dL_law_405 rfl h.1 ?_
        replace h := h.2
        refine gk_sload_n dL_law_406 rfl ?_
        refine gk_iload_n dL_law_407 rfl ?_
        refine gk_iconst (v := 3) dL_law_408 rfl ?_
        refine gk_iadd dL_law_409 ?_
        refine gk_sld dL_law_410 rfl h.1 ?_
        replace h := h.2
        refine gk_callV (as := [_, _, _]) (rest := []) (ctX7_carry h) dL_law_411 rfl rfl wvL_43 wcX7_carry rfl (Nat.le_of_ble_eq_true rfl) ⟨Nat.le_refl _, Nat.le_refl _⟩ (fun h9 => absurd rfl h9) (Nat.le_of_ble_eq_true rfl) rfl (fun v G2 S411 hq => ?_)
        obtain ⟨rfl, r411, rfl, h⟩ := hq
        refine gk_aload_n dL_law_414 rfl ?_
        refine gk_sload_n dL_law_415 rfl ?_
        refine gk_iload_n dL_law_416 rfl ?_
        refine gk_iconst (v := 1) dL_law_417 rfl ?_
        refine gk_iadd dL_law_418 ?_
        refine gk_sld dL_law_419 rfl h.1 ?_
        replace h := h.2
        refine gk_sload_n dL_law_420 rfl ?_
        refine gk_iload_n dL_law_421 rfl ?_
        refine gk_iconst (v := 2) dL_law_422 rfl ?_
        refine gk_iadd dL_law_423 ?_
        refine gk_sld dL_law_424 rfl h.1 ?_
        replace h := h.2
        refine gk_sload_n dL_law_425 rfl ?_
        refine gk_iload_n dL_law_426 rfl ?_
        refine gk_iconst (v := 3) dL_law_427 rfl ?_
        refine gk_iadd dL_law_428 ?_
        refine gk_sld dL_law_429 rfl h.1 ?_
        replace h := h.2
        refine gk_callV (as := [_, _, _]) (rest := [_]) (ctX8_carry h) dL_law_430 rfl rfl wvL_47 wcX8_carry rfl (Nat.le_of_ble_eq_true rfl) ⟨Nat.le_refl _, Nat.le_refl _⟩ (fun h9 => absurd rfl h9) (Nat.le_of_ble_eq_true rfl) rfl (fun v G2 S430 hq => ?_)
        obtain ⟨rfl, r430, rfl, h⟩ := hq
        refine gk_icmp_eq (tgt := 1137) dL_law_433 (by decide) (fun c433 => ?_) (fun c433 => ?_)
        · replace h := h.1 c433
          exact gk_less (gz_le_s rfl (gz_le_s rfl (gz_le_s rfl (gz_le_s rfl gz_le_0)))) (oL_law_1137 (fun y0 S h => ih y0 S h) _ _ h)
        · replace h := h.2 c433
          refine gk_iconst (v := 0) dL_law_436 rfl ?_
          exact gk_iret dL_law_437 rfl rfl rfl rfl ⟨rfl, _, rfl, h⟩
      · replace h := h.2.2.2.2.2.2.2.2.2.1 hc
        refine gk_tableIn (off := 405) (tgt := 438) dL_law_33 (by omega) (by omega) (by rw [hc]; rfl) (by decide) ?_
        refine gk_aload_n dL_law_438 rfl ?_
        refine gk_sload_n dL_law_439 rfl ?_
        refine gk_iload_n dL_law_440 rfl ?_
        refine gk_iconst (v := 1) dL_law_441 rfl ?_
        refine gk_iadd dL_law_442 ?_
        refine gk_sld dL_law_443 rfl h.1 ?_
        replace h := h.2
        refine gk_callV (as := [_]) (rest := []) (ctX7_read h) dL_law_444 rfl rfl wvL_48 wcX7_read rfl (Nat.le_of_ble_eq_true rfl) ⟨Nat.le_refl _, Nat.le_refl _⟩ (fun h9 => absurd rfl h9) (Nat.le_of_ble_eq_true rfl) rfl (fun v G2 S444 hq => ?_)
        obtain ⟨rfl, r444, rfl, h⟩ := hq
        refine gk_aload_n dL_law_447 rfl ?_
        refine gk_sload_n dL_law_448 rfl ?_
        refine gk_iload_n dL_law_449 rfl ?_
        refine gk_iconst (v := 1) dL_law_450 rfl ?_
        refine gk_iadd dL_law_451 ?_
        refine gk_sld dL_law_452 rfl h.1 ?_
        replace h := h.2
        refine gk_callV (as := [_]) (rest := [_]) (ctX8_read h) dL_law_453 rfl rfl wvL_51 wcX8_read rfl (Nat.le_of_ble_eq_true rfl) ⟨Nat.le_refl _, Nat.le_refl _⟩ (fun h9 => absurd rfl h9) (Nat.le_of_ble_eq_true rfl) rfl (fun v G2 S453 hq => ?_)
        obtain ⟨rfl, r453, rfl, h⟩ := hq
        refine gk_icmp_eq (tgt := 1137) dL_law_456 (by decide) (fun c456 => ?_) (fun c456 => ?_)
        · replace h := h.1 c456
          exact gk_less (gz_le_s rfl (gz_le_s rfl (gz_le_s rfl (gz_le_s rfl gz_le_0)))) (oL_law_1137 (fun y0 S h => ih y0 S h) _ _ h)
        · replace h := h.2 c456
          refine gk_iconst (v := 0) dL_law_459 rfl ?_
          exact gk_iret dL_law_460 rfl rfl rfl rfl ⟨rfl, _, rfl, h⟩
      · replace h := h.2.2.2.2.2.2.2.2.2.2.1 hc
        refine gk_tableIn (off := 428) (tgt := 461) dL_law_33 (by omega) (by omega) (by rw [hc]; rfl) (by decide) ?_
        refine gk_aload_n dL_law_461 rfl ?_
        refine gk_callV (as := []) (rest := []) (ctX7_undo h) dL_law_462 rfl rfl wvL_52 wcX7_undo rfl (Nat.le_of_ble_eq_true rfl) ⟨Nat.le_refl _, Nat.le_refl _⟩ (fun h9 => absurd rfl h9) (Nat.le_of_ble_eq_true rfl) rfl (fun v G2 S462 hq => ?_)
        obtain ⟨rfl, r462, rfl, h⟩ := hq
        refine gk_aload_n dL_law_465 rfl ?_
        refine gk_callV (as := []) (rest := [_]) (ctX8_undo h) dL_law_466 rfl rfl wvL_56 wcX8_undo rfl (Nat.le_of_ble_eq_true rfl) ⟨Nat.le_refl _, Nat.le_refl _⟩ (fun h9 => absurd rfl h9) (Nat.le_of_ble_eq_true rfl) rfl (fun v G2 S466 hq => ?_)
        obtain ⟨rfl, r466, rfl, h⟩ := hq
        refine gk_icmp_eq (tgt := 1137) dL_law_469 (by decide) (fun c469 => ?_) (fun c469 => ?_)
        · replace h := h.1 c469
          exact gk_less (gz_le_s rfl (gz_le_s rfl (gz_le_s rfl (gz_le_s rfl gz_le_0)))) (oL_law_1137 (fun y0 S h => ih y0 S h) _ _ h)
        · replace h := h.2 c469
          refine gk_iconst (v := 0) dL_law_472 rfl ?_
          exact gk_iret dL_law_473 rfl rfl rfl rfl ⟨rfl, _, rfl, h⟩
      · replace h := h.2.2.2.2.2.2.2.2.2.2.2.1 hc
        refine gk_tableIn (off := 441) (tgt := 474) dL_law_33 (by omega) (by omega) (by rw [hc]; rfl) (by decide) ?_
        refine gk_aload_n dL_law_474 rfl ?_
        refine gk_callV (as := []) (rest := []) (ctX7_judged h) dL_law_475 rfl rfl wvL_57 wcX7_judged rfl (Nat.le_of_ble_eq_true rfl) ⟨Nat.le_refl _, Nat.le_refl _⟩ (fun h9 => absurd rfl h9) (Nat.le_of_ble_eq_true rfl) rfl (fun v G2 S475 hq => ?_)
        obtain ⟨rfl, r475, rfl, h⟩ := hq
        refine gk_aload_n dL_law_478 rfl ?_
        refine gk_callV (as := []) (rest := [_]) (ctX8_judged h) dL_law_479 rfl rfl wvL_60 wcX8_judged rfl (Nat.le_of_ble_eq_true rfl) ⟨Nat.le_refl _, Nat.le_refl _⟩ (fun h9 => absurd rfl h9) (Nat.le_of_ble_eq_true rfl) rfl (fun v G2 S479 hq => ?_)
        obtain ⟨rfl, r479, rfl, h⟩ := hq
        refine gk_icmp_eq (tgt := 1137) dL_law_482 (by decide) (fun c482 => ?_) (fun c482 => ?_)
        · replace h := h.1 c482
          exact gk_less (gz_le_s rfl (gz_le_s rfl (gz_le_s rfl (gz_le_s rfl gz_le_0)))) (oL_law_1137 (fun y0 S h => ih y0 S h) _ _ h)
        · replace h := h.2 c482
          refine gk_iconst (v := 0) dL_law_485 rfl ?_
          exact gk_iret dL_law_486 rfl rfl rfl rfl ⟨rfl, _, rfl, h⟩
      · replace h := h.2.2.2.2.2.2.2.2.2.2.2.2.1 hc
        refine gk_tableIn (off := 454) (tgt := 487) dL_law_33 (by omega) (by omega) (by rw [hc]; rfl) (by decide) ?_
        refine gk_aload_n dL_law_487 rfl ?_
        refine gk_sload_n dL_law_488 rfl ?_
        refine gk_iload_n dL_law_489 rfl ?_
        refine gk_iconst (v := 1) dL_law_490 rfl ?_
        refine gk_iadd dL_law_491 ?_
        refine gk_sld dL_law_492 rfl h.1 ?_
        replace h := h.2
        refine gk_callV (as := [_]) (rest := []) (ctX7_laid h) dL_law_493 rfl rfl wvL_61 wcX7_laid rfl (Nat.le_of_ble_eq_true rfl) ⟨Nat.le_refl _, Nat.le_refl _⟩ (fun h9 => absurd rfl h9) (Nat.le_of_ble_eq_true rfl) rfl (fun v G2 S493 hq => ?_)
        obtain ⟨rfl, r493, rfl, h⟩ := hq
        refine gk_aload_n dL_law_496 rfl ?_
        refine gk_sload_n dL_law_497 rfl ?_
        refine gk_iload_n dL_law_498 rfl ?_
        refine gk_iconst (v := 1) dL_law_499 rfl ?_
        refine gk_iadd dL_law_500 ?_
        refine gk_sld dL_law_501 rfl h.1 ?_
        replace h := h.2
        refine gk_callV (as := [_]) (rest := [_]) (ctX8_laid h) dL_law_502 rfl rfl wvL_64 wcX8_laid rfl (Nat.le_of_ble_eq_true rfl) ⟨Nat.le_refl _, Nat.le_refl _⟩ (fun h9 => absurd rfl h9) (Nat.le_of_ble_eq_true rfl) rfl (fun v G2 S502 hq => ?_)
        obtain ⟨rfl, r502, rfl, h⟩ := hq
        refine gk_icmp_eq (tgt := 1137) dL_law_505 (by decide) (fun c505 => ?_) (fun c505 => ?_)
        · replace h := h.1 c505
          exact gk_less (gz_le_s rfl (gz_le_s rfl (gz_le_s rfl (gz_le_s rfl gz_le_0)))) (oL_law_1137 (fun y0 S h => ih y0 S h) _ _ h)
        · replace h := h.2 c505
          refine gk_iconst (v := 0) dL_law_508 rfl ?_
          exact gk_iret dL_law_509 rfl rfl rfl rfl ⟨rfl, _, rfl, h⟩
      · replace h := h.2.2.2.2.2.2.2.2.2.2.2.2.2.1 hc
        refine gk_tableIn (off := 477) (tgt := 510) dL_law_33 (by omega) (by omega) (by rw [hc]; rfl) (by decide) ?_
        refine gk_aload_n dL_law_510 rfl ?_
        refine gk_sload_n dL_law_511 rfl ?_
        refine gk_iload_n dL_law_512 rfl ?_
        refine gk_iconst (v := 1) dL_law_513 rfl ?_
        refine gk_iadd dL_law_514 ?_
        refine gk_sld dL_law_515 rfl h.1 ?_
        replace h := h.2
        refine gk_callV (as := [_]) (rest := []) (ctX7_tip h) dL_law_516 rfl rfl wvL_65 wcX7_tip rfl (Nat.le_of_ble_eq_true rfl) ⟨Nat.le_refl _, Nat.le_refl _⟩ (fun h9 => absurd rfl h9) (Nat.le_of_ble_eq_true rfl) rfl (fun v G2 S516 hq => ?_)
        obtain ⟨rfl, r516, rfl, h⟩ := hq
        refine gk_aload_n dL_law_519 rfl ?_
        refine gk_sload_n dL_law_520 rfl ?_
        refine gk_iload_n dL_law_521 rfl ?_
        refine gk_iconst (v := 1) dL_law_522 rfl ?_
        refine gk_iadd dL_law_523 ?_
        refine gk_sld dL_law_524 rfl h.1 ?_
        replace h := h.2
        refine gk_callV (as := [_]) (rest := [_]) (ctX8_tip h) dL_law_525 rfl rfl wvL_68 wcX8_tip rfl (Nat.le_of_ble_eq_true rfl) ⟨Nat.le_refl _, Nat.le_refl _⟩ (fun h9 => absurd rfl h9) (Nat.le_of_ble_eq_true rfl) rfl (fun v G2 S525 hq => ?_)
        obtain ⟨rfl, r525, rfl, h⟩ := hq
        refine gk_icmp_eq (tgt := 1137) dL_law_528 (by decide) (fun c528 => ?_) (fun c528 => ?_)
        · replace h := h.1 c528
          exact gk_less (gz_le_s rfl (gz_le_s rfl (gz_le_s rfl (gz_le_s rfl gz_le_0)))) (oL_law_1137 (fun y0 S h => ih y0 S h) _ _ h)
        · replace h := h.2 c528
          refine gk_iconst (v := 0) dL_law_531 rfl ?_
          exact gk_iret dL_law_532 rfl rfl rfl rfl ⟨rfl, _, rfl, h⟩
      · replace h := h.2.2.2.2.2.2.2.2.2.2.2.2.2.2.1 hc
        refine gk_tableIn (off := 500) (tgt := 533) dL_law_33 (by omega) (by omega) (by rw [hc]; rfl) (by decide) ?_
        refine gk_aload_n dL_law_533 rfl ?_
        refine gk_sload_n dL_law_534 rfl ?_
        refine gk_iload_n dL_law_535 rfl ?_
        refine gk_iconst (v := 1) dL_law_536 rfl ?_
        refine gk_iadd dL_law_537 ?_
        refine gk_sld dL_law_538 rfl h.1 ?_
        replace h := h.2
        refine gk_sload_n dL_law_539 rfl ?_
        refine gk_iload_n dL_law_540 rfl ?_
        refine gk_iconst (v := 2) dL_law_541 rfl ?_
        refine gk_iadd dL_law_542 ?_
        refine gk_sld dL_law_543 rfl h.1 ?_
        replace h := h.2
        refine gk_sload_n dL_law_544 rfl ?_
        refine gk_iload_n dL_law_545 rfl ?_
        refine gk_iconst (v := 3) dL_law_546 rfl ?_
        refine gk_iadd dL_law_547 ?_
        refine gk_sld dL_law_548 rfl h.1 ?_
        replace h := h.2
        refine gk_callV (as := [_, _, _]) (rest := []) (ctX7_shelf h) dL_law_549 rfl rfl wvL_69 wcX7_shelf rfl (Nat.le_of_ble_eq_true rfl) ⟨Nat.le_refl _, Nat.le_refl _⟩ (fun h9 => absurd rfl h9) (Nat.le_of_ble_eq_true rfl) rfl (fun v G2 S549 hq => ?_)
        obtain ⟨rfl, r549, rfl, h⟩ := hq
        refine gk_aload_n dL_law_552 rfl ?_
        refine gk_sload_n dL_law_553 rfl ?_
        refine gk_iload_n dL_law_554 rfl ?_
        refine gk_iconst (v := 1) dL_law_555 rfl ?_
        refine gk_iadd dL_law_556 ?_
        refine gk_sld dL_law_557 rfl h.1 ?_
        replace h := h.2
        refine gk_sload_n dL_law_558 rfl ?_
        refine gk_iload_n dL_law_559 rfl ?_
        refine gk_iconst (v := 2) dL_law_560 rfl ?_
        refine gk_iadd dL_law_561 ?_
        refine gk_sld dL_law_562 rfl h.1 ?_
        replace h := h.2
        refine gk_sload_n dL_law_563 rfl ?_
        refine gk_iload_n dL_law_564 rfl ?_
        refine gk_iconst (v := 3) dL_law_565 rfl ?_
        refine gk_iadd dL_law_566 ?_
        refine gk_sld dL_law_567 rfl h.1 ?_
        replace h := h.2
        refine gk_callV (as := [_, _, _]) (rest := [_]) (ctX8_shelf h) dL_law_568 rfl rfl wvL_72 wcX8_shelf rfl (Nat.le_of_ble_eq_true rfl) ⟨Nat.le_refl _, Nat.le_refl _⟩ (fun h9 => absurd rfl h9) (Nat.le_of_ble_eq_true rfl) rfl (fun v G2 S568 hq => ?_)
        obtain ⟨rfl, r568, rfl, h⟩ := hq
        refine gk_icmp_eq (tgt := 1137) dL_law_571 (by decide) (fun c571 => ?_) (fun c571 => ?_)
        · replace h := h.1 c571
          exact gk_less (gz_le_s rfl (gz_le_s rfl (gz_le_s rfl (gz_le_s rfl gz_le_0)))) (oL_law_1137 (fun y0 S h => ih y0 S h) _ _ h)
        · replace h := h.2 c571
          refine gk_iconst (v := 0) dL_law_574 rfl ?_
          exact gk_iret dL_law_575 rfl rfl rfl rfl ⟨rfl, _, rfl, h⟩
      · replace h := h.2.2.2.2.2.2.2.2.2.2.2.2.2.2.2.1 hc
        refine gk_tableIn (off := 543) (tgt := 576) dL_law_33 (by omega) (by omega) (by rw [hc]; rfl) (by decide) ?_
        refine gk_aload_n dL_law_576 rfl ?_
        refine gk_sload_n dL_law_577 rfl ?_
        refine gk_iload_n dL_law_578 rfl ?_
        refine gk_iconst (v := 1) dL_law_579 rfl ?_
        refine gk_iadd dL_law_580 ?_
        refine gk_sld dL_law_581 rfl h.1 ?_
        replace h := h.2
        refine gk_callV (as := [_]) (rest := []) (ctX7_slid h) dL_law_582 rfl rfl wvL_73 wcX7_slid rfl (Nat.le_of_ble_eq_true rfl) ⟨Nat.le_refl _, Nat.le_refl _⟩ (fun h9 => absurd rfl h9) (Nat.le_of_ble_eq_true rfl) rfl (fun v G2 S582 hq => ?_)
        obtain ⟨rfl, r582, rfl, h⟩ := hq
        refine gk_aload_n dL_law_585 rfl ?_
        refine gk_sload_n dL_law_586 rfl ?_
        refine gk_iload_n dL_law_587 rfl ?_
        refine gk_iconst (v := 1) dL_law_588 rfl ?_
        refine gk_iadd dL_law_589 ?_
        refine gk_sld dL_law_590 rfl h.1 ?_
        replace h := h.2
        refine gk_callV (as := [_]) (rest := [_]) (ctX8_slid h) dL_law_591 rfl rfl wvL_76 wcX8_slid rfl (Nat.le_of_ble_eq_true rfl) ⟨Nat.le_refl _, Nat.le_refl _⟩ (fun h9 => absurd rfl h9) (Nat.le_of_ble_eq_true rfl) rfl (fun v G2 S591 hq => ?_)
        obtain ⟨rfl, r591, rfl, h⟩ := hq
        refine gk_icmp_eq (tgt := 1137) dL_law_594 (by decide) (fun c594 => ?_) (fun c594 => ?_)
        · replace h := h.1 c594
          exact gk_less (gz_le_s rfl (gz_le_s rfl (gz_le_s rfl (gz_le_s rfl gz_le_0)))) (oL_law_1137 (fun y0 S h => ih y0 S h) _ _ h)
        · replace h := h.2 c594
          refine gk_iconst (v := 0) dL_law_597 rfl ?_
          exact gk_iret dL_law_598 rfl rfl rfl rfl ⟨rfl, _, rfl, h⟩
      · replace h := h.2.2.2.2.2.2.2.2.2.2.2.2.2.2.2.2.1 hc
        refine gk_tableIn (off := 566) (tgt := 599) dL_law_33 (by omega) (by omega) (by rw [hc]; rfl) (by decide) ?_
        refine gk_aload_n dL_law_599 rfl ?_
        refine gk_callV (as := []) (rest := []) (ctX7_when h) dL_law_600 rfl rfl wvL_77 wcX7_when rfl (Nat.le_of_ble_eq_true rfl) ⟨Nat.le_refl _, Nat.le_refl _⟩ (fun h9 => absurd rfl h9) (Nat.le_of_ble_eq_true rfl) rfl (fun v G2 S600 hq => ?_)
        obtain ⟨rfl, r600, rfl, h⟩ := hq
        refine gk_aload_n dL_law_603 rfl ?_
        refine gk_callV (as := []) (rest := [_]) (ctX8_when h) dL_law_604 rfl rfl wvL_80 wcX8_when rfl (Nat.le_of_ble_eq_true rfl) ⟨Nat.le_refl _, Nat.le_refl _⟩ (fun h9 => absurd rfl h9) (Nat.le_of_ble_eq_true rfl) rfl (fun v G2 S604 hq => ?_)
        obtain ⟨rfl, r604, rfl, h⟩ := hq
        refine gk_icmp_eq (tgt := 1137) dL_law_607 (by decide) (fun c607 => ?_) (fun c607 => ?_)
        · replace h := h.1 c607
          exact gk_less (gz_le_s rfl (gz_le_s rfl (gz_le_s rfl (gz_le_s rfl gz_le_0)))) (oL_law_1137 (fun y0 S h => ih y0 S h) _ _ h)
        · replace h := h.2 c607
          refine gk_iconst (v := 0) dL_law_610 rfl ?_
          exact gk_iret dL_law_611 rfl rfl rfl rfl ⟨rfl, _, rfl, h⟩
      · replace h := h.2.2.2.2.2.2.2.2.2.2.2.2.2.2.2.2.2.1 hc
        refine gk_tableIn (off := 579) (tgt := 612) dL_law_33 (by omega) (by omega) (by rw [hc]; rfl) (by decide) ?_
        refine gk_aload_n dL_law_612 rfl ?_
        refine gk_sload_n dL_law_613 rfl ?_
        refine gk_iload_n dL_law_614 rfl ?_
        refine gk_iconst (v := 1) dL_law_615 rfl ?_
        refine gk_iadd dL_law_616 ?_
        refine gk_sld dL_law_617 rfl h.1 ?_
        replace h := h.2
        refine gk_callV (as := [_]) (rest := []) (ctX7_result h) dL_law_618 rfl rfl wvL_81 wcX7_result rfl (Nat.le_of_ble_eq_true rfl) ⟨Nat.le_refl _, Nat.le_refl _⟩ (fun h9 => absurd rfl h9) (Nat.le_of_ble_eq_true rfl) rfl (fun v G2 S618 hq => ?_)
        obtain ⟨rfl, r618, rfl, h⟩ := hq
        refine gk_aload_n dL_law_621 rfl ?_
        refine gk_sload_n dL_law_622 rfl ?_
        refine gk_iload_n dL_law_623 rfl ?_
        refine gk_iconst (v := 1) dL_law_624 rfl ?_
        refine gk_iadd dL_law_625 ?_
        refine gk_sld dL_law_626 rfl h.1 ?_
        replace h := h.2
        refine gk_callV (as := [_]) (rest := [_]) (ctX8_result h) dL_law_627 rfl rfl wvL_84 wcX8_result rfl (Nat.le_of_ble_eq_true rfl) ⟨Nat.le_refl _, Nat.le_refl _⟩ (fun h9 => absurd rfl h9) (Nat.le_of_ble_eq_true rfl) rfl (fun v G2 S627 hq => ?_)
        obtain ⟨rfl, r627, rfl, h⟩ := hq
        refine gk_icmp_eq (tgt := 1137) dL_law_630 (by decide) (fun c630 => ?_) (fun c630 => ?_)
        · replace h := h.1 c630
          exact gk_less (gz_le_s rfl (gz_le_s rfl (gz_le_s rfl (gz_le_s rfl gz_le_0)))) (oL_law_1137 (fun y0 S h => ih y0 S h) _ _ h)
        · replace h := h.2 c630
          refine gk_iconst (v := 0) dL_law_633 rfl ?_
          exact gk_iret dL_law_634 rfl rfl rfl rfl ⟨rfl, _, rfl, h⟩
      · replace h := h.2.2.2.2.2.2.2.2.2.2.2.2.2.2.2.2.2.2.1 hc
        refine gk_tableIn (off := 602) (tgt := 635) dL_law_33 (by omega) (by omega) (by rw [hc]; rfl) (by decide) ?_
        refine gk_aload_n dL_law_635 rfl ?_
        refine gk_sload_n dL_law_636 rfl ?_
        refine gk_iload_n dL_law_637 rfl ?_
        refine gk_iconst (v := 1) dL_law_638 rfl ?_
        refine gk_iadd dL_law_639 ?_
        refine gk_sld dL_law_640 rfl h.1 ?_
        replace h := h.2
        refine gk_callV (as := [_]) (rest := []) (ctX7_without h) dL_law_641 rfl rfl wvL_85 wcX7_without rfl (Nat.le_of_ble_eq_true rfl) ⟨Nat.le_refl _, Nat.le_refl _⟩ (fun h9 => absurd rfl h9) (Nat.le_of_ble_eq_true rfl) rfl (fun v G2 S641 hq => ?_)
        obtain ⟨rfl, r641, rfl, h⟩ := hq
        refine gk_aload_n dL_law_644 rfl ?_
        refine gk_sload_n dL_law_645 rfl ?_
        refine gk_iload_n dL_law_646 rfl ?_
        refine gk_iconst (v := 1) dL_law_647 rfl ?_
        refine gk_iadd dL_law_648 ?_
        refine gk_sld dL_law_649 rfl h.1 ?_
        replace h := h.2
        refine gk_callV (as := [_]) (rest := [_]) (ctX8_without h) dL_law_650 rfl rfl wvL_88 wcX8_without rfl (Nat.le_of_ble_eq_true rfl) ⟨Nat.le_refl _, Nat.le_refl _⟩ (fun h9 => absurd rfl h9) (Nat.le_of_ble_eq_true rfl) rfl (fun v G2 S650 hq => ?_)
        obtain ⟨rfl, r650, rfl, h⟩ := hq
        refine gk_icmp_eq (tgt := 1137) dL_law_653 (by decide) (fun c653 => ?_) (fun c653 => ?_)
        · replace h := h.1 c653
          exact gk_less (gz_le_s rfl (gz_le_s rfl (gz_le_s rfl (gz_le_s rfl gz_le_0)))) (oL_law_1137 (fun y0 S h => ih y0 S h) _ _ h)
        · replace h := h.2 c653
          refine gk_iconst (v := 0) dL_law_656 rfl ?_
          exact gk_iret dL_law_657 rfl rfl rfl rfl ⟨rfl, _, rfl, h⟩
      · replace h := h.2.2.2.2.2.2.2.2.2.2.2.2.2.2.2.2.2.2.2.1 hc
        refine gk_tableIn (off := 625) (tgt := 658) dL_law_33 (by omega) (by omega) (by rw [hc]; rfl) (by decide) ?_
        refine gk_aload_n dL_law_658 rfl ?_
        refine gk_callV (as := []) (rest := []) (ctX7_settled h) dL_law_659 rfl rfl wvL_89 wcX7_settled rfl (Nat.le_of_ble_eq_true rfl) ⟨Nat.le_refl _, Nat.le_refl _⟩ (fun h9 => absurd rfl h9) (Nat.le_of_ble_eq_true rfl) rfl (fun v G2 S659 hq => ?_)
        obtain ⟨rfl, r659, rfl, h⟩ := hq
        refine gk_aload_n dL_law_662 rfl ?_
        refine gk_callV (as := []) (rest := [_]) (ctX8_settled h) dL_law_663 rfl rfl wvL_92 wcX8_settled rfl (Nat.le_of_ble_eq_true rfl) ⟨Nat.le_refl _, Nat.le_refl _⟩ (fun h9 => absurd rfl h9) (Nat.le_of_ble_eq_true rfl) rfl (fun v G2 S663 hq => ?_)
        obtain ⟨rfl, r663, rfl, h⟩ := hq
        refine gk_icmp_eq (tgt := 1137) dL_law_666 (by decide) (fun c666 => ?_) (fun c666 => ?_)
        · replace h := h.1 c666
          exact gk_less (gz_le_s rfl (gz_le_s rfl (gz_le_s rfl (gz_le_s rfl gz_le_0)))) (oL_law_1137 (fun y0 S h => ih y0 S h) _ _ h)
        · replace h := h.2 c666
          refine gk_iconst (v := 0) dL_law_669 rfl ?_
          exact gk_iret dL_law_670 rfl rfl rfl rfl ⟨rfl, _, rfl, h⟩
      · replace h := h.2.2.2.2.2.2.2.2.2.2.2.2.2.2.2.2.2.2.2.2.1 hc
        refine gk_tableIn (off := 638) (tgt := 671) dL_law_33 (by omega) (by omega) (by rw [hc]; rfl) (by decide) ?_
        refine gk_aload_n dL_law_671 rfl ?_
        refine gk_callV (as := []) (rest := []) (ctX7_doubles h) dL_law_672 rfl rfl wvL_93 wcX7_doubles rfl (Nat.le_of_ble_eq_true rfl) ⟨Nat.le_refl _, Nat.le_refl _⟩ (fun h9 => absurd rfl h9) (Nat.le_of_ble_eq_true rfl) rfl (fun v G2 S672 hq => ?_)
        obtain ⟨rfl, r672, rfl, h⟩ := hq
        refine gk_aload_n dL_law_675 rfl ?_
        refine gk_callV (as := []) (rest := [_]) (ctX8_doubles h) dL_law_676 rfl rfl wvL_96 wcX8_doubles rfl (Nat.le_of_ble_eq_true rfl) ⟨Nat.le_refl _, Nat.le_refl _⟩ (fun h9 => absurd rfl h9) (Nat.le_of_ble_eq_true rfl) rfl (fun v G2 S676 hq => ?_)
        obtain ⟨rfl, r676, rfl, h⟩ := hq
        refine gk_icmp_eq (tgt := 1137) dL_law_679 (by decide) (fun c679 => ?_) (fun c679 => ?_)
        · replace h := h.1 c679
          exact gk_less (gz_le_s rfl (gz_le_s rfl (gz_le_s rfl (gz_le_s rfl gz_le_0)))) (oL_law_1137 (fun y0 S h => ih y0 S h) _ _ h)
        · replace h := h.2 c679
          refine gk_iconst (v := 0) dL_law_682 rfl ?_
          exact gk_iret dL_law_683 rfl rfl rfl rfl ⟨rfl, _, rfl, h⟩
      · replace h := h.2.2.2.2.2.2.2.2.2.2.2.2.2.2.2.2.2.2.2.2.2.1 hc
        refine gk_tableIn (off := 651) (tgt := 684) dL_law_33 (by omega) (by omega) (by rw [hc]; rfl) (by decide) ?_
        refine gk_aload_n dL_law_684 rfl ?_
        refine gk_sload_n dL_law_685 rfl ?_
        refine gk_iload_n dL_law_686 rfl ?_
        refine gk_iconst (v := 1) dL_law_687 rfl ?_
        refine gk_iadd dL_law_688 ?_
        refine gk_sld dL_law_689 rfl h.1 ?_
        replace h := h.2
        refine gk_callV (as := [_]) (rest := []) (ctX7_fewest h) dL_law_690 rfl rfl wvL_97 wcX7_fewest rfl (Nat.le_of_ble_eq_true rfl) ⟨Nat.le_refl _, Nat.le_refl _⟩ (fun h9 => absurd rfl h9) (Nat.le_of_ble_eq_true rfl) rfl (fun v G2 S690 hq => ?_)
        obtain ⟨rfl, r690, rfl, h⟩ := hq
        refine gk_aload_n dL_law_693 rfl ?_
        refine gk_sload_n dL_law_694 rfl ?_
        refine gk_iload_n dL_law_695 rfl ?_
        refine gk_iconst (v := 1) dL_law_696 rfl ?_
        refine gk_iadd dL_law_697 ?_
        refine gk_sld dL_law_698 rfl h.1 ?_
        replace h := h.2
        refine gk_callV (as := [_]) (rest := [_]) (ctX8_fewest h) dL_law_699 rfl rfl wvL_100 wcX8_fewest rfl (Nat.le_of_ble_eq_true rfl) ⟨Nat.le_refl _, Nat.le_refl _⟩ (fun h9 => absurd rfl h9) (Nat.le_of_ble_eq_true rfl) rfl (fun v G2 S699 hq => ?_)
        obtain ⟨rfl, r699, rfl, h⟩ := hq
        refine gk_icmp_eq (tgt := 1137) dL_law_702 (by decide) (fun c702 => ?_) (fun c702 => ?_)
        · replace h := h.1 c702
          exact gk_less (gz_le_s rfl (gz_le_s rfl (gz_le_s rfl (gz_le_s rfl gz_le_0)))) (oL_law_1137 (fun y0 S h => ih y0 S h) _ _ h)
        · replace h := h.2 c702
          refine gk_iconst (v := 0) dL_law_705 rfl ?_
          exact gk_iret dL_law_706 rfl rfl rfl rfl ⟨rfl, _, rfl, h⟩
      · replace h := h.2.2.2.2.2.2.2.2.2.2.2.2.2.2.2.2.2.2.2.2.2.2.1 hc
        refine gk_tableIn (off := 674) (tgt := 707) dL_law_33 (by omega) (by omega) (by rw [hc]; rfl) (by decide) ?_
        refine gk_aload_n dL_law_707 rfl ?_
        refine gk_sload_n dL_law_708 rfl ?_
        refine gk_iload_n dL_law_709 rfl ?_
        refine gk_iconst (v := 1) dL_law_710 rfl ?_
        refine gk_iadd dL_law_711 ?_
        refine gk_sld dL_law_712 rfl h.1 ?_
        replace h := h.2
        refine gk_callV (as := [_]) (rest := []) (ctX7_most h) dL_law_713 rfl rfl wvL_101 wcX7_most rfl (Nat.le_of_ble_eq_true rfl) ⟨Nat.le_refl _, Nat.le_refl _⟩ (fun h9 => absurd rfl h9) (Nat.le_of_ble_eq_true rfl) rfl (fun v G2 S713 hq => ?_)
        obtain ⟨rfl, r713, rfl, h⟩ := hq
        refine gk_aload_n dL_law_716 rfl ?_
        refine gk_sload_n dL_law_717 rfl ?_
        refine gk_iload_n dL_law_718 rfl ?_
        refine gk_iconst (v := 1) dL_law_719 rfl ?_
        refine gk_iadd dL_law_720 ?_
        refine gk_sld dL_law_721 rfl h.1 ?_
        replace h := h.2
        refine gk_callV (as := [_]) (rest := [_]) (ctX8_most h) dL_law_722 rfl rfl wvL_104 wcX8_most rfl (Nat.le_of_ble_eq_true rfl) ⟨Nat.le_refl _, Nat.le_refl _⟩ (fun h9 => absurd rfl h9) (Nat.le_of_ble_eq_true rfl) rfl (fun v G2 S722 hq => ?_)
        obtain ⟨rfl, r722, rfl, h⟩ := hq
        refine gk_icmp_eq (tgt := 1137) dL_law_725 (by decide) (fun c725 => ?_) (fun c725 => ?_)
        · replace h := h.1 c725
          exact gk_less (gz_le_s rfl (gz_le_s rfl (gz_le_s rfl (gz_le_s rfl gz_le_0)))) (oL_law_1137 (fun y0 S h => ih y0 S h) _ _ h)
        · replace h := h.2 c725
          refine gk_iconst (v := 0) dL_law_728 rfl ?_
          exact gk_iret dL_law_729 rfl rfl rfl rfl ⟨rfl, _, rfl, h⟩
      · replace h := h.2.2.2.2.2.2.2.2.2.2.2.2.2.2.2.2.2.2.2.2.2.2.2.1 hc
        refine gk_tableIn (off := 697) (tgt := 730) dL_law_33 (by omega) (by omega) (by rw [hc]; rfl) (by decide) ?_
        refine gk_aload_n dL_law_730 rfl ?_
        refine gk_sload_n dL_law_731 rfl ?_
        refine gk_iload_n dL_law_732 rfl ?_
        refine gk_iconst (v := 1) dL_law_733 rfl ?_
        refine gk_iadd dL_law_734 ?_
        refine gk_sld dL_law_735 rfl h.1 ?_
        replace h := h.2
        refine gk_callV (as := [_]) (rest := []) (ctX7_hold h) dL_law_736 rfl rfl wvL_105 wcX7_hold rfl (Nat.le_of_ble_eq_true rfl) ⟨Nat.le_refl _, Nat.le_refl _⟩ (fun h9 => absurd rfl h9) (Nat.le_of_ble_eq_true rfl) rfl (fun v G2 S736 hq => ?_)
        obtain ⟨rfl, r736, rfl, h⟩ := hq
        refine gk_aload_n dL_law_739 rfl ?_
        refine gk_sload_n dL_law_740 rfl ?_
        refine gk_iload_n dL_law_741 rfl ?_
        refine gk_iconst (v := 1) dL_law_742 rfl ?_
        refine gk_iadd dL_law_743 ?_
        refine gk_sld dL_law_744 rfl h.1 ?_
        replace h := h.2
        refine gk_callV (as := [_]) (rest := [_]) (ctX8_hold h) dL_law_745 rfl rfl wvL_108 wcX8_hold rfl (Nat.le_of_ble_eq_true rfl) ⟨Nat.le_refl _, Nat.le_refl _⟩ (fun h9 => absurd rfl h9) (Nat.le_of_ble_eq_true rfl) rfl (fun v G2 S745 hq => ?_)
        obtain ⟨rfl, r745, rfl, h⟩ := hq
        refine gk_icmp_eq (tgt := 1137) dL_law_748 (by decide) (fun c748 => ?_) (fun c748 => ?_)
        · replace h := h.1 c748
          exact gk_less (gz_le_s rfl (gz_le_s rfl (gz_le_s rfl (gz_le_s rfl gz_le_0)))) (oL_law_1137 (fun y0 S h => ih y0 S h) _ _ h)
        · replace h := h.2 c748
          refine gk_iconst (v := 0) dL_law_751 rfl ?_
          exact gk_iret dL_law_752 rfl rfl rfl rfl ⟨rfl, _, rfl, h⟩
      · replace h := h.2.2.2.2.2.2.2.2.2.2.2.2.2.2.2.2.2.2.2.2.2.2.2.2.1 hc
        refine gk_tableIn (off := 720) (tgt := 753) dL_law_33 (by omega) (by omega) (by rw [hc]; rfl) (by decide) ?_
        refine gk_aload_n dL_law_753 rfl ?_
        refine gk_sload_n dL_law_754 rfl ?_
        refine gk_iload_n dL_law_755 rfl ?_
        refine gk_iconst (v := 1) dL_law_756 rfl ?_
        refine gk_iadd dL_law_757 ?_
        refine gk_sld dL_law_758 rfl h.1 ?_
        replace h := h.2
        refine gk_sload_n dL_law_759 rfl ?_
        refine gk_iload_n dL_law_760 rfl ?_
        refine gk_iconst (v := 2) dL_law_761 rfl ?_
        refine gk_iadd dL_law_762 ?_
        refine gk_sld dL_law_763 rfl h.1 ?_
        replace h := h.2
        refine gk_callV (as := [_, _]) (rest := []) (ctX7_game h) dL_law_764 rfl rfl wvL_109 wcX7_game rfl (Nat.le_of_ble_eq_true rfl) ⟨Nat.le_refl _, Nat.le_refl _⟩ (fun h9 => absurd rfl h9) (Nat.le_of_ble_eq_true rfl) rfl (fun v G2 S764 hq => ?_)
        obtain ⟨rfl, r764, rfl, h⟩ := hq
        refine gk_aload_n dL_law_767 rfl ?_
        refine gk_sload_n dL_law_768 rfl ?_
        refine gk_iload_n dL_law_769 rfl ?_
        refine gk_iconst (v := 1) dL_law_770 rfl ?_
        refine gk_iadd dL_law_771 ?_
        refine gk_sld dL_law_772 rfl h.1 ?_
        replace h := h.2
        refine gk_sload_n dL_law_773 rfl ?_
        refine gk_iload_n dL_law_774 rfl ?_
        refine gk_iconst (v := 2) dL_law_775 rfl ?_
        refine gk_iadd dL_law_776 ?_
        refine gk_sld dL_law_777 rfl h.1 ?_
        replace h := h.2
        refine gk_callV (as := [_, _]) (rest := [_]) (ctX8_game h) dL_law_778 rfl rfl wvL_112 wcX8_game rfl (Nat.le_of_ble_eq_true rfl) ⟨Nat.le_refl _, Nat.le_refl _⟩ (fun h9 => absurd rfl h9) (Nat.le_of_ble_eq_true rfl) rfl (fun v G2 S778 hq => ?_)
        obtain ⟨rfl, r778, rfl, h⟩ := hq
        refine gk_icmp_eq (tgt := 1137) dL_law_781 (by decide) (fun c781 => ?_) (fun c781 => ?_)
        · replace h := h.1 c781
          exact gk_less (gz_le_s rfl (gz_le_s rfl (gz_le_s rfl (gz_le_s rfl gz_le_0)))) (oL_law_1137 (fun y0 S h => ih y0 S h) _ _ h)
        · replace h := h.2 c781
          refine gk_iconst (v := 0) dL_law_784 rfl ?_
          exact gk_iret dL_law_785 rfl rfl rfl rfl ⟨rfl, _, rfl, h⟩
      · replace h := h.2.2.2.2.2.2.2.2.2.2.2.2.2.2.2.2.2.2.2.2.2.2.2.2.2.1 hc
        refine gk_tableIn (off := 753) (tgt := 786) dL_law_33 (by omega) (by omega) (by rw [hc]; rfl) (by decide) ?_
        refine gk_aload_n dL_law_786 rfl ?_
        refine gk_sload_n dL_law_787 rfl ?_
        refine gk_iload_n dL_law_788 rfl ?_
        refine gk_iconst (v := 1) dL_law_789 rfl ?_
        refine gk_iadd dL_law_790 ?_
        refine gk_sld dL_law_791 rfl h.1 ?_
        replace h := h.2
        refine gk_sload_n dL_law_792 rfl ?_
        refine gk_iload_n dL_law_793 rfl ?_
        refine gk_iconst (v := 2) dL_law_794 rfl ?_
        refine gk_iadd dL_law_795 ?_
        refine gk_sld dL_law_796 rfl h.1 ?_
        replace h := h.2
        refine gk_callV (as := [_, _]) (rest := []) (ctX7_arm h) dL_law_797 rfl rfl wvL_113 wcX7_arm rfl (Nat.le_of_ble_eq_true rfl) ⟨Nat.le_refl _, Nat.le_refl _⟩ (fun h9 => absurd rfl h9) (Nat.le_of_ble_eq_true rfl) rfl (fun v G2 S797 hq => ?_)
        obtain ⟨rfl, r797, rfl, h⟩ := hq
        refine gk_aload_n dL_law_800 rfl ?_
        refine gk_sload_n dL_law_801 rfl ?_
        refine gk_iload_n dL_law_802 rfl ?_
        refine gk_iconst (v := 1) dL_law_803 rfl ?_
        refine gk_iadd dL_law_804 ?_
        refine gk_sld dL_law_805 rfl h.1 ?_
        replace h := h.2
        refine gk_sload_n dL_law_806 rfl ?_
        refine gk_iload_n dL_law_807 rfl ?_
        refine gk_iconst (v := 2) dL_law_808 rfl ?_
        refine gk_iadd dL_law_809 ?_
        refine gk_sld dL_law_810 rfl h.1 ?_
        replace h := h.2
        refine gk_callV (as := [_, _]) (rest := [_]) (ctX8_arm h) dL_law_811 rfl rfl wvL_116 wcX8_arm rfl (Nat.le_of_ble_eq_true rfl) ⟨Nat.le_refl _, Nat.le_refl _⟩ (fun h9 => absurd rfl h9) (Nat.le_of_ble_eq_true rfl) rfl (fun v G2 S811 hq => ?_)
        obtain ⟨rfl, r811, rfl, h⟩ := hq
        refine gk_icmp_eq (tgt := 1137) dL_law_814 (by decide) (fun c814 => ?_) (fun c814 => ?_)
        · replace h := h.1 c814
          exact gk_less (gz_le_s rfl (gz_le_s rfl (gz_le_s rfl (gz_le_s rfl gz_le_0)))) (oL_law_1137 (fun y0 S h => ih y0 S h) _ _ h)
        · replace h := h.2 c814
          refine gk_iconst (v := 0) dL_law_817 rfl ?_
          exact gk_iret dL_law_818 rfl rfl rfl rfl ⟨rfl, _, rfl, h⟩
      · replace h := h.2.2.2.2.2.2.2.2.2.2.2.2.2.2.2.2.2.2.2.2.2.2.2.2.2.2.1 hc
        refine gk_tableIn (off := 786) (tgt := 819) dL_law_33 (by omega) (by omega) (by rw [hc]; rfl) (by decide) ?_
        refine gk_aload_n dL_law_819 rfl ?_
        refine gk_sload_n dL_law_820 rfl ?_
        refine gk_iload_n dL_law_821 rfl ?_
        refine gk_iconst (v := 1) dL_law_822 rfl ?_
        refine gk_iadd dL_law_823 ?_
        refine gk_sld dL_law_824 rfl h.1 ?_
        replace h := h.2
        refine gk_sload_n dL_law_825 rfl ?_
        refine gk_iload_n dL_law_826 rfl ?_
        refine gk_iconst (v := 2) dL_law_827 rfl ?_
        refine gk_iadd dL_law_828 ?_
        refine gk_sld dL_law_829 rfl h.1 ?_
        replace h := h.2
        refine gk_callV (as := [_, _]) (rest := []) (ctX7_secret h) dL_law_830 rfl rfl wvL_117 wcX7_secret rfl (Nat.le_of_ble_eq_true rfl) ⟨Nat.le_refl _, Nat.le_refl _⟩ (fun h9 => absurd rfl h9) (Nat.le_of_ble_eq_true rfl) rfl (fun v G2 S830 hq => ?_)
        obtain ⟨rfl, r830, rfl, h⟩ := hq
        refine gk_aload_n dL_law_833 rfl ?_
        refine gk_sload_n dL_law_834 rfl ?_
        refine gk_iload_n dL_law_835 rfl ?_
        refine gk_iconst (v := 1) dL_law_836 rfl ?_
        refine gk_iadd dL_law_837 ?_
        refine gk_sld dL_law_838 rfl h.1 ?_
        replace h := h.2
        refine gk_sload_n dL_law_839 rfl ?_
        refine gk_iload_n dL_law_840 rfl ?_
        refine gk_iconst (v := 2) dL_law_841 rfl ?_
        refine gk_iadd dL_law_842 ?_
        refine gk_sld dL_law_843 rfl h.1 ?_
        replace h := h.2
        refine gk_callV (as := [_, _]) (rest := [_]) (ctX8_secret h) dL_law_844 rfl rfl wvL_120 wcX8_secret rfl (Nat.le_of_ble_eq_true rfl) ⟨Nat.le_refl _, Nat.le_refl _⟩ (fun h9 => absurd rfl h9) (Nat.le_of_ble_eq_true rfl) rfl (fun v G2 S844 hq => ?_)
        obtain ⟨rfl, r844, rfl, h⟩ := hq
        refine gk_icmp_eq (tgt := 1137) dL_law_847 (by decide) (fun c847 => ?_) (fun c847 => ?_)
        · replace h := h.1 c847
          exact gk_less (gz_le_s rfl (gz_le_s rfl (gz_le_s rfl (gz_le_s rfl gz_le_0)))) (oL_law_1137 (fun y0 S h => ih y0 S h) _ _ h)
        · replace h := h.2 c847
          refine gk_iconst (v := 0) dL_law_850 rfl ?_
          exact gk_iret dL_law_851 rfl rfl rfl rfl ⟨rfl, _, rfl, h⟩
      · replace h := h.2.2.2.2.2.2.2.2.2.2.2.2.2.2.2.2.2.2.2.2.2.2.2.2.2.2.2.1 hc
        refine gk_tableIn (off := 819) (tgt := 852) dL_law_33 (by omega) (by omega) (by rw [hc]; rfl) (by decide) ?_
        refine gk_aload_n dL_law_852 rfl ?_
        refine gk_sload_n dL_law_853 rfl ?_
        refine gk_iload_n dL_law_854 rfl ?_
        refine gk_iconst (v := 1) dL_law_855 rfl ?_
        refine gk_iadd dL_law_856 ?_
        refine gk_sld dL_law_857 rfl h.1 ?_
        replace h := h.2
        refine gk_sload_n dL_law_858 rfl ?_
        refine gk_iload_n dL_law_859 rfl ?_
        refine gk_iconst (v := 2) dL_law_860 rfl ?_
        refine gk_iadd dL_law_861 ?_
        refine gk_sld dL_law_862 rfl h.1 ?_
        replace h := h.2
        refine gk_sload_n dL_law_863 rfl ?_
        refine gk_iload_n dL_law_864 rfl ?_
        refine gk_iconst (v := 3) dL_law_865 rfl ?_
        refine gk_iadd dL_law_866 ?_
        refine gk_sld dL_law_867 rfl h.1 ?_
        replace h := h.2
        refine gk_callV (as := [_, _, _]) (rest := []) (ctX7_sheet h) dL_law_868 rfl rfl wvL_121 wcX7_sheet rfl (Nat.le_of_ble_eq_true rfl) ⟨Nat.le_refl _, Nat.le_refl _⟩ (fun h9 => absurd rfl h9) (Nat.le_of_ble_eq_true rfl) rfl (fun v G2 S868 hq => ?_)
        obtain ⟨rfl, r868, rfl, h⟩ := hq
        refine gk_aload_n dL_law_871 rfl ?_
        refine gk_sload_n dL_law_872 rfl ?_
        refine gk_iload_n dL_law_873 rfl ?_
        refine gk_iconst (v := 1) dL_law_874 rfl ?_
        refine gk_iadd dL_law_875 ?_
        refine gk_sld dL_law_876 rfl h.1 ?_
        replace h := h.2
        refine gk_sload_n dL_law_877 rfl ?_
        refine gk_iload_n dL_law_878 rfl ?_
        refine gk_iconst (v := 2) dL_law_879 rfl ?_
        refine gk_iadd dL_law_880 ?_
        refine gk_sld dL_law_881 rfl h.1 ?_
        replace h := h.2
        refine gk_sload_n dL_law_882 rfl ?_
        refine gk_iload_n dL_law_883 rfl ?_
        refine gk_iconst (v := 3) dL_law_884 rfl ?_
        refine gk_iadd dL_law_885 ?_
        refine gk_sld dL_law_886 rfl h.1 ?_
        replace h := h.2
        refine gk_callV (as := [_, _, _]) (rest := [_]) (ctX8_sheet h) dL_law_887 rfl rfl wvL_124 wcX8_sheet rfl (Nat.le_of_ble_eq_true rfl) ⟨Nat.le_refl _, Nat.le_refl _⟩ (fun h9 => absurd rfl h9) (Nat.le_of_ble_eq_true rfl) rfl (fun v G2 S887 hq => ?_)
        obtain ⟨rfl, r887, rfl, h⟩ := hq
        refine gk_icmp_eq (tgt := 1137) dL_law_890 (by decide) (fun c890 => ?_) (fun c890 => ?_)
        · replace h := h.1 c890
          exact gk_less (gz_le_s rfl (gz_le_s rfl (gz_le_s rfl (gz_le_s rfl gz_le_0)))) (oL_law_1137 (fun y0 S h => ih y0 S h) _ _ h)
        · replace h := h.2 c890
          refine gk_iconst (v := 0) dL_law_893 rfl ?_
          exact gk_iret dL_law_894 rfl rfl rfl rfl ⟨rfl, _, rfl, h⟩
      · replace h := h.2.2.2.2.2.2.2.2.2.2.2.2.2.2.2.2.2.2.2.2.2.2.2.2.2.2.2.2.1 hc
        refine gk_tableIn (off := 862) (tgt := 895) dL_law_33 (by omega) (by omega) (by rw [hc]; rfl) (by decide) ?_
        refine gk_aload_n dL_law_895 rfl ?_
        refine gk_sload_n dL_law_896 rfl ?_
        refine gk_iload_n dL_law_897 rfl ?_
        refine gk_iconst (v := 1) dL_law_898 rfl ?_
        refine gk_iadd dL_law_899 ?_
        refine gk_sld dL_law_900 rfl h.1 ?_
        replace h := h.2
        refine gk_callV (as := [_]) (rest := []) (ctX7_lose h) dL_law_901 rfl rfl wvL_125 wcX7_lose rfl (Nat.le_of_ble_eq_true rfl) ⟨Nat.le_refl _, Nat.le_refl _⟩ (fun h9 => absurd rfl h9) (Nat.le_of_ble_eq_true rfl) rfl (fun v G2 S901 hq => ?_)
        obtain ⟨rfl, r901, rfl, h⟩ := hq
        refine gk_aload_n dL_law_904 rfl ?_
        refine gk_sload_n dL_law_905 rfl ?_
        refine gk_iload_n dL_law_906 rfl ?_
        refine gk_iconst (v := 1) dL_law_907 rfl ?_
        refine gk_iadd dL_law_908 ?_
        refine gk_sld dL_law_909 rfl h.1 ?_
        replace h := h.2
        refine gk_callV (as := [_]) (rest := [_]) (ctX8_lose h) dL_law_910 rfl rfl wvL_128 wcX8_lose rfl (Nat.le_of_ble_eq_true rfl) ⟨Nat.le_refl _, Nat.le_refl _⟩ (fun h9 => absurd rfl h9) (Nat.le_of_ble_eq_true rfl) rfl (fun v G2 S910 hq => ?_)
        obtain ⟨rfl, r910, rfl, h⟩ := hq
        refine gk_icmp_eq (tgt := 1137) dL_law_913 (by decide) (fun c913 => ?_) (fun c913 => ?_)
        · replace h := h.1 c913
          exact gk_less (gz_le_s rfl (gz_le_s rfl (gz_le_s rfl (gz_le_s rfl gz_le_0)))) (oL_law_1137 (fun y0 S h => ih y0 S h) _ _ h)
        · replace h := h.2 c913
          refine gk_iconst (v := 0) dL_law_916 rfl ?_
          exact gk_iret dL_law_917 rfl rfl rfl rfl ⟨rfl, _, rfl, h⟩
      · replace h := h.2.2.2.2.2.2.2.2.2.2.2.2.2.2.2.2.2.2.2.2.2.2.2.2.2.2.2.2.2.1 hc
        refine gk_tableIn (off := 885) (tgt := 918) dL_law_33 (by omega) (by omega) (by rw [hc]; rfl) (by decide) ?_
        refine gk_aload_n dL_law_918 rfl ?_
        refine gk_sload_n dL_law_919 rfl ?_
        refine gk_iload_n dL_law_920 rfl ?_
        refine gk_iconst (v := 1) dL_law_921 rfl ?_
        refine gk_iadd dL_law_922 ?_
        refine gk_sld dL_law_923 rfl h.1 ?_
        replace h := h.2
        refine gk_sload_n dL_law_924 rfl ?_
        refine gk_iload_n dL_law_925 rfl ?_
        refine gk_iconst (v := 2) dL_law_926 rfl ?_
        refine gk_iadd dL_law_927 ?_
        refine gk_sld dL_law_928 rfl h.1 ?_
        replace h := h.2
        refine gk_sload_n dL_law_929 rfl ?_
        refine gk_iload_n dL_law_930 rfl ?_
        refine gk_iconst (v := 3) dL_law_931 rfl ?_
        refine gk_iadd dL_law_932 ?_
        refine gk_sld dL_law_933 rfl h.1 ?_
        replace h := h.2
        refine gk_sload_n dL_law_934 rfl ?_
        refine gk_iload_n dL_law_935 rfl ?_
        refine gk_iconst (v := 4) dL_law_936 rfl ?_
        refine gk_iadd dL_law_937 ?_
        refine gk_sld dL_law_938 rfl h.1 ?_
        replace h := h.2
        refine gk_callV (as := [_, _, _, _]) (rest := []) (ctX7_lay h) dL_law_939 rfl rfl wvL_129 wcX7_lay rfl (Nat.le_of_ble_eq_true rfl) ⟨Nat.le_refl _, Nat.le_refl _⟩ (fun h9 => absurd rfl h9) (Nat.le_of_ble_eq_true rfl) rfl (fun v G2 S939 hq => ?_)
        obtain ⟨rfl, r939, rfl, h⟩ := hq
        refine gk_aload_n dL_law_942 rfl ?_
        refine gk_sload_n dL_law_943 rfl ?_
        refine gk_iload_n dL_law_944 rfl ?_
        refine gk_iconst (v := 1) dL_law_945 rfl ?_
        refine gk_iadd dL_law_946 ?_
        refine gk_sld dL_law_947 rfl h.1 ?_
        replace h := h.2
        refine gk_sload_n dL_law_948 rfl ?_
        refine gk_iload_n dL_law_949 rfl ?_
        refine gk_iconst (v := 2) dL_law_950 rfl ?_
        refine gk_iadd dL_law_951 ?_
        refine gk_sld dL_law_952 rfl h.1 ?_
        replace h := h.2
        refine gk_sload_n dL_law_953 rfl ?_
        refine gk_iload_n dL_law_954 rfl ?_
        refine gk_iconst (v := 3) dL_law_955 rfl ?_
        refine gk_iadd dL_law_956 ?_
        refine gk_sld dL_law_957 rfl h.1 ?_
        replace h := h.2
        refine gk_sload_n dL_law_958 rfl ?_
        refine gk_iload_n dL_law_959 rfl ?_
        refine gk_iconst (v := 4) dL_law_960 rfl ?_
        refine gk_iadd dL_law_961 ?_
        refine gk_sld dL_law_962 rfl h.1 ?_
        replace h := h.2
        refine gk_callV (as := [_, _, _, _]) (rest := [_]) (ctX8_lay h) dL_law_963 rfl rfl wvL_133 wcX8_lay rfl (Nat.le_of_ble_eq_true rfl) ⟨Nat.le_refl _, Nat.le_refl _⟩ (fun h9 => absurd rfl h9) (Nat.le_of_ble_eq_true rfl) rfl (fun v G2 S963 hq => ?_)
        obtain ⟨rfl, r963, rfl, h⟩ := hq
        refine gk_icmp_eq (tgt := 1137) dL_law_966 (by decide) (fun c966 => ?_) (fun c966 => ?_)
        · replace h := h.1 c966
          exact gk_less (gz_le_s rfl (gz_le_s rfl (gz_le_s rfl (gz_le_s rfl gz_le_0)))) (oL_law_1137 (fun y0 S h => ih y0 S h) _ _ h)
        · replace h := h.2 c966
          refine gk_iconst (v := 0) dL_law_969 rfl ?_
          exact gk_iret dL_law_970 rfl rfl rfl rfl ⟨rfl, _, rfl, h⟩
      · replace h := h.2.2.2.2.2.2.2.2.2.2.2.2.2.2.2.2.2.2.2.2.2.2.2.2.2.2.2.2.2.2.1 hc
        refine gk_tableIn (off := 938) (tgt := 971) dL_law_33 (by omega) (by omega) (by rw [hc]; rfl) (by decide) ?_
        refine gk_aload_n dL_law_971 rfl ?_
        refine gk_sload_n dL_law_972 rfl ?_
        refine gk_iload_n dL_law_973 rfl ?_
        refine gk_iconst (v := 1) dL_law_974 rfl ?_
        refine gk_iadd dL_law_975 ?_
        refine gk_sld dL_law_976 rfl h.1 ?_
        replace h := h.2
        refine gk_sload_n dL_law_977 rfl ?_
        refine gk_iload_n dL_law_978 rfl ?_
        refine gk_iconst (v := 2) dL_law_979 rfl ?_
        refine gk_iadd dL_law_980 ?_
        refine gk_sld dL_law_981 rfl h.1 ?_
        replace h := h.2
        refine gk_sload_n dL_law_982 rfl ?_
        refine gk_iload_n dL_law_983 rfl ?_
        refine gk_iconst (v := 3) dL_law_984 rfl ?_
        refine gk_iadd dL_law_985 ?_
        refine gk_sld dL_law_986 rfl h.1 ?_
        replace h := h.2
        refine gk_callV (as := [_, _, _]) (rest := []) (ctX7_get h) dL_law_987 rfl rfl wvL_134 wcX7_get rfl (Nat.le_of_ble_eq_true rfl) ⟨Nat.le_refl _, Nat.le_refl _⟩ (fun h9 => absurd rfl h9) (Nat.le_of_ble_eq_true rfl) rfl (fun v G2 S987 hq => ?_)
        obtain ⟨rfl, r987, rfl, h⟩ := hq
        refine gk_aload_n dL_law_990 rfl ?_
        refine gk_sload_n dL_law_991 rfl ?_
        refine gk_iload_n dL_law_992 rfl ?_
        refine gk_iconst (v := 1) dL_law_993 rfl ?_
        refine gk_iadd dL_law_994 ?_
        refine gk_sld dL_law_995 rfl h.1 ?_
        replace h := h.2
        refine gk_sload_n dL_law_996 rfl ?_
        refine gk_iload_n dL_law_997 rfl ?_
        refine gk_iconst (v := 2) dL_law_998 rfl ?_
        refine gk_iadd dL_law_999 ?_
        refine gk_sld dL_law_1000 rfl h.1 ?_
        replace h := h.2
        refine gk_sload_n dL_law_1001 rfl ?_
        refine gk_iload_n dL_law_1002 rfl ?_
        refine gk_iconst (v := 3) dL_law_1003 rfl ?_
        refine gk_iadd dL_law_1004 ?_
        refine gk_sld dL_law_1005 rfl h.1 ?_
        replace h := h.2
        refine gk_callV (as := [_, _, _]) (rest := [_]) (ctX8_get h) dL_law_1006 rfl rfl wvL_137 wcX8_get rfl (Nat.le_of_ble_eq_true rfl) ⟨Nat.le_refl _, Nat.le_refl _⟩ (fun h9 => absurd rfl h9) (Nat.le_of_ble_eq_true rfl) rfl (fun v G2 S1006 hq => ?_)
        obtain ⟨rfl, r1006, rfl, h⟩ := hq
        refine gk_icmp_eq (tgt := 1137) dL_law_1009 (by decide) (fun c1009 => ?_) (fun c1009 => ?_)
        · replace h := h.1 c1009
          exact gk_less (gz_le_s rfl (gz_le_s rfl (gz_le_s rfl (gz_le_s rfl gz_le_0)))) (oL_law_1137 (fun y0 S h => ih y0 S h) _ _ h)
        · replace h := h.2 c1009
          refine gk_iconst (v := 0) dL_law_1012 rfl ?_
          exact gk_iret dL_law_1013 rfl rfl rfl rfl ⟨rfl, _, rfl, h⟩
      · replace h := h.2.2.2.2.2.2.2.2.2.2.2.2.2.2.2.2.2.2.2.2.2.2.2.2.2.2.2.2.2.2.2.1 hc
        refine gk_tableIn (off := 981) (tgt := 1014) dL_law_33 (by omega) (by omega) (by rw [hc]; rfl) (by decide) ?_
        refine gk_aload_n dL_law_1014 rfl ?_
        refine gk_sload_n dL_law_1015 rfl ?_
        refine gk_iload_n dL_law_1016 rfl ?_
        refine gk_iconst (v := 1) dL_law_1017 rfl ?_
        refine gk_iadd dL_law_1018 ?_
        refine gk_sld dL_law_1019 rfl h.1 ?_
        replace h := h.2
        refine gk_sload_n dL_law_1020 rfl ?_
        refine gk_iload_n dL_law_1021 rfl ?_
        refine gk_iconst (v := 2) dL_law_1022 rfl ?_
        refine gk_iadd dL_law_1023 ?_
        refine gk_sld dL_law_1024 rfl h.1 ?_
        replace h := h.2
        refine gk_sload_n dL_law_1025 rfl ?_
        refine gk_iload_n dL_law_1026 rfl ?_
        refine gk_iconst (v := 3) dL_law_1027 rfl ?_
        refine gk_iadd dL_law_1028 ?_
        refine gk_sld dL_law_1029 rfl h.1 ?_
        replace h := h.2
        refine gk_sload_n dL_law_1030 rfl ?_
        refine gk_iload_n dL_law_1031 rfl ?_
        refine gk_iconst (v := 4) dL_law_1032 rfl ?_
        refine gk_iadd dL_law_1033 ?_
        refine gk_sld dL_law_1034 rfl h.1 ?_
        replace h := h.2
        refine gk_sload_n dL_law_1035 rfl ?_
        refine gk_iload_n dL_law_1036 rfl ?_
        refine gk_iconst (v := 5) dL_law_1037 rfl ?_
        refine gk_iadd dL_law_1038 ?_
        refine gk_sld dL_law_1039 rfl h.1 ?_
        replace h := h.2
        refine gk_callV (as := [_, _, _, _, _]) (rest := []) (ctX7_copy h) dL_law_1040 rfl rfl wvL_138 wcX7_copy rfl (Nat.le_of_ble_eq_true rfl) ⟨Nat.le_refl _, Nat.le_refl _⟩ (fun h9 => absurd rfl h9) (Nat.le_of_ble_eq_true rfl) rfl (fun v G2 S1040 hq => ?_)
        obtain ⟨rfl, r1040, rfl, h⟩ := hq
        refine gk_aload_n dL_law_1043 rfl ?_
        refine gk_sload_n dL_law_1044 rfl ?_
        refine gk_iload_n dL_law_1045 rfl ?_
        refine gk_iconst (v := 1) dL_law_1046 rfl ?_
        refine gk_iadd dL_law_1047 ?_
        refine gk_sld dL_law_1048 rfl h.1 ?_
        replace h := h.2
        refine gk_sload_n dL_law_1049 rfl ?_
        refine gk_iload_n dL_law_1050 rfl ?_
        refine gk_iconst (v := 2) dL_law_1051 rfl ?_
        refine gk_iadd dL_law_1052 ?_
        refine gk_sld dL_law_1053 rfl h.1 ?_
        replace h := h.2
        refine gk_sload_n dL_law_1054 rfl ?_
        refine gk_iload_n dL_law_1055 rfl ?_
        refine gk_iconst (v := 3) dL_law_1056 rfl ?_
        refine gk_iadd dL_law_1057 ?_
        refine gk_sld dL_law_1058 rfl h.1 ?_
        replace h := h.2
        refine gk_sload_n dL_law_1059 rfl ?_
        refine gk_iload_n dL_law_1060 rfl ?_
        refine gk_iconst (v := 4) dL_law_1061 rfl ?_
        refine gk_iadd dL_law_1062 ?_
        refine gk_sld dL_law_1063 rfl h.1 ?_
        replace h := h.2
        refine gk_sload_n dL_law_1064 rfl ?_
        refine gk_iload_n dL_law_1065 rfl ?_
        refine gk_iconst (v := 5) dL_law_1066 rfl ?_
        refine gk_iadd dL_law_1067 ?_
        refine gk_sld dL_law_1068 rfl h.1 ?_
        replace h := h.2
        refine gk_callV (as := [_, _, _, _, _]) (rest := [_]) (ctX8_copy h) dL_law_1069 rfl rfl wvL_142 wcX8_copy rfl (Nat.le_of_ble_eq_true rfl) ⟨Nat.le_refl _, Nat.le_refl _⟩ (fun h9 => absurd rfl h9) (Nat.le_of_ble_eq_true rfl) rfl (fun v G2 S1069 hq => ?_)
        obtain ⟨rfl, r1069, rfl, h⟩ := hq
        refine gk_icmp_eq (tgt := 1137) dL_law_1072 (by decide) (fun c1072 => ?_) (fun c1072 => ?_)
        · replace h := h.1 c1072
          exact gk_less (gz_le_s rfl (gz_le_s rfl (gz_le_s rfl (gz_le_s rfl gz_le_0)))) (oL_law_1137 (fun y0 S h => ih y0 S h) _ _ h)
        · replace h := h.2 c1072
          refine gk_iconst (v := 0) dL_law_1075 rfl ?_
          exact gk_iret dL_law_1076 rfl rfl rfl rfl ⟨rfl, _, rfl, h⟩
      · replace h := h.2.2.2.2.2.2.2.2.2.2.2.2.2.2.2.2.2.2.2.2.2.2.2.2.2.2.2.2.2.2.2.2.1 hc
        refine gk_tableIn (off := 1044) (tgt := 1077) dL_law_33 (by omega) (by omega) (by rw [hc]; rfl) (by decide) ?_
        refine gk_aload_n dL_law_1077 rfl ?_
        refine gk_sload_n dL_law_1078 rfl ?_
        refine gk_iload_n dL_law_1079 rfl ?_
        refine gk_iconst (v := 1) dL_law_1080 rfl ?_
        refine gk_iadd dL_law_1081 ?_
        refine gk_sld dL_law_1082 rfl h.1 ?_
        replace h := h.2
        refine gk_callV (as := [_]) (rest := []) (ctX7_write h) dL_law_1083 rfl rfl wvL_143 wcX7_write rfl (Nat.le_of_ble_eq_true rfl) ⟨Nat.le_refl _, Nat.le_refl _⟩ (fun h9 => absurd rfl h9) (Nat.le_of_ble_eq_true rfl) rfl (fun v G2 S1083 hq => ?_)
        obtain ⟨rfl, r1083, rfl, h⟩ := hq
        refine gk_aload_n dL_law_1086 rfl ?_
        refine gk_sload_n dL_law_1087 rfl ?_
        refine gk_iload_n dL_law_1088 rfl ?_
        refine gk_iconst (v := 1) dL_law_1089 rfl ?_
        refine gk_iadd dL_law_1090 ?_
        refine gk_sld dL_law_1091 rfl h.1 ?_
        replace h := h.2
        refine gk_callV (as := [_]) (rest := [_]) (ctX8_write h) dL_law_1092 rfl rfl wvL_146 wcX8_write rfl (Nat.le_of_ble_eq_true rfl) ⟨Nat.le_refl _, Nat.le_refl _⟩ (fun h9 => absurd rfl h9) (Nat.le_of_ble_eq_true rfl) rfl (fun v G2 S1092 hq => ?_)
        obtain ⟨rfl, r1092, rfl, h⟩ := hq
        refine gk_icmp_eq (tgt := 1137) dL_law_1095 (by decide) (fun c1095 => ?_) (fun c1095 => ?_)
        · replace h := h.1 c1095
          exact gk_less (gz_le_s rfl (gz_le_s rfl (gz_le_s rfl (gz_le_s rfl gz_le_0)))) (oL_law_1137 (fun y0 S h => ih y0 S h) _ _ h)
        · replace h := h.2 c1095
          refine gk_iconst (v := 0) dL_law_1098 rfl ?_
          exact gk_iret dL_law_1099 rfl rfl rfl rfl ⟨rfl, _, rfl, h⟩
      · replace h := h.2.2.2.2.2.2.2.2.2.2.2.2.2.2.2.2.2.2.2.2.2.2.2.2.2.2.2.2.2.2.2.2.2.1 hc
        refine gk_tableIn (off := 1067) (tgt := 1100) dL_law_33 (by omega) (by omega) (by rw [hc]; rfl) (by decide) ?_
        refine gk_aload_n dL_law_1100 rfl ?_
        refine gk_sload_n dL_law_1101 rfl ?_
        refine gk_iload_n dL_law_1102 rfl ?_
        refine gk_iconst (v := 1) dL_law_1103 rfl ?_
        refine gk_iadd dL_law_1104 ?_
        refine gk_sld dL_law_1105 rfl h.1 ?_
        replace h := h.2
        refine gk_callV (as := [_]) (rest := []) (ctX7_count h) dL_law_1106 rfl rfl wvL_147 wcX7_count rfl (Nat.le_of_ble_eq_true rfl) ⟨Nat.le_refl _, Nat.le_refl _⟩ (fun h9 => absurd rfl h9) (Nat.le_of_ble_eq_true rfl) rfl (fun v G2 S1106 hq => ?_)
        obtain ⟨rfl, r1106, rfl, h⟩ := hq
        refine gk_aload_n dL_law_1109 rfl ?_
        refine gk_sload_n dL_law_1110 rfl ?_
        refine gk_iload_n dL_law_1111 rfl ?_
        refine gk_iconst (v := 1) dL_law_1112 rfl ?_
        refine gk_iadd dL_law_1113 ?_
        refine gk_sld dL_law_1114 rfl h.1 ?_
        replace h := h.2
        refine gk_callV (as := [_]) (rest := [_]) (ctX8_count h) dL_law_1115 rfl rfl wvL_150 wcX8_count rfl (Nat.le_of_ble_eq_true rfl) ⟨Nat.le_refl _, Nat.le_refl _⟩ (fun h9 => absurd rfl h9) (Nat.le_of_ble_eq_true rfl) rfl (fun v G2 S1115 hq => ?_)
        obtain ⟨rfl, r1115, rfl, h⟩ := hq
        refine gk_icmp_eq (tgt := 1137) dL_law_1118 (by decide) (fun c1118 => ?_) (fun c1118 => ?_)
        · replace h := h.1 c1118
          exact gk_less (gz_le_s rfl (gz_le_s rfl (gz_le_s rfl (gz_le_s rfl gz_le_0)))) (oL_law_1137 (fun y0 S h => ih y0 S h) _ _ h)
        · replace h := h.2 c1118
          refine gk_iconst (v := 0) dL_law_1121 rfl ?_
          exact gk_iret dL_law_1122 rfl rfl rfl rfl ⟨rfl, _, rfl, h⟩
      · replace h := h.2.2.2.2.2.2.2.2.2.2.2.2.2.2.2.2.2.2.2.2.2.2.2.2.2.2.2.2.2.2.2.2.2.2 hc
        refine gk_tableIn (off := 1090) (tgt := 1123) dL_law_33 (by omega) (by omega) (by rw [hc]; rfl) (by decide) ?_
        refine gk_aload_n dL_law_1123 rfl ?_
        refine gk_callV (as := []) (rest := []) (ctX7_digest h) dL_law_1124 rfl rfl wvL_151 wcX7_digest rfl (Nat.le_of_ble_eq_true rfl) ⟨Nat.le_refl _, Nat.le_refl _⟩ (fun h9 => absurd rfl h9) (Nat.le_of_ble_eq_true rfl) rfl (fun v G2 S1124 hq => ?_)
        obtain ⟨rfl, r1124, rfl, h⟩ := hq
        refine gk_aload_n dL_law_1127 rfl ?_
        refine gk_callV (as := []) (rest := [_]) (ctX8_digest h) dL_law_1128 rfl rfl wvL_155 wcX8_digest rfl (Nat.le_of_ble_eq_true rfl) ⟨Nat.le_refl _, Nat.le_refl _⟩ (fun h9 => absurd rfl h9) (Nat.le_of_ble_eq_true rfl) rfl (fun v G2 S1128 hq => ?_)
        obtain ⟨rfl, r1128, rfl, h⟩ := hq
        refine gk_lcmp dL_law_1131 ?_
        refine gk_if_eq (tgt := 1137) dL_law_1132 (by decide) (fun c1132 => ?_) (fun c1132 => ?_)
        · replace h := h.1 c1132
          exact gk_less (gz_le_s rfl (gz_le_s rfl (gz_le_s rfl (gz_le_s rfl gz_le_0)))) (oL_law_1137 (fun y0 S h => ih y0 S h) _ _ h)
        · replace h := h.2 c1132
          refine gk_iconst (v := 0) dL_law_1135 rfl ?_
          exact gk_iret dL_law_1136 rfl rfl rfl rfl ⟨rfl, _, rfl, h⟩
