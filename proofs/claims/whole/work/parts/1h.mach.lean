set_option maxHeartbeats 4000000 in
set_option maxRecDepth 100000 in
theorem oX8_copy_111 {E : gz_E} {Q : Int32 → gz_S → Prop} : ∀  (S : gz_S), wX8_copy_111 Q S → gz_k E mX8_copy (3, 0, 0, 73) 0 0 111 [some (.ref 45), none, none, none, none, none, none] [] gz_F S (gz_qi Q) := by
  intro S h
  unfold wX8_copy_111 at h
  refine gk_aload_n dX8_copy_111 rfl ?_
  refine gk_iconst (v := 2) dX8_copy_112 rfl ?_
  refine gk_callV (as := [_]) (rest := []) (ctX8_met h) dX8_copy_113 rfl rfl wvX8_108 wcX8_met rfl (Nat.le_of_ble_eq_true rfl) ⟨Nat.le_refl _, Nat.le_refl _⟩ (fun h9 => absurd rfl h9) (Nat.le_of_ble_eq_true rfl) rfl (fun v G2 S113 hq => ?_)
  obtain ⟨rfl, r113, rfl, h⟩ := hq
  exact gk_iret dX8_copy_116 rfl rfl rfl rfl ⟨rfl, _, rfl, h⟩
set_option maxHeartbeats 4000000 in
set_option maxRecDepth 100000 in
theorem oX8_copy_157 {E : gz_E} {Q : Int32 → gz_S → Prop} : ∀ (n : Nat) (x3 : Int32) (x4 : Int32) (x5 : Int32) (x6 : Int32) (S : gz_S), wX8_copy_157 Q n x3 x4 x5 x6 S → gz_k E mX8_copy (3, 0, 0, 73) 0 0 157 [some (.ref 45), none, none, some (.int x3), some (.int x4), some (.int x5), some (.int x6)] [] gz_F S (gz_qi Q) := by
  intro n
  induction n with
  | zero =>
    intro x3 x4 x5 x6 S h
    exact h.elim
  | succ n ih =>
    intro x3 x4 x5 x6 S h
    unfold wX8_copy_157 at h
    refine gk_iload dX8_copy_157 rfl ?_
    refine gk_iload dX8_copy_159 rfl ?_
    refine gk_icmp_ge (tgt := 192) dX8_copy_161 (by decide) (fun c161 => ?_) (fun c161 => ?_)
    · replace h := h.1 c161
      refine gk_iconst (v := 1) dX8_copy_192 rfl ?_
      exact gk_iret dX8_copy_193 rfl rfl rfl rfl ⟨rfl, _, rfl, h⟩
    · replace h := h.2 c161
      refine gk_aload_n dX8_copy_164 rfl ?_
      refine gk_getr dX8_copy_165 rfl rfl wfX8_16 ?_
      refine gk_bipush (v := 60) dX8_copy_168 rfl ?_
      refine gk_iload_n dX8_copy_170 rfl ?_
      refine gk_imul dX8_copy_171 ?_
      refine gk_iload dX8_copy_172 rfl ?_
      refine gk_iadd dX8_copy_174 ?_
      refine gk_iload dX8_copy_175 rfl ?_
      refine gk_iadd dX8_copy_177 ?_
      refine gk_aload_n dX8_copy_178 rfl ?_
      refine gk_getr dX8_copy_179 rfl rfl wfX8_19 ?_
      refine gk_iload dX8_copy_182 rfl ?_
      refine gk_iaload dX8_copy_184 rfl h.1 ?_
      replace h := h.2
      refine gk_iastore dX8_copy_185 rfl h.1 ?_
      replace h := h.2
      refine gk_nmS (fun S185 eS185 => ?_)
      replace h := h S185 eS185
      refine gk_iinc dX8_copy_186 rfl (Nat.le_of_ble_eq_true rfl) rfl rfl rfl ?_
      refine gk_goto (tgt := 157) dX8_copy_189 (by decide) ?_
      exact gk_less (gz_le_s rfl (gz_le_n (gz_le_n (gz_le_s rfl (gz_le_s rfl (gz_le_s rfl (gz_le_s rfl gz_le_0))))))) (ih _ _ _ _ _ h)
set_option maxHeartbeats 4000000 in
set_option maxRecDepth 100000 in
theorem oX8_copy_120 {E : gz_E} {Q : Int32 → gz_S → Prop} : ∀ (n : Nat) (x1 : Int32) (x2 : Int32) (x3 : Int32) (x4 : Int32) (x5 : Int32) (x6 : Int32) (S : gz_S), wX8_copy_120 Q n x1 x2 x3 x4 x5 x6 S → gz_k E mX8_copy (3, 0, 0, 73) 0 0 120 [some (.ref 45), some (.int x1), some (.int x2), some (.int x3), some (.int x4), some (.int x5), some (.int x6)] [] gz_F S (gz_qi Q) := by
  intro n
  induction n with
  | zero =>
    intro x1 x2 x3 x4 x5 x6 S h
    exact h.elim
  | succ n ih =>
    intro x1 x2 x3 x4 x5 x6 S h
    unfold wX8_copy_120 at h
    refine gk_iload dX8_copy_120 rfl ?_
    refine gk_iload dX8_copy_122 rfl ?_
    refine gk_icmp_ge (tgt := 154) dX8_copy_124 (by decide) (fun c124 => ?_) (fun c124 => ?_)
    · replace h := h.1 c124
      refine gk_iconst (v := 0) dX8_copy_154 rfl ?_
      refine gk_istore dX8_copy_155 (Nat.le_of_ble_eq_true rfl) rfl rfl ?_
      obtain ⟨m157, h⟩ := h
      exact gk_less (gz_le_s rfl (gz_le_n (gz_le_n (gz_le_s rfl (gz_le_s rfl (gz_le_s rfl (gz_le_s rfl gz_le_0))))))) (oX8_copy_157 m157 _ _ _ _ _ h)
    · replace h := h.2 c124
      refine gk_aload_n dX8_copy_127 rfl ?_
      refine gk_getr dX8_copy_128 rfl rfl wfX8_19 ?_
      refine gk_iload dX8_copy_131 rfl ?_
      refine gk_aload_n dX8_copy_133 rfl ?_
      refine gk_getr dX8_copy_134 rfl rfl wfX8_16 ?_
      refine gk_bipush (v := 60) dX8_copy_137 rfl ?_
      refine gk_iload_n dX8_copy_139 rfl ?_
      refine gk_imul dX8_copy_140 ?_
      refine gk_iload_n dX8_copy_141 rfl ?_
      refine gk_iadd dX8_copy_142 ?_
      refine gk_iload dX8_copy_143 rfl ?_
      refine gk_iadd dX8_copy_145 ?_
      refine gk_iaload dX8_copy_146 rfl h.1 ?_
      replace h := h.2
      refine gk_iastore dX8_copy_147 rfl h.1 ?_
      replace h := h.2
      refine gk_nmS (fun S147 eS147 => ?_)
      replace h := h S147 eS147
      refine gk_iinc dX8_copy_148 rfl (Nat.le_of_ble_eq_true rfl) rfl rfl rfl ?_
      refine gk_goto (tgt := 120) dX8_copy_151 (by decide) ?_
      exact gk_less (gz_le_s rfl (gz_le_s rfl (gz_le_s rfl (gz_le_s rfl (gz_le_s rfl (gz_le_s rfl (gz_le_s rfl gz_le_0))))))) (ih _ _ _ _ _ _ _ h)
set_option maxHeartbeats 4000000 in
set_option maxRecDepth 100000 in
theorem oX8_copy_35 {E : gz_E} {Q : Int32 → gz_S → Prop} : ∀  (S : gz_S), wX8_copy_35 Q S → gz_k E mX8_copy (3, 0, 0, 73) 0 0 35 [some (.ref 45), none, none, none, none, none, none] [] gz_F S (gz_qi Q) := by
  intro S h
  unfold wX8_copy_35 at h
  refine gk_aload_n dX8_copy_35 rfl ?_
  refine gk_iconst (v := 1) dX8_copy_36 rfl ?_
  refine gk_callV (as := [_]) (rest := []) (ctX8_met h) dX8_copy_37 rfl rfl wvX8_108 wcX8_met rfl (Nat.le_of_ble_eq_true rfl) ⟨Nat.le_refl _, Nat.le_refl _⟩ (fun h9 => absurd rfl h9) (Nat.le_of_ble_eq_true rfl) rfl (fun v G2 S37 hq => ?_)
  obtain ⟨rfl, r37, rfl, h⟩ := hq
  exact gk_iret dX8_copy_40 rfl rfl rfl rfl ⟨rfl, _, rfl, h⟩
set_option maxHeartbeats 4000000 in
set_option maxRecDepth 100000 in
theorem ctX8_copy {E : gz_E} {x1 : Int32} {x2 : Int32} {x3 : Int32} {x4 : Int32} {x5 : Int32} {S : gz_S} {Q : Int32 → gz_S → Prop} (h : wX8_copy x1 x2 x3 x4 x5 S Q) : gz_m E mX8_copy 3 0 0 [.ref 45, .int x1, .int x2, .int x3, .int x4, .int x5] gz_F S (gz_qi Q) := by
  refine gz_meet0 (L0 := [some (.ref 45), some (.int x1), some (.int x2), some (.int x3), some (.int x4), some (.int x5), none]) (by decide) rfl (Nat.le_of_ble_eq_true rfl) (by decide) ?_
  unfold wX8_copy at h
  refine gk_iload_n dX8_copy_0 rfl ?_
  refine gk_callS (as := [_]) (rest := []) (ctX8_isSheet h) dX8_copy_1 wvX8_102 wcX8_isSheet rfl (Nat.le_of_ble_eq_true rfl) ⟨Nat.le_refl _, Nat.le_refl _⟩ (fun h9 => absurd rfl h9) (Nat.le_of_ble_eq_true rfl) rfl (fun v G2 S1 hq => ?_)
  obtain ⟨rfl, r1, rfl, h⟩ := hq
  refine gk_if_eq (tgt := 14) dX8_copy_4 (by decide) (fun c4 => ?_) (fun c4 => ?_)
  · replace h := h.1 c4
    refine gk_bipush (v := (-2)) dX8_copy_14 rfl ?_
    exact gk_iret dX8_copy_16 rfl rfl rfl rfl ⟨rfl, _, rfl, h⟩
  · replace h := h.2 c4
    refine gk_iload_n dX8_copy_7 rfl ?_
    refine gk_callS (as := [_]) (rest := []) (ctX8_isSheet h) dX8_copy_8 wvX8_102 wcX8_isSheet rfl (Nat.le_of_ble_eq_true rfl) ⟨Nat.le_refl _, Nat.le_refl _⟩ (fun h9 => absurd rfl h9) (Nat.le_of_ble_eq_true rfl) rfl (fun v G2 S8 hq => ?_)
    obtain ⟨rfl, r8, rfl, h⟩ := hq
    refine gk_if_ne (tgt := 17) dX8_copy_11 (by decide) (fun c11 => ?_) (fun c11 => ?_)
    · replace h := h.1 c11
      refine gk_aload_n dX8_copy_17 rfl ?_
      refine gk_getr dX8_copy_18 rfl rfl wfX8_7 ?_
      refine gk_iload_n dX8_copy_21 rfl ?_
      refine gk_iaload dX8_copy_22 rfl h.1 ?_
      replace h := h.2
      refine gk_if_lt (tgt := 35) dX8_copy_23 (by decide) (fun c23 => ?_) (fun c23 => ?_)
      · replace h := h.1 c23
        exact gk_less (gz_le_s rfl (gz_le_n (gz_le_n (gz_le_n (gz_le_n (gz_le_n (gz_le_n gz_le_0))))))) (oX8_copy_35 _ h)
      · replace h := h.2 c23
        refine gk_aload_n dX8_copy_26 rfl ?_
        refine gk_getr dX8_copy_27 rfl rfl wfX8_7 ?_
        refine gk_iload_n dX8_copy_30 rfl ?_
        refine gk_iaload dX8_copy_31 rfl h.1 ?_
        replace h := h.2
        refine gk_if_ge (tgt := 41) dX8_copy_32 (by decide) (fun c32 => ?_) (fun c32 => ?_)
        · replace h := h.1 c32
          refine gk_aload_n dX8_copy_41 rfl ?_
          refine gk_getr dX8_copy_42 rfl rfl wfX8_7 ?_
          refine gk_iload_n dX8_copy_45 rfl ?_
          refine gk_iaload dX8_copy_46 rfl h.1 ?_
          replace h := h.2
          refine gk_aload_n dX8_copy_47 rfl ?_
          refine gk_getr dX8_copy_48 rfl rfl wfX8_7 ?_
          refine gk_iload_n dX8_copy_51 rfl ?_
          refine gk_iaload dX8_copy_52 rfl h.1 ?_
          replace h := h.2
          refine gk_icmp_eq (tgt := 62) dX8_copy_53 (by decide) (fun c53 => ?_) (fun c53 => ?_)
          · replace h := h.1 c53
            refine gk_iload_n dX8_copy_62 rfl ?_
            refine gk_if_lt (tgt := 111) dX8_copy_63 (by decide) (fun c63 => ?_) (fun c63 => ?_)
            · replace h := h.1 c63
              exact gk_less (gz_le_s rfl (gz_le_n (gz_le_n (gz_le_n (gz_le_n (gz_le_n (gz_le_n gz_le_0))))))) (oX8_copy_111 _ h)
            · replace h := h.2 c63
              refine gk_iload dX8_copy_66 rfl ?_
              refine gk_if_lt (tgt := 111) dX8_copy_68 (by decide) (fun c68 => ?_) (fun c68 => ?_)
              · replace h := h.1 c68
                exact gk_less (gz_le_s rfl (gz_le_n (gz_le_n (gz_le_n (gz_le_n (gz_le_n (gz_le_n gz_le_0))))))) (oX8_copy_111 _ h)
              · replace h := h.2 c68
                refine gk_iload dX8_copy_71 rfl ?_
                refine gk_if_lt (tgt := 111) dX8_copy_73 (by decide) (fun c73 => ?_) (fun c73 => ?_)
                · replace h := h.1 c73
                  exact gk_less (gz_le_s rfl (gz_le_n (gz_le_n (gz_le_n (gz_le_n (gz_le_n (gz_le_n gz_le_0))))))) (oX8_copy_111 _ h)
                · replace h := h.2 c73
                  refine gk_iload_n dX8_copy_76 rfl ?_
                  refine gk_i2l dX8_copy_77 ?_
                  refine gk_iload dX8_copy_78 rfl ?_
                  refine gk_i2l dX8_copy_80 ?_
                  refine gk_ladd dX8_copy_81 ?_
                  refine gk_aload_n dX8_copy_82 rfl ?_
                  refine gk_getr dX8_copy_83 rfl rfl wfX8_13 ?_
                  refine gk_iload_n dX8_copy_86 rfl ?_
                  refine gk_iaload dX8_copy_87 rfl h.1 ?_
                  replace h := h.2
                  refine gk_i2l dX8_copy_88 ?_
                  refine gk_lcmp dX8_copy_89 ?_
                  refine gk_if_gt (tgt := 111) dX8_copy_90 (by decide) (fun c90 => ?_) (fun c90 => ?_)
                  · replace h := h.1 c90
                    exact gk_less (gz_le_s rfl (gz_le_n (gz_le_n (gz_le_n (gz_le_n (gz_le_n (gz_le_n gz_le_0))))))) (oX8_copy_111 _ h)
                  · replace h := h.2 c90
                    refine gk_iload dX8_copy_93 rfl ?_
                    refine gk_i2l dX8_copy_95 ?_
                    refine gk_iload dX8_copy_96 rfl ?_
                    refine gk_i2l dX8_copy_98 ?_
                    refine gk_ladd dX8_copy_99 ?_
                    refine gk_aload_n dX8_copy_100 rfl ?_
                    refine gk_getr dX8_copy_101 rfl rfl wfX8_13 ?_
                    refine gk_iload_n dX8_copy_104 rfl ?_
                    refine gk_iaload dX8_copy_105 rfl h.1 ?_
                    replace h := h.2
                    refine gk_i2l dX8_copy_106 ?_
                    refine gk_lcmp dX8_copy_107 ?_
                    refine gk_if_le (tgt := 117) dX8_copy_108 (by decide) (fun c108 => ?_) (fun c108 => ?_)
                    · replace h := h.1 c108
                      refine gk_iconst (v := 0) dX8_copy_117 rfl ?_
                      refine gk_istore dX8_copy_118 (Nat.le_of_ble_eq_true rfl) rfl rfl ?_
                      obtain ⟨m120, h⟩ := h
                      exact gk_less (gz_le_s rfl (gz_le_s rfl (gz_le_s rfl (gz_le_s rfl (gz_le_s rfl (gz_le_s rfl (gz_le_s rfl gz_le_0))))))) (oX8_copy_120 m120 _ _ _ _ _ _ _ h)
                    · replace h := h.2 c108
                      exact gk_less (gz_le_s rfl (gz_le_n (gz_le_n (gz_le_n (gz_le_n (gz_le_n (gz_le_n gz_le_0))))))) (oX8_copy_111 _ h)
          · replace h := h.2 c53
            refine gk_aload_n dX8_copy_56 rfl ?_
            refine gk_iconst (v := 4) dX8_copy_57 rfl ?_
            refine gk_callV (as := [_]) (rest := []) (ctX8_met h) dX8_copy_58 rfl rfl wvX8_108 wcX8_met rfl (Nat.le_of_ble_eq_true rfl) ⟨Nat.le_refl _, Nat.le_refl _⟩ (fun h9 => absurd rfl h9) (Nat.le_of_ble_eq_true rfl) rfl (fun v G2 S58 hq => ?_)
            obtain ⟨rfl, r58, rfl, h⟩ := hq
            exact gk_iret dX8_copy_61 rfl rfl rfl rfl ⟨rfl, _, rfl, h⟩
        · replace h := h.2 c32
          exact gk_less (gz_le_s rfl (gz_le_n (gz_le_n (gz_le_n (gz_le_n (gz_le_n (gz_le_n gz_le_0))))))) (oX8_copy_35 _ h)
    · replace h := h.2 c11
      refine gk_bipush (v := (-2)) dX8_copy_14 rfl ?_
      exact gk_iret dX8_copy_16 rfl rfl rfl rfl ⟨rfl, _, rfl, h⟩
set_option maxHeartbeats 4000000 in
set_option maxRecDepth 100000 in
theorem oX7_write_37 {E : gz_E} {Q : Int32 → gz_S → Prop} : ∀ (n : Nat) (x1 : Int32) (x3 : Int32) (x4 : Int32) (S : gz_S), wX7_write_37 Q n x1 x3 x4 S → gz_k E mX7_write (5, 0, 0, 73) 0 0 37 [some (.ref 0), some (.int x1), none, some (.int x3), some (.int x4)] [] gz_F S (gz_qi Q) := by
  intro n
  induction n with
  | zero =>
    intro x1 x3 x4 S h
    exact h.elim
  | succ n ih =>
    intro x1 x3 x4 S h
    unfold wX7_write_37 at h
    refine gk_iload dX7_write_37 rfl ?_
    refine gk_iload_n dX7_write_39 rfl ?_
    refine gk_icmp_ge (tgt := 69) dX7_write_40 (by decide) (fun c40 => ?_) (fun c40 => ?_)
    · replace h := h.1 c40
      refine gk_iload_n dX7_write_69 rfl ?_
      exact gk_iret dX7_write_70 rfl rfl rfl rfl ⟨rfl, _, rfl, h⟩
    · replace h := h.2 c40
      refine gk_aload_n dX7_write_43 rfl ?_
      refine gk_getr dX7_write_44 rfl rfl wfX7_53 ?_
      refine gk_iload_n dX7_write_47 rfl ?_
      rcases gz_four h.1 with hj00 | hj01 | hj02 | hj03
      · refine gk_aaload (t := 0) dX7_write_48 rfl h.1 (by rw [hj00]; rfl) ?_
        replace h := h.2
        try rw [hj00] at h
        refine gk_iload dX7_write_49 rfl ?_
        refine gk_aload_n dX7_write_51 rfl ?_
        refine gk_getr dX7_write_52 rfl rfl wfX7_28 ?_
        refine gk_iload dX7_write_55 rfl ?_
        refine gk_callV (as := [_]) (rest := [_, _]) (ctX2_tipAt_16 h) dX7_write_57 rfl rfl wvX7_149 wcX2_tipAt rfl (Nat.le_of_ble_eq_true rfl) ⟨Nat.le_refl _, Nat.le_refl _⟩ (fun h9 => absurd rfl h9) (Nat.le_of_ble_eq_true rfl) rfl (fun v G2 S57 hq => ?_)
        obtain ⟨rfl, r57, rfl, h⟩ := hq
        refine gk_callV (as := [_, _]) (rest := []) (ctX5_put_37 h) dX7_write_60 rfl rfl wvX7_229 wcX5_put rfl (Nat.le_of_ble_eq_true rfl) ⟨Nat.le_refl _, Nat.le_refl _⟩ (fun h9 => absurd rfl h9) (Nat.le_of_ble_eq_true rfl) rfl (fun v G2 S60 hq => ?_)
        obtain ⟨rfl, rfl, h⟩ := hq
        refine gk_iinc dX7_write_63 rfl (Nat.le_of_ble_eq_true rfl) rfl rfl rfl ?_
        refine gk_goto (tgt := 37) dX7_write_66 (by decide) ?_
        exact gk_less (gz_le_s rfl (gz_le_s rfl (gz_le_n (gz_le_s rfl (gz_le_s rfl gz_le_0))))) (ih _ _ _ _ h)
      · refine gk_aaload (t := 0) dX7_write_48 rfl h.1 (by rw [hj01]; rfl) ?_
        replace h := h.2
        try rw [hj01] at h
        refine gk_iload dX7_write_49 rfl ?_
        refine gk_aload_n dX7_write_51 rfl ?_
        refine gk_getr dX7_write_52 rfl rfl wfX7_28 ?_
        refine gk_iload dX7_write_55 rfl ?_
        refine gk_callV (as := [_]) (rest := [_, _]) (ctX2_tipAt_16 h) dX7_write_57 rfl rfl wvX7_149 wcX2_tipAt rfl (Nat.le_of_ble_eq_true rfl) ⟨Nat.le_refl _, Nat.le_refl _⟩ (fun h9 => absurd rfl h9) (Nat.le_of_ble_eq_true rfl) rfl (fun v G2 S57_1 hq => ?_)
        obtain ⟨rfl, r57_1, rfl, h⟩ := hq
        refine gk_callV (as := [_, _]) (rest := []) (ctX5_put_39 h) dX7_write_60 rfl rfl wvX7_229 wcX5_put rfl (Nat.le_of_ble_eq_true rfl) ⟨Nat.le_refl _, Nat.le_refl _⟩ (fun h9 => absurd rfl h9) (Nat.le_of_ble_eq_true rfl) rfl (fun v G2 S60_1 hq => ?_)
        obtain ⟨rfl, rfl, h⟩ := hq
        refine gk_iinc dX7_write_63 rfl (Nat.le_of_ble_eq_true rfl) rfl rfl rfl ?_
        refine gk_goto (tgt := 37) dX7_write_66 (by decide) ?_
        exact gk_less (gz_le_s rfl (gz_le_s rfl (gz_le_n (gz_le_s rfl (gz_le_s rfl gz_le_0))))) (ih _ _ _ _ h)
      · refine gk_aaload (t := 0) dX7_write_48 rfl h.1 (by rw [hj02]; rfl) ?_
        replace h := h.2
        try rw [hj02] at h
        refine gk_iload dX7_write_49 rfl ?_
        refine gk_aload_n dX7_write_51 rfl ?_
        refine gk_getr dX7_write_52 rfl rfl wfX7_28 ?_
        refine gk_iload dX7_write_55 rfl ?_
        refine gk_callV (as := [_]) (rest := [_, _]) (ctX2_tipAt_16 h) dX7_write_57 rfl rfl wvX7_149 wcX2_tipAt rfl (Nat.le_of_ble_eq_true rfl) ⟨Nat.le_refl _, Nat.le_refl _⟩ (fun h9 => absurd rfl h9) (Nat.le_of_ble_eq_true rfl) rfl (fun v G2 S57_2 hq => ?_)
        obtain ⟨rfl, r57_2, rfl, h⟩ := hq
        refine gk_callV (as := [_, _]) (rest := []) (ctX5_put_41 h) dX7_write_60 rfl rfl wvX7_229 wcX5_put rfl (Nat.le_of_ble_eq_true rfl) ⟨Nat.le_refl _, Nat.le_refl _⟩ (fun h9 => absurd rfl h9) (Nat.le_of_ble_eq_true rfl) rfl (fun v G2 S60_2 hq => ?_)
        obtain ⟨rfl, rfl, h⟩ := hq
        refine gk_iinc dX7_write_63 rfl (Nat.le_of_ble_eq_true rfl) rfl rfl rfl ?_
        refine gk_goto (tgt := 37) dX7_write_66 (by decide) ?_
        exact gk_less (gz_le_s rfl (gz_le_s rfl (gz_le_n (gz_le_s rfl (gz_le_s rfl gz_le_0))))) (ih _ _ _ _ h)
      · refine gk_aaload (t := 0) dX7_write_48 rfl h.1 (by rw [hj03]; rfl) ?_
        replace h := h.2
        try rw [hj03] at h
        refine gk_iload dX7_write_49 rfl ?_
        refine gk_aload_n dX7_write_51 rfl ?_
        refine gk_getr dX7_write_52 rfl rfl wfX7_28 ?_
        refine gk_iload dX7_write_55 rfl ?_
        refine gk_callV (as := [_]) (rest := [_, _]) (ctX2_tipAt_16 h) dX7_write_57 rfl rfl wvX7_149 wcX2_tipAt rfl (Nat.le_of_ble_eq_true rfl) ⟨Nat.le_refl _, Nat.le_refl _⟩ (fun h9 => absurd rfl h9) (Nat.le_of_ble_eq_true rfl) rfl (fun v G2 S57_3 hq => ?_)
        obtain ⟨rfl, r57_3, rfl, h⟩ := hq
        refine gk_callV (as := [_, _]) (rest := []) (ctX5_put_43 h) dX7_write_60 rfl rfl wvX7_229 wcX5_put rfl (Nat.le_of_ble_eq_true rfl) ⟨Nat.le_refl _, Nat.le_refl _⟩ (fun h9 => absurd rfl h9) (Nat.le_of_ble_eq_true rfl) rfl (fun v G2 S60_3 hq => ?_)
        obtain ⟨rfl, rfl, h⟩ := hq
        refine gk_iinc dX7_write_63 rfl (Nat.le_of_ble_eq_true rfl) rfl rfl rfl ?_
        refine gk_goto (tgt := 37) dX7_write_66 (by decide) ?_
        exact gk_less (gz_le_s rfl (gz_le_s rfl (gz_le_n (gz_le_s rfl (gz_le_s rfl gz_le_0))))) (ih _ _ _ _ h)
set_option maxHeartbeats 4000000 in
set_option maxRecDepth 100000 in
theorem ctX7_write {E : gz_E} {x1 : Int32} {S : gz_S} {Q : Int32 → gz_S → Prop} (h : wX7_write x1 S Q) : gz_m E mX7_write 5 0 0 [.ref 0, .int x1] gz_F S (gz_qi Q) := by
  refine gz_meet0 (L0 := [some (.ref 0), some (.int x1), none, none, none]) (by decide) rfl (Nat.le_of_ble_eq_true rfl) (by decide) ?_
  unfold wX7_write at h
  refine gk_aload_n dX7_write_0 rfl ?_
  refine gk_iload_n dX7_write_1 rfl ?_
  refine gk_callV (as := [_]) (rest := []) (ctX7_refusalOf h) dX7_write_2 rfl rfl wvX7_139 wcX7_refusalOf rfl (Nat.le_of_ble_eq_true rfl) ⟨Nat.le_refl _, Nat.le_refl _⟩ (fun h9 => absurd rfl h9) (Nat.le_of_ble_eq_true rfl) rfl (fun v G2 S2 hq => ?_)
  obtain ⟨rfl, r2, rfl, h⟩ := hq
  refine gk_istore_n dX7_write_5 (Nat.le_of_ble_eq_true rfl) rfl rfl ?_
  refine gk_iload_n dX7_write_6 rfl ?_
  refine gk_if_eq (tgt := 12) dX7_write_7 (by decide) (fun c7 => ?_) (fun c7 => ?_)
  · replace h := h.1 c7
    refine gk_aload_n dX7_write_12 rfl ?_
    refine gk_getr dX7_write_13 rfl rfl wfX7_53 ?_
    refine gk_iload_n dX7_write_16 rfl ?_
    rcases gz_four h.1 with hj00 | hj01 | hj02 | hj03
    · refine gk_aaload (t := 0) dX7_write_17 rfl h.1 (by rw [hj00]; rfl) ?_
      replace h := h.2
      try rw [hj00] at h
      refine gk_geti dX7_write_18 rfl rfl wfX7_142 ?_
      refine gk_aload_n dX7_write_21 rfl ?_
      refine gk_getr dX7_write_22 rfl rfl wfX7_10 ?_
      refine gk_geti dX7_write_25 rfl rfl wfX7_122 ?_
      refine gk_iconst (v := 1) dX7_write_28 rfl ?_
      refine gk_iadd dX7_write_29 ?_
      refine gk_min em_min dX7_write_30 wvX7_249 wcJ9_min_7cf53 (Nat.le_of_ble_eq_true rfl) (Nat.le_refl _) (Nat.le_refl _) (Nat.le_of_ble_eq_true rfl) ?_
      refine gk_nmi (fun v3_33 ev3_33 => ?_)
      replace h := h v3_33 ev3_33
      refine gk_istore_n dX7_write_33 (Nat.le_of_ble_eq_true rfl) rfl rfl ?_
      refine gk_iconst (v := 0) dX7_write_34 rfl ?_
      refine gk_istore dX7_write_35 (Nat.le_of_ble_eq_true rfl) rfl rfl ?_
      obtain ⟨m37, h⟩ := h
      exact gk_less (gz_le_s rfl (gz_le_s rfl (gz_le_n (gz_le_s rfl (gz_le_s rfl gz_le_0))))) (oX7_write_37 m37 _ _ _ _ h)
    · refine gk_aaload (t := 0) dX7_write_17 rfl h.1 (by rw [hj01]; rfl) ?_
      replace h := h.2
      try rw [hj01] at h
      refine gk_geti dX7_write_18 rfl rfl wfX7_142 ?_
      refine gk_aload_n dX7_write_21 rfl ?_
      refine gk_getr dX7_write_22 rfl rfl wfX7_10 ?_
      refine gk_geti dX7_write_25 rfl rfl wfX7_122 ?_
      refine gk_iconst (v := 1) dX7_write_28 rfl ?_
      refine gk_iadd dX7_write_29 ?_
      refine gk_min em_min dX7_write_30 wvX7_249 wcJ9_min_7cf53 (Nat.le_of_ble_eq_true rfl) (Nat.le_refl _) (Nat.le_refl _) (Nat.le_of_ble_eq_true rfl) ?_
      refine gk_nmi (fun v3_33_1 ev3_33_1 => ?_)
      replace h := h v3_33_1 ev3_33_1
      refine gk_istore_n dX7_write_33 (Nat.le_of_ble_eq_true rfl) rfl rfl ?_
      refine gk_iconst (v := 0) dX7_write_34 rfl ?_
      refine gk_istore dX7_write_35 (Nat.le_of_ble_eq_true rfl) rfl rfl ?_
      obtain ⟨m37, h⟩ := h
      exact gk_less (gz_le_s rfl (gz_le_s rfl (gz_le_n (gz_le_s rfl (gz_le_s rfl gz_le_0))))) (oX7_write_37 m37 _ _ _ _ h)
    · refine gk_aaload (t := 0) dX7_write_17 rfl h.1 (by rw [hj02]; rfl) ?_
      replace h := h.2
      try rw [hj02] at h
      refine gk_geti dX7_write_18 rfl rfl wfX7_142 ?_
      refine gk_aload_n dX7_write_21 rfl ?_
      refine gk_getr dX7_write_22 rfl rfl wfX7_10 ?_
      refine gk_geti dX7_write_25 rfl rfl wfX7_122 ?_
      refine gk_iconst (v := 1) dX7_write_28 rfl ?_
      refine gk_iadd dX7_write_29 ?_
      refine gk_min em_min dX7_write_30 wvX7_249 wcJ9_min_7cf53 (Nat.le_of_ble_eq_true rfl) (Nat.le_refl _) (Nat.le_refl _) (Nat.le_of_ble_eq_true rfl) ?_
      refine gk_nmi (fun v3_33_2 ev3_33_2 => ?_)
      replace h := h v3_33_2 ev3_33_2
      refine gk_istore_n dX7_write_33 (Nat.le_of_ble_eq_true rfl) rfl rfl ?_
      refine gk_iconst (v := 0) dX7_write_34 rfl ?_
      refine gk_istore dX7_write_35 (Nat.le_of_ble_eq_true rfl) rfl rfl ?_
      obtain ⟨m37, h⟩ := h
      exact gk_less (gz_le_s rfl (gz_le_s rfl (gz_le_n (gz_le_s rfl (gz_le_s rfl gz_le_0))))) (oX7_write_37 m37 _ _ _ _ h)
    · refine gk_aaload (t := 0) dX7_write_17 rfl h.1 (by rw [hj03]; rfl) ?_
      replace h := h.2
      try rw [hj03] at h
      refine gk_geti dX7_write_18 rfl rfl wfX7_142 ?_
      refine gk_aload_n dX7_write_21 rfl ?_
      refine gk_getr dX7_write_22 rfl rfl wfX7_10 ?_
      refine gk_geti dX7_write_25 rfl rfl wfX7_122 ?_
      refine gk_iconst (v := 1) dX7_write_28 rfl ?_
      refine gk_iadd dX7_write_29 ?_
      refine gk_min em_min dX7_write_30 wvX7_249 wcJ9_min_7cf53 (Nat.le_of_ble_eq_true rfl) (Nat.le_refl _) (Nat.le_refl _) (Nat.le_of_ble_eq_true rfl) ?_
      refine gk_nmi (fun v3_33_3 ev3_33_3 => ?_)
      replace h := h v3_33_3 ev3_33_3
      refine gk_istore_n dX7_write_33 (Nat.le_of_ble_eq_true rfl) rfl rfl ?_
      refine gk_iconst (v := 0) dX7_write_34 rfl ?_
      refine gk_istore dX7_write_35 (Nat.le_of_ble_eq_true rfl) rfl rfl ?_
      obtain ⟨m37, h⟩ := h
      exact gk_less (gz_le_s rfl (gz_le_s rfl (gz_le_n (gz_le_s rfl (gz_le_s rfl gz_le_0))))) (oX7_write_37 m37 _ _ _ _ h)
  · replace h := h.2 c7
    refine gk_iload_n dX7_write_10 rfl ?_
    exact gk_iret dX7_write_11 rfl rfl rfl rfl ⟨rfl, _, rfl, h⟩
set_option maxHeartbeats 4000000 in
set_option maxRecDepth 100000 in
theorem oX8_write_62 {E : gz_E} {Q : Int32 → gz_S → Prop} : ∀ (n : Nat) (x1 : Int32) (x2 : Int32) (x3 : Int32) (S : gz_S), wX8_write_62 Q n x1 x2 x3 S → gz_k E mX8_write (5, 0, 0, 73) 0 0 62 [some (.ref 45), some (.int x1), some (.int x2), some (.int x3)] [] gz_F S (gz_qi Q) := by
  intro n
  induction n with
  | zero =>
    intro x1 x2 x3 S h
    exact h.elim
  | succ n ih =>
    intro x1 x2 x3 S h
    unfold wX8_write_62 at h
    refine gk_iload_n dX8_write_62 rfl ?_
    refine gk_iload_n dX8_write_63 rfl ?_
    refine gk_icmp_ge (tgt := 98) dX8_write_64 (by decide) (fun c64 => ?_) (fun c64 => ?_)
    · replace h := h.1 c64
      refine gk_iload_n dX8_write_98 rfl ?_
      exact gk_iret dX8_write_99 rfl rfl rfl rfl ⟨rfl, _, rfl, h⟩
    · replace h := h.2 c64
      refine gk_aload_n dX8_write_67 rfl ?_
      refine gk_getr dX8_write_68 rfl rfl wfX8_16 ?_
      refine gk_bipush (v := 60) dX8_write_71 rfl ?_
      refine gk_iload_n dX8_write_73 rfl ?_
      refine gk_imul dX8_write_74 ?_
      refine gk_iload_n dX8_write_75 rfl ?_
      refine gk_iadd dX8_write_76 ?_
      refine gk_aload_n dX8_write_77 rfl ?_
      refine gk_getr dX8_write_78 rfl rfl wfX8_7 ?_
      refine gk_iload_n dX8_write_81 rfl ?_
      refine gk_iaload dX8_write_82 rfl h.1 ?_
      replace h := h.2
      refine gk_aload_n dX8_write_83 rfl ?_
      refine gk_iload_n dX8_write_84 rfl ?_
      refine gk_callV (as := [_]) (rest := [_, _, _]) (ctX8_tipOf h) dX8_write_85 rfl rfl wvX8_214 wcX8_tipOf rfl (Nat.le_of_ble_eq_true rfl) ⟨Nat.le_refl _, Nat.le_refl _⟩ (fun h9 => absurd rfl h9) (Nat.le_of_ble_eq_true rfl) rfl (fun v G2 S85 hq => ?_)
      obtain ⟨rfl, r85, rfl, h⟩ := hq
      refine gk_callS (as := [_, _]) (rest := [_, _]) (ctX8_cut h) dX8_write_88 wvX8_116 wcX8_cut rfl (Nat.le_of_ble_eq_true rfl) ⟨Nat.le_refl _, Nat.le_refl _⟩ (fun h9 => absurd rfl h9) (Nat.le_of_ble_eq_true rfl) rfl (fun v G2 S88 hq => ?_)
      obtain ⟨rfl, r88, rfl, h⟩ := hq
      refine gk_iastore dX8_write_91 rfl h.1 ?_
      replace h := h.2
      refine gk_nmS (fun S91 eS91 => ?_)
      replace h := h S91 eS91
      refine gk_iinc dX8_write_92 rfl (Nat.le_of_ble_eq_true rfl) rfl rfl rfl ?_
      refine gk_goto (tgt := 62) dX8_write_95 (by decide) ?_
      exact gk_less (gz_le_s rfl (gz_le_s rfl (gz_le_s rfl (gz_le_s rfl gz_le_0)))) (ih _ _ _ _ h)
set_option maxHeartbeats 4000000 in
set_option maxRecDepth 100000 in
theorem oX8_write_59 {E : gz_E} {Q : Int32 → gz_S → Prop} : ∀ (x1 : Int32) (t0 : Int32) (S : gz_S), wX8_write_59 Q x1 t0 S → gz_k E mX8_write (5, 0, 0, 73) 0 0 59 [some (.ref 45), some (.int x1), none, none] [.int t0] gz_F S (gz_qi Q) := by
  intro x1 t0 S h
  unfold wX8_write_59 at h
  refine gk_istore_n dX8_write_59 (Nat.le_of_ble_eq_true rfl) rfl rfl ?_
  refine gk_iconst (v := 0) dX8_write_60 rfl ?_
  refine gk_istore_n dX8_write_61 (Nat.le_of_ble_eq_true rfl) rfl rfl ?_
  obtain ⟨m62, h⟩ := h
  exact gk_less (gz_le_s rfl (gz_le_s rfl (gz_le_s rfl (gz_le_s rfl gz_le_0)))) (oX8_write_62 m62 _ _ _ _ h)
set_option maxHeartbeats 4000000 in
set_option maxRecDepth 100000 in
theorem ctX8_write {E : gz_E} {x1 : Int32} {S : gz_S} {Q : Int32 → gz_S → Prop} (h : wX8_write x1 S Q) : gz_m E mX8_write 5 0 0 [.ref 45, .int x1] gz_F S (gz_qi Q) := by
  refine gz_meet0 (L0 := [some (.ref 45), some (.int x1), none, none]) (by decide) rfl (Nat.le_of_ble_eq_true rfl) (by decide) ?_
  unfold wX8_write at h
  refine gk_iload_n dX8_write_0 rfl ?_
  refine gk_callS (as := [_]) (rest := []) (ctX8_isSheet h) dX8_write_1 wvX8_102 wcX8_isSheet rfl (Nat.le_of_ble_eq_true rfl) ⟨Nat.le_refl _, Nat.le_refl _⟩ (fun h9 => absurd rfl h9) (Nat.le_of_ble_eq_true rfl) rfl (fun v G2 S1 hq => ?_)
  obtain ⟨rfl, r1, rfl, h⟩ := hq
  refine gk_if_ne (tgt := 10) dX8_write_4 (by decide) (fun c4 => ?_) (fun c4 => ?_)
  · replace h := h.1 c4
    refine gk_aload_n dX8_write_10 rfl ?_
    refine gk_getr dX8_write_11 rfl rfl wfX8_7 ?_
    refine gk_iload_n dX8_write_14 rfl ?_
    refine gk_iaload dX8_write_15 rfl h.1 ?_
    replace h := h.2
    refine gk_if_ge (tgt := 25) dX8_write_16 (by decide) (fun c16 => ?_) (fun c16 => ?_)
    · replace h := h.1 c16
      refine gk_aload_n dX8_write_25 rfl ?_
      refine gk_callV (as := []) (rest := []) (ctX8_reads h) dX8_write_26 rfl rfl wvX8_147 wcX8_reads rfl (Nat.le_of_ble_eq_true rfl) ⟨Nat.le_refl _, Nat.le_refl _⟩ (fun h9 => absurd rfl h9) (Nat.le_of_ble_eq_true rfl) rfl (fun v G2 S26 hq => ?_)
      obtain ⟨rfl, rfl, h⟩ := hq
      refine gk_aload_n dX8_write_29 rfl ?_
      refine gk_getr dX8_write_30 rfl rfl wfX8_13 ?_
      refine gk_iload_n dX8_write_33 rfl ?_
      refine gk_iaload dX8_write_34 rfl h.1 ?_
      replace h := h.2
      refine gk_aload_n dX8_write_35 rfl ?_
      refine gk_callV (as := []) (rest := [_]) (ctX8_end h) dX8_write_36 rfl rfl wvX8_220 wcX8_end rfl (Nat.le_of_ble_eq_true rfl) ⟨Nat.le_refl _, Nat.le_refl _⟩ (fun h9 => absurd rfl h9) (Nat.le_of_ble_eq_true rfl) rfl (fun v G2 S36 hq => ?_)
      obtain ⟨rfl, r36, rfl, h⟩ := hq
      refine gk_iconst (v := 1) dX8_write_39 rfl ?_
      refine gk_iadd dX8_write_40 ?_
      refine gk_icmp_ge (tgt := 53) dX8_write_41 (by decide) (fun c41 => ?_) (fun c41 => ?_)
      · replace h := h.1 c41
        refine gk_aload_n dX8_write_53 rfl ?_
        refine gk_callV (as := []) (rest := []) (ctX8_end h) dX8_write_54 rfl rfl wvX8_220 wcX8_end rfl (Nat.le_of_ble_eq_true rfl) ⟨Nat.le_refl _, Nat.le_refl _⟩ (fun h9 => absurd rfl h9) (Nat.le_of_ble_eq_true rfl) rfl (fun v G2 S54 hq => ?_)
        obtain ⟨rfl, r54, rfl, h⟩ := hq
        refine gk_iconst (v := 1) dX8_write_57 rfl ?_
        refine gk_iadd dX8_write_58 ?_
        exact gk_less (gz_le_s rfl (gz_le_s rfl (gz_le_n (gz_le_n gz_le_0)))) (oX8_write_59 _ _ _ h)
      · replace h := h.2 c41
        refine gk_aload_n dX8_write_44 rfl ?_
        refine gk_getr dX8_write_45 rfl rfl wfX8_13 ?_
        refine gk_iload_n dX8_write_48 rfl ?_
        refine gk_iaload dX8_write_49 rfl h.1 ?_
        replace h := h.2
        refine gk_goto (tgt := 59) dX8_write_50 (by decide) ?_
        exact gk_less (gz_le_s rfl (gz_le_s rfl (gz_le_n (gz_le_n gz_le_0)))) (oX8_write_59 _ _ _ h)
    · replace h := h.2 c16
      refine gk_aload_n dX8_write_19 rfl ?_
      refine gk_iconst (v := 1) dX8_write_20 rfl ?_
      refine gk_callV (as := [_]) (rest := []) (ctX8_met h) dX8_write_21 rfl rfl wvX8_108 wcX8_met rfl (Nat.le_of_ble_eq_true rfl) ⟨Nat.le_refl _, Nat.le_refl _⟩ (fun h9 => absurd rfl h9) (Nat.le_of_ble_eq_true rfl) rfl (fun v G2 S21 hq => ?_)
      obtain ⟨rfl, r21, rfl, h⟩ := hq
      exact gk_iret dX8_write_24 rfl rfl rfl rfl ⟨rfl, _, rfl, h⟩
  · replace h := h.2 c4
    refine gk_bipush (v := (-2)) dX8_write_7 rfl ?_
    exact gk_iret dX8_write_9 rfl rfl rfl rfl ⟨rfl, _, rfl, h⟩
set_option maxHeartbeats 4000000 in
set_option maxRecDepth 100000 in
theorem oX7_stonesLying_48 {E : gz_E} {k18 : Int32 → Int32 → gz_S → Prop} {Q : Int32 → gz_S → Prop} (hk18 : ∀ (x1 : Int32) (x2 : Int32) (S : gz_S), k18 x1 x2 S → gz_k E mX7_stonesLying (4, 0, 0, 73) 0 0 18 [some (.ref 0), some (.int x1), some (.int x2)] [] gz_F S (gz_qi Q)) : ∀ (x1 : Int32) (x2 : Int32) (S : gz_S), wX7_stonesLying_48 k18 Q x1 x2 S → gz_k E mX7_stonesLying (4, 0, 0, 73) 0 0 48 [some (.ref 0), some (.int x1), some (.int x2)] [] gz_F S (gz_qi Q) := by
  intro x1 x2 S h
  unfold wX7_stonesLying_48 at h
  refine gk_iinc dX7_stonesLying_48 rfl (Nat.le_of_ble_eq_true rfl) rfl rfl rfl ?_
  refine gk_goto (tgt := 18) dX7_stonesLying_51 (by decide) ?_
  exact gk_less (gz_le_s rfl (gz_le_s rfl (gz_le_s rfl gz_le_0))) (hk18 _ _ _ h)
set_option maxHeartbeats 4000000 in
set_option maxRecDepth 100000 in
theorem oX7_stonesLying_18 {E : gz_E} {Q : Int32 → gz_S → Prop} : ∀ (n : Nat) (x1 : Int32) (x2 : Int32) (S : gz_S), wX7_stonesLying_18 Q n x1 x2 S → gz_k E mX7_stonesLying (4, 0, 0, 73) 0 0 18 [some (.ref 0), some (.int x1), some (.int x2)] [] gz_F S (gz_qi Q) := by
  intro n
  induction n with
  | zero =>
    intro x1 x2 S h
    exact h.elim
  | succ n ih =>
    intro x1 x2 S h
    unfold wX7_stonesLying_18 at h
    refine gk_iload_n dX7_stonesLying_18 rfl ?_
    refine gk_aload_n dX7_stonesLying_19 rfl ?_
    refine gk_getr dX7_stonesLying_20 rfl rfl wfX7_10 ?_
    refine gk_getr dX7_stonesLying_23 rfl rfl wfX7_110 ?_
    refine gk_geti dX7_stonesLying_26 rfl rfl wfX7_96 ?_
    refine gk_icmp_ge (tgt := 54) dX7_stonesLying_29 (by decide) (fun c29 => ?_) (fun c29 => ?_)
    · replace h := h.1 c29
      refine gk_iload_n dX7_stonesLying_54 rfl ?_
      exact gk_iret dX7_stonesLying_55 rfl rfl rfl rfl ⟨rfl, _, rfl, h⟩
    · replace h := h.2 c29
      refine gk_aload_n dX7_stonesLying_32 rfl ?_
      refine gk_getr dX7_stonesLying_33 rfl rfl wfX7_28 ?_
      refine gk_getr dX7_stonesLying_36 rfl rfl wfX7_330 ?_
      refine gk_iload_n dX7_stonesLying_39 rfl ?_
      refine gk_iaload dX7_stonesLying_40 rfl h.1 ?_
      replace h := h.2
      refine gk_iconst (v := (-1)) dX7_stonesLying_41 rfl ?_
      refine gk_icmp_eq (tgt := 48) dX7_stonesLying_42 (by decide) (fun c42 => ?_) (fun c42 => ?_)
      · replace h := h.1 c42
        exact gk_less (gz_le_s rfl (gz_le_s rfl (gz_le_s rfl gz_le_0))) (oX7_stonesLying_48 (fun y0 y1 S h => ih y0 y1 S h) _ _ _ h)
      · replace h := h.2 c42
        refine gk_iinc dX7_stonesLying_45 rfl (Nat.le_of_ble_eq_true rfl) rfl rfl rfl ?_
        exact gk_less (gz_le_s rfl (gz_le_s rfl (gz_le_s rfl gz_le_0))) (oX7_stonesLying_48 (fun y0 y1 S h => ih y0 y1 S h) _ _ _ h)
set_option maxHeartbeats 4000000 in
set_option maxRecDepth 100000 in
theorem ctX7_stonesLying {E : gz_E} {S : gz_S} {Q : Int32 → gz_S → Prop} (h : wX7_stonesLying S Q) : gz_m E mX7_stonesLying 4 0 0 [.ref 0] gz_F S (gz_qi Q) := by
  refine gz_meet0 (L0 := [some (.ref 0), none, none]) (by decide) rfl (Nat.le_of_ble_eq_true rfl) (by decide) ?_
  unfold wX7_stonesLying at h
  refine gk_aload_n dX7_stonesLying_0 rfl ?_
  refine gk_getr dX7_stonesLying_1 rfl rfl wfX7_28 ?_
  refine gk_aload_n dX7_stonesLying_4 rfl ?_
  refine gk_getr dX7_stonesLying_5 rfl rfl wfX7_10 ?_
  refine gk_geti dX7_stonesLying_8 rfl rfl wfX7_122 ?_
  refine gk_callV (as := [_]) (rest := []) (ctX2_pileUp_16 h) dX7_stonesLying_11 rfl rfl wvX7_152 wcX2_pileUp rfl (Nat.le_of_ble_eq_true rfl) ⟨Nat.le_refl _, Nat.le_refl _⟩ (fun h9 => absurd rfl h9) (Nat.le_of_ble_eq_true rfl) rfl (fun v G2 S11 hq => ?_)
  obtain ⟨rfl, rfl, h⟩ := hq
  refine gk_iconst (v := 0) dX7_stonesLying_14 rfl ?_
  refine gk_istore_n dX7_stonesLying_15 (Nat.le_of_ble_eq_true rfl) rfl rfl ?_
  refine gk_iconst (v := 0) dX7_stonesLying_16 rfl ?_
  refine gk_istore_n dX7_stonesLying_17 (Nat.le_of_ble_eq_true rfl) rfl rfl ?_
  obtain ⟨m18, h⟩ := h
  exact gk_less (gz_le_s rfl (gz_le_s rfl (gz_le_s rfl gz_le_0))) (oX7_stonesLying_18 m18 _ _ _ h)
set_option maxHeartbeats 4000000 in
set_option maxRecDepth 100000 in
theorem ctX7_count {E : gz_E} {x1 : Int32} {S : gz_S} {Q : Int32 → gz_S → Prop} (h : wX7_count x1 S Q) : gz_m E mX7_count 5 0 0 [.ref 0, .int x1] gz_F S (gz_qi Q) := by
  refine gz_meet0 (L0 := [some (.ref 0), some (.int x1)]) (by decide) rfl (Nat.le_of_ble_eq_true rfl) (by decide) ?_
  unfold wX7_count at h
  refine gk_iload_n dX7_count_0 rfl ?_
  have hc1 : (x1.toInt < 0 ∨ 8 < x1.toInt) ∨ x1.toInt = 0 ∨ x1.toInt = 1 ∨ x1.toInt = 2 ∨ x1.toInt = 3 ∨ x1.toInt = 4 ∨ x1.toInt = 5 ∨ x1.toInt = 6 ∨ x1.toInt = 7 ∨ x1.toInt = 8 := by omega
  rcases hc1 with hc | hc | hc | hc | hc | hc | hc | hc | hc | hc
  · replace h := h.1 hc
    refine gk_tableOut (tgt := 138) dX7_count_1 hc (by decide) ?_
    refine gk_bipush (v := (-2)) dX7_count_138 rfl ?_
    exact gk_iret dX7_count_140 rfl rfl rfl rfl ⟨rfl, _, rfl, h⟩
  · replace h := h.2.1 hc
    refine gk_tableIn (off := 51) (tgt := 52) dX7_count_1 (by omega) (by omega) (by rw [hc]; rfl) (by decide) ?_
    refine gk_aload_n dX7_count_52 rfl ?_
    refine gk_getr dX7_count_53 rfl rfl wfX7_10 ?_
    refine gk_getr dX7_count_56 rfl rfl wfX7_92 ?_
    refine gk_geti dX7_count_59 rfl rfl wfX7_96 ?_
    exact gk_iret dX7_count_62 rfl rfl rfl rfl ⟨rfl, _, rfl, h⟩
  · replace h := h.2.2.1 hc
    refine gk_tableIn (off := 62) (tgt := 63) dX7_count_1 (by omega) (by omega) (by rw [hc]; rfl) (by decide) ?_
    refine gk_aload_n dX7_count_63 rfl ?_
    refine gk_getr dX7_count_64 rfl rfl wfX7_10 ?_
    refine gk_getr dX7_count_67 rfl rfl wfX7_110 ?_
    refine gk_geti dX7_count_70 rfl rfl wfX7_96 ?_
    exact gk_iret dX7_count_73 rfl rfl rfl rfl ⟨rfl, _, rfl, h⟩
  · replace h := h.2.2.2.1 hc
    refine gk_tableIn (off := 73) (tgt := 74) dX7_count_1 (by omega) (by omega) (by rw [hc]; rfl) (by decide) ?_
    refine gk_aload_n dX7_count_74 rfl ?_
    refine gk_getr dX7_count_75 rfl rfl wfX7_10 ?_
    refine gk_getr dX7_count_78 rfl rfl wfX7_92 ?_
    refine gk_geti dX7_count_81 rfl rfl wfX7_83 ?_
    exact gk_iret dX7_count_84 rfl rfl rfl rfl ⟨rfl, _, rfl, h⟩
  · replace h := h.2.2.2.2.1 hc
    refine gk_tableIn (off := 84) (tgt := 85) dX7_count_1 (by omega) (by omega) (by rw [hc]; rfl) (by decide) ?_
    refine gk_aload_n dX7_count_85 rfl ?_
    refine gk_getr dX7_count_86 rfl rfl wfX7_10 ?_
    refine gk_getr dX7_count_89 rfl rfl wfX7_110 ?_
    refine gk_geti dX7_count_92 rfl rfl wfX7_83 ?_
    exact gk_iret dX7_count_95 rfl rfl rfl rfl ⟨rfl, _, rfl, h⟩
  · replace h := h.2.2.2.2.2.1 hc
    refine gk_tableIn (off := 95) (tgt := 96) dX7_count_1 (by omega) (by omega) (by rw [hc]; rfl) (by decide) ?_
    refine gk_aload_n dX7_count_96 rfl ?_
    refine gk_getr dX7_count_97 rfl rfl wfX7_19 ?_
    refine gk_geti dX7_count_100 rfl rfl wfX7_138 ?_
    exact gk_iret dX7_count_103 rfl rfl rfl rfl ⟨rfl, _, rfl, h⟩
  · replace h := h.2.2.2.2.2.2.1 hc
    refine gk_tableIn (off := 103) (tgt := 104) dX7_count_1 (by omega) (by omega) (by rw [hc]; rfl) (by decide) ?_
    refine gk_aload_n dX7_count_104 rfl ?_
    refine gk_getr dX7_count_105 rfl rfl wfX7_19 ?_
    refine gk_geti dX7_count_108 rfl rfl wfX7_138 ?_
    refine gk_aload_n dX7_count_111 rfl ?_
    refine gk_getr dX7_count_112 rfl rfl wfX7_28 ?_
    refine gk_geti dX7_count_115 rfl rfl wfX7_254 ?_
    refine gk_isub dX7_count_118 ?_
    exact gk_iret dX7_count_119 rfl rfl rfl rfl ⟨rfl, _, rfl, h⟩
  · replace h := h.2.2.2.2.2.2.2.1 hc
    refine gk_tableIn (off := 119) (tgt := 120) dX7_count_1 (by omega) (by omega) (by rw [hc]; rfl) (by decide) ?_
    refine gk_aload_n dX7_count_120 rfl ?_
    refine gk_callV (as := []) (rest := []) (ctX7_stonesLying h) dX7_count_121 rfl rfl wvX7_257 wcX7_stonesLying rfl (Nat.le_of_ble_eq_true rfl) ⟨Nat.le_refl _, Nat.le_refl _⟩ (fun h9 => absurd rfl h9) (Nat.le_of_ble_eq_true rfl) rfl (fun v G2 S121 hq => ?_)
    obtain ⟨rfl, r121, rfl, h⟩ := hq
    exact gk_iret dX7_count_124 rfl rfl rfl rfl ⟨rfl, _, rfl, h⟩
  · replace h := h.2.2.2.2.2.2.2.2.1 hc
    refine gk_tableIn (off := 124) (tgt := 125) dX7_count_1 (by omega) (by omega) (by rw [hc]; rfl) (by decide) ?_
    refine gk_aload_n dX7_count_125 rfl ?_
    refine gk_getr dX7_count_126 rfl rfl wfX7_10 ?_
    refine gk_geti dX7_count_129 rfl rfl wfX7_122 ?_
    exact gk_iret dX7_count_132 rfl rfl rfl rfl ⟨rfl, _, rfl, h⟩
  · replace h := h.2.2.2.2.2.2.2.2.2 hc
    refine gk_tableIn (off := 132) (tgt := 133) dX7_count_1 (by omega) (by omega) (by rw [hc]; rfl) (by decide) ?_
    refine gk_aload_n dX7_count_133 rfl ?_
    refine gk_geti dX7_count_134 rfl rfl wfX7_57 ?_
    exact gk_iret dX7_count_137 rfl rfl rfl rfl ⟨rfl, _, rfl, h⟩
set_option maxHeartbeats 4000000 in
set_option maxRecDepth 100000 in
theorem oX8_count_126 {E : gz_E} {k103 : Int32 → Int32 → gz_S → Prop} {Q : Int32 → gz_S → Prop} (hk103 : ∀ (x2 : Int32) (x3 : Int32) (S : gz_S), k103 x2 x3 S → gz_k E mX8_count (4, 0, 0, 73) 0 0 103 [some (.ref 45), none, some (.int x2), some (.int x3)] [] gz_F S (gz_qi Q)) : ∀ (x3 : Int32) (t0 : Int32) (t1 : Int32) (S : gz_S), wX8_count_126 k103 Q x3 t0 t1 S → gz_k E mX8_count (4, 0, 0, 73) 0 0 126 [some (.ref 45), none, none, some (.int x3)] [.int t1, .int t0] gz_F S (gz_qi Q) := by
  intro x3 t0 t1 S h
  unfold wX8_count_126 at h
  refine gk_iadd dX8_count_126 ?_
  refine gk_nmi (fun v2_127 ev2_127 => ?_)
  replace h := h v2_127 ev2_127
  refine gk_istore_n dX8_count_127 (Nat.le_of_ble_eq_true rfl) rfl rfl ?_
  refine gk_iinc dX8_count_128 rfl (Nat.le_of_ble_eq_true rfl) rfl rfl rfl ?_
  refine gk_goto (tgt := 103) dX8_count_131 (by decide) ?_
  exact gk_less (gz_le_s rfl (gz_le_n (gz_le_s rfl (gz_le_s rfl gz_le_0)))) (hk103 _ _ _ h)
set_option maxHeartbeats 4000000 in
set_option maxRecDepth 100000 in
theorem oX8_count_103 {E : gz_E} {Q : Int32 → gz_S → Prop} : ∀ (n : Nat) (x2 : Int32) (x3 : Int32) (S : gz_S), wX8_count_103 Q n x2 x3 S → gz_k E mX8_count (4, 0, 0, 73) 0 0 103 [some (.ref 45), none, some (.int x2), some (.int x3)] [] gz_F S (gz_qi Q) := by
  intro n
  induction n with
  | zero =>
    intro x2 x3 S h
    exact h.elim
  | succ n ih =>
    intro x2 x3 S h
    unfold wX8_count_103 at h
    refine gk_iload_n dX8_count_103 rfl ?_
    refine gk_aload_n dX8_count_104 rfl ?_
    refine gk_geti dX8_count_105 rfl rfl wfX8_167 ?_
    refine gk_icmp_ge (tgt := 134) dX8_count_108 (by decide) (fun c108 => ?_) (fun c108 => ?_)
    · replace h := h.1 c108
      refine gk_iload_n dX8_count_134 rfl ?_
      exact gk_iret dX8_count_135 rfl rfl rfl rfl ⟨rfl, _, rfl, h⟩
    · replace h := h.2 c108
      refine gk_iload_n dX8_count_111 rfl ?_
      refine gk_aload_n dX8_count_112 rfl ?_
      refine gk_getr dX8_count_113 rfl rfl wfX8_64 ?_
      refine gk_iload_n dX8_count_116 rfl ?_
      refine gk_baload dX8_count_117 rfl h.1 ?_
      replace h := h.2
      refine gk_if_eq (tgt := 125) dX8_count_118 (by decide) (fun c118 => ?_) (fun c118 => ?_)
      · replace h := h.1 c118
        refine gk_iconst (v := 0) dX8_count_125 rfl ?_
        exact gk_less (gz_le_s rfl (gz_le_n (gz_le_n (gz_le_s rfl gz_le_0)))) (oX8_count_126 (fun y0 y1 S h => ih y0 y1 S h) _ _ _ _ h)
      · replace h := h.2 c118
        refine gk_iconst (v := 1) dX8_count_121 rfl ?_
        refine gk_goto (tgt := 126) dX8_count_122 (by decide) ?_
        exact gk_less (gz_le_s rfl (gz_le_n (gz_le_n (gz_le_s rfl gz_le_0)))) (oX8_count_126 (fun y0 y1 S h => ih y0 y1 S h) _ _ _ _ h)
set_option maxHeartbeats 4000000 in
set_option maxRecDepth 100000 in
theorem ctX8_count {E : gz_E} {x1 : Int32} {S : gz_S} {Q : Int32 → gz_S → Prop} (h : wX8_count x1 S Q) : gz_m E mX8_count 4 0 0 [.ref 45, .int x1] gz_F S (gz_qi Q) := by
  refine gz_meet0 (L0 := [some (.ref 45), some (.int x1), none, none]) (by decide) rfl (Nat.le_of_ble_eq_true rfl) (by decide) ?_
  unfold wX8_count at h
  refine gk_iconst (v := 0) dX8_count_0 rfl ?_
  refine gk_istore_n dX8_count_1 (Nat.le_of_ble_eq_true rfl) rfl rfl ?_
  refine gk_aload_n dX8_count_2 rfl ?_
  refine gk_callV (as := []) (rest := []) (ctX8_reads h) dX8_count_3 rfl rfl wvX8_147 wcX8_reads rfl (Nat.le_of_ble_eq_true rfl) ⟨Nat.le_refl _, Nat.le_refl _⟩ (fun h9 => absurd rfl h9) (Nat.le_of_ble_eq_true rfl) rfl (fun v G2 S3 hq => ?_)
  obtain ⟨rfl, rfl, h⟩ := hq
  refine gk_aload_n dX8_count_6 rfl ?_
  refine gk_iconst (v := (-1)) dX8_count_7 rfl ?_
  refine gk_callV (as := [_]) (rest := []) (ctX8_goes h) dX8_count_8 rfl rfl wvX8_186 wcX8_goes rfl (Nat.le_of_ble_eq_true rfl) ⟨Nat.le_refl _, Nat.le_refl _⟩ (fun h9 => absurd rfl h9) (Nat.le_of_ble_eq_true rfl) rfl (fun v G2 S8 hq => ?_)
  obtain ⟨rfl, rfl, h⟩ := hq
  refine gk_iload_n dX8_count_11 rfl ?_
  have hc12 : (x1.toInt < 0 ∨ 8 < x1.toInt) ∨ x1.toInt = 0 ∨ x1.toInt = 1 ∨ x1.toInt = 2 ∨ x1.toInt = 3 ∨ x1.toInt = 4 ∨ x1.toInt = 5 ∨ x1.toInt = 6 ∨ x1.toInt = 7 ∨ x1.toInt = 8 := by omega
  rcases hc12 with hc | hc | hc | hc | hc | hc | hc | hc | hc | hc
  · replace h := h.1 hc
    refine gk_tableOut (tgt := 148) dX8_count_12 hc (by decide) ?_
    refine gk_bipush (v := (-2)) dX8_count_148 rfl ?_
    exact gk_iret dX8_count_150 rfl rfl rfl rfl ⟨rfl, _, rfl, h⟩
  · replace h := h.2.1 hc
    refine gk_tableIn (off := 52) (tgt := 64) dX8_count_12 (by omega) (by omega) (by rw [hc]; rfl) (by decide) ?_
    refine gk_aload_n dX8_count_64 rfl ?_
    refine gk_geti dX8_count_65 rfl rfl wfX8_129 ?_
    exact gk_iret dX8_count_68 rfl rfl rfl rfl ⟨rfl, _, rfl, h⟩
  · replace h := h.2.2.1 hc
    refine gk_tableIn (off := 57) (tgt := 69) dX8_count_12 (by omega) (by omega) (by rw [hc]; rfl) (by decide) ?_
    refine gk_aload_n dX8_count_69 rfl ?_
    refine gk_geti dX8_count_70 rfl rfl wfX8_137 ?_
    exact gk_iret dX8_count_73 rfl rfl rfl rfl ⟨rfl, _, rfl, h⟩
  · replace h := h.2.2.2.1 hc
    refine gk_tableIn (off := 62) (tgt := 74) dX8_count_12 (by omega) (by omega) (by rw [hc]; rfl) (by decide) ?_
    refine gk_aload_n dX8_count_74 rfl ?_
    refine gk_getr dX8_count_75 rfl rfl wfX8_25 ?_
    refine gk_iload_n dX8_count_78 rfl ?_
    refine gk_iconst (v := 2) dX8_count_79 rfl ?_
    refine gk_isub dX8_count_80 ?_
    refine gk_iaload dX8_count_81 rfl h.1 ?_
    replace h := h.2
    exact gk_iret dX8_count_82 rfl rfl rfl rfl ⟨rfl, _, rfl, h⟩
  · replace h := h.2.2.2.2.1 hc
    refine gk_tableIn (off := 62) (tgt := 74) dX8_count_12 (by omega) (by omega) (by rw [hc]; rfl) (by decide) ?_
    refine gk_aload_n dX8_count_74 rfl ?_
    refine gk_getr dX8_count_75 rfl rfl wfX8_25 ?_
    refine gk_iload_n dX8_count_78 rfl ?_
    refine gk_iconst (v := 2) dX8_count_79 rfl ?_
    refine gk_isub dX8_count_80 ?_
    refine gk_iaload dX8_count_81 rfl h.1 ?_
    replace h := h.2
    exact gk_iret dX8_count_82 rfl rfl rfl rfl ⟨rfl, _, rfl, h⟩
  · replace h := h.2.2.2.2.2.1 hc
    refine gk_tableIn (off := 71) (tgt := 83) dX8_count_12 (by omega) (by omega) (by rw [hc]; rfl) (by decide) ?_
    refine gk_aload_n dX8_count_83 rfl ?_
    refine gk_geti dX8_count_84 rfl rfl wfX8_167 ?_
    exact gk_iret dX8_count_87 rfl rfl rfl rfl ⟨rfl, _, rfl, h⟩
  · replace h := h.2.2.2.2.2.2.1 hc
    refine gk_tableIn (off := 76) (tgt := 88) dX8_count_12 (by omega) (by omega) (by rw [hc]; rfl) (by decide) ?_
    refine gk_aload_n dX8_count_88 rfl ?_
    refine gk_geti dX8_count_89 rfl rfl wfX8_173 ?_
    exact gk_iret dX8_count_92 rfl rfl rfl rfl ⟨rfl, _, rfl, h⟩
  · replace h := h.2.2.2.2.2.2.2.1 hc
    refine gk_tableIn (off := 81) (tgt := 93) dX8_count_12 (by omega) (by omega) (by rw [hc]; rfl) (by decide) ?_
    refine gk_aload_n dX8_count_93 rfl ?_
    refine gk_aload_n dX8_count_94 rfl ?_
    refine gk_callV (as := []) (rest := [_]) (ctX8_end h) dX8_count_95 rfl rfl wvX8_220 wcX8_end rfl (Nat.le_of_ble_eq_true rfl) ⟨Nat.le_refl _, Nat.le_refl _⟩ (fun h9 => absurd rfl h9) (Nat.le_of_ble_eq_true rfl) rfl (fun v G2 S95 hq => ?_)
    obtain ⟨rfl, r95, rfl, h⟩ := hq
    refine gk_callV (as := [_]) (rest := []) (ctX8_heaps h) dX8_count_98 rfl rfl wvX8_208 wcX8_heaps rfl (Nat.le_of_ble_eq_true rfl) ⟨Nat.le_refl _, Nat.le_refl _⟩ (fun h9 => absurd rfl h9) (Nat.le_of_ble_eq_true rfl) rfl (fun v G2 S98 hq => ?_)
    obtain ⟨rfl, rfl, h⟩ := hq
    refine gk_iconst (v := 0) dX8_count_101 rfl ?_
    refine gk_istore_n dX8_count_102 (Nat.le_of_ble_eq_true rfl) rfl rfl ?_
    obtain ⟨m103, h⟩ := h
    exact gk_less (gz_le_s rfl (gz_le_n (gz_le_s rfl (gz_le_s rfl gz_le_0)))) (oX8_count_103 m103 _ _ _ h)
  · replace h := h.2.2.2.2.2.2.2.2.1 hc
    refine gk_tableIn (off := 124) (tgt := 136) dX8_count_12 (by omega) (by omega) (by rw [hc]; rfl) (by decide) ?_
    refine gk_aload_n dX8_count_136 rfl ?_
    refine gk_getr dX8_count_137 rfl rfl wfX8_40 ?_
    refine gk_iconst (v := 0) dX8_count_140 rfl ?_
    refine gk_iaload dX8_count_141 rfl h.1 ?_
    replace h := h.2
    exact gk_iret dX8_count_142 rfl rfl rfl rfl ⟨rfl, _, rfl, h⟩
  · replace h := h.2.2.2.2.2.2.2.2.2 hc
    refine gk_tableIn (off := 131) (tgt := 143) dX8_count_12 (by omega) (by omega) (by rw [hc]; rfl) (by decide) ?_
    refine gk_aload_n dX8_count_143 rfl ?_
    refine gk_geti dX8_count_144 rfl rfl wfX8_96 ?_
    exact gk_iret dX8_count_147 rfl rfl rfl rfl ⟨rfl, _, rfl, h⟩
set_option maxHeartbeats 4000000 in
set_option maxRecDepth 100000 in
theorem oX7_digestPeopleAndStones_23 {E : gz_E} {k5 : Int64 → Int32 → gz_S → Prop} {Q : Int64 → gz_S → Prop} (hk5 : ∀ (x3 : Int64) (x5 : Int32) (S : gz_S), k5 x3 x5 S → gz_k E mX7_digestPeopleAndStones (3, 0, 0, 73) 0 0 5 [some (.ref 0), none, none, some (.long x3), none, some (.int x5), none] [] gz_F S (gz_ql Q)) : ∀ (n : Nat) (x3 : Int64) (x5 : Int32) (x6 : Int32) (S : gz_S), wX7_digestPeopleAndStones_23 k5 Q n x3 x5 x6 S → gz_k E mX7_digestPeopleAndStones (3, 0, 0, 73) 0 0 23 [some (.ref 0), none, none, some (.long x3), none, some (.int x5), some (.int x6)] [] gz_F S (gz_ql Q) := by
  intro n
  induction n with
  | zero =>
    intro x3 x5 x6 S h
    exact h.elim
  | succ n ih =>
    intro x3 x5 x6 S h
    unfold wX7_digestPeopleAndStones_23 at h
    refine gk_iload dX7_digestPeopleAndStones_23 rfl ?_
    refine gk_iconst (v := 2) dX7_digestPeopleAndStones_25 rfl ?_
    refine gk_icmp_gt (tgt := 51) dX7_digestPeopleAndStones_26 (by decide) (fun c26 => ?_) (fun c26 => ?_)
    · replace h := h.1 c26
      refine gk_iinc dX7_digestPeopleAndStones_51 rfl (Nat.le_of_ble_eq_true rfl) rfl rfl rfl ?_
      refine gk_goto (tgt := 5) dX7_digestPeopleAndStones_54 (by decide) ?_
      exact gk_less (gz_le_s rfl (gz_le_n (gz_le_n (gz_le_s rfl (gz_le_n (gz_le_s rfl (gz_le_n gz_le_0))))))) (hk5 _ _ _ h)
    · replace h := h.2 c26
      refine gk_ldc2 dX7_digestPeopleAndStones_29 wkX7_262 ?_
      refine gk_lload_n dX7_digestPeopleAndStones_32 rfl ?_
      refine gk_lmul dX7_digestPeopleAndStones_33 ?_
      refine gk_aload_n dX7_digestPeopleAndStones_34 rfl ?_
      refine gk_iload dX7_digestPeopleAndStones_35 rfl ?_
      refine gk_iload dX7_digestPeopleAndStones_37 rfl ?_
      refine gk_callV (as := [_, _]) (rest := [_]) (ctX7_person h) dX7_digestPeopleAndStones_39 rfl rfl wvX7_289 wcX7_person rfl (Nat.le_of_ble_eq_true rfl) ⟨Nat.le_refl _, Nat.le_refl _⟩ (fun h9 => absurd rfl h9) (Nat.le_of_ble_eq_true rfl) rfl (fun v G2 S39 hq => ?_)
      obtain ⟨rfl, r39, rfl, h⟩ := hq
      refine gk_i2l dX7_digestPeopleAndStones_42 ?_
      refine gk_ladd dX7_digestPeopleAndStones_43 ?_
      refine gk_nml (fun v3_44 ev3_44 => ?_)
      replace h := h v3_44 ev3_44
      refine gk_lstore_n dX7_digestPeopleAndStones_44 (Nat.le_of_ble_eq_true rfl) rfl rfl ?_
      refine gk_iinc dX7_digestPeopleAndStones_45 rfl (Nat.le_of_ble_eq_true rfl) rfl rfl rfl ?_
      refine gk_goto (tgt := 23) dX7_digestPeopleAndStones_48 (by decide) ?_
      exact gk_less (gz_le_s rfl (gz_le_n (gz_le_n (gz_le_s rfl (gz_le_n (gz_le_s rfl (gz_le_s rfl gz_le_0))))))) (ih _ _ _ _ h)
set_option maxHeartbeats 4000000 in
set_option maxRecDepth 100000 in
theorem oX7_digestPeopleAndStones_78 {E : gz_E} {k60 : Int64 → Int32 → gz_S → Prop} {Q : Int64 → gz_S → Prop} (hk60 : ∀ (x3 : Int64) (x5 : Int32) (S : gz_S), k60 x3 x5 S → gz_k E mX7_digestPeopleAndStones (3, 0, 0, 73) 0 0 60 [some (.ref 0), none, none, some (.long x3), none, some (.int x5), none] [] gz_F S (gz_ql Q)) : ∀ (n : Nat) (x3 : Int64) (x5 : Int32) (x6 : Int32) (S : gz_S), wX7_digestPeopleAndStones_78 k60 Q n x3 x5 x6 S → gz_k E mX7_digestPeopleAndStones (3, 0, 0, 73) 0 0 78 [some (.ref 0), none, none, some (.long x3), none, some (.int x5), some (.int x6)] [] gz_F S (gz_ql Q) := by
  intro n
  induction n with
  | zero =>
    intro x3 x5 x6 S h
    exact h.elim
  | succ n ih =>
    intro x3 x5 x6 S h
    unfold wX7_digestPeopleAndStones_78 at h
    refine gk_iload dX7_digestPeopleAndStones_78 rfl ?_
    refine gk_iconst (v := 2) dX7_digestPeopleAndStones_80 rfl ?_
    refine gk_icmp_gt (tgt := 106) dX7_digestPeopleAndStones_81 (by decide) (fun c81 => ?_) (fun c81 => ?_)
    · replace h := h.1 c81
      refine gk_iinc dX7_digestPeopleAndStones_106 rfl (Nat.le_of_ble_eq_true rfl) rfl rfl rfl ?_
      refine gk_goto (tgt := 60) dX7_digestPeopleAndStones_109 (by decide) ?_
      exact gk_less (gz_le_s rfl (gz_le_n (gz_le_n (gz_le_s rfl (gz_le_n (gz_le_s rfl (gz_le_n gz_le_0))))))) (hk60 _ _ _ h)
    · replace h := h.2 c81
      refine gk_ldc2 dX7_digestPeopleAndStones_84 wkX7_262 ?_
      refine gk_lload_n dX7_digestPeopleAndStones_87 rfl ?_
      refine gk_lmul dX7_digestPeopleAndStones_88 ?_
      refine gk_aload_n dX7_digestPeopleAndStones_89 rfl ?_
      refine gk_iload dX7_digestPeopleAndStones_90 rfl ?_
      refine gk_iload dX7_digestPeopleAndStones_92 rfl ?_
      refine gk_callV (as := [_, _]) (rest := [_]) (ctX7_stone h) dX7_digestPeopleAndStones_94 rfl rfl wvX7_292 wcX7_stone rfl (Nat.le_of_ble_eq_true rfl) ⟨Nat.le_refl _, Nat.le_refl _⟩ (fun h9 => absurd rfl h9) (Nat.le_of_ble_eq_true rfl) rfl (fun v G2 S94 hq => ?_)
      obtain ⟨rfl, r94, rfl, h⟩ := hq
      refine gk_i2l dX7_digestPeopleAndStones_97 ?_
      refine gk_ladd dX7_digestPeopleAndStones_98 ?_
      refine gk_nml (fun v3_99 ev3_99 => ?_)
      replace h := h v3_99 ev3_99
      refine gk_lstore_n dX7_digestPeopleAndStones_99 (Nat.le_of_ble_eq_true rfl) rfl rfl ?_
      refine gk_iinc dX7_digestPeopleAndStones_100 rfl (Nat.le_of_ble_eq_true rfl) rfl rfl rfl ?_
      refine gk_goto (tgt := 78) dX7_digestPeopleAndStones_103 (by decide) ?_
      exact gk_less (gz_le_s rfl (gz_le_n (gz_le_n (gz_le_s rfl (gz_le_n (gz_le_s rfl (gz_le_s rfl gz_le_0))))))) (ih _ _ _ _ h)
set_option maxHeartbeats 4000000 in
set_option maxRecDepth 100000 in
theorem oX7_digestPeopleAndStones_60 {E : gz_E} {Q : Int64 → gz_S → Prop} : ∀ (n : Nat) (x3 : Int64) (x5 : Int32) (S : gz_S), wX7_digestPeopleAndStones_60 Q n x3 x5 S → gz_k E mX7_digestPeopleAndStones (3, 0, 0, 73) 0 0 60 [some (.ref 0), none, none, some (.long x3), none, some (.int x5), none] [] gz_F S (gz_ql Q) := by
  intro n
  induction n with
  | zero =>
    intro x3 x5 S h
    exact h.elim
  | succ n ih =>
    intro x3 x5 S h
    unfold wX7_digestPeopleAndStones_60 at h
    refine gk_iload dX7_digestPeopleAndStones_60 rfl ?_
    refine gk_aload_n dX7_digestPeopleAndStones_62 rfl ?_
    refine gk_getr dX7_digestPeopleAndStones_63 rfl rfl wfX7_10 ?_
    refine gk_getr dX7_digestPeopleAndStones_66 rfl rfl wfX7_110 ?_
    refine gk_geti dX7_digestPeopleAndStones_69 rfl rfl wfX7_96 ?_
    refine gk_icmp_ge (tgt := 112) dX7_digestPeopleAndStones_72 (by decide) (fun c72 => ?_) (fun c72 => ?_)
    · replace h := h.1 c72
      refine gk_lload_n dX7_digestPeopleAndStones_112 rfl ?_
      exact gk_lret dX7_digestPeopleAndStones_113 rfl rfl rfl ⟨rfl, _, rfl, h⟩
    · replace h := h.2 c72
      refine gk_iconst (v := 0) dX7_digestPeopleAndStones_75 rfl ?_
      refine gk_istore dX7_digestPeopleAndStones_76 (Nat.le_of_ble_eq_true rfl) rfl rfl ?_
      obtain ⟨m78, h⟩ := h
      exact gk_less (gz_le_s rfl (gz_le_n (gz_le_n (gz_le_s rfl (gz_le_n (gz_le_s rfl (gz_le_s rfl gz_le_0))))))) (oX7_digestPeopleAndStones_78 (fun y0 y1 S h => ih y0 y1 S h) m78 _ _ _ _ h)
set_option maxHeartbeats 4000000 in
set_option maxRecDepth 100000 in
theorem oX7_digestPeopleAndStones_5 {E : gz_E} {Q : Int64 → gz_S → Prop} : ∀ (n : Nat) (x3 : Int64) (x5 : Int32) (S : gz_S), wX7_digestPeopleAndStones_5 Q n x3 x5 S → gz_k E mX7_digestPeopleAndStones (3, 0, 0, 73) 0 0 5 [some (.ref 0), none, none, some (.long x3), none, some (.int x5), none] [] gz_F S (gz_ql Q) := by
  intro n
  induction n with
  | zero =>
    intro x3 x5 S h
    exact h.elim
  | succ n ih =>
    intro x3 x5 S h
    unfold wX7_digestPeopleAndStones_5 at h
    refine gk_iload dX7_digestPeopleAndStones_5 rfl ?_
    refine gk_aload_n dX7_digestPeopleAndStones_7 rfl ?_
    refine gk_getr dX7_digestPeopleAndStones_8 rfl rfl wfX7_10 ?_
    refine gk_getr dX7_digestPeopleAndStones_11 rfl rfl wfX7_92 ?_
    refine gk_geti dX7_digestPeopleAndStones_14 rfl rfl wfX7_96 ?_
    refine gk_icmp_ge (tgt := 57) dX7_digestPeopleAndStones_17 (by decide) (fun c17 => ?_) (fun c17 => ?_)
    · replace h := h.1 c17
      refine gk_iconst (v := 0) dX7_digestPeopleAndStones_57 rfl ?_
      refine gk_istore dX7_digestPeopleAndStones_58 (Nat.le_of_ble_eq_true rfl) rfl rfl ?_
      obtain ⟨m60, h⟩ := h
      exact gk_less (gz_le_s rfl (gz_le_n (gz_le_n (gz_le_s rfl (gz_le_n (gz_le_s rfl (gz_le_n gz_le_0))))))) (oX7_digestPeopleAndStones_60 m60 _ _ _ h)
    · replace h := h.2 c17
      refine gk_iconst (v := 0) dX7_digestPeopleAndStones_20 rfl ?_
      refine gk_istore dX7_digestPeopleAndStones_21 (Nat.le_of_ble_eq_true rfl) rfl rfl ?_
      obtain ⟨m23, h⟩ := h
      exact gk_less (gz_le_s rfl (gz_le_n (gz_le_n (gz_le_s rfl (gz_le_n (gz_le_s rfl (gz_le_s rfl gz_le_0))))))) (oX7_digestPeopleAndStones_23 (fun y0 y1 S h => ih y0 y1 S h) m23 _ _ _ _ h)
set_option maxHeartbeats 4000000 in
set_option maxRecDepth 100000 in
theorem ctX7_digestPeopleAndStones {E : gz_E} {x1 : Int64} {S : gz_S} {Q : Int64 → gz_S → Prop} (h : wX7_digestPeopleAndStones x1 S Q) : gz_m E mX7_digestPeopleAndStones 3 0 0 [.ref 0, .long x1] gz_F S (gz_ql Q) := by
  refine gz_meet0 (L0 := [some (.ref 0), some (.long x1), none, none, none, none, none]) (by decide) rfl (Nat.le_of_ble_eq_true rfl) (by decide) ?_
  unfold wX7_digestPeopleAndStones at h
  refine gk_lload_n dX7_digestPeopleAndStones_0 rfl ?_
  refine gk_lstore_n dX7_digestPeopleAndStones_1 (Nat.le_of_ble_eq_true rfl) rfl rfl ?_
  refine gk_iconst (v := 0) dX7_digestPeopleAndStones_2 rfl ?_
  refine gk_istore dX7_digestPeopleAndStones_3 (Nat.le_of_ble_eq_true rfl) rfl rfl ?_
  obtain ⟨m5, h⟩ := h
  exact gk_less (gz_le_s rfl (gz_le_n (gz_le_n (gz_le_s rfl (gz_le_n (gz_le_s rfl (gz_le_n gz_le_0))))))) (oX7_digestPeopleAndStones_5 m5 _ _ _ h)
set_option maxHeartbeats 4000000 in
set_option maxRecDepth 100000 in
theorem oX7_digestHeap_103 {E : gz_E} {Q : Int64 → gz_S → Prop} : ∀ (n : Nat) (x4 : Int64) (x6 : Int32) (S : gz_S), wX7_digestHeap_103 Q n x4 x6 S → gz_k E mX7_digestHeap (6, 0, 0, 73) 0 0 103 [some (.ref 0), none, none, none, some (.long x4), none, some (.int x6)] [] gz_F S (gz_ql Q) := by
  intro n
  induction n with
  | zero =>
    intro x4 x6 S h
    exact h.elim
  | succ n ih =>
    intro x4 x6 S h
    unfold wX7_digestHeap_103 at h
    refine gk_iload dX7_digestHeap_103 rfl ?_
    refine gk_iconst (v := 2) dX7_digestHeap_105 rfl ?_
    refine gk_icmp_gt (tgt := 131) dX7_digestHeap_106 (by decide) (fun c106 => ?_) (fun c106 => ?_)
    · replace h := h.1 c106
      refine gk_ldc2 dX7_digestHeap_131 wkX7_262 ?_
      refine gk_lload dX7_digestHeap_134 rfl ?_
      refine gk_lmul dX7_digestHeap_136 ?_
      refine gk_aload_n dX7_digestHeap_137 rfl ?_
      refine gk_callV (as := []) (rest := [_]) (ctX7_settled h) dX7_digestHeap_138 rfl rfl wvX7_309 wcX7_settled rfl (Nat.le_of_ble_eq_true rfl) ⟨Nat.le_refl _, Nat.le_refl _⟩ (fun h9 => absurd rfl h9) (Nat.le_of_ble_eq_true rfl) rfl (fun v G2 S138 hq => ?_)
      obtain ⟨rfl, r138, rfl, h⟩ := hq
      refine gk_i2l dX7_digestHeap_141 ?_
      refine gk_ladd dX7_digestHeap_142 ?_
      refine gk_nml (fun v4_143 ev4_143 => ?_)
      replace h := h v4_143 ev4_143
      refine gk_lstore dX7_digestHeap_143 (Nat.le_of_ble_eq_true rfl) rfl rfl ?_
      refine gk_ldc2 dX7_digestHeap_145 wkX7_262 ?_
      refine gk_lload dX7_digestHeap_148 rfl ?_
      refine gk_lmul dX7_digestHeap_150 ?_
      refine gk_aload_n dX7_digestHeap_151 rfl ?_
      refine gk_callV (as := []) (rest := [_]) (ctX7_doubles h) dX7_digestHeap_152 rfl rfl wvX7_312 wcX7_doubles rfl (Nat.le_of_ble_eq_true rfl) ⟨Nat.le_refl _, Nat.le_refl _⟩ (fun h9 => absurd rfl h9) (Nat.le_of_ble_eq_true rfl) rfl (fun v G2 S152 hq => ?_)
      obtain ⟨rfl, r152, rfl, h⟩ := hq
      refine gk_i2l dX7_digestHeap_155 ?_
      refine gk_ladd dX7_digestHeap_156 ?_
      exact gk_lret dX7_digestHeap_157 rfl rfl rfl ⟨rfl, _, rfl, h⟩
    · replace h := h.2 c106
      refine gk_ldc2 dX7_digestHeap_109 wkX7_262 ?_
      refine gk_lload dX7_digestHeap_112 rfl ?_
      refine gk_lmul dX7_digestHeap_114 ?_
      refine gk_aload_n dX7_digestHeap_115 rfl ?_
      refine gk_iload dX7_digestHeap_116 rfl ?_
      refine gk_callV (as := [_]) (rest := [_]) (ctX7_result h) dX7_digestHeap_118 rfl rfl wvX7_306 wcX7_result rfl (Nat.le_of_ble_eq_true rfl) ⟨Nat.le_refl _, Nat.le_refl _⟩ (fun h9 => absurd rfl h9) (Nat.le_of_ble_eq_true rfl) rfl (fun v G2 S118 hq => ?_)
      obtain ⟨rfl, r118, rfl, h⟩ := hq
      refine gk_i2l dX7_digestHeap_121 ?_
      refine gk_ladd dX7_digestHeap_122 ?_
      refine gk_nml (fun v4_123 ev4_123 => ?_)
      replace h := h v4_123 ev4_123
      refine gk_lstore dX7_digestHeap_123 (Nat.le_of_ble_eq_true rfl) rfl rfl ?_
      refine gk_iinc dX7_digestHeap_125 rfl (Nat.le_of_ble_eq_true rfl) rfl rfl rfl ?_
      refine gk_goto (tgt := 103) dX7_digestHeap_128 (by decide) ?_
      exact gk_less (gz_le_s rfl (gz_le_n (gz_le_n (gz_le_n (gz_le_s rfl (gz_le_n (gz_le_s rfl gz_le_0))))))) (ih _ _ _ h)
set_option maxHeartbeats 4000000 in
set_option maxRecDepth 100000 in
theorem ctX7_digestHeap {E : gz_E} {x1 : Int64} {S : gz_S} {Q : Int64 → gz_S → Prop} (h : wX7_digestHeap x1 S Q) : gz_m E mX7_digestHeap 6 0 0 [.ref 0, .long x1] gz_F S (gz_ql Q) := by
  refine gz_meet0 (L0 := [some (.ref 0), some (.long x1), none, none, none, none, none]) (by decide) rfl (Nat.le_of_ble_eq_true rfl) (by decide) ?_
  unfold wX7_digestHeap at h
  refine gk_aload_n dX7_digestHeap_0 rfl ?_
  refine gk_getr dX7_digestHeap_1 rfl rfl wfX7_10 ?_
  refine gk_geti dX7_digestHeap_4 rfl rfl wfX7_122 ?_
  refine gk_nmi (fun v3_7 ev3_7 => ?_)
  replace h := h v3_7 ev3_7
  refine gk_istore_n dX7_digestHeap_7 (Nat.le_of_ble_eq_true rfl) rfl rfl ?_
  refine gk_ldc2 dX7_digestHeap_8 wkX7_262 ?_
  refine gk_lload_n dX7_digestHeap_11 rfl ?_
  refine gk_lmul dX7_digestHeap_12 ?_
  refine gk_aload_n dX7_digestHeap_13 rfl ?_
  refine gk_iconst (v := 3) dX7_digestHeap_14 rfl ?_
  refine gk_callV (as := [_]) (rest := [_]) (ctX7_tip h) dX7_digestHeap_15 rfl rfl wvX7_294 wcX7_tip rfl (Nat.le_of_ble_eq_true rfl) ⟨Nat.le_refl _, Nat.le_refl _⟩ (fun h9 => absurd rfl h9) (Nat.le_of_ble_eq_true rfl) rfl (fun v G2 S15 hq => ?_)
  obtain ⟨rfl, r15, rfl, h⟩ := hq
  refine gk_i2l dX7_digestHeap_18 ?_
  refine gk_ladd dX7_digestHeap_19 ?_
  refine gk_nml (fun v4_20 ev4_20 => ?_)
  replace h := h v4_20 ev4_20
  refine gk_lstore dX7_digestHeap_20 (Nat.le_of_ble_eq_true rfl) rfl rfl ?_
  refine gk_ldc2 dX7_digestHeap_22 wkX7_262 ?_
  refine gk_lload dX7_digestHeap_25 rfl ?_
  refine gk_lmul dX7_digestHeap_27 ?_
  refine gk_aload_n dX7_digestHeap_28 rfl ?_
  refine gk_iload_n dX7_digestHeap_29 rfl ?_
  refine gk_callV (as := [_]) (rest := [_]) (ctX7_tip h) dX7_digestHeap_30 rfl rfl wvX7_294 wcX7_tip rfl (Nat.le_of_ble_eq_true rfl) ⟨Nat.le_refl _, Nat.le_refl _⟩ (fun h9 => absurd rfl h9) (Nat.le_of_ble_eq_true rfl) rfl (fun v G2 S30 hq => ?_)
  obtain ⟨rfl, r30, rfl, h⟩ := hq
  refine gk_i2l dX7_digestHeap_33 ?_
  refine gk_ladd dX7_digestHeap_34 ?_
  refine gk_nml (fun v4_35 ev4_35 => ?_)
  replace h := h v4_35 ev4_35
  refine gk_lstore dX7_digestHeap_35 (Nat.le_of_ble_eq_true rfl) rfl rfl ?_
  refine gk_ldc2 dX7_digestHeap_37 wkX7_262 ?_
  refine gk_lload dX7_digestHeap_40 rfl ?_
  refine gk_lmul dX7_digestHeap_42 ?_
  refine gk_aload_n dX7_digestHeap_43 rfl ?_
  refine gk_iconst (v := 0) dX7_digestHeap_44 rfl ?_
  refine gk_iconst (v := 5) dX7_digestHeap_45 rfl ?_
  refine gk_iload_n dX7_digestHeap_46 rfl ?_
  refine gk_callV (as := [_, _, _]) (rest := [_]) (ctX7_shelf h) dX7_digestHeap_47 rfl rfl wvX7_297 wcX7_shelf rfl (Nat.le_of_ble_eq_true rfl) ⟨Nat.le_refl _, Nat.le_refl _⟩ (fun h9 => absurd rfl h9) (Nat.le_of_ble_eq_true rfl) rfl (fun v G2 S47 hq => ?_)
  obtain ⟨rfl, r47, rfl, h⟩ := hq
  refine gk_i2l dX7_digestHeap_50 ?_
  refine gk_ladd dX7_digestHeap_51 ?_
  refine gk_nml (fun v4_52 ev4_52 => ?_)
  replace h := h v4_52 ev4_52
  refine gk_lstore dX7_digestHeap_52 (Nat.le_of_ble_eq_true rfl) rfl rfl ?_
  refine gk_ldc2 dX7_digestHeap_54 wkX7_262 ?_
  refine gk_lload dX7_digestHeap_57 rfl ?_
  refine gk_lmul dX7_digestHeap_59 ?_
  refine gk_aload_n dX7_digestHeap_60 rfl ?_
  refine gk_iconst (v := 1) dX7_digestHeap_61 rfl ?_
  refine gk_iconst (v := 1) dX7_digestHeap_62 rfl ?_
  refine gk_iload_n dX7_digestHeap_63 rfl ?_
  refine gk_callV (as := [_, _, _]) (rest := [_]) (ctX7_shelf h) dX7_digestHeap_64 rfl rfl wvX7_297 wcX7_shelf rfl (Nat.le_of_ble_eq_true rfl) ⟨Nat.le_refl _, Nat.le_refl _⟩ (fun h9 => absurd rfl h9) (Nat.le_of_ble_eq_true rfl) rfl (fun v G2 S64 hq => ?_)
  obtain ⟨rfl, r64, rfl, h⟩ := hq
  refine gk_i2l dX7_digestHeap_67 ?_
  refine gk_ladd dX7_digestHeap_68 ?_
  refine gk_nml (fun v4_69 ev4_69 => ?_)
  replace h := h v4_69 ev4_69
  refine gk_lstore dX7_digestHeap_69 (Nat.le_of_ble_eq_true rfl) rfl rfl ?_
  refine gk_ldc2 dX7_digestHeap_71 wkX7_262 ?_
  refine gk_lload dX7_digestHeap_74 rfl ?_
  refine gk_lmul dX7_digestHeap_76 ?_
  refine gk_aload_n dX7_digestHeap_77 rfl ?_
  refine gk_iload_n dX7_digestHeap_78 rfl ?_
  refine gk_callV (as := [_]) (rest := [_]) (ctX7_slid h) dX7_digestHeap_79 rfl rfl wvX7_300 wcX7_slid rfl (Nat.le_of_ble_eq_true rfl) ⟨Nat.le_refl _, Nat.le_refl _⟩ (fun h9 => absurd rfl h9) (Nat.le_of_ble_eq_true rfl) rfl (fun v G2 S79 hq => ?_)
  obtain ⟨rfl, r79, rfl, h⟩ := hq
  refine gk_i2l dX7_digestHeap_82 ?_
  refine gk_ladd dX7_digestHeap_83 ?_
  refine gk_nml (fun v4_84 ev4_84 => ?_)
  replace h := h v4_84 ev4_84
  refine gk_lstore dX7_digestHeap_84 (Nat.le_of_ble_eq_true rfl) rfl rfl ?_
  refine gk_ldc2 dX7_digestHeap_86 wkX7_262 ?_
  refine gk_lload dX7_digestHeap_89 rfl ?_
  refine gk_lmul dX7_digestHeap_91 ?_
  refine gk_aload_n dX7_digestHeap_92 rfl ?_
  refine gk_callV (as := []) (rest := [_]) (ctX7_when h) dX7_digestHeap_93 rfl rfl wvX7_303 wcX7_when rfl (Nat.le_of_ble_eq_true rfl) ⟨Nat.le_refl _, Nat.le_refl _⟩ (fun h9 => absurd rfl h9) (Nat.le_of_ble_eq_true rfl) rfl (fun v G2 S93 hq => ?_)
  obtain ⟨rfl, r93, rfl, h⟩ := hq
  refine gk_i2l dX7_digestHeap_96 ?_
  refine gk_ladd dX7_digestHeap_97 ?_
  refine gk_nml (fun v4_98 ev4_98 => ?_)
  replace h := h v4_98 ev4_98
  refine gk_lstore dX7_digestHeap_98 (Nat.le_of_ble_eq_true rfl) rfl rfl ?_
  refine gk_iconst (v := 0) dX7_digestHeap_100 rfl ?_
  refine gk_istore dX7_digestHeap_101 (Nat.le_of_ble_eq_true rfl) rfl rfl ?_
  obtain ⟨m103, h⟩ := h
  exact gk_less (gz_le_s rfl (gz_le_n (gz_le_n (gz_le_n (gz_le_s rfl (gz_le_n (gz_le_s rfl gz_le_0))))))) (oX7_digestHeap_103 m103 _ _ _ h)
set_option maxHeartbeats 4000000 in
set_option maxRecDepth 100000 in
theorem oX7_digestWhatCouldBe_109 {E : gz_E} {Q : Int64 → gz_S → Prop} : ∀ (n : Nat) (x3 : Int64) (x5 : Int32) (S : gz_S), wX7_digestWhatCouldBe_109 Q n x3 x5 S → gz_k E mX7_digestWhatCouldBe (14, 0, 0, 73) 0 0 109 [some (.ref 0), none, none, some (.long x3), none, some (.int x5)] [] gz_F S (gz_ql Q) := by
  intro n
  induction n with
  | zero =>
    intro x3 x5 S h
    exact h.elim
  | succ n ih =>
    intro x3 x5 S h
    unfold wX7_digestWhatCouldBe_109 at h
    refine gk_iload dX7_digestWhatCouldBe_109 rfl ?_
    refine gk_iconst (v := 2) dX7_digestWhatCouldBe_111 rfl ?_
    refine gk_icmp_gt (tgt := 136) dX7_digestWhatCouldBe_112 (by decide) (fun c112 => ?_) (fun c112 => ?_)
    · replace h := h.1 c112
      refine gk_lload_n dX7_digestWhatCouldBe_136 rfl ?_
      exact gk_lret dX7_digestWhatCouldBe_137 rfl rfl rfl ⟨rfl, _, rfl, h⟩
    · replace h := h.2 c112
      refine gk_ldc2 dX7_digestWhatCouldBe_115 wkX7_262 ?_
      refine gk_lload_n dX7_digestWhatCouldBe_118 rfl ?_
      refine gk_lmul dX7_digestWhatCouldBe_119 ?_
      refine gk_aload_n dX7_digestWhatCouldBe_120 rfl ?_
      refine gk_iconst (v := 3) dX7_digestWhatCouldBe_121 rfl ?_
      refine gk_iload dX7_digestWhatCouldBe_122 rfl ?_
      refine gk_callV (as := [_, _]) (rest := [_]) (ctX7_secret h) dX7_digestWhatCouldBe_124 rfl rfl wvX7_327 wcX7_secret rfl (Nat.le_of_ble_eq_true rfl) ⟨Nat.le_refl _, Nat.le_refl _⟩ (fun h9 => absurd rfl h9) (Nat.le_of_ble_eq_true rfl) rfl (fun v G2 S124 hq => ?_)
      obtain ⟨rfl, r124, rfl, h⟩ := hq
      refine gk_i2l dX7_digestWhatCouldBe_127 ?_
      refine gk_ladd dX7_digestWhatCouldBe_128 ?_
      refine gk_nml (fun v3_129 ev3_129 => ?_)
      replace h := h v3_129 ev3_129
      refine gk_lstore_n dX7_digestWhatCouldBe_129 (Nat.le_of_ble_eq_true rfl) rfl rfl ?_
      refine gk_iinc dX7_digestWhatCouldBe_130 rfl (Nat.le_of_ble_eq_true rfl) rfl rfl rfl ?_
      refine gk_goto (tgt := 109) dX7_digestWhatCouldBe_133 (by decide) ?_
      exact gk_less (gz_le_s rfl (gz_le_n (gz_le_n (gz_le_s rfl (gz_le_n (gz_le_s rfl gz_le_0)))))) (ih _ _ _ h)
set_option maxHeartbeats 4000000 in
set_option maxRecDepth 100000 in
theorem ctX7_digestWhatCouldBe {E : gz_E} {x1 : Int64} {S : gz_S} {Q : Int64 → gz_S → Prop} (h : wX7_digestWhatCouldBe x1 S Q) : gz_m E mX7_digestWhatCouldBe 14 0 0 [.ref 0, .long x1] gz_F S (gz_ql Q) := by
  refine gz_meet0 (L0 := [some (.ref 0), some (.long x1), none, none, none, none]) (by decide) rfl (Nat.le_of_ble_eq_true rfl) (by decide) ?_
  unfold wX7_digestWhatCouldBe at h
  refine gk_ldc2 dX7_digestWhatCouldBe_0 wkX7_262 ?_
  refine gk_lload_n dX7_digestWhatCouldBe_3 rfl ?_
  refine gk_lmul dX7_digestWhatCouldBe_4 ?_
  refine gk_aload_n dX7_digestWhatCouldBe_5 rfl ?_
  refine gk_iconst (v := 0) dX7_digestWhatCouldBe_6 rfl ?_
  refine gk_callV (as := [_]) (rest := [_]) (ctX7_fewest h) dX7_digestWhatCouldBe_7 rfl rfl wvX7_315 wcX7_fewest rfl (Nat.le_of_ble_eq_true rfl) ⟨Nat.le_refl _, Nat.le_refl _⟩ (fun h9 => absurd rfl h9) (Nat.le_of_ble_eq_true rfl) rfl (fun v G2 S7 hq => ?_)
  obtain ⟨rfl, r7, rfl, h⟩ := hq
  refine gk_i2l dX7_digestWhatCouldBe_10 ?_
  refine gk_ladd dX7_digestWhatCouldBe_11 ?_
  refine gk_nml (fun v3_12 ev3_12 => ?_)
  replace h := h v3_12 ev3_12
  refine gk_lstore_n dX7_digestWhatCouldBe_12 (Nat.le_of_ble_eq_true rfl) rfl rfl ?_
  refine gk_ldc2 dX7_digestWhatCouldBe_13 wkX7_262 ?_
  refine gk_lload_n dX7_digestWhatCouldBe_16 rfl ?_
  refine gk_lmul dX7_digestWhatCouldBe_17 ?_
  refine gk_aload_n dX7_digestWhatCouldBe_18 rfl ?_
  refine gk_iconst (v := 1) dX7_digestWhatCouldBe_19 rfl ?_
  refine gk_callV (as := [_]) (rest := [_]) (ctX7_fewest h) dX7_digestWhatCouldBe_20 rfl rfl wvX7_315 wcX7_fewest rfl (Nat.le_of_ble_eq_true rfl) ⟨Nat.le_refl _, Nat.le_refl _⟩ (fun h9 => absurd rfl h9) (Nat.le_of_ble_eq_true rfl) rfl (fun v G2 S20 hq => ?_)
  obtain ⟨rfl, r20, rfl, h⟩ := hq
  refine gk_i2l dX7_digestWhatCouldBe_23 ?_
  refine gk_ladd dX7_digestWhatCouldBe_24 ?_
  refine gk_nml (fun v3_25 ev3_25 => ?_)
  replace h := h v3_25 ev3_25
  refine gk_lstore_n dX7_digestWhatCouldBe_25 (Nat.le_of_ble_eq_true rfl) rfl rfl ?_
  refine gk_ldc2 dX7_digestWhatCouldBe_26 wkX7_262 ?_
  refine gk_lload_n dX7_digestWhatCouldBe_29 rfl ?_
  refine gk_lmul dX7_digestWhatCouldBe_30 ?_
  refine gk_aload_n dX7_digestWhatCouldBe_31 rfl ?_
  refine gk_iconst (v := 0) dX7_digestWhatCouldBe_32 rfl ?_
  refine gk_callV (as := [_]) (rest := [_]) (ctX7_most h) dX7_digestWhatCouldBe_33 rfl rfl wvX7_318 wcX7_most rfl (Nat.le_of_ble_eq_true rfl) ⟨Nat.le_refl _, Nat.le_refl _⟩ (fun h9 => absurd rfl h9) (Nat.le_of_ble_eq_true rfl) rfl (fun v G2 S33 hq => ?_)
  obtain ⟨rfl, r33, rfl, h⟩ := hq
  refine gk_i2l dX7_digestWhatCouldBe_36 ?_
  refine gk_ladd dX7_digestWhatCouldBe_37 ?_
  refine gk_nml (fun v3_38 ev3_38 => ?_)
  replace h := h v3_38 ev3_38
  refine gk_lstore_n dX7_digestWhatCouldBe_38 (Nat.le_of_ble_eq_true rfl) rfl rfl ?_
  refine gk_ldc2 dX7_digestWhatCouldBe_39 wkX7_262 ?_
  refine gk_lload_n dX7_digestWhatCouldBe_42 rfl ?_
  refine gk_lmul dX7_digestWhatCouldBe_43 ?_
  refine gk_aload_n dX7_digestWhatCouldBe_44 rfl ?_
  refine gk_iconst (v := 1) dX7_digestWhatCouldBe_45 rfl ?_
  refine gk_callV (as := [_]) (rest := [_]) (ctX7_most h) dX7_digestWhatCouldBe_46 rfl rfl wvX7_318 wcX7_most rfl (Nat.le_of_ble_eq_true rfl) ⟨Nat.le_refl _, Nat.le_refl _⟩ (fun h9 => absurd rfl h9) (Nat.le_of_ble_eq_true rfl) rfl (fun v G2 S46 hq => ?_)
  obtain ⟨rfl, r46, rfl, h⟩ := hq
  refine gk_i2l dX7_digestWhatCouldBe_49 ?_
  refine gk_ladd dX7_digestWhatCouldBe_50 ?_
  refine gk_nml (fun v3_51 ev3_51 => ?_)
  replace h := h v3_51 ev3_51
  refine gk_lstore_n dX7_digestWhatCouldBe_51 (Nat.le_of_ble_eq_true rfl) rfl rfl ?_
  refine gk_ldc2 dX7_digestWhatCouldBe_52 wkX7_262 ?_
  refine gk_lload_n dX7_digestWhatCouldBe_55 rfl ?_
  refine gk_lmul dX7_digestWhatCouldBe_56 ?_
  refine gk_aload_n dX7_digestWhatCouldBe_57 rfl ?_
  refine gk_iconst (v := 0) dX7_digestWhatCouldBe_58 rfl ?_
  refine gk_callV (as := [_]) (rest := [_]) (ctX7_hold h) dX7_digestWhatCouldBe_59 rfl rfl wvX7_321 wcX7_hold rfl (Nat.le_of_ble_eq_true rfl) ⟨Nat.le_refl _, Nat.le_refl _⟩ (fun h9 => absurd rfl h9) (Nat.le_of_ble_eq_true rfl) rfl (fun v G2 S59 hq => ?_)
  obtain ⟨rfl, r59, rfl, h⟩ := hq
  refine gk_i2l dX7_digestWhatCouldBe_62 ?_
  refine gk_ladd dX7_digestWhatCouldBe_63 ?_
  refine gk_nml (fun v3_64 ev3_64 => ?_)
  replace h := h v3_64 ev3_64
  refine gk_lstore_n dX7_digestWhatCouldBe_64 (Nat.le_of_ble_eq_true rfl) rfl rfl ?_
  refine gk_ldc2 dX7_digestWhatCouldBe_65 wkX7_262 ?_
  refine gk_lload_n dX7_digestWhatCouldBe_68 rfl ?_
  refine gk_lmul dX7_digestWhatCouldBe_69 ?_
  refine gk_aload_n dX7_digestWhatCouldBe_70 rfl ?_
  refine gk_iconst (v := 1) dX7_digestWhatCouldBe_71 rfl ?_
  refine gk_callV (as := [_]) (rest := [_]) (ctX7_hold h) dX7_digestWhatCouldBe_72 rfl rfl wvX7_321 wcX7_hold rfl (Nat.le_of_ble_eq_true rfl) ⟨Nat.le_refl _, Nat.le_refl _⟩ (fun h9 => absurd rfl h9) (Nat.le_of_ble_eq_true rfl) rfl (fun v G2 S72 hq => ?_)
  obtain ⟨rfl, r72, rfl, h⟩ := hq
  refine gk_i2l dX7_digestWhatCouldBe_75 ?_
  refine gk_ladd dX7_digestWhatCouldBe_76 ?_
  refine gk_nml (fun v3_77 ev3_77 => ?_)
  replace h := h v3_77 ev3_77
  refine gk_lstore_n dX7_digestWhatCouldBe_77 (Nat.le_of_ble_eq_true rfl) rfl rfl ?_
  refine gk_ldc2 dX7_digestWhatCouldBe_78 wkX7_262 ?_
  refine gk_lload_n dX7_digestWhatCouldBe_81 rfl ?_
  refine gk_lmul dX7_digestWhatCouldBe_82 ?_
  refine gk_aload_n dX7_digestWhatCouldBe_83 rfl ?_
  refine gk_iconst (v := 2) dX7_digestWhatCouldBe_84 rfl ?_
  refine gk_iconst (v := 0) dX7_digestWhatCouldBe_85 rfl ?_
  refine gk_callV (as := [_, _]) (rest := [_]) (ctX7_game h) dX7_digestWhatCouldBe_86 rfl rfl wvX7_324 wcX7_game rfl (Nat.le_of_ble_eq_true rfl) ⟨Nat.le_refl _, Nat.le_refl _⟩ (fun h9 => absurd rfl h9) (Nat.le_of_ble_eq_true rfl) rfl (fun v G2 S86 hq => ?_)
  obtain ⟨rfl, r86, rfl, h⟩ := hq
  refine gk_i2l dX7_digestWhatCouldBe_89 ?_
  refine gk_ladd dX7_digestWhatCouldBe_90 ?_
  refine gk_nml (fun v3_91 ev3_91 => ?_)
  replace h := h v3_91 ev3_91
  refine gk_lstore_n dX7_digestWhatCouldBe_91 (Nat.le_of_ble_eq_true rfl) rfl rfl ?_
  refine gk_ldc2 dX7_digestWhatCouldBe_92 wkX7_262 ?_
  refine gk_lload_n dX7_digestWhatCouldBe_95 rfl ?_
  refine gk_lmul dX7_digestWhatCouldBe_96 ?_
  refine gk_aload_n dX7_digestWhatCouldBe_97 rfl ?_
  refine gk_iconst (v := 2) dX7_digestWhatCouldBe_98 rfl ?_
  refine gk_iconst (v := 1) dX7_digestWhatCouldBe_99 rfl ?_
  refine gk_callV (as := [_, _]) (rest := [_]) (ctX7_game h) dX7_digestWhatCouldBe_100 rfl rfl wvX7_324 wcX7_game rfl (Nat.le_of_ble_eq_true rfl) ⟨Nat.le_refl _, Nat.le_refl _⟩ (fun h9 => absurd rfl h9) (Nat.le_of_ble_eq_true rfl) rfl (fun v G2 S100 hq => ?_)
  obtain ⟨rfl, r100, rfl, h⟩ := hq
  refine gk_i2l dX7_digestWhatCouldBe_103 ?_
  refine gk_ladd dX7_digestWhatCouldBe_104 ?_
  refine gk_nml (fun v3_105 ev3_105 => ?_)
  replace h := h v3_105 ev3_105
  refine gk_lstore_n dX7_digestWhatCouldBe_105 (Nat.le_of_ble_eq_true rfl) rfl rfl ?_
  refine gk_iconst (v := 0) dX7_digestWhatCouldBe_106 rfl ?_
  refine gk_istore dX7_digestWhatCouldBe_107 (Nat.le_of_ble_eq_true rfl) rfl rfl ?_
  obtain ⟨m109, h⟩ := h
  exact gk_less (gz_le_s rfl (gz_le_n (gz_le_n (gz_le_s rfl (gz_le_n (gz_le_s rfl gz_le_0)))))) (oX7_digestWhatCouldBe_109 m109 _ _ _ h)
set_option maxHeartbeats 4000000 in
set_option maxRecDepth 100000 in
theorem oX7_digest_77 {E : gz_E} {Q : Int64 → gz_S → Prop} : ∀ (n : Nat) (x1 : Int64) (x3 : Int32) (S : gz_S), wX7_digest_77 Q n x1 x3 S → gz_k E mX7_digest (15, 0, 0, 73) 0 0 77 [some (.ref 0), some (.long x1), none, some (.int x3)] [] gz_F S (gz_ql Q) := by
  intro n
  induction n with
  | zero =>
    intro x1 x3 S h
    exact h.elim
  | succ n ih =>
    intro x1 x3 S h
    unfold wX7_digest_77 at h
    refine gk_iload_n dX7_digest_77 rfl ?_
    refine gk_aload_n dX7_digest_78 rfl ?_
    refine gk_getr dX7_digest_79 rfl rfl wfX7_19 ?_
    refine gk_geti dX7_digest_82 rfl rfl wfX7_138 ?_
    refine gk_icmp_ge (tgt := 120) dX7_digest_85 (by decide) (fun c85 => ?_) (fun c85 => ?_)
    · replace h := h.1 c85
      refine gk_aload_n dX7_digest_120 rfl ?_
      refine gk_aload_n dX7_digest_121 rfl ?_
      refine gk_lload_n dX7_digest_122 rfl ?_
      refine gk_callV (as := [_]) (rest := [_]) (ctX7_digestHeap h) dX7_digest_123 rfl rfl wvX7_283 wcX7_digestHeap rfl (Nat.le_of_ble_eq_true rfl) ⟨Nat.le_refl _, Nat.le_refl _⟩ (fun h9 => absurd rfl h9) (Nat.le_of_ble_eq_true rfl) rfl (fun v G2 S123 hq => ?_)
      obtain ⟨rfl, r123, rfl, h⟩ := hq
      refine gk_callV (as := [_]) (rest := []) (ctX7_digestWhatCouldBe h) dX7_digest_126 rfl rfl wvX7_286 wcX7_digestWhatCouldBe rfl (Nat.le_of_ble_eq_true rfl) ⟨Nat.le_refl _, Nat.le_refl _⟩ (fun h9 => absurd rfl h9) (Nat.le_of_ble_eq_true rfl) rfl (fun v G2 S126 hq => ?_)
      obtain ⟨rfl, r126, rfl, h⟩ := hq
      exact gk_lret dX7_digest_129 rfl rfl rfl ⟨rfl, _, rfl, h⟩
    · replace h := h.2 c85
      refine gk_ldc2 dX7_digest_88 wkX7_262 ?_
      refine gk_lload_n dX7_digest_91 rfl ?_
      refine gk_lmul dX7_digest_92 ?_
      refine gk_aload_n dX7_digest_93 rfl ?_
      refine gk_iload_n dX7_digest_94 rfl ?_
      refine gk_callV (as := [_]) (rest := [_]) (ctX7_laid h) dX7_digest_95 rfl rfl wvX7_277 wcX7_laid rfl (Nat.le_of_ble_eq_true rfl) ⟨Nat.le_refl _, Nat.le_refl _⟩ (fun h9 => absurd rfl h9) (Nat.le_of_ble_eq_true rfl) rfl (fun v G2 S95 hq => ?_)
      obtain ⟨rfl, r95, rfl, h⟩ := hq
      refine gk_i2l dX7_digest_98 ?_
      refine gk_ladd dX7_digest_99 ?_
      refine gk_nml (fun v1_100 ev1_100 => ?_)
      replace h := h v1_100 ev1_100
      refine gk_lstore_n dX7_digest_100 (Nat.le_of_ble_eq_true rfl) rfl rfl ?_
      refine gk_ldc2 dX7_digest_101 wkX7_262 ?_
      refine gk_lload_n dX7_digest_104 rfl ?_
      refine gk_lmul dX7_digest_105 ?_
      refine gk_aload_n dX7_digest_106 rfl ?_
      refine gk_iload_n dX7_digest_107 rfl ?_
      refine gk_callV (as := [_]) (rest := [_]) (ctX7_without h) dX7_digest_108 rfl rfl wvX7_280 wcX7_without rfl (Nat.le_of_ble_eq_true rfl) ⟨Nat.le_refl _, Nat.le_refl _⟩ (fun h9 => absurd rfl h9) (Nat.le_of_ble_eq_true rfl) rfl (fun v G2 S108 hq => ?_)
      obtain ⟨rfl, r108, rfl, h⟩ := hq
      refine gk_i2l dX7_digest_111 ?_
      refine gk_ladd dX7_digest_112 ?_
      refine gk_nml (fun v1_113 ev1_113 => ?_)
      replace h := h v1_113 ev1_113
      refine gk_lstore_n dX7_digest_113 (Nat.le_of_ble_eq_true rfl) rfl rfl ?_
      refine gk_iinc dX7_digest_114 rfl (Nat.le_of_ble_eq_true rfl) rfl rfl rfl ?_
      refine gk_goto (tgt := 77) dX7_digest_117 (by decide) ?_
      exact gk_less (gz_le_s rfl (gz_le_s rfl (gz_le_n (gz_le_s rfl gz_le_0)))) (ih _ _ _ h)
set_option maxHeartbeats 4000000 in
set_option maxRecDepth 100000 in
theorem oX7_digest_6 {E : gz_E} {Q : Int64 → gz_S → Prop} : ∀ (n : Nat) (x1 : Int64) (x3 : Int32) (S : gz_S), wX7_digest_6 Q n x1 x3 S → gz_k E mX7_digest (15, 0, 0, 73) 0 0 6 [some (.ref 0), some (.long x1), none, some (.int x3)] [] gz_F S (gz_ql Q) := by
  intro n
  induction n with
  | zero =>
    intro x1 x3 S h
    exact h.elim
  | succ n ih =>
    intro x1 x3 S h
    unfold wX7_digest_6 at h
    refine gk_iload_n dX7_digest_6 rfl ?_
    refine gk_bipush (v := 7) dX7_digest_7 rfl ?_
    refine gk_icmp_gt (tgt := 31) dX7_digest_9 (by decide) (fun c9 => ?_) (fun c9 => ?_)
    · replace h := h.1 c9
      refine gk_ldc2 dX7_digest_31 wkX7_262 ?_
      refine gk_lload_n dX7_digest_34 rfl ?_
      refine gk_lmul dX7_digest_35 ?_
      refine gk_aload_n dX7_digest_36 rfl ?_
      refine gk_iconst (v := 0) dX7_digest_37 rfl ?_
      refine gk_callV (as := [_]) (rest := [_]) (ctX7_fault h) dX7_digest_38 rfl rfl wvX7_267 wcX7_fault rfl (Nat.le_of_ble_eq_true rfl) ⟨Nat.le_refl _, Nat.le_refl _⟩ (fun h9 => absurd rfl h9) (Nat.le_of_ble_eq_true rfl) rfl (fun v G2 S38 hq => ?_)
      obtain ⟨rfl, r38, rfl, h⟩ := hq
      refine gk_i2l dX7_digest_41 ?_
      refine gk_ladd dX7_digest_42 ?_
      refine gk_nml (fun v1_43 ev1_43 => ?_)
      replace h := h v1_43 ev1_43
      refine gk_lstore_n dX7_digest_43 (Nat.le_of_ble_eq_true rfl) rfl rfl ?_
      refine gk_ldc2 dX7_digest_44 wkX7_262 ?_
      refine gk_lload_n dX7_digest_47 rfl ?_
      refine gk_lmul dX7_digest_48 ?_
      refine gk_aload_n dX7_digest_49 rfl ?_
      refine gk_iconst (v := 1) dX7_digest_50 rfl ?_
      refine gk_callV (as := [_]) (rest := [_]) (ctX7_fault h) dX7_digest_51 rfl rfl wvX7_267 wcX7_fault rfl (Nat.le_of_ble_eq_true rfl) ⟨Nat.le_refl _, Nat.le_refl _⟩ (fun h9 => absurd rfl h9) (Nat.le_of_ble_eq_true rfl) rfl (fun v G2 S51 hq => ?_)
      obtain ⟨rfl, r51, rfl, h⟩ := hq
      refine gk_i2l dX7_digest_54 ?_
      refine gk_ladd dX7_digest_55 ?_
      refine gk_nml (fun v1_56 ev1_56 => ?_)
      replace h := h v1_56 ev1_56
      refine gk_lstore_n dX7_digest_56 (Nat.le_of_ble_eq_true rfl) rfl rfl ?_
      refine gk_ldc2 dX7_digest_57 wkX7_262 ?_
      refine gk_lload_n dX7_digest_60 rfl ?_
      refine gk_lmul dX7_digest_61 ?_
      refine gk_aload_n dX7_digest_62 rfl ?_
      refine gk_callV (as := []) (rest := [_]) (ctX7_judged h) dX7_digest_63 rfl rfl wvX7_270 wcX7_judged rfl (Nat.le_of_ble_eq_true rfl) ⟨Nat.le_refl _, Nat.le_refl _⟩ (fun h9 => absurd rfl h9) (Nat.le_of_ble_eq_true rfl) rfl (fun v G2 S63 hq => ?_)
      obtain ⟨rfl, r63, rfl, h⟩ := hq
      refine gk_i2l dX7_digest_66 ?_
      refine gk_ladd dX7_digest_67 ?_
      refine gk_nml (fun v1_68 ev1_68 => ?_)
      replace h := h v1_68 ev1_68
      refine gk_lstore_n dX7_digest_68 (Nat.le_of_ble_eq_true rfl) rfl rfl ?_
      refine gk_aload_n dX7_digest_69 rfl ?_
      refine gk_lload_n dX7_digest_70 rfl ?_
      refine gk_callV (as := [_]) (rest := []) (ctX7_digestPeopleAndStones h) dX7_digest_71 rfl rfl wvX7_273 wcX7_digestPeopleAndStones rfl (Nat.le_of_ble_eq_true rfl) ⟨Nat.le_refl _, Nat.le_refl _⟩ (fun h9 => absurd rfl h9) (Nat.le_of_ble_eq_true rfl) rfl (fun v G2 S71 hq => ?_)
      obtain ⟨rfl, r71, rfl, h⟩ := hq
      refine gk_lstore_n dX7_digest_74 (Nat.le_of_ble_eq_true rfl) rfl rfl ?_
      refine gk_iconst (v := 0) dX7_digest_75 rfl ?_
      refine gk_istore_n dX7_digest_76 (Nat.le_of_ble_eq_true rfl) rfl rfl ?_
      obtain ⟨m77, h⟩ := h
      exact gk_less (gz_le_s rfl (gz_le_s rfl (gz_le_n (gz_le_s rfl gz_le_0)))) (oX7_digest_77 m77 _ _ _ h)
    · replace h := h.2 c9
      refine gk_ldc2 dX7_digest_12 wkX7_262 ?_
      refine gk_lload_n dX7_digest_15 rfl ?_
      refine gk_lmul dX7_digest_16 ?_
      refine gk_aload_n dX7_digest_17 rfl ?_
      refine gk_iload_n dX7_digest_18 rfl ?_
      refine gk_callV (as := [_]) (rest := [_]) (ctX7_count h) dX7_digest_19 rfl rfl wvX7_264 wcX7_count rfl (Nat.le_of_ble_eq_true rfl) ⟨Nat.le_refl _, Nat.le_refl _⟩ (fun h9 => absurd rfl h9) (Nat.le_of_ble_eq_true rfl) rfl (fun v G2 S19 hq => ?_)
      obtain ⟨rfl, r19, rfl, h⟩ := hq
      refine gk_i2l dX7_digest_22 ?_
      refine gk_ladd dX7_digest_23 ?_
      refine gk_nml (fun v1_24 ev1_24 => ?_)
      replace h := h v1_24 ev1_24
      refine gk_lstore_n dX7_digest_24 (Nat.le_of_ble_eq_true rfl) rfl rfl ?_
      refine gk_iinc dX7_digest_25 rfl (Nat.le_of_ble_eq_true rfl) rfl rfl rfl ?_
      refine gk_goto (tgt := 6) dX7_digest_28 (by decide) ?_
      exact gk_less (gz_le_s rfl (gz_le_s rfl (gz_le_n (gz_le_s rfl gz_le_0)))) (ih _ _ _ h)
set_option maxHeartbeats 4000000 in
set_option maxRecDepth 100000 in
theorem ctX7_digest {E : gz_E} {S : gz_S} {Q : Int64 → gz_S → Prop} (h : wX7_digest S Q) : gz_m E mX7_digest 15 0 0 [.ref 0] gz_F S (gz_ql Q) := by
  refine gz_meet0 (L0 := [some (.ref 0), none, none, none]) (by decide) rfl (Nat.le_of_ble_eq_true rfl) (by decide) ?_
  unfold wX7_digest at h
  refine gk_ldc2 dX7_digest_0 wkX7_260 ?_
  refine gk_lstore_n dX7_digest_3 (Nat.le_of_ble_eq_true rfl) rfl rfl ?_
  refine gk_iconst (v := 0) dX7_digest_4 rfl ?_
  refine gk_istore_n dX7_digest_5 (Nat.le_of_ble_eq_true rfl) rfl rfl ?_
  obtain ⟨m6, h⟩ := h
  exact gk_less (gz_le_s rfl (gz_le_s rfl (gz_le_n (gz_le_s rfl gz_le_0)))) (oX7_digest_6 m6 _ _ _ h)
set_option maxHeartbeats 4000000 in
set_option maxRecDepth 100000 in
theorem oX8_digest_131 {E : gz_E} {k120 : Int64 → Int32 → gz_S → Prop} {Q : Int64 → gz_S → Prop} (hk120 : ∀ (x1 : Int64) (x3 : Int32) (S : gz_S), k120 x1 x3 S → gz_k E mX8_digest (6, 0, 0, 73) 0 0 120 [some (.ref 45), some (.long x1), none, some (.int x3), none] [] gz_F S (gz_ql Q)) : ∀ (n : Nat) (x1 : Int64) (x3 : Int32) (x4 : Int32) (S : gz_S), wX8_digest_131 k120 Q n x1 x3 x4 S → gz_k E mX8_digest (6, 0, 0, 73) 0 0 131 [some (.ref 45), some (.long x1), none, some (.int x3), some (.int x4)] [] gz_F S (gz_ql Q) := by
  intro n
  induction n with
  | zero =>
    intro x1 x3 x4 S h
    exact h.elim
  | succ n ih =>
    intro x1 x3 x4 S h
    unfold wX8_digest_131 at h
    refine gk_iload dX8_digest_131 rfl ?_
    refine gk_iconst (v := 3) dX8_digest_133 rfl ?_
    refine gk_icmp_ge (tgt := 158) dX8_digest_134 (by decide) (fun c134 => ?_) (fun c134 => ?_)
    · replace h := h.1 c134
      refine gk_iinc dX8_digest_158 rfl (Nat.le_of_ble_eq_true rfl) rfl rfl rfl ?_
      refine gk_goto (tgt := 120) dX8_digest_161 (by decide) ?_
      exact gk_less (gz_le_s rfl (gz_le_s rfl (gz_le_n (gz_le_s rfl (gz_le_n gz_le_0))))) (hk120 _ _ _ h)
    · replace h := h.2 c134
      refine gk_ldc2 dX8_digest_137 wkX8_283 ?_
      refine gk_lload_n dX8_digest_140 rfl ?_
      refine gk_lmul dX8_digest_141 ?_
      refine gk_aload_n dX8_digest_142 rfl ?_
      refine gk_iload_n dX8_digest_143 rfl ?_
      refine gk_iload dX8_digest_144 rfl ?_
      refine gk_callV (as := [_, _]) (rest := [_]) (ctX8_stoneOf h) dX8_digest_146 rfl rfl wvX8_196 wcX8_stoneOf rfl (Nat.le_of_ble_eq_true rfl) ⟨Nat.le_refl _, Nat.le_refl _⟩ (fun h9 => absurd rfl h9) (Nat.le_of_ble_eq_true rfl) rfl (fun v G2 S146 hq => ?_)
      obtain ⟨rfl, r146, rfl, h⟩ := hq
      refine gk_i2l dX8_digest_149 ?_
      refine gk_ladd dX8_digest_150 ?_
      refine gk_nml (fun v1_151 ev1_151 => ?_)
      replace h := h v1_151 ev1_151
      refine gk_lstore_n dX8_digest_151 (Nat.le_of_ble_eq_true rfl) rfl rfl ?_
      refine gk_iinc dX8_digest_152 rfl (Nat.le_of_ble_eq_true rfl) rfl rfl rfl ?_
      refine gk_goto (tgt := 131) dX8_digest_155 (by decide) ?_
      exact gk_less (gz_le_s rfl (gz_le_s rfl (gz_le_n (gz_le_s rfl (gz_le_s rfl gz_le_0))))) (ih _ _ _ _ h)
set_option maxHeartbeats 4000000 in
set_option maxRecDepth 100000 in
theorem oX8_digest_452 {E : gz_E} {Q : Int64 → gz_S → Prop} : ∀ (n : Nat) (x1 : Int64) (x3 : Int32) (S : gz_S), wX8_digest_452 Q n x1 x3 S → gz_k E mX8_digest (6, 0, 0, 73) 0 0 452 [some (.ref 45), some (.long x1), none, some (.int x3), none] [] gz_F S (gz_ql Q) := by
  intro n
  induction n with
  | zero =>
    intro x1 x3 S h
    exact h.elim
  | succ n ih =>
    intro x1 x3 S h
    unfold wX8_digest_452 at h
    refine gk_iload_n dX8_digest_452 rfl ?_
    refine gk_iconst (v := 3) dX8_digest_453 rfl ?_
    refine gk_icmp_ge (tgt := 477) dX8_digest_454 (by decide) (fun c454 => ?_) (fun c454 => ?_)
    · replace h := h.1 c454
      refine gk_lload_n dX8_digest_477 rfl ?_
      exact gk_lret dX8_digest_478 rfl rfl rfl ⟨rfl, _, rfl, h⟩
    · replace h := h.2 c454
      refine gk_ldc2 dX8_digest_457 wkX8_283 ?_
      refine gk_lload_n dX8_digest_460 rfl ?_
      refine gk_lmul dX8_digest_461 ?_
      refine gk_aload_n dX8_digest_462 rfl ?_
      refine gk_iconst (v := 3) dX8_digest_463 rfl ?_
      refine gk_iload_n dX8_digest_464 rfl ?_
      refine gk_callV (as := [_, _]) (rest := [_]) (ctX8_secretOf h) dX8_digest_465 rfl rfl wvX8_278 wcX8_secretOf rfl (Nat.le_of_ble_eq_true rfl) ⟨Nat.le_refl _, Nat.le_refl _⟩ (fun h9 => absurd rfl h9) (Nat.le_of_ble_eq_true rfl) rfl (fun v G2 S465 hq => ?_)
      obtain ⟨rfl, r465, rfl, h⟩ := hq
      refine gk_i2l dX8_digest_468 ?_
      refine gk_ladd dX8_digest_469 ?_
      refine gk_nml (fun v1_470 ev1_470 => ?_)
      replace h := h v1_470 ev1_470
      refine gk_lstore_n dX8_digest_470 (Nat.le_of_ble_eq_true rfl) rfl rfl ?_
      refine gk_iinc dX8_digest_471 rfl (Nat.le_of_ble_eq_true rfl) rfl rfl rfl ?_
      refine gk_goto (tgt := 452) dX8_digest_474 (by decide) ?_
      exact gk_less (gz_le_s rfl (gz_le_s rfl (gz_le_n (gz_le_s rfl (gz_le_n gz_le_0))))) (ih _ _ _ h)
set_option maxHeartbeats 4000000 in
set_option maxRecDepth 100000 in
theorem oX8_digest_425 {E : gz_E} {Q : Int64 → gz_S → Prop} : ∀ (n : Nat) (x1 : Int64) (x3 : Int32) (S : gz_S), wX8_digest_425 Q n x1 x3 S → gz_k E mX8_digest (6, 0, 0, 73) 0 0 425 [some (.ref 45), some (.long x1), none, some (.int x3), none] [] gz_F S (gz_ql Q) := by
  intro n
  induction n with
  | zero =>
    intro x1 x3 S h
    exact h.elim
  | succ n ih =>
    intro x1 x3 S h
    unfold wX8_digest_425 at h
    refine gk_iload_n dX8_digest_425 rfl ?_
    refine gk_iconst (v := 2) dX8_digest_426 rfl ?_
    refine gk_icmp_ge (tgt := 450) dX8_digest_427 (by decide) (fun c427 => ?_) (fun c427 => ?_)
    · replace h := h.1 c427
      refine gk_iconst (v := 0) dX8_digest_450 rfl ?_
      refine gk_istore_n dX8_digest_451 (Nat.le_of_ble_eq_true rfl) rfl rfl ?_
      obtain ⟨m452, h⟩ := h
      exact gk_less (gz_le_s rfl (gz_le_s rfl (gz_le_n (gz_le_s rfl (gz_le_n gz_le_0))))) (oX8_digest_452 m452 _ _ _ h)
    · replace h := h.2 c427
      refine gk_ldc2 dX8_digest_430 wkX8_283 ?_
      refine gk_lload_n dX8_digest_433 rfl ?_
      refine gk_lmul dX8_digest_434 ?_
      refine gk_aload_n dX8_digest_435 rfl ?_
      refine gk_iconst (v := 2) dX8_digest_436 rfl ?_
      refine gk_iload_n dX8_digest_437 rfl ?_
      refine gk_callV (as := [_, _]) (rest := [_]) (ctX8_gameOf h) dX8_digest_438 rfl rfl wvX8_271 wcX8_gameOf rfl (Nat.le_of_ble_eq_true rfl) ⟨Nat.le_refl _, Nat.le_refl _⟩ (fun h9 => absurd rfl h9) (Nat.le_of_ble_eq_true rfl) rfl (fun v G2 S438 hq => ?_)
      obtain ⟨rfl, r438, rfl, h⟩ := hq
      refine gk_i2l dX8_digest_441 ?_
      refine gk_ladd dX8_digest_442 ?_
      refine gk_nml (fun v1_443 ev1_443 => ?_)
      replace h := h v1_443 ev1_443
      refine gk_lstore_n dX8_digest_443 (Nat.le_of_ble_eq_true rfl) rfl rfl ?_
      refine gk_iinc dX8_digest_444 rfl (Nat.le_of_ble_eq_true rfl) rfl rfl rfl ?_
      refine gk_goto (tgt := 425) dX8_digest_447 (by decide) ?_
      exact gk_less (gz_le_s rfl (gz_le_s rfl (gz_le_n (gz_le_s rfl (gz_le_n gz_le_0))))) (ih _ _ _ h)
set_option maxHeartbeats 4000000 in
set_option maxRecDepth 100000 in
theorem oX8_digest_399 {E : gz_E} {Q : Int64 → gz_S → Prop} : ∀ (n : Nat) (x1 : Int64) (x3 : Int32) (S : gz_S), wX8_digest_399 Q n x1 x3 S → gz_k E mX8_digest (6, 0, 0, 73) 0 0 399 [some (.ref 45), some (.long x1), none, some (.int x3), none] [] gz_F S (gz_ql Q) := by
  intro n
  induction n with
  | zero =>
    intro x1 x3 S h
    exact h.elim
  | succ n ih =>
    intro x1 x3 S h
    unfold wX8_digest_399 at h
    refine gk_iload_n dX8_digest_399 rfl ?_
    refine gk_iconst (v := 2) dX8_digest_400 rfl ?_
    refine gk_icmp_ge (tgt := 423) dX8_digest_401 (by decide) (fun c401 => ?_) (fun c401 => ?_)
    · replace h := h.1 c401
      refine gk_iconst (v := 0) dX8_digest_423 rfl ?_
      refine gk_istore_n dX8_digest_424 (Nat.le_of_ble_eq_true rfl) rfl rfl ?_
      obtain ⟨m425, h⟩ := h
      exact gk_less (gz_le_s rfl (gz_le_s rfl (gz_le_n (gz_le_s rfl (gz_le_n gz_le_0))))) (oX8_digest_425 m425 _ _ _ h)
    · replace h := h.2 c401
      refine gk_ldc2 dX8_digest_404 wkX8_283 ?_
      refine gk_lload_n dX8_digest_407 rfl ?_
      refine gk_lmul dX8_digest_408 ?_
      refine gk_aload_n dX8_digest_409 rfl ?_
      refine gk_iload_n dX8_digest_410 rfl ?_
      refine gk_callV (as := [_]) (rest := [_]) (ctX8_holdOf h) dX8_digest_411 rfl rfl wvX8_262 wcX8_holdOf rfl (Nat.le_of_ble_eq_true rfl) ⟨Nat.le_refl _, Nat.le_refl _⟩ (fun h9 => absurd rfl h9) (Nat.le_of_ble_eq_true rfl) rfl (fun v G2 S411 hq => ?_)
      obtain ⟨rfl, r411, rfl, h⟩ := hq
      refine gk_i2l dX8_digest_414 ?_
      refine gk_ladd dX8_digest_415 ?_
      refine gk_nml (fun v1_416 ev1_416 => ?_)
      replace h := h v1_416 ev1_416
      refine gk_lstore_n dX8_digest_416 (Nat.le_of_ble_eq_true rfl) rfl rfl ?_
      refine gk_iinc dX8_digest_417 rfl (Nat.le_of_ble_eq_true rfl) rfl rfl rfl ?_
      refine gk_goto (tgt := 399) dX8_digest_420 (by decide) ?_
      exact gk_less (gz_le_s rfl (gz_le_s rfl (gz_le_n (gz_le_s rfl (gz_le_n gz_le_0))))) (ih _ _ _ h)
set_option maxHeartbeats 4000000 in
set_option maxRecDepth 100000 in
theorem oX8_digest_372 {E : gz_E} {Q : Int64 → gz_S → Prop} : ∀ (n : Nat) (x1 : Int64) (x3 : Int32) (S : gz_S), wX8_digest_372 Q n x1 x3 S → gz_k E mX8_digest (6, 0, 0, 73) 0 0 372 [some (.ref 45), some (.long x1), none, some (.int x3), none] [] gz_F S (gz_ql Q) := by
  intro n
  induction n with
  | zero =>
    intro x1 x3 S h
    exact h.elim
  | succ n ih =>
    intro x1 x3 S h
    unfold wX8_digest_372 at h
    refine gk_iload_n dX8_digest_372 rfl ?_
    refine gk_iconst (v := 2) dX8_digest_373 rfl ?_
    refine gk_icmp_ge (tgt := 397) dX8_digest_374 (by decide) (fun c374 => ?_) (fun c374 => ?_)
    · replace h := h.1 c374
      refine gk_iconst (v := 0) dX8_digest_397 rfl ?_
      refine gk_istore_n dX8_digest_398 (Nat.le_of_ble_eq_true rfl) rfl rfl ?_
      obtain ⟨m399, h⟩ := h
      exact gk_less (gz_le_s rfl (gz_le_s rfl (gz_le_n (gz_le_s rfl (gz_le_n gz_le_0))))) (oX8_digest_399 m399 _ _ _ h)
    · replace h := h.2 c374
      refine gk_ldc2 dX8_digest_377 wkX8_283 ?_
      refine gk_lload_n dX8_digest_380 rfl ?_
      refine gk_lmul dX8_digest_381 ?_
      refine gk_aload_n dX8_digest_382 rfl ?_
      refine gk_iload_n dX8_digest_383 rfl ?_
      refine gk_iconst (v := (-1)) dX8_digest_384 rfl ?_
      refine gk_callV (as := [_, _]) (rest := [_]) (ctX8_mostOf h) dX8_digest_385 rfl rfl wvX8_259 wcX8_mostOf rfl (Nat.le_of_ble_eq_true rfl) ⟨Nat.le_refl _, Nat.le_refl _⟩ (fun h9 => absurd rfl h9) (Nat.le_of_ble_eq_true rfl) rfl (fun v G2 S385 hq => ?_)
      obtain ⟨rfl, r385, rfl, h⟩ := hq
      refine gk_i2l dX8_digest_388 ?_
      refine gk_ladd dX8_digest_389 ?_
      refine gk_nml (fun v1_390 ev1_390 => ?_)
      replace h := h v1_390 ev1_390
      refine gk_lstore_n dX8_digest_390 (Nat.le_of_ble_eq_true rfl) rfl rfl ?_
      refine gk_iinc dX8_digest_391 rfl (Nat.le_of_ble_eq_true rfl) rfl rfl rfl ?_
      refine gk_goto (tgt := 372) dX8_digest_394 (by decide) ?_
      exact gk_less (gz_le_s rfl (gz_le_s rfl (gz_le_n (gz_le_s rfl (gz_le_n gz_le_0))))) (ih _ _ _ h)
set_option maxHeartbeats 4000000 in
set_option maxRecDepth 100000 in
theorem oX8_digest_296 {E : gz_E} {Q : Int64 → gz_S → Prop} : ∀ (n : Nat) (x1 : Int64) (x3 : Int32) (S : gz_S), wX8_digest_296 Q n x1 x3 S → gz_k E mX8_digest (6, 0, 0, 73) 0 0 296 [some (.ref 45), some (.long x1), none, some (.int x3), none] [] gz_F S (gz_ql Q) := by
  intro n
  induction n with
  | zero =>
    intro x1 x3 S h
    exact h.elim
  | succ n ih =>
    intro x1 x3 S h
    unfold wX8_digest_296 at h
    refine gk_iload_n dX8_digest_296 rfl ?_
    refine gk_iconst (v := 3) dX8_digest_297 rfl ?_
    refine gk_icmp_ge (tgt := 320) dX8_digest_298 (by decide) (fun c298 => ?_) (fun c298 => ?_)
    · replace h := h.1 c298
      refine gk_ldc2 dX8_digest_320 wkX8_283 ?_
      refine gk_lload_n dX8_digest_323 rfl ?_
      refine gk_lmul dX8_digest_324 ?_
      refine gk_aload_n dX8_digest_325 rfl ?_
      refine gk_callV (as := []) (rest := [_]) (ctX8_settledNow h) dX8_digest_326 rfl rfl wvX8_238 wcX8_settledNow rfl (Nat.le_of_ble_eq_true rfl) ⟨Nat.le_refl _, Nat.le_refl _⟩ (fun h9 => absurd rfl h9) (Nat.le_of_ble_eq_true rfl) rfl (fun v G2 S326 hq => ?_)
      obtain ⟨rfl, r326, rfl, h⟩ := hq
      refine gk_i2l dX8_digest_329 ?_
      refine gk_ladd dX8_digest_330 ?_
      refine gk_nml (fun v1_331 ev1_331 => ?_)
      replace h := h v1_331 ev1_331
      refine gk_lstore_n dX8_digest_331 (Nat.le_of_ble_eq_true rfl) rfl rfl ?_
      refine gk_ldc2 dX8_digest_332 wkX8_283 ?_
      refine gk_lload_n dX8_digest_335 rfl ?_
      refine gk_lmul dX8_digest_336 ?_
      refine gk_aload_n dX8_digest_337 rfl ?_
      refine gk_callV (as := []) (rest := [_]) (ctX8_doubles h) dX8_digest_338 rfl rfl wvX8_288 wcX8_doubles rfl (Nat.le_of_ble_eq_true rfl) ⟨Nat.le_refl _, Nat.le_refl _⟩ (fun h9 => absurd rfl h9) (Nat.le_of_ble_eq_true rfl) rfl (fun v G2 S338 hq => ?_)
      obtain ⟨rfl, r338, rfl, h⟩ := hq
      refine gk_i2l dX8_digest_341 ?_
      refine gk_ladd dX8_digest_342 ?_
      refine gk_nml (fun v1_343 ev1_343 => ?_)
      replace h := h v1_343 ev1_343
      refine gk_lstore_n dX8_digest_343 (Nat.le_of_ble_eq_true rfl) rfl rfl ?_
      refine gk_ldc2 dX8_digest_344 wkX8_283 ?_
      refine gk_lload_n dX8_digest_347 rfl ?_
      refine gk_lmul dX8_digest_348 ?_
      refine gk_aload_n dX8_digest_349 rfl ?_
      refine gk_iconst (v := 0) dX8_digest_350 rfl ?_
      refine gk_callV (as := [_]) (rest := [_]) (ctX8_fewestOf h) dX8_digest_351 rfl rfl wvX8_253 wcX8_fewestOf rfl (Nat.le_of_ble_eq_true rfl) ⟨Nat.le_refl _, Nat.le_refl _⟩ (fun h9 => absurd rfl h9) (Nat.le_of_ble_eq_true rfl) rfl (fun v G2 S351 hq => ?_)
      obtain ⟨rfl, r351, rfl, h⟩ := hq
      refine gk_i2l dX8_digest_354 ?_
      refine gk_ladd dX8_digest_355 ?_
      refine gk_nml (fun v1_356 ev1_356 => ?_)
      replace h := h v1_356 ev1_356
      refine gk_lstore_n dX8_digest_356 (Nat.le_of_ble_eq_true rfl) rfl rfl ?_
      refine gk_ldc2 dX8_digest_357 wkX8_283 ?_
      refine gk_lload_n dX8_digest_360 rfl ?_
      refine gk_lmul dX8_digest_361 ?_
      refine gk_aload_n dX8_digest_362 rfl ?_
      refine gk_iconst (v := 1) dX8_digest_363 rfl ?_
      refine gk_callV (as := [_]) (rest := [_]) (ctX8_fewestOf h) dX8_digest_364 rfl rfl wvX8_253 wcX8_fewestOf rfl (Nat.le_of_ble_eq_true rfl) ⟨Nat.le_refl _, Nat.le_refl _⟩ (fun h9 => absurd rfl h9) (Nat.le_of_ble_eq_true rfl) rfl (fun v G2 S364 hq => ?_)
      obtain ⟨rfl, r364, rfl, h⟩ := hq
      refine gk_i2l dX8_digest_367 ?_
      refine gk_ladd dX8_digest_368 ?_
      refine gk_nml (fun v1_369 ev1_369 => ?_)
      replace h := h v1_369 ev1_369
      refine gk_lstore_n dX8_digest_369 (Nat.le_of_ble_eq_true rfl) rfl rfl ?_
      refine gk_iconst (v := 0) dX8_digest_370 rfl ?_
      refine gk_istore_n dX8_digest_371 (Nat.le_of_ble_eq_true rfl) rfl rfl ?_
      obtain ⟨m372, h⟩ := h
      exact gk_less (gz_le_s rfl (gz_le_s rfl (gz_le_n (gz_le_s rfl (gz_le_n gz_le_0))))) (oX8_digest_372 m372 _ _ _ h)
    · replace h := h.2 c298
      refine gk_ldc2 dX8_digest_301 wkX8_283 ?_
      refine gk_lload_n dX8_digest_304 rfl ?_
      refine gk_lmul dX8_digest_305 ?_
      refine gk_aload_n dX8_digest_306 rfl ?_
      refine gk_iload_n dX8_digest_307 rfl ?_
      refine gk_callV (as := [_]) (rest := [_]) (ctX8_resultOf h) dX8_digest_308 rfl rfl wvX8_229 wcX8_resultOf rfl (Nat.le_of_ble_eq_true rfl) ⟨Nat.le_refl _, Nat.le_refl _⟩ (fun h9 => absurd rfl h9) (Nat.le_of_ble_eq_true rfl) rfl (fun v G2 S308 hq => ?_)
      obtain ⟨rfl, r308, rfl, h⟩ := hq
      refine gk_i2l dX8_digest_311 ?_
      refine gk_ladd dX8_digest_312 ?_
      refine gk_nml (fun v1_313 ev1_313 => ?_)
      replace h := h v1_313 ev1_313
      refine gk_lstore_n dX8_digest_313 (Nat.le_of_ble_eq_true rfl) rfl rfl ?_
      refine gk_iinc dX8_digest_314 rfl (Nat.le_of_ble_eq_true rfl) rfl rfl rfl ?_
      refine gk_goto (tgt := 296) dX8_digest_317 (by decide) ?_
      exact gk_less (gz_le_s rfl (gz_le_s rfl (gz_le_n (gz_le_s rfl (gz_le_n gz_le_0))))) (ih _ _ _ h)
set_option maxHeartbeats 4000000 in
set_option maxRecDepth 100000 in
theorem oX8_digest_166 {E : gz_E} {Q : Int64 → gz_S → Prop} : ∀ (n : Nat) (x1 : Int64) (x3 : Int32) (S : gz_S), wX8_digest_166 Q n x1 x3 S → gz_k E mX8_digest (6, 0, 0, 73) 0 0 166 [some (.ref 45), some (.long x1), none, some (.int x3), none] [] gz_F S (gz_ql Q) := by
  intro n
  induction n with
  | zero =>
    intro x1 x3 S h
    exact h.elim
  | succ n ih =>
    intro x1 x3 S h
    unfold wX8_digest_166 at h
    refine gk_iload_n dX8_digest_166 rfl ?_
    refine gk_aload_n dX8_digest_167 rfl ?_
    refine gk_geti dX8_digest_168 rfl rfl wfX8_167 ?_
    refine gk_icmp_ge (tgt := 212) dX8_digest_171 (by decide) (fun c171 => ?_) (fun c171 => ?_)
    · replace h := h.1 c171
      refine gk_ldc2 dX8_digest_212 wkX8_283 ?_
      refine gk_lload_n dX8_digest_215 rfl ?_
      refine gk_lmul dX8_digest_216 ?_
      refine gk_aload_n dX8_digest_217 rfl ?_
      refine gk_iconst (v := 3) dX8_digest_218 rfl ?_
      refine gk_callV (as := [_]) (rest := [_]) (ctX8_tipOf h) dX8_digest_219 rfl rfl wvX8_214 wcX8_tipOf rfl (Nat.le_of_ble_eq_true rfl) ⟨Nat.le_refl _, Nat.le_refl _⟩ (fun h9 => absurd rfl h9) (Nat.le_of_ble_eq_true rfl) rfl (fun v G2 S219 hq => ?_)
      obtain ⟨rfl, r219, rfl, h⟩ := hq
      refine gk_i2l dX8_digest_222 ?_
      refine gk_ladd dX8_digest_223 ?_
      refine gk_nml (fun v1_224 ev1_224 => ?_)
      replace h := h v1_224 ev1_224
      refine gk_lstore_n dX8_digest_224 (Nat.le_of_ble_eq_true rfl) rfl rfl ?_
      refine gk_ldc2 dX8_digest_225 wkX8_283 ?_
      refine gk_lload_n dX8_digest_228 rfl ?_
      refine gk_lmul dX8_digest_229 ?_
      refine gk_aload_n dX8_digest_230 rfl ?_
      refine gk_aload_n dX8_digest_231 rfl ?_
      refine gk_callV (as := []) (rest := [_, _]) (ctX8_end h) dX8_digest_232 rfl rfl wvX8_220 wcX8_end rfl (Nat.le_of_ble_eq_true rfl) ⟨Nat.le_refl _, Nat.le_refl _⟩ (fun h9 => absurd rfl h9) (Nat.le_of_ble_eq_true rfl) rfl (fun v G2 S232 hq => ?_)
      obtain ⟨rfl, r232, rfl, h⟩ := hq
      refine gk_callV (as := [_]) (rest := [_]) (ctX8_tipOf h) dX8_digest_235 rfl rfl wvX8_214 wcX8_tipOf rfl (Nat.le_of_ble_eq_true rfl) ⟨Nat.le_refl _, Nat.le_refl _⟩ (fun h9 => absurd rfl h9) (Nat.le_of_ble_eq_true rfl) rfl (fun v G2 S235 hq => ?_)
      obtain ⟨rfl, r235, rfl, h⟩ := hq
      refine gk_i2l dX8_digest_238 ?_
      refine gk_ladd dX8_digest_239 ?_
      refine gk_nml (fun v1_240 ev1_240 => ?_)
      replace h := h v1_240 ev1_240
      refine gk_lstore_n dX8_digest_240 (Nat.le_of_ble_eq_true rfl) rfl rfl ?_
      refine gk_ldc2 dX8_digest_241 wkX8_283 ?_
      refine gk_lload_n dX8_digest_244 rfl ?_
      refine gk_lmul dX8_digest_245 ?_
      refine gk_aload_n dX8_digest_246 rfl ?_
      refine gk_getr dX8_digest_247 rfl rfl wfX8_61 ?_
      refine gk_iconst (v := 5) dX8_digest_250 rfl ?_
      refine gk_iaload dX8_digest_251 rfl h.1 ?_
      replace h := h.2
      refine gk_i2l dX8_digest_252 ?_
      refine gk_ladd dX8_digest_253 ?_
      refine gk_nml (fun v1_254 ev1_254 => ?_)
      replace h := h v1_254 ev1_254
      refine gk_lstore_n dX8_digest_254 (Nat.le_of_ble_eq_true rfl) rfl rfl ?_
      refine gk_ldc2 dX8_digest_255 wkX8_283 ?_
      refine gk_lload_n dX8_digest_258 rfl ?_
      refine gk_lmul dX8_digest_259 ?_
      refine gk_aload_n dX8_digest_260 rfl ?_
      refine gk_getr dX8_digest_261 rfl rfl wfX8_61 ?_
      refine gk_bipush (v := 7) dX8_digest_264 rfl ?_
      refine gk_iaload dX8_digest_266 rfl h.1 ?_
      replace h := h.2
      refine gk_i2l dX8_digest_267 ?_
      refine gk_ladd dX8_digest_268 ?_
      refine gk_nml (fun v1_269 ev1_269 => ?_)
      replace h := h v1_269 ev1_269
      refine gk_lstore_n dX8_digest_269 (Nat.le_of_ble_eq_true rfl) rfl rfl ?_
      refine gk_ldc2 dX8_digest_270 wkX8_283 ?_
      refine gk_lload_n dX8_digest_273 rfl ?_
      refine gk_lmul dX8_digest_274 ?_
      refine gk_aload_n dX8_digest_275 rfl ?_
      refine gk_geti dX8_digest_276 rfl rfl wfX8_199 ?_
      refine gk_i2l dX8_digest_279 ?_
      refine gk_ladd dX8_digest_280 ?_
      refine gk_nml (fun v1_281 ev1_281 => ?_)
      replace h := h v1_281 ev1_281
      refine gk_lstore_n dX8_digest_281 (Nat.le_of_ble_eq_true rfl) rfl rfl ?_
      refine gk_ldc2 dX8_digest_282 wkX8_283 ?_
      refine gk_lload_n dX8_digest_285 rfl ?_
      refine gk_lmul dX8_digest_286 ?_
      refine gk_aload_n dX8_digest_287 rfl ?_
      refine gk_callV (as := []) (rest := [_]) (ctX8_whenNow h) dX8_digest_288 rfl rfl wvX8_223 wcX8_whenNow rfl (Nat.le_of_ble_eq_true rfl) ⟨Nat.le_refl _, Nat.le_refl _⟩ (fun h9 => absurd rfl h9) (Nat.le_of_ble_eq_true rfl) rfl (fun v G2 S288 hq => ?_)
      obtain ⟨rfl, r288, rfl, h⟩ := hq
      refine gk_i2l dX8_digest_291 ?_
      refine gk_ladd dX8_digest_292 ?_
      refine gk_nml (fun v1_293 ev1_293 => ?_)
      replace h := h v1_293 ev1_293
      refine gk_lstore_n dX8_digest_293 (Nat.le_of_ble_eq_true rfl) rfl rfl ?_
      refine gk_iconst (v := 0) dX8_digest_294 rfl ?_
      refine gk_istore_n dX8_digest_295 (Nat.le_of_ble_eq_true rfl) rfl rfl ?_
      obtain ⟨m296, h⟩ := h
      exact gk_less (gz_le_s rfl (gz_le_s rfl (gz_le_n (gz_le_s rfl (gz_le_n gz_le_0))))) (oX8_digest_296 m296 _ _ _ h)
    · replace h := h.2 c171
      refine gk_aload_n dX8_digest_174 rfl ?_
      refine gk_iconst (v := (-1)) dX8_digest_175 rfl ?_
      refine gk_callV (as := [_]) (rest := []) (ctX8_goes h) dX8_digest_176 rfl rfl wvX8_186 wcX8_goes rfl (Nat.le_of_ble_eq_true rfl) ⟨Nat.le_refl _, Nat.le_refl _⟩ (fun h9 => absurd rfl h9) (Nat.le_of_ble_eq_true rfl) rfl (fun v G2 S176 hq => ?_)
      obtain ⟨rfl, rfl, h⟩ := hq
      refine gk_ldc2 dX8_digest_179 wkX8_283 ?_
      refine gk_lload_n dX8_digest_182 rfl ?_
      refine gk_lmul dX8_digest_183 ?_
      refine gk_aload_n dX8_digest_184 rfl ?_
      refine gk_getr dX8_digest_185 rfl rfl wfX8_52 ?_
      refine gk_iload_n dX8_digest_188 rfl ?_
      refine gk_iaload dX8_digest_189 rfl h.1 ?_
      replace h := h.2
      refine gk_i2l dX8_digest_190 ?_
      refine gk_ladd dX8_digest_191 ?_
      refine gk_nml (fun v1_192 ev1_192 => ?_)
      replace h := h v1_192 ev1_192
      refine gk_lstore_n dX8_digest_192 (Nat.le_of_ble_eq_true rfl) rfl rfl ?_
      refine gk_ldc2 dX8_digest_193 wkX8_283 ?_
      refine gk_lload_n dX8_digest_196 rfl ?_
      refine gk_lmul dX8_digest_197 ?_
      refine gk_aload_n dX8_digest_198 rfl ?_
      refine gk_iload_n dX8_digest_199 rfl ?_
      refine gk_callV (as := [_]) (rest := [_]) (ctX8_withoutOf h) dX8_digest_200 rfl rfl wvX8_232 wcX8_withoutOf rfl (Nat.le_of_ble_eq_true rfl) ⟨Nat.le_refl _, Nat.le_refl _⟩ (fun h9 => absurd rfl h9) (Nat.le_of_ble_eq_true rfl) rfl (fun v G2 S200 hq => ?_)
      obtain ⟨rfl, r200, rfl, h⟩ := hq
      refine gk_i2l dX8_digest_203 ?_
      refine gk_ladd dX8_digest_204 ?_
      refine gk_nml (fun v1_205 ev1_205 => ?_)
      replace h := h v1_205 ev1_205
      refine gk_lstore_n dX8_digest_205 (Nat.le_of_ble_eq_true rfl) rfl rfl ?_
      refine gk_iinc dX8_digest_206 rfl (Nat.le_of_ble_eq_true rfl) rfl rfl rfl ?_
      refine gk_goto (tgt := 166) dX8_digest_209 (by decide) ?_
      exact gk_less (gz_le_s rfl (gz_le_s rfl (gz_le_n (gz_le_s rfl (gz_le_n gz_le_0))))) (ih _ _ _ h)
