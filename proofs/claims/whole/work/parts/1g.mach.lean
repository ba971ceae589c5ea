set_option maxHeartbeats 4000000 in
set_option maxRecDepth 100000 in
theorem oX8_secretOf_149 {E : gz_E} {k44 : Int32 → Int32 → Int32 → Int32 → Int32 → Int32 → Int32 → gz_S → Prop} {k66 : Int32 → Int32 → Int32 → Int32 → Int32 → Int32 → Int32 → Int32 → Int32 → Int32 → Int32 → Int32 → gz_S → Prop} {Q : Int32 → gz_S → Prop} (hk44 : ∀ (x1 : Int32) (x2 : Int32) (x3 : Int32) (x4 : Int32) (x5 : Int32) (x6 : Int32) (x7 : Int32) (S : gz_S), k44 x1 x2 x3 x4 x5 x6 x7 S → gz_k E mX8_secretOf (1, 0, 0, 73) 0 0 44 [some (.ref 45), some (.int x1), some (.int x2), some (.int x3), some (.int x4), some (.int x5), some (.int x6), some (.int x7), none, none, none, none, none, none, none] [] gz_F S (gz_qi Q)) (hk66 : ∀ (x1 : Int32) (x2 : Int32) (x3 : Int32) (x4 : Int32) (x5 : Int32) (x6 : Int32) (x7 : Int32) (x8 : Int32) (x9 : Int32) (x10 : Int32) (x11 : Int32) (x12 : Int32) (S : gz_S), k66 x1 x2 x3 x4 x5 x6 x7 x8 x9 x10 x11 x12 S → gz_k E mX8_secretOf (1, 0, 0, 73) 0 0 66 [some (.ref 45), some (.int x1), some (.int x2), some (.int x3), some (.int x4), some (.int x5), some (.int x6), some (.int x7), some (.int x8), some (.int x9), some (.int x10), some (.int x11), some (.int x12), none, none] [] gz_F S (gz_qi Q)) : ∀ (x1 : Int32) (x2 : Int32) (x3 : Int32) (x4 : Int32) (x5 : Int32) (x6 : Int32) (x7 : Int32) (x8 : Int32) (x9 : Int32) (x11 : Int32) (x12 : Int32) (x13 : Int32) (t0 : Int32) (t1 : Int32) (S : gz_S), wX8_secretOf_149 k44 k66 Q x1 x2 x3 x4 x5 x6 x7 x8 x9 x11 x12 x13 t0 t1 S → gz_k E mX8_secretOf (1, 0, 0, 73) 0 0 149 [some (.ref 45), some (.int x1), some (.int x2), some (.int x3), some (.int x4), some (.int x5), some (.int x6), some (.int x7), some (.int x8), some (.int x9), none, some (.int x11), some (.int x12), some (.int x13), none] [.int t1, .int t0] gz_F S (gz_qi Q) := by
  intro x1 x2 x3 x4 x5 x6 x7 x8 x9 x11 x12 x13 t0 t1 S h
  unfold wX8_secretOf_149 at h
  refine gk_ior dX8_secretOf_149 ?_
  refine gk_nmi (fun v10_150 ev10_150 => ?_)
  replace h := h v10_150 ev10_150
  refine gk_istore dX8_secretOf_150 (Nat.le_of_ble_eq_true rfl) rfl rfl ?_
  refine gk_iload dX8_secretOf_152 rfl ?_
  refine gk_iload dX8_secretOf_154 rfl ?_
  refine gk_iconst (v := 2) dX8_secretOf_156 rfl ?_
  refine gk_icmp_ne (tgt := 167) dX8_secretOf_157 (by decide) (fun c157 => ?_) (fun c157 => ?_)
  · replace h := h.1 c157
    refine gk_iconst (v := 0) dX8_secretOf_167 rfl ?_
    exact gk_less (gz_le_s rfl (gz_le_s rfl (gz_le_s rfl (gz_le_s rfl (gz_le_s rfl (gz_le_s rfl (gz_le_s rfl (gz_le_s rfl (gz_le_s rfl (gz_le_s rfl (gz_le_s rfl (gz_le_n (gz_le_s rfl (gz_le_n (gz_le_n gz_le_0))))))))))))))) (oX8_secretOf_168 hk44 hk66 _ _ _ _ _ _ _ _ _ _ _ _ _ _ h)
  · replace h := h.2 c157
    refine gk_iconst (v := 1) dX8_secretOf_160 rfl ?_
    refine gk_iload dX8_secretOf_161 rfl ?_
    refine gk_ishl dX8_secretOf_163 ?_
    refine gk_goto (tgt := 168) dX8_secretOf_164 (by decide) ?_
    exact gk_less (gz_le_s rfl (gz_le_s rfl (gz_le_s rfl (gz_le_s rfl (gz_le_s rfl (gz_le_s rfl (gz_le_s rfl (gz_le_s rfl (gz_le_s rfl (gz_le_s rfl (gz_le_s rfl (gz_le_n (gz_le_s rfl (gz_le_n (gz_le_n gz_le_0))))))))))))))) (oX8_secretOf_168 hk44 hk66 _ _ _ _ _ _ _ _ _ _ _ _ _ _ h)
set_option maxHeartbeats 4000000 in
set_option maxRecDepth 100000 in
theorem oX8_secretOf_130 {E : gz_E} {k44 : Int32 → Int32 → Int32 → Int32 → Int32 → Int32 → Int32 → gz_S → Prop} {k66 : Int32 → Int32 → Int32 → Int32 → Int32 → Int32 → Int32 → Int32 → Int32 → Int32 → Int32 → Int32 → gz_S → Prop} {Q : Int32 → gz_S → Prop} (hk44 : ∀ (x1 : Int32) (x2 : Int32) (x3 : Int32) (x4 : Int32) (x5 : Int32) (x6 : Int32) (x7 : Int32) (S : gz_S), k44 x1 x2 x3 x4 x5 x6 x7 S → gz_k E mX8_secretOf (1, 0, 0, 73) 0 0 44 [some (.ref 45), some (.int x1), some (.int x2), some (.int x3), some (.int x4), some (.int x5), some (.int x6), some (.int x7), none, none, none, none, none, none, none] [] gz_F S (gz_qi Q)) (hk66 : ∀ (x1 : Int32) (x2 : Int32) (x3 : Int32) (x4 : Int32) (x5 : Int32) (x6 : Int32) (x7 : Int32) (x8 : Int32) (x9 : Int32) (x10 : Int32) (x11 : Int32) (x12 : Int32) (S : gz_S), k66 x1 x2 x3 x4 x5 x6 x7 x8 x9 x10 x11 x12 S → gz_k E mX8_secretOf (1, 0, 0, 73) 0 0 66 [some (.ref 45), some (.int x1), some (.int x2), some (.int x3), some (.int x4), some (.int x5), some (.int x6), some (.int x7), some (.int x8), some (.int x9), some (.int x10), some (.int x11), some (.int x12), none, none] [] gz_F S (gz_qi Q)) : ∀ (x1 : Int32) (x2 : Int32) (x3 : Int32) (x4 : Int32) (x5 : Int32) (x6 : Int32) (x7 : Int32) (x8 : Int32) (x10 : Int32) (x11 : Int32) (x12 : Int32) (x13 : Int32) (t0 : Int32) (t1 : Int32) (S : gz_S), wX8_secretOf_130 k44 k66 Q x1 x2 x3 x4 x5 x6 x7 x8 x10 x11 x12 x13 t0 t1 S → gz_k E mX8_secretOf (1, 0, 0, 73) 0 0 130 [some (.ref 45), some (.int x1), some (.int x2), some (.int x3), some (.int x4), some (.int x5), some (.int x6), some (.int x7), some (.int x8), none, some (.int x10), some (.int x11), some (.int x12), some (.int x13), none] [.int t1, .int t0] gz_F S (gz_qi Q) := by
  intro x1 x2 x3 x4 x5 x6 x7 x8 x10 x11 x12 x13 t0 t1 S h
  unfold wX8_secretOf_130 at h
  refine gk_iadd dX8_secretOf_130 ?_
  refine gk_nmi (fun v9_131 ev9_131 => ?_)
  replace h := h v9_131 ev9_131
  refine gk_istore dX8_secretOf_131 (Nat.le_of_ble_eq_true rfl) rfl rfl ?_
  refine gk_iload dX8_secretOf_133 rfl ?_
  refine gk_iload dX8_secretOf_135 rfl ?_
  refine gk_iconst (v := 1) dX8_secretOf_137 rfl ?_
  refine gk_icmp_ne (tgt := 148) dX8_secretOf_138 (by decide) (fun c138 => ?_) (fun c138 => ?_)
  · replace h := h.1 c138
    refine gk_iconst (v := 0) dX8_secretOf_148 rfl ?_
    exact gk_less (gz_le_s rfl (gz_le_s rfl (gz_le_s rfl (gz_le_s rfl (gz_le_s rfl (gz_le_s rfl (gz_le_s rfl (gz_le_s rfl (gz_le_s rfl (gz_le_s rfl (gz_le_n (gz_le_s rfl (gz_le_s rfl (gz_le_s rfl (gz_le_n gz_le_0))))))))))))))) (oX8_secretOf_149 hk44 hk66 _ _ _ _ _ _ _ _ _ _ _ _ _ _ _ h)
  · replace h := h.2 c138
    refine gk_iconst (v := 1) dX8_secretOf_141 rfl ?_
    refine gk_iload dX8_secretOf_142 rfl ?_
    refine gk_ishl dX8_secretOf_144 ?_
    refine gk_goto (tgt := 149) dX8_secretOf_145 (by decide) ?_
    exact gk_less (gz_le_s rfl (gz_le_s rfl (gz_le_s rfl (gz_le_s rfl (gz_le_s rfl (gz_le_s rfl (gz_le_s rfl (gz_le_s rfl (gz_le_s rfl (gz_le_s rfl (gz_le_n (gz_le_s rfl (gz_le_s rfl (gz_le_s rfl (gz_le_n gz_le_0))))))))))))))) (oX8_secretOf_149 hk44 hk66 _ _ _ _ _ _ _ _ _ _ _ _ _ _ _ h)
set_option maxHeartbeats 4000000 in
set_option maxRecDepth 100000 in
theorem oX8_secretOf_200 {E : gz_E} {k44 : Int32 → Int32 → Int32 → Int32 → Int32 → Int32 → Int32 → gz_S → Prop} {Q : Int32 → gz_S → Prop} (hk44 : ∀ (x1 : Int32) (x2 : Int32) (x3 : Int32) (x4 : Int32) (x5 : Int32) (x6 : Int32) (x7 : Int32) (S : gz_S), k44 x1 x2 x3 x4 x5 x6 x7 S → gz_k E mX8_secretOf (1, 0, 0, 73) 0 0 44 [some (.ref 45), some (.int x1), some (.int x2), some (.int x3), some (.int x4), some (.int x5), some (.int x6), some (.int x7), none, none, none, none, none, none, none] [] gz_F S (gz_qi Q)) : ∀ (x1 : Int32) (x2 : Int32) (x3 : Int32) (x4 : Int32) (x5 : Int32) (x6 : Int32) (x7 : Int32) (S : gz_S), wX8_secretOf_200 k44 Q x1 x2 x3 x4 x5 x6 x7 S → gz_k E mX8_secretOf (1, 0, 0, 73) 0 0 200 [some (.ref 45), some (.int x1), some (.int x2), some (.int x3), some (.int x4), some (.int x5), some (.int x6), some (.int x7), none, none, none, none, none, none, none] [] gz_F S (gz_qi Q) := by
  intro x1 x2 x3 x4 x5 x6 x7 S h
  unfold wX8_secretOf_200 at h
  refine gk_iinc dX8_secretOf_200 rfl (Nat.le_of_ble_eq_true rfl) rfl rfl rfl ?_
  refine gk_goto (tgt := 44) dX8_secretOf_203 (by decide) ?_
  exact gk_less (gz_le_s rfl (gz_le_s rfl (gz_le_s rfl (gz_le_s rfl (gz_le_s rfl (gz_le_s rfl (gz_le_s rfl (gz_le_s rfl (gz_le_n (gz_le_n (gz_le_n (gz_le_n (gz_le_n (gz_le_n (gz_le_n gz_le_0))))))))))))))) (hk44 _ _ _ _ _ _ _ _ h)
set_option maxHeartbeats 4000000 in
set_option maxRecDepth 100000 in
theorem oX8_secretOf_66 {E : gz_E} {k44 : Int32 → Int32 → Int32 → Int32 → Int32 → Int32 → Int32 → gz_S → Prop} {Q : Int32 → gz_S → Prop} (hk44 : ∀ (x1 : Int32) (x2 : Int32) (x3 : Int32) (x4 : Int32) (x5 : Int32) (x6 : Int32) (x7 : Int32) (S : gz_S), k44 x1 x2 x3 x4 x5 x6 x7 S → gz_k E mX8_secretOf (1, 0, 0, 73) 0 0 44 [some (.ref 45), some (.int x1), some (.int x2), some (.int x3), some (.int x4), some (.int x5), some (.int x6), some (.int x7), none, none, none, none, none, none, none] [] gz_F S (gz_qi Q)) : ∀ (n : Nat) (x1 : Int32) (x2 : Int32) (x3 : Int32) (x4 : Int32) (x5 : Int32) (x6 : Int32) (x7 : Int32) (x8 : Int32) (x9 : Int32) (x10 : Int32) (x11 : Int32) (x12 : Int32) (S : gz_S), wX8_secretOf_66 k44 Q n x1 x2 x3 x4 x5 x6 x7 x8 x9 x10 x11 x12 S → gz_k E mX8_secretOf (1, 0, 0, 73) 0 0 66 [some (.ref 45), some (.int x1), some (.int x2), some (.int x3), some (.int x4), some (.int x5), some (.int x6), some (.int x7), some (.int x8), some (.int x9), some (.int x10), some (.int x11), some (.int x12), none, none] [] gz_F S (gz_qi Q) := by
  intro n
  induction n with
  | zero =>
    intro x1 x2 x3 x4 x5 x6 x7 x8 x9 x10 x11 x12 S h
    exact h.elim
  | succ n ih =>
    intro x1 x2 x3 x4 x5 x6 x7 x8 x9 x10 x11 x12 S h
    unfold wX8_secretOf_66 at h
    refine gk_iload dX8_secretOf_66 rfl ?_
    refine gk_aload_n dX8_secretOf_68 rfl ?_
    refine gk_geti dX8_secretOf_69 rfl rfl wfX8_129 ?_
    refine gk_icmp_ge (tgt := 177) dX8_secretOf_72 (by decide) (fun c72 => ?_) (fun c72 => ?_)
    · replace h := h.1 c72
      refine gk_iload dX8_secretOf_177 rfl ?_
      refine gk_iload_n dX8_secretOf_179 rfl ?_
      refine gk_icmp_ne (tgt := 200) dX8_secretOf_180 (by decide) (fun c180 => ?_) (fun c180 => ?_)
      · replace h := h.1 c180
        exact gk_less (gz_le_s rfl (gz_le_s rfl (gz_le_s rfl (gz_le_s rfl (gz_le_s rfl (gz_le_s rfl (gz_le_s rfl (gz_le_s rfl (gz_le_n (gz_le_n (gz_le_n (gz_le_n (gz_le_n (gz_le_n (gz_le_n gz_le_0))))))))))))))) (oX8_secretOf_200 hk44 _ _ _ _ _ _ _ _ h)
      · replace h := h.2 c180
        refine gk_iinc dX8_secretOf_183 rfl (Nat.le_of_ble_eq_true rfl) rfl rfl rfl ?_
        refine gk_iload dX8_secretOf_186 rfl ?_
        refine gk_iload dX8_secretOf_188 rfl ?_
        refine gk_iand dX8_secretOf_190 ?_
        refine gk_nmi (fun v5_191 ev5_191 => ?_)
        replace h := h v5_191 ev5_191
        refine gk_istore dX8_secretOf_191 (Nat.le_of_ble_eq_true rfl) rfl rfl ?_
        refine gk_iload dX8_secretOf_193 rfl ?_
        refine gk_iload dX8_secretOf_195 rfl ?_
        refine gk_iand dX8_secretOf_197 ?_
        refine gk_nmi (fun v6_198 ev6_198 => ?_)
        replace h := h v6_198 ev6_198
        refine gk_istore dX8_secretOf_198 (Nat.le_of_ble_eq_true rfl) rfl rfl ?_
        exact gk_less (gz_le_s rfl (gz_le_s rfl (gz_le_s rfl (gz_le_s rfl (gz_le_s rfl (gz_le_s rfl (gz_le_s rfl (gz_le_s rfl (gz_le_n (gz_le_n (gz_le_n (gz_le_n (gz_le_n (gz_le_n (gz_le_n gz_le_0))))))))))))))) (oX8_secretOf_200 hk44 _ _ _ _ _ _ _ _ h)
    · replace h := h.2 c72
      refine gk_iload dX8_secretOf_75 rfl ?_
      refine gk_iconst (v := 3) dX8_secretOf_77 rfl ?_
      refine gk_irem dX8_secretOf_78 (by decide) ?_
      refine gk_nmi (fun v13_79 ev13_79 => ?_)
      replace h := h v13_79 ev13_79
      refine gk_istore dX8_secretOf_79 (Nat.le_of_ble_eq_true rfl) rfl rfl ?_
      refine gk_iload dX8_secretOf_81 rfl ?_
      refine gk_iconst (v := 3) dX8_secretOf_83 rfl ?_
      refine gk_idiv dX8_secretOf_84 (by decide) ?_
      refine gk_nmi (fun v8_85 ev8_85 => ?_)
      replace h := h v8_85 ev8_85
      refine gk_istore dX8_secretOf_85 (Nat.le_of_ble_eq_true rfl) rfl rfl ?_
      refine gk_aload_n dX8_secretOf_87 rfl ?_
      refine gk_getr dX8_secretOf_88 rfl rfl wfX8_28 ?_
      refine gk_iload dX8_secretOf_91 rfl ?_
      refine gk_iaload dX8_secretOf_93 rfl h.1 ?_
      replace h := h.2
      refine gk_aload_n dX8_secretOf_94 rfl ?_
      refine gk_getr dX8_secretOf_95 rfl rfl wfX8_46 ?_
      refine gk_iload dX8_secretOf_98 rfl ?_
      refine gk_iaload dX8_secretOf_100 rfl h.1 ?_
      replace h := h.2
      refine gk_imul dX8_secretOf_101 ?_
      refine gk_nmi (fun v14_102 ev14_102 => ?_)
      replace h := h v14_102 ev14_102
      refine gk_istore dX8_secretOf_102 (Nat.le_of_ble_eq_true rfl) rfl rfl ?_
      refine gk_iload dX8_secretOf_104 rfl ?_
      refine gk_iload dX8_secretOf_106 rfl ?_
      refine gk_iconst (v := 1) dX8_secretOf_108 rfl ?_
      refine gk_icmp_ne (tgt := 117) dX8_secretOf_109 (by decide) (fun c109 => ?_) (fun c109 => ?_)
      · replace h := h.1 c109
        refine gk_iload dX8_secretOf_117 rfl ?_
        refine gk_iconst (v := 2) dX8_secretOf_119 rfl ?_
        refine gk_icmp_ne (tgt := 129) dX8_secretOf_120 (by decide) (fun c120 => ?_) (fun c120 => ?_)
        · replace h := h.1 c120
          refine gk_iconst (v := 0) dX8_secretOf_129 rfl ?_
          exact gk_less (gz_le_s rfl (gz_le_s rfl (gz_le_s rfl (gz_le_s rfl (gz_le_s rfl (gz_le_s rfl (gz_le_s rfl (gz_le_s rfl (gz_le_s rfl (gz_le_n (gz_le_s rfl (gz_le_s rfl (gz_le_s rfl (gz_le_s rfl (gz_le_n gz_le_0))))))))))))))) (oX8_secretOf_130 hk44 (fun y0 y1 y2 y3 y4 y5 y6 y7 y8 y9 y10 y11 S h => ih y0 y1 y2 y3 y4 y5 y6 y7 y8 y9 y10 y11 S h) _ _ _ _ _ _ _ _ _ _ _ _ _ _ _ h)
        · replace h := h.2 c120
          refine gk_iload dX8_secretOf_123 rfl ?_
          refine gk_ineg dX8_secretOf_125 ?_
          refine gk_goto (tgt := 130) dX8_secretOf_126 (by decide) ?_
          exact gk_less (gz_le_s rfl (gz_le_s rfl (gz_le_s rfl (gz_le_s rfl (gz_le_s rfl (gz_le_s rfl (gz_le_s rfl (gz_le_s rfl (gz_le_s rfl (gz_le_n (gz_le_s rfl (gz_le_s rfl (gz_le_s rfl (gz_le_s rfl (gz_le_n gz_le_0))))))))))))))) (oX8_secretOf_130 hk44 (fun y0 y1 y2 y3 y4 y5 y6 y7 y8 y9 y10 y11 S h => ih y0 y1 y2 y3 y4 y5 y6 y7 y8 y9 y10 y11 S h) _ _ _ _ _ _ _ _ _ _ _ _ _ _ _ h)
      · replace h := h.2 c109
        refine gk_iload dX8_secretOf_112 rfl ?_
        refine gk_goto (tgt := 130) dX8_secretOf_114 (by decide) ?_
        exact gk_less (gz_le_s rfl (gz_le_s rfl (gz_le_s rfl (gz_le_s rfl (gz_le_s rfl (gz_le_s rfl (gz_le_s rfl (gz_le_s rfl (gz_le_s rfl (gz_le_n (gz_le_s rfl (gz_le_s rfl (gz_le_s rfl (gz_le_s rfl (gz_le_n gz_le_0))))))))))))))) (oX8_secretOf_130 hk44 (fun y0 y1 y2 y3 y4 y5 y6 y7 y8 y9 y10 y11 S h => ih y0 y1 y2 y3 y4 y5 y6 y7 y8 y9 y10 y11 S h) _ _ _ _ _ _ _ _ _ _ _ _ _ _ _ h)
set_option maxHeartbeats 4000000 in
set_option maxRecDepth 100000 in
theorem oX8_secretOf_44 {E : gz_E} {Q : Int32 → gz_S → Prop} : ∀ (n : Nat) (x1 : Int32) (x2 : Int32) (x3 : Int32) (x4 : Int32) (x5 : Int32) (x6 : Int32) (x7 : Int32) (S : gz_S), wX8_secretOf_44 Q n x1 x2 x3 x4 x5 x6 x7 S → gz_k E mX8_secretOf (1, 0, 0, 73) 0 0 44 [some (.ref 45), some (.int x1), some (.int x2), some (.int x3), some (.int x4), some (.int x5), some (.int x6), some (.int x7), none, none, none, none, none, none, none] [] gz_F S (gz_qi Q) := by
  intro n
  induction n with
  | zero =>
    intro x1 x2 x3 x4 x5 x6 x7 S h
    exact h.elim
  | succ n ih =>
    intro x1 x2 x3 x4 x5 x6 x7 S h
    unfold wX8_secretOf_44 at h
    refine gk_iload dX8_secretOf_44 rfl ?_
    refine gk_iload_n dX8_secretOf_46 rfl ?_
    refine gk_icmp_ge (tgt := 206) dX8_secretOf_47 (by decide) (fun c47 => ?_) (fun c47 => ?_)
    · replace h := h.1 c47
      refine gk_iload_n dX8_secretOf_206 rfl ?_
      refine gk_if_ne (tgt := 215) dX8_secretOf_207 (by decide) (fun c207 => ?_) (fun c207 => ?_)
      · replace h := h.1 c207
        refine gk_iload dX8_secretOf_215 rfl ?_
        refine gk_if_ne (tgt := 224) dX8_secretOf_217 (by decide) (fun c217 => ?_) (fun c217 => ?_)
        · replace h := h.1 c217
          refine gk_iload_n dX8_secretOf_224 rfl ?_
          refine gk_iconst (v := 1) dX8_secretOf_225 rfl ?_
          refine gk_icmp_ne (tgt := 234) dX8_secretOf_226 (by decide) (fun c226 => ?_) (fun c226 => ?_)
          · replace h := h.1 c226
            refine gk_iload dX8_secretOf_234 rfl ?_
            exact gk_iret dX8_secretOf_236 rfl rfl rfl rfl ⟨rfl, _, rfl, h⟩
          · replace h := h.2 c226
            refine gk_iload dX8_secretOf_229 rfl ?_
            refine gk_goto (tgt := 236) dX8_secretOf_231 (by decide) ?_
            exact gk_iret dX8_secretOf_236 rfl rfl rfl rfl ⟨rfl, _, rfl, h⟩
        · replace h := h.2 c217
          refine gk_iconst (v := 0) dX8_secretOf_220 rfl ?_
          refine gk_goto (tgt := 236) dX8_secretOf_221 (by decide) ?_
          exact gk_iret dX8_secretOf_236 rfl rfl rfl rfl ⟨rfl, _, rfl, h⟩
      · replace h := h.2 c207
        refine gk_iload dX8_secretOf_210 rfl ?_
        refine gk_goto (tgt := 236) dX8_secretOf_212 (by decide) ?_
        exact gk_iret dX8_secretOf_236 rfl rfl rfl rfl ⟨rfl, _, rfl, h⟩
    · replace h := h.2 c47
      refine gk_iload dX8_secretOf_50 rfl ?_
      refine gk_istore dX8_secretOf_52 (Nat.le_of_ble_eq_true rfl) rfl rfl ?_
      refine gk_iconst (v := 0) dX8_secretOf_54 rfl ?_
      refine gk_istore dX8_secretOf_55 (Nat.le_of_ble_eq_true rfl) rfl rfl ?_
      refine gk_iconst (v := 0) dX8_secretOf_57 rfl ?_
      refine gk_istore dX8_secretOf_58 (Nat.le_of_ble_eq_true rfl) rfl rfl ?_
      refine gk_iconst (v := 0) dX8_secretOf_60 rfl ?_
      refine gk_istore dX8_secretOf_61 (Nat.le_of_ble_eq_true rfl) rfl rfl ?_
      refine gk_iconst (v := 0) dX8_secretOf_63 rfl ?_
      refine gk_istore dX8_secretOf_64 (Nat.le_of_ble_eq_true rfl) rfl rfl ?_
      obtain ⟨m66, h⟩ := h
      exact gk_less (gz_le_s rfl (gz_le_s rfl (gz_le_s rfl (gz_le_s rfl (gz_le_s rfl (gz_le_s rfl (gz_le_s rfl (gz_le_s rfl (gz_le_s rfl (gz_le_s rfl (gz_le_s rfl (gz_le_s rfl (gz_le_s rfl (gz_le_n (gz_le_n gz_le_0))))))))))))))) (oX8_secretOf_66 (fun y0 y1 y2 y3 y4 y5 y6 S h => ih y0 y1 y2 y3 y4 y5 y6 S h) m66 _ _ _ _ _ _ _ _ _ _ _ _ _ h)
set_option maxHeartbeats 4000000 in
set_option maxRecDepth 100000 in
theorem oX8_secretOf_5 {E : gz_E} {Q : Int32 → gz_S → Prop} : ∀ (n : Nat) (x1 : Int32) (x2 : Int32) (x3 : Int32) (x4 : Int32) (S : gz_S), wX8_secretOf_5 Q n x1 x2 x3 x4 S → gz_k E mX8_secretOf (1, 0, 0, 73) 0 0 5 [some (.ref 45), some (.int x1), some (.int x2), some (.int x3), some (.int x4), none, none, none, none, none, none, none, none, none, none] [] gz_F S (gz_qi Q) := by
  intro n
  induction n with
  | zero =>
    intro x1 x2 x3 x4 S h
    exact h.elim
  | succ n ih =>
    intro x1 x2 x3 x4 S h
    unfold wX8_secretOf_5 at h
    refine gk_iload dX8_secretOf_5 rfl ?_
    refine gk_aload_n dX8_secretOf_7 rfl ?_
    refine gk_geti dX8_secretOf_8 rfl rfl wfX8_129 ?_
    refine gk_icmp_ge (tgt := 24) dX8_secretOf_11 (by decide) (fun c11 => ?_) (fun c11 => ?_)
    · replace h := h.1 c11
      refine gk_iconst (v := 0) dX8_secretOf_24 rfl ?_
      refine gk_istore dX8_secretOf_25 (Nat.le_of_ble_eq_true rfl) rfl rfl ?_
      refine gk_iconst (v := 1) dX8_secretOf_27 rfl ?_
      refine gk_aload_n dX8_secretOf_28 rfl ?_
      refine gk_geti dX8_secretOf_29 rfl rfl wfX8_129 ?_
      refine gk_ishl dX8_secretOf_32 ?_
      refine gk_iconst (v := 1) dX8_secretOf_33 rfl ?_
      refine gk_isub dX8_secretOf_34 ?_
      refine gk_nmi (fun v5_35 ev5_35 => ?_)
      replace h := h v5_35 ev5_35
      refine gk_istore dX8_secretOf_35 (Nat.le_of_ble_eq_true rfl) rfl rfl ?_
      refine gk_iload dX8_secretOf_37 rfl ?_
      refine gk_istore dX8_secretOf_39 (Nat.le_of_ble_eq_true rfl) rfl rfl ?_
      refine gk_iconst (v := 0) dX8_secretOf_41 rfl ?_
      refine gk_istore dX8_secretOf_42 (Nat.le_of_ble_eq_true rfl) rfl rfl ?_
      obtain ⟨m44, h⟩ := h
      exact gk_less (gz_le_s rfl (gz_le_s rfl (gz_le_s rfl (gz_le_s rfl (gz_le_s rfl (gz_le_s rfl (gz_le_s rfl (gz_le_s rfl (gz_le_n (gz_le_n (gz_le_n (gz_le_n (gz_le_n (gz_le_n (gz_le_n gz_le_0))))))))))))))) (oX8_secretOf_44 m44 _ _ _ _ _ _ _ _ h)
    · replace h := h.2 c11
      refine gk_iload_n dX8_secretOf_14 rfl ?_
      refine gk_iconst (v := 3) dX8_secretOf_15 rfl ?_
      refine gk_imul dX8_secretOf_16 ?_
      refine gk_nmi (fun v3_17 ev3_17 => ?_)
      replace h := h v3_17 ev3_17
      refine gk_istore_n dX8_secretOf_17 (Nat.le_of_ble_eq_true rfl) rfl rfl ?_
      refine gk_iinc dX8_secretOf_18 rfl (Nat.le_of_ble_eq_true rfl) rfl rfl rfl ?_
      refine gk_goto (tgt := 5) dX8_secretOf_21 (by decide) ?_
      exact gk_less (gz_le_s rfl (gz_le_s rfl (gz_le_s rfl (gz_le_s rfl (gz_le_s rfl (gz_le_n (gz_le_n (gz_le_n (gz_le_n (gz_le_n (gz_le_n (gz_le_n (gz_le_n (gz_le_n (gz_le_n gz_le_0))))))))))))))) (ih _ _ _ _ _ h)
set_option maxHeartbeats 4000000 in
set_option maxRecDepth 100000 in
theorem ctX8_secretOf {E : gz_E} {x1 : Int32} {x2 : Int32} {S : gz_S} {Q : Int32 → gz_S → Prop} (h : wX8_secretOf x1 x2 S Q) : gz_m E mX8_secretOf 1 0 0 [.ref 45, .int x1, .int x2] gz_F S (gz_qi Q) := by
  refine gz_meet0 (L0 := [some (.ref 45), some (.int x1), some (.int x2), none, none, none, none, none, none, none, none, none, none, none, none]) (by decide) rfl (Nat.le_of_ble_eq_true rfl) (by decide) ?_
  unfold wX8_secretOf at h
  refine gk_iconst (v := 1) dX8_secretOf_0 rfl ?_
  refine gk_istore_n dX8_secretOf_1 (Nat.le_of_ble_eq_true rfl) rfl rfl ?_
  refine gk_iconst (v := 0) dX8_secretOf_2 rfl ?_
  refine gk_istore dX8_secretOf_3 (Nat.le_of_ble_eq_true rfl) rfl rfl ?_
  obtain ⟨m5, h⟩ := h
  exact gk_less (gz_le_s rfl (gz_le_s rfl (gz_le_s rfl (gz_le_s rfl (gz_le_s rfl (gz_le_n (gz_le_n (gz_le_n (gz_le_n (gz_le_n (gz_le_n (gz_le_n (gz_le_n (gz_le_n (gz_le_n gz_le_0))))))))))))))) (oX8_secretOf_5 m5 _ _ _ _ _ h)
set_option maxHeartbeats 4000000 in
set_option maxRecDepth 100000 in
theorem ctX8_secret {E : gz_E} {x1 : Int32} {x2 : Int32} {S : gz_S} {Q : Int32 → gz_S → Prop} (h : wX8_secret x1 x2 S Q) : gz_m E mX8_secret 4 0 0 [.ref 45, .int x1, .int x2] gz_F S (gz_qi Q) := by
  refine gz_meet0 (L0 := [some (.ref 45), some (.int x1), some (.int x2)]) (by decide) rfl (Nat.le_of_ble_eq_true rfl) (by decide) ?_
  unfold wX8_secret at h
  refine gk_aload_n dX8_secret_0 rfl ?_
  refine gk_callV (as := []) (rest := []) (ctX8_reads h) dX8_secret_1 rfl rfl wvX8_147 wcX8_reads rfl (Nat.le_of_ble_eq_true rfl) ⟨Nat.le_refl _, Nat.le_refl _⟩ (fun h9 => absurd rfl h9) (Nat.le_of_ble_eq_true rfl) rfl (fun v G2 S1 hq => ?_)
  obtain ⟨rfl, rfl, h⟩ := hq
  refine gk_iload_n dX8_secret_4 rfl ?_
  refine gk_i2l dX8_secret_5 ?_
  refine gk_ldc2 dX8_secret_6 wkX8_274 ?_
  refine gk_ldc2 dX8_secret_9 wkX8_276 ?_
  refine gk_callS (as := [_, _, _]) (rest := []) (ctX8_in h) dX8_secret_12 wvX8_92 wcX8_in rfl (Nat.le_of_ble_eq_true rfl) ⟨Nat.le_refl _, Nat.le_refl _⟩ (fun h9 => absurd rfl h9) (Nat.le_of_ble_eq_true rfl) rfl (fun v G2 S12 hq => ?_)
  obtain ⟨rfl, r12, rfl, h⟩ := hq
  refine gk_if_eq (tgt := 39) dX8_secret_15 (by decide) (fun c15 => ?_) (fun c15 => ?_)
  · replace h := h.1 c15
    refine gk_bipush (v := (-2)) dX8_secret_39 rfl ?_
    exact gk_iret dX8_secret_41 rfl rfl rfl rfl ⟨rfl, _, rfl, h⟩
  · replace h := h.2 c15
    refine gk_iload_n dX8_secret_18 rfl ?_
    refine gk_i2l dX8_secret_19 ?_
    refine gk_lconst (v := 0) dX8_secret_20 rfl ?_
    refine gk_ldc2 dX8_secret_21 wkX8_106 ?_
    refine gk_callS (as := [_, _, _]) (rest := []) (ctX8_in h) dX8_secret_24 wvX8_92 wcX8_in rfl (Nat.le_of_ble_eq_true rfl) ⟨Nat.le_refl _, Nat.le_refl _⟩ (fun h9 => absurd rfl h9) (Nat.le_of_ble_eq_true rfl) rfl (fun v G2 S24 hq => ?_)
    obtain ⟨rfl, r24, rfl, h⟩ := hq
    refine gk_if_eq (tgt := 39) dX8_secret_27 (by decide) (fun c27 => ?_) (fun c27 => ?_)
    · replace h := h.1 c27
      refine gk_bipush (v := (-2)) dX8_secret_39 rfl ?_
      exact gk_iret dX8_secret_41 rfl rfl rfl rfl ⟨rfl, _, rfl, h⟩
    · replace h := h.2 c27
      refine gk_aload_n dX8_secret_30 rfl ?_
      refine gk_iload_n dX8_secret_31 rfl ?_
      refine gk_iload_n dX8_secret_32 rfl ?_
      refine gk_callV (as := [_, _]) (rest := []) (ctX8_secretOf h) dX8_secret_33 rfl rfl wvX8_278 wcX8_secretOf rfl (Nat.le_of_ble_eq_true rfl) ⟨Nat.le_refl _, Nat.le_refl _⟩ (fun h9 => absurd rfl h9) (Nat.le_of_ble_eq_true rfl) rfl (fun v G2 S33 hq => ?_)
      obtain ⟨rfl, r33, rfl, h⟩ := hq
      refine gk_goto (tgt := 41) dX8_secret_36 (by decide) ?_
      exact gk_iret dX8_secret_41 rfl rfl rfl rfl ⟨rfl, _, rfl, h⟩
set_option maxHeartbeats 4000000 in
set_option maxRecDepth 100000 in
theorem ctX5_renew_37 {E : gz_E} {x1 : Int32} {x2 : Int32} {S : gz_S} {Q : gz_S → Prop} (h : wX5_renew 37 x1 x2 S Q) : gz_m E mX5_renew 2 0 0 [.ref 37, .int x1, .int x2] gz_F S (gz_qv Q) := by
  refine gz_meet0 (L0 := [some (.ref 37), some (.int x1), some (.int x2)]) (by decide) rfl (Nat.le_of_ble_eq_true rfl) (by decide) ?_
  unfold wX5_renew at h
  refine gk_aload_n dX5_renew_0 rfl ?_
  refine gk_iload_n dX5_renew_1 rfl ?_
  refine gk_puti dX5_renew_2 rfl rfl wfX5_15 wpX5_1 rfl rfl ?_
  refine gk_nmS (fun S2 eS2 => ?_)
  replace h := h S2 eS2
  refine gk_aload_n dX5_renew_5 rfl ?_
  refine gk_iload_n dX5_renew_6 rfl ?_
  refine gk_puti dX5_renew_7 rfl rfl wfX5_19 wpX5_2 rfl rfl ?_
  refine gk_nmS (fun S7 eS7 => ?_)
  replace h := h S7 eS7
  refine gk_aload_n dX5_renew_10 rfl ?_
  refine gk_getr dX5_renew_11 rfl rfl wfX5_9 ?_
  refine gk_iconst (v := 0) dX5_renew_14 rfl ?_
  refine gk_callS (as := [_, _]) (rest := []) (ctJ7_fill_53178_38 h) dX5_renew_15 wvX5_22 wcJ7_fill_53178 rfl (Nat.le_of_ble_eq_true rfl) ⟨Nat.le_refl _, Nat.le_refl _⟩ (fun h9 => absurd rfl h9) (Nat.le_of_ble_eq_true rfl) rfl (fun v G2 S15 hq => ?_)
  obtain ⟨rfl, rfl, h⟩ := hq
  exact gk_vret dX5_renew_18 rfl rfl rfl ⟨rfl, rfl, h⟩
set_option maxHeartbeats 4000000 in
set_option maxRecDepth 100000 in
theorem ctX5_renew_39 {E : gz_E} {x1 : Int32} {x2 : Int32} {S : gz_S} {Q : gz_S → Prop} (h : wX5_renew 39 x1 x2 S Q) : gz_m E mX5_renew 2 0 0 [.ref 39, .int x1, .int x2] gz_F S (gz_qv Q) := by
  refine gz_meet0 (L0 := [some (.ref 39), some (.int x1), some (.int x2)]) (by decide) rfl (Nat.le_of_ble_eq_true rfl) (by decide) ?_
  unfold wX5_renew at h
  refine gk_aload_n dX5_renew_0 rfl ?_
  refine gk_iload_n dX5_renew_1 rfl ?_
  refine gk_puti dX5_renew_2 rfl rfl wfX5_15 wpX5_1 rfl rfl ?_
  refine gk_nmS (fun S2 eS2 => ?_)
  replace h := h S2 eS2
  refine gk_aload_n dX5_renew_5 rfl ?_
  refine gk_iload_n dX5_renew_6 rfl ?_
  refine gk_puti dX5_renew_7 rfl rfl wfX5_19 wpX5_2 rfl rfl ?_
  refine gk_nmS (fun S7 eS7 => ?_)
  replace h := h S7 eS7
  refine gk_aload_n dX5_renew_10 rfl ?_
  refine gk_getr dX5_renew_11 rfl rfl wfX5_9 ?_
  refine gk_iconst (v := 0) dX5_renew_14 rfl ?_
  refine gk_callS (as := [_, _]) (rest := []) (ctJ7_fill_53178_40 h) dX5_renew_15 wvX5_22 wcJ7_fill_53178 rfl (Nat.le_of_ble_eq_true rfl) ⟨Nat.le_refl _, Nat.le_refl _⟩ (fun h9 => absurd rfl h9) (Nat.le_of_ble_eq_true rfl) rfl (fun v G2 S15 hq => ?_)
  obtain ⟨rfl, rfl, h⟩ := hq
  exact gk_vret dX5_renew_18 rfl rfl rfl ⟨rfl, rfl, h⟩
set_option maxHeartbeats 4000000 in
set_option maxRecDepth 100000 in
theorem ctX5_renew_41 {E : gz_E} {x1 : Int32} {x2 : Int32} {S : gz_S} {Q : gz_S → Prop} (h : wX5_renew 41 x1 x2 S Q) : gz_m E mX5_renew 2 0 0 [.ref 41, .int x1, .int x2] gz_F S (gz_qv Q) := by
  refine gz_meet0 (L0 := [some (.ref 41), some (.int x1), some (.int x2)]) (by decide) rfl (Nat.le_of_ble_eq_true rfl) (by decide) ?_
  unfold wX5_renew at h
  refine gk_aload_n dX5_renew_0 rfl ?_
  refine gk_iload_n dX5_renew_1 rfl ?_
  refine gk_puti dX5_renew_2 rfl rfl wfX5_15 wpX5_1 rfl rfl ?_
  refine gk_nmS (fun S2 eS2 => ?_)
  replace h := h S2 eS2
  refine gk_aload_n dX5_renew_5 rfl ?_
  refine gk_iload_n dX5_renew_6 rfl ?_
  refine gk_puti dX5_renew_7 rfl rfl wfX5_19 wpX5_2 rfl rfl ?_
  refine gk_nmS (fun S7 eS7 => ?_)
  replace h := h S7 eS7
  refine gk_aload_n dX5_renew_10 rfl ?_
  refine gk_getr dX5_renew_11 rfl rfl wfX5_9 ?_
  refine gk_iconst (v := 0) dX5_renew_14 rfl ?_
  refine gk_callS (as := [_, _]) (rest := []) (ctJ7_fill_53178_42 h) dX5_renew_15 wvX5_22 wcJ7_fill_53178 rfl (Nat.le_of_ble_eq_true rfl) ⟨Nat.le_refl _, Nat.le_refl _⟩ (fun h9 => absurd rfl h9) (Nat.le_of_ble_eq_true rfl) rfl (fun v G2 S15 hq => ?_)
  obtain ⟨rfl, rfl, h⟩ := hq
  exact gk_vret dX5_renew_18 rfl rfl rfl ⟨rfl, rfl, h⟩
set_option maxHeartbeats 4000000 in
set_option maxRecDepth 100000 in
theorem ctX5_renew_43 {E : gz_E} {x1 : Int32} {x2 : Int32} {S : gz_S} {Q : gz_S → Prop} (h : wX5_renew 43 x1 x2 S Q) : gz_m E mX5_renew 2 0 0 [.ref 43, .int x1, .int x2] gz_F S (gz_qv Q) := by
  refine gz_meet0 (L0 := [some (.ref 43), some (.int x1), some (.int x2)]) (by decide) rfl (Nat.le_of_ble_eq_true rfl) (by decide) ?_
  unfold wX5_renew at h
  refine gk_aload_n dX5_renew_0 rfl ?_
  refine gk_iload_n dX5_renew_1 rfl ?_
  refine gk_puti dX5_renew_2 rfl rfl wfX5_15 wpX5_1 rfl rfl ?_
  refine gk_nmS (fun S2 eS2 => ?_)
  replace h := h S2 eS2
  refine gk_aload_n dX5_renew_5 rfl ?_
  refine gk_iload_n dX5_renew_6 rfl ?_
  refine gk_puti dX5_renew_7 rfl rfl wfX5_19 wpX5_2 rfl rfl ?_
  refine gk_nmS (fun S7 eS7 => ?_)
  replace h := h S7 eS7
  refine gk_aload_n dX5_renew_10 rfl ?_
  refine gk_getr dX5_renew_11 rfl rfl wfX5_9 ?_
  refine gk_iconst (v := 0) dX5_renew_14 rfl ?_
  refine gk_callS (as := [_, _]) (rest := []) (ctJ7_fill_53178_44 h) dX5_renew_15 wvX5_22 wcJ7_fill_53178 rfl (Nat.le_of_ble_eq_true rfl) ⟨Nat.le_refl _, Nat.le_refl _⟩ (fun h9 => absurd rfl h9) (Nat.le_of_ble_eq_true rfl) rfl (fun v G2 S15 hq => ?_)
  obtain ⟨rfl, rfl, h⟩ := hq
  exact gk_vret dX5_renew_18 rfl rfl rfl ⟨rfl, rfl, h⟩
set_option maxHeartbeats 4000000 in
set_option maxRecDepth 100000 in
theorem ctX7_sheet {E : gz_E} {x1 : Int32} {x2 : Int32} {x3 : Int32} {S : gz_S} {Q : Int32 → gz_S → Prop} (h : wX7_sheet x1 x2 x3 S Q) : gz_m E mX7_sheet 3 0 0 [.ref 0, .int x1, .int x2, .int x3] gz_F S (gz_qi Q) := by
  refine gz_meet0 (L0 := [some (.ref 0), some (.int x1), some (.int x2), some (.int x3)]) (by decide) rfl (Nat.le_of_ble_eq_true rfl) (by decide) ?_
  unfold wX7_sheet at h
  refine gk_iload_n dX7_sheet_0 rfl ?_
  refine gk_iconst (v := 0) dX7_sheet_1 rfl ?_
  refine gk_iconst (v := 3) dX7_sheet_2 rfl ?_
  refine gk_callS (as := [_, _, _]) (rest := []) (ctX7_within h) dX7_sheet_3 wvX7_62 wcX7_within rfl (Nat.le_of_ble_eq_true rfl) ⟨Nat.le_refl _, Nat.le_refl _⟩ (fun h9 => absurd rfl h9) (Nat.le_of_ble_eq_true rfl) rfl (fun v G2 S3 hq => ?_)
  obtain ⟨rfl, r3, rfl, h⟩ := hq
  refine gk_if_eq (tgt := 24) dX7_sheet_6 (by decide) (fun c6 => ?_) (fun c6 => ?_)
  · replace h := h.1 c6
    refine gk_bipush (v := (-2)) dX7_sheet_24 rfl ?_
    exact gk_iret dX7_sheet_26 rfl rfl rfl rfl ⟨rfl, _, rfl, h⟩
  · replace h := h.2 c6
    refine gk_iload_n dX7_sheet_9 rfl ?_
    refine gk_iconst (v := 0) dX7_sheet_10 rfl ?_
    refine gk_iconst (v := 2) dX7_sheet_11 rfl ?_
    refine gk_callS (as := [_, _, _]) (rest := []) (ctX7_within h) dX7_sheet_12 wvX7_62 wcX7_within rfl (Nat.le_of_ble_eq_true rfl) ⟨Nat.le_refl _, Nat.le_refl _⟩ (fun h9 => absurd rfl h9) (Nat.le_of_ble_eq_true rfl) rfl (fun v G2 S12 hq => ?_)
    obtain ⟨rfl, r12, rfl, h⟩ := hq
    refine gk_if_eq (tgt := 24) dX7_sheet_15 (by decide) (fun c15 => ?_) (fun c15 => ?_)
    · replace h := h.1 c15
      refine gk_bipush (v := (-2)) dX7_sheet_24 rfl ?_
      exact gk_iret dX7_sheet_26 rfl rfl rfl rfl ⟨rfl, _, rfl, h⟩
    · replace h := h.2 c15
      refine gk_iload_n dX7_sheet_18 rfl ?_
      refine gk_bipush (v := 60) dX7_sheet_19 rfl ?_
      refine gk_icmp_le (tgt := 27) dX7_sheet_21 (by decide) (fun c21 => ?_) (fun c21 => ?_)
      · replace h := h.1 c21
        refine gk_iload_n dX7_sheet_27 rfl ?_
        refine gk_if_ge (tgt := 37) dX7_sheet_28 (by decide) (fun c28 => ?_) (fun c28 => ?_)
        · replace h := h.1 c28
          refine gk_aload_n dX7_sheet_37 rfl ?_
          refine gk_getr dX7_sheet_38 rfl rfl wfX7_53 ?_
          refine gk_iload_n dX7_sheet_41 rfl ?_
          rcases gz_four h.1 with hj00 | hj01 | hj02 | hj03
          · refine gk_aaload (t := 0) dX7_sheet_42 rfl h.1 (by rw [hj00]; rfl) ?_
            replace h := h.2
            try rw [hj00] at h
            refine gk_iload_n dX7_sheet_43 rfl ?_
            refine gk_iload_n dX7_sheet_44 rfl ?_
            refine gk_callV (as := [_, _]) (rest := []) (ctX5_renew_37 h) dX7_sheet_45 rfl rfl wvX7_221 wcX5_renew rfl (Nat.le_of_ble_eq_true rfl) ⟨Nat.le_refl _, Nat.le_refl _⟩ (fun h9 => absurd rfl h9) (Nat.le_of_ble_eq_true rfl) rfl (fun v G2 S45 hq => ?_)
            obtain ⟨rfl, rfl, h⟩ := hq
            refine gk_iload_n dX7_sheet_48 rfl ?_
            exact gk_iret dX7_sheet_49 rfl rfl rfl rfl ⟨rfl, _, rfl, h⟩
          · refine gk_aaload (t := 0) dX7_sheet_42 rfl h.1 (by rw [hj01]; rfl) ?_
            replace h := h.2
            try rw [hj01] at h
            refine gk_iload_n dX7_sheet_43 rfl ?_
            refine gk_iload_n dX7_sheet_44 rfl ?_
            refine gk_callV (as := [_, _]) (rest := []) (ctX5_renew_39 h) dX7_sheet_45 rfl rfl wvX7_221 wcX5_renew rfl (Nat.le_of_ble_eq_true rfl) ⟨Nat.le_refl _, Nat.le_refl _⟩ (fun h9 => absurd rfl h9) (Nat.le_of_ble_eq_true rfl) rfl (fun v G2 S45_1 hq => ?_)
            obtain ⟨rfl, rfl, h⟩ := hq
            refine gk_iload_n dX7_sheet_48 rfl ?_
            exact gk_iret dX7_sheet_49 rfl rfl rfl rfl ⟨rfl, _, rfl, h⟩
          · refine gk_aaload (t := 0) dX7_sheet_42 rfl h.1 (by rw [hj02]; rfl) ?_
            replace h := h.2
            try rw [hj02] at h
            refine gk_iload_n dX7_sheet_43 rfl ?_
            refine gk_iload_n dX7_sheet_44 rfl ?_
            refine gk_callV (as := [_, _]) (rest := []) (ctX5_renew_41 h) dX7_sheet_45 rfl rfl wvX7_221 wcX5_renew rfl (Nat.le_of_ble_eq_true rfl) ⟨Nat.le_refl _, Nat.le_refl _⟩ (fun h9 => absurd rfl h9) (Nat.le_of_ble_eq_true rfl) rfl (fun v G2 S45_2 hq => ?_)
            obtain ⟨rfl, rfl, h⟩ := hq
            refine gk_iload_n dX7_sheet_48 rfl ?_
            exact gk_iret dX7_sheet_49 rfl rfl rfl rfl ⟨rfl, _, rfl, h⟩
          · refine gk_aaload (t := 0) dX7_sheet_42 rfl h.1 (by rw [hj03]; rfl) ?_
            replace h := h.2
            try rw [hj03] at h
            refine gk_iload_n dX7_sheet_43 rfl ?_
            refine gk_iload_n dX7_sheet_44 rfl ?_
            refine gk_callV (as := [_, _]) (rest := []) (ctX5_renew_43 h) dX7_sheet_45 rfl rfl wvX7_221 wcX5_renew rfl (Nat.le_of_ble_eq_true rfl) ⟨Nat.le_refl _, Nat.le_refl _⟩ (fun h9 => absurd rfl h9) (Nat.le_of_ble_eq_true rfl) rfl (fun v G2 S45_3 hq => ?_)
            obtain ⟨rfl, rfl, h⟩ := hq
            refine gk_iload_n dX7_sheet_48 rfl ?_
            exact gk_iret dX7_sheet_49 rfl rfl rfl rfl ⟨rfl, _, rfl, h⟩
        · replace h := h.2 c28
          refine gk_aload_n dX7_sheet_31 rfl ?_
          refine gk_iconst (v := 5) dX7_sheet_32 rfl ?_
          refine gk_callV (as := [_]) (rest := []) (ctX7_found h) dX7_sheet_33 rfl rfl wvX7_218 wcX7_found rfl (Nat.le_of_ble_eq_true rfl) ⟨Nat.le_refl _, Nat.le_refl _⟩ (fun h9 => absurd rfl h9) (Nat.le_of_ble_eq_true rfl) rfl (fun v G2 S33 hq => ?_)
          obtain ⟨rfl, r33, rfl, h⟩ := hq
          exact gk_iret dX7_sheet_36 rfl rfl rfl rfl ⟨rfl, _, rfl, h⟩
      · replace h := h.2 c21
        refine gk_bipush (v := (-2)) dX7_sheet_24 rfl ?_
        exact gk_iret dX7_sheet_26 rfl rfl rfl rfl ⟨rfl, _, rfl, h⟩
set_option maxHeartbeats 4000000 in
set_option maxRecDepth 100000 in
theorem oX8_sheet_55 {E : gz_E} {Q : Int32 → gz_S → Prop} : ∀ (n : Nat) (x1 : Int32) (x3 : Int32) (x4 : Int32) (S : gz_S), wX8_sheet_55 Q n x1 x3 x4 S → gz_k E mX8_sheet (3, 0, 0, 73) 0 0 55 [some (.ref 45), some (.int x1), none, some (.int x3), some (.int x4)] [] gz_F S (gz_qi Q) := by
  intro n
  induction n with
  | zero =>
    intro x1 x3 x4 S h
    exact h.elim
  | succ n ih =>
    intro x1 x3 x4 S h
    unfold wX8_sheet_55 at h
    refine gk_iload dX8_sheet_55 rfl ?_
    refine gk_iload_n dX8_sheet_57 rfl ?_
    refine gk_icmp_ge (tgt := 80) dX8_sheet_58 (by decide) (fun c58 => ?_) (fun c58 => ?_)
    · replace h := h.1 c58
      refine gk_iload_n dX8_sheet_80 rfl ?_
      exact gk_iret dX8_sheet_81 rfl rfl rfl rfl ⟨rfl, _, rfl, h⟩
    · replace h := h.2 c58
      refine gk_aload_n dX8_sheet_61 rfl ?_
      refine gk_getr dX8_sheet_62 rfl rfl wfX8_16 ?_
      refine gk_bipush (v := 60) dX8_sheet_65 rfl ?_
      refine gk_iload_n dX8_sheet_67 rfl ?_
      refine gk_imul dX8_sheet_68 ?_
      refine gk_iload dX8_sheet_69 rfl ?_
      refine gk_iadd dX8_sheet_71 ?_
      refine gk_iconst (v := 0) dX8_sheet_72 rfl ?_
      refine gk_iastore dX8_sheet_73 rfl h.1 ?_
      replace h := h.2
      refine gk_nmS (fun S73 eS73 => ?_)
      replace h := h S73 eS73
      refine gk_iinc dX8_sheet_74 rfl (Nat.le_of_ble_eq_true rfl) rfl rfl rfl ?_
      refine gk_goto (tgt := 55) dX8_sheet_77 (by decide) ?_
      exact gk_less (gz_le_s rfl (gz_le_s rfl (gz_le_n (gz_le_s rfl (gz_le_s rfl gz_le_0))))) (ih _ _ _ _ h)
set_option maxHeartbeats 4000000 in
set_option maxRecDepth 100000 in
theorem ctX8_sheet {E : gz_E} {x1 : Int32} {x2 : Int32} {x3 : Int32} {S : gz_S} {Q : Int32 → gz_S → Prop} (h : wX8_sheet x1 x2 x3 S Q) : gz_m E mX8_sheet 3 0 0 [.ref 45, .int x1, .int x2, .int x3] gz_F S (gz_qi Q) := by
  refine gz_meet0 (L0 := [some (.ref 45), some (.int x1), some (.int x2), some (.int x3), none]) (by decide) rfl (Nat.le_of_ble_eq_true rfl) (by decide) ?_
  unfold wX8_sheet at h
  refine gk_iload_n dX8_sheet_0 rfl ?_
  refine gk_callS (as := [_]) (rest := []) (ctX8_isSheet h) dX8_sheet_1 wvX8_102 wcX8_isSheet rfl (Nat.le_of_ble_eq_true rfl) ⟨Nat.le_refl _, Nat.le_refl _⟩ (fun h9 => absurd rfl h9) (Nat.le_of_ble_eq_true rfl) rfl (fun v G2 S1 hq => ?_)
  obtain ⟨rfl, r1, rfl, h⟩ := hq
  refine gk_if_eq (tgt := 25) dX8_sheet_4 (by decide) (fun c4 => ?_) (fun c4 => ?_)
  · replace h := h.1 c4
    refine gk_bipush (v := (-2)) dX8_sheet_25 rfl ?_
    exact gk_iret dX8_sheet_27 rfl rfl rfl rfl ⟨rfl, _, rfl, h⟩
  · replace h := h.2 c4
    refine gk_iload_n dX8_sheet_7 rfl ?_
    refine gk_i2l dX8_sheet_8 ?_
    refine gk_lconst (v := 0) dX8_sheet_9 rfl ?_
    refine gk_ldc2 dX8_sheet_10 wkX8_106 ?_
    refine gk_callS (as := [_, _, _]) (rest := []) (ctX8_in h) dX8_sheet_13 wvX8_92 wcX8_in rfl (Nat.le_of_ble_eq_true rfl) ⟨Nat.le_refl _, Nat.le_refl _⟩ (fun h9 => absurd rfl h9) (Nat.le_of_ble_eq_true rfl) rfl (fun v G2 S13 hq => ?_)
    obtain ⟨rfl, r13, rfl, h⟩ := hq
    refine gk_if_eq (tgt := 25) dX8_sheet_16 (by decide) (fun c16 => ?_) (fun c16 => ?_)
    · replace h := h.1 c16
      refine gk_bipush (v := (-2)) dX8_sheet_25 rfl ?_
      exact gk_iret dX8_sheet_27 rfl rfl rfl rfl ⟨rfl, _, rfl, h⟩
    · replace h := h.2 c16
      refine gk_iload_n dX8_sheet_19 rfl ?_
      refine gk_bipush (v := 60) dX8_sheet_20 rfl ?_
      refine gk_icmp_le (tgt := 28) dX8_sheet_22 (by decide) (fun c22 => ?_) (fun c22 => ?_)
      · replace h := h.1 c22
        refine gk_iload_n dX8_sheet_28 rfl ?_
        refine gk_if_ge (tgt := 38) dX8_sheet_29 (by decide) (fun c29 => ?_) (fun c29 => ?_)
        · replace h := h.1 c29
          refine gk_aload_n dX8_sheet_38 rfl ?_
          refine gk_getr dX8_sheet_39 rfl rfl wfX8_7 ?_
          refine gk_iload_n dX8_sheet_42 rfl ?_
          refine gk_iload_n dX8_sheet_43 rfl ?_
          refine gk_iastore dX8_sheet_44 rfl h.1 ?_
          replace h := h.2
          refine gk_nmS (fun S44 eS44 => ?_)
          replace h := h S44 eS44
          refine gk_aload_n dX8_sheet_45 rfl ?_
          refine gk_getr dX8_sheet_46 rfl rfl wfX8_13 ?_
          refine gk_iload_n dX8_sheet_49 rfl ?_
          refine gk_iload_n dX8_sheet_50 rfl ?_
          refine gk_iastore dX8_sheet_51 rfl h.1 ?_
          replace h := h.2
          refine gk_nmS (fun S51 eS51 => ?_)
          replace h := h S51 eS51
          refine gk_iconst (v := 0) dX8_sheet_52 rfl ?_
          refine gk_istore dX8_sheet_53 (Nat.le_of_ble_eq_true rfl) rfl rfl ?_
          obtain ⟨m55, h⟩ := h
          exact gk_less (gz_le_s rfl (gz_le_s rfl (gz_le_n (gz_le_s rfl (gz_le_s rfl gz_le_0))))) (oX8_sheet_55 m55 _ _ _ _ h)
        · replace h := h.2 c29
          refine gk_aload_n dX8_sheet_32 rfl ?_
          refine gk_iconst (v := 5) dX8_sheet_33 rfl ?_
          refine gk_callV (as := [_]) (rest := []) (ctX8_met h) dX8_sheet_34 rfl rfl wvX8_108 wcX8_met rfl (Nat.le_of_ble_eq_true rfl) ⟨Nat.le_refl _, Nat.le_refl _⟩ (fun h9 => absurd rfl h9) (Nat.le_of_ble_eq_true rfl) rfl (fun v G2 S34 hq => ?_)
          obtain ⟨rfl, r34, rfl, h⟩ := hq
          exact gk_iret dX8_sheet_37 rfl rfl rfl rfl ⟨rfl, _, rfl, h⟩
      · replace h := h.2 c22
        refine gk_bipush (v := (-2)) dX8_sheet_25 rfl ?_
        exact gk_iret dX8_sheet_27 rfl rfl rfl rfl ⟨rfl, _, rfl, h⟩
set_option maxHeartbeats 4000000 in
set_option maxRecDepth 100000 in
theorem ctX7_lose {E : gz_E} {x1 : Int32} {S : gz_S} {Q : Int32 → gz_S → Prop} (h : wX7_lose x1 S Q) : gz_m E mX7_lose 3 0 0 [.ref 0, .int x1] gz_F S (gz_qi Q) := by
  refine gz_meet0 (L0 := [some (.ref 0), some (.int x1), none, none]) (by decide) rfl (Nat.le_of_ble_eq_true rfl) (by decide) ?_
  unfold wX7_lose at h
  refine gk_aload_n dX7_lose_0 rfl ?_
  refine gk_iload_n dX7_lose_1 rfl ?_
  refine gk_callV (as := [_]) (rest := []) (ctX7_refusalOf h) dX7_lose_2 rfl rfl wvX7_139 wcX7_refusalOf rfl (Nat.le_of_ble_eq_true rfl) ⟨Nat.le_refl _, Nat.le_refl _⟩ (fun h9 => absurd rfl h9) (Nat.le_of_ble_eq_true rfl) rfl (fun v G2 S2 hq => ?_)
  obtain ⟨rfl, r2, rfl, h⟩ := hq
  refine gk_istore_n dX7_lose_5 (Nat.le_of_ble_eq_true rfl) rfl rfl ?_
  refine gk_iload_n dX7_lose_6 rfl ?_
  refine gk_if_eq (tgt := 12) dX7_lose_7 (by decide) (fun c7 => ?_) (fun c7 => ?_)
  · replace h := h.1 c7
    refine gk_aload_n dX7_lose_12 rfl ?_
    refine gk_getr dX7_lose_13 rfl rfl wfX7_53 ?_
    refine gk_iload_n dX7_lose_16 rfl ?_
    rcases gz_four h.1 with hj00 | hj01 | hj02 | hj03
    · refine gk_aaload (t := 0) dX7_lose_17 rfl h.1 (by rw [hj00]; rfl) ?_
      replace h := h.2
      try rw [hj00] at h
      refine gk_geti dX7_lose_18 rfl rfl wfX7_142 ?_
      refine gk_nmi (fun v3_21 ev3_21 => ?_)
      replace h := h v3_21 ev3_21
      refine gk_istore_n dX7_lose_21 (Nat.le_of_ble_eq_true rfl) rfl rfl ?_
      refine gk_aload_n dX7_lose_22 rfl ?_
      refine gk_getr dX7_lose_23 rfl rfl wfX7_53 ?_
      refine gk_iload_n dX7_lose_26 rfl ?_
      refine gk_aaload (t := 0) dX7_lose_27 rfl h.1 (by rw [hj00]; rfl) ?_
      replace h := h.2
      try rw [hj00] at h
      refine gk_iconst (v := (-1)) dX7_lose_28 rfl ?_
      refine gk_puti dX7_lose_29 rfl rfl wfX7_142 wpX5_2 rfl rfl ?_
      refine gk_nmS (fun S29 eS29 => ?_)
      replace h := h S29 eS29
      refine gk_iload_n dX7_lose_32 rfl ?_
      exact gk_iret dX7_lose_33 rfl rfl rfl rfl ⟨rfl, _, rfl, h⟩
    · refine gk_aaload (t := 0) dX7_lose_17 rfl h.1 (by rw [hj01]; rfl) ?_
      replace h := h.2
      try rw [hj01] at h
      refine gk_geti dX7_lose_18 rfl rfl wfX7_142 ?_
      refine gk_nmi (fun v3_21_1 ev3_21_1 => ?_)
      replace h := h v3_21_1 ev3_21_1
      refine gk_istore_n dX7_lose_21 (Nat.le_of_ble_eq_true rfl) rfl rfl ?_
      refine gk_aload_n dX7_lose_22 rfl ?_
      refine gk_getr dX7_lose_23 rfl rfl wfX7_53 ?_
      refine gk_iload_n dX7_lose_26 rfl ?_
      refine gk_aaload (t := 0) dX7_lose_27 rfl h.1 (by rw [hj01]; rfl) ?_
      replace h := h.2
      try rw [hj01] at h
      refine gk_iconst (v := (-1)) dX7_lose_28 rfl ?_
      refine gk_puti dX7_lose_29 rfl rfl wfX7_142 wpX5_2 rfl rfl ?_
      refine gk_nmS (fun S29_1 eS29_1 => ?_)
      replace h := h S29_1 eS29_1
      refine gk_iload_n dX7_lose_32 rfl ?_
      exact gk_iret dX7_lose_33 rfl rfl rfl rfl ⟨rfl, _, rfl, h⟩
    · refine gk_aaload (t := 0) dX7_lose_17 rfl h.1 (by rw [hj02]; rfl) ?_
      replace h := h.2
      try rw [hj02] at h
      refine gk_geti dX7_lose_18 rfl rfl wfX7_142 ?_
      refine gk_nmi (fun v3_21_2 ev3_21_2 => ?_)
      replace h := h v3_21_2 ev3_21_2
      refine gk_istore_n dX7_lose_21 (Nat.le_of_ble_eq_true rfl) rfl rfl ?_
      refine gk_aload_n dX7_lose_22 rfl ?_
      refine gk_getr dX7_lose_23 rfl rfl wfX7_53 ?_
      refine gk_iload_n dX7_lose_26 rfl ?_
      refine gk_aaload (t := 0) dX7_lose_27 rfl h.1 (by rw [hj02]; rfl) ?_
      replace h := h.2
      try rw [hj02] at h
      refine gk_iconst (v := (-1)) dX7_lose_28 rfl ?_
      refine gk_puti dX7_lose_29 rfl rfl wfX7_142 wpX5_2 rfl rfl ?_
      refine gk_nmS (fun S29_2 eS29_2 => ?_)
      replace h := h S29_2 eS29_2
      refine gk_iload_n dX7_lose_32 rfl ?_
      exact gk_iret dX7_lose_33 rfl rfl rfl rfl ⟨rfl, _, rfl, h⟩
    · refine gk_aaload (t := 0) dX7_lose_17 rfl h.1 (by rw [hj03]; rfl) ?_
      replace h := h.2
      try rw [hj03] at h
      refine gk_geti dX7_lose_18 rfl rfl wfX7_142 ?_
      refine gk_nmi (fun v3_21_3 ev3_21_3 => ?_)
      replace h := h v3_21_3 ev3_21_3
      refine gk_istore_n dX7_lose_21 (Nat.le_of_ble_eq_true rfl) rfl rfl ?_
      refine gk_aload_n dX7_lose_22 rfl ?_
      refine gk_getr dX7_lose_23 rfl rfl wfX7_53 ?_
      refine gk_iload_n dX7_lose_26 rfl ?_
      refine gk_aaload (t := 0) dX7_lose_27 rfl h.1 (by rw [hj03]; rfl) ?_
      replace h := h.2
      try rw [hj03] at h
      refine gk_iconst (v := (-1)) dX7_lose_28 rfl ?_
      refine gk_puti dX7_lose_29 rfl rfl wfX7_142 wpX5_2 rfl rfl ?_
      refine gk_nmS (fun S29_3 eS29_3 => ?_)
      replace h := h S29_3 eS29_3
      refine gk_iload_n dX7_lose_32 rfl ?_
      exact gk_iret dX7_lose_33 rfl rfl rfl rfl ⟨rfl, _, rfl, h⟩
  · replace h := h.2 c7
    refine gk_iload_n dX7_lose_10 rfl ?_
    exact gk_iret dX7_lose_11 rfl rfl rfl rfl ⟨rfl, _, rfl, h⟩
set_option maxHeartbeats 4000000 in
set_option maxRecDepth 100000 in
theorem ctX8_lose {E : gz_E} {x1 : Int32} {S : gz_S} {Q : Int32 → gz_S → Prop} (h : wX8_lose x1 S Q) : gz_m E mX8_lose 3 0 0 [.ref 45, .int x1] gz_F S (gz_qi Q) := by
  refine gz_meet0 (L0 := [some (.ref 45), some (.int x1)]) (by decide) rfl (Nat.le_of_ble_eq_true rfl) (by decide) ?_
  unfold wX8_lose at h
  refine gk_iload_n dX8_lose_0 rfl ?_
  refine gk_callS (as := [_]) (rest := []) (ctX8_isSheet h) dX8_lose_1 wvX8_102 wcX8_isSheet rfl (Nat.le_of_ble_eq_true rfl) ⟨Nat.le_refl _, Nat.le_refl _⟩ (fun h9 => absurd rfl h9) (Nat.le_of_ble_eq_true rfl) rfl (fun v G2 S1 hq => ?_)
  obtain ⟨rfl, r1, rfl, h⟩ := hq
  refine gk_if_ne (tgt := 10) dX8_lose_4 (by decide) (fun c4 => ?_) (fun c4 => ?_)
  · replace h := h.1 c4
    refine gk_aload_n dX8_lose_10 rfl ?_
    refine gk_getr dX8_lose_11 rfl rfl wfX8_7 ?_
    refine gk_iload_n dX8_lose_14 rfl ?_
    refine gk_iaload dX8_lose_15 rfl h.1 ?_
    replace h := h.2
    refine gk_if_ge (tgt := 25) dX8_lose_16 (by decide) (fun c16 => ?_) (fun c16 => ?_)
    · replace h := h.1 c16
      refine gk_aload_n dX8_lose_25 rfl ?_
      refine gk_getr dX8_lose_26 rfl rfl wfX8_7 ?_
      refine gk_iload_n dX8_lose_29 rfl ?_
      refine gk_iconst (v := (-1)) dX8_lose_30 rfl ?_
      refine gk_iastore dX8_lose_31 rfl h.1 ?_
      replace h := h.2
      refine gk_nmS (fun S31 eS31 => ?_)
      replace h := h S31 eS31
      refine gk_aload_n dX8_lose_32 rfl ?_
      refine gk_getr dX8_lose_33 rfl rfl wfX8_13 ?_
      refine gk_iload_n dX8_lose_36 rfl ?_
      refine gk_iaload dX8_lose_37 rfl h.1 ?_
      replace h := h.2
      exact gk_iret dX8_lose_38 rfl rfl rfl rfl ⟨rfl, _, rfl, h⟩
    · replace h := h.2 c16
      refine gk_aload_n dX8_lose_19 rfl ?_
      refine gk_iconst (v := 1) dX8_lose_20 rfl ?_
      refine gk_callV (as := [_]) (rest := []) (ctX8_met h) dX8_lose_21 rfl rfl wvX8_108 wcX8_met rfl (Nat.le_of_ble_eq_true rfl) ⟨Nat.le_refl _, Nat.le_refl _⟩ (fun h9 => absurd rfl h9) (Nat.le_of_ble_eq_true rfl) rfl (fun v G2 S21 hq => ?_)
      obtain ⟨rfl, r21, rfl, h⟩ := hq
      exact gk_iret dX8_lose_24 rfl rfl rfl rfl ⟨rfl, _, rfl, h⟩
  · replace h := h.2 c4
    refine gk_bipush (v := (-2)) dX8_lose_7 rfl ?_
    exact gk_iret dX8_lose_9 rfl rfl rfl rfl ⟨rfl, _, rfl, h⟩
set_option maxHeartbeats 4000000 in
set_option maxRecDepth 100000 in
theorem ctX7_refusalOfItem {E : gz_E} {x1 : Int32} {x2 : Int32} {x3 : Int32} {S : gz_S} {Q : Int32 → gz_S → Prop} (h : wX7_refusalOfItem x1 x2 x3 S Q) : gz_m E mX7_refusalOfItem 2 0 0 [.ref 0, .int x1, .int x2, .int x3] gz_F S (gz_qi Q) := by
  refine gz_meet0 (L0 := [some (.ref 0), some (.int x1), some (.int x2), some (.int x3)]) (by decide) rfl (Nat.le_of_ble_eq_true rfl) (by decide) ?_
  unfold wX7_refusalOfItem at h
  refine gk_iload_n dX7_refusalOfItem_0 rfl ?_
  refine gk_iconst (v := 0) dX7_refusalOfItem_1 rfl ?_
  refine gk_iconst (v := 3) dX7_refusalOfItem_2 rfl ?_
  refine gk_callS (as := [_, _, _]) (rest := []) (ctX7_within h) dX7_refusalOfItem_3 wvX7_62 wcX7_within rfl (Nat.le_of_ble_eq_true rfl) ⟨Nat.le_refl _, Nat.le_refl _⟩ (fun h9 => absurd rfl h9) (Nat.le_of_ble_eq_true rfl) rfl (fun v G2 S3 hq => ?_)
  obtain ⟨rfl, r3, rfl, h⟩ := hq
  refine gk_if_eq (tgt := 18) dX7_refusalOfItem_6 (by decide) (fun c6 => ?_) (fun c6 => ?_)
  · replace h := h.1 c6
    refine gk_bipush (v := (-2)) dX7_refusalOfItem_18 rfl ?_
    exact gk_iret dX7_refusalOfItem_20 rfl rfl rfl rfl ⟨rfl, _, rfl, h⟩
  · replace h := h.2 c6
    refine gk_iload_n dX7_refusalOfItem_9 rfl ?_
    refine gk_iconst (v := 0) dX7_refusalOfItem_10 rfl ?_
    refine gk_iconst (v := 2) dX7_refusalOfItem_11 rfl ?_
    refine gk_callS (as := [_, _, _]) (rest := []) (ctX7_within h) dX7_refusalOfItem_12 wvX7_62 wcX7_within rfl (Nat.le_of_ble_eq_true rfl) ⟨Nat.le_refl _, Nat.le_refl _⟩ (fun h9 => absurd rfl h9) (Nat.le_of_ble_eq_true rfl) rfl (fun v G2 S12 hq => ?_)
    obtain ⟨rfl, r12, rfl, h⟩ := hq
    refine gk_if_ne (tgt := 21) dX7_refusalOfItem_15 (by decide) (fun c15 => ?_) (fun c15 => ?_)
    · replace h := h.1 c15
      refine gk_aload_n dX7_refusalOfItem_21 rfl ?_
      refine gk_getr dX7_refusalOfItem_22 rfl rfl wfX7_53 ?_
      refine gk_iload_n dX7_refusalOfItem_25 rfl ?_
      rcases gz_four h.1 with hj00 | hj01 | hj02 | hj03
      · refine gk_aaload (t := 0) dX7_refusalOfItem_26 rfl h.1 (by rw [hj00]; rfl) ?_
        replace h := h.2
        try rw [hj00] at h
        refine gk_callV (as := []) (rest := []) (ctX5_isLost_37 h) dX7_refusalOfItem_27 rfl rfl wvX7_233 wcX5_isLost rfl (Nat.le_of_ble_eq_true rfl) ⟨Nat.le_refl _, Nat.le_refl _⟩ (fun h9 => absurd rfl h9) (Nat.le_of_ble_eq_true rfl) rfl (fun v G2 S27 hq => ?_)
        obtain ⟨rfl, r27, rfl, h⟩ := hq
        refine gk_if_eq (tgt := 39) dX7_refusalOfItem_30 (by decide) (fun c30 => ?_) (fun c30 => ?_)
        · replace h := h.1 c30
          refine gk_aload_n dX7_refusalOfItem_39 rfl ?_
          refine gk_getr dX7_refusalOfItem_40 rfl rfl wfX7_53 ?_
          refine gk_iload_n dX7_refusalOfItem_43 rfl ?_
          refine gk_aaload (t := 0) dX7_refusalOfItem_44 rfl h.1 (by rw [hj00]; rfl) ?_
          replace h := h.2
          try rw [hj00] at h
          refine gk_geti dX7_refusalOfItem_45 rfl rfl wfX7_236 ?_
          refine gk_iload_n dX7_refusalOfItem_48 rfl ?_
          refine gk_icmp_eq (tgt := 58) dX7_refusalOfItem_49 (by decide) (fun c49 => ?_) (fun c49 => ?_)
          · replace h := h.1 c49
            refine gk_iload_n dX7_refusalOfItem_58 rfl ?_
            refine gk_iconst (v := 0) dX7_refusalOfItem_59 rfl ?_
            refine gk_aload_n dX7_refusalOfItem_60 rfl ?_
            refine gk_getr dX7_refusalOfItem_61 rfl rfl wfX7_53 ?_
            refine gk_iload_n dX7_refusalOfItem_64 rfl ?_
            refine gk_aaload (t := 0) dX7_refusalOfItem_65 rfl h.1 (by rw [hj00]; rfl) ?_
            replace h := h.2
            try rw [hj00] at h
            refine gk_geti dX7_refusalOfItem_66 rfl rfl wfX7_142 ?_
            refine gk_iconst (v := 1) dX7_refusalOfItem_69 rfl ?_
            refine gk_isub dX7_refusalOfItem_70 ?_
            refine gk_callS (as := [_, _, _]) (rest := []) (ctX7_within h) dX7_refusalOfItem_71 wvX7_62 wcX7_within rfl (Nat.le_of_ble_eq_true rfl) ⟨Nat.le_refl _, Nat.le_refl _⟩ (fun h9 => absurd rfl h9) (Nat.le_of_ble_eq_true rfl) rfl (fun v G2 S71 hq => ?_)
            obtain ⟨rfl, r71, rfl, h⟩ := hq
            refine gk_if_eq (tgt := 81) dX7_refusalOfItem_74 (by decide) (fun c74 => ?_) (fun c74 => ?_)
            · replace h := h.1 c74
              refine gk_aload_n dX7_refusalOfItem_81 rfl ?_
              refine gk_iconst (v := 2) dX7_refusalOfItem_82 rfl ?_
              refine gk_callV (as := [_]) (rest := []) (ctX7_found h) dX7_refusalOfItem_83 rfl rfl wvX7_218 wcX7_found rfl (Nat.le_of_ble_eq_true rfl) ⟨Nat.le_refl _, Nat.le_refl _⟩ (fun h9 => absurd rfl h9) (Nat.le_of_ble_eq_true rfl) rfl (fun v G2 S83 hq => ?_)
              obtain ⟨rfl, r83, rfl, h⟩ := hq
              exact gk_iret dX7_refusalOfItem_86 rfl rfl rfl rfl ⟨rfl, _, rfl, h⟩
            · replace h := h.2 c74
              refine gk_iconst (v := 0) dX7_refusalOfItem_77 rfl ?_
              refine gk_goto (tgt := 86) dX7_refusalOfItem_78 (by decide) ?_
              exact gk_iret dX7_refusalOfItem_86 rfl rfl rfl rfl ⟨rfl, _, rfl, h⟩
          · replace h := h.2 c49
            refine gk_aload_n dX7_refusalOfItem_52 rfl ?_
            refine gk_iconst (v := 3) dX7_refusalOfItem_53 rfl ?_
            refine gk_callV (as := [_]) (rest := []) (ctX7_found h) dX7_refusalOfItem_54 rfl rfl wvX7_218 wcX7_found rfl (Nat.le_of_ble_eq_true rfl) ⟨Nat.le_refl _, Nat.le_refl _⟩ (fun h9 => absurd rfl h9) (Nat.le_of_ble_eq_true rfl) rfl (fun v G2 S54 hq => ?_)
            obtain ⟨rfl, r54, rfl, h⟩ := hq
            exact gk_iret dX7_refusalOfItem_57 rfl rfl rfl rfl ⟨rfl, _, rfl, h⟩
        · replace h := h.2 c30
          refine gk_aload_n dX7_refusalOfItem_33 rfl ?_
          refine gk_iconst (v := 1) dX7_refusalOfItem_34 rfl ?_
          refine gk_callV (as := [_]) (rest := []) (ctX7_found h) dX7_refusalOfItem_35 rfl rfl wvX7_218 wcX7_found rfl (Nat.le_of_ble_eq_true rfl) ⟨Nat.le_refl _, Nat.le_refl _⟩ (fun h9 => absurd rfl h9) (Nat.le_of_ble_eq_true rfl) rfl (fun v G2 S35 hq => ?_)
          obtain ⟨rfl, r35, rfl, h⟩ := hq
          exact gk_iret dX7_refusalOfItem_38 rfl rfl rfl rfl ⟨rfl, _, rfl, h⟩
      · refine gk_aaload (t := 0) dX7_refusalOfItem_26 rfl h.1 (by rw [hj01]; rfl) ?_
        replace h := h.2
        try rw [hj01] at h
        refine gk_callV (as := []) (rest := []) (ctX5_isLost_39 h) dX7_refusalOfItem_27 rfl rfl wvX7_233 wcX5_isLost rfl (Nat.le_of_ble_eq_true rfl) ⟨Nat.le_refl _, Nat.le_refl _⟩ (fun h9 => absurd rfl h9) (Nat.le_of_ble_eq_true rfl) rfl (fun v G2 S27_1 hq => ?_)
        obtain ⟨rfl, r27_1, rfl, h⟩ := hq
        refine gk_if_eq (tgt := 39) dX7_refusalOfItem_30 (by decide) (fun c30 => ?_) (fun c30 => ?_)
        · replace h := h.1 c30
          refine gk_aload_n dX7_refusalOfItem_39 rfl ?_
          refine gk_getr dX7_refusalOfItem_40 rfl rfl wfX7_53 ?_
          refine gk_iload_n dX7_refusalOfItem_43 rfl ?_
          refine gk_aaload (t := 0) dX7_refusalOfItem_44 rfl h.1 (by rw [hj01]; rfl) ?_
          replace h := h.2
          try rw [hj01] at h
          refine gk_geti dX7_refusalOfItem_45 rfl rfl wfX7_236 ?_
          refine gk_iload_n dX7_refusalOfItem_48 rfl ?_
          refine gk_icmp_eq (tgt := 58) dX7_refusalOfItem_49 (by decide) (fun c49 => ?_) (fun c49 => ?_)
          · replace h := h.1 c49
            refine gk_iload_n dX7_refusalOfItem_58 rfl ?_
            refine gk_iconst (v := 0) dX7_refusalOfItem_59 rfl ?_
            refine gk_aload_n dX7_refusalOfItem_60 rfl ?_
            refine gk_getr dX7_refusalOfItem_61 rfl rfl wfX7_53 ?_
            refine gk_iload_n dX7_refusalOfItem_64 rfl ?_
            refine gk_aaload (t := 0) dX7_refusalOfItem_65 rfl h.1 (by rw [hj01]; rfl) ?_
            replace h := h.2
            try rw [hj01] at h
            refine gk_geti dX7_refusalOfItem_66 rfl rfl wfX7_142 ?_
            refine gk_iconst (v := 1) dX7_refusalOfItem_69 rfl ?_
            refine gk_isub dX7_refusalOfItem_70 ?_
            refine gk_callS (as := [_, _, _]) (rest := []) (ctX7_within h) dX7_refusalOfItem_71 wvX7_62 wcX7_within rfl (Nat.le_of_ble_eq_true rfl) ⟨Nat.le_refl _, Nat.le_refl _⟩ (fun h9 => absurd rfl h9) (Nat.le_of_ble_eq_true rfl) rfl (fun v G2 S71_1 hq => ?_)
            obtain ⟨rfl, r71_1, rfl, h⟩ := hq
            refine gk_if_eq (tgt := 81) dX7_refusalOfItem_74 (by decide) (fun c74 => ?_) (fun c74 => ?_)
            · replace h := h.1 c74
              refine gk_aload_n dX7_refusalOfItem_81 rfl ?_
              refine gk_iconst (v := 2) dX7_refusalOfItem_82 rfl ?_
              refine gk_callV (as := [_]) (rest := []) (ctX7_found h) dX7_refusalOfItem_83 rfl rfl wvX7_218 wcX7_found rfl (Nat.le_of_ble_eq_true rfl) ⟨Nat.le_refl _, Nat.le_refl _⟩ (fun h9 => absurd rfl h9) (Nat.le_of_ble_eq_true rfl) rfl (fun v G2 S83_1 hq => ?_)
              obtain ⟨rfl, r83_1, rfl, h⟩ := hq
              exact gk_iret dX7_refusalOfItem_86 rfl rfl rfl rfl ⟨rfl, _, rfl, h⟩
            · replace h := h.2 c74
              refine gk_iconst (v := 0) dX7_refusalOfItem_77 rfl ?_
              refine gk_goto (tgt := 86) dX7_refusalOfItem_78 (by decide) ?_
              exact gk_iret dX7_refusalOfItem_86 rfl rfl rfl rfl ⟨rfl, _, rfl, h⟩
          · replace h := h.2 c49
            refine gk_aload_n dX7_refusalOfItem_52 rfl ?_
            refine gk_iconst (v := 3) dX7_refusalOfItem_53 rfl ?_
            refine gk_callV (as := [_]) (rest := []) (ctX7_found h) dX7_refusalOfItem_54 rfl rfl wvX7_218 wcX7_found rfl (Nat.le_of_ble_eq_true rfl) ⟨Nat.le_refl _, Nat.le_refl _⟩ (fun h9 => absurd rfl h9) (Nat.le_of_ble_eq_true rfl) rfl (fun v G2 S54_1 hq => ?_)
            obtain ⟨rfl, r54_1, rfl, h⟩ := hq
            exact gk_iret dX7_refusalOfItem_57 rfl rfl rfl rfl ⟨rfl, _, rfl, h⟩
        · replace h := h.2 c30
          refine gk_aload_n dX7_refusalOfItem_33 rfl ?_
          refine gk_iconst (v := 1) dX7_refusalOfItem_34 rfl ?_
          refine gk_callV (as := [_]) (rest := []) (ctX7_found h) dX7_refusalOfItem_35 rfl rfl wvX7_218 wcX7_found rfl (Nat.le_of_ble_eq_true rfl) ⟨Nat.le_refl _, Nat.le_refl _⟩ (fun h9 => absurd rfl h9) (Nat.le_of_ble_eq_true rfl) rfl (fun v G2 S35_1 hq => ?_)
          obtain ⟨rfl, r35_1, rfl, h⟩ := hq
          exact gk_iret dX7_refusalOfItem_38 rfl rfl rfl rfl ⟨rfl, _, rfl, h⟩
      · refine gk_aaload (t := 0) dX7_refusalOfItem_26 rfl h.1 (by rw [hj02]; rfl) ?_
        replace h := h.2
        try rw [hj02] at h
        refine gk_callV (as := []) (rest := []) (ctX5_isLost_41 h) dX7_refusalOfItem_27 rfl rfl wvX7_233 wcX5_isLost rfl (Nat.le_of_ble_eq_true rfl) ⟨Nat.le_refl _, Nat.le_refl _⟩ (fun h9 => absurd rfl h9) (Nat.le_of_ble_eq_true rfl) rfl (fun v G2 S27_2 hq => ?_)
        obtain ⟨rfl, r27_2, rfl, h⟩ := hq
        refine gk_if_eq (tgt := 39) dX7_refusalOfItem_30 (by decide) (fun c30 => ?_) (fun c30 => ?_)
        · replace h := h.1 c30
          refine gk_aload_n dX7_refusalOfItem_39 rfl ?_
          refine gk_getr dX7_refusalOfItem_40 rfl rfl wfX7_53 ?_
          refine gk_iload_n dX7_refusalOfItem_43 rfl ?_
          refine gk_aaload (t := 0) dX7_refusalOfItem_44 rfl h.1 (by rw [hj02]; rfl) ?_
          replace h := h.2
          try rw [hj02] at h
          refine gk_geti dX7_refusalOfItem_45 rfl rfl wfX7_236 ?_
          refine gk_iload_n dX7_refusalOfItem_48 rfl ?_
          refine gk_icmp_eq (tgt := 58) dX7_refusalOfItem_49 (by decide) (fun c49 => ?_) (fun c49 => ?_)
          · replace h := h.1 c49
            refine gk_iload_n dX7_refusalOfItem_58 rfl ?_
            refine gk_iconst (v := 0) dX7_refusalOfItem_59 rfl ?_
            refine gk_aload_n dX7_refusalOfItem_60 rfl ?_
            refine gk_getr dX7_refusalOfItem_61 rfl rfl wfX7_53 ?_
            refine gk_iload_n dX7_refusalOfItem_64 rfl ?_
            refine gk_aaload (t := 0) dX7_refusalOfItem_65 rfl h.1 (by rw [hj02]; rfl) ?_
            replace h := h.2
            try rw [hj02] at h
            refine gk_geti dX7_refusalOfItem_66 rfl rfl wfX7_142 ?_
            refine gk_iconst (v := 1) dX7_refusalOfItem_69 rfl ?_
            refine gk_isub dX7_refusalOfItem_70 ?_
            refine gk_callS (as := [_, _, _]) (rest := []) (ctX7_within h) dX7_refusalOfItem_71 wvX7_62 wcX7_within rfl (Nat.le_of_ble_eq_true rfl) ⟨Nat.le_refl _, Nat.le_refl _⟩ (fun h9 => absurd rfl h9) (Nat.le_of_ble_eq_true rfl) rfl (fun v G2 S71_2 hq => ?_)
            obtain ⟨rfl, r71_2, rfl, h⟩ := hq
            refine gk_if_eq (tgt := 81) dX7_refusalOfItem_74 (by decide) (fun c74 => ?_) (fun c74 => ?_)
            · replace h := h.1 c74
              refine gk_aload_n dX7_refusalOfItem_81 rfl ?_
              refine gk_iconst (v := 2) dX7_refusalOfItem_82 rfl ?_
              refine gk_callV (as := [_]) (rest := []) (ctX7_found h) dX7_refusalOfItem_83 rfl rfl wvX7_218 wcX7_found rfl (Nat.le_of_ble_eq_true rfl) ⟨Nat.le_refl _, Nat.le_refl _⟩ (fun h9 => absurd rfl h9) (Nat.le_of_ble_eq_true rfl) rfl (fun v G2 S83_2 hq => ?_)
              obtain ⟨rfl, r83_2, rfl, h⟩ := hq
              exact gk_iret dX7_refusalOfItem_86 rfl rfl rfl rfl ⟨rfl, _, rfl, h⟩
            · replace h := h.2 c74
              refine gk_iconst (v := 0) dX7_refusalOfItem_77 rfl ?_
              refine gk_goto (tgt := 86) dX7_refusalOfItem_78 (by decide) ?_
              exact gk_iret dX7_refusalOfItem_86 rfl rfl rfl rfl ⟨rfl, _, rfl, h⟩
          · replace h := h.2 c49
            refine gk_aload_n dX7_refusalOfItem_52 rfl ?_
            refine gk_iconst (v := 3) dX7_refusalOfItem_53 rfl ?_
            refine gk_callV (as := [_]) (rest := []) (ctX7_found h) dX7_refusalOfItem_54 rfl rfl wvX7_218 wcX7_found rfl (Nat.le_of_ble_eq_true rfl) ⟨Nat.le_refl _, Nat.le_refl _⟩ (fun h9 => absurd rfl h9) (Nat.le_of_ble_eq_true rfl) rfl (fun v G2 S54_2 hq => ?_)
            obtain ⟨rfl, r54_2, rfl, h⟩ := hq
            exact gk_iret dX7_refusalOfItem_57 rfl rfl rfl rfl ⟨rfl, _, rfl, h⟩
        · replace h := h.2 c30
          refine gk_aload_n dX7_refusalOfItem_33 rfl ?_
          refine gk_iconst (v := 1) dX7_refusalOfItem_34 rfl ?_
          refine gk_callV (as := [_]) (rest := []) (ctX7_found h) dX7_refusalOfItem_35 rfl rfl wvX7_218 wcX7_found rfl (Nat.le_of_ble_eq_true rfl) ⟨Nat.le_refl _, Nat.le_refl _⟩ (fun h9 => absurd rfl h9) (Nat.le_of_ble_eq_true rfl) rfl (fun v G2 S35_2 hq => ?_)
          obtain ⟨rfl, r35_2, rfl, h⟩ := hq
          exact gk_iret dX7_refusalOfItem_38 rfl rfl rfl rfl ⟨rfl, _, rfl, h⟩
      · refine gk_aaload (t := 0) dX7_refusalOfItem_26 rfl h.1 (by rw [hj03]; rfl) ?_
        replace h := h.2
        try rw [hj03] at h
        refine gk_callV (as := []) (rest := []) (ctX5_isLost_43 h) dX7_refusalOfItem_27 rfl rfl wvX7_233 wcX5_isLost rfl (Nat.le_of_ble_eq_true rfl) ⟨Nat.le_refl _, Nat.le_refl _⟩ (fun h9 => absurd rfl h9) (Nat.le_of_ble_eq_true rfl) rfl (fun v G2 S27_3 hq => ?_)
        obtain ⟨rfl, r27_3, rfl, h⟩ := hq
        refine gk_if_eq (tgt := 39) dX7_refusalOfItem_30 (by decide) (fun c30 => ?_) (fun c30 => ?_)
        · replace h := h.1 c30
          refine gk_aload_n dX7_refusalOfItem_39 rfl ?_
          refine gk_getr dX7_refusalOfItem_40 rfl rfl wfX7_53 ?_
          refine gk_iload_n dX7_refusalOfItem_43 rfl ?_
          refine gk_aaload (t := 0) dX7_refusalOfItem_44 rfl h.1 (by rw [hj03]; rfl) ?_
          replace h := h.2
          try rw [hj03] at h
          refine gk_geti dX7_refusalOfItem_45 rfl rfl wfX7_236 ?_
          refine gk_iload_n dX7_refusalOfItem_48 rfl ?_
          refine gk_icmp_eq (tgt := 58) dX7_refusalOfItem_49 (by decide) (fun c49 => ?_) (fun c49 => ?_)
          · replace h := h.1 c49
            refine gk_iload_n dX7_refusalOfItem_58 rfl ?_
            refine gk_iconst (v := 0) dX7_refusalOfItem_59 rfl ?_
            refine gk_aload_n dX7_refusalOfItem_60 rfl ?_
            refine gk_getr dX7_refusalOfItem_61 rfl rfl wfX7_53 ?_
            refine gk_iload_n dX7_refusalOfItem_64 rfl ?_
            refine gk_aaload (t := 0) dX7_refusalOfItem_65 rfl h.1 (by rw [hj03]; rfl) ?_
            replace h := h.2
            try rw [hj03] at h
            refine gk_geti dX7_refusalOfItem_66 rfl rfl wfX7_142 ?_
            refine gk_iconst (v := 1) dX7_refusalOfItem_69 rfl ?_
            refine gk_isub dX7_refusalOfItem_70 ?_
            refine gk_callS (as := [_, _, _]) (rest := []) (ctX7_within h) dX7_refusalOfItem_71 wvX7_62 wcX7_within rfl (Nat.le_of_ble_eq_true rfl) ⟨Nat.le_refl _, Nat.le_refl _⟩ (fun h9 => absurd rfl h9) (Nat.le_of_ble_eq_true rfl) rfl (fun v G2 S71_3 hq => ?_)
            obtain ⟨rfl, r71_3, rfl, h⟩ := hq
            refine gk_if_eq (tgt := 81) dX7_refusalOfItem_74 (by decide) (fun c74 => ?_) (fun c74 => ?_)
            · replace h := h.1 c74
              refine gk_aload_n dX7_refusalOfItem_81 rfl ?_
              refine gk_iconst (v := 2) dX7_refusalOfItem_82 rfl ?_
              refine gk_callV (as := [_]) (rest := []) (ctX7_found h) dX7_refusalOfItem_83 rfl rfl wvX7_218 wcX7_found rfl (Nat.le_of_ble_eq_true rfl) ⟨Nat.le_refl _, Nat.le_refl _⟩ (fun h9 => absurd rfl h9) (Nat.le_of_ble_eq_true rfl) rfl (fun v G2 S83_3 hq => ?_)
              obtain ⟨rfl, r83_3, rfl, h⟩ := hq
              exact gk_iret dX7_refusalOfItem_86 rfl rfl rfl rfl ⟨rfl, _, rfl, h⟩
            · replace h := h.2 c74
              refine gk_iconst (v := 0) dX7_refusalOfItem_77 rfl ?_
              refine gk_goto (tgt := 86) dX7_refusalOfItem_78 (by decide) ?_
              exact gk_iret dX7_refusalOfItem_86 rfl rfl rfl rfl ⟨rfl, _, rfl, h⟩
          · replace h := h.2 c49
            refine gk_aload_n dX7_refusalOfItem_52 rfl ?_
            refine gk_iconst (v := 3) dX7_refusalOfItem_53 rfl ?_
            refine gk_callV (as := [_]) (rest := []) (ctX7_found h) dX7_refusalOfItem_54 rfl rfl wvX7_218 wcX7_found rfl (Nat.le_of_ble_eq_true rfl) ⟨Nat.le_refl _, Nat.le_refl _⟩ (fun h9 => absurd rfl h9) (Nat.le_of_ble_eq_true rfl) rfl (fun v G2 S54_3 hq => ?_)
            obtain ⟨rfl, r54_3, rfl, h⟩ := hq
            exact gk_iret dX7_refusalOfItem_57 rfl rfl rfl rfl ⟨rfl, _, rfl, h⟩
        · replace h := h.2 c30
          refine gk_aload_n dX7_refusalOfItem_33 rfl ?_
          refine gk_iconst (v := 1) dX7_refusalOfItem_34 rfl ?_
          refine gk_callV (as := [_]) (rest := []) (ctX7_found h) dX7_refusalOfItem_35 rfl rfl wvX7_218 wcX7_found rfl (Nat.le_of_ble_eq_true rfl) ⟨Nat.le_refl _, Nat.le_refl _⟩ (fun h9 => absurd rfl h9) (Nat.le_of_ble_eq_true rfl) rfl (fun v G2 S35_3 hq => ?_)
          obtain ⟨rfl, r35_3, rfl, h⟩ := hq
          exact gk_iret dX7_refusalOfItem_38 rfl rfl rfl rfl ⟨rfl, _, rfl, h⟩
    · replace h := h.2 c15
      refine gk_bipush (v := (-2)) dX7_refusalOfItem_18 rfl ?_
      exact gk_iret dX7_refusalOfItem_20 rfl rfl rfl rfl ⟨rfl, _, rfl, h⟩
set_option maxHeartbeats 4000000 in
set_option maxRecDepth 100000 in
theorem ctX5_put_37 {E : gz_E} {x1 : Int32} {x2 : Int32} {S : gz_S} {Q : gz_S → Prop} (h : wX5_put 37 x1 x2 S Q) : gz_m E mX5_put 1 0 0 [.ref 37, .int x1, .int x2] gz_F S (gz_qv Q) := by
  refine gz_meet0 (L0 := [some (.ref 37), some (.int x1), some (.int x2)]) (by decide) rfl (Nat.le_of_ble_eq_true rfl) (by decide) ?_
  unfold wX5_put at h
  refine gk_aload_n dX5_put_0 rfl ?_
  refine gk_geti dX5_put_1 rfl rfl wfX5_15 ?_
  refine gk_if_ne (tgt := 18) dX5_put_4 (by decide) (fun c4 => ?_) (fun c4 => ?_)
  · replace h := h.1 c4
    refine gk_aload_n dX5_put_18 rfl ?_
    refine gk_geti dX5_put_19 rfl rfl wfX5_15 ?_
    refine gk_iconst (v := 1) dX5_put_22 rfl ?_
    refine gk_icmp_ne (tgt := 37) dX5_put_23 (by decide) (fun c23 => ?_) (fun c23 => ?_)
    · replace h := h.1 c23
      refine gk_aload_n dX5_put_37 rfl ?_
      refine gk_getr dX5_put_38 rfl rfl wfX5_9 ?_
      refine gk_iload_n dX5_put_41 rfl ?_
      refine gk_iload_n dX5_put_42 rfl ?_
      refine gk_iastore dX5_put_43 rfl h.1 ?_
      replace h := h.2
      refine gk_nmS (fun S43 eS43 => ?_)
      replace h := h S43 eS43
      exact gk_vret dX5_put_44 rfl rfl rfl ⟨rfl, rfl, h⟩
    · replace h := h.2 c23
      refine gk_aload_n dX5_put_26 rfl ?_
      refine gk_getr dX5_put_27 rfl rfl wfX5_9 ?_
      refine gk_iload_n dX5_put_30 rfl ?_
      refine gk_iload_n dX5_put_31 rfl ?_
      refine gk_i2s dX5_put_32 ?_
      refine gk_iastore dX5_put_33 rfl h.1 ?_
      replace h := h.2
      refine gk_nmS (fun S33 eS33 => ?_)
      replace h := h S33 eS33
      refine gk_goto (tgt := 44) dX5_put_34 (by decide) ?_
      exact gk_vret dX5_put_44 rfl rfl rfl ⟨rfl, rfl, h⟩
  · replace h := h.2 c4
    refine gk_aload_n dX5_put_7 rfl ?_
    refine gk_getr dX5_put_8 rfl rfl wfX5_9 ?_
    refine gk_iload_n dX5_put_11 rfl ?_
    refine gk_iload_n dX5_put_12 rfl ?_
    refine gk_i2b dX5_put_13 ?_
    refine gk_iastore dX5_put_14 rfl h.1 ?_
    replace h := h.2
    refine gk_nmS (fun S14 eS14 => ?_)
    replace h := h S14 eS14
    refine gk_goto (tgt := 44) dX5_put_15 (by decide) ?_
    exact gk_vret dX5_put_44 rfl rfl rfl ⟨rfl, rfl, h⟩
set_option maxHeartbeats 4000000 in
set_option maxRecDepth 100000 in
theorem ctX5_put_39 {E : gz_E} {x1 : Int32} {x2 : Int32} {S : gz_S} {Q : gz_S → Prop} (h : wX5_put 39 x1 x2 S Q) : gz_m E mX5_put 1 0 0 [.ref 39, .int x1, .int x2] gz_F S (gz_qv Q) := by
  refine gz_meet0 (L0 := [some (.ref 39), some (.int x1), some (.int x2)]) (by decide) rfl (Nat.le_of_ble_eq_true rfl) (by decide) ?_
  unfold wX5_put at h
  refine gk_aload_n dX5_put_0 rfl ?_
  refine gk_geti dX5_put_1 rfl rfl wfX5_15 ?_
  refine gk_if_ne (tgt := 18) dX5_put_4 (by decide) (fun c4 => ?_) (fun c4 => ?_)
  · replace h := h.1 c4
    refine gk_aload_n dX5_put_18 rfl ?_
    refine gk_geti dX5_put_19 rfl rfl wfX5_15 ?_
    refine gk_iconst (v := 1) dX5_put_22 rfl ?_
    refine gk_icmp_ne (tgt := 37) dX5_put_23 (by decide) (fun c23 => ?_) (fun c23 => ?_)
    · replace h := h.1 c23
      refine gk_aload_n dX5_put_37 rfl ?_
      refine gk_getr dX5_put_38 rfl rfl wfX5_9 ?_
      refine gk_iload_n dX5_put_41 rfl ?_
      refine gk_iload_n dX5_put_42 rfl ?_
      refine gk_iastore dX5_put_43 rfl h.1 ?_
      replace h := h.2
      refine gk_nmS (fun S43 eS43 => ?_)
      replace h := h S43 eS43
      exact gk_vret dX5_put_44 rfl rfl rfl ⟨rfl, rfl, h⟩
    · replace h := h.2 c23
      refine gk_aload_n dX5_put_26 rfl ?_
      refine gk_getr dX5_put_27 rfl rfl wfX5_9 ?_
      refine gk_iload_n dX5_put_30 rfl ?_
      refine gk_iload_n dX5_put_31 rfl ?_
      refine gk_i2s dX5_put_32 ?_
      refine gk_iastore dX5_put_33 rfl h.1 ?_
      replace h := h.2
      refine gk_nmS (fun S33 eS33 => ?_)
      replace h := h S33 eS33
      refine gk_goto (tgt := 44) dX5_put_34 (by decide) ?_
      exact gk_vret dX5_put_44 rfl rfl rfl ⟨rfl, rfl, h⟩
  · replace h := h.2 c4
    refine gk_aload_n dX5_put_7 rfl ?_
    refine gk_getr dX5_put_8 rfl rfl wfX5_9 ?_
    refine gk_iload_n dX5_put_11 rfl ?_
    refine gk_iload_n dX5_put_12 rfl ?_
    refine gk_i2b dX5_put_13 ?_
    refine gk_iastore dX5_put_14 rfl h.1 ?_
    replace h := h.2
    refine gk_nmS (fun S14 eS14 => ?_)
    replace h := h S14 eS14
    refine gk_goto (tgt := 44) dX5_put_15 (by decide) ?_
    exact gk_vret dX5_put_44 rfl rfl rfl ⟨rfl, rfl, h⟩
set_option maxHeartbeats 4000000 in
set_option maxRecDepth 100000 in
theorem ctX5_put_41 {E : gz_E} {x1 : Int32} {x2 : Int32} {S : gz_S} {Q : gz_S → Prop} (h : wX5_put 41 x1 x2 S Q) : gz_m E mX5_put 1 0 0 [.ref 41, .int x1, .int x2] gz_F S (gz_qv Q) := by
  refine gz_meet0 (L0 := [some (.ref 41), some (.int x1), some (.int x2)]) (by decide) rfl (Nat.le_of_ble_eq_true rfl) (by decide) ?_
  unfold wX5_put at h
  refine gk_aload_n dX5_put_0 rfl ?_
  refine gk_geti dX5_put_1 rfl rfl wfX5_15 ?_
  refine gk_if_ne (tgt := 18) dX5_put_4 (by decide) (fun c4 => ?_) (fun c4 => ?_)
  · replace h := h.1 c4
    refine gk_aload_n dX5_put_18 rfl ?_
    refine gk_geti dX5_put_19 rfl rfl wfX5_15 ?_
    refine gk_iconst (v := 1) dX5_put_22 rfl ?_
    refine gk_icmp_ne (tgt := 37) dX5_put_23 (by decide) (fun c23 => ?_) (fun c23 => ?_)
    · replace h := h.1 c23
      refine gk_aload_n dX5_put_37 rfl ?_
      refine gk_getr dX5_put_38 rfl rfl wfX5_9 ?_
      refine gk_iload_n dX5_put_41 rfl ?_
      refine gk_iload_n dX5_put_42 rfl ?_
      refine gk_iastore dX5_put_43 rfl h.1 ?_
      replace h := h.2
      refine gk_nmS (fun S43 eS43 => ?_)
      replace h := h S43 eS43
      exact gk_vret dX5_put_44 rfl rfl rfl ⟨rfl, rfl, h⟩
    · replace h := h.2 c23
      refine gk_aload_n dX5_put_26 rfl ?_
      refine gk_getr dX5_put_27 rfl rfl wfX5_9 ?_
      refine gk_iload_n dX5_put_30 rfl ?_
      refine gk_iload_n dX5_put_31 rfl ?_
      refine gk_i2s dX5_put_32 ?_
      refine gk_iastore dX5_put_33 rfl h.1 ?_
      replace h := h.2
      refine gk_nmS (fun S33 eS33 => ?_)
      replace h := h S33 eS33
      refine gk_goto (tgt := 44) dX5_put_34 (by decide) ?_
      exact gk_vret dX5_put_44 rfl rfl rfl ⟨rfl, rfl, h⟩
  · replace h := h.2 c4
    refine gk_aload_n dX5_put_7 rfl ?_
    refine gk_getr dX5_put_8 rfl rfl wfX5_9 ?_
    refine gk_iload_n dX5_put_11 rfl ?_
    refine gk_iload_n dX5_put_12 rfl ?_
    refine gk_i2b dX5_put_13 ?_
    refine gk_iastore dX5_put_14 rfl h.1 ?_
    replace h := h.2
    refine gk_nmS (fun S14 eS14 => ?_)
    replace h := h S14 eS14
    refine gk_goto (tgt := 44) dX5_put_15 (by decide) ?_
    exact gk_vret dX5_put_44 rfl rfl rfl ⟨rfl, rfl, h⟩
set_option maxHeartbeats 4000000 in
set_option maxRecDepth 100000 in
theorem ctX5_put_43 {E : gz_E} {x1 : Int32} {x2 : Int32} {S : gz_S} {Q : gz_S → Prop} (h : wX5_put 43 x1 x2 S Q) : gz_m E mX5_put 1 0 0 [.ref 43, .int x1, .int x2] gz_F S (gz_qv Q) := by
  refine gz_meet0 (L0 := [some (.ref 43), some (.int x1), some (.int x2)]) (by decide) rfl (Nat.le_of_ble_eq_true rfl) (by decide) ?_
  unfold wX5_put at h
  refine gk_aload_n dX5_put_0 rfl ?_
  refine gk_geti dX5_put_1 rfl rfl wfX5_15 ?_
  refine gk_if_ne (tgt := 18) dX5_put_4 (by decide) (fun c4 => ?_) (fun c4 => ?_)
  · replace h := h.1 c4
    refine gk_aload_n dX5_put_18 rfl ?_
    refine gk_geti dX5_put_19 rfl rfl wfX5_15 ?_
    refine gk_iconst (v := 1) dX5_put_22 rfl ?_
    refine gk_icmp_ne (tgt := 37) dX5_put_23 (by decide) (fun c23 => ?_) (fun c23 => ?_)
    · replace h := h.1 c23
      refine gk_aload_n dX5_put_37 rfl ?_
      refine gk_getr dX5_put_38 rfl rfl wfX5_9 ?_
      refine gk_iload_n dX5_put_41 rfl ?_
      refine gk_iload_n dX5_put_42 rfl ?_
      refine gk_iastore dX5_put_43 rfl h.1 ?_
      replace h := h.2
      refine gk_nmS (fun S43 eS43 => ?_)
      replace h := h S43 eS43
      exact gk_vret dX5_put_44 rfl rfl rfl ⟨rfl, rfl, h⟩
    · replace h := h.2 c23
      refine gk_aload_n dX5_put_26 rfl ?_
      refine gk_getr dX5_put_27 rfl rfl wfX5_9 ?_
      refine gk_iload_n dX5_put_30 rfl ?_
      refine gk_iload_n dX5_put_31 rfl ?_
      refine gk_i2s dX5_put_32 ?_
      refine gk_iastore dX5_put_33 rfl h.1 ?_
      replace h := h.2
      refine gk_nmS (fun S33 eS33 => ?_)
      replace h := h S33 eS33
      refine gk_goto (tgt := 44) dX5_put_34 (by decide) ?_
      exact gk_vret dX5_put_44 rfl rfl rfl ⟨rfl, rfl, h⟩
  · replace h := h.2 c4
    refine gk_aload_n dX5_put_7 rfl ?_
    refine gk_getr dX5_put_8 rfl rfl wfX5_9 ?_
    refine gk_iload_n dX5_put_11 rfl ?_
    refine gk_iload_n dX5_put_12 rfl ?_
    refine gk_i2b dX5_put_13 ?_
    refine gk_iastore dX5_put_14 rfl h.1 ?_
    replace h := h.2
    refine gk_nmS (fun S14 eS14 => ?_)
    replace h := h S14 eS14
    refine gk_goto (tgt := 44) dX5_put_15 (by decide) ?_
    exact gk_vret dX5_put_44 rfl rfl rfl ⟨rfl, rfl, h⟩
set_option maxHeartbeats 4000000 in
set_option maxRecDepth 100000 in
theorem ctX7_lay {E : gz_E} {x1 : Int32} {x2 : Int32} {x3 : Int32} {x4 : Int32} {S : gz_S} {Q : Int32 → gz_S → Prop} (h : wX7_lay x1 x2 x3 x4 S Q) : gz_m E mX7_lay 3 0 0 [.ref 0, .int x1, .int x2, .int x3, .int x4] gz_F S (gz_qi Q) := by
  refine gz_meet0 (L0 := [some (.ref 0), some (.int x1), some (.int x2), some (.int x3), some (.int x4), none]) (by decide) rfl (Nat.le_of_ble_eq_true rfl) (by decide) ?_
  unfold wX7_lay at h
  refine gk_aload_n dX7_lay_0 rfl ?_
  refine gk_iload_n dX7_lay_1 rfl ?_
  refine gk_iload_n dX7_lay_2 rfl ?_
  refine gk_iload_n dX7_lay_3 rfl ?_
  refine gk_callV (as := [_, _, _]) (rest := []) (ctX7_refusalOfItem h) dX7_lay_4 rfl rfl wvX7_225 wcX7_refusalOfItem rfl (Nat.le_of_ble_eq_true rfl) ⟨Nat.le_refl _, Nat.le_refl _⟩ (fun h9 => absurd rfl h9) (Nat.le_of_ble_eq_true rfl) rfl (fun v G2 S4 hq => ?_)
  obtain ⟨rfl, r4, rfl, h⟩ := hq
  refine gk_istore dX7_lay_7 (Nat.le_of_ble_eq_true rfl) rfl rfl ?_
  refine gk_iload dX7_lay_9 rfl ?_
  refine gk_if_eq (tgt := 17) dX7_lay_11 (by decide) (fun c11 => ?_) (fun c11 => ?_)
  · replace h := h.1 c11
    refine gk_aload_n dX7_lay_17 rfl ?_
    refine gk_getr dX7_lay_18 rfl rfl wfX7_53 ?_
    refine gk_iload_n dX7_lay_21 rfl ?_
    rcases gz_four h.1 with hj00 | hj01 | hj02 | hj03
    · refine gk_aaload (t := 0) dX7_lay_22 rfl h.1 (by rw [hj00]; rfl) ?_
      replace h := h.2
      try rw [hj00] at h
      refine gk_iload_n dX7_lay_23 rfl ?_
      refine gk_iload dX7_lay_24 rfl ?_
      refine gk_callV (as := [_, _]) (rest := []) (ctX5_put_37 h) dX7_lay_26 rfl rfl wvX7_229 wcX5_put rfl (Nat.le_of_ble_eq_true rfl) ⟨Nat.le_refl _, Nat.le_refl _⟩ (fun h9 => absurd rfl h9) (Nat.le_of_ble_eq_true rfl) rfl (fun v G2 S26 hq => ?_)
      obtain ⟨rfl, rfl, h⟩ := hq
      refine gk_iconst (v := 1) dX7_lay_29 rfl ?_
      exact gk_iret dX7_lay_30 rfl rfl rfl rfl ⟨rfl, _, rfl, h⟩
    · refine gk_aaload (t := 0) dX7_lay_22 rfl h.1 (by rw [hj01]; rfl) ?_
      replace h := h.2
      try rw [hj01] at h
      refine gk_iload_n dX7_lay_23 rfl ?_
      refine gk_iload dX7_lay_24 rfl ?_
      refine gk_callV (as := [_, _]) (rest := []) (ctX5_put_39 h) dX7_lay_26 rfl rfl wvX7_229 wcX5_put rfl (Nat.le_of_ble_eq_true rfl) ⟨Nat.le_refl _, Nat.le_refl _⟩ (fun h9 => absurd rfl h9) (Nat.le_of_ble_eq_true rfl) rfl (fun v G2 S26_1 hq => ?_)
      obtain ⟨rfl, rfl, h⟩ := hq
      refine gk_iconst (v := 1) dX7_lay_29 rfl ?_
      exact gk_iret dX7_lay_30 rfl rfl rfl rfl ⟨rfl, _, rfl, h⟩
    · refine gk_aaload (t := 0) dX7_lay_22 rfl h.1 (by rw [hj02]; rfl) ?_
      replace h := h.2
      try rw [hj02] at h
      refine gk_iload_n dX7_lay_23 rfl ?_
      refine gk_iload dX7_lay_24 rfl ?_
      refine gk_callV (as := [_, _]) (rest := []) (ctX5_put_41 h) dX7_lay_26 rfl rfl wvX7_229 wcX5_put rfl (Nat.le_of_ble_eq_true rfl) ⟨Nat.le_refl _, Nat.le_refl _⟩ (fun h9 => absurd rfl h9) (Nat.le_of_ble_eq_true rfl) rfl (fun v G2 S26_2 hq => ?_)
      obtain ⟨rfl, rfl, h⟩ := hq
      refine gk_iconst (v := 1) dX7_lay_29 rfl ?_
      exact gk_iret dX7_lay_30 rfl rfl rfl rfl ⟨rfl, _, rfl, h⟩
    · refine gk_aaload (t := 0) dX7_lay_22 rfl h.1 (by rw [hj03]; rfl) ?_
      replace h := h.2
      try rw [hj03] at h
      refine gk_iload_n dX7_lay_23 rfl ?_
      refine gk_iload dX7_lay_24 rfl ?_
      refine gk_callV (as := [_, _]) (rest := []) (ctX5_put_43 h) dX7_lay_26 rfl rfl wvX7_229 wcX5_put rfl (Nat.le_of_ble_eq_true rfl) ⟨Nat.le_refl _, Nat.le_refl _⟩ (fun h9 => absurd rfl h9) (Nat.le_of_ble_eq_true rfl) rfl (fun v G2 S26_3 hq => ?_)
      obtain ⟨rfl, rfl, h⟩ := hq
      refine gk_iconst (v := 1) dX7_lay_29 rfl ?_
      exact gk_iret dX7_lay_30 rfl rfl rfl rfl ⟨rfl, _, rfl, h⟩
  · replace h := h.2 c11
    refine gk_iload dX7_lay_14 rfl ?_
    exact gk_iret dX7_lay_16 rfl rfl rfl rfl ⟨rfl, _, rfl, h⟩
set_option maxHeartbeats 4000000 in
set_option maxRecDepth 100000 in
theorem ctX8_lacks {E : gz_E} {x1 : Int32} {x2 : Int32} {x3 : Int32} {S : gz_S} {Q : Int32 → gz_S → Prop} (h : wX8_lacks x1 x2 x3 S Q) : gz_m E mX8_lacks 2 0 0 [.ref 45, .int x1, .int x2, .int x3] gz_F S (gz_qi Q) := by
  refine gz_meet0 (L0 := [some (.ref 45), some (.int x1), some (.int x2), some (.int x3)]) (by decide) rfl (Nat.le_of_ble_eq_true rfl) (by decide) ?_
  unfold wX8_lacks at h
  refine gk_aload_n dX8_lacks_0 rfl ?_
  refine gk_getr dX8_lacks_1 rfl rfl wfX8_7 ?_
  refine gk_iload_n dX8_lacks_4 rfl ?_
  refine gk_iaload dX8_lacks_5 rfl h.1 ?_
  replace h := h.2
  refine gk_if_ge (tgt := 15) dX8_lacks_6 (by decide) (fun c6 => ?_) (fun c6 => ?_)
  · replace h := h.1 c6
    refine gk_aload_n dX8_lacks_15 rfl ?_
    refine gk_getr dX8_lacks_16 rfl rfl wfX8_7 ?_
    refine gk_iload_n dX8_lacks_19 rfl ?_
    refine gk_iaload dX8_lacks_20 rfl h.1 ?_
    replace h := h.2
    refine gk_iload_n dX8_lacks_21 rfl ?_
    refine gk_icmp_eq (tgt := 31) dX8_lacks_22 (by decide) (fun c22 => ?_) (fun c22 => ?_)
    · replace h := h.1 c22
      refine gk_iload_n dX8_lacks_31 rfl ?_
      refine gk_i2l dX8_lacks_32 ?_
      refine gk_lconst (v := 0) dX8_lacks_33 rfl ?_
      refine gk_aload_n dX8_lacks_34 rfl ?_
      refine gk_getr dX8_lacks_35 rfl rfl wfX8_13 ?_
      refine gk_iload_n dX8_lacks_38 rfl ?_
      refine gk_iaload dX8_lacks_39 rfl h.1 ?_
      replace h := h.2
      refine gk_iconst (v := 1) dX8_lacks_40 rfl ?_
      refine gk_isub dX8_lacks_41 ?_
      refine gk_i2l dX8_lacks_42 ?_
      refine gk_callS (as := [_, _, _]) (rest := []) (ctX8_in h) dX8_lacks_43 wvX8_92 wcX8_in rfl (Nat.le_of_ble_eq_true rfl) ⟨Nat.le_refl _, Nat.le_refl _⟩ (fun h9 => absurd rfl h9) (Nat.le_of_ble_eq_true rfl) rfl (fun v G2 S43 hq => ?_)
      obtain ⟨rfl, r43, rfl, h⟩ := hq
      refine gk_if_eq (tgt := 53) dX8_lacks_46 (by decide) (fun c46 => ?_) (fun c46 => ?_)
      · replace h := h.1 c46
        refine gk_aload_n dX8_lacks_53 rfl ?_
        refine gk_iconst (v := 2) dX8_lacks_54 rfl ?_
        refine gk_callV (as := [_]) (rest := []) (ctX8_met h) dX8_lacks_55 rfl rfl wvX8_108 wcX8_met rfl (Nat.le_of_ble_eq_true rfl) ⟨Nat.le_refl _, Nat.le_refl _⟩ (fun h9 => absurd rfl h9) (Nat.le_of_ble_eq_true rfl) rfl (fun v G2 S55 hq => ?_)
        obtain ⟨rfl, r55, rfl, h⟩ := hq
        exact gk_iret dX8_lacks_58 rfl rfl rfl rfl ⟨rfl, _, rfl, h⟩
      · replace h := h.2 c46
        refine gk_iconst (v := 0) dX8_lacks_49 rfl ?_
        refine gk_goto (tgt := 58) dX8_lacks_50 (by decide) ?_
        exact gk_iret dX8_lacks_58 rfl rfl rfl rfl ⟨rfl, _, rfl, h⟩
    · replace h := h.2 c22
      refine gk_aload_n dX8_lacks_25 rfl ?_
      refine gk_iconst (v := 3) dX8_lacks_26 rfl ?_
      refine gk_callV (as := [_]) (rest := []) (ctX8_met h) dX8_lacks_27 rfl rfl wvX8_108 wcX8_met rfl (Nat.le_of_ble_eq_true rfl) ⟨Nat.le_refl _, Nat.le_refl _⟩ (fun h9 => absurd rfl h9) (Nat.le_of_ble_eq_true rfl) rfl (fun v G2 S27 hq => ?_)
      obtain ⟨rfl, r27, rfl, h⟩ := hq
      exact gk_iret dX8_lacks_30 rfl rfl rfl rfl ⟨rfl, _, rfl, h⟩
  · replace h := h.2 c6
    refine gk_aload_n dX8_lacks_9 rfl ?_
    refine gk_iconst (v := 1) dX8_lacks_10 rfl ?_
    refine gk_callV (as := [_]) (rest := []) (ctX8_met h) dX8_lacks_11 rfl rfl wvX8_108 wcX8_met rfl (Nat.le_of_ble_eq_true rfl) ⟨Nat.le_refl _, Nat.le_refl _⟩ (fun h9 => absurd rfl h9) (Nat.le_of_ble_eq_true rfl) rfl (fun v G2 S11 hq => ?_)
    obtain ⟨rfl, r11, rfl, h⟩ := hq
    exact gk_iret dX8_lacks_14 rfl rfl rfl rfl ⟨rfl, _, rfl, h⟩
set_option maxHeartbeats 4000000 in
set_option maxRecDepth 100000 in
theorem ctX8_cut {E : gz_E} {x0 : Int32} {x1 : Int32} {S : gz_S} {Q : Int32 → gz_S → Prop} (h : wX8_cut x0 x1 S Q) : gz_m E mX8_cut 1 0 0 [.int x0, .int x1] gz_F S (gz_qi Q) := by
  refine gz_meet0 (L0 := [some (.int x0), some (.int x1)]) (by decide) rfl (Nat.le_of_ble_eq_true rfl) (by decide) ?_
  unfold wX8_cut at h
  refine gk_iload_n dX8_cut_0 rfl ?_
  refine gk_if_ne (tgt := 9) dX8_cut_1 (by decide) (fun c1 => ?_) (fun c1 => ?_)
  · replace h := h.1 c1
    refine gk_iload_n dX8_cut_9 rfl ?_
    refine gk_iconst (v := 1) dX8_cut_10 rfl ?_
    refine gk_icmp_ne (tgt := 19) dX8_cut_11 (by decide) (fun c11 => ?_) (fun c11 => ?_)
    · replace h := h.1 c11
      refine gk_iload_n dX8_cut_19 rfl ?_
      exact gk_iret dX8_cut_20 rfl rfl rfl rfl ⟨rfl, _, rfl, h⟩
    · replace h := h.2 c11
      refine gk_iload_n dX8_cut_14 rfl ?_
      refine gk_i2s dX8_cut_15 ?_
      refine gk_goto (tgt := 20) dX8_cut_16 (by decide) ?_
      exact gk_iret dX8_cut_20 rfl rfl rfl rfl ⟨rfl, _, rfl, h⟩
  · replace h := h.2 c1
    refine gk_iload_n dX8_cut_4 rfl ?_
    refine gk_i2b dX8_cut_5 ?_
    refine gk_goto (tgt := 20) dX8_cut_6 (by decide) ?_
    exact gk_iret dX8_cut_20 rfl rfl rfl rfl ⟨rfl, _, rfl, h⟩
set_option maxHeartbeats 4000000 in
set_option maxRecDepth 100000 in
theorem ctX8_lay {E : gz_E} {x1 : Int32} {x2 : Int32} {x3 : Int32} {x4 : Int32} {S : gz_S} {Q : Int32 → gz_S → Prop} (h : wX8_lay x1 x2 x3 x4 S Q) : gz_m E mX8_lay 3 0 0 [.ref 45, .int x1, .int x2, .int x3, .int x4] gz_F S (gz_qi Q) := by
  refine gz_meet0 (L0 := [some (.ref 45), some (.int x1), some (.int x2), some (.int x3), some (.int x4), none]) (by decide) rfl (Nat.le_of_ble_eq_true rfl) (by decide) ?_
  unfold wX8_lay at h
  refine gk_iload_n dX8_lay_0 rfl ?_
  refine gk_callS (as := [_]) (rest := []) (ctX8_isSheet h) dX8_lay_1 wvX8_102 wcX8_isSheet rfl (Nat.le_of_ble_eq_true rfl) ⟨Nat.le_refl _, Nat.le_refl _⟩ (fun h9 => absurd rfl h9) (Nat.le_of_ble_eq_true rfl) rfl (fun v G2 S1 hq => ?_)
  obtain ⟨rfl, r1, rfl, h⟩ := hq
  refine gk_if_eq (tgt := 19) dX8_lay_4 (by decide) (fun c4 => ?_) (fun c4 => ?_)
  · replace h := h.1 c4
    refine gk_bipush (v := (-2)) dX8_lay_19 rfl ?_
    exact gk_iret dX8_lay_21 rfl rfl rfl rfl ⟨rfl, _, rfl, h⟩
  · replace h := h.2 c4
    refine gk_iload_n dX8_lay_7 rfl ?_
    refine gk_i2l dX8_lay_8 ?_
    refine gk_lconst (v := 0) dX8_lay_9 rfl ?_
    refine gk_ldc2 dX8_lay_10 wkX8_106 ?_
    refine gk_callS (as := [_, _, _]) (rest := []) (ctX8_in h) dX8_lay_13 wvX8_92 wcX8_in rfl (Nat.le_of_ble_eq_true rfl) ⟨Nat.le_refl _, Nat.le_refl _⟩ (fun h9 => absurd rfl h9) (Nat.le_of_ble_eq_true rfl) rfl (fun v G2 S13 hq => ?_)
    obtain ⟨rfl, r13, rfl, h⟩ := hq
    refine gk_if_ne (tgt := 22) dX8_lay_16 (by decide) (fun c16 => ?_) (fun c16 => ?_)
    · replace h := h.1 c16
      refine gk_aload_n dX8_lay_22 rfl ?_
      refine gk_iload_n dX8_lay_23 rfl ?_
      refine gk_iload_n dX8_lay_24 rfl ?_
      refine gk_iload_n dX8_lay_25 rfl ?_
      refine gk_callV (as := [_, _, _]) (rest := []) (ctX8_lacks h) dX8_lay_26 rfl rfl wvX8_112 wcX8_lacks rfl (Nat.le_of_ble_eq_true rfl) ⟨Nat.le_refl _, Nat.le_refl _⟩ (fun h9 => absurd rfl h9) (Nat.le_of_ble_eq_true rfl) rfl (fun v G2 S26 hq => ?_)
      obtain ⟨rfl, r26, rfl, h⟩ := hq
      refine gk_istore dX8_lay_29 (Nat.le_of_ble_eq_true rfl) rfl rfl ?_
      refine gk_iload dX8_lay_31 rfl ?_
      refine gk_if_eq (tgt := 39) dX8_lay_33 (by decide) (fun c33 => ?_) (fun c33 => ?_)
      · replace h := h.1 c33
        refine gk_aload_n dX8_lay_39 rfl ?_
        refine gk_getr dX8_lay_40 rfl rfl wfX8_16 ?_
        refine gk_bipush (v := 60) dX8_lay_43 rfl ?_
        refine gk_iload_n dX8_lay_45 rfl ?_
        refine gk_imul dX8_lay_46 ?_
        refine gk_iload_n dX8_lay_47 rfl ?_
        refine gk_iadd dX8_lay_48 ?_
        refine gk_iload_n dX8_lay_49 rfl ?_
        refine gk_iload dX8_lay_50 rfl ?_
        refine gk_callS (as := [_, _]) (rest := [_, _]) (ctX8_cut h) dX8_lay_52 wvX8_116 wcX8_cut rfl (Nat.le_of_ble_eq_true rfl) ⟨Nat.le_refl _, Nat.le_refl _⟩ (fun h9 => absurd rfl h9) (Nat.le_of_ble_eq_true rfl) rfl (fun v G2 S52 hq => ?_)
        obtain ⟨rfl, r52, rfl, h⟩ := hq
        refine gk_iastore dX8_lay_55 rfl h.1 ?_
        replace h := h.2
        refine gk_nmS (fun S55 eS55 => ?_)
        replace h := h S55 eS55
        refine gk_iconst (v := 1) dX8_lay_56 rfl ?_
        exact gk_iret dX8_lay_57 rfl rfl rfl rfl ⟨rfl, _, rfl, h⟩
      · replace h := h.2 c33
        refine gk_iload dX8_lay_36 rfl ?_
        exact gk_iret dX8_lay_38 rfl rfl rfl rfl ⟨rfl, _, rfl, h⟩
    · replace h := h.2 c16
      refine gk_bipush (v := (-2)) dX8_lay_19 rfl ?_
      exact gk_iret dX8_lay_21 rfl rfl rfl rfl ⟨rfl, _, rfl, h⟩
set_option maxHeartbeats 4000000 in
set_option maxRecDepth 100000 in
theorem ctX7_get {E : gz_E} {x1 : Int32} {x2 : Int32} {x3 : Int32} {S : gz_S} {Q : Int32 → gz_S → Prop} (h : wX7_get x1 x2 x3 S Q) : gz_m E mX7_get 3 0 0 [.ref 0, .int x1, .int x2, .int x3] gz_F S (gz_qi Q) := by
  refine gz_meet0 (L0 := [some (.ref 0), some (.int x1), some (.int x2), some (.int x3)]) (by decide) rfl (Nat.le_of_ble_eq_true rfl) (by decide) ?_
  unfold wX7_get at h
  refine gk_aload_n dX7_get_0 rfl ?_
  refine gk_iload_n dX7_get_1 rfl ?_
  refine gk_iload_n dX7_get_2 rfl ?_
  refine gk_iload_n dX7_get_3 rfl ?_
  refine gk_callV (as := [_, _, _]) (rest := []) (ctX7_refusalOfItem h) dX7_get_4 rfl rfl wvX7_225 wcX7_refusalOfItem rfl (Nat.le_of_ble_eq_true rfl) ⟨Nat.le_refl _, Nat.le_refl _⟩ (fun h9 => absurd rfl h9) (Nat.le_of_ble_eq_true rfl) rfl (fun v G2 S4 hq => ?_)
  obtain ⟨rfl, r4, rfl, h⟩ := hq
  refine gk_if_ne (tgt := 24) dX7_get_7 (by decide) (fun c7 => ?_) (fun c7 => ?_)
  · replace h := h.1 c7
    refine gk_ldc dX7_get_24 wkX7_232 ?_
    exact gk_iret dX7_get_26 rfl rfl rfl rfl ⟨rfl, _, rfl, h⟩
  · replace h := h.2 c7
    refine gk_aload_n dX7_get_10 rfl ?_
    refine gk_getr dX7_get_11 rfl rfl wfX7_53 ?_
    refine gk_iload_n dX7_get_14 rfl ?_
    rcases gz_four h.1 with hj00 | hj01 | hj02 | hj03
    · refine gk_aaload (t := 0) dX7_get_15 rfl h.1 (by rw [hj00]; rfl) ?_
      replace h := h.2
      try rw [hj00] at h
      refine gk_getr dX7_get_16 rfl rfl wfX7_143 ?_
      refine gk_iload_n dX7_get_19 rfl ?_
      refine gk_iaload dX7_get_20 rfl h.1 ?_
      replace h := h.2
      refine gk_goto (tgt := 26) dX7_get_21 (by decide) ?_
      exact gk_iret dX7_get_26 rfl rfl rfl rfl ⟨rfl, _, rfl, h⟩
    · refine gk_aaload (t := 0) dX7_get_15 rfl h.1 (by rw [hj01]; rfl) ?_
      replace h := h.2
      try rw [hj01] at h
      refine gk_getr dX7_get_16 rfl rfl wfX7_143 ?_
      refine gk_iload_n dX7_get_19 rfl ?_
      refine gk_iaload dX7_get_20 rfl h.1 ?_
      replace h := h.2
      refine gk_goto (tgt := 26) dX7_get_21 (by decide) ?_
      exact gk_iret dX7_get_26 rfl rfl rfl rfl ⟨rfl, _, rfl, h⟩
    · refine gk_aaload (t := 0) dX7_get_15 rfl h.1 (by rw [hj02]; rfl) ?_
      replace h := h.2
      try rw [hj02] at h
      refine gk_getr dX7_get_16 rfl rfl wfX7_143 ?_
      refine gk_iload_n dX7_get_19 rfl ?_
      refine gk_iaload dX7_get_20 rfl h.1 ?_
      replace h := h.2
      refine gk_goto (tgt := 26) dX7_get_21 (by decide) ?_
      exact gk_iret dX7_get_26 rfl rfl rfl rfl ⟨rfl, _, rfl, h⟩
    · refine gk_aaload (t := 0) dX7_get_15 rfl h.1 (by rw [hj03]; rfl) ?_
      replace h := h.2
      try rw [hj03] at h
      refine gk_getr dX7_get_16 rfl rfl wfX7_143 ?_
      refine gk_iload_n dX7_get_19 rfl ?_
      refine gk_iaload dX7_get_20 rfl h.1 ?_
      replace h := h.2
      refine gk_goto (tgt := 26) dX7_get_21 (by decide) ?_
      exact gk_iret dX7_get_26 rfl rfl rfl rfl ⟨rfl, _, rfl, h⟩
set_option maxHeartbeats 4000000 in
set_option maxRecDepth 100000 in
theorem ctX8_get {E : gz_E} {x1 : Int32} {x2 : Int32} {x3 : Int32} {S : gz_S} {Q : Int32 → gz_S → Prop} (h : wX8_get x1 x2 x3 S Q) : gz_m E mX8_get 3 0 0 [.ref 45, .int x1, .int x2, .int x3] gz_F S (gz_qi Q) := by
  refine gz_meet0 (L0 := [some (.ref 45), some (.int x1), some (.int x2), some (.int x3)]) (by decide) rfl (Nat.le_of_ble_eq_true rfl) (by decide) ?_
  unfold wX8_get at h
  refine gk_iload_n dX8_get_0 rfl ?_
  refine gk_callS (as := [_]) (rest := []) (ctX8_isSheet h) dX8_get_1 wvX8_102 wcX8_isSheet rfl (Nat.le_of_ble_eq_true rfl) ⟨Nat.le_refl _, Nat.le_refl _⟩ (fun h9 => absurd rfl h9) (Nat.le_of_ble_eq_true rfl) rfl (fun v G2 S1 hq => ?_)
  obtain ⟨rfl, r1, rfl, h⟩ := hq
  refine gk_if_eq (tgt := 29) dX8_get_4 (by decide) (fun c4 => ?_) (fun c4 => ?_)
  · replace h := h.1 c4
    refine gk_ldc dX8_get_29 wkX8_120 ?_
    exact gk_iret dX8_get_31 rfl rfl rfl rfl ⟨rfl, _, rfl, h⟩
  · replace h := h.2 c4
    refine gk_iload_n dX8_get_7 rfl ?_
    refine gk_i2l dX8_get_8 ?_
    refine gk_lconst (v := 0) dX8_get_9 rfl ?_
    refine gk_ldc2 dX8_get_10 wkX8_106 ?_
    refine gk_callS (as := [_, _, _]) (rest := []) (ctX8_in h) dX8_get_13 wvX8_92 wcX8_in rfl (Nat.le_of_ble_eq_true rfl) ⟨Nat.le_refl _, Nat.le_refl _⟩ (fun h9 => absurd rfl h9) (Nat.le_of_ble_eq_true rfl) rfl (fun v G2 S13 hq => ?_)
    obtain ⟨rfl, r13, rfl, h⟩ := hq
    refine gk_if_eq (tgt := 29) dX8_get_16 (by decide) (fun c16 => ?_) (fun c16 => ?_)
    · replace h := h.1 c16
      refine gk_ldc dX8_get_29 wkX8_120 ?_
      exact gk_iret dX8_get_31 rfl rfl rfl rfl ⟨rfl, _, rfl, h⟩
    · replace h := h.2 c16
      refine gk_aload_n dX8_get_19 rfl ?_
      refine gk_iload_n dX8_get_20 rfl ?_
      refine gk_iload_n dX8_get_21 rfl ?_
      refine gk_iload_n dX8_get_22 rfl ?_
      refine gk_callV (as := [_, _, _]) (rest := []) (ctX8_lacks h) dX8_get_23 rfl rfl wvX8_112 wcX8_lacks rfl (Nat.le_of_ble_eq_true rfl) ⟨Nat.le_refl _, Nat.le_refl _⟩ (fun h9 => absurd rfl h9) (Nat.le_of_ble_eq_true rfl) rfl (fun v G2 S23 hq => ?_)
      obtain ⟨rfl, r23, rfl, h⟩ := hq
      refine gk_if_eq (tgt := 32) dX8_get_26 (by decide) (fun c26 => ?_) (fun c26 => ?_)
      · replace h := h.1 c26
        refine gk_aload_n dX8_get_32 rfl ?_
        refine gk_getr dX8_get_33 rfl rfl wfX8_16 ?_
        refine gk_bipush (v := 60) dX8_get_36 rfl ?_
        refine gk_iload_n dX8_get_38 rfl ?_
        refine gk_imul dX8_get_39 ?_
        refine gk_iload_n dX8_get_40 rfl ?_
        refine gk_iadd dX8_get_41 ?_
        refine gk_iaload dX8_get_42 rfl h.1 ?_
        replace h := h.2
        exact gk_iret dX8_get_43 rfl rfl rfl rfl ⟨rfl, _, rfl, h⟩
      · replace h := h.2 c26
        refine gk_ldc dX8_get_29 wkX8_120 ?_
        exact gk_iret dX8_get_31 rfl rfl rfl rfl ⟨rfl, _, rfl, h⟩
set_option maxHeartbeats 4000000 in
set_option maxRecDepth 100000 in
theorem ctX5_hasRun_37 {E : gz_E} {x1 : Int32} {x2 : Int32} {S : gz_S} {Q : Int32 → gz_S → Prop} (h : wX5_hasRun 37 x1 x2 S Q) : gz_m E mX5_hasRun 1 0 0 [.ref 37, .int x1, .int x2] gz_F S (gz_qi Q) := by
  refine gz_meet0 (L0 := [some (.ref 37), some (.int x1), some (.int x2)]) (by decide) rfl (Nat.le_of_ble_eq_true rfl) (by decide) ?_
  unfold wX5_hasRun at h
  refine gk_iload_n dX5_hasRun_0 rfl ?_
  refine gk_if_lt (tgt := 30) dX5_hasRun_1 (by decide) (fun c1 => ?_) (fun c1 => ?_)
  · replace h := h.1 c1
    refine gk_iconst (v := 0) dX5_hasRun_30 rfl ?_
    exact gk_iret dX5_hasRun_31 rfl rfl rfl rfl ⟨rfl, _, rfl, h⟩
  · replace h := h.2 c1
    refine gk_iload_n dX5_hasRun_4 rfl ?_
    refine gk_if_lt (tgt := 30) dX5_hasRun_5 (by decide) (fun c5 => ?_) (fun c5 => ?_)
    · replace h := h.1 c5
      refine gk_iconst (v := 0) dX5_hasRun_30 rfl ?_
      exact gk_iret dX5_hasRun_31 rfl rfl rfl rfl ⟨rfl, _, rfl, h⟩
    · replace h := h.2 c5
      refine gk_iload_n dX5_hasRun_8 rfl ?_
      refine gk_aload_n dX5_hasRun_9 rfl ?_
      refine gk_geti dX5_hasRun_10 rfl rfl wfX5_19 ?_
      refine gk_icmp_gt (tgt := 30) dX5_hasRun_13 (by decide) (fun c13 => ?_) (fun c13 => ?_)
      · replace h := h.1 c13
        refine gk_iconst (v := 0) dX5_hasRun_30 rfl ?_
        exact gk_iret dX5_hasRun_31 rfl rfl rfl rfl ⟨rfl, _, rfl, h⟩
      · replace h := h.2 c13
        refine gk_iload_n dX5_hasRun_16 rfl ?_
        refine gk_aload_n dX5_hasRun_17 rfl ?_
        refine gk_geti dX5_hasRun_18 rfl rfl wfX5_19 ?_
        refine gk_iload_n dX5_hasRun_21 rfl ?_
        refine gk_isub dX5_hasRun_22 ?_
        refine gk_icmp_gt (tgt := 30) dX5_hasRun_23 (by decide) (fun c23 => ?_) (fun c23 => ?_)
        · replace h := h.1 c23
          refine gk_iconst (v := 0) dX5_hasRun_30 rfl ?_
          exact gk_iret dX5_hasRun_31 rfl rfl rfl rfl ⟨rfl, _, rfl, h⟩
        · replace h := h.2 c23
          refine gk_iconst (v := 1) dX5_hasRun_26 rfl ?_
          refine gk_goto (tgt := 31) dX5_hasRun_27 (by decide) ?_
          exact gk_iret dX5_hasRun_31 rfl rfl rfl rfl ⟨rfl, _, rfl, h⟩
set_option maxHeartbeats 4000000 in
set_option maxRecDepth 100000 in
theorem ctX5_hasRun_39 {E : gz_E} {x1 : Int32} {x2 : Int32} {S : gz_S} {Q : Int32 → gz_S → Prop} (h : wX5_hasRun 39 x1 x2 S Q) : gz_m E mX5_hasRun 1 0 0 [.ref 39, .int x1, .int x2] gz_F S (gz_qi Q) := by
  refine gz_meet0 (L0 := [some (.ref 39), some (.int x1), some (.int x2)]) (by decide) rfl (Nat.le_of_ble_eq_true rfl) (by decide) ?_
  unfold wX5_hasRun at h
  refine gk_iload_n dX5_hasRun_0 rfl ?_
  refine gk_if_lt (tgt := 30) dX5_hasRun_1 (by decide) (fun c1 => ?_) (fun c1 => ?_)
  · replace h := h.1 c1
    refine gk_iconst (v := 0) dX5_hasRun_30 rfl ?_
    exact gk_iret dX5_hasRun_31 rfl rfl rfl rfl ⟨rfl, _, rfl, h⟩
  · replace h := h.2 c1
    refine gk_iload_n dX5_hasRun_4 rfl ?_
    refine gk_if_lt (tgt := 30) dX5_hasRun_5 (by decide) (fun c5 => ?_) (fun c5 => ?_)
    · replace h := h.1 c5
      refine gk_iconst (v := 0) dX5_hasRun_30 rfl ?_
      exact gk_iret dX5_hasRun_31 rfl rfl rfl rfl ⟨rfl, _, rfl, h⟩
    · replace h := h.2 c5
      refine gk_iload_n dX5_hasRun_8 rfl ?_
      refine gk_aload_n dX5_hasRun_9 rfl ?_
      refine gk_geti dX5_hasRun_10 rfl rfl wfX5_19 ?_
      refine gk_icmp_gt (tgt := 30) dX5_hasRun_13 (by decide) (fun c13 => ?_) (fun c13 => ?_)
      · replace h := h.1 c13
        refine gk_iconst (v := 0) dX5_hasRun_30 rfl ?_
        exact gk_iret dX5_hasRun_31 rfl rfl rfl rfl ⟨rfl, _, rfl, h⟩
      · replace h := h.2 c13
        refine gk_iload_n dX5_hasRun_16 rfl ?_
        refine gk_aload_n dX5_hasRun_17 rfl ?_
        refine gk_geti dX5_hasRun_18 rfl rfl wfX5_19 ?_
        refine gk_iload_n dX5_hasRun_21 rfl ?_
        refine gk_isub dX5_hasRun_22 ?_
        refine gk_icmp_gt (tgt := 30) dX5_hasRun_23 (by decide) (fun c23 => ?_) (fun c23 => ?_)
        · replace h := h.1 c23
          refine gk_iconst (v := 0) dX5_hasRun_30 rfl ?_
          exact gk_iret dX5_hasRun_31 rfl rfl rfl rfl ⟨rfl, _, rfl, h⟩
        · replace h := h.2 c23
          refine gk_iconst (v := 1) dX5_hasRun_26 rfl ?_
          refine gk_goto (tgt := 31) dX5_hasRun_27 (by decide) ?_
          exact gk_iret dX5_hasRun_31 rfl rfl rfl rfl ⟨rfl, _, rfl, h⟩
set_option maxHeartbeats 4000000 in
set_option maxRecDepth 100000 in
theorem ctX5_hasRun_41 {E : gz_E} {x1 : Int32} {x2 : Int32} {S : gz_S} {Q : Int32 → gz_S → Prop} (h : wX5_hasRun 41 x1 x2 S Q) : gz_m E mX5_hasRun 1 0 0 [.ref 41, .int x1, .int x2] gz_F S (gz_qi Q) := by
  refine gz_meet0 (L0 := [some (.ref 41), some (.int x1), some (.int x2)]) (by decide) rfl (Nat.le_of_ble_eq_true rfl) (by decide) ?_
  unfold wX5_hasRun at h
  refine gk_iload_n dX5_hasRun_0 rfl ?_
  refine gk_if_lt (tgt := 30) dX5_hasRun_1 (by decide) (fun c1 => ?_) (fun c1 => ?_)
  · replace h := h.1 c1
    refine gk_iconst (v := 0) dX5_hasRun_30 rfl ?_
    exact gk_iret dX5_hasRun_31 rfl rfl rfl rfl ⟨rfl, _, rfl, h⟩
  · replace h := h.2 c1
    refine gk_iload_n dX5_hasRun_4 rfl ?_
    refine gk_if_lt (tgt := 30) dX5_hasRun_5 (by decide) (fun c5 => ?_) (fun c5 => ?_)
    · replace h := h.1 c5
      refine gk_iconst (v := 0) dX5_hasRun_30 rfl ?_
      exact gk_iret dX5_hasRun_31 rfl rfl rfl rfl ⟨rfl, _, rfl, h⟩
    · replace h := h.2 c5
      refine gk_iload_n dX5_hasRun_8 rfl ?_
      refine gk_aload_n dX5_hasRun_9 rfl ?_
      refine gk_geti dX5_hasRun_10 rfl rfl wfX5_19 ?_
      refine gk_icmp_gt (tgt := 30) dX5_hasRun_13 (by decide) (fun c13 => ?_) (fun c13 => ?_)
      · replace h := h.1 c13
        refine gk_iconst (v := 0) dX5_hasRun_30 rfl ?_
        exact gk_iret dX5_hasRun_31 rfl rfl rfl rfl ⟨rfl, _, rfl, h⟩
      · replace h := h.2 c13
        refine gk_iload_n dX5_hasRun_16 rfl ?_
        refine gk_aload_n dX5_hasRun_17 rfl ?_
        refine gk_geti dX5_hasRun_18 rfl rfl wfX5_19 ?_
        refine gk_iload_n dX5_hasRun_21 rfl ?_
        refine gk_isub dX5_hasRun_22 ?_
        refine gk_icmp_gt (tgt := 30) dX5_hasRun_23 (by decide) (fun c23 => ?_) (fun c23 => ?_)
        · replace h := h.1 c23
          refine gk_iconst (v := 0) dX5_hasRun_30 rfl ?_
          exact gk_iret dX5_hasRun_31 rfl rfl rfl rfl ⟨rfl, _, rfl, h⟩
        · replace h := h.2 c23
          refine gk_iconst (v := 1) dX5_hasRun_26 rfl ?_
          refine gk_goto (tgt := 31) dX5_hasRun_27 (by decide) ?_
          exact gk_iret dX5_hasRun_31 rfl rfl rfl rfl ⟨rfl, _, rfl, h⟩
set_option maxHeartbeats 4000000 in
set_option maxRecDepth 100000 in
theorem ctX5_hasRun_43 {E : gz_E} {x1 : Int32} {x2 : Int32} {S : gz_S} {Q : Int32 → gz_S → Prop} (h : wX5_hasRun 43 x1 x2 S Q) : gz_m E mX5_hasRun 1 0 0 [.ref 43, .int x1, .int x2] gz_F S (gz_qi Q) := by
  refine gz_meet0 (L0 := [some (.ref 43), some (.int x1), some (.int x2)]) (by decide) rfl (Nat.le_of_ble_eq_true rfl) (by decide) ?_
  unfold wX5_hasRun at h
  refine gk_iload_n dX5_hasRun_0 rfl ?_
  refine gk_if_lt (tgt := 30) dX5_hasRun_1 (by decide) (fun c1 => ?_) (fun c1 => ?_)
  · replace h := h.1 c1
    refine gk_iconst (v := 0) dX5_hasRun_30 rfl ?_
    exact gk_iret dX5_hasRun_31 rfl rfl rfl rfl ⟨rfl, _, rfl, h⟩
  · replace h := h.2 c1
    refine gk_iload_n dX5_hasRun_4 rfl ?_
    refine gk_if_lt (tgt := 30) dX5_hasRun_5 (by decide) (fun c5 => ?_) (fun c5 => ?_)
    · replace h := h.1 c5
      refine gk_iconst (v := 0) dX5_hasRun_30 rfl ?_
      exact gk_iret dX5_hasRun_31 rfl rfl rfl rfl ⟨rfl, _, rfl, h⟩
    · replace h := h.2 c5
      refine gk_iload_n dX5_hasRun_8 rfl ?_
      refine gk_aload_n dX5_hasRun_9 rfl ?_
      refine gk_geti dX5_hasRun_10 rfl rfl wfX5_19 ?_
      refine gk_icmp_gt (tgt := 30) dX5_hasRun_13 (by decide) (fun c13 => ?_) (fun c13 => ?_)
      · replace h := h.1 c13
        refine gk_iconst (v := 0) dX5_hasRun_30 rfl ?_
        exact gk_iret dX5_hasRun_31 rfl rfl rfl rfl ⟨rfl, _, rfl, h⟩
      · replace h := h.2 c13
        refine gk_iload_n dX5_hasRun_16 rfl ?_
        refine gk_aload_n dX5_hasRun_17 rfl ?_
        refine gk_geti dX5_hasRun_18 rfl rfl wfX5_19 ?_
        refine gk_iload_n dX5_hasRun_21 rfl ?_
        refine gk_isub dX5_hasRun_22 ?_
        refine gk_icmp_gt (tgt := 30) dX5_hasRun_23 (by decide) (fun c23 => ?_) (fun c23 => ?_)
        · replace h := h.1 c23
          refine gk_iconst (v := 0) dX5_hasRun_30 rfl ?_
          exact gk_iret dX5_hasRun_31 rfl rfl rfl rfl ⟨rfl, _, rfl, h⟩
        · replace h := h.2 c23
          refine gk_iconst (v := 1) dX5_hasRun_26 rfl ?_
          refine gk_goto (tgt := 31) dX5_hasRun_27 (by decide) ?_
          exact gk_iret dX5_hasRun_31 rfl rfl rfl rfl ⟨rfl, _, rfl, h⟩
set_option maxHeartbeats 4000000 in
set_option maxRecDepth 100000 in
theorem oX7_copy_101 {E : gz_E} {Q : Int32 → gz_S → Prop} : ∀  (S : gz_S), wX7_copy_101 Q S → gz_k E mX7_copy (2, 0, 0, 73) 0 0 101 [some (.ref 0), none, none, none, none, none, none, none] [] gz_F S (gz_qi Q) := by
  intro S h
  unfold wX7_copy_101 at h
  refine gk_aload_n dX7_copy_101 rfl ?_
  refine gk_iconst (v := 2) dX7_copy_102 rfl ?_
  refine gk_callV (as := [_]) (rest := []) (ctX7_found h) dX7_copy_103 rfl rfl wvX7_218 wcX7_found rfl (Nat.le_of_ble_eq_true rfl) ⟨Nat.le_refl _, Nat.le_refl _⟩ (fun h9 => absurd rfl h9) (Nat.le_of_ble_eq_true rfl) rfl (fun v G2 S103 hq => ?_)
  obtain ⟨rfl, r103, rfl, h⟩ := hq
  exact gk_iret dX7_copy_106 rfl rfl rfl rfl ⟨rfl, _, rfl, h⟩
set_option maxHeartbeats 4000000 in
set_option maxRecDepth 100000 in
theorem oX7_copy_53 {E : gz_E} {Q : Int32 → gz_S → Prop} : ∀  (S : gz_S), wX7_copy_53 Q S → gz_k E mX7_copy (2, 0, 0, 73) 0 0 53 [some (.ref 0), none, none, none, none, none, none, none] [] gz_F S (gz_qi Q) := by
  intro S h
  unfold wX7_copy_53 at h
  refine gk_aload_n dX7_copy_53 rfl ?_
  refine gk_iconst (v := 1) dX7_copy_54 rfl ?_
  refine gk_callV (as := [_]) (rest := []) (ctX7_found h) dX7_copy_55 rfl rfl wvX7_218 wcX7_found rfl (Nat.le_of_ble_eq_true rfl) ⟨Nat.le_refl _, Nat.le_refl _⟩ (fun h9 => absurd rfl h9) (Nat.le_of_ble_eq_true rfl) rfl (fun v G2 S55 hq => ?_)
  obtain ⟨rfl, r55, rfl, h⟩ := hq
  exact gk_iret dX7_copy_58 rfl rfl rfl rfl ⟨rfl, _, rfl, h⟩
set_option maxHeartbeats 4000000 in
set_option maxRecDepth 100000 in
theorem ctX7_copy {E : gz_E} {x1 : Int32} {x2 : Int32} {x3 : Int32} {x4 : Int32} {x5 : Int32} {S : gz_S} {Q : Int32 → gz_S → Prop} (h : wX7_copy x1 x2 x3 x4 x5 S Q) : gz_m E mX7_copy 2 0 0 [.ref 0, .int x1, .int x2, .int x3, .int x4, .int x5] gz_F S (gz_qi Q) := by
  refine gz_meet0 (L0 := [some (.ref 0), some (.int x1), some (.int x2), some (.int x3), some (.int x4), some (.int x5), none, none]) (by decide) rfl (Nat.le_of_ble_eq_true rfl) (by decide) ?_
  unfold wX7_copy at h
  refine gk_iload_n dX7_copy_0 rfl ?_
  refine gk_iconst (v := 0) dX7_copy_1 rfl ?_
  refine gk_iconst (v := 3) dX7_copy_2 rfl ?_
  refine gk_callS (as := [_, _, _]) (rest := []) (ctX7_within h) dX7_copy_3 wvX7_62 wcX7_within rfl (Nat.le_of_ble_eq_true rfl) ⟨Nat.le_refl _, Nat.le_refl _⟩ (fun h9 => absurd rfl h9) (Nat.le_of_ble_eq_true rfl) rfl (fun v G2 S3 hq => ?_)
  obtain ⟨rfl, r3, rfl, h⟩ := hq
  refine gk_if_eq (tgt := 18) dX7_copy_6 (by decide) (fun c6 => ?_) (fun c6 => ?_)
  · replace h := h.1 c6
    refine gk_bipush (v := (-2)) dX7_copy_18 rfl ?_
    exact gk_iret dX7_copy_20 rfl rfl rfl rfl ⟨rfl, _, rfl, h⟩
  · replace h := h.2 c6
    refine gk_iload_n dX7_copy_9 rfl ?_
    refine gk_iconst (v := 0) dX7_copy_10 rfl ?_
    refine gk_iconst (v := 3) dX7_copy_11 rfl ?_
    refine gk_callS (as := [_, _, _]) (rest := []) (ctX7_within h) dX7_copy_12 wvX7_62 wcX7_within rfl (Nat.le_of_ble_eq_true rfl) ⟨Nat.le_refl _, Nat.le_refl _⟩ (fun h9 => absurd rfl h9) (Nat.le_of_ble_eq_true rfl) rfl (fun v G2 S12 hq => ?_)
    obtain ⟨rfl, r12, rfl, h⟩ := hq
    refine gk_if_ne (tgt := 21) dX7_copy_15 (by decide) (fun c15 => ?_) (fun c15 => ?_)
    · replace h := h.1 c15
      refine gk_aload_n dX7_copy_21 rfl ?_
      refine gk_getr dX7_copy_22 rfl rfl wfX7_53 ?_
      refine gk_iload_n dX7_copy_25 rfl ?_
      rcases gz_four h.1 with hj00 | hj01 | hj02 | hj03
      · refine gk_aaload (t := 0) dX7_copy_26 rfl h.1 (by rw [hj00]; rfl) ?_
        replace h := h.2
        try rw [hj00] at h
        refine gk_astore dX7_copy_27 (Nat.le_of_ble_eq_true rfl) rfl rfl ?_
        refine gk_aload_n dX7_copy_29 rfl ?_
        refine gk_getr dX7_copy_30 rfl rfl wfX7_53 ?_
        refine gk_iload_n dX7_copy_33 rfl ?_
        rcases gz_four h.1 with hj10 | hj11 | hj12 | hj13
        · refine gk_aaload (t := 0) dX7_copy_34 rfl h.1 (by rw [hj10]; rfl) ?_
          replace h := h.2
          try rw [hj10] at h
          refine gk_astore dX7_copy_35 (Nat.le_of_ble_eq_true rfl) rfl rfl ?_
          refine gk_aload dX7_copy_37 rfl ?_
          refine gk_callV (as := []) (rest := []) (ctX5_isLost_37 h) dX7_copy_39 rfl rfl wvX7_233 wcX5_isLost rfl (Nat.le_of_ble_eq_true rfl) ⟨Nat.le_refl _, Nat.le_refl _⟩ (fun h9 => absurd rfl h9) (Nat.le_of_ble_eq_true rfl) rfl (fun v G2 S39 hq => ?_)
          obtain ⟨rfl, r39, rfl, h⟩ := hq
          refine gk_if_ne (tgt := 53) dX7_copy_42 (by decide) (fun c42 => ?_) (fun c42 => ?_)
          · replace h := h.1 c42
            exact gk_less (gz_le_s rfl (gz_le_n (gz_le_n (gz_le_n (gz_le_n (gz_le_n (gz_le_n (gz_le_n gz_le_0)))))))) (oX7_copy_53 _ h)
          · replace h := h.2 c42
            refine gk_aload dX7_copy_45 rfl ?_
            refine gk_callV (as := []) (rest := []) (ctX5_isLost_37 h) dX7_copy_47 rfl rfl wvX7_233 wcX5_isLost rfl (Nat.le_of_ble_eq_true rfl) ⟨Nat.le_refl _, Nat.le_refl _⟩ (fun h9 => absurd rfl h9) (Nat.le_of_ble_eq_true rfl) rfl (fun v G2 S47 hq => ?_)
            obtain ⟨rfl, r47, rfl, h⟩ := hq
            refine gk_if_eq (tgt := 59) dX7_copy_50 (by decide) (fun c50 => ?_) (fun c50 => ?_)
            · replace h := h.1 c50
              refine gk_aload dX7_copy_59 rfl ?_
              refine gk_geti dX7_copy_61 rfl rfl wfX7_236 ?_
              refine gk_aload dX7_copy_64 rfl ?_
              refine gk_geti dX7_copy_66 rfl rfl wfX7_236 ?_
              refine gk_icmp_eq (tgt := 78) dX7_copy_69 (by decide) (fun c69 => ?_) (fun c69 => ?_)
              · replace h := h.1 c69
                refine gk_aload dX7_copy_78 rfl ?_
                refine gk_iload_n dX7_copy_80 rfl ?_
                refine gk_iload dX7_copy_81 rfl ?_
                refine gk_callV (as := [_, _]) (rest := []) (ctX5_hasRun_37 h) dX7_copy_83 rfl rfl wvX7_239 wcX5_hasRun rfl (Nat.le_of_ble_eq_true rfl) ⟨Nat.le_refl _, Nat.le_refl _⟩ (fun h9 => absurd rfl h9) (Nat.le_of_ble_eq_true rfl) rfl (fun v G2 S83 hq => ?_)
                obtain ⟨rfl, r83, rfl, h⟩ := hq
                refine gk_if_eq (tgt := 101) dX7_copy_86 (by decide) (fun c86 => ?_) (fun c86 => ?_)
                · replace h := h.1 c86
                  exact gk_less (gz_le_s rfl (gz_le_n (gz_le_n (gz_le_n (gz_le_n (gz_le_n (gz_le_n (gz_le_n gz_le_0)))))))) (oX7_copy_101 _ h)
                · replace h := h.2 c86
                  refine gk_aload dX7_copy_89 rfl ?_
                  refine gk_iload dX7_copy_91 rfl ?_
                  refine gk_iload dX7_copy_93 rfl ?_
                  refine gk_callV (as := [_, _]) (rest := []) (ctX5_hasRun_37 h) dX7_copy_95 rfl rfl wvX7_239 wcX5_hasRun rfl (Nat.le_of_ble_eq_true rfl) ⟨Nat.le_refl _, Nat.le_refl _⟩ (fun h9 => absurd rfl h9) (Nat.le_of_ble_eq_true rfl) rfl (fun v G2 S95 hq => ?_)
                  obtain ⟨rfl, r95, rfl, h⟩ := hq
                  refine gk_if_ne (tgt := 107) dX7_copy_98 (by decide) (fun c98 => ?_) (fun c98 => ?_)
                  · replace h := h.1 c98
                    refine gk_aload dX7_copy_107 rfl ?_
                    refine gk_getr dX7_copy_109 rfl rfl wfX7_143 ?_
                    refine gk_iload_n dX7_copy_112 rfl ?_
                    refine gk_aload dX7_copy_113 rfl ?_
                    refine gk_getr dX7_copy_115 rfl rfl wfX7_143 ?_
                    refine gk_iload dX7_copy_118 rfl ?_
                    refine gk_iload dX7_copy_120 rfl ?_
                    refine gk_copy dX7_copy_122 wk_copy wk_copyN wk_copyS wk_copyI rfl rfl h.1 h.2.1 h.2.2.1 h.2.2.2.1 h.2.2.2.2.1 (Nat.le_of_ble_eq_true rfl) (Nat.le_of_ble_eq_true rfl) ?_
                    replace h := h.2.2.2.2.2
                    refine gk_nmS (fun S122 eS122 => ?_)
                    replace h := h S122 eS122
                    refine gk_iconst (v := 1) dX7_copy_125 rfl ?_
                    exact gk_iret dX7_copy_126 rfl rfl rfl rfl ⟨rfl, _, rfl, h⟩
                  · replace h := h.2 c98
                    exact gk_less (gz_le_s rfl (gz_le_n (gz_le_n (gz_le_n (gz_le_n (gz_le_n (gz_le_n (gz_le_n gz_le_0)))))))) (oX7_copy_101 _ h)
              · replace h := h.2 c69
                refine gk_aload_n dX7_copy_72 rfl ?_
                refine gk_iconst (v := 4) dX7_copy_73 rfl ?_
                refine gk_callV (as := [_]) (rest := []) (ctX7_found h) dX7_copy_74 rfl rfl wvX7_218 wcX7_found rfl (Nat.le_of_ble_eq_true rfl) ⟨Nat.le_refl _, Nat.le_refl _⟩ (fun h9 => absurd rfl h9) (Nat.le_of_ble_eq_true rfl) rfl (fun v G2 S74 hq => ?_)
                obtain ⟨rfl, r74, rfl, h⟩ := hq
                exact gk_iret dX7_copy_77 rfl rfl rfl rfl ⟨rfl, _, rfl, h⟩
            · replace h := h.2 c50
              exact gk_less (gz_le_s rfl (gz_le_n (gz_le_n (gz_le_n (gz_le_n (gz_le_n (gz_le_n (gz_le_n gz_le_0)))))))) (oX7_copy_53 _ h)
        · refine gk_aaload (t := 0) dX7_copy_34 rfl h.1 (by rw [hj11]; rfl) ?_
          replace h := h.2
          try rw [hj11] at h
          refine gk_astore dX7_copy_35 (Nat.le_of_ble_eq_true rfl) rfl rfl ?_
          refine gk_aload dX7_copy_37 rfl ?_
          refine gk_callV (as := []) (rest := []) (ctX5_isLost_37 h) dX7_copy_39 rfl rfl wvX7_233 wcX5_isLost rfl (Nat.le_of_ble_eq_true rfl) ⟨Nat.le_refl _, Nat.le_refl _⟩ (fun h9 => absurd rfl h9) (Nat.le_of_ble_eq_true rfl) rfl (fun v G2 S39_1 hq => ?_)
          obtain ⟨rfl, r39_1, rfl, h⟩ := hq
          refine gk_if_ne (tgt := 53) dX7_copy_42 (by decide) (fun c42 => ?_) (fun c42 => ?_)
          · replace h := h.1 c42
            exact gk_less (gz_le_s rfl (gz_le_n (gz_le_n (gz_le_n (gz_le_n (gz_le_n (gz_le_n (gz_le_n gz_le_0)))))))) (oX7_copy_53 _ h)
          · replace h := h.2 c42
            refine gk_aload dX7_copy_45 rfl ?_
            refine gk_callV (as := []) (rest := []) (ctX5_isLost_39 h) dX7_copy_47 rfl rfl wvX7_233 wcX5_isLost rfl (Nat.le_of_ble_eq_true rfl) ⟨Nat.le_refl _, Nat.le_refl _⟩ (fun h9 => absurd rfl h9) (Nat.le_of_ble_eq_true rfl) rfl (fun v G2 S47_1 hq => ?_)
            obtain ⟨rfl, r47_1, rfl, h⟩ := hq
            refine gk_if_eq (tgt := 59) dX7_copy_50 (by decide) (fun c50 => ?_) (fun c50 => ?_)
            · replace h := h.1 c50
              refine gk_aload dX7_copy_59 rfl ?_
              refine gk_geti dX7_copy_61 rfl rfl wfX7_236 ?_
              refine gk_aload dX7_copy_64 rfl ?_
              refine gk_geti dX7_copy_66 rfl rfl wfX7_236 ?_
              refine gk_icmp_eq (tgt := 78) dX7_copy_69 (by decide) (fun c69 => ?_) (fun c69 => ?_)
              · replace h := h.1 c69
                refine gk_aload dX7_copy_78 rfl ?_
                refine gk_iload_n dX7_copy_80 rfl ?_
                refine gk_iload dX7_copy_81 rfl ?_
                refine gk_callV (as := [_, _]) (rest := []) (ctX5_hasRun_37 h) dX7_copy_83 rfl rfl wvX7_239 wcX5_hasRun rfl (Nat.le_of_ble_eq_true rfl) ⟨Nat.le_refl _, Nat.le_refl _⟩ (fun h9 => absurd rfl h9) (Nat.le_of_ble_eq_true rfl) rfl (fun v G2 S83_1 hq => ?_)
                obtain ⟨rfl, r83_1, rfl, h⟩ := hq
                refine gk_if_eq (tgt := 101) dX7_copy_86 (by decide) (fun c86 => ?_) (fun c86 => ?_)
                · replace h := h.1 c86
                  exact gk_less (gz_le_s rfl (gz_le_n (gz_le_n (gz_le_n (gz_le_n (gz_le_n (gz_le_n (gz_le_n gz_le_0)))))))) (oX7_copy_101 _ h)
                · replace h := h.2 c86
                  refine gk_aload dX7_copy_89 rfl ?_
                  refine gk_iload dX7_copy_91 rfl ?_
                  refine gk_iload dX7_copy_93 rfl ?_
                  refine gk_callV (as := [_, _]) (rest := []) (ctX5_hasRun_39 h) dX7_copy_95 rfl rfl wvX7_239 wcX5_hasRun rfl (Nat.le_of_ble_eq_true rfl) ⟨Nat.le_refl _, Nat.le_refl _⟩ (fun h9 => absurd rfl h9) (Nat.le_of_ble_eq_true rfl) rfl (fun v G2 S95_1 hq => ?_)
                  obtain ⟨rfl, r95_1, rfl, h⟩ := hq
                  refine gk_if_ne (tgt := 107) dX7_copy_98 (by decide) (fun c98 => ?_) (fun c98 => ?_)
                  · replace h := h.1 c98
                    refine gk_aload dX7_copy_107 rfl ?_
                    refine gk_getr dX7_copy_109 rfl rfl wfX7_143 ?_
                    refine gk_iload_n dX7_copy_112 rfl ?_
                    refine gk_aload dX7_copy_113 rfl ?_
                    refine gk_getr dX7_copy_115 rfl rfl wfX7_143 ?_
                    refine gk_iload dX7_copy_118 rfl ?_
                    refine gk_iload dX7_copy_120 rfl ?_
                    refine gk_copy dX7_copy_122 wk_copy wk_copyN wk_copyS wk_copyI rfl rfl h.1 h.2.1 h.2.2.1 h.2.2.2.1 h.2.2.2.2.1 (Nat.le_of_ble_eq_true rfl) (Nat.le_of_ble_eq_true rfl) ?_
                    replace h := h.2.2.2.2.2
                    refine gk_nmS (fun S122_1 eS122_1 => ?_)
                    replace h := h S122_1 eS122_1
                    refine gk_iconst (v := 1) dX7_copy_125 rfl ?_
                    exact gk_iret dX7_copy_126 rfl rfl rfl rfl ⟨rfl, _, rfl, h⟩
                  · replace h := h.2 c98
                    exact gk_less (gz_le_s rfl (gz_le_n (gz_le_n (gz_le_n (gz_le_n (gz_le_n (gz_le_n (gz_le_n gz_le_0)))))))) (oX7_copy_101 _ h)
              · replace h := h.2 c69
                refine gk_aload_n dX7_copy_72 rfl ?_
                refine gk_iconst (v := 4) dX7_copy_73 rfl ?_
                refine gk_callV (as := [_]) (rest := []) (ctX7_found h) dX7_copy_74 rfl rfl wvX7_218 wcX7_found rfl (Nat.le_of_ble_eq_true rfl) ⟨Nat.le_refl _, Nat.le_refl _⟩ (fun h9 => absurd rfl h9) (Nat.le_of_ble_eq_true rfl) rfl (fun v G2 S74_1 hq => ?_)
                obtain ⟨rfl, r74_1, rfl, h⟩ := hq
                exact gk_iret dX7_copy_77 rfl rfl rfl rfl ⟨rfl, _, rfl, h⟩
            · replace h := h.2 c50
              exact gk_less (gz_le_s rfl (gz_le_n (gz_le_n (gz_le_n (gz_le_n (gz_le_n (gz_le_n (gz_le_n gz_le_0)))))))) (oX7_copy_53 _ h)
        · refine gk_aaload (t := 0) dX7_copy_34 rfl h.1 (by rw [hj12]; rfl) ?_
          replace h := h.2
          try rw [hj12] at h
          refine gk_astore dX7_copy_35 (Nat.le_of_ble_eq_true rfl) rfl rfl ?_
          refine gk_aload dX7_copy_37 rfl ?_
          refine gk_callV (as := []) (rest := []) (ctX5_isLost_37 h) dX7_copy_39 rfl rfl wvX7_233 wcX5_isLost rfl (Nat.le_of_ble_eq_true rfl) ⟨Nat.le_refl _, Nat.le_refl _⟩ (fun h9 => absurd rfl h9) (Nat.le_of_ble_eq_true rfl) rfl (fun v G2 S39_2 hq => ?_)
          obtain ⟨rfl, r39_2, rfl, h⟩ := hq
          refine gk_if_ne (tgt := 53) dX7_copy_42 (by decide) (fun c42 => ?_) (fun c42 => ?_)
          · replace h := h.1 c42
            exact gk_less (gz_le_s rfl (gz_le_n (gz_le_n (gz_le_n (gz_le_n (gz_le_n (gz_le_n (gz_le_n gz_le_0)))))))) (oX7_copy_53 _ h)
          · replace h := h.2 c42
            refine gk_aload dX7_copy_45 rfl ?_
            refine gk_callV (as := []) (rest := []) (ctX5_isLost_41 h) dX7_copy_47 rfl rfl wvX7_233 wcX5_isLost rfl (Nat.le_of_ble_eq_true rfl) ⟨Nat.le_refl _, Nat.le_refl _⟩ (fun h9 => absurd rfl h9) (Nat.le_of_ble_eq_true rfl) rfl (fun v G2 S47_2 hq => ?_)
            obtain ⟨rfl, r47_2, rfl, h⟩ := hq
            refine gk_if_eq (tgt := 59) dX7_copy_50 (by decide) (fun c50 => ?_) (fun c50 => ?_)
            · replace h := h.1 c50
              refine gk_aload dX7_copy_59 rfl ?_
              refine gk_geti dX7_copy_61 rfl rfl wfX7_236 ?_
              refine gk_aload dX7_copy_64 rfl ?_
              refine gk_geti dX7_copy_66 rfl rfl wfX7_236 ?_
              refine gk_icmp_eq (tgt := 78) dX7_copy_69 (by decide) (fun c69 => ?_) (fun c69 => ?_)
              · replace h := h.1 c69
                refine gk_aload dX7_copy_78 rfl ?_
                refine gk_iload_n dX7_copy_80 rfl ?_
                refine gk_iload dX7_copy_81 rfl ?_
                refine gk_callV (as := [_, _]) (rest := []) (ctX5_hasRun_37 h) dX7_copy_83 rfl rfl wvX7_239 wcX5_hasRun rfl (Nat.le_of_ble_eq_true rfl) ⟨Nat.le_refl _, Nat.le_refl _⟩ (fun h9 => absurd rfl h9) (Nat.le_of_ble_eq_true rfl) rfl (fun v G2 S83_2 hq => ?_)
                obtain ⟨rfl, r83_2, rfl, h⟩ := hq
                refine gk_if_eq (tgt := 101) dX7_copy_86 (by decide) (fun c86 => ?_) (fun c86 => ?_)
                · replace h := h.1 c86
                  exact gk_less (gz_le_s rfl (gz_le_n (gz_le_n (gz_le_n (gz_le_n (gz_le_n (gz_le_n (gz_le_n gz_le_0)))))))) (oX7_copy_101 _ h)
                · replace h := h.2 c86
                  refine gk_aload dX7_copy_89 rfl ?_
                  refine gk_iload dX7_copy_91 rfl ?_
                  refine gk_iload dX7_copy_93 rfl ?_
                  refine gk_callV (as := [_, _]) (rest := []) (ctX5_hasRun_41 h) dX7_copy_95 rfl rfl wvX7_239 wcX5_hasRun rfl (Nat.le_of_ble_eq_true rfl) ⟨Nat.le_refl _, Nat.le_refl _⟩ (fun h9 => absurd rfl h9) (Nat.le_of_ble_eq_true rfl) rfl (fun v G2 S95_2 hq => ?_)
                  obtain ⟨rfl, r95_2, rfl, h⟩ := hq
                  refine gk_if_ne (tgt := 107) dX7_copy_98 (by decide) (fun c98 => ?_) (fun c98 => ?_)
                  · replace h := h.1 c98
                    refine gk_aload dX7_copy_107 rfl ?_
                    refine gk_getr dX7_copy_109 rfl rfl wfX7_143 ?_
                    refine gk_iload_n dX7_copy_112 rfl ?_
                    refine gk_aload dX7_copy_113 rfl ?_
                    refine gk_getr dX7_copy_115 rfl rfl wfX7_143 ?_
                    refine gk_iload dX7_copy_118 rfl ?_
                    refine gk_iload dX7_copy_120 rfl ?_
                    refine gk_copy dX7_copy_122 wk_copy wk_copyN wk_copyS wk_copyI rfl rfl h.1 h.2.1 h.2.2.1 h.2.2.2.1 h.2.2.2.2.1 (Nat.le_of_ble_eq_true rfl) (Nat.le_of_ble_eq_true rfl) ?_
                    replace h := h.2.2.2.2.2
                    refine gk_nmS (fun S122_2 eS122_2 => ?_)
                    replace h := h S122_2 eS122_2
                    refine gk_iconst (v := 1) dX7_copy_125 rfl ?_
                    exact gk_iret dX7_copy_126 rfl rfl rfl rfl ⟨rfl, _, rfl, h⟩
                  · replace h := h.2 c98
                    exact gk_less (gz_le_s rfl (gz_le_n (gz_le_n (gz_le_n (gz_le_n (gz_le_n (gz_le_n (gz_le_n gz_le_0)))))))) (oX7_copy_101 _ h)
              · replace h := h.2 c69
                refine gk_aload_n dX7_copy_72 rfl ?_
                refine gk_iconst (v := 4) dX7_copy_73 rfl ?_
                refine gk_callV (as := [_]) (rest := []) (ctX7_found h) dX7_copy_74 rfl rfl wvX7_218 wcX7_found rfl (Nat.le_of_ble_eq_true rfl) ⟨Nat.le_refl _, Nat.le_refl _⟩ (fun h9 => absurd rfl h9) (Nat.le_of_ble_eq_true rfl) rfl (fun v G2 S74_2 hq => ?_)
                obtain ⟨rfl, r74_2, rfl, h⟩ := hq
                exact gk_iret dX7_copy_77 rfl rfl rfl rfl ⟨rfl, _, rfl, h⟩
            · replace h := h.2 c50
              exact gk_less (gz_le_s rfl (gz_le_n (gz_le_n (gz_le_n (gz_le_n (gz_le_n (gz_le_n (gz_le_n gz_le_0)))))))) (oX7_copy_53 _ h)
        · refine gk_aaload (t := 0) dX7_copy_34 rfl h.1 (by rw [hj13]; rfl) ?_
          replace h := h.2
          try rw [hj13] at h
          refine gk_astore dX7_copy_35 (Nat.le_of_ble_eq_true rfl) rfl rfl ?_
          refine gk_aload dX7_copy_37 rfl ?_
          refine gk_callV (as := []) (rest := []) (ctX5_isLost_37 h) dX7_copy_39 rfl rfl wvX7_233 wcX5_isLost rfl (Nat.le_of_ble_eq_true rfl) ⟨Nat.le_refl _, Nat.le_refl _⟩ (fun h9 => absurd rfl h9) (Nat.le_of_ble_eq_true rfl) rfl (fun v G2 S39_3 hq => ?_)
          obtain ⟨rfl, r39_3, rfl, h⟩ := hq
          refine gk_if_ne (tgt := 53) dX7_copy_42 (by decide) (fun c42 => ?_) (fun c42 => ?_)
          · replace h := h.1 c42
            exact gk_less (gz_le_s rfl (gz_le_n (gz_le_n (gz_le_n (gz_le_n (gz_le_n (gz_le_n (gz_le_n gz_le_0)))))))) (oX7_copy_53 _ h)
          · replace h := h.2 c42
            refine gk_aload dX7_copy_45 rfl ?_
            refine gk_callV (as := []) (rest := []) (ctX5_isLost_43 h) dX7_copy_47 rfl rfl wvX7_233 wcX5_isLost rfl (Nat.le_of_ble_eq_true rfl) ⟨Nat.le_refl _, Nat.le_refl _⟩ (fun h9 => absurd rfl h9) (Nat.le_of_ble_eq_true rfl) rfl (fun v G2 S47_3 hq => ?_)
            obtain ⟨rfl, r47_3, rfl, h⟩ := hq
            refine gk_if_eq (tgt := 59) dX7_copy_50 (by decide) (fun c50 => ?_) (fun c50 => ?_)
            · replace h := h.1 c50
              refine gk_aload dX7_copy_59 rfl ?_
              refine gk_geti dX7_copy_61 rfl rfl wfX7_236 ?_
              refine gk_aload dX7_copy_64 rfl ?_
              refine gk_geti dX7_copy_66 rfl rfl wfX7_236 ?_
              refine gk_icmp_eq (tgt := 78) dX7_copy_69 (by decide) (fun c69 => ?_) (fun c69 => ?_)
              · replace h := h.1 c69
                refine gk_aload dX7_copy_78 rfl ?_
                refine gk_iload_n dX7_copy_80 rfl ?_
                refine gk_iload dX7_copy_81 rfl ?_
                refine gk_callV (as := [_, _]) (rest := []) (ctX5_hasRun_37 h) dX7_copy_83 rfl rfl wvX7_239 wcX5_hasRun rfl (Nat.le_of_ble_eq_true rfl) ⟨Nat.le_refl _, Nat.le_refl _⟩ (fun h9 => absurd rfl h9) (Nat.le_of_ble_eq_true rfl) rfl (fun v G2 S83_3 hq => ?_)
                obtain ⟨rfl, r83_3, rfl, h⟩ := hq
                refine gk_if_eq (tgt := 101) dX7_copy_86 (by decide) (fun c86 => ?_) (fun c86 => ?_)
                · replace h := h.1 c86
                  exact gk_less (gz_le_s rfl (gz_le_n (gz_le_n (gz_le_n (gz_le_n (gz_le_n (gz_le_n (gz_le_n gz_le_0)))))))) (oX7_copy_101 _ h)
                · replace h := h.2 c86
                  refine gk_aload dX7_copy_89 rfl ?_
                  refine gk_iload dX7_copy_91 rfl ?_
                  refine gk_iload dX7_copy_93 rfl ?_
                  refine gk_callV (as := [_, _]) (rest := []) (ctX5_hasRun_43 h) dX7_copy_95 rfl rfl wvX7_239 wcX5_hasRun rfl (Nat.le_of_ble_eq_true rfl) ⟨Nat.le_refl _, Nat.le_refl _⟩ (fun h9 => absurd rfl h9) (Nat.le_of_ble_eq_true rfl) rfl (fun v G2 S95_3 hq => ?_)
                  obtain ⟨rfl, r95_3, rfl, h⟩ := hq
                  refine gk_if_ne (tgt := 107) dX7_copy_98 (by decide) (fun c98 => ?_) (fun c98 => ?_)
                  · replace h := h.1 c98
                    refine gk_aload dX7_copy_107 rfl ?_
                    refine gk_getr dX7_copy_109 rfl rfl wfX7_143 ?_
                    refine gk_iload_n dX7_copy_112 rfl ?_
                    refine gk_aload dX7_copy_113 rfl ?_
                    refine gk_getr dX7_copy_115 rfl rfl wfX7_143 ?_
                    refine gk_iload dX7_copy_118 rfl ?_
                    refine gk_iload dX7_copy_120 rfl ?_
                    refine gk_copy dX7_copy_122 wk_copy wk_copyN wk_copyS wk_copyI rfl rfl h.1 h.2.1 h.2.2.1 h.2.2.2.1 h.2.2.2.2.1 (Nat.le_of_ble_eq_true rfl) (Nat.le_of_ble_eq_true rfl) ?_
                    replace h := h.2.2.2.2.2
                    refine gk_nmS (fun S122_3 eS122_3 => ?_)
                    replace h := h S122_3 eS122_3
                    refine gk_iconst (v := 1) dX7_copy_125 rfl ?_
                    exact gk_iret dX7_copy_126 rfl rfl rfl rfl ⟨rfl, _, rfl, h⟩
                  · replace h := h.2 c98
                    exact gk_less (gz_le_s rfl (gz_le_n (gz_le_n (gz_le_n (gz_le_n (gz_le_n (gz_le_n (gz_le_n gz_le_0)))))))) (oX7_copy_101 _ h)
              · replace h := h.2 c69
                refine gk_aload_n dX7_copy_72 rfl ?_
                refine gk_iconst (v := 4) dX7_copy_73 rfl ?_
                refine gk_callV (as := [_]) (rest := []) (ctX7_found h) dX7_copy_74 rfl rfl wvX7_218 wcX7_found rfl (Nat.le_of_ble_eq_true rfl) ⟨Nat.le_refl _, Nat.le_refl _⟩ (fun h9 => absurd rfl h9) (Nat.le_of_ble_eq_true rfl) rfl (fun v G2 S74_3 hq => ?_)
                obtain ⟨rfl, r74_3, rfl, h⟩ := hq
                exact gk_iret dX7_copy_77 rfl rfl rfl rfl ⟨rfl, _, rfl, h⟩
            · replace h := h.2 c50
              exact gk_less (gz_le_s rfl (gz_le_n (gz_le_n (gz_le_n (gz_le_n (gz_le_n (gz_le_n (gz_le_n gz_le_0)))))))) (oX7_copy_53 _ h)
      · refine gk_aaload (t := 0) dX7_copy_26 rfl h.1 (by rw [hj01]; rfl) ?_
        replace h := h.2
        try rw [hj01] at h
        refine gk_astore dX7_copy_27 (Nat.le_of_ble_eq_true rfl) rfl rfl ?_
        refine gk_aload_n dX7_copy_29 rfl ?_
        refine gk_getr dX7_copy_30 rfl rfl wfX7_53 ?_
        refine gk_iload_n dX7_copy_33 rfl ?_
        rcases gz_four h.1 with hj10 | hj11 | hj12 | hj13
        · refine gk_aaload (t := 0) dX7_copy_34 rfl h.1 (by rw [hj10]; rfl) ?_
          replace h := h.2
          try rw [hj10] at h
          refine gk_astore dX7_copy_35 (Nat.le_of_ble_eq_true rfl) rfl rfl ?_
          refine gk_aload dX7_copy_37 rfl ?_
          refine gk_callV (as := []) (rest := []) (ctX5_isLost_39 h) dX7_copy_39 rfl rfl wvX7_233 wcX5_isLost rfl (Nat.le_of_ble_eq_true rfl) ⟨Nat.le_refl _, Nat.le_refl _⟩ (fun h9 => absurd rfl h9) (Nat.le_of_ble_eq_true rfl) rfl (fun v G2 S39_4 hq => ?_)
          obtain ⟨rfl, r39_4, rfl, h⟩ := hq
          refine gk_if_ne (tgt := 53) dX7_copy_42 (by decide) (fun c42 => ?_) (fun c42 => ?_)
          · replace h := h.1 c42
            exact gk_less (gz_le_s rfl (gz_le_n (gz_le_n (gz_le_n (gz_le_n (gz_le_n (gz_le_n (gz_le_n gz_le_0)))))))) (oX7_copy_53 _ h)
          · replace h := h.2 c42
            refine gk_aload dX7_copy_45 rfl ?_
            refine gk_callV (as := []) (rest := []) (ctX5_isLost_37 h) dX7_copy_47 rfl rfl wvX7_233 wcX5_isLost rfl (Nat.le_of_ble_eq_true rfl) ⟨Nat.le_refl _, Nat.le_refl _⟩ (fun h9 => absurd rfl h9) (Nat.le_of_ble_eq_true rfl) rfl (fun v G2 S47_4 hq => ?_)
            obtain ⟨rfl, r47_4, rfl, h⟩ := hq
            refine gk_if_eq (tgt := 59) dX7_copy_50 (by decide) (fun c50 => ?_) (fun c50 => ?_)
            · replace h := h.1 c50
              refine gk_aload dX7_copy_59 rfl ?_
              refine gk_geti dX7_copy_61 rfl rfl wfX7_236 ?_
              refine gk_aload dX7_copy_64 rfl ?_
              refine gk_geti dX7_copy_66 rfl rfl wfX7_236 ?_
              refine gk_icmp_eq (tgt := 78) dX7_copy_69 (by decide) (fun c69 => ?_) (fun c69 => ?_)
              · replace h := h.1 c69
                refine gk_aload dX7_copy_78 rfl ?_
                refine gk_iload_n dX7_copy_80 rfl ?_
                refine gk_iload dX7_copy_81 rfl ?_
                refine gk_callV (as := [_, _]) (rest := []) (ctX5_hasRun_39 h) dX7_copy_83 rfl rfl wvX7_239 wcX5_hasRun rfl (Nat.le_of_ble_eq_true rfl) ⟨Nat.le_refl _, Nat.le_refl _⟩ (fun h9 => absurd rfl h9) (Nat.le_of_ble_eq_true rfl) rfl (fun v G2 S83_4 hq => ?_)
                obtain ⟨rfl, r83_4, rfl, h⟩ := hq
                refine gk_if_eq (tgt := 101) dX7_copy_86 (by decide) (fun c86 => ?_) (fun c86 => ?_)
                · replace h := h.1 c86
                  exact gk_less (gz_le_s rfl (gz_le_n (gz_le_n (gz_le_n (gz_le_n (gz_le_n (gz_le_n (gz_le_n gz_le_0)))))))) (oX7_copy_101 _ h)
                · replace h := h.2 c86
                  refine gk_aload dX7_copy_89 rfl ?_
                  refine gk_iload dX7_copy_91 rfl ?_
                  refine gk_iload dX7_copy_93 rfl ?_
                  refine gk_callV (as := [_, _]) (rest := []) (ctX5_hasRun_37 h) dX7_copy_95 rfl rfl wvX7_239 wcX5_hasRun rfl (Nat.le_of_ble_eq_true rfl) ⟨Nat.le_refl _, Nat.le_refl _⟩ (fun h9 => absurd rfl h9) (Nat.le_of_ble_eq_true rfl) rfl (fun v G2 S95_4 hq => ?_)
                  obtain ⟨rfl, r95_4, rfl, h⟩ := hq
                  refine gk_if_ne (tgt := 107) dX7_copy_98 (by decide) (fun c98 => ?_) (fun c98 => ?_)
                  · replace h := h.1 c98
                    refine gk_aload dX7_copy_107 rfl ?_
                    refine gk_getr dX7_copy_109 rfl rfl wfX7_143 ?_
                    refine gk_iload_n dX7_copy_112 rfl ?_
                    refine gk_aload dX7_copy_113 rfl ?_
                    refine gk_getr dX7_copy_115 rfl rfl wfX7_143 ?_
                    refine gk_iload dX7_copy_118 rfl ?_
                    refine gk_iload dX7_copy_120 rfl ?_
                    refine gk_copy dX7_copy_122 wk_copy wk_copyN wk_copyS wk_copyI rfl rfl h.1 h.2.1 h.2.2.1 h.2.2.2.1 h.2.2.2.2.1 (Nat.le_of_ble_eq_true rfl) (Nat.le_of_ble_eq_true rfl) ?_
                    replace h := h.2.2.2.2.2
                    refine gk_nmS (fun S122_4 eS122_4 => ?_)
                    replace h := h S122_4 eS122_4
                    refine gk_iconst (v := 1) dX7_copy_125 rfl ?_
                    exact gk_iret dX7_copy_126 rfl rfl rfl rfl ⟨rfl, _, rfl, h⟩
                  · replace h := h.2 c98
                    exact gk_less (gz_le_s rfl (gz_le_n (gz_le_n (gz_le_n (gz_le_n (gz_le_n (gz_le_n (gz_le_n gz_le_0)))))))) (oX7_copy_101 _ h)
              · replace h := h.2 c69
                refine gk_aload_n dX7_copy_72 rfl ?_
                refine gk_iconst (v := 4) dX7_copy_73 rfl ?_
                refine gk_callV (as := [_]) (rest := []) (ctX7_found h) dX7_copy_74 rfl rfl wvX7_218 wcX7_found rfl (Nat.le_of_ble_eq_true rfl) ⟨Nat.le_refl _, Nat.le_refl _⟩ (fun h9 => absurd rfl h9) (Nat.le_of_ble_eq_true rfl) rfl (fun v G2 S74_4 hq => ?_)
                obtain ⟨rfl, r74_4, rfl, h⟩ := hq
                exact gk_iret dX7_copy_77 rfl rfl rfl rfl ⟨rfl, _, rfl, h⟩
            · replace h := h.2 c50
              exact gk_less (gz_le_s rfl (gz_le_n (gz_le_n (gz_le_n (gz_le_n (gz_le_n (gz_le_n (gz_le_n gz_le_0)))))))) (oX7_copy_53 _ h)
        · refine gk_aaload (t := 0) dX7_copy_34 rfl h.1 (by rw [hj11]; rfl) ?_
          replace h := h.2
          try rw [hj11] at h
          refine gk_astore dX7_copy_35 (Nat.le_of_ble_eq_true rfl) rfl rfl ?_
          refine gk_aload dX7_copy_37 rfl ?_
          refine gk_callV (as := []) (rest := []) (ctX5_isLost_39 h) dX7_copy_39 rfl rfl wvX7_233 wcX5_isLost rfl (Nat.le_of_ble_eq_true rfl) ⟨Nat.le_refl _, Nat.le_refl _⟩ (fun h9 => absurd rfl h9) (Nat.le_of_ble_eq_true rfl) rfl (fun v G2 S39_5 hq => ?_)
          obtain ⟨rfl, r39_5, rfl, h⟩ := hq
          refine gk_if_ne (tgt := 53) dX7_copy_42 (by decide) (fun c42 => ?_) (fun c42 => ?_)
          · replace h := h.1 c42
            exact gk_less (gz_le_s rfl (gz_le_n (gz_le_n (gz_le_n (gz_le_n (gz_le_n (gz_le_n (gz_le_n gz_le_0)))))))) (oX7_copy_53 _ h)
          · replace h := h.2 c42
            refine gk_aload dX7_copy_45 rfl ?_
            refine gk_callV (as := []) (rest := []) (ctX5_isLost_39 h) dX7_copy_47 rfl rfl wvX7_233 wcX5_isLost rfl (Nat.le_of_ble_eq_true rfl) ⟨Nat.le_refl _, Nat.le_refl _⟩ (fun h9 => absurd rfl h9) (Nat.le_of_ble_eq_true rfl) rfl (fun v G2 S47_5 hq => ?_)
            obtain ⟨rfl, r47_5, rfl, h⟩ := hq
            refine gk_if_eq (tgt := 59) dX7_copy_50 (by decide) (fun c50 => ?_) (fun c50 => ?_)
            · replace h := h.1 c50
              refine gk_aload dX7_copy_59 rfl ?_
              refine gk_geti dX7_copy_61 rfl rfl wfX7_236 ?_
              refine gk_aload dX7_copy_64 rfl ?_
              refine gk_geti dX7_copy_66 rfl rfl wfX7_236 ?_
              refine gk_icmp_eq (tgt := 78) dX7_copy_69 (by decide) (fun c69 => ?_) (fun c69 => ?_)
              · replace h := h.1 c69
                refine gk_aload dX7_copy_78 rfl ?_
                refine gk_iload_n dX7_copy_80 rfl ?_
                refine gk_iload dX7_copy_81 rfl ?_
                refine gk_callV (as := [_, _]) (rest := []) (ctX5_hasRun_39 h) dX7_copy_83 rfl rfl wvX7_239 wcX5_hasRun rfl (Nat.le_of_ble_eq_true rfl) ⟨Nat.le_refl _, Nat.le_refl _⟩ (fun h9 => absurd rfl h9) (Nat.le_of_ble_eq_true rfl) rfl (fun v G2 S83_5 hq => ?_)
                obtain ⟨rfl, r83_5, rfl, h⟩ := hq
                refine gk_if_eq (tgt := 101) dX7_copy_86 (by decide) (fun c86 => ?_) (fun c86 => ?_)
                · replace h := h.1 c86
                  exact gk_less (gz_le_s rfl (gz_le_n (gz_le_n (gz_le_n (gz_le_n (gz_le_n (gz_le_n (gz_le_n gz_le_0)))))))) (oX7_copy_101 _ h)
                · replace h := h.2 c86
                  refine gk_aload dX7_copy_89 rfl ?_
                  refine gk_iload dX7_copy_91 rfl ?_
                  refine gk_iload dX7_copy_93 rfl ?_
                  refine gk_callV (as := [_, _]) (rest := []) (ctX5_hasRun_39 h) dX7_copy_95 rfl rfl wvX7_239 wcX5_hasRun rfl (Nat.le_of_ble_eq_true rfl) ⟨Nat.le_refl _, Nat.le_refl _⟩ (fun h9 => absurd rfl h9) (Nat.le_of_ble_eq_true rfl) rfl (fun v G2 S95_5 hq => ?_)
                  obtain ⟨rfl, r95_5, rfl, h⟩ := hq
                  refine gk_if_ne (tgt := 107) dX7_copy_98 (by decide) (fun c98 => ?_) (fun c98 => ?_)
                  · replace h := h.1 c98
                    refine gk_aload dX7_copy_107 rfl ?_
                    refine gk_getr dX7_copy_109 rfl rfl wfX7_143 ?_
                    refine gk_iload_n dX7_copy_112 rfl ?_
                    refine gk_aload dX7_copy_113 rfl ?_
                    refine gk_getr dX7_copy_115 rfl rfl wfX7_143 ?_
                    refine gk_iload dX7_copy_118 rfl ?_
                    refine gk_iload dX7_copy_120 rfl ?_
                    refine gk_copy dX7_copy_122 wk_copy wk_copyN wk_copyS wk_copyI rfl rfl h.1 h.2.1 h.2.2.1 h.2.2.2.1 h.2.2.2.2.1 (Nat.le_of_ble_eq_true rfl) (Nat.le_of_ble_eq_true rfl) ?_
                    replace h := h.2.2.2.2.2
                    refine gk_nmS (fun S122_5 eS122_5 => ?_)
                    replace h := h S122_5 eS122_5
                    refine gk_iconst (v := 1) dX7_copy_125 rfl ?_
                    exact gk_iret dX7_copy_126 rfl rfl rfl rfl ⟨rfl, _, rfl, h⟩
                  · replace h := h.2 c98
                    exact gk_less (gz_le_s rfl (gz_le_n (gz_le_n (gz_le_n (gz_le_n (gz_le_n (gz_le_n (gz_le_n gz_le_0)))))))) (oX7_copy_101 _ h)
              · replace h := h.2 c69
                refine gk_aload_n dX7_copy_72 rfl ?_
                refine gk_iconst (v := 4) dX7_copy_73 rfl ?_
                refine gk_callV (as := [_]) (rest := []) (ctX7_found h) dX7_copy_74 rfl rfl wvX7_218 wcX7_found rfl (Nat.le_of_ble_eq_true rfl) ⟨Nat.le_refl _, Nat.le_refl _⟩ (fun h9 => absurd rfl h9) (Nat.le_of_ble_eq_true rfl) rfl (fun v G2 S74_5 hq => ?_)
                obtain ⟨rfl, r74_5, rfl, h⟩ := hq
                exact gk_iret dX7_copy_77 rfl rfl rfl rfl ⟨rfl, _, rfl, h⟩
            · replace h := h.2 c50
              exact gk_less (gz_le_s rfl (gz_le_n (gz_le_n (gz_le_n (gz_le_n (gz_le_n (gz_le_n (gz_le_n gz_le_0)))))))) (oX7_copy_53 _ h)
        · refine gk_aaload (t := 0) dX7_copy_34 rfl h.1 (by rw [hj12]; rfl) ?_
          replace h := h.2
          try rw [hj12] at h
          refine gk_astore dX7_copy_35 (Nat.le_of_ble_eq_true rfl) rfl rfl ?_
          refine gk_aload dX7_copy_37 rfl ?_
          refine gk_callV (as := []) (rest := []) (ctX5_isLost_39 h) dX7_copy_39 rfl rfl wvX7_233 wcX5_isLost rfl (Nat.le_of_ble_eq_true rfl) ⟨Nat.le_refl _, Nat.le_refl _⟩ (fun h9 => absurd rfl h9) (Nat.le_of_ble_eq_true rfl) rfl (fun v G2 S39_6 hq => ?_)
          obtain ⟨rfl, r39_6, rfl, h⟩ := hq
          refine gk_if_ne (tgt := 53) dX7_copy_42 (by decide) (fun c42 => ?_) (fun c42 => ?_)
          · replace h := h.1 c42
            exact gk_less (gz_le_s rfl (gz_le_n (gz_le_n (gz_le_n (gz_le_n (gz_le_n (gz_le_n (gz_le_n gz_le_0)))))))) (oX7_copy_53 _ h)
          · replace h := h.2 c42
            refine gk_aload dX7_copy_45 rfl ?_
            refine gk_callV (as := []) (rest := []) (ctX5_isLost_41 h) dX7_copy_47 rfl rfl wvX7_233 wcX5_isLost rfl (Nat.le_of_ble_eq_true rfl) ⟨Nat.le_refl _, Nat.le_refl _⟩ (fun h9 => absurd rfl h9) (Nat.le_of_ble_eq_true rfl) rfl (fun v G2 S47_6 hq => ?_)
            obtain ⟨rfl, r47_6, rfl, h⟩ := hq
            refine gk_if_eq (tgt := 59) dX7_copy_50 (by decide) (fun c50 => ?_) (fun c50 => ?_)
            · replace h := h.1 c50
              refine gk_aload dX7_copy_59 rfl ?_
              refine gk_geti dX7_copy_61 rfl rfl wfX7_236 ?_
              refine gk_aload dX7_copy_64 rfl ?_
              refine gk_geti dX7_copy_66 rfl rfl wfX7_236 ?_
              refine gk_icmp_eq (tgt := 78) dX7_copy_69 (by decide) (fun c69 => ?_) (fun c69 => ?_)
              · replace h := h.1 c69
                refine gk_aload dX7_copy_78 rfl ?_
                refine gk_iload_n dX7_copy_80 rfl ?_
                refine gk_iload dX7_copy_81 rfl ?_
                refine gk_callV (as := [_, _]) (rest := []) (ctX5_hasRun_39 h) dX7_copy_83 rfl rfl wvX7_239 wcX5_hasRun rfl (Nat.le_of_ble_eq_true rfl) ⟨Nat.le_refl _, Nat.le_refl _⟩ (fun h9 => absurd rfl h9) (Nat.le_of_ble_eq_true rfl) rfl (fun v G2 S83_6 hq => ?_)
                obtain ⟨rfl, r83_6, rfl, h⟩ := hq
                refine gk_if_eq (tgt := 101) dX7_copy_86 (by decide) (fun c86 => ?_) (fun c86 => ?_)
                · replace h := h.1 c86
                  exact gk_less (gz_le_s rfl (gz_le_n (gz_le_n (gz_le_n (gz_le_n (gz_le_n (gz_le_n (gz_le_n gz_le_0)))))))) (oX7_copy_101 _ h)
                · replace h := h.2 c86
                  refine gk_aload dX7_copy_89 rfl ?_
                  refine gk_iload dX7_copy_91 rfl ?_
                  refine gk_iload dX7_copy_93 rfl ?_
                  refine gk_callV (as := [_, _]) (rest := []) (ctX5_hasRun_41 h) dX7_copy_95 rfl rfl wvX7_239 wcX5_hasRun rfl (Nat.le_of_ble_eq_true rfl) ⟨Nat.le_refl _, Nat.le_refl _⟩ (fun h9 => absurd rfl h9) (Nat.le_of_ble_eq_true rfl) rfl (fun v G2 S95_6 hq => ?_)
                  obtain ⟨rfl, r95_6, rfl, h⟩ := hq
                  refine gk_if_ne (tgt := 107) dX7_copy_98 (by decide) (fun c98 => ?_) (fun c98 => ?_)
                  · replace h := h.1 c98
                    refine gk_aload dX7_copy_107 rfl ?_
                    refine gk_getr dX7_copy_109 rfl rfl wfX7_143 ?_
                    refine gk_iload_n dX7_copy_112 rfl ?_
                    refine gk_aload dX7_copy_113 rfl ?_
                    refine gk_getr dX7_copy_115 rfl rfl wfX7_143 ?_
                    refine gk_iload dX7_copy_118 rfl ?_
                    refine gk_iload dX7_copy_120 rfl ?_
                    refine gk_copy dX7_copy_122 wk_copy wk_copyN wk_copyS wk_copyI rfl rfl h.1 h.2.1 h.2.2.1 h.2.2.2.1 h.2.2.2.2.1 (Nat.le_of_ble_eq_true rfl) (Nat.le_of_ble_eq_true rfl) ?_
                    replace h := h.2.2.2.2.2
                    refine gk_nmS (fun S122_6 eS122_6 => ?_)
                    replace h := h S122_6 eS122_6
                    refine gk_iconst (v := 1) dX7_copy_125 rfl ?_
                    exact gk_iret dX7_copy_126 rfl rfl rfl rfl ⟨rfl, _, rfl, h⟩
                  · replace h := h.2 c98
                    exact gk_less (gz_le_s rfl (gz_le_n (gz_le_n (gz_le_n (gz_le_n (gz_le_n (gz_le_n (gz_le_n gz_le_0)))))))) (oX7_copy_101 _ h)
              · replace h := h.2 c69
                refine gk_aload_n dX7_copy_72 rfl ?_
                refine gk_iconst (v := 4) dX7_copy_73 rfl ?_
                refine gk_callV (as := [_]) (rest := []) (ctX7_found h) dX7_copy_74 rfl rfl wvX7_218 wcX7_found rfl (Nat.le_of_ble_eq_true rfl) ⟨Nat.le_refl _, Nat.le_refl _⟩ (fun h9 => absurd rfl h9) (Nat.le_of_ble_eq_true rfl) rfl (fun v G2 S74_6 hq => ?_)
                obtain ⟨rfl, r74_6, rfl, h⟩ := hq
                exact gk_iret dX7_copy_77 rfl rfl rfl rfl ⟨rfl, _, rfl, h⟩
            · replace h := h.2 c50
              exact gk_less (gz_le_s rfl (gz_le_n (gz_le_n (gz_le_n (gz_le_n (gz_le_n (gz_le_n (gz_le_n gz_le_0)))))))) (oX7_copy_53 _ h)
        · refine gk_aaload (t := 0) dX7_copy_34 rfl h.1 (by rw [hj13]; rfl) ?_
          replace h := h.2
          try rw [hj13] at h
          refine gk_astore dX7_copy_35 (Nat.le_of_ble_eq_true rfl) rfl rfl ?_
          refine gk_aload dX7_copy_37 rfl ?_
          refine gk_callV (as := []) (rest := []) (ctX5_isLost_39 h) dX7_copy_39 rfl rfl wvX7_233 wcX5_isLost rfl (Nat.le_of_ble_eq_true rfl) ⟨Nat.le_refl _, Nat.le_refl _⟩ (fun h9 => absurd rfl h9) (Nat.le_of_ble_eq_true rfl) rfl (fun v G2 S39_7 hq => ?_)
          obtain ⟨rfl, r39_7, rfl, h⟩ := hq
          refine gk_if_ne (tgt := 53) dX7_copy_42 (by decide) (fun c42 => ?_) (fun c42 => ?_)
          · replace h := h.1 c42
            exact gk_less (gz_le_s rfl (gz_le_n (gz_le_n (gz_le_n (gz_le_n (gz_le_n (gz_le_n (gz_le_n gz_le_0)))))))) (oX7_copy_53 _ h)
          · replace h := h.2 c42
            refine gk_aload dX7_copy_45 rfl ?_
            refine gk_callV (as := []) (rest := []) (ctX5_isLost_43 h) dX7_copy_47 rfl rfl wvX7_233 wcX5_isLost rfl (Nat.le_of_ble_eq_true rfl) ⟨Nat.le_refl _, Nat.le_refl _⟩ (fun h9 => absurd rfl h9) (Nat.le_of_ble_eq_true rfl) rfl (fun v G2 S47_7 hq => ?_)
            obtain ⟨rfl, r47_7, rfl, h⟩ := hq
            refine gk_if_eq (tgt := 59) dX7_copy_50 (by decide) (fun c50 => ?_) (fun c50 => ?_)
            · replace h := h.1 c50
              refine gk_aload dX7_copy_59 rfl ?_
              refine gk_geti dX7_copy_61 rfl rfl wfX7_236 ?_
              refine gk_aload dX7_copy_64 rfl ?_
              refine gk_geti dX7_copy_66 rfl rfl wfX7_236 ?_
              refine gk_icmp_eq (tgt := 78) dX7_copy_69 (by decide) (fun c69 => ?_) (fun c69 => ?_)
              · replace h := h.1 c69
                refine gk_aload dX7_copy_78 rfl ?_
                refine gk_iload_n dX7_copy_80 rfl ?_
                refine gk_iload dX7_copy_81 rfl ?_
                refine gk_callV (as := [_, _]) (rest := []) (ctX5_hasRun_39 h) dX7_copy_83 rfl rfl wvX7_239 wcX5_hasRun rfl (Nat.le_of_ble_eq_true rfl) ⟨Nat.le_refl _, Nat.le_refl _⟩ (fun h9 => absurd rfl h9) (Nat.le_of_ble_eq_true rfl) rfl (fun v G2 S83_7 hq => ?_)
                obtain ⟨rfl, r83_7, rfl, h⟩ := hq
                refine gk_if_eq (tgt := 101) dX7_copy_86 (by decide) (fun c86 => ?_) (fun c86 => ?_)
                · replace h := h.1 c86
                  exact gk_less (gz_le_s rfl (gz_le_n (gz_le_n (gz_le_n (gz_le_n (gz_le_n (gz_le_n (gz_le_n gz_le_0)))))))) (oX7_copy_101 _ h)
                · replace h := h.2 c86
                  refine gk_aload dX7_copy_89 rfl ?_
                  refine gk_iload dX7_copy_91 rfl ?_
                  refine gk_iload dX7_copy_93 rfl ?_
                  refine gk_callV (as := [_, _]) (rest := []) (ctX5_hasRun_43 h) dX7_copy_95 rfl rfl wvX7_239 wcX5_hasRun rfl (Nat.le_of_ble_eq_true rfl) ⟨Nat.le_refl _, Nat.le_refl _⟩ (fun h9 => absurd rfl h9) (Nat.le_of_ble_eq_true rfl) rfl (fun v G2 S95_7 hq => ?_)
                  obtain ⟨rfl, r95_7, rfl, h⟩ := hq
                  refine gk_if_ne (tgt := 107) dX7_copy_98 (by decide) (fun c98 => ?_) (fun c98 => ?_)
                  · replace h := h.1 c98
                    refine gk_aload dX7_copy_107 rfl ?_
                    refine gk_getr dX7_copy_109 rfl rfl wfX7_143 ?_
                    refine gk_iload_n dX7_copy_112 rfl ?_
                    refine gk_aload dX7_copy_113 rfl ?_
                    refine gk_getr dX7_copy_115 rfl rfl wfX7_143 ?_
                    refine gk_iload dX7_copy_118 rfl ?_
                    refine gk_iload dX7_copy_120 rfl ?_
                    refine gk_copy dX7_copy_122 wk_copy wk_copyN wk_copyS wk_copyI rfl rfl h.1 h.2.1 h.2.2.1 h.2.2.2.1 h.2.2.2.2.1 (Nat.le_of_ble_eq_true rfl) (Nat.le_of_ble_eq_true rfl) ?_
                    replace h := h.2.2.2.2.2
                    refine gk_nmS (fun S122_7 eS122_7 => ?_)
                    replace h := h S122_7 eS122_7
                    refine gk_iconst (v := 1) dX7_copy_125 rfl ?_
                    exact gk_iret dX7_copy_126 rfl rfl rfl rfl ⟨rfl, _, rfl, h⟩
                  · replace h := h.2 c98
                    exact gk_less (gz_le_s rfl (gz_le_n (gz_le_n (gz_le_n (gz_le_n (gz_le_n (gz_le_n (gz_le_n gz_le_0)))))))) (oX7_copy_101 _ h)
              · replace h := h.2 c69
                refine gk_aload_n dX7_copy_72 rfl ?_
                refine gk_iconst (v := 4) dX7_copy_73 rfl ?_
                refine gk_callV (as := [_]) (rest := []) (ctX7_found h) dX7_copy_74 rfl rfl wvX7_218 wcX7_found rfl (Nat.le_of_ble_eq_true rfl) ⟨Nat.le_refl _, Nat.le_refl _⟩ (fun h9 => absurd rfl h9) (Nat.le_of_ble_eq_true rfl) rfl (fun v G2 S74_7 hq => ?_)
                obtain ⟨rfl, r74_7, rfl, h⟩ := hq
                exact gk_iret dX7_copy_77 rfl rfl rfl rfl ⟨rfl, _, rfl, h⟩
            · replace h := h.2 c50
              exact gk_less (gz_le_s rfl (gz_le_n (gz_le_n (gz_le_n (gz_le_n (gz_le_n (gz_le_n (gz_le_n gz_le_0)))))))) (oX7_copy_53 _ h)
      · refine gk_aaload (t := 0) dX7_copy_26 rfl h.1 (by rw [hj02]; rfl) ?_
        replace h := h.2
        try rw [hj02] at h
        refine gk_astore dX7_copy_27 (Nat.le_of_ble_eq_true rfl) rfl rfl ?_
        refine gk_aload_n dX7_copy_29 rfl ?_
        refine gk_getr dX7_copy_30 rfl rfl wfX7_53 ?_
        refine gk_iload_n dX7_copy_33 rfl ?_
        rcases gz_four h.1 with hj10 | hj11 | hj12 | hj13
        · refine gk_aaload (t := 0) dX7_copy_34 rfl h.1 (by rw [hj10]; rfl) ?_
          replace h := h.2
          try rw [hj10] at h
          refine gk_astore dX7_copy_35 (Nat.le_of_ble_eq_true rfl) rfl rfl ?_
          refine gk_aload dX7_copy_37 rfl ?_
          refine gk_callV (as := []) (rest := []) (ctX5_isLost_41 h) dX7_copy_39 rfl rfl wvX7_233 wcX5_isLost rfl (Nat.le_of_ble_eq_true rfl) ⟨Nat.le_refl _, Nat.le_refl _⟩ (fun h9 => absurd rfl h9) (Nat.le_of_ble_eq_true rfl) rfl (fun v G2 S39_8 hq => ?_)
          obtain ⟨rfl, r39_8, rfl, h⟩ := hq
          refine gk_if_ne (tgt := 53) dX7_copy_42 (by decide) (fun c42 => ?_) (fun c42 => ?_)
          · replace h := h.1 c42
            exact gk_less (gz_le_s rfl (gz_le_n (gz_le_n (gz_le_n (gz_le_n (gz_le_n (gz_le_n (gz_le_n gz_le_0)))))))) (oX7_copy_53 _ h)
          · replace h := h.2 c42
            refine gk_aload dX7_copy_45 rfl ?_
            refine gk_callV (as := []) (rest := []) (ctX5_isLost_37 h) dX7_copy_47 rfl rfl wvX7_233 wcX5_isLost rfl (Nat.le_of_ble_eq_true rfl) ⟨Nat.le_refl _, Nat.le_refl _⟩ (fun h9 => absurd rfl h9) (Nat.le_of_ble_eq_true rfl) rfl (fun v G2 S47_8 hq => ?_)
            obtain ⟨rfl, r47_8, rfl, h⟩ := hq
            refine gk_if_eq (tgt := 59) dX7_copy_50 (by decide) (fun c50 => ?_) (fun c50 => ?_)
            · replace h := h.1 c50
              refine gk_aload dX7_copy_59 rfl ?_
              refine gk_geti dX7_copy_61 rfl rfl wfX7_236 ?_
              refine gk_aload dX7_copy_64 rfl ?_
              refine gk_geti dX7_copy_66 rfl rfl wfX7_236 ?_
              refine gk_icmp_eq (tgt := 78) dX7_copy_69 (by decide) (fun c69 => ?_) (fun c69 => ?_)
              · replace h := h.1 c69
                refine gk_aload dX7_copy_78 rfl ?_
                refine gk_iload_n dX7_copy_80 rfl ?_
                refine gk_iload dX7_copy_81 rfl ?_
                refine gk_callV (as := [_, _]) (rest := []) (ctX5_hasRun_41 h) dX7_copy_83 rfl rfl wvX7_239 wcX5_hasRun rfl (Nat.le_of_ble_eq_true rfl) ⟨Nat.le_refl _, Nat.le_refl _⟩ (fun h9 => absurd rfl h9) (Nat.le_of_ble_eq_true rfl) rfl (fun v G2 S83_8 hq => ?_)
                obtain ⟨rfl, r83_8, rfl, h⟩ := hq
                refine gk_if_eq (tgt := 101) dX7_copy_86 (by decide) (fun c86 => ?_) (fun c86 => ?_)
                · replace h := h.1 c86
                  exact gk_less (gz_le_s rfl (gz_le_n (gz_le_n (gz_le_n (gz_le_n (gz_le_n (gz_le_n (gz_le_n gz_le_0)))))))) (oX7_copy_101 _ h)
                · replace h := h.2 c86
                  refine gk_aload dX7_copy_89 rfl ?_
                  refine gk_iload dX7_copy_91 rfl ?_
                  refine gk_iload dX7_copy_93 rfl ?_
                  refine gk_callV (as := [_, _]) (rest := []) (ctX5_hasRun_37 h) dX7_copy_95 rfl rfl wvX7_239 wcX5_hasRun rfl (Nat.le_of_ble_eq_true rfl) ⟨Nat.le_refl _, Nat.le_refl _⟩ (fun h9 => absurd rfl h9) (Nat.le_of_ble_eq_true rfl) rfl (fun v G2 S95_8 hq => ?_)
                  obtain ⟨rfl, r95_8, rfl, h⟩ := hq
                  refine gk_if_ne (tgt := 107) dX7_copy_98 (by decide) (fun c98 => ?_) (fun c98 => ?_)
                  · replace h := h.1 c98
                    refine gk_aload dX7_copy_107 rfl ?_
                    refine gk_getr dX7_copy_109 rfl rfl wfX7_143 ?_
                    refine gk_iload_n dX7_copy_112 rfl ?_
                    refine gk_aload dX7_copy_113 rfl ?_
                    refine gk_getr dX7_copy_115 rfl rfl wfX7_143 ?_
                    refine gk_iload dX7_copy_118 rfl ?_
                    refine gk_iload dX7_copy_120 rfl ?_
                    refine gk_copy dX7_copy_122 wk_copy wk_copyN wk_copyS wk_copyI rfl rfl h.1 h.2.1 h.2.2.1 h.2.2.2.1 h.2.2.2.2.1 (Nat.le_of_ble_eq_true rfl) (Nat.le_of_ble_eq_true rfl) ?_
                    replace h := h.2.2.2.2.2
                    refine gk_nmS (fun S122_8 eS122_8 => ?_)
                    replace h := h S122_8 eS122_8
                    refine gk_iconst (v := 1) dX7_copy_125 rfl ?_
                    exact gk_iret dX7_copy_126 rfl rfl rfl rfl ⟨rfl, _, rfl, h⟩
                  · replace h := h.2 c98
                    exact gk_less (gz_le_s rfl (gz_le_n (gz_le_n (gz_le_n (gz_le_n (gz_le_n (gz_le_n (gz_le_n gz_le_0)))))))) (oX7_copy_101 _ h)
              · replace h := h.2 c69
                refine gk_aload_n dX7_copy_72 rfl ?_
                refine gk_iconst (v := 4) dX7_copy_73 rfl ?_
                refine gk_callV (as := [_]) (rest := []) (ctX7_found h) dX7_copy_74 rfl rfl wvX7_218 wcX7_found rfl (Nat.le_of_ble_eq_true rfl) ⟨Nat.le_refl _, Nat.le_refl _⟩ (fun h9 => absurd rfl h9) (Nat.le_of_ble_eq_true rfl) rfl (fun v G2 S74_8 hq => ?_)
                obtain ⟨rfl, r74_8, rfl, h⟩ := hq
                exact gk_iret dX7_copy_77 rfl rfl rfl rfl ⟨rfl, _, rfl, h⟩
            · replace h := h.2 c50
              exact gk_less (gz_le_s rfl (gz_le_n (gz_le_n (gz_le_n (gz_le_n (gz_le_n (gz_le_n (gz_le_n gz_le_0)))))))) (oX7_copy_53 _ h)
        · refine gk_aaload (t := 0) dX7_copy_34 rfl h.1 (by rw [hj11]; rfl) ?_
          replace h := h.2
          try rw [hj11] at h
          refine gk_astore dX7_copy_35 (Nat.le_of_ble_eq_true rfl) rfl rfl ?_
          refine gk_aload dX7_copy_37 rfl ?_
          refine gk_callV (as := []) (rest := []) (ctX5_isLost_41 h) dX7_copy_39 rfl rfl wvX7_233 wcX5_isLost rfl (Nat.le_of_ble_eq_true rfl) ⟨Nat.le_refl _, Nat.le_refl _⟩ (fun h9 => absurd rfl h9) (Nat.le_of_ble_eq_true rfl) rfl (fun v G2 S39_9 hq => ?_)
          obtain ⟨rfl, r39_9, rfl, h⟩ := hq
          refine gk_if_ne (tgt := 53) dX7_copy_42 (by decide) (fun c42 => ?_) (fun c42 => ?_)
          · replace h := h.1 c42
            exact gk_less (gz_le_s rfl (gz_le_n (gz_le_n (gz_le_n (gz_le_n (gz_le_n (gz_le_n (gz_le_n gz_le_0)))))))) (oX7_copy_53 _ h)
          · replace h := h.2 c42
            refine gk_aload dX7_copy_45 rfl ?_
            refine gk_callV (as := []) (rest := []) (ctX5_isLost_39 h) dX7_copy_47 rfl rfl wvX7_233 wcX5_isLost rfl (Nat.le_of_ble_eq_true rfl) ⟨Nat.le_refl _, Nat.le_refl _⟩ (fun h9 => absurd rfl h9) (Nat.le_of_ble_eq_true rfl) rfl (fun v G2 S47_9 hq => ?_)
            obtain ⟨rfl, r47_9, rfl, h⟩ := hq
            refine gk_if_eq (tgt := 59) dX7_copy_50 (by decide) (fun c50 => ?_) (fun c50 => ?_)
            · replace h := h.1 c50
              refine gk_aload dX7_copy_59 rfl ?_
              refine gk_geti dX7_copy_61 rfl rfl wfX7_236 ?_
              refine gk_aload dX7_copy_64 rfl ?_
              refine gk_geti dX7_copy_66 rfl rfl wfX7_236 ?_
              refine gk_icmp_eq (tgt := 78) dX7_copy_69 (by decide) (fun c69 => ?_) (fun c69 => ?_)
              · replace h := h.1 c69
                refine gk_aload dX7_copy_78 rfl ?_
                refine gk_iload_n dX7_copy_80 rfl ?_
                refine gk_iload dX7_copy_81 rfl ?_
                refine gk_callV (as := [_, _]) (rest := []) (ctX5_hasRun_41 h) dX7_copy_83 rfl rfl wvX7_239 wcX5_hasRun rfl (Nat.le_of_ble_eq_true rfl) ⟨Nat.le_refl _, Nat.le_refl _⟩ (fun h9 => absurd rfl h9) (Nat.le_of_ble_eq_true rfl) rfl (fun v G2 S83_9 hq => ?_)
                obtain ⟨rfl, r83_9, rfl, h⟩ := hq
                refine gk_if_eq (tgt := 101) dX7_copy_86 (by decide) (fun c86 => ?_) (fun c86 => ?_)
                · replace h := h.1 c86
                  exact gk_less (gz_le_s rfl (gz_le_n (gz_le_n (gz_le_n (gz_le_n (gz_le_n (gz_le_n (gz_le_n gz_le_0)))))))) (oX7_copy_101 _ h)
                · replace h := h.2 c86
                  refine gk_aload dX7_copy_89 rfl ?_
                  refine gk_iload dX7_copy_91 rfl ?_
                  refine gk_iload dX7_copy_93 rfl ?_
                  refine gk_callV (as := [_, _]) (rest := []) (ctX5_hasRun_39 h) dX7_copy_95 rfl rfl wvX7_239 wcX5_hasRun rfl (Nat.le_of_ble_eq_true rfl) ⟨Nat.le_refl _, Nat.le_refl _⟩ (fun h9 => absurd rfl h9) (Nat.le_of_ble_eq_true rfl) rfl (fun v G2 S95_9 hq => ?_)
                  obtain ⟨rfl, r95_9, rfl, h⟩ := hq
                  refine gk_if_ne (tgt := 107) dX7_copy_98 (by decide) (fun c98 => ?_) (fun c98 => ?_)
                  · replace h := h.1 c98
                    refine gk_aload dX7_copy_107 rfl ?_
                    refine gk_getr dX7_copy_109 rfl rfl wfX7_143 ?_
                    refine gk_iload_n dX7_copy_112 rfl ?_
                    refine gk_aload dX7_copy_113 rfl ?_
                    refine gk_getr dX7_copy_115 rfl rfl wfX7_143 ?_
                    refine gk_iload dX7_copy_118 rfl ?_
                    refine gk_iload dX7_copy_120 rfl ?_
                    refine gk_copy dX7_copy_122 wk_copy wk_copyN wk_copyS wk_copyI rfl rfl h.1 h.2.1 h.2.2.1 h.2.2.2.1 h.2.2.2.2.1 (Nat.le_of_ble_eq_true rfl) (Nat.le_of_ble_eq_true rfl) ?_
                    replace h := h.2.2.2.2.2
                    refine gk_nmS (fun S122_9 eS122_9 => ?_)
                    replace h := h S122_9 eS122_9
                    refine gk_iconst (v := 1) dX7_copy_125 rfl ?_
                    exact gk_iret dX7_copy_126 rfl rfl rfl rfl ⟨rfl, _, rfl, h⟩
                  · replace h := h.2 c98
                    exact gk_less (gz_le_s rfl (gz_le_n (gz_le_n (gz_le_n (gz_le_n (gz_le_n (gz_le_n (gz_le_n gz_le_0)))))))) (oX7_copy_101 _ h)
              · replace h := h.2 c69
                refine gk_aload_n dX7_copy_72 rfl ?_
                refine gk_iconst (v := 4) dX7_copy_73 rfl ?_
                refine gk_callV (as := [_]) (rest := []) (ctX7_found h) dX7_copy_74 rfl rfl wvX7_218 wcX7_found rfl (Nat.le_of_ble_eq_true rfl) ⟨Nat.le_refl _, Nat.le_refl _⟩ (fun h9 => absurd rfl h9) (Nat.le_of_ble_eq_true rfl) rfl (fun v G2 S74_9 hq => ?_)
                obtain ⟨rfl, r74_9, rfl, h⟩ := hq
                exact gk_iret dX7_copy_77 rfl rfl rfl rfl ⟨rfl, _, rfl, h⟩
            · replace h := h.2 c50
              exact gk_less (gz_le_s rfl (gz_le_n (gz_le_n (gz_le_n (gz_le_n (gz_le_n (gz_le_n (gz_le_n gz_le_0)))))))) (oX7_copy_53 _ h)
        · refine gk_aaload (t := 0) dX7_copy_34 rfl h.1 (by rw [hj12]; rfl) ?_
          replace h := h.2
          try rw [hj12] at h
          refine gk_astore dX7_copy_35 (Nat.le_of_ble_eq_true rfl) rfl rfl ?_
          refine gk_aload dX7_copy_37 rfl ?_
          refine gk_callV (as := []) (rest := []) (ctX5_isLost_41 h) dX7_copy_39 rfl rfl wvX7_233 wcX5_isLost rfl (Nat.le_of_ble_eq_true rfl) ⟨Nat.le_refl _, Nat.le_refl _⟩ (fun h9 => absurd rfl h9) (Nat.le_of_ble_eq_true rfl) rfl (fun v G2 S39_10 hq => ?_)
          obtain ⟨rfl, r39_10, rfl, h⟩ := hq
          refine gk_if_ne (tgt := 53) dX7_copy_42 (by decide) (fun c42 => ?_) (fun c42 => ?_)
          · replace h := h.1 c42
            exact gk_less (gz_le_s rfl (gz_le_n (gz_le_n (gz_le_n (gz_le_n (gz_le_n (gz_le_n (gz_le_n gz_le_0)))))))) (oX7_copy_53 _ h)
          · replace h := h.2 c42
            refine gk_aload dX7_copy_45 rfl ?_
            refine gk_callV (as := []) (rest := []) (ctX5_isLost_41 h) dX7_copy_47 rfl rfl wvX7_233 wcX5_isLost rfl (Nat.le_of_ble_eq_true rfl) ⟨Nat.le_refl _, Nat.le_refl _⟩ (fun h9 => absurd rfl h9) (Nat.le_of_ble_eq_true rfl) rfl (fun v G2 S47_10 hq => ?_)
            obtain ⟨rfl, r47_10, rfl, h⟩ := hq
            refine gk_if_eq (tgt := 59) dX7_copy_50 (by decide) (fun c50 => ?_) (fun c50 => ?_)
            · replace h := h.1 c50
              refine gk_aload dX7_copy_59 rfl ?_
              refine gk_geti dX7_copy_61 rfl rfl wfX7_236 ?_
              refine gk_aload dX7_copy_64 rfl ?_
              refine gk_geti dX7_copy_66 rfl rfl wfX7_236 ?_
              refine gk_icmp_eq (tgt := 78) dX7_copy_69 (by decide) (fun c69 => ?_) (fun c69 => ?_)
              · replace h := h.1 c69
                refine gk_aload dX7_copy_78 rfl ?_
                refine gk_iload_n dX7_copy_80 rfl ?_
                refine gk_iload dX7_copy_81 rfl ?_
                refine gk_callV (as := [_, _]) (rest := []) (ctX5_hasRun_41 h) dX7_copy_83 rfl rfl wvX7_239 wcX5_hasRun rfl (Nat.le_of_ble_eq_true rfl) ⟨Nat.le_refl _, Nat.le_refl _⟩ (fun h9 => absurd rfl h9) (Nat.le_of_ble_eq_true rfl) rfl (fun v G2 S83_10 hq => ?_)
                obtain ⟨rfl, r83_10, rfl, h⟩ := hq
                refine gk_if_eq (tgt := 101) dX7_copy_86 (by decide) (fun c86 => ?_) (fun c86 => ?_)
                · replace h := h.1 c86
                  exact gk_less (gz_le_s rfl (gz_le_n (gz_le_n (gz_le_n (gz_le_n (gz_le_n (gz_le_n (gz_le_n gz_le_0)))))))) (oX7_copy_101 _ h)
                · replace h := h.2 c86
                  refine gk_aload dX7_copy_89 rfl ?_
                  refine gk_iload dX7_copy_91 rfl ?_
                  refine gk_iload dX7_copy_93 rfl ?_
                  refine gk_callV (as := [_, _]) (rest := []) (ctX5_hasRun_41 h) dX7_copy_95 rfl rfl wvX7_239 wcX5_hasRun rfl (Nat.le_of_ble_eq_true rfl) ⟨Nat.le_refl _, Nat.le_refl _⟩ (fun h9 => absurd rfl h9) (Nat.le_of_ble_eq_true rfl) rfl (fun v G2 S95_10 hq => ?_)
                  obtain ⟨rfl, r95_10, rfl, h⟩ := hq
                  refine gk_if_ne (tgt := 107) dX7_copy_98 (by decide) (fun c98 => ?_) (fun c98 => ?_)
                  · replace h := h.1 c98
                    refine gk_aload dX7_copy_107 rfl ?_
                    refine gk_getr dX7_copy_109 rfl rfl wfX7_143 ?_
                    refine gk_iload_n dX7_copy_112 rfl ?_
                    refine gk_aload dX7_copy_113 rfl ?_
                    refine gk_getr dX7_copy_115 rfl rfl wfX7_143 ?_
                    refine gk_iload dX7_copy_118 rfl ?_
                    refine gk_iload dX7_copy_120 rfl ?_
                    refine gk_copy dX7_copy_122 wk_copy wk_copyN wk_copyS wk_copyI rfl rfl h.1 h.2.1 h.2.2.1 h.2.2.2.1 h.2.2.2.2.1 (Nat.le_of_ble_eq_true rfl) (Nat.le_of_ble_eq_true rfl) ?_
                    replace h := h.2.2.2.2.2
                    refine gk_nmS (fun S122_10 eS122_10 => ?_)
                    replace h := h S122_10 eS122_10
                    refine gk_iconst (v := 1) dX7_copy_125 rfl ?_
                    exact gk_iret dX7_copy_126 rfl rfl rfl rfl ⟨rfl, _, rfl, h⟩
                  · replace h := h.2 c98
                    exact gk_less (gz_le_s rfl (gz_le_n (gz_le_n (gz_le_n (gz_le_n (gz_le_n (gz_le_n (gz_le_n gz_le_0)))))))) (oX7_copy_101 _ h)
              · replace h := h.2 c69
                refine gk_aload_n dX7_copy_72 rfl ?_
                refine gk_iconst (v := 4) dX7_copy_73 rfl ?_
                refine gk_callV (as := [_]) (rest := []) (ctX7_found h) dX7_copy_74 rfl rfl wvX7_218 wcX7_found rfl (Nat.le_of_ble_eq_true rfl) ⟨Nat.le_refl _, Nat.le_refl _⟩ (fun h9 => absurd rfl h9) (Nat.le_of_ble_eq_true rfl) rfl (fun v G2 S74_10 hq => ?_)
                obtain ⟨rfl, r74_10, rfl, h⟩ := hq
                exact gk_iret dX7_copy_77 rfl rfl rfl rfl ⟨rfl, _, rfl, h⟩
            · replace h := h.2 c50
              exact gk_less (gz_le_s rfl (gz_le_n (gz_le_n (gz_le_n (gz_le_n (gz_le_n (gz_le_n (gz_le_n gz_le_0)))))))) (oX7_copy_53 _ h)
        · refine gk_aaload (t := 0) dX7_copy_34 rfl h.1 (by rw [hj13]; rfl) ?_
          replace h := h.2
          try rw [hj13] at h
          refine gk_astore dX7_copy_35 (Nat.le_of_ble_eq_true rfl) rfl rfl ?_
          refine gk_aload dX7_copy_37 rfl ?_
          refine gk_callV (as := []) (rest := []) (ctX5_isLost_41 h) dX7_copy_39 rfl rfl wvX7_233 wcX5_isLost rfl (Nat.le_of_ble_eq_true rfl) ⟨Nat.le_refl _, Nat.le_refl _⟩ (fun h9 => absurd rfl h9) (Nat.le_of_ble_eq_true rfl) rfl (fun v G2 S39_11 hq => ?_)
          obtain ⟨rfl, r39_11, rfl, h⟩ := hq
          refine gk_if_ne (tgt := 53) dX7_copy_42 (by decide) (fun c42 => ?_) (fun c42 => ?_)
          · replace h := h.1 c42
            exact gk_less (gz_le_s rfl (gz_le_n (gz_le_n (gz_le_n (gz_le_n (gz_le_n (gz_le_n (gz_le_n gz_le_0)))))))) (oX7_copy_53 _ h)
          · replace h := h.2 c42
            refine gk_aload dX7_copy_45 rfl ?_
            refine gk_callV (as := []) (rest := []) (ctX5_isLost_43 h) dX7_copy_47 rfl rfl wvX7_233 wcX5_isLost rfl (Nat.le_of_ble_eq_true rfl) ⟨Nat.le_refl _, Nat.le_refl _⟩ (fun h9 => absurd rfl h9) (Nat.le_of_ble_eq_true rfl) rfl (fun v G2 S47_11 hq => ?_)
            obtain ⟨rfl, r47_11, rfl, h⟩ := hq
            refine gk_if_eq (tgt := 59) dX7_copy_50 (by decide) (fun c50 => ?_) (fun c50 => ?_)
            · replace h := h.1 c50
              refine gk_aload dX7_copy_59 rfl ?_
              refine gk_geti dX7_copy_61 rfl rfl wfX7_236 ?_
              refine gk_aload dX7_copy_64 rfl ?_
              refine gk_geti dX7_copy_66 rfl rfl wfX7_236 ?_
              refine gk_icmp_eq (tgt := 78) dX7_copy_69 (by decide) (fun c69 => ?_) (fun c69 => ?_)
              · replace h := h.1 c69
                refine gk_aload dX7_copy_78 rfl ?_
                refine gk_iload_n dX7_copy_80 rfl ?_
                refine gk_iload dX7_copy_81 rfl ?_
                refine gk_callV (as := [_, _]) (rest := []) (ctX5_hasRun_41 h) dX7_copy_83 rfl rfl wvX7_239 wcX5_hasRun rfl (Nat.le_of_ble_eq_true rfl) ⟨Nat.le_refl _, Nat.le_refl _⟩ (fun h9 => absurd rfl h9) (Nat.le_of_ble_eq_true rfl) rfl (fun v G2 S83_11 hq => ?_)
                obtain ⟨rfl, r83_11, rfl, h⟩ := hq
                refine gk_if_eq (tgt := 101) dX7_copy_86 (by decide) (fun c86 => ?_) (fun c86 => ?_)
                · replace h := h.1 c86
                  exact gk_less (gz_le_s rfl (gz_le_n (gz_le_n (gz_le_n (gz_le_n (gz_le_n (gz_le_n (gz_le_n gz_le_0)))))))) (oX7_copy_101 _ h)
                · replace h := h.2 c86
                  refine gk_aload dX7_copy_89 rfl ?_
                  refine gk_iload dX7_copy_91 rfl ?_
                  refine gk_iload dX7_copy_93 rfl ?_
                  refine gk_callV (as := [_, _]) (rest := []) (ctX5_hasRun_43 h) dX7_copy_95 rfl rfl wvX7_239 wcX5_hasRun rfl (Nat.le_of_ble_eq_true rfl) ⟨Nat.le_refl _, Nat.le_refl _⟩ (fun h9 => absurd rfl h9) (Nat.le_of_ble_eq_true rfl) rfl (fun v G2 S95_11 hq => ?_)
                  obtain ⟨rfl, r95_11, rfl, h⟩ := hq
                  refine gk_if_ne (tgt := 107) dX7_copy_98 (by decide) (fun c98 => ?_) (fun c98 => ?_)
                  · replace h := h.1 c98
                    refine gk_aload dX7_copy_107 rfl ?_
                    refine gk_getr dX7_copy_109 rfl rfl wfX7_143 ?_
                    refine gk_iload_n dX7_copy_112 rfl ?_
                    refine gk_aload dX7_copy_113 rfl ?_
                    refine gk_getr dX7_copy_115 rfl rfl wfX7_143 ?_
                    refine gk_iload dX7_copy_118 rfl ?_
                    refine gk_iload dX7_copy_120 rfl ?_
                    refine gk_copy dX7_copy_122 wk_copy wk_copyN wk_copyS wk_copyI rfl rfl h.1 h.2.1 h.2.2.1 h.2.2.2.1 h.2.2.2.2.1 (Nat.le_of_ble_eq_true rfl) (Nat.le_of_ble_eq_true rfl) ?_
                    replace h := h.2.2.2.2.2
                    refine gk_nmS (fun S122_11 eS122_11 => ?_)
                    replace h := h S122_11 eS122_11
                    refine gk_iconst (v := 1) dX7_copy_125 rfl ?_
                    exact gk_iret dX7_copy_126 rfl rfl rfl rfl ⟨rfl, _, rfl, h⟩
                  · replace h := h.2 c98
                    exact gk_less (gz_le_s rfl (gz_le_n (gz_le_n (gz_le_n (gz_le_n (gz_le_n (gz_le_n (gz_le_n gz_le_0)))))))) (oX7_copy_101 _ h)
              · replace h := h.2 c69
                refine gk_aload_n dX7_copy_72 rfl ?_
                refine gk_iconst (v := 4) dX7_copy_73 rfl ?_
                refine gk_callV (as := [_]) (rest := []) (ctX7_found h) dX7_copy_74 rfl rfl wvX7_218 wcX7_found rfl (Nat.le_of_ble_eq_true rfl) ⟨Nat.le_refl _, Nat.le_refl _⟩ (fun h9 => absurd rfl h9) (Nat.le_of_ble_eq_true rfl) rfl (fun v G2 S74_11 hq => ?_)
                obtain ⟨rfl, r74_11, rfl, h⟩ := hq
                exact gk_iret dX7_copy_77 rfl rfl rfl rfl ⟨rfl, _, rfl, h⟩
            · replace h := h.2 c50
              exact gk_less (gz_le_s rfl (gz_le_n (gz_le_n (gz_le_n (gz_le_n (gz_le_n (gz_le_n (gz_le_n gz_le_0)))))))) (oX7_copy_53 _ h)
      · refine gk_aaload (t := 0) dX7_copy_26 rfl h.1 (by rw [hj03]; rfl) ?_
        replace h := h.2
        try rw [hj03] at h
        refine gk_astore dX7_copy_27 (Nat.le_of_ble_eq_true rfl) rfl rfl ?_
        refine gk_aload_n dX7_copy_29 rfl ?_
        refine gk_getr dX7_copy_30 rfl rfl wfX7_53 ?_
        refine gk_iload_n dX7_copy_33 rfl ?_
        rcases gz_four h.1 with hj10 | hj11 | hj12 | hj13
        · refine gk_aaload (t := 0) dX7_copy_34 rfl h.1 (by rw [hj10]; rfl) ?_
          replace h := h.2
          try rw [hj10] at h
          refine gk_astore dX7_copy_35 (Nat.le_of_ble_eq_true rfl) rfl rfl ?_
          refine gk_aload dX7_copy_37 rfl ?_
          refine gk_callV (as := []) (rest := []) (ctX5_isLost_43 h) dX7_copy_39 rfl rfl wvX7_233 wcX5_isLost rfl (Nat.le_of_ble_eq_true rfl) ⟨Nat.le_refl _, Nat.le_refl _⟩ (fun h9 => absurd rfl h9) (Nat.le_of_ble_eq_true rfl) rfl (fun v G2 S39_12 hq => ?_)
          obtain ⟨rfl, r39_12, rfl, h⟩ := hq
          refine gk_if_ne (tgt := 53) dX7_copy_42 (by decide) (fun c42 => ?_) (fun c42 => ?_)
          · replace h := h.1 c42
            exact gk_less (gz_le_s rfl (gz_le_n (gz_le_n (gz_le_n (gz_le_n (gz_le_n (gz_le_n (gz_le_n gz_le_0)))))))) (oX7_copy_53 _ h)
          · replace h := h.2 c42
            refine gk_aload dX7_copy_45 rfl ?_
            refine gk_callV (as := []) (rest := []) (ctX5_isLost_37 h) dX7_copy_47 rfl rfl wvX7_233 wcX5_isLost rfl (Nat.le_of_ble_eq_true rfl) ⟨Nat.le_refl _, Nat.le_refl _⟩ (fun h9 => absurd rfl h9) (Nat.le_of_ble_eq_true rfl) rfl (fun v G2 S47_12 hq => ?_)
            obtain ⟨rfl, r47_12, rfl, h⟩ := hq
            refine gk_if_eq (tgt := 59) dX7_copy_50 (by decide) (fun c50 => ?_) (fun c50 => ?_)
            · replace h := h.1 c50
              refine gk_aload dX7_copy_59 rfl ?_
              refine gk_geti dX7_copy_61 rfl rfl wfX7_236 ?_
              refine gk_aload dX7_copy_64 rfl ?_
              refine gk_geti dX7_copy_66 rfl rfl wfX7_236 ?_
              refine gk_icmp_eq (tgt := 78) dX7_copy_69 (by decide) (fun c69 => ?_) (fun c69 => ?_)
              · replace h := h.1 c69
                refine gk_aload dX7_copy_78 rfl ?_
                refine gk_iload_n dX7_copy_80 rfl ?_
                refine gk_iload dX7_copy_81 rfl ?_
                refine gk_callV (as := [_, _]) (rest := []) (ctX5_hasRun_43 h) dX7_copy_83 rfl rfl wvX7_239 wcX5_hasRun rfl (Nat.le_of_ble_eq_true rfl) ⟨Nat.le_refl _, Nat.le_refl _⟩ (fun h9 => absurd rfl h9) (Nat.le_of_ble_eq_true rfl) rfl (fun v G2 S83_12 hq => ?_)
                obtain ⟨rfl, r83_12, rfl, h⟩ := hq
                refine gk_if_eq (tgt := 101) dX7_copy_86 (by decide) (fun c86 => ?_) (fun c86 => ?_)
                · replace h := h.1 c86
                  exact gk_less (gz_le_s rfl (gz_le_n (gz_le_n (gz_le_n (gz_le_n (gz_le_n (gz_le_n (gz_le_n gz_le_0)))))))) (oX7_copy_101 _ h)
                · replace h := h.2 c86
                  refine gk_aload dX7_copy_89 rfl ?_
                  refine gk_iload dX7_copy_91 rfl ?_
                  refine gk_iload dX7_copy_93 rfl ?_
                  refine gk_callV (as := [_, _]) (rest := []) (ctX5_hasRun_37 h) dX7_copy_95 rfl rfl wvX7_239 wcX5_hasRun rfl (Nat.le_of_ble_eq_true rfl) ⟨Nat.le_refl _, Nat.le_refl _⟩ (fun h9 => absurd rfl h9) (Nat.le_of_ble_eq_true rfl) rfl (fun v G2 S95_12 hq => ?_)
                  obtain ⟨rfl, r95_12, rfl, h⟩ := hq
                  refine gk_if_ne (tgt := 107) dX7_copy_98 (by decide) (fun c98 => ?_) (fun c98 => ?_)
                  · replace h := h.1 c98
                    refine gk_aload dX7_copy_107 rfl ?_
                    refine gk_getr dX7_copy_109 rfl rfl wfX7_143 ?_
                    refine gk_iload_n dX7_copy_112 rfl ?_
                    refine gk_aload dX7_copy_113 rfl ?_
                    refine gk_getr dX7_copy_115 rfl rfl wfX7_143 ?_
                    refine gk_iload dX7_copy_118 rfl ?_
                    refine gk_iload dX7_copy_120 rfl ?_
                    refine gk_copy dX7_copy_122 wk_copy wk_copyN wk_copyS wk_copyI rfl rfl h.1 h.2.1 h.2.2.1 h.2.2.2.1 h.2.2.2.2.1 (Nat.le_of_ble_eq_true rfl) (Nat.le_of_ble_eq_true rfl) ?_
                    replace h := h.2.2.2.2.2
                    refine gk_nmS (fun S122_12 eS122_12 => ?_)
                    replace h := h S122_12 eS122_12
                    refine gk_iconst (v := 1) dX7_copy_125 rfl ?_
                    exact gk_iret dX7_copy_126 rfl rfl rfl rfl ⟨rfl, _, rfl, h⟩
                  · replace h := h.2 c98
                    exact gk_less (gz_le_s rfl (gz_le_n (gz_le_n (gz_le_n (gz_le_n (gz_le_n (gz_le_n (gz_le_n gz_le_0)))))))) (oX7_copy_101 _ h)
              · replace h := h.2 c69
                refine gk_aload_n dX7_copy_72 rfl ?_
                refine gk_iconst (v := 4) dX7_copy_73 rfl ?_
                refine gk_callV (as := [_]) (rest := []) (ctX7_found h) dX7_copy_74 rfl rfl wvX7_218 wcX7_found rfl (Nat.le_of_ble_eq_true rfl) ⟨Nat.le_refl _, Nat.le_refl _⟩ (fun h9 => absurd rfl h9) (Nat.le_of_ble_eq_true rfl) rfl (fun v G2 S74_12 hq => ?_)
                obtain ⟨rfl, r74_12, rfl, h⟩ := hq
                exact gk_iret dX7_copy_77 rfl rfl rfl rfl ⟨rfl, _, rfl, h⟩
            · replace h := h.2 c50
              exact gk_less (gz_le_s rfl (gz_le_n (gz_le_n (gz_le_n (gz_le_n (gz_le_n (gz_le_n (gz_le_n gz_le_0)))))))) (oX7_copy_53 _ h)
        · refine gk_aaload (t := 0) dX7_copy_34 rfl h.1 (by rw [hj11]; rfl) ?_
          replace h := h.2
          try rw [hj11] at h
          refine gk_astore dX7_copy_35 (Nat.le_of_ble_eq_true rfl) rfl rfl ?_
          refine gk_aload dX7_copy_37 rfl ?_
          refine gk_callV (as := []) (rest := []) (ctX5_isLost_43 h) dX7_copy_39 rfl rfl wvX7_233 wcX5_isLost rfl (Nat.le_of_ble_eq_true rfl) ⟨Nat.le_refl _, Nat.le_refl _⟩ (fun h9 => absurd rfl h9) (Nat.le_of_ble_eq_true rfl) rfl (fun v G2 S39_13 hq => ?_)
          obtain ⟨rfl, r39_13, rfl, h⟩ := hq
          refine gk_if_ne (tgt := 53) dX7_copy_42 (by decide) (fun c42 => ?_) (fun c42 => ?_)
          · replace h := h.1 c42
            exact gk_less (gz_le_s rfl (gz_le_n (gz_le_n (gz_le_n (gz_le_n (gz_le_n (gz_le_n (gz_le_n gz_le_0)))))))) (oX7_copy_53 _ h)
          · replace h := h.2 c42
            refine gk_aload dX7_copy_45 rfl ?_
            refine gk_callV (as := []) (rest := []) (ctX5_isLost_39 h) dX7_copy_47 rfl rfl wvX7_233 wcX5_isLost rfl (Nat.le_of_ble_eq_true rfl) ⟨Nat.le_refl _, Nat.le_refl _⟩ (fun h9 => absurd rfl h9) (Nat.le_of_ble_eq_true rfl) rfl (fun v G2 S47_13 hq => ?_)
            obtain ⟨rfl, r47_13, rfl, h⟩ := hq
            refine gk_if_eq (tgt := 59) dX7_copy_50 (by decide) (fun c50 => ?_) (fun c50 => ?_)
            · replace h := h.1 c50
              refine gk_aload dX7_copy_59 rfl ?_
              refine gk_geti dX7_copy_61 rfl rfl wfX7_236 ?_
              refine gk_aload dX7_copy_64 rfl ?_
              refine gk_geti dX7_copy_66 rfl rfl wfX7_236 ?_
              refine gk_icmp_eq (tgt := 78) dX7_copy_69 (by decide) (fun c69 => ?_) (fun c69 => ?_)
              · replace h := h.1 c69
                refine gk_aload dX7_copy_78 rfl ?_
                refine gk_iload_n dX7_copy_80 rfl ?_
                refine gk_iload dX7_copy_81 rfl ?_
                refine gk_callV (as := [_, _]) (rest := []) (ctX5_hasRun_43 h) dX7_copy_83 rfl rfl wvX7_239 wcX5_hasRun rfl (Nat.le_of_ble_eq_true rfl) ⟨Nat.le_refl _, Nat.le_refl _⟩ (fun h9 => absurd rfl h9) (Nat.le_of_ble_eq_true rfl) rfl (fun v G2 S83_13 hq => ?_)
                obtain ⟨rfl, r83_13, rfl, h⟩ := hq
                refine gk_if_eq (tgt := 101) dX7_copy_86 (by decide) (fun c86 => ?_) (fun c86 => ?_)
                · replace h := h.1 c86
                  exact gk_less (gz_le_s rfl (gz_le_n (gz_le_n (gz_le_n (gz_le_n (gz_le_n (gz_le_n (gz_le_n gz_le_0)))))))) (oX7_copy_101 _ h)
                · replace h := h.2 c86
                  refine gk_aload dX7_copy_89 rfl ?_
                  refine gk_iload dX7_copy_91 rfl ?_
                  refine gk_iload dX7_copy_93 rfl ?_
                  refine gk_callV (as := [_, _]) (rest := []) (ctX5_hasRun_39 h) dX7_copy_95 rfl rfl wvX7_239 wcX5_hasRun rfl (Nat.le_of_ble_eq_true rfl) ⟨Nat.le_refl _, Nat.le_refl _⟩ (fun h9 => absurd rfl h9) (Nat.le_of_ble_eq_true rfl) rfl (fun v G2 S95_13 hq => ?_)
                  obtain ⟨rfl, r95_13, rfl, h⟩ := hq
                  refine gk_if_ne (tgt := 107) dX7_copy_98 (by decide) (fun c98 => ?_) (fun c98 => ?_)
                  · replace h := h.1 c98
                    refine gk_aload dX7_copy_107 rfl ?_
                    refine gk_getr dX7_copy_109 rfl rfl wfX7_143 ?_
                    refine gk_iload_n dX7_copy_112 rfl ?_
                    refine gk_aload dX7_copy_113 rfl ?_
                    refine gk_getr dX7_copy_115 rfl rfl wfX7_143 ?_
                    refine gk_iload dX7_copy_118 rfl ?_
                    refine gk_iload dX7_copy_120 rfl ?_
                    refine gk_copy dX7_copy_122 wk_copy wk_copyN wk_copyS wk_copyI rfl rfl h.1 h.2.1 h.2.2.1 h.2.2.2.1 h.2.2.2.2.1 (Nat.le_of_ble_eq_true rfl) (Nat.le_of_ble_eq_true rfl) ?_
                    replace h := h.2.2.2.2.2
                    refine gk_nmS (fun S122_13 eS122_13 => ?_)
                    replace h := h S122_13 eS122_13
                    refine gk_iconst (v := 1) dX7_copy_125 rfl ?_
                    exact gk_iret dX7_copy_126 rfl rfl rfl rfl ⟨rfl, _, rfl, h⟩
                  · replace h := h.2 c98
                    exact gk_less (gz_le_s rfl (gz_le_n (gz_le_n (gz_le_n (gz_le_n (gz_le_n (gz_le_n (gz_le_n gz_le_0)))))))) (oX7_copy_101 _ h)
              · replace h := h.2 c69
                refine gk_aload_n dX7_copy_72 rfl ?_
                refine gk_iconst (v := 4) dX7_copy_73 rfl ?_
                refine gk_callV (as := [_]) (rest := []) (ctX7_found h) dX7_copy_74 rfl rfl wvX7_218 wcX7_found rfl (Nat.le_of_ble_eq_true rfl) ⟨Nat.le_refl _, Nat.le_refl _⟩ (fun h9 => absurd rfl h9) (Nat.le_of_ble_eq_true rfl) rfl (fun v G2 S74_13 hq => ?_)
                obtain ⟨rfl, r74_13, rfl, h⟩ := hq
                exact gk_iret dX7_copy_77 rfl rfl rfl rfl ⟨rfl, _, rfl, h⟩
            · replace h := h.2 c50
              exact gk_less (gz_le_s rfl (gz_le_n (gz_le_n (gz_le_n (gz_le_n (gz_le_n (gz_le_n (gz_le_n gz_le_0)))))))) (oX7_copy_53 _ h)
        · refine gk_aaload (t := 0) dX7_copy_34 rfl h.1 (by rw [hj12]; rfl) ?_
          replace h := h.2
          try rw [hj12] at h
          refine gk_astore dX7_copy_35 (Nat.le_of_ble_eq_true rfl) rfl rfl ?_
          refine gk_aload dX7_copy_37 rfl ?_
          refine gk_callV (as := []) (rest := []) (ctX5_isLost_43 h) dX7_copy_39 rfl rfl wvX7_233 wcX5_isLost rfl (Nat.le_of_ble_eq_true rfl) ⟨Nat.le_refl _, Nat.le_refl _⟩ (fun h9 => absurd rfl h9) (Nat.le_of_ble_eq_true rfl) rfl (fun v G2 S39_14 hq => ?_)
          obtain ⟨rfl, r39_14, rfl, h⟩ := hq
          refine gk_if_ne (tgt := 53) dX7_copy_42 (by decide) (fun c42 => ?_) (fun c42 => ?_)
          · replace h := h.1 c42
            exact gk_less (gz_le_s rfl (gz_le_n (gz_le_n (gz_le_n (gz_le_n (gz_le_n (gz_le_n (gz_le_n gz_le_0)))))))) (oX7_copy_53 _ h)
          · replace h := h.2 c42
            refine gk_aload dX7_copy_45 rfl ?_
            refine gk_callV (as := []) (rest := []) (ctX5_isLost_41 h) dX7_copy_47 rfl rfl wvX7_233 wcX5_isLost rfl (Nat.le_of_ble_eq_true rfl) ⟨Nat.le_refl _, Nat.le_refl _⟩ (fun h9 => absurd rfl h9) (Nat.le_of_ble_eq_true rfl) rfl (fun v G2 S47_14 hq => ?_)
            obtain ⟨rfl, r47_14, rfl, h⟩ := hq
            refine gk_if_eq (tgt := 59) dX7_copy_50 (by decide) (fun c50 => ?_) (fun c50 => ?_)
            · replace h := h.1 c50
              refine gk_aload dX7_copy_59 rfl ?_
              refine gk_geti dX7_copy_61 rfl rfl wfX7_236 ?_
              refine gk_aload dX7_copy_64 rfl ?_
              refine gk_geti dX7_copy_66 rfl rfl wfX7_236 ?_
              refine gk_icmp_eq (tgt := 78) dX7_copy_69 (by decide) (fun c69 => ?_) (fun c69 => ?_)
              · replace h := h.1 c69
                refine gk_aload dX7_copy_78 rfl ?_
                refine gk_iload_n dX7_copy_80 rfl ?_
                refine gk_iload dX7_copy_81 rfl ?_
                refine gk_callV (as := [_, _]) (rest := []) (ctX5_hasRun_43 h) dX7_copy_83 rfl rfl wvX7_239 wcX5_hasRun rfl (Nat.le_of_ble_eq_true rfl) ⟨Nat.le_refl _, Nat.le_refl _⟩ (fun h9 => absurd rfl h9) (Nat.le_of_ble_eq_true rfl) rfl (fun v G2 S83_14 hq => ?_)
                obtain ⟨rfl, r83_14, rfl, h⟩ := hq
                refine gk_if_eq (tgt := 101) dX7_copy_86 (by decide) (fun c86 => ?_) (fun c86 => ?_)
                · replace h := h.1 c86
                  exact gk_less (gz_le_s rfl (gz_le_n (gz_le_n (gz_le_n (gz_le_n (gz_le_n (gz_le_n (gz_le_n gz_le_0)))))))) (oX7_copy_101 _ h)
                · replace h := h.2 c86
                  refine gk_aload dX7_copy_89 rfl ?_
                  refine gk_iload dX7_copy_91 rfl ?_
                  refine gk_iload dX7_copy_93 rfl ?_
                  refine gk_callV (as := [_, _]) (rest := []) (ctX5_hasRun_41 h) dX7_copy_95 rfl rfl wvX7_239 wcX5_hasRun rfl (Nat.le_of_ble_eq_true rfl) ⟨Nat.le_refl _, Nat.le_refl _⟩ (fun h9 => absurd rfl h9) (Nat.le_of_ble_eq_true rfl) rfl (fun v G2 S95_14 hq => ?_)
                  obtain ⟨rfl, r95_14, rfl, h⟩ := hq
                  refine gk_if_ne (tgt := 107) dX7_copy_98 (by decide) (fun c98 => ?_) (fun c98 => ?_)
                  · replace h := h.1 c98
                    refine gk_aload dX7_copy_107 rfl ?_
                    refine gk_getr dX7_copy_109 rfl rfl wfX7_143 ?_
                    refine gk_iload_n dX7_copy_112 rfl ?_
                    refine gk_aload dX7_copy_113 rfl ?_
                    refine gk_getr dX7_copy_115 rfl rfl wfX7_143 ?_
                    refine gk_iload dX7_copy_118 rfl ?_
                    refine gk_iload dX7_copy_120 rfl ?_
                    refine gk_copy dX7_copy_122 wk_copy wk_copyN wk_copyS wk_copyI rfl rfl h.1 h.2.1 h.2.2.1 h.2.2.2.1 h.2.2.2.2.1 (Nat.le_of_ble_eq_true rfl) (Nat.le_of_ble_eq_true rfl) ?_
                    replace h := h.2.2.2.2.2
                    refine gk_nmS (fun S122_14 eS122_14 => ?_)
                    replace h := h S122_14 eS122_14
                    refine gk_iconst (v := 1) dX7_copy_125 rfl ?_
                    exact gk_iret dX7_copy_126 rfl rfl rfl rfl ⟨rfl, _, rfl, h⟩
                  · replace h := h.2 c98
                    exact gk_less (gz_le_s rfl (gz_le_n (gz_le_n (gz_le_n (gz_le_n (gz_le_n (gz_le_n (gz_le_n gz_le_0)))))))) (oX7_copy_101 _ h)
              · replace h := h.2 c69
                refine gk_aload_n dX7_copy_72 rfl ?_
                refine gk_iconst (v := 4) dX7_copy_73 rfl ?_
                refine gk_callV (as := [_]) (rest := []) (ctX7_found h) dX7_copy_74 rfl rfl wvX7_218 wcX7_found rfl (Nat.le_of_ble_eq_true rfl) ⟨Nat.le_refl _, Nat.le_refl _⟩ (fun h9 => absurd rfl h9) (Nat.le_of_ble_eq_true rfl) rfl (fun v G2 S74_14 hq => ?_)
                obtain ⟨rfl, r74_14, rfl, h⟩ := hq
                exact gk_iret dX7_copy_77 rfl rfl rfl rfl ⟨rfl, _, rfl, h⟩
            · replace h := h.2 c50
              exact gk_less (gz_le_s rfl (gz_le_n (gz_le_n (gz_le_n (gz_le_n (gz_le_n (gz_le_n (gz_le_n gz_le_0)))))))) (oX7_copy_53 _ h)
        · refine gk_aaload (t := 0) dX7_copy_34 rfl h.1 (by rw [hj13]; rfl) ?_
          replace h := h.2
          try rw [hj13] at h
          refine gk_astore dX7_copy_35 (Nat.le_of_ble_eq_true rfl) rfl rfl ?_
          refine gk_aload dX7_copy_37 rfl ?_
          refine gk_callV (as := []) (rest := []) (ctX5_isLost_43 h) dX7_copy_39 rfl rfl wvX7_233 wcX5_isLost rfl (Nat.le_of_ble_eq_true rfl) ⟨Nat.le_refl _, Nat.le_refl _⟩ (fun h9 => absurd rfl h9) (Nat.le_of_ble_eq_true rfl) rfl (fun v G2 S39_15 hq => ?_)
          obtain ⟨rfl, r39_15, rfl, h⟩ := hq
          refine gk_if_ne (tgt := 53) dX7_copy_42 (by decide) (fun c42 => ?_) (fun c42 => ?_)
          · replace h := h.1 c42
            exact gk_less (gz_le_s rfl (gz_le_n (gz_le_n (gz_le_n (gz_le_n (gz_le_n (gz_le_n (gz_le_n gz_le_0)))))))) (oX7_copy_53 _ h)
          · replace h := h.2 c42
            refine gk_aload dX7_copy_45 rfl ?_
            refine gk_callV (as := []) (rest := []) (ctX5_isLost_43 h) dX7_copy_47 rfl rfl wvX7_233 wcX5_isLost rfl (Nat.le_of_ble_eq_true rfl) ⟨Nat.le_refl _, Nat.le_refl _⟩ (fun h9 => absurd rfl h9) (Nat.le_of_ble_eq_true rfl) rfl (fun v G2 S47_15 hq => ?_)
            obtain ⟨rfl, r47_15, rfl, h⟩ := hq
            refine gk_if_eq (tgt := 59) dX7_copy_50 (by decide) (fun c50 => ?_) (fun c50 => ?_)
            · replace h := h.1 c50
              refine gk_aload dX7_copy_59 rfl ?_
              refine gk_geti dX7_copy_61 rfl rfl wfX7_236 ?_
              refine gk_aload dX7_copy_64 rfl ?_
              refine gk_geti dX7_copy_66 rfl rfl wfX7_236 ?_
              refine gk_icmp_eq (tgt := 78) dX7_copy_69 (by decide) (fun c69 => ?_) (fun c69 => ?_)
              · replace h := h.1 c69
                refine gk_aload dX7_copy_78 rfl ?_
                refine gk_iload_n dX7_copy_80 rfl ?_
                refine gk_iload dX7_copy_81 rfl ?_
                refine gk_callV (as := [_, _]) (rest := []) (ctX5_hasRun_43 h) dX7_copy_83 rfl rfl wvX7_239 wcX5_hasRun rfl (Nat.le_of_ble_eq_true rfl) ⟨Nat.le_refl _, Nat.le_refl _⟩ (fun h9 => absurd rfl h9) (Nat.le_of_ble_eq_true rfl) rfl (fun v G2 S83_15 hq => ?_)
                obtain ⟨rfl, r83_15, rfl, h⟩ := hq
                refine gk_if_eq (tgt := 101) dX7_copy_86 (by decide) (fun c86 => ?_) (fun c86 => ?_)
                · replace h := h.1 c86
                  exact gk_less (gz_le_s rfl (gz_le_n (gz_le_n (gz_le_n (gz_le_n (gz_le_n (gz_le_n (gz_le_n gz_le_0)))))))) (oX7_copy_101 _ h)
                · replace h := h.2 c86
                  refine gk_aload dX7_copy_89 rfl ?_
                  refine gk_iload dX7_copy_91 rfl ?_
                  refine gk_iload dX7_copy_93 rfl ?_
                  refine gk_callV (as := [_, _]) (rest := []) (ctX5_hasRun_43 h) dX7_copy_95 rfl rfl wvX7_239 wcX5_hasRun rfl (Nat.le_of_ble_eq_true rfl) ⟨Nat.le_refl _, Nat.le_refl _⟩ (fun h9 => absurd rfl h9) (Nat.le_of_ble_eq_true rfl) rfl (fun v G2 S95_15 hq => ?_)
                  obtain ⟨rfl, r95_15, rfl, h⟩ := hq
                  refine gk_if_ne (tgt := 107) dX7_copy_98 (by decide) (fun c98 => ?_) (fun c98 => ?_)
                  · replace h := h.1 c98
                    refine gk_aload dX7_copy_107 rfl ?_
                    refine gk_getr dX7_copy_109 rfl rfl wfX7_143 ?_
                    refine gk_iload_n dX7_copy_112 rfl ?_
                    refine gk_aload dX7_copy_113 rfl ?_
                    refine gk_getr dX7_copy_115 rfl rfl wfX7_143 ?_
                    refine gk_iload dX7_copy_118 rfl ?_
                    refine gk_iload dX7_copy_120 rfl ?_
                    refine gk_copy dX7_copy_122 wk_copy wk_copyN wk_copyS wk_copyI rfl rfl h.1 h.2.1 h.2.2.1 h.2.2.2.1 h.2.2.2.2.1 (Nat.le_of_ble_eq_true rfl) (Nat.le_of_ble_eq_true rfl) ?_
                    replace h := h.2.2.2.2.2
                    refine gk_nmS (fun S122_15 eS122_15 => ?_)
                    replace h := h S122_15 eS122_15
                    refine gk_iconst (v := 1) dX7_copy_125 rfl ?_
                    exact gk_iret dX7_copy_126 rfl rfl rfl rfl ⟨rfl, _, rfl, h⟩
                  · replace h := h.2 c98
                    exact gk_less (gz_le_s rfl (gz_le_n (gz_le_n (gz_le_n (gz_le_n (gz_le_n (gz_le_n (gz_le_n gz_le_0)))))))) (oX7_copy_101 _ h)
              · replace h := h.2 c69
                refine gk_aload_n dX7_copy_72 rfl ?_
                refine gk_iconst (v := 4) dX7_copy_73 rfl ?_
                refine gk_callV (as := [_]) (rest := []) (ctX7_found h) dX7_copy_74 rfl rfl wvX7_218 wcX7_found rfl (Nat.le_of_ble_eq_true rfl) ⟨Nat.le_refl _, Nat.le_refl _⟩ (fun h9 => absurd rfl h9) (Nat.le_of_ble_eq_true rfl) rfl (fun v G2 S74_15 hq => ?_)
                obtain ⟨rfl, r74_15, rfl, h⟩ := hq
                exact gk_iret dX7_copy_77 rfl rfl rfl rfl ⟨rfl, _, rfl, h⟩
            · replace h := h.2 c50
              exact gk_less (gz_le_s rfl (gz_le_n (gz_le_n (gz_le_n (gz_le_n (gz_le_n (gz_le_n (gz_le_n gz_le_0)))))))) (oX7_copy_53 _ h)
    · replace h := h.2 c15
      refine gk_bipush (v := (-2)) dX7_copy_18 rfl ?_
      exact gk_iret dX7_copy_20 rfl rfl rfl rfl ⟨rfl, _, rfl, h⟩
