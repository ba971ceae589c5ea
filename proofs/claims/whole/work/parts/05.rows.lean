section
variable {E : gz_E} {M : gz_M} {N : gz_N} {cells slots pc : Nat} {L : List (Option Value)} {st : List Value} {G : List gz_G} {S : gz_S} {Q : gz_Q}
theorem gk_iconst {n : Int} {v : Int32} (hd : decode M.2.1 pc = .ok (.iconst n, 1)) (hv : Int32.ofInt n = v) (k : gz_k E M N cells slots (pc + 1) L (.int v :: st) G S Q) : gz_k E M N cells slots pc L (st) G S Q := by
  intro p e s m args below meth c Z R C H locs ls hw hh
  exact lv_iconst C.1 C.2.1 hd hv (k p e s m args below meth c Z R C H locs ls hw hh)
theorem gk_bipush {n : Int} {v : Int32} (hd : decode M.2.1 pc = .ok (.bipush n, 2)) (hv : (Int8.ofInt n).toInt32 = v) (k : gz_k E M N cells slots (pc + 2) L (.int v :: st) G S Q) : gz_k E M N cells slots pc L (st) G S Q := by
  intro p e s m args below meth c Z R C H locs ls hw hh
  exact lv_bipush C.1 C.2.1 hd hv (k p e s m args below meth c Z R C H locs ls hw hh)
theorem gk_sipush {n : Int} {v : Int32} (hd : decode M.2.1 pc = .ok (.sipush n, 3)) (hv : (Int16.ofInt n).toInt32 = v) (k : gz_k E M N cells slots (pc + 3) L (.int v :: st) G S Q) : gz_k E M N cells slots pc L (st) G S Q := by
  intro p e s m args below meth c Z R C H locs ls hw hh
  exact lv_sipush C.1 C.2.1 hd hv (k p e s m args below meth c Z R C H locs ls hw hh)
theorem gk_lconst {n : Fin 2} {v : Int64} (hd : decode M.2.1 pc = .ok (.lconst n, 1)) (hv : Int64.ofNat (n : Nat) = v) (k : gz_k E M N cells slots (pc + 1) L (.long v :: st) G S Q) : gz_k E M N cells slots pc L (st) G S Q := by
  intro p e s m args below meth c Z R C H locs ls hw hh
  exact lv_lconst C.1 C.2.1 hd hv (k p e s m args below meth c Z R C H locs ls hw hh)
theorem gk_iadd {x y : Int32} (hd : decode M.2.1 pc = .ok (.iadd, 1)) (k : gz_k E M N cells slots (pc + 1) L (.int (x + y) :: st) G S Q) : gz_k E M N cells slots pc L (.int y :: .int x :: st) G S Q := by
  intro p e s m args below meth c Z R C H locs ls hw hh
  exact lv_iadd C.1 C.2.1 hd (k p e s m args below meth c Z R C H locs ls hw hh)
theorem gk_isub {x y : Int32} (hd : decode M.2.1 pc = .ok (.isub, 1)) (k : gz_k E M N cells slots (pc + 1) L (.int (x - y) :: st) G S Q) : gz_k E M N cells slots pc L (.int y :: .int x :: st) G S Q := by
  intro p e s m args below meth c Z R C H locs ls hw hh
  exact lv_isub C.1 C.2.1 hd (k p e s m args below meth c Z R C H locs ls hw hh)
theorem gk_imul {x y : Int32} (hd : decode M.2.1 pc = .ok (.imul, 1)) (k : gz_k E M N cells slots (pc + 1) L (.int (x * y) :: st) G S Q) : gz_k E M N cells slots pc L (.int y :: .int x :: st) G S Q := by
  intro p e s m args below meth c Z R C H locs ls hw hh
  exact lv_imul C.1 C.2.1 hd (k p e s m args below meth c Z R C H locs ls hw hh)
theorem gk_iand {x y : Int32} (hd : decode M.2.1 pc = .ok (.iand, 1)) (k : gz_k E M N cells slots (pc + 1) L (.int (x &&& y) :: st) G S Q) : gz_k E M N cells slots pc L (.int y :: .int x :: st) G S Q := by
  intro p e s m args below meth c Z R C H locs ls hw hh
  exact lv_iand C.1 C.2.1 hd (k p e s m args below meth c Z R C H locs ls hw hh)
theorem gk_ior {x y : Int32} (hd : decode M.2.1 pc = .ok (.ior, 1)) (k : gz_k E M N cells slots (pc + 1) L (.int (x ||| y) :: st) G S Q) : gz_k E M N cells slots pc L (.int y :: .int x :: st) G S Q := by
  intro p e s m args below meth c Z R C H locs ls hw hh
  exact lv_ior C.1 C.2.1 hd (k p e s m args below meth c Z R C H locs ls hw hh)
theorem gk_ixor {x y : Int32} (hd : decode M.2.1 pc = .ok (.ixor, 1)) (k : gz_k E M N cells slots (pc + 1) L (.int (x ^^^ y) :: st) G S Q) : gz_k E M N cells slots pc L (.int y :: .int x :: st) G S Q := by
  intro p e s m args below meth c Z R C H locs ls hw hh
  exact lv_ixor C.1 C.2.1 hd (k p e s m args below meth c Z R C H locs ls hw hh)
theorem gk_ladd {x y : Int64} (hd : decode M.2.1 pc = .ok (.ladd, 1)) (k : gz_k E M N cells slots (pc + 1) L (.long (x + y) :: st) G S Q) : gz_k E M N cells slots pc L (.long y :: .long x :: st) G S Q := by
  intro p e s m args below meth c Z R C H locs ls hw hh
  exact lv_ladd C.1 C.2.1 hd (k p e s m args below meth c Z R C H locs ls hw hh)
theorem gk_lmul {x y : Int64} (hd : decode M.2.1 pc = .ok (.lmul, 1)) (k : gz_k E M N cells slots (pc + 1) L (.long (x * y) :: st) G S Q) : gz_k E M N cells slots pc L (.long y :: .long x :: st) G S Q := by
  intro p e s m args below meth c Z R C H locs ls hw hh
  exact lv_lmul C.1 C.2.1 hd (k p e s m args below meth c Z R C H locs ls hw hh)
theorem gk_lsub {x y : Int64} (hd : decode M.2.1 pc = .ok (.lsub, 1)) (k : gz_k E M N cells slots (pc + 1) L (.long (x - y) :: st) G S Q) : gz_k E M N cells slots pc L (.long y :: .long x :: st) G S Q := by
  intro p e s m args below meth c Z R C H locs ls hw hh
  exact lv_lsub C.1 C.2.1 hd (k p e s m args below meth c Z R C H locs ls hw hh)
theorem gk_idiv {x y : Int32} (hd : decode M.2.1 pc = .ok (.idiv, 1)) (hne : ¬ y = 0) (k : gz_k E M N cells slots (pc + 1) L (.int (x / y) :: st) G S Q) : gz_k E M N cells slots pc L (.int y :: .int x :: st) G S Q := by
  intro p e s m args below meth c Z R C H locs ls hw hh
  exact lv_idiv C.1 C.2.1 hd hne (k p e s m args below meth c Z R C H locs ls hw hh)
theorem gk_irem {x y : Int32} (hd : decode M.2.1 pc = .ok (.irem, 1)) (hne : ¬ y = 0) (k : gz_k E M N cells slots (pc + 1) L (.int (x - x / y * y) :: st) G S Q) : gz_k E M N cells slots pc L (.int y :: .int x :: st) G S Q := by
  intro p e s m args below meth c Z R C H locs ls hw hh
  exact lv_irem C.1 C.2.1 hd hne (k p e s m args below meth c Z R C H locs ls hw hh)
theorem gk_ineg {x : Int32} (hd : decode M.2.1 pc = .ok (.ineg, 1)) (k : gz_k E M N cells slots (pc + 1) L (.int (-x) :: st) G S Q) : gz_k E M N cells slots pc L (.int x :: st) G S Q := by
  intro p e s m args below meth c Z R C H locs ls hw hh
  exact lv_ineg C.1 C.2.1 hd (k p e s m args below meth c Z R C H locs ls hw hh)
theorem gk_ishl {x y : Int32} (hd : decode M.2.1 pc = .ok (.ishl, 1)) (k : gz_k E M N cells slots (pc + 1) L (.int (x <<< (y &&& 31)) :: st) G S Q) : gz_k E M N cells slots pc L (.int y :: .int x :: st) G S Q := by
  intro p e s m args below meth c Z R C H locs ls hw hh
  exact lv_ishl C.1 C.2.1 hd (k p e s m args below meth c Z R C H locs ls hw hh)
theorem gk_ishr {x y : Int32} (hd : decode M.2.1 pc = .ok (.ishr, 1)) (k : gz_k E M N cells slots (pc + 1) L (.int (x >>> (y &&& 31)) :: st) G S Q) : gz_k E M N cells slots pc L (.int y :: .int x :: st) G S Q := by
  intro p e s m args below meth c Z R C H locs ls hw hh
  exact lv_ishr C.1 C.2.1 hd (k p e s m args below meth c Z R C H locs ls hw hh)
theorem gk_iushr {x y : Int32} (hd : decode M.2.1 pc = .ok (.iushr, 1)) (k : gz_k E M N cells slots (pc + 1) L (.int ((x.toUInt32 >>> (y.toUInt32 &&& Int32.toUInt32 31)).toInt32) :: st) G S Q) : gz_k E M N cells slots pc L (.int y :: .int x :: st) G S Q := by
  intro p e s m args below meth c Z R C H locs ls hw hh
  exact lv_iushr C.1 C.2.1 hd rfl (k p e s m args below meth c Z R C H locs ls hw hh)
theorem gk_i2l {x : Int32} (hd : decode M.2.1 pc = .ok (.i2l, 1)) (k : gz_k E M N cells slots (pc + 1) L (.long x.toInt64 :: st) G S Q) : gz_k E M N cells slots pc L (.int x :: st) G S Q := by
  intro p e s m args below meth c Z R C H locs ls hw hh
  exact lv_i2l C.1 C.2.1 hd rfl (k p e s m args below meth c Z R C H locs ls hw hh)
theorem gk_i2b {x : Int32} (hd : decode M.2.1 pc = .ok (.i2b, 1)) (k : gz_k E M N cells slots (pc + 1) L (.int x.toInt8.toInt32 :: st) G S Q) : gz_k E M N cells slots pc L (.int x :: st) G S Q := by
  intro p e s m args below meth c Z R C H locs ls hw hh
  exact lv_i2b C.1 C.2.1 hd rfl (k p e s m args below meth c Z R C H locs ls hw hh)
theorem gk_i2s {x : Int32} (hd : decode M.2.1 pc = .ok (.i2s, 1)) (k : gz_k E M N cells slots (pc + 1) L (.int x.toInt16.toInt32 :: st) G S Q) : gz_k E M N cells slots pc L (.int x :: st) G S Q := by
  intro p e s m args below meth c Z R C H locs ls hw hh
  exact lv_i2s C.1 C.2.1 hd rfl (k p e s m args below meth c Z R C H locs ls hw hh)
theorem gk_lcmp {x y : Int64} (hd : decode M.2.1 pc = .ok (.lcmp, 1)) (k : gz_k E M N cells slots (pc + 1) L (.int (lg_cmp x y) :: st) G S Q) : gz_k E M N cells slots pc L (.long y :: .long x :: st) G S Q := by
  intro p e s m args below meth c Z R C H locs ls hw hh
  exact W.lcmp C.1 C.2.1 hd (k p e s m args below meth c Z R C H locs ls hw hh)
theorem gk_dup {v : Value} (hd : decode M.2.1 pc = .ok (.dup, 1)) (hv : v.category = 1) (k : gz_k E M N cells slots (pc + 1) L (v :: v :: st) G S Q) : gz_k E M N cells slots pc L (v :: st) G S Q := by
  intro p e s m args below meth c Z R C H locs ls hw hh
  exact lv_dup C.1 C.2.1 hd ((gz_v_cat E v).trans hv) (k p e s m args below meth c Z R C H locs ls hw hh)
theorem gk_pop {v : Value} (hd : decode M.2.1 pc = .ok (.pop, 1)) (hv : v.category = 1) (k : gz_k E M N cells slots (pc + 1) L (st) G S Q) : gz_k E M N cells slots pc L (v :: st) G S Q := by
  intro p e s m args below meth c Z R C H locs ls hw hh
  exact lv_pop C.1 C.2.1 hd ((gz_v_cat E v).trans hv) (k p e s m args below meth c Z R C H locs ls hw hh)
theorem gk_dup2 {v u : Value} (hd : decode M.2.1 pc = .ok (.dup2, 1)) (hv : v.category = 1) (hu : u.category = 1) (k : gz_k E M N cells slots (pc + 1) L (v :: u :: v :: u :: st) G S Q) : gz_k E M N cells slots pc L (v :: u :: st) G S Q := by
  intro p e s m args below meth c Z R C H locs ls hw hh
  exact lv_dup2_11 C.1 C.2.1 hd ((gz_v_cat E v).trans hv) ((gz_v_cat E u).trans hu) (k p e s m args below meth c Z R C H locs ls hw hh)
theorem gk_dup_x1 {v u : Value} (hd : decode M.2.1 pc = .ok (.dup_x1, 1)) (hv : v.category = 1) (hu : u.category = 1) (k : gz_k E M N cells slots (pc + 1) L (v :: u :: v :: st) G S Q) : gz_k E M N cells slots pc L (v :: u :: st) G S Q := by
  intro p e s m args below meth c Z R C H locs ls hw hh
  exact lv_dup_x1 C.1 C.2.1 hd ((gz_v_cat E v).trans hv) ((gz_v_cat E u).trans hu) (k p e s m args below meth c Z R C H locs ls hw hh)
theorem gk_iload_n {k : Fin 4} {x : Int32} (hd : decode M.2.1 pc = .ok (.iload_n k, 1)) (hl : L[(k : Nat)]? = some (some (.int x))) (k : gz_k E M N cells slots (pc + 1) L (.int x :: st) G S Q) : gz_k E M N cells slots pc L st G S Q := by
  intro p e s m args below meth c Z R C H locs ls hw hh
  exact lv_iload_n C.1 C.2.1 hd rfl (hh.2.2 _ _ hl) (k p e s m args below meth c Z R C H locs ls hw hh)
theorem gk_iload {i : Nat} {x : Int32} (hd : decode M.2.1 pc = .ok (.iload i, 2)) (hl : L[i]? = some (some (.int x))) (k : gz_k E M N cells slots (pc + 2) L (.int x :: st) G S Q) : gz_k E M N cells slots pc L st G S Q := by
  intro p e s m args below meth c Z R C H locs ls hw hh
  exact lv_iload C.1 C.2.1 hd (hh.2.2 _ _ hl) (k p e s m args below meth c Z R C H locs ls hw hh)
theorem gk_lload_n {k : Fin 4} {x : Int64} (hd : decode M.2.1 pc = .ok (.lload_n k, 1)) (hl : L[(k : Nat)]? = some (some (.long x))) (k : gz_k E M N cells slots (pc + 1) L (.long x :: st) G S Q) : gz_k E M N cells slots pc L st G S Q := by
  intro p e s m args below meth c Z R C H locs ls hw hh
  exact lv_lload_n C.1 C.2.1 hd rfl (hh.2.2 _ _ hl) (k p e s m args below meth c Z R C H locs ls hw hh)
theorem gk_lload {i : Nat} {x : Int64} (hd : decode M.2.1 pc = .ok (.lload i, 2)) (hl : L[i]? = some (some (.long x))) (k : gz_k E M N cells slots (pc + 2) L (.long x :: st) G S Q) : gz_k E M N cells slots pc L st G S Q := by
  intro p e s m args below meth c Z R C H locs ls hw hh
  exact lv_lload C.1 C.2.1 hd (hh.2.2 _ _ hl) (k p e s m args below meth c Z R C H locs ls hw hh)
theorem gk_aload_n {k : Fin 4} {x : Nat} (hd : decode M.2.1 pc = .ok (.aload_n k, 1)) (hl : L[(k : Nat)]? = some (some (.ref x))) (k : gz_k E M N cells slots (pc + 1) L (.ref x :: st) G S Q) : gz_k E M N cells slots pc L st G S Q := by
  intro p e s m args below meth c Z R C H locs ls hw hh
  exact lv_aload_n C.1 C.2.1 hd rfl (hh.2.2 _ _ hl) (k p e s m args below meth c Z R C H locs ls hw hh)
theorem gk_aload {i : Nat} {x : Nat} (hd : decode M.2.1 pc = .ok (.aload i, 2)) (hl : L[i]? = some (some (.ref x))) (k : gz_k E M N cells slots (pc + 2) L (.ref x :: st) G S Q) : gz_k E M N cells slots pc L st G S Q := by
  intro p e s m args below meth c Z R C H locs ls hw hh
  exact lv_aload C.1 C.2.1 hd (hh.2.2 _ _ hl) (k p e s m args below meth c Z R C H locs ls hw hh)
theorem gk_sload_n {k : Fin 4} {x : UInt32} (hd : decode M.2.1 pc = .ok (.aload_n k, 1)) (hl : L[(k : Nat)]? = some (some (.float x))) (k : gz_k E M N cells slots (pc + 1) L (.float x :: st) G S Q) : gz_k E M N cells slots pc L st G S Q := by
  intro p e s m args below meth c Z R C H locs ls hw hh
  exact lv_aload_n C.1 C.2.1 hd rfl (hh.2.2 _ _ hl) (k p e s m args below meth c Z R C H locs ls hw hh)
theorem gk_istore_n {k : Fin 4} {x : Int32} {L2 : List (Option Value)} (hd : decode M.2.1 pc = .ok (.istore_n k, 1)) (hn : (k : Nat) < M.2.2.1) (ho : gz_o L (k : Nat) = true) (h2 : L.set (k : Nat) (some (.int x)) = L2) (k : gz_k E M N cells slots (pc + 1) L2 st G S Q) : gz_k E M N cells slots pc L (.int x :: st) G S Q := by
  intro p e s m args below meth c Z R C H locs ls hw hh
  subst h2
  exact lv_istore_n C.1 C.2.1 hd rfl (gz_p_has hh) hn rfl (fun ls2 h2 => k p e s m args below meth c Z R C H locs ls2 hw (gz_h_set1 (v := .int x) ho h2))
theorem gk_istore {i : Nat} {x : Int32} {L2 : List (Option Value)} (hd : decode M.2.1 pc = .ok (.istore i, 2)) (hn : i < M.2.2.1) (ho : gz_o L i = true) (h2 : L.set i (some (.int x)) = L2) (k : gz_k E M N cells slots (pc + 2) L2 st G S Q) : gz_k E M N cells slots pc L (.int x :: st) G S Q := by
  intro p e s m args below meth c Z R C H locs ls hw hh
  subst h2
  exact lv_istore C.1 C.2.1 hd (gz_p_has hh) hn rfl (fun ls2 h2 => k p e s m args below meth c Z R C H locs ls2 hw (gz_h_set1 (v := .int x) ho h2))
theorem gk_astore_n {k : Fin 4} {x : Nat} {L2 : List (Option Value)} (hd : decode M.2.1 pc = .ok (.astore_n k, 1)) (hn : (k : Nat) < M.2.2.1) (ho : gz_o L (k : Nat) = true) (h2 : L.set (k : Nat) (some (.ref x)) = L2) (k : gz_k E M N cells slots (pc + 1) L2 st G S Q) : gz_k E M N cells slots pc L (.ref x :: st) G S Q := by
  intro p e s m args below meth c Z R C H locs ls hw hh
  subst h2
  exact lv_astore_n C.1 C.2.1 hd rfl (gz_p_has hh) hn rfl (fun ls2 h2 => k p e s m args below meth c Z R C H locs ls2 hw (gz_h_set1 (v := .ref x) ho h2))
theorem gk_astore {i : Nat} {x : Nat} {L2 : List (Option Value)} (hd : decode M.2.1 pc = .ok (.astore i, 2)) (hn : i < M.2.2.1) (ho : gz_o L i = true) (h2 : L.set i (some (.ref x)) = L2) (k : gz_k E M N cells slots (pc + 2) L2 st G S Q) : gz_k E M N cells slots pc L (.ref x :: st) G S Q := by
  intro p e s m args below meth c Z R C H locs ls hw hh
  subst h2
  exact lv_astore C.1 C.2.1 hd (gz_p_has hh) hn rfl (fun ls2 h2 => k p e s m args below meth c Z R C H locs ls2 hw (gz_h_set1 (v := .ref x) ho h2))
theorem gk_lstore_n {k : Fin 4} {x : Int64} {L2 : List (Option Value)} (hd : decode M.2.1 pc = .ok (.lstore_n k, 1)) (hn : (k : Nat) + 1 < M.2.2.1) (ho : gz_o L (k : Nat) = true) (h2 : (L.set (k : Nat) (some (.long x))).set ((k : Nat) + 1) none = L2) (k : gz_k E M N cells slots (pc + 1) L2 st G S Q) : gz_k E M N cells slots pc L (.long x :: st) G S Q := by
  intro p e s m args below meth c Z R C H locs ls hw hh
  subst h2
  exact lv_lstore_n C.1 C.2.1 hd rfl (gz_p_has hh) hn rfl (fun ls2 h2 => k p e s m args below meth c Z R C H locs ls2 hw (gz_h_set2 (v := .long x) ho h2))
theorem gk_lstore {i : Nat} {x : Int64} {L2 : List (Option Value)} (hd : decode M.2.1 pc = .ok (.lstore i, 2)) (hn : i + 1 < M.2.2.1) (ho : gz_o L i = true) (h2 : (L.set i (some (.long x))).set (i + 1) none = L2) (k : gz_k E M N cells slots (pc + 2) L2 st G S Q) : gz_k E M N cells slots pc L (.long x :: st) G S Q := by
  intro p e s m args below meth c Z R C H locs ls hw hh
  subst h2
  exact lv_lstore C.1 C.2.1 hd (gz_p_has hh) hn rfl (fun ls2 h2 => k p e s m args below meth c Z R C H locs ls2 hw (gz_h_set2 (v := .long x) ho h2))
theorem gz_p_has1 {ls : Array Slot} {n i : Nat} {v : Value} (h : gz_h E ls n L) (hl : L[i]? = some (some v)) : lv_has ls n ((i, gz_v E v) :: gz_p E L) := by
  have h1 := gz_p_has h
  refine ⟨h1.1, h1.2.1, fun q hq => ?_⟩
  rcases List.mem_cons.mp hq with rfl | hq
  · exact h.2.2 _ _ hl
  · exact h1.2.2 q hq
theorem gz_h_inc {ls : Array Slot} {n i : Nat} {u v : Value} (ho : gz_o L i = true) (h : lv_has ls n ((i, gz_v E v) :: ((i, gz_v E u) :: gz_p E L).filter (fun q => !(q.1 == i) && !(q.1 + 1 == i && q.2.category == 2)))) : gz_h E ls n (L.set i (some v)) := by
  refine gz_h_set1 ho ?_
  have e : ((i, gz_v E u) :: gz_p E L).filter (fun q => !(q.1 == i) && !(q.1 + 1 == i && q.2.category == 2)) = (gz_p E L).filter (fun q => !(q.1 == i) && !(q.1 + 1 == i && q.2.category == 2)) := by simp
  rw [e] at h
  exact h
theorem gk_iinc {i : Nat} {n : Int} {x v : Int32} {L2 : List (Option Value)} (hd : decode M.2.1 pc = .ok (.iinc i n, 3)) (hl : L[i]? = some (some (.int x))) (hn : i < M.2.2.1) (ho : gz_o L i = true) (hv : x + Int32.ofInt n = v) (h2 : L.set i (some (.int v)) = L2) (k : gz_k E M N cells slots (pc + 3) L2 st G S Q) : gz_k E M N cells slots pc L st G S Q := by
  intro p e s m args below meth c Z R C H locs ls hw hh
  subst h2
  exact lv_iinc C.1 C.2.1 hd (gz_p_has1 (v := .int x) hh hl) (k := 0) rfl hv hn rfl (fun ls2 h2 => k p e s m args below meth c Z R C H locs ls2 hw (gz_h_inc (u := .int x) (v := .int v) ho h2))
theorem gk_if_eq {x : Int32} {off : Int} {tgt : Nat} (hd : decode M.2.1 pc = .ok (.ifCond .eq off, 3)) (ht : (pc : Int) + off = (tgt : Int)) (kt : x = 0 → gz_k E M N cells slots tgt L st G S Q) (kf : ¬ x = 0 → gz_k E M N cells slots (pc + 3) L st G S Q) : gz_k E M N cells slots pc L (.int x :: st) G S Q := by
  intro p e s m args below meth c Z R C H locs ls hw hh
  exact lv_if_eq C.1 C.2.1 hd ht (fun h => kt h p e s m args below meth c Z R C H locs ls hw hh) (fun h => kf h p e s m args below meth c Z R C H locs ls hw hh)
theorem gk_if_ne {x : Int32} {off : Int} {tgt : Nat} (hd : decode M.2.1 pc = .ok (.ifCond .ne off, 3)) (ht : (pc : Int) + off = (tgt : Int)) (kt : ¬ x = 0 → gz_k E M N cells slots tgt L st G S Q) (kf : x = 0 → gz_k E M N cells slots (pc + 3) L st G S Q) : gz_k E M N cells slots pc L (.int x :: st) G S Q := by
  intro p e s m args below meth c Z R C H locs ls hw hh
  exact lv_if_ne C.1 C.2.1 hd ht (fun h => kt h p e s m args below meth c Z R C H locs ls hw hh) (fun h => kf h p e s m args below meth c Z R C H locs ls hw hh)
theorem gk_if_lt {x : Int32} {off : Int} {tgt : Nat} (hd : decode M.2.1 pc = .ok (.ifCond .lt off, 3)) (ht : (pc : Int) + off = (tgt : Int)) (kt : x < 0 → gz_k E M N cells slots tgt L st G S Q) (kf : ¬ x < 0 → gz_k E M N cells slots (pc + 3) L st G S Q) : gz_k E M N cells slots pc L (.int x :: st) G S Q := by
  intro p e s m args below meth c Z R C H locs ls hw hh
  exact lv_if_lt C.1 C.2.1 hd ht (fun h => kt h p e s m args below meth c Z R C H locs ls hw hh) (fun h => kf h p e s m args below meth c Z R C H locs ls hw hh)
theorem gk_if_ge {x : Int32} {off : Int} {tgt : Nat} (hd : decode M.2.1 pc = .ok (.ifCond .ge off, 3)) (ht : (pc : Int) + off = (tgt : Int)) (kt : 0 ≤ x → gz_k E M N cells slots tgt L st G S Q) (kf : ¬ 0 ≤ x → gz_k E M N cells slots (pc + 3) L st G S Q) : gz_k E M N cells slots pc L (.int x :: st) G S Q := by
  intro p e s m args below meth c Z R C H locs ls hw hh
  exact lv_if_ge C.1 C.2.1 hd ht (fun h => kt h p e s m args below meth c Z R C H locs ls hw hh) (fun h => kf h p e s m args below meth c Z R C H locs ls hw hh)
theorem gk_if_gt {x : Int32} {off : Int} {tgt : Nat} (hd : decode M.2.1 pc = .ok (.ifCond .gt off, 3)) (ht : (pc : Int) + off = (tgt : Int)) (kt : 0 < x → gz_k E M N cells slots tgt L st G S Q) (kf : ¬ 0 < x → gz_k E M N cells slots (pc + 3) L st G S Q) : gz_k E M N cells slots pc L (.int x :: st) G S Q := by
  intro p e s m args below meth c Z R C H locs ls hw hh
  exact lv_if_gt C.1 C.2.1 hd ht (fun h => kt h p e s m args below meth c Z R C H locs ls hw hh) (fun h => kf h p e s m args below meth c Z R C H locs ls hw hh)
theorem gk_if_le {x : Int32} {off : Int} {tgt : Nat} (hd : decode M.2.1 pc = .ok (.ifCond .le off, 3)) (ht : (pc : Int) + off = (tgt : Int)) (kt : x ≤ 0 → gz_k E M N cells slots tgt L st G S Q) (kf : ¬ x ≤ 0 → gz_k E M N cells slots (pc + 3) L st G S Q) : gz_k E M N cells slots pc L (.int x :: st) G S Q := by
  intro p e s m args below meth c Z R C H locs ls hw hh
  exact lv_if_le C.1 C.2.1 hd ht (fun h => kt h p e s m args below meth c Z R C H locs ls hw hh) (fun h => kf h p e s m args below meth c Z R C H locs ls hw hh)
theorem gk_icmp_eq {x y : Int32} {off : Int} {tgt : Nat} (hd : decode M.2.1 pc = .ok (.if_icmp .eq off, 3)) (ht : (pc : Int) + off = (tgt : Int)) (kt : x = y → gz_k E M N cells slots tgt L st G S Q) (kf : ¬ x = y → gz_k E M N cells slots (pc + 3) L st G S Q) : gz_k E M N cells slots pc L (.int y :: .int x :: st) G S Q := by
  intro p e s m args below meth c Z R C H locs ls hw hh
  exact lv_icmp_eq C.1 C.2.1 hd ht (fun h => kt h p e s m args below meth c Z R C H locs ls hw hh) (fun h => kf h p e s m args below meth c Z R C H locs ls hw hh)
theorem gk_icmp_ne {x y : Int32} {off : Int} {tgt : Nat} (hd : decode M.2.1 pc = .ok (.if_icmp .ne off, 3)) (ht : (pc : Int) + off = (tgt : Int)) (kt : ¬ x = y → gz_k E M N cells slots tgt L st G S Q) (kf : x = y → gz_k E M N cells slots (pc + 3) L st G S Q) : gz_k E M N cells slots pc L (.int y :: .int x :: st) G S Q := by
  intro p e s m args below meth c Z R C H locs ls hw hh
  exact lv_icmp_ne C.1 C.2.1 hd ht (fun h => kt h p e s m args below meth c Z R C H locs ls hw hh) (fun h => kf h p e s m args below meth c Z R C H locs ls hw hh)
theorem gk_icmp_lt {x y : Int32} {off : Int} {tgt : Nat} (hd : decode M.2.1 pc = .ok (.if_icmp .lt off, 3)) (ht : (pc : Int) + off = (tgt : Int)) (kt : x < y → gz_k E M N cells slots tgt L st G S Q) (kf : ¬ x < y → gz_k E M N cells slots (pc + 3) L st G S Q) : gz_k E M N cells slots pc L (.int y :: .int x :: st) G S Q := by
  intro p e s m args below meth c Z R C H locs ls hw hh
  exact lv_icmp_lt C.1 C.2.1 hd ht (fun h => kt h p e s m args below meth c Z R C H locs ls hw hh) (fun h => kf h p e s m args below meth c Z R C H locs ls hw hh)
theorem gk_icmp_ge {x y : Int32} {off : Int} {tgt : Nat} (hd : decode M.2.1 pc = .ok (.if_icmp .ge off, 3)) (ht : (pc : Int) + off = (tgt : Int)) (kt : y ≤ x → gz_k E M N cells slots tgt L st G S Q) (kf : ¬ y ≤ x → gz_k E M N cells slots (pc + 3) L st G S Q) : gz_k E M N cells slots pc L (.int y :: .int x :: st) G S Q := by
  intro p e s m args below meth c Z R C H locs ls hw hh
  exact lv_icmp_ge C.1 C.2.1 hd ht (fun h => kt h p e s m args below meth c Z R C H locs ls hw hh) (fun h => kf h p e s m args below meth c Z R C H locs ls hw hh)
theorem gk_icmp_gt {x y : Int32} {off : Int} {tgt : Nat} (hd : decode M.2.1 pc = .ok (.if_icmp .gt off, 3)) (ht : (pc : Int) + off = (tgt : Int)) (kt : y < x → gz_k E M N cells slots tgt L st G S Q) (kf : ¬ y < x → gz_k E M N cells slots (pc + 3) L st G S Q) : gz_k E M N cells slots pc L (.int y :: .int x :: st) G S Q := by
  intro p e s m args below meth c Z R C H locs ls hw hh
  exact lv_icmp_gt C.1 C.2.1 hd ht (fun h => kt h p e s m args below meth c Z R C H locs ls hw hh) (fun h => kf h p e s m args below meth c Z R C H locs ls hw hh)
theorem gk_icmp_le {x y : Int32} {off : Int} {tgt : Nat} (hd : decode M.2.1 pc = .ok (.if_icmp .le off, 3)) (ht : (pc : Int) + off = (tgt : Int)) (kt : x ≤ y → gz_k E M N cells slots tgt L st G S Q) (kf : ¬ x ≤ y → gz_k E M N cells slots (pc + 3) L st G S Q) : gz_k E M N cells slots pc L (.int y :: .int x :: st) G S Q := by
  intro p e s m args below meth c Z R C H locs ls hw hh
  exact lv_icmp_le C.1 C.2.1 hd ht (fun h => kt h p e s m args below meth c Z R C H locs ls hw hh) (fun h => kf h p e s m args below meth c Z R C H locs ls hw hh)
theorem gk_goto {off : Int} {tgt : Nat} (hd : decode M.2.1 pc = .ok (.goto off, 3)) (ht : (pc : Int) + off = (tgt : Int)) (k : gz_k E M N cells slots tgt L st G S Q) : gz_k E M N cells slots pc L st G S Q := by
  intro p e s m args below meth c Z R C H locs ls hw hh
  exact lv_goto C.1 C.2.1 hd ht (k p e s m args below meth c Z R C H locs ls hw hh)
theorem gk_tableOut {dflt lo hi : Int} {offs : Array Int} {len : Nat} {x : Int32} {tgt : Nat} (hd : decode M.2.1 pc = .ok (.tableswitch dflt lo hi offs, len)) (h : x.toInt < lo ∨ hi < x.toInt) (ht : (pc : Int) + dflt = (tgt : Int)) (k : gz_k E M N cells slots tgt L st G S Q) : gz_k E M N cells slots pc L (.int x :: st) G S Q := by
  intro p e s m args below meth c Z R C H locs ls hw hh
  exact lv_tableOut C.1 C.2.1 hd h ht (k p e s m args below meth c Z R C H locs ls hw hh)
theorem gk_tableIn {dflt lo hi : Int} {offs : Array Int} {len : Nat} {x : Int32} {off : Int} {tgt : Nat} (hd : decode M.2.1 pc = .ok (.tableswitch dflt lo hi offs, len)) (h1 : ¬ x.toInt < lo) (h2 : ¬ hi < x.toInt) (ho : offs[(x.toInt - lo).toNat]? = some off) (ht : (pc : Int) + off = (tgt : Int)) (k : gz_k E M N cells slots tgt L st G S Q) : gz_k E M N cells slots pc L (.int x :: st) G S Q := by
  intro p e s m args below meth c Z R C H locs ls hw hh
  exact lv_tableIn C.1 C.2.1 hd h1 h2 ho ht (k p e s m args below meth c Z R C H locs ls hw hh)
theorem gk_ldc {i : Nat} {v : Int32} (hd : decode M.2.1 pc = .ok (.ldc i, 2)) (hc : Cond.constant M.1.cls i v ∈ gz_tbl) (k : gz_k E M N cells slots (pc + 2) L (.int v :: st) G S Q) : gz_k E M N cells slots pc L st G S Q := by
  intro p e s m args below meth c Z R C H locs ls hw hh
  exact lv_ldc C.1 C.2.1 C.2.2.2.1 (C.2.2.2.2.1 _ hc) hd (k p e s m args below meth c Z R C H locs ls hw hh)
theorem gk_ldcw {i : Nat} {v : Int32} (hd : decode M.2.1 pc = .ok (.ldc_w i, 3)) (hc : Cond.constant M.1.cls i v ∈ gz_tbl) (k : gz_k E M N cells slots (pc + 3) L (.int v :: st) G S Q) : gz_k E M N cells slots pc L st G S Q := by
  intro p e s m args below meth c Z R C H locs ls hw hh
  exact lv_ldcw C.1 C.2.1 C.2.2.2.1 (C.2.2.2.2.1 _ hc) hd (k p e s m args below meth c Z R C H locs ls hw hh)
theorem gk_ldc2 {i : Nat} {v : Int64} (hd : decode M.2.1 pc = .ok (.ldc2_w i, 3)) (hc : Cond.constantLong M.1.cls i v ∈ gz_tbl) (k : gz_k E M N cells slots (pc + 3) L (.long v :: st) G S Q) : gz_k E M N cells slots pc L st G S Q := by
  intro p e s m args below meth c Z R C H locs ls hw hh
  exact lv_ldc2 C.1 C.2.1 C.2.2.2.1 (C.2.2.2.2.1 _ hc) hd (k p e s m args below meth c Z R C H locs ls hw hh)
theorem gz_tys_at (E : gz_E) {t : Nat} (h : t < 3) : (gz_tys E)[t]? = some (gz_tc E t, gz_ty t) := by
  rcases (show t = 0 ∨ t = 1 ∨ t = 2 by omega) with rfl | rfl | rfl <;> rfl
theorem gk_iaload {a n : Nat} {i : Int32} (hd : decode M.2.1 pc = .ok (.iaload, 1)) (hg : G[a]? = some (.inl (0, n))) (hin : vp_in i n) (k : gz_k E M N cells slots (pc + 1) L (.int (S a i.toNatClampNeg) :: st) G S Q) : gz_k E M N cells slots pc L (.int i :: .ref a :: st) G S Q := by
  intro p e s m args below meth c Z R C H locs ls hw hh
  exact va_iald C.1 C.2.1 C.2.2.2.2.2.2.2.1.1 hw.1 a 0 (gz_w_at hg) rfl hin hd (k p e s m args below meth c Z R C H locs ls hw hh)
theorem gk_baload {a n : Nat} {i : Int32} (hd : decode M.2.1 pc = .ok (.baload, 1)) (hg : G[a]? = some (.inl (1, n))) (hin : vp_in i n) (k : gz_k E M N cells slots (pc + 1) L (.int (S a i.toNatClampNeg) :: st) G S Q) : gz_k E M N cells slots pc L (.int i :: .ref a :: st) G S Q := by
  intro p e s m args below meth c Z R C H locs ls hw hh
  exact va_zald C.1 C.2.1 C.2.2.2.2.2.2.2.1.1 hw.1 a 1 (gz_w_at hg) rfl hin hd (k p e s m args below meth c Z R C H locs ls hw hh)
theorem gk_iastore {a n : Nat} {i x : Int32} (hd : decode M.2.1 pc = .ok (.iastore, 1)) (hg : G[a]? = some (.inl (0, n))) (hin : vp_in i n) (k : gz_k E M N cells slots (pc + 1) L st G (gz_u S a (upd (S a) i.toNatClampNeg x)) Q) : gz_k E M N cells slots pc L (.int x :: .int i :: .ref a :: st) G S Q := by
  intro p e s m args below meth c Z R C H locs ls hw hh
  refine va_iast C.1 C.2.1 C.2.2.2.2.2.2.2.1.1 hw.1 (gz_dd E S G) hw.2 a 0 (gz_w_at hg) rfl hin hd (fun H1 locs1 hP hD hS => ?_)
  refine k p e s m args below meth c Z R C H1 locs1 ls ⟨?_, hS⟩ hh
  rw [← gz_w_put hg (upd (S a) i.toNatClampNeg x)]
  simpa only [gz_c, gz_u_at] using hP
theorem gk_bastore {a n : Nat} {i x : Int32} (hd : decode M.2.1 pc = .ok (.bastore, 1)) (hg : G[a]? = some (.inl (1, n))) (hin : vp_in i n) (hx01 : vp_nar .boolean x = x) (k : gz_k E M N cells slots (pc + 1) L st G (gz_u S a (upd (S a) i.toNatClampNeg x)) Q) : gz_k E M N cells slots pc L (.int x :: .int i :: .ref a :: st) G S Q := by
  intro p e s m args below meth c Z R C H locs ls hw hh
  refine va_zast C.1 C.2.1 C.2.2.2.2.2.2.2.1.1 hw.1 (gz_dd E S G) hw.2 a 1 (gz_w_at hg) rfl hin hd (fun H1 locs1 hP hD hS => ?_)
  refine k p e s m args below meth c Z R C H1 locs1 ls ⟨?_, hS⟩ hh
  rw [← gz_w_put hg (upd (S a) i.toNatClampNeg x)]
  rw [hx01] at hP
  simpa only [gz_c, gz_u_at] using hP
theorem gk_ilen {a n : Nat} {v : Int32} (hd : decode M.2.1 pc = .ok (.arraylength, 1)) (hg : G[a]? = some (.inl (0, n))) (hv : Int32.ofNat n = v) (k : gz_k E M N cells slots (pc + 1) L (.int v :: st) G S Q) : gz_k E M N cells slots pc L (.ref a :: st) G S Q := by
  intro p e s m args below meth c Z R C H locs ls hw hh
  exact va_alen (ty := .int) C.1 C.2.1 C.2.2.2.2.2.2.2.1.1 hw.1 a 0 (gz_w_at hg) rfl hv hd (k p e s m args below meth c Z R C H locs ls hw hh)
theorem gk_aaload {a t r : Nat} {fl : List (Option (Option Nat))} {i : Int32} (hd : decode M.2.1 pc = .ok (.aaload, 1)) (hg : G[a]? = some (.inr ((true, 2), fl))) (hin : vp_in i fl.length) (hr : fl[i.toNatClampNeg]? = some (some (some r))) (k : gz_k E M N cells slots (pc + 1) L (.ref r :: st) G S Q) : gz_k E M N cells slots pc L (.int i :: .ref a :: st) G S Q := by
  intro p e s m args below meth c Z R C H locs ls hw hh
  refine va_aldq (C := "StoneVotes$Sheet") C.1 C.2.1 C.2.2.2.2.2.2.2.1.1 hw.1 a 2 (gz_w_at hg) rfl hin hd ?_
  have e1 : gz_r E fl i.toNatClampNeg = some (gz_B E + r) := by unfold gz_r; rw [hr]
  rw [e1]
  exact (k p e s m args below meth c Z R C H locs ls hw hh)
/-- the link of a field: class number ci of vwCl, place j -/
def gz_fw (own : String) (idx ci j : Nat) : Prop := ∃ (C : String) (T : u_T) (n : Nat), vwCl[ci]? = some (C, T, n) ∧ j < n ∧ Cond.fieldLink own idx (T j).1 (T j).2.1 (T j).2.2.1 ∈ gz_tbl ∧ ∀ w ∈ u_ws C T n, w ∈ gz_tbl
theorem gz_fl_at {fl : List (Option (Option Nat))} {j a : Nat} {f : Option (Option Nat)} (h : fl[j]? = some f) : (fl.mapIdx (fun j f => gz_f E S a j f))[j]? = some (gz_f E S a j f) := by
  rw [List.getElem?_mapIdx, h]
  rfl
theorem gk_geti {a idx ci j : Nat} {fl : List (Option (Option Nat))} (hd : decode M.2.1 pc = .ok (.getfield idx, 3)) (hg : G[a]? = some (.inr ((false, ci), fl))) (hf : fl[j]? = some none) (hF : gz_fw M.1.cls idx ci j) (k : gz_k E M N cells slots (pc + 3) L (.int (S a j) :: st) G S Q) : gz_k E M N cells slots pc L (.ref a :: st) G S Q := by
  intro p e s m args below meth c Z R C H locs ls hw hh
  obtain ⟨Cn, T, n, h1, h2, h3, h4⟩ := hF
  exact va_get C.1 C.2.1 C.2.2.2.2.1 h4 C.2.2.2.1 C.2.2.2.2.2.2.2.1.1 hw.1 a (gz_w_at hg) h1 j h2 (C.2.2.2.2.1 _ h3) (fun _ h9 => h9) (gz_fl_at hf) hd (k p e s m args below meth c Z R C H locs ls hw hh)
theorem gk_getr {a idx ci j r : Nat} {fl : List (Option (Option Nat))} (hd : decode M.2.1 pc = .ok (.getfield idx, 3)) (hg : G[a]? = some (.inr ((false, ci), fl))) (hf : fl[j]? = some (some (some r))) (hF : gz_fw M.1.cls idx ci j) (k : gz_k E M N cells slots (pc + 3) L (.ref r :: st) G S Q) : gz_k E M N cells slots pc L (.ref a :: st) G S Q := by
  intro p e s m args below meth c Z R C H locs ls hw hh
  obtain ⟨Cn, T, n, h1, h2, h3, h4⟩ := hF
  exact va_get C.1 C.2.1 C.2.2.2.2.1 h4 C.2.2.2.1 C.2.2.2.2.2.2.2.1.1 hw.1 a (gz_w_at hg) h1 j h2 (C.2.2.2.2.1 _ h3) (fun _ h9 => h9) (gz_fl_at hf) hd (k p e s m args below meth c Z R C H locs ls hw hh)
/-- of a field that is written: the types of its class's fields, their names apart -/
def gz_pw (ci j : Nat) (fin : Bool) (ty : FieldType) : Prop := ∃ (C : String) (T : u_T) (n : Nat) (t0 : Nat → FieldType), vwCl[ci]? = some (C, T, n) ∧ (∀ k, k < n → parseFieldDescriptor (T k).2.2.1 = some (t0 k)) ∧ (∀ a, a < n → ∀ b, b < n → a ≠ b → (T a).2.1 ≠ (T b).2.1) ∧ (T j).2.2.2 = fin ∧ parseFieldDescriptor (T j).2.2.1 = some ty
theorem gz_w_set {a : Nat} {g g2 : gz_G} (h : G[a]? = some g) : (gz_w E S G).set a (gz_B E + a, gz_c E S a g2) = gz_w E S (G.set a g2) := by
  apply List.ext_getElem?
  intro i
  have hk : a < (gz_w E S G).length := (List.getElem?_eq_some_iff.mp (gz_w_at h)).1
  have hk2 : a < G.length := (List.getElem?_eq_some_iff.mp h).1
  by_cases hi : i = a
  · subst hi
    rw [List.getElem?_set_self hk, gz_w_at (List.getElem?_set_self hk2)]
  · rw [List.getElem?_set_ne (Ne.symm hi)]
    unfold gz_w
    rw [List.getElem?_mapIdx, List.getElem?_mapIdx, List.getElem?_set_ne (Ne.symm hi)]
theorem gz_fl_puti {fl : List (Option (Option Nat))} {j a : Nat} {v : Int32} (hf : fl[j]? = some none) : (fl.mapIdx (fun j f => gz_f E S a j f)).set j (.int v) = fl.mapIdx (fun i f => gz_f E (gz_u S a (upd (S a) j v)) a i f) := by
  apply List.ext_getElem?
  intro i
  have hl : j < (fl.mapIdx (fun j f => gz_f E S a j f)).length := by
    rw [List.length_mapIdx]; exact (List.getElem?_eq_some_iff.mp hf).1
  by_cases hi : i = j
  · subst hi
    rw [List.getElem?_set_self hl, List.getElem?_mapIdx, hf]
    simp [gz_f, gz_u_at, upd]
  · rw [List.getElem?_set_ne (Ne.symm hi), List.getElem?_mapIdx, List.getElem?_mapIdx]
    cases hfi : fl[i]? with
    | none => rfl
    | some f =>
      cases f with
      | none => simp [gz_f, gz_u_at, upd, hi]
      | some o => cases o <;> rfl
theorem gz_fl_putr {fl : List (Option (Option Nat))} {j a r : Nat} {o : Option (Option Nat)} (hf : fl[j]? = some o) : (fl.mapIdx (fun j f => gz_f E S a j f)).set j (.ref (gz_B E + r)) = (fl.set j (some (some r))).mapIdx (fun j f => gz_f E S a j f) := by
  apply List.ext_getElem?
  intro i
  have hl0 : j < fl.length := (List.getElem?_eq_some_iff.mp hf).1
  have hl : j < (fl.mapIdx (fun j f => gz_f E S a j f)).length := by
    rw [List.length_mapIdx]; exact hl0
  by_cases hi : i = j
  · subst hi
    rw [List.getElem?_set_self hl, List.getElem?_mapIdx, List.getElem?_set_self hl0]
    rfl
  · rw [List.getElem?_set_ne (Ne.symm hi), List.getElem?_mapIdx, List.getElem?_mapIdx, List.getElem?_set_ne (Ne.symm hi)]
theorem gk_puti {a idx ci j : Nat} {v : Int32} {ty : FieldType} {fl : List (Option (Option Nat))} (hd : decode M.2.1 pc = .ok (.putfield idx, 3)) (hg : G[a]? = some (.inr ((false, ci), fl))) (hf : fl[j]? = some none) (hF : gz_fw M.1.cls idx ci j) (hp : gz_pw ci j false ty) (hn : narrow ty (.int v) = .int v) (hfit : fits ty (.int v) = true) (k : gz_k E M N cells slots (pc + 3) L st G (gz_u S a (upd (S a) j v)) Q) : gz_k E M N cells slots pc L (.int v :: .ref a :: st) G S Q := by
  intro p e s m args below meth c Z R C H locs ls hw hh
  obtain ⟨Cn, T, n, h1, h2, h3, h4⟩ := hF
  obtain ⟨Cn2, T2, n2, t0, g1, g2, g3, g4, g5⟩ := hp
  obtain ⟨rfl, rfl, rfl⟩ : Cn2 = Cn ∧ T2 = T ∧ n2 = n := by
    have := g1.symm.trans h1
    simp only [Option.some.injEq, Prod.mk.injEq] at this
    exact this
  refine va_put C.1 C.2.1 C.2.2.2.2.1 h4 t0 g2 g3 C.2.2.2.1 C.2.2.2.2.2.2.2.1.1 hw.1 (gz_dd E S G) hw.2 a (gz_w_at hg) h1 j h2 (C.2.2.2.2.1 _ h3) (fun _ h9 => h9) g4 g5 hn hfit (by rw [List.length_mapIdx]; exact (List.getElem?_eq_some_iff.mp hf).1) hd (fun H1 locs1 hP hD hS => ?_)
  refine k p e s m args below meth c Z R C H1 locs1 ls ⟨?_, hS⟩ hh
  rw [← gz_w_put hg (upd (S a) j v)]
  rw [show gz_v E (Value.int v) = Value.int v from rfl, gz_fl_puti hf] at hP
  exact hP
theorem gk_putr {a idx ci j r : Nat} {ty : FieldType} {fl : List (Option (Option Nat))} {G2 : List gz_G} (hd : decode M.2.1 pc = .ok (.putfield idx, 3)) (hg : G[a]? = some (.inr ((false, ci), fl))) (hf : fl[j]? = some (some none)) (hF : gz_fw M.1.cls idx ci j) (hp : gz_pw ci j true ty) (hn : ∀ q : Nat, narrow ty (.ref q) = .ref q ∧ fits ty (.ref q) = true) (hi : M.1.name = "<init>") (hc : vwCl[ci]?.map (fun q => (q.2.1 j).1) = some M.1.cls) (hG2 : G.set a (.inr ((false, ci), fl.set j (some (some r)))) = G2) (k : gz_k E M N cells slots (pc + 3) L st G2 S Q) : gz_k E M N cells slots pc L (.ref r :: .ref a :: st) G S Q := by
  intro p e s m args below meth c Z R C H locs ls hw hh
  subst hG2
  obtain ⟨Cn, T, n, h1, h2, h3, h4⟩ := hF
  obtain ⟨Cn2, T2, n2, t0, g1, g2, g3, g4, g5⟩ := hp
  obtain ⟨rfl, rfl, rfl⟩ : Cn2 = Cn ∧ T2 = T ∧ n2 = n := by
    have := g1.symm.trans h1
    simp only [Option.some.injEq, Prod.mk.injEq] at this
    exact this
  have hdc : (T2 j).1 = M.1.cls := by
    rw [h1] at hc
    exact Option.some.inj hc
  refine va_putF C.1 C.2.1 C.2.2.2.2.1 h4 t0 g2 g3 C.2.2.2.1 C.2.2.2.2.2.2.2.1.1 hw.1 (gz_dd E S G) hw.2 a (gz_w_at hg) h1 j h2 (C.2.2.2.2.1 _ h3) (fun _ h9 => h9) g4 (C.2.2.2.2.2.2.1.trans hi) hdc g5 (hn _).1 (hn _).2 (by rw [List.length_mapIdx]; exact (List.getElem?_eq_some_iff.mp hf).1) hd (fun H1 locs1 hP hD hS => ?_)
  refine k p e s m args below meth c Z R C H1 locs1 ls ⟨?_, hS⟩ hh
  rw [← gz_w_set hg]
  rw [show gz_v E (Value.ref r) = Value.ref (gz_B E + r) from rfl, gz_fl_putr hf] at hP
  exact hP
theorem gk_putiF {a idx ci j : Nat} {v : Int32} {ty : FieldType} {fl : List (Option (Option Nat))} (hd : decode M.2.1 pc = .ok (.putfield idx, 3)) (hg : G[a]? = some (.inr ((false, ci), fl))) (hf : fl[j]? = some none) (hF : gz_fw M.1.cls idx ci j) (hp : gz_pw ci j true ty) (hn : narrow ty (.int v) = .int v) (hfit : fits ty (.int v) = true) (hi : M.1.name = "<init>") (hc : vwCl[ci]?.map (fun q => (q.2.1 j).1) = some M.1.cls) (k : gz_k E M N cells slots (pc + 3) L st G (gz_u S a (upd (S a) j v)) Q) : gz_k E M N cells slots pc L (.int v :: .ref a :: st) G S Q := by
  intro p e s m args below meth c Z R C H locs ls hw hh
  obtain ⟨Cn, T, n, h1, h2, h3, h4⟩ := hF
  obtain ⟨Cn2, T2, n2, t0, g1, g2, g3, g4, g5⟩ := hp
  obtain ⟨rfl, rfl, rfl⟩ : Cn2 = Cn ∧ T2 = T ∧ n2 = n := by
    have := g1.symm.trans h1
    simp only [Option.some.injEq, Prod.mk.injEq] at this
    exact this
  have hdc : (T2 j).1 = M.1.cls := by
    rw [h1] at hc
    exact Option.some.inj hc
  refine va_putF C.1 C.2.1 C.2.2.2.2.1 h4 t0 g2 g3 C.2.2.2.1 C.2.2.2.2.2.2.2.1.1 hw.1 (gz_dd E S G) hw.2 a (gz_w_at hg) h1 j h2 (C.2.2.2.2.1 _ h3) (fun _ h9 => h9) g4 (C.2.2.2.2.2.2.1.trans hi) hdc g5 hn hfit (by rw [List.length_mapIdx]; exact (List.getElem?_eq_some_iff.mp hf).1) hd (fun H1 locs1 hP hD hS => ?_)
  refine k p e s m args below meth c Z R C H1 locs1 ls ⟨?_, hS⟩ hh
  rw [← gz_w_put hg (upd (S a) j v)]
  rw [show gz_v E (Value.int v) = Value.int v from rfl, gz_fl_puti hf] at hP
  exact hP
-- the ends
theorem gk_iret {x : Int32} {ty : FieldType} (hd : decode M.2.1 pc = .ok (.ireturn, 1)) (hc : cells = N.2.1) (hs : slots = N.2.2.1) (hr : M.2.2.2 = some ty) (hn : narrow ty (.int x) = .int x) (hq : Q (some (.int x)) G S) : gz_k E M N cells slots pc L [.int x] G S Q := by
  intro p e s m args below meth c Z R C H locs ls hw hh
  subst hc
  subst hs
  exact C.2.2.2.2.2.2.2.2.2.2 H locs pc ls .ireturn (some (.int x)) G S hw hq hd (Or.inl ⟨rfl, x, rfl, ty, hr, hn⟩)
theorem gk_lret {x : Int64} (hd : decode M.2.1 pc = .ok (.lreturn, 1)) (hc : cells = N.2.1) (hs : slots = N.2.2.1) (hr : M.2.2.2 = some .long) (hq : Q (some (.long x)) G S) : gz_k E M N cells slots pc L [.long x] G S Q := by
  intro p e s m args below meth c Z R C H locs ls hw hh
  subst hc
  subst hs
  exact C.2.2.2.2.2.2.2.2.2.2 H locs pc ls .lreturn (some (.long x)) G S hw hq hd (Or.inr (Or.inl ⟨rfl, x, rfl, hr⟩))
theorem gk_aret {a : Nat} {n : String} (hd : decode M.2.1 pc = .ok (.areturn, 1)) (hc : cells = N.2.1) (hs : slots = N.2.2.1) (hr : M.2.2.2 = some (.object n)) (hq : Q (some (.ref a)) G S) : gz_k E M N cells slots pc L [.ref a] G S Q := by
  intro p e s m args below meth c Z R C H locs ls hw hh
  subst hc
  subst hs
  exact C.2.2.2.2.2.2.2.2.2.2 H locs pc ls .areturn (some (.ref a)) G S hw hq hd (Or.inr (Or.inr (Or.inl ⟨rfl, a, rfl, n, hr⟩)))
theorem gk_vret (hd : decode M.2.1 pc = .ok (.return_, 1)) (hc : cells = N.2.1) (hs : slots = N.2.2.1) (hr : M.2.2.2 = none) (hq : Q none G S) : gz_k E M N cells slots pc L [] G S Q := by
  intro p e s m args below meth c Z R C H locs ls hw hh
  subst hc
  subst hs
  exact C.2.2.2.2.2.2.2.2.2.2 H locs pc ls .return_ none G S hw hq hd (Or.inr (Or.inr (Or.inr ⟨rfl, rfl, hr⟩)))
-- the script
theorem gk_sld {u : UInt32} {i : Int32} (hd : decode M.2.1 pc = .ok (.iaload, 1)) (hm : M.1.name = "law") (hin : vp_in i (gz_L E)) (k : gz_k E M N cells slots (pc + 1) L (.int (gz_xs E i.toNatClampNeg) :: st) G S Q) : gz_k E M N cells slots pc L (.int i :: .float u :: st) G S Q := by
  intro p e s m args below meth c Z R C H locs ls hw hh
  obtain ⟨hX, hbl, hbB⟩ := C.2.2.2.2.2.2.2.2.1 hm
  exact va_sld C.1 C.2.1 hX hbl (show ¬ gz_A E (gz_b E) from Nat.not_le.mpr hbB) hw.2 hin hd (k p e s m args below meth c Z R C H locs ls hw hh)
theorem gk_slen {u : UInt32} {v : Int32} (hd : decode M.2.1 pc = .ok (.arraylength, 1)) (hm : M.1.name = "law") (hv : Int32.ofNat (gz_L E) = v) (k : gz_k E M N cells slots (pc + 1) L (.int v :: st) G S Q) : gz_k E M N cells slots pc L (.float u :: st) G S Q := by
  intro p e s m args below meth c Z R C H locs ls hw hh
  obtain ⟨hX, hbl, hbB⟩ := C.2.2.2.2.2.2.2.2.1 hm
  subst hv
  exact va_slen C.1 C.2.1 hX hbl (show ¬ gz_A E (gz_b E) from Nat.not_le.mpr hbB) hw.2 hd (k p e s m args below meth c Z R C H locs ls hw hh)

end
