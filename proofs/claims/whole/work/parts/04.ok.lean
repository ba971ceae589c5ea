/-! A judgement over an abstract world: cells by their number, all whole numbers in one function of cell and place -/
abbrev gz_G : Type := (Nat × Nat) ⊕ ((Bool × Nat) × List (Option (Option Nat)))
abbrev gz_S : Type := Nat → Nat → Int32
abbrev gz_E : Type := Launch × Nat × va_G × (Nat → ClassId) × (Nat × Nat × (Nat → Int32))
abbrev gz_M : Type := MethodName × ByteArray × Nat × Option FieldType
abbrev gz_Q : Type := Option Value → List gz_G → gz_S → Prop
def gz_l (E : gz_E) : Launch := E.1
def gz_B (E : gz_E) : Nat := E.2.1
def gz_D (E : gz_E) : va_G := E.2.2.1
def gz_tc (E : gz_E) : Nat → ClassId := E.2.2.2.1
def gz_b (E : gz_E) : Nat := E.2.2.2.2.1
def gz_L (E : gz_E) : Nat := E.2.2.2.2.2.1
def gz_xs (E : gz_E) : Nat → Int32 := E.2.2.2.2.2.2
def gz_ty : Nat → FieldType
  | 0 => .int
  | 1 => .boolean
  | _ => .object "StoneVotes$Sheet"
def gz_tys (E : gz_E) : List (ClassId × FieldType) := [(gz_tc E 0, .int), (gz_tc E 1, .boolean), (gz_tc E 2, .object "StoneVotes$Sheet")]
def gz_tbl : List Cond := lw_tbl.filter goodWord
def gz_ws (M : gz_M) : List Cond := .code M.1 M.2.1 M.2.2.1 M.2.2.2 :: gz_tbl
def gz_v (E : gz_E) : Value → Value
  | .ref k => .ref (gz_B E + k)
  | .float _ => .ref (gz_b E)
  | v => v
def gz_f (E : gz_E) (S : gz_S) (k j : Nat) : Option (Option Nat) → Value
  | none => .int (S k j)
  | some none => .null
  | some (some a) => .ref (gz_B E + a)
def gz_r (E : gz_E) (fl : List (Option (Option Nat))) (i : Nat) : Option Nat := match fl[i]? with
  | some (some (some a)) => some (gz_B E + a)
  | _ => none
def gz_c (E : gz_E) (S : gz_S) (k : Nat) : gz_G → va_E
  | .inl (t, n) => .inl (gz_tc E t, n, .inl (S k))
  | .inr ((false, ci), fl) => .inr (ci, fl.mapIdx (fun j f => gz_f E S k j f))
  | .inr ((true, t), fl) => .inl (gz_tc E t, fl.length, .inr (.inr (.inr (.inr (gz_r E fl)))))
def gz_w (E : gz_E) (S : gz_S) (G : List gz_G) : va_W := G.mapIdx (fun k g => (gz_B E + k, gz_c E S k g))
def gz_A (E : gz_E) : Nat → Prop := fun q => gz_B E ≤ q
def gz_wd (E : gz_E) (G : List gz_G) (S : gz_S) (s : State) (H : Heap) (locs : List Loc) : Prop := va_P (gz_D E) vwCl (gz_w E S G) H ∧ va_S (gz_A E) s.heap H locs
def gz_h (E : gz_E) (ls : Array Slot) (n : Nat) (L : List (Option Value)) : Prop := ls.size = n ∧ lv_wf ls ∧ ∀ (i : Nat) (v : Value), L[i]? = some (some v) → ls[i]? = some (.val (gz_v E v))
def gz_ret (i : Instr) (v : Option Value) (ret : Option FieldType) : Prop :=
  (i = .ireturn ∧ ∃ x : Int32, v = some (.int x) ∧ ∃ ty : FieldType, ret = some ty ∧ narrow ty (.int x) = .int x) ∨ (i = .lreturn ∧ ∃ x : Int64, v = some (.long x) ∧ ret = some .long) ∨ (i = .areturn ∧ ∃ a : Nat, v = some (.ref a) ∧ ∃ n : String, ret = some (.object n)) ∨ (i = .return_ ∧ v = none ∧ ret = none)
/-- the tables as the worlds need them, and the links between nest mates -/
def gz_KN (E : gz_E) (U : State) : Prop := va_K (gz_D E) vwCl (gz_tys E) U ∧ (∀ q ∈ gz_nst, va_Nw (.methodLinkNest q.1 q.2.1 q.2.2 "StoneVotes") U) ∧ va_AO "StoneVotes$Sheet" U
theorem gz_KN.moved {E : gz_E} {s U : State} (hW : s.WarmedH U.vm) (h : gz_KN E s) : gz_KN E U := ⟨va_K.moved hW.alike h.1, fun q hq => va_Nw.warmM hW (h.2.1 q hq), va_AO.moved hW.alike h.2.2⟩
theorem gz_KN.calling {E : gz_E} {U : State} {g : JFrame} {mk : MethodId} {a : Array Value} (h : gz_KN E U) : gz_KN E (U.calling g mk a) := ⟨va_K.moved (u := U) (U := U.calling g mk a) (Vm.Alike.refl U.vm) h.1, fun q hq => va_Nw.same (u := U) (U := U.calling g mk a) rfl rfl (h.2.1 q hq), va_AO.moved (u := U) (U := U.calling g mk a) (Vm.Alike.refl U.vm) h.2.2⟩
/-- depth, cells and slots that may be made, cells at the entry -/
abbrev gz_N : Type := Nat × Nat × Nat × Nat
/-- what surrounds a method's run -/
def gz_x (E : gz_E) (M : gz_M) (N : gz_N) (Q : gz_Q) (p : Program) (e : Env) (s : State) (m : MethodId) (args : Array Value) (below : List Frame) (meth : Method) (c : Code) (Z : State → Prop) (R : Room) : Prop :=
  p.tables.exec = Jvm.exec ∧ c.code = M.2.1 ∧ c.maxLocals = M.2.2.1 ∧ s.vm.findClass M.1.cls = some m.cls ∧ (∀ w ∈ gz_tbl, w.before args s = true) ∧ (N.1 ≤ R.frames ∧ 60 * N.1 ≤ R.locals ∧ N.2.1 ≤ R.cells ∧ N.2.2.1 ≤ R.slots) ∧ meth.name = M.1.name ∧ gz_KN E s ∧
  (M.1.name = "law" → va_X (gz_b E) (gz_L E) (gz_xs E) s s.heap ∧ gz_b E < s.heap.size ∧ gz_b E < gz_B E) ∧ (N.2.1 ≠ 0 → s.heap.size = gz_B E + N.2.2.2) ∧
  ∀ (H : Heap) (locs : List Loc) (pc : Nat) (ls : Array Slot) (i : Instr) (v : Option Value) (G : List gz_G) (S : gz_S), gz_wd E G S s H locs → Q v G S → decode M.2.1 pc = .ok (i, 1) → gz_ret i v M.2.2.2 → W p (gz_l E) e R s m args below meth c H locs N.2.1 N.2.2.1 Z (F0 m pc ls ((v.map (gz_v E)).toList))
/-- from this place of a method, with these locals, this stack, this world, it comes to its end with Q -/
def gz_k (E : gz_E) (M : gz_M) (N : gz_N) (cells slots pc : Nat) (L : List (Option Value)) (st : List Value) (G : List gz_G) (S : gz_S) (Q : gz_Q) : Prop :=
  ∀ (p : Program) (e : Env) (s : State) (m : MethodId) (args : Array Value) (below : List Frame) (meth : Method) (c : Code) (Z : State → Prop) (R : Room), gz_x E M N Q p e s m args below meth c Z R →
  ∀ (H : Heap) (locs : List Loc) (ls : Array Slot), gz_wd E G S s H locs → gz_h E ls M.2.2.1 L → W p (gz_l E) e R s m args below meth c H locs cells slots Z (F0 m pc ls (st.map (gz_v E)))
def gz_rm (D mc ms : Nat) : Room := { frames := D, cells := mc, slots := ms, locals := 60 * D }
/-- a method's contract -/
def gz_m (E : gz_E) (M : gz_M) (D mc ms : Nat) (as : List Value) (G : List gz_G) (S : gz_S) (Q : gz_Q) : Prop :=
  Met (gz_l E) M.1 (gz_ws M) (gz_rm D mc ms) (va_Pc (as.map (gz_v E)) (fun U => gz_KN E U ∧ va_P (gz_D E) vwCl (gz_w E S G) U.heap ∧ (mc ≠ 0 → U.heap.size = gz_B E + G.length)))
    (fun _ st oc t => (∃ (v : Option Value) (G2 : List gz_G) (S2 : gz_S), oc = .returned (v.map (gz_v E)) ∧ Q v G2 S2 ∧ va_P (gz_D E) vwCl (gz_w E S2 G2) t.heap) ∧ va_F (gz_A E) st t) mc ms (gz_A E)
theorem gz_w_at {E : gz_E} {S : gz_S} {G : List gz_G} {k : Nat} {g : gz_G} (h : G[k]? = some g) : (gz_w E S G)[k]? = some (gz_B E + k, gz_c E S k g) := by
  unfold gz_w
  rw [List.getElem?_mapIdx, h]
  rfl
theorem gz_dd (E : gz_E) (S : gz_S) (G : List gz_G) : va_D (gz_A E) (gz_w E S G) := by
  have key : ∀ (k : Nat) (q : Nat × va_E), (gz_w E S G)[k]? = some q → q.1 = gz_B E + k := by
    intro k q h
    unfold gz_w at h
    rw [List.getElem?_mapIdx] at h
    cases hg : G[k]? with
    | none => rw [hg] at h; cases h
    | some g => rw [hg] at h; cases h; rfl
  refine ⟨fun i j x y hi hj hxy => ?_, fun k q hk => ?_⟩
  · have h1 := key i x hi
    have h2 := key j y hj
    omega
  · have h1 := key k q hk
    show gz_B E ≤ q.1
    omega
/-- one cell's numbers -/
def gz_u (S : gz_S) (k : Nat) (f : Nat → Int32) : gz_S := fun a => if a = k then f else S a
theorem gz_c_cong {E : gz_E} {S S' : gz_S} {k : Nat} (g : gz_G) (h : S' k = S k) : gz_c E S' k g = gz_c E S k g := by
  rcases g with ⟨t, n⟩ | ⟨⟨b, ci⟩, fl⟩
  · simp only [gz_c, h]
  · cases b
    · simp only [gz_c]
      congr 2
      congr 1
      funext j f
      cases f with
      | none => simp only [gz_f, h]
      | some o => cases o <;> rfl
    · rfl
theorem gz_w_put {E : gz_E} {S : gz_S} {G : List gz_G} {k : Nat} {g : gz_G} (h : G[k]? = some g) (f : Nat → Int32) : (gz_w E S G).set k (gz_B E + k, gz_c E (gz_u S k f) k g) = gz_w E (gz_u S k f) G := by
  apply List.ext_getElem?
  intro i
  have hk : k < (gz_w E S G).length := (List.getElem?_eq_some_iff.mp (gz_w_at h)).1
  by_cases hi : i = k
  · subst hi
    rw [List.getElem?_set_self hk, gz_w_at h]
  · rw [List.getElem?_set_ne (Ne.symm hi)]
    unfold gz_w
    rw [List.getElem?_mapIdx, List.getElem?_mapIdx]
    cases hg : G[i]? with
    | none => rfl
    | some g' =>
      simp only [Option.map_some]
      rw [gz_c_cong g' (show gz_u S k f i = S i by unfold gz_u; rw [if_neg hi])]
theorem gz_u_at (S : gz_S) (k : Nat) (f : Nat → Int32) : gz_u S k f k = f := by unfold gz_u; rw [if_pos rfl]
theorem gz_u_ne (S : gz_S) {k a : Nat} (f : Nat → Int32) (h : a ≠ k) : gz_u S k f a = S a := by unfold gz_u; rw [if_neg h]
def gz_p (E : gz_E) (L : List (Option Value)) : List (Nat × Value) := (List.range L.length).filterMap (fun i => match L[i]? with
  | some (some v) => some (i, gz_v E v)
  | _ => none)
theorem gz_p_mem {E : gz_E} {L : List (Option Value)} {i : Nat} {v : Value} (h : L[i]? = some (some v)) : (i, gz_v E v) ∈ gz_p E L := by
  unfold gz_p
  refine List.mem_filterMap.mpr ⟨i, List.mem_range.mpr (List.getElem?_eq_some_iff.mp h).1, ?_⟩
  simp only [h]
theorem gz_p_has {E : gz_E} {ls : Array Slot} {n : Nat} {L : List (Option Value)} (h : gz_h E ls n L) : lv_has ls n (gz_p E L) := by
  refine ⟨h.1, h.2.1, fun q hq => ?_⟩
  unfold gz_p at hq
  obtain ⟨i, hi, hq⟩ := List.mem_filterMap.mp hq
  cases hl : L[i]? with
  | none => rw [hl] at hq; cases hq
  | some o =>
    cases o with
    | none => rw [hl] at hq; cases hq
    | some v => rw [hl] at hq; cases hq; exact h.2.2 i v hl
/-- a long doesn't stand just before -/
def gz_o (L : List (Option Value)) : Nat → Bool
  | 0 => true
  | i + 1 => match L[i]? with
    | some (some v) => v.category == 1
    | _ => true
theorem gz_v_cat (E : gz_E) (v : Value) : (gz_v E v).category = v.category := by cases v <;> rfl
theorem gz_h_set1 {E : gz_E} {ls : Array Slot} {n : Nat} {L : List (Option Value)} {i : Nat} {v : Value} (ho : gz_o L i = true) (h : lv_has ls n ((i, gz_v E v) :: (gz_p E L).filter (fun q => !(q.1 == i) && !(q.1 + 1 == i && q.2.category == 2)))) : gz_h E ls n (L.set i (some v)) := by
  refine ⟨h.1, h.2.1, fun j w hj => ?_⟩
  by_cases hji : j = i
  · subst hji
    have hl : j < L.length := by
      have := (List.getElem?_eq_some_iff.mp hj).1
      simpa using this
    rw [List.getElem?_set_self hl] at hj
    cases hj
    exact h.2.2 _ List.mem_cons_self
  · rw [List.getElem?_set_ne (Ne.symm hji)] at hj
    refine h.2.2 (j, gz_v E w) (List.mem_cons_of_mem _ (List.mem_filter.mpr ⟨gz_p_mem hj, ?_⟩))
    have h1 : (j == i) = false := by simpa using hji
    simp only [h1, Bool.not_false, Bool.true_and]
    cases i with
    | zero => simp
    | succ i' =>
      by_cases h2 : j = i'
      · subst h2
        simp only [gz_o, hj] at ho
        simp only [gz_v_cat]
        have h3 : w.category = 1 := by simpa using ho
        simp [h3]
      · have : (j + 1 == i' + 1) = false := by simpa using h2
        simp [h2]
theorem gz_h_set2 {E : gz_E} {ls : Array Slot} {n : Nat} {L : List (Option Value)} {i : Nat} {v : Value} (ho : gz_o L i = true) (h : lv_has ls n ((i, gz_v E v) :: (gz_p E L).filter (fun q => !(q.1 == i) && (!(q.1 == i + 1) && !(q.1 + 1 == i && q.2.category == 2))))) : gz_h E ls n ((L.set i (some v)).set (i + 1) none) := by
  refine ⟨h.1, h.2.1, fun j w hj => ?_⟩
  by_cases hj1 : j = i + 1
  · subst hj1
    have hl : i + 1 < (L.set i (some v)).length := by
      have := (List.getElem?_eq_some_iff.mp hj).1
      simpa using this
    rw [List.getElem?_set_self hl] at hj
    cases hj
  rw [List.getElem?_set_ne (Ne.symm hj1)] at hj
  by_cases hji : j = i
  · subst hji
    have hl : j < L.length := by
      have := (List.getElem?_eq_some_iff.mp hj).1
      simpa using this
    rw [List.getElem?_set_self hl] at hj
    cases hj
    exact h.2.2 _ List.mem_cons_self
  · rw [List.getElem?_set_ne (Ne.symm hji)] at hj
    refine h.2.2 (j, gz_v E w) (List.mem_cons_of_mem _ (List.mem_filter.mpr ⟨gz_p_mem hj, ?_⟩))
    have h1 : (j == i) = false := by simpa using hji
    have h0 : (j == i + 1) = false := by simpa using hj1
    simp only [h1, h0, Bool.not_false, Bool.true_and]
    cases i with
    | zero => simp
    | succ i' =>
      by_cases h2 : j = i'
      · subst h2
        simp only [gz_o, hj] at ho
        simp only [gz_v_cat]
        have h3 : w.category = 1 := by simpa using ho
        simp [h3]
      · simp [h2]
