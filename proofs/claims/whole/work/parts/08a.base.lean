/-- the world once both objects are made -/
def gz_F : List gz_G := [.inr ((false, 7), [some (some 1), some (some 12), some (some 16), some (some 23), some (some 30), some (some 33), some (some 36), none]), .inr ((false, 3), [some (some 2), some (some 6), some (some 10), some (some 11), none, none]), .inr ((false, 6), [some (some 3), none, none, some (some 4), some (some 5), none, none, none]), .inl (0, 16), .inl (0, 8), .inl (0, 8), .inr ((false, 6), [some (some 7), none, none, some (some 8), some (some 9), none, none, none]), .inl (0, 20), .inl (0, 9), .inl (0, 9), .inl (0, 25), .inl (0, 8), .inr ((false, 1), [some (some 13), some (some 14), some (some 15), none]), .inl (0, 30), .inl (0, 30), .inl (0, 30), .inr ((false, 2), [some (some 1), some (some 12), some (some 17), some (some 18), some (some 19), some (some 20), none, some (some 21), some (some 22), none]), .inl (0, 30), .inl (0, 9), .inl (0, 8), .inl (0, 9), .inl (0, 10), .inl (0, 9), .inr ((false, 2), [some (some 1), some (some 12), some (some 24), some (some 25), some (some 26), some (some 27), none, some (some 28), some (some 29), none]), .inl (0, 30), .inl (0, 9), .inl (0, 8), .inl (0, 9), .inl (0, 10), .inl (0, 9), .inr ((false, 4), [some (some 1), some (some 31), none, some (some 32)]), .inl (0, 8), .inl (0, 512), .inr ((false, 0), [some (some 1), some (some 34), some (some 35), none, none, none, none, none]), .inl (0, 8), .inl (0, 9), .inr ((true, 2), [some (some 37), some (some 39), some (some 41), some (some 43)]), .inr ((false, 5), [some (some 38), none, none]), .inl (0, 60), .inr ((false, 5), [some (some 40), none, none]), .inl (0, 60), .inr ((false, 5), [some (some 42), none, none]), .inl (0, 60), .inr ((false, 5), [some (some 44), none, none]), .inl (0, 60), .inr ((false, 8), [some (some 46), some (some 47), some (some 48), some (some 49), none, some (some 50), some (some 51), none, some (some 52), some (some 53), none, some (some 54), some (some 55), some (some 56), some (some 57), some (some 58), none, some (some 59), some (some 60), some (some 61), some (some 62), none, none, some (some 63), some (some 64), none, some (some 65), some (some 66), some (some 67), some (some 68), some (some 69), some (some 70), some (some 71), some (some 72)]), .inl (0, 4), .inl (0, 4), .inl (0, 240), .inl (0, 60), .inl (0, 36), .inl (0, 2), .inl (0, 8), .inl (0, 8), .inl (0, 9), .inl (0, 9), .inl (0, 2), .inl (0, 25), .inl (0, 8), .inl (0, 90), .inl (0, 30), .inl (0, 8), .inl (0, 9), .inl (0, 12), .inl (1, 30), .inl (1, 512), .inl (1, 512), .inl (0, 6), .inl (0, 6), .inl (0, 6), .inl (0, 6), .inl (1, 6), .inl (0, 2)]
def gz_n (a : Nat) : Nat := match gz_F[a]? with
  | some (.inl q) => q.2
  | some (.inr q) => q.2.length
  | none => 0
def gz_st (S : gz_S) (a j : Nat) (v : Int32) : gz_S := gz_u S a (upd (S a) j v)
def gz_b01 (x : Int32) : Prop := x = 0 ∨ x = 1
theorem gz_b01_nar {x : Int32} (h : gz_b01 x) : vp_nar .boolean x = x := by
  rcases h with rfl | rfl <;> rfl
theorem gz_b01_nz {x : Int32} (h : gz_b01 x) : narrow .boolean (.int x) = .int x := by
  rcases h with rfl | rfl <;> rfl
def gz_qv (Q : gz_S → Prop) : gz_Q := fun v G S => G = gz_F ∧ v = none ∧ Q S
def gz_qi (Q : Int32 → gz_S → Prop) : gz_Q := fun v G S => G = gz_F ∧ ∃ r : Int32, v = some (.int r) ∧ Q r S
def gz_ql (Q : Int64 → gz_S → Prop) : gz_Q := fun v G S => G = gz_F ∧ ∃ r : Int64, v = some (.long r) ∧ Q r S
def gz_qr (Q : Nat → gz_S → Prop) : gz_Q := fun v G S => G = gz_F ∧ ∃ r : Nat, v = some (.ref r) ∧ (r = 2 ∨ r = 6) ∧ Q r S
theorem gz_four {i : Int32} (h : vp_in i 4) : i.toNatClampNeg = 0 ∨ i.toNatClampNeg = 1 ∨ i.toNatClampNeg = 2 ∨ i.toNatClampNeg = 3 := by
  have h1 : i.toNatClampNeg < 4 := Nat.not_le.mp fun q => h (Or.inr q)
  omega
def gz_le : List (Option Value) → List (Option Value) → Prop
  | [], _ => True
  | none :: a, _ :: b => gz_le a b
  | some v :: a, o :: b => o = some v ∧ gz_le a b
  | _ :: _, [] => False
theorem gz_le_0 {b : List (Option Value)} : gz_le [] b := trivial
theorem gz_le_n {a b : List (Option Value)} {o : Option Value} (h : gz_le a b) : gz_le (none :: a) (o :: b) := h
theorem gz_le_s {a b : List (Option Value)} {o : Option Value} {v : Value} (h1 : o = some v) (h : gz_le a b) : gz_le (some v :: a) (o :: b) := ⟨h1, h⟩
theorem gz_le_at : ∀ {a b : List (Option Value)}, gz_le a b → ∀ (i : Nat) (v : Value), a[i]? = some (some v) → b[i]? = some (some v)
  | [], _, _, i, v, h => by simp at h
  | none :: a, o :: b, hl, i, v, h => by
    cases i with
    | zero => simp at h
    | succ i => exact gz_le_at (a := a) (b := b) hl i v (by simpa using h)
  | some u :: a, o :: b, hl, i, v, h => by
    cases i with
    | zero =>
      have e : u = v := by simpa using h
      rw [← e, ← hl.1]
      rfl
    | succ i => exact gz_le_at (a := a) (b := b) hl.2 i v (by simpa using h)
  | none :: a, [], hl, i, v, h => hl.elim
  | some u :: a, [], hl, i, v, h => hl.elim
section
variable {E : gz_E} {M : gz_M} {N : gz_N} {cells slots pc : Nat} {L : List (Option Value)} {st : List Value} {G : List gz_G} {S : gz_S} {Q : gz_Q}
theorem gk_less {L2 : List (Option Value)} (h : gz_le L2 L) (k : gz_k E M N cells slots pc L2 st G S Q) : gz_k E M N cells slots pc L st G S Q :=
  fun p e s m args below meth c Z R C H locs ls hw hh => k p e s m args below meth c Z R C H locs ls hw ⟨hh.1, hh.2.1, fun i v hv => hh.2.2 i v (gz_le_at h i v hv)⟩
theorem gk_nmi {x : Int32} (k : ∀ y : Int32, y = x → gz_k E M N cells slots pc L (.int y :: st) G S Q) : gz_k E M N cells slots pc L (.int x :: st) G S Q := k x rfl
theorem gk_nml {x : Int64} (k : ∀ y : Int64, y = x → gz_k E M N cells slots pc L (.long y :: st) G S Q) : gz_k E M N cells slots pc L (.long x :: st) G S Q := k x rfl
theorem gk_nmS {S : gz_S} (k : ∀ T : gz_S, T = S → gz_k E M N cells slots pc L st G T Q) : gz_k E M N cells slots pc L st G S Q := k S rfl
theorem gz_meet0 {D : Nat} {as : List Value} {L0 : List (Option Value)} (hpl : plainName M.1.cls = true) (hL : gz_e as M.2.2.1 = L0) (hlen : (as.flatMap (fun v => if v.category = 2 then [some v, none] else [some v])).length ≤ M.2.2.1) (hlaw : M.1.name ≠ "law") (k : gz_k E M (D, 0, 0, 73) 0 0 0 L0 [] gz_F S Q) : gz_m E M D 0 0 as gz_F S Q := gz_meet (G := gz_F) hpl hL hlen hlaw k
end
theorem gz_in1 {w : Cond} (i : Nat) (h : lw_tbl[i]? = some w) (hg : goodWord w = true) : w ∈ gz_tbl := List.mem_filter.mpr ⟨List.mem_of_getElem? h, hg⟩
theorem gz_inl {ws : List Cond} (ps : List Nat) (h : ws = ps.filterMap (fun i => lw_tbl[i]?)) (hg : ws.all goodWord = true) : ∀ w ∈ ws, w ∈ gz_tbl := by
  intro w hw
  have h1 := List.all_eq_true.mp hg w hw
  rw [h] at hw
  obtain ⟨i, -, hi⟩ := List.mem_filterMap.mp hw
  exact gz_in1 i hi h1
