/-! ===== the start ===== -/
def d0 : dt := ((tsz true 8 (fun _ => 0) 0, tfs (fun _ => 0), tsn true (fun _ => 0)), (tsz false 9 (fun _ => 0) 0, tfs (fun _ => 0), tsn false (fun _ => 0)), (12, 99), (0, fun _ => 0, fun _ => 0, fun _ => 0))
set_option maxRecDepth 10000 in
theorem start_T (S : gz_S) : rT (s_law S) (fun _ => 0) 0 (fun _ => 0) 0 d0 :=
  ⟨⟨⟨rfl, rfl, by omega⟩, rfl, fun i hi => by omega, rfl, rfl, fun _ p hp => by omega⟩, ⟨rfl, by omega, fun i hi => by omega⟩, ⟨⟨rfl, rfl, by omega⟩, rfl, fun i hi => by omega, rfl, rfl, fun _ p hp => by omega⟩, ⟨rfl, by omega, fun i hi => by omega⟩, rfl, rfl⟩
set_option maxRecDepth 10000 in
theorem start_C (S : gz_S) : rC (s_law S) d0 :=
  ⟨⟨by decide, by decide, by decide, fun k hk => absurd hk (Nat.not_lt_zero k)⟩, ⟨⟨rfl, rfl⟩, rfl, fun k hk => absurd hk (Nat.not_lt_zero k)⟩, ⟨rfl, rfl⟩, rfl, fun k hk => absurd hk (Nat.not_lt_zero k)⟩
set_option maxRecDepth 10000 in
theorem start_18 (S : gz_S) (t : Nat) (h : t < 9) : s_law S 18 t = -1 := by
  have e : s_law S 18 t = if t < 9 then -1 else 0 := rfl
  rw [e, if_pos h]
set_option maxRecDepth 10000 in
theorem start_11 (S : gz_S) (t : Nat) (h : t < 8) : s_law S 11 t = 1 := by
  have e : s_law S 11 t = if t < 8 then 1 else 0 := rfl
  rw [e, if_pos h]
set_option maxRecDepth 10000 in
theorem start_58 (S : gz_S) (t : Nat) (h : t < 8) : s_law S 58 t = 1 := by
  have q : t = 0 ∨ t = 1 ∨ t = 2 ∨ t = 3 ∨ t = 4 ∨ t = 5 ∨ t = 6 ∨ t = 7 := by omega
  rcases q with q | q | q | q | q | q | q | q <;> subst q <;> rfl
set_option maxRecDepth 10000 in
theorem start_J (S : gz_S) : jX (s_law S) 16 d0 sk0 (d_nc d0) :=
  ⟨fun j hj => absurd hj (Nat.not_lt_zero j), fun t ht => start_18 S t ht, fun p hp => rfl, rfl, fun i hi => absurd hi (Nat.not_lt_zero i)⟩
set_option maxRecDepth 10000 in
theorem start_O (S : gz_S) : rO (s_law S) := by
  refine ⟨fun h hh => ⟨rfl, ?_, ?_⟩, fun p hp => ⟨by rw [start_11 S p hp, start_58 S p hp], 1, by decide, start_11 S p hp⟩, fun s hs => Or.inl ?_, rfl⟩
  · show (-50 : Int) ≤ (0 : Int32).toInt; decide
  · show (0 : Int32).toInt ≤ 50; decide
  · have q : s = 0 ∨ s = 1 ∨ s = 2 ∨ s = 3 := by omega
    rcases q with q | q | q | q <;> subst q <;> exact ⟨rfl, rfl⟩
theorem start_R (S : gz_S) : Rel (s_law S) := ⟨_, _, _, _, d0, start_T S, start_C S, start_J S, start_O S⟩
