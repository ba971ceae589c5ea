def gz_max (x y : Int32) : Int32 := if x < y then y else x
def gz_min (x y : Int32) : Int32 := if y < x then y else x
def gz_abs (x : Int32) : Int32 := if 0 ≤ x then x else 0 - x
theorem em_max : mJ9_max_7cf53 = (Lib.Math.max.name, Lib.Math.max.code, 2, some .int) := by first | rfl | decide +kernel
theorem em_min : mJ9_min_7cf53 = (Lib.Math.min.name, Lib.Math.min.code, 2, some .int) := by first | rfl | decide +kernel
theorem em_abs : mJ9_abs_0f7a4 = (Lib.Math.abs.name, Lib.Math.abs.code, 1, some .int) := by first | rfl | decide +kernel
section
variable {E : gz_E} {M : gz_M} {N : gz_N} {cells slots pc : Nat} {L : List (Option Value)} {st : List Value} {G : List gz_G} {S : gz_S} {Q : gz_Q}
theorem gk_max {M2 : gz_M} {idx n : Nat} {x y : Int32} (hm : M2 = (Lib.Math.max.name, Lib.Math.max.code, 2, some .int)) (hd : decode M.2.1 pc = .ok (.invokestatic idx, 3)) (hV : gz_wS M.1.cls idx M2) (hc : gz_cw M2 n) (hD : 1 ≤ N.1) (hcl : cells ≤ N.2.1) (hsl : slots ≤ N.2.2.1) (hr : (st.map fun v => v.category).sum ≤ 8) (k : gz_k E M N cells slots (pc + 3) L (.int (gz_max x y) :: st) G S Q) : gz_k E M N cells slots pc L (.int y :: .int x :: st) G S Q := by
  intro p e s m args below meth c Z R C H locs ls hw hh
  subst hm
  obtain ⟨r1, r2, r3, r4⟩ := C.2.2.2.2.2.1
  have hts := C.2.2.2.2.1
  have hrr := gz_rest (E := E) hr
  exact va_mmax C.1 C.2.1 (by rw [C.2.2.1]; exact hh.1.symm) C.2.2.2.1 (hts _ hV.1) (hts _ hV.2) (hts _ hc.2.1) (hts _ hc.1) (by omega) (by omega) (by omega) (by omega) hd (k p e s m args below meth c Z R C H locs ls hw hh)
theorem gk_min {M2 : gz_M} {idx n : Nat} {x y : Int32} (hm : M2 = (Lib.Math.min.name, Lib.Math.min.code, 2, some .int)) (hd : decode M.2.1 pc = .ok (.invokestatic idx, 3)) (hV : gz_wS M.1.cls idx M2) (hc : gz_cw M2 n) (hD : 1 ≤ N.1) (hcl : cells ≤ N.2.1) (hsl : slots ≤ N.2.2.1) (hr : (st.map fun v => v.category).sum ≤ 8) (k : gz_k E M N cells slots (pc + 3) L (.int (gz_min x y) :: st) G S Q) : gz_k E M N cells slots pc L (.int y :: .int x :: st) G S Q := by
  intro p e s m args below meth c Z R C H locs ls hw hh
  subst hm
  obtain ⟨r1, r2, r3, r4⟩ := C.2.2.2.2.2.1
  have hts := C.2.2.2.2.1
  have hrr := gz_rest (E := E) hr
  exact va_mmin C.1 C.2.1 (by rw [C.2.2.1]; exact hh.1.symm) C.2.2.2.1 (hts _ hV.1) (hts _ hV.2) (hts _ hc.2.1) (hts _ hc.1) (by omega) (by omega) (by omega) (by omega) hd (k p e s m args below meth c Z R C H locs ls hw hh)
theorem gk_abs {M2 : gz_M} {idx n : Nat} {x : Int32} (hm : M2 = (Lib.Math.abs.name, Lib.Math.abs.code, 1, some .int)) (hd : decode M.2.1 pc = .ok (.invokestatic idx, 3)) (hV : gz_wS M.1.cls idx M2) (hc : gz_cw M2 n) (hD : 1 ≤ N.1) (hcl : cells ≤ N.2.1) (hsl : slots ≤ N.2.2.1) (hr : (st.map fun v => v.category).sum ≤ 8) (k : gz_k E M N cells slots (pc + 3) L (.int (gz_abs x) :: st) G S Q) : gz_k E M N cells slots pc L (.int x :: st) G S Q := by
  intro p e s m args below meth c Z R C H locs ls hw hh
  subst hm
  obtain ⟨r1, r2, r3, r4⟩ := C.2.2.2.2.2.1
  have hts := C.2.2.2.2.1
  have hrr := gz_rest (E := E) hr
  exact va_mabs C.1 C.2.1 (by rw [C.2.2.1]; exact hh.1.symm) C.2.2.2.1 (hts _ hV.1) (hts _ hV.2) (hts _ hc.2.1) (hts _ hc.1) (by omega) (by omega) (by omega) (by omega) hd (k p e s m args below meth c Z R C H locs ls hw hh)
end
