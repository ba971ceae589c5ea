theorem law_pure (L : Nat) (xs : Nat → Int32) (S : gz_S) (hL : L ≤ 3072) : ∃ n, wL_law_18 L xs (fun r _ => r = 1) n 0 (s_law S) :=
  ⟨L + 1, law_lp hL (L + 1) 0 (s_law S) (start_R S) (by omega) (by omega)⟩
