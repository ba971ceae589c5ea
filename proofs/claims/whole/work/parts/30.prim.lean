/-! ===== the state: one place changed; what stays ===== -/
theorem gz_st_c (S : gz_S) (a j : Nat) (v : Int32) : gz_st S a j v a = upd (S a) j v := gz_u_at S a _
theorem gz_st_n (S : gz_S) {a b : Nat} (j : Nat) (v : Int32) (h : b ≠ a) : gz_st S a j v b = S b := gz_u_ne S _ h
theorem gz_st_v (S : gz_S) (a j : Nat) (v : Int32) : gz_st S a j v a j = v := by rw [gz_st_c]; exact pk_us
theorem gz_st_o (S : gz_S) (a : Nat) {i j : Nat} (v : Int32) (h : i ≠ j) : gz_st S a j v a i = S a i := by rw [gz_st_c]; exact pk_un h
/-- all places but those of P are as they were -/
def fr (P : Nat → Nat → Prop) (S S' : gz_S) : Prop := ∀ a j, ¬ P a j → S' a j = S a j
theorem fr_rf {P : Nat → Nat → Prop} {S : gz_S} : fr P S S := fun _ _ _ => rfl
theorem fr.tr {P : Nat → Nat → Prop} {S S1 S2 : gz_S} (h1 : fr P S S1) (h2 : fr P S1 S2) : fr P S S2 := fun a j h => (h2 a j h).trans (h1 a j h)
theorem fr.mono {P P2 : Nat → Nat → Prop} {S S1 : gz_S} (h : fr P S S1) (hs : ∀ a j, P a j → P2 a j) : fr P2 S S1 := fun a j ha => h a j (fun h2 => ha (hs a j h2))
theorem fr_st {P : Nat → Nat → Prop} {S : gz_S} {a j : Nat} {v : Int32} (h : P a j) : fr P S (gz_st S a j v) := fun b i hb => by
  by_cases e : b = a
  · subst e
    by_cases e2 : i = j
    · subst e2; exact absurd h hb
    · exact gz_st_o S b v e2
  · rw [gz_st_n S j v e]
theorem fr_u {P : Nat → Nat → Prop} {S : gz_S} {a : Nat} {f : Nat → Int32} (h : ∀ j, P a j) : fr P S (gz_u S a f) := fun b i hb => by
  by_cases e : b = a
  · subst e; exact absurd (h i) hb
  · rw [gz_u_ne S f e]
theorem fr.c {P : Nat → Nat → Prop} {S S1 : gz_S} (h : fr P S S1) {a : Nat} (ha : ∀ j, ¬ P a j) : S1 a = S a := funext fun j => h a j (ha j)
/-! ===== numbers ===== -/
theorem pn_lt {x y : Int32} : x < y ↔ x.toInt < y.toInt := Int32.lt_iff_toInt_lt
theorem pn_le {x y : Int32} : x ≤ y ↔ x.toInt ≤ y.toInt := Int32.le_iff_toInt_le
theorem pn_eq {x y : Int32} : x = y ↔ x.toInt = y.toInt := Int32.toInt_inj.symm
theorem pn_t {n : Nat} (h : n < 2147483648) : (nI n).toInt = (n : Int) := nI_toInt h
theorem pn_m1 : (-1 : Int32).toInt = -1 := by decide
/-- a number, or -1 for none -/
def oI : Option Nat → Int32
  | none => -1
  | some n => nI n
theorem oI_m1 {o : Option Nat} (h : ∀ n, o = some n → n < 2147483648) : oI o = -1 ↔ o = none := by
  cases o with
  | none => simp [oI]
  | some n =>
    have h1 := h n rfl
    refine ⟨fun e => ?_, fun e => by cases e⟩
    rw [pn_eq, oI, pn_t h1, pn_m1] at e
    omega
/-- a number between two bounds -/
theorem pn_rng {x : Int32} {hi : Nat} (hh : hi < 2147483648) (h0 : 0 ≤ x) (h1 : x ≤ nI hi) : ∃ j : Nat, j ≤ hi ∧ x = nI j := by
  rw [pn_le, pn_t hh] at h1
  rw [pn_le] at h0
  have e0 : (0 : Int32).toInt = 0 := by decide
  rw [e0] at h0
  refine ⟨x.toInt.toNat, by omega, ?_⟩
  rw [pn_eq, pn_t (by omega)]
  omega
theorem pn_cl {n : Nat} (h : n < 2147483648) : (nI n).toNatClampNeg = n := nI_clamp h
theorem pn_in {j n : Nat} (h : j < n) (hn : n < 2147483648) : vp_in (nI j) n := vp_in_nI h hn
/-! ===== the two tests of a range ===== -/
theorem w_within {x lo hi : Int32} {S : gz_S} {Q : Int32 → gz_S → Prop} (h1 : lo ≤ x → x ≤ hi → Q 1 S) (h0 : ¬ (lo ≤ x ∧ x ≤ hi) → Q 0 S) : wX7_within x lo hi S Q := by
  unfold wX7_within
  refine ⟨fun c => h0 ?_, fun c => ⟨fun c2 => h0 ?_, fun c2 => h1 ?_ ?_⟩⟩
  · rw [pn_lt] at c; rw [pn_le, pn_le]; omega
  · rw [pn_lt] at c2; rw [pn_le, pn_le]; omega
  · rw [pn_lt] at c; rw [pn_le]; omega
  · rw [pn_lt] at c2; rw [pn_le]; omega
theorem w_in {x lo hi : Int32} {lo6 hi6 : Int64} (e1 : lo6 = lo.toInt64) (e2 : hi6 = hi.toInt64) {S : gz_S} {Q : Int32 → gz_S → Prop} (h1 : lo ≤ x → x ≤ hi → Q 1 S) (h0 : ¬ (lo ≤ x ∧ x ≤ hi) → Q 0 S) : wX8_in x.toInt64 lo6 hi6 S Q := by
  subst e1
  subst e2
  unfold wX8_in
  have k1 : ∀ a b : Int32, lg_cmp a.toInt64 b.toInt64 < 0 ↔ a < b := by
    intro a b
    unfold lg_cmp
    simp only [gt_iff_lt, fa_wide_lt, fa_wide_eq]
    rcases fa_three a b with h | h | h
    · have h2 := fa_of_lt h
      rw [if_neg h2.2.2.1, if_neg h2.2.2.2.1]
      exact ⟨fun _ => h, fun _ => by decide⟩
    · subst h
      have h3 : ¬ a < a := by rw [fa_lt]; omega
      rw [if_neg h3, if_pos rfl]
      exact ⟨fun h => absurd h (by decide), fun h => absurd h h3⟩
    · have h2 := fa_of_lt h
      rw [if_pos h]
      exact ⟨fun h => absurd h (by decide), fun h4 => absurd h4 h2.2.2.1⟩
  have k2 : ∀ a b : Int32, 0 < lg_cmp a.toInt64 b.toInt64 ↔ b < a := by
    intro a b
    unfold lg_cmp
    simp only [gt_iff_lt, fa_wide_lt, fa_wide_eq]
    rcases fa_three a b with h | h | h
    · have h2 := fa_of_lt h
      rw [if_neg h2.2.2.1, if_neg h2.2.2.2.1]
      exact ⟨fun h => absurd h (by decide), fun h4 => absurd h4 h2.2.2.1⟩
    · subst h
      have h3 : ¬ a < a := by rw [fa_lt]; omega
      rw [if_neg h3, if_pos rfl]
      exact ⟨fun h => absurd h (by decide), fun h => absurd h h3⟩
    · rw [if_pos h]
      exact ⟨fun _ => h, fun _ => by decide⟩
  rw [k1, k2]
  refine ⟨fun c => h0 ?_, fun c => ⟨fun c2 => h0 ?_, fun c2 => h1 ?_ ?_⟩⟩
  · rw [pn_lt] at c; rw [pn_le, pn_le]; omega
  · rw [pn_lt] at c2; rw [pn_le, pn_le]; omega
  · rw [pn_lt] at c; rw [pn_le]; omega
  · rw [pn_lt] at c2; rw [pn_le]; omega
theorem b01_0 : gz_b01 0 := Or.inl rfl
theorem b01_1 : gz_b01 1 := Or.inr rfl
theorem w_isTwo {x : Int32} {S : gz_S} {Q : Int32 → gz_S → Prop} (h1 : 0 ≤ x → x ≤ 1 → Q 1 S) (h0 : ¬ (0 ≤ x ∧ x ≤ 1) → Q 0 S) : wX8_isTwo x S Q :=
  w_in (lo := 0) (hi := 1) (by decide) (by decide) (fun a b => ⟨b01_1, h1 a b⟩) (fun a => ⟨b01_0, h0 a⟩)
theorem w_isHour {x : Int32} {S : gz_S} {Q : Int32 → gz_S → Prop} (h1 : 0 ≤ x → x ≤ 24 → Q 1 S) (h0 : ¬ (0 ≤ x ∧ x ≤ 24) → Q 0 S) : wX8_isHour x S Q :=
  w_in (lo := 0) (hi := 24) (by decide) (by decide) (fun a b => ⟨b01_1, h1 a b⟩) (fun a => ⟨b01_0, h0 a⟩)
theorem w_isSheet {x : Int32} {S : gz_S} {Q : Int32 → gz_S → Prop} (h1 : 0 ≤ x → x ≤ 3 → Q 1 S) (h0 : ¬ (0 ≤ x ∧ x ≤ 3) → Q 0 S) : wX8_isSheet x S Q :=
  w_in (lo := 0) (hi := 3) (by decide) (by decide) (fun a b => ⟨b01_1, h1 a b⟩) (fun a => ⟨b01_0, h0 a⟩)
/-- both choose by the same test: the bound's two sides at once -/
theorem n10 : ¬ (1 : Int32) = 0 := by decide
theorem e00 : (0 : Int32) = 0 := rfl
/-! ===== filling ===== -/
theorem w_fill_lp {a n : Nat} {v : Int32} {S0 : gz_S} {Q : gz_S → Prop} (hn : gz_n a = n) (hb : n < 2147483648) (hQ : Q (gz_fl S0 a n v)) : ∀ (m i : Nat) (S : gz_S), i + m = n → S = gz_u S0 a (fun j => if j < i then v else S0 a j) → wJ7_fill_53178_5 Q (m + 1) a v (nI i) (nI n) S := by
  intro m
  induction m with
  | zero =>
    intro i S hi hS
    obtain rfl : i = n := by omega
    unfold wJ7_fill_53178_5
    refine ⟨fun _ => ?_, fun c => absurd (nI_le (Nat.le_refl _) hb) c⟩
    rw [hS]
    exact hQ
  | succ m ih =>
    intro i S hi hS
    unfold wJ7_fill_53178_5
    refine ⟨fun c => absurd c (nI_ge (by omega) hb), fun c => ⟨by rw [hn]; exact pn_in (by omega) hb, fun S13 e => ?_⟩⟩
    rw [nI_1]
    refine ih (i + 1) S13 (by omega) ?_
    rw [e, pn_cl (by omega), hS]
    funext b j
    unfold gz_st gz_u upd
    by_cases hb : b = a
    · simp only [hb, if_true]
      by_cases hj : j = i
      · subst hj
        rw [if_pos rfl, if_pos (by omega)]
      · rw [if_neg hj]
        by_cases h2 : j < i
        · rw [if_pos h2, if_pos (by omega)]
        · rw [if_neg h2, if_neg (by omega)]
    · simp only [hb, if_false]
theorem w_fill {a n : Nat} {v : Int32} {S : gz_S} {Q : gz_S → Prop} (hn : gz_n a = n) (hb : n < 2147483648) (hQ : Q (gz_fl S a n v)) : wJ7_fill_53178 a v S Q := by
  unfold wJ7_fill_53178
  intro v3 e3
  refine ⟨n + 1, ?_⟩
  rw [e3, hn]
  refine w_fill_lp hn hb hQ n 0 S (by omega) ?_
  funext b j
  unfold gz_u
  by_cases hb : b = a
  · simp [hb]
  · simp [hb]
theorem gz_fl_in (S : gz_S) (a n : Nat) (v : Int32) {j : Nat} (h : j < n) : gz_fl S a n v a j = v := by
  unfold gz_fl
  rw [gz_u_at]
  simp [h]
theorem fr_fl {P : Nat → Nat → Prop} {S : gz_S} {a n : Nat} {v : Int32} (h : ∀ j, P a j) : fr P S (gz_fl S a n v) := fr_u h
