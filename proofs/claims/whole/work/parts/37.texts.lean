/-! ===== texts ===== -/
/-- may byte b stand at place i -/
def tft (lt : Bool) (i b : Nat) : Bool := if i % 2 = 0 then decide (49 ≤ b ∧ b ≤ 57) else if lt then decide (b = 121 ∨ b = 110) else decide (48 ≤ b ∧ b ≤ 57)
/-- the first place before n with which the text cannot go on -/
def tb (lt : Bool) (mp : Nat) (y : Nat → Nat) : Nat → Option Nat
  | 0 => none
  | n + 1 => match tb lt mp y n with
    | some i => some i
    | none => if 2 * mp ≤ n ∨ tft lt n (y n) = false then some n else none
def tfl (lt : Bool) (mp : Nat) (y : Nat → Nat) (n : Nat) : Option Nat := match tb lt mp y n with
  | some i => some i
  | none => if n % 2 = 1 then some n else none
def tsz (lt : Bool) (mp : Nat) (y : Nat → Nat) (n : Nat) : Nat := if tfl lt mp y n = none then n / 2 else 0
def tfs (y : Nat → Nat) (p : Nat) : Nat := y (2 * p) - 48
def tsn (lt : Bool) (y : Nat → Nat) (p : Nat) : Nat := if lt then (if y (2 * p + 1) = 121 then 0 else 1) else y (2 * p + 1) - 48
theorem tb_lt {lt : Bool} {mp : Nat} {y : Nat → Nat} : ∀ {n i : Nat}, tb lt mp y n = some i → i < n
  | 0, i, h => by cases h
  | n + 1, i, h => by
    unfold tb at h
    cases e : tb lt mp y n with
    | some j => rw [e] at h; cases h; have := tb_lt e; omega
    | none =>
      rw [e] at h
      simp only at h
      split at h
      · cases h; omega
      · cases h
theorem tb_none {lt : Bool} {mp : Nat} {y : Nat → Nat} : ∀ {n : Nat}, tb lt mp y n = none ↔ ∀ i, i < n → i < 2 * mp ∧ tft lt i (y i) = true
  | 0 => ⟨fun _ i h => by omega, fun _ => rfl⟩
  | n + 1 => by
    constructor
    · intro h i hi
      unfold tb at h
      cases e : tb lt mp y n with
      | some j => rw [e] at h; cases h
      | none =>
        rw [e] at h
        simp only at h
        split at h
        · cases h
        next c =>
          by_cases g : i = n
          · subst g
            refine ⟨by omega, ?_⟩
            cases q : tft lt i (y i) with
            | true => rfl
            | false => exact absurd (Or.inr q) c
          · exact tb_none.mp e i (by omega)
    · intro h
      have e : tb lt mp y n = none := tb_none.mpr (fun i hi => h i (by omega))
      unfold tb
      rw [e]
      simp only
      rw [if_neg]
      rintro (c | c)
      · have := (h n (by omega)).1; omega
      · rw [(h n (by omega)).2] at c; cases c
theorem tb_some {lt : Bool} {mp : Nat} {y : Nat → Nat} {n i : Nat} (h0 : tb lt mp y i = none) (hi : i < n) (hb : 2 * mp ≤ i ∨ tft lt i (y i) = false) : tb lt mp y n = some i := by
  have h1 : ∀ m, tb lt mp y (i + 1 + m) = some i := by
    intro m
    induction m with
    | zero =>
      show (match tb lt mp y i with | some j => some j | none => _) = _
      rw [h0]
      simp only
      rw [if_pos hb]
    | succ m ih =>
      show (match tb lt mp y (i + 1 + m) with | some j => some j | none => _) = _
      rw [ih]
  have := h1 (n - (i + 1))
  rw [show i + 1 + (n - (i + 1)) = n by omega] at this
  exact this
theorem tfl_some {lt : Bool} {mp : Nat} {y : Nat → Nat} {n i : Nat} (h : tb lt mp y n = some i) : tfl lt mp y n = some i := by unfold tfl; rw [h]
theorem tfl_odd {lt : Bool} {mp : Nat} {y : Nat → Nat} {n : Nat} (h : tb lt mp y n = none) (h2 : n % 2 = 1) : tfl lt mp y n = some n := by unfold tfl; rw [h]; simp only; rw [if_pos h2]
theorem tfl_even {lt : Bool} {mp : Nat} {y : Nat → Nat} {n : Nat} (h : tb lt mp y n = none) (h2 : n % 2 = 0) : tfl lt mp y n = none := by unfold tfl; rw [h]; simp only; rw [if_neg (by omega)]
theorem tfl_le {lt : Bool} {mp : Nat} {y : Nat → Nat} {n i : Nat} (h : tfl lt mp y n = some i) : i ≤ n := by
  unfold tfl at h
  cases e : tb lt mp y n with
  | some j => rw [e] at h; cases h; have := tb_lt e; omega
  | none =>
    rw [e] at h
    simp only at h
    split at h
    · cases h; omega
    · cases h
theorem tfl_none {lt : Bool} {mp : Nat} {y : Nat → Nat} {n : Nat} (h : tfl lt mp y n = none) : tb lt mp y n = none ∧ n % 2 = 0 := by
  unfold tfl at h
  cases e : tb lt mp y n with
  | some j => rw [e] at h; cases h
  | none =>
    rw [e] at h
    simp only at h
    split at h
    · cases h
    · exact ⟨rfl, by omega⟩
theorem b48 {b : Nat} (hb : b < 256) : (1 ≤ nI b - 48 ∧ nI b - 48 ≤ 9) ↔ (49 ≤ b ∧ b ≤ 57) := by
  have e : (nI b - 48).toInt = (b : Int) - 48 := pk_sub_toInt (a := b) (b := 48) (by omega) (by omega)
  rw [pn_le, pn_le, e]
  have e1 : (1 : Int32).toInt = 1 := by decide
  have e9 : (9 : Int32).toInt = 9 := by decide
  rw [e1, e9]
  omega
theorem b480 {b : Nat} (hb : b < 256) : (0 ≤ nI b - 48 ∧ nI b - 48 ≤ 9) ↔ (48 ≤ b ∧ b ≤ 57) := by
  have e : (nI b - 48).toInt = (b : Int) - 48 := pk_sub_toInt (a := b) (b := 48) (by omega) (by omega)
  rw [pn_le, pn_le, e]
  have e1 : (0 : Int32).toInt = 0 := by decide
  have e9 : (9 : Int32).toInt = 9 := by decide
  rw [e1, e9]
  omega
theorem b48n {b : Nat} (hb : 48 ≤ b) : nI b - 48 = nI (b - 48) := pk_sub (a := b) (b := 48) hb
theorem mod2 {i : Nat} (h : i < 2147483648) : nI i - nI i / 2 * 2 = nI (i % 2) := pk_rem (a := i) (d := 2) h (by decide) (by decide)
theorem div2 {i : Nat} (h : i < 2147483648) : nI i / 2 = nI (i / 2) := pk_div (a := i) (d := 2) h (by decide) (by decide)
theorem n0 {a : Nat} (h : a < 2147483648) : nI a = 0 ↔ a = 0 := neq (b := 0) h (by decide)
theorem n121 {a : Nat} (h : a < 2147483648) : nI a = 121 ↔ a = 121 := neq (b := 121) h (by decide)
theorem n110 {a : Nat} (h : a < 2147483648) : nI a = 110 ↔ a = 110 := neq (b := 110) h (by decide)
/-! ===== the system's texts ===== -/
def tX (S : gz_S) (a : Nat) (lt : Bool) (mp cap : Nat) (y : Nat → Nat) (n : Nat) : Prop := (S a 1 = nI mp ∧ S a 2 = bI lt ∧ n ≤ cap) ∧ S a 5 = nI n ∧ (∀ i, i < n → S (a + 1) i = nI (y i) ∧ y i < 256) ∧ S a 6 = oI (tfl lt mp y n) ∧ S a 7 = nI (tsz lt mp y n) ∧ (tb lt mp y n = none → ∀ p, p < n / 2 → S (a + 2) p = nI (tfs y p) ∧ S (a + 3) p = nI (tsn lt y p))
theorem x_fits {a i mp cap : Nat} {lt : Bool} {y : Nat → Nat} {S : gz_S} {Q : Int32 → gz_S → Prop} (hcap : gz_n (a + 1) = cap) (hc : cap ≤ 20) (hi : i < cap) (h2 : S a 2 = bI lt) (hb : S (a + 1) i = nI (y i)) (hy : y i < 256) (hQ : Q (bI (tft lt i (y i))) S) : wX6_fits a (nI i) S Q := by
  unfold wX6_fits
  rw [hcap, pn_cl (by omega), hb, mod2 (by omega), h2]
  refine ⟨pn_in hi (by omega), fun v e => ?_⟩
  rw [e, n121 (by omega), n110 (by omega), n0 (by omega)]
  refine ⟨fun c => ⟨fun c2 => w_within (fun g1 g2 => ⟨b01_1, ?_⟩) (fun g => ⟨b01_0, ?_⟩), fun c2 => ⟨fun c3 => ?_, fun c3 => ⟨fun c4 => ?_, fun c4 => ?_⟩⟩⟩, fun c => w_within (fun g1 g2 => ⟨b01_1, ?_⟩) (fun g => ⟨b01_0, ?_⟩)⟩
  · have hl : lt = false := by cases lt with | false => rfl | true => exact absurd c2 (by decide)
    have g1' : nI 48 ≤ nI (y i) := g1
    have g2' : nI (y i) ≤ nI 57 := g2
    rw [nle (by omega) (by omega)] at g1' g2'
    have q : tft lt i (y i) = true := by unfold tft; rw [if_neg c, hl]; simp; omega
    rw [q] at hQ; exact hQ
  · have hl : lt = false := by cases lt with | false => rfl | true => exact absurd c2 (by decide)
    have g' : ¬ (nI 48 ≤ nI (y i) ∧ nI (y i) ≤ nI 57) := g
    rw [nle (by omega) (by omega), nle (by omega) (by omega)] at g'
    have q : tft lt i (y i) = false := by unfold tft; rw [if_neg c, hl]; simp; omega
    rw [q] at hQ; exact hQ
  · have hl : lt = true := by cases lt with | true => rfl | false => exact absurd rfl c2
    unfold wX6_fits_41
    have q : tft lt i (y i) = true := by unfold tft; rw [if_neg c, hl]; simp [c3]
    rw [q] at hQ; exact hQ
  · have hl : lt = true := by cases lt with | true => rfl | false => exact absurd rfl c2
    have q : tft lt i (y i) = false := by unfold tft; rw [if_neg c, hl]; simp [c3, c4]
    rw [q] at hQ; exact hQ
  · have hl : lt = true := by cases lt with | true => rfl | false => exact absurd rfl c2
    unfold wX6_fits_41
    have q : tft lt i (y i) = true := by unfold tft; rw [if_neg c, hl]; simp [c4]
    rw [q] at hQ; exact hQ
  · have g1' : nI 49 ≤ nI (y i) := g1
    have g2' : nI (y i) ≤ nI 57 := g2
    rw [nle (by omega) (by omega)] at g1' g2'
    have q : tft lt i (y i) = true := by unfold tft; rw [if_pos c]; simp; omega
    rw [q] at hQ; exact hQ
  · have g' : ¬ (nI 49 ≤ nI (y i) ∧ nI (y i) ≤ nI 57) := g
    rw [nle (by omega) (by omega), nle (by omega) (by omega)] at g'
    have q : tft lt i (y i) = false := by unfold tft; rw [if_pos c]; simp; omega
    rw [q] at hQ; exact hQ
theorem bI_t : bI true = 1 := rfl
theorem bI_f : bI false = 0 := rfl
theorem x_findFlaw {a mp cap n : Nat} {lt : Bool} {y : Nat → Nat} {S : gz_S} {Q : Int32 → gz_S → Prop} (hcap : gz_n (a + 1) = cap) (hc : cap ≤ 20) (hmp : mp ≤ 9) (hn : n ≤ cap) (h1 : S a 1 = nI mp) (h2 : S a 2 = bI lt) (h5 : S a 5 = nI n) (hb : ∀ i, i < n → S (a + 1) i = nI (y i) ∧ y i < 256) (hQ : Q (oI (tfl lt mp y n)) S) : wX6_findFlaw a S Q := by
  have lp : ∀ (m i : Nat), i + m = n → tb lt mp y i = none → wX6_findFlaw_2 Q (m + 1) a (nI i) S := by
    intro m
    induction m with
    | zero =>
      intro i hi ht
      obtain rfl : i = n := by omega
      unfold wX6_findFlaw_2
      rw [h5, mod2 (by omega), n0 (by omega)]
      refine ⟨fun _ => ⟨fun c => ?_, fun c => ?_⟩, fun c => absurd (nI_le (Nat.le_refl _) (by omega)) c⟩
      · rw [tfl_odd ht (by omega)] at hQ; exact hQ
      · rw [tfl_even ht c] at hQ; exact hQ
    | succ m ih =>
      intro i hi ht
      unfold wX6_findFlaw_2
      rw [h5, h1, show (2 : Int32) * nI mp = nI (2 * mp) from pk_mul 2 mp]
      refine ⟨fun c => ?_, fun _ => ⟨fun c => ?_, fun c => ?_⟩⟩
      · exfalso; rw [nle (by omega) (by omega)] at c; omega
      · rw [nle (by omega) (by omega)] at c
        rw [tfl_some (tb_some ht (by omega) (Or.inl c))] at hQ; exact hQ
      · rw [nle (by omega) (by omega)] at c
        obtain ⟨b1, b2⟩ := hb i (by omega)
        refine x_fits (mp := mp) hcap hc (by omega) h2 b1 b2 ?_
        cases q : tft lt i (y i) with
        | true =>
          refine ⟨fun _ => ?_, fun c2 => absurd c2 (by decide)⟩
          rw [nI_1]
          refine ih (i + 1) (by omega) (tb_none.mpr (fun j hj => ?_))
          by_cases e : j = i
          · subst e; exact ⟨by omega, q⟩
          · exact tb_none.mp ht j (by omega)
        | false =>
          refine ⟨fun c2 => absurd rfl c2, fun _ => ?_⟩
          rw [tfl_some (tb_some ht (by omega) (Or.inr q))] at hQ; exact hQ
  unfold wX6_findFlaw
  exact ⟨n + 1, lp n 0 (by omega) rfl⟩
theorem tsz_le {lt : Bool} {mp : Nat} {y : Nat → Nat} {n : Nat} : tsz lt mp y n ≤ n / 2 := by unfold tsz; split <;> omega
theorem tft_even {lt : Bool} {i b : Nat} (h : i % 2 = 0) (q : tft lt i b = true) : 49 ≤ b ∧ b ≤ 57 := by unfold tft at q; rw [if_pos h] at q; simpa using q
theorem tft_odd_f {i b : Nat} (h : i % 2 = 1) (q : tft false i b = true) : 48 ≤ b ∧ b ≤ 57 := by unfold tft at q; rw [if_neg (by omega)] at q; simpa using q
theorem tft_odd_t {i b : Nat} (h : i % 2 = 1) (q : tft true i b = true) : b = 121 ∨ b = 110 := by unfold tft at q; rw [if_neg (by omega)] at q; simpa using q
theorem upd_cong {y : Nat → Nat} {n b : Nat} {lt : Bool} {mp : Nat} : ∀ {m : Nat}, m ≤ n → tb lt mp (fun i => if i = n then b else y i) m = tb lt mp y m
  | 0, _ => rfl
  | m + 1, h => by
    unfold tb
    rw [upd_cong (by omega)]
    cases tb lt mp y m with
    | some i => rfl
    | none =>
      simp only
      rw [if_neg (show ¬ m = n by omega)]
/-- a byte more -/
theorem x_append {a mp cap n b : Nat} {lt : Bool} {y : Nat → Nat} {S : gz_S} {Q : gz_S → Prop} (ha : (a = 2 ∧ lt = true ∧ mp = 8 ∧ cap = 16) ∨ (a = 6 ∧ lt = false ∧ mp = 9 ∧ cap = 20)) (hT : tX S a lt mp cap y n) (hn : n < cap) (hb : b < 256)
    (hQ : ∀ S', fr (fun c j => (c = a ∧ (j = 5 ∨ j = 6 ∨ j = 7)) ∨ (a + 1 ≤ c ∧ c ≤ a + 3)) S S' → tX S' a lt mp cap (fun i => if i = n then b else y i) (n + 1) → Q S') : wX6_append a (nI b) S Q := by
  obtain ⟨⟨h1, h2, h3⟩, h5, hy, h6, h7, hp⟩ := hT
  have n1 : gz_n (a + 1) = cap := by rcases ha with ⟨rfl, rfl, rfl, rfl⟩ | ⟨rfl, rfl, rfl, rfl⟩ <;> rfl
  have n2 : gz_n (a + 2) = mp := by rcases ha with ⟨rfl, rfl, rfl, rfl⟩ | ⟨rfl, rfl, rfl, rfl⟩ <;> rfl
  have n3 : gz_n (a + 3) = mp := by rcases ha with ⟨rfl, rfl, rfl, rfl⟩ | ⟨rfl, rfl, rfl, rfl⟩ <;> rfl
  have hcap : cap ≤ 20 := by omega
  have hmp : mp ≤ 9 := by omega
  unfold wX6_append
  rw [h5, n1, pn_cl (by omega)]
  refine ⟨pn_in hn (by omega), fun S1 e1 S2 e2 => ?_⟩
  have e15 : S1 a 5 = nI n := by rw [e1, gz_st_n _ _ _ (by omega)]; exact h5
  rw [e15, nI_1] at e2
  have q1 : S2 a 1 = nI mp := by rw [e2, gz_st_o _ _ _ (by decide), e1, gz_st_n _ _ _ (by omega)]; exact h1
  have q2 : S2 a 2 = bI lt := by rw [e2, gz_st_o _ _ _ (by decide), e1, gz_st_n _ _ _ (by omega)]; exact h2
  have q5 : S2 a 5 = nI (n + 1) := by rw [e2, gz_st_v]
  have qb : ∀ i, i < n + 1 → S2 (a + 1) i = nI ((fun i => if i = n then b else y i) i) ∧ (fun i => if i = n then b else y i) i < 256 := by
    intro i hi
    rw [e2, gz_st_n _ _ _ (by omega), e1]
    by_cases e : i = n
    · subst e; rw [gz_st_v]; simp [hb]
    · rw [gz_st_o _ _ _ e]
      simp only [e, if_false]
      exact hy i (by omega)
  have hfr2 : fr (fun c j => (c = a ∧ (j = 5 ∨ j = 6 ∨ j = 7)) ∨ (a + 1 ≤ c ∧ c ≤ a + 3)) S S2 := by
    refine fr.tr (S1 := S1) ?_ ?_
    · rw [e1]; exact fr_st (by omega)
    · rw [e2]; exact fr_st (by omega)
  generalize hy2 : (fun i => if i = n then b else y i) = y2 at qb hQ
  have htb : ∀ m, m ≤ n → tb lt mp y2 m = tb lt mp y m := fun m hm => by rw [← hy2]; exact upd_cong hm
  refine x_findFlaw (mp := mp) (y := y2) n1 hcap hmp (by omega) q1 q2 q5 qb ?_
  intro S3 e3
  have r6 : S3 a 6 = oI (tfl lt mp y2 (n + 1)) := by rw [e3, gz_st_v]
  have r5 : S3 a 5 = nI (n + 1) := by rw [e3, gz_st_o _ _ _ (by decide)]; exact q5
  have hfr3 : fr (fun c j => (c = a ∧ (j = 5 ∨ j = 6 ∨ j = 7)) ∨ (a + 1 ≤ c ∧ c ≤ a + 3)) S S3 := hfr2.tr (by rw [e3]; exact fr_st (by omega))
  have hlt : ∀ k, tfl lt mp y2 (n + 1) = some k → k < 2147483648 := fun k h => by have := tfl_le h; omega
  -- pairs that were read before
  have hold : ∀ S' : gz_S, (∀ j, S' (a + 2) j = S (a + 2) j) → (∀ j, S' (a + 3) j = S (a + 3) j) → tb lt mp y n = none → ∀ p, p < n / 2 → S' (a + 2) p = nI (tfs y2 p) ∧ S' (a + 3) p = nI (tsn lt y2 p) := by
    intro S' g2 g3 ht p hp2
    rw [g2, g3]
    have := hp ht p hp2
    have e1 : y2 (2 * p) = y (2 * p) := by rw [← hy2]; simp only; rw [if_neg (by omega)]
    have e2 : y2 (2 * p + 1) = y (2 * p + 1) := by rw [← hy2]; simp only; rw [if_neg (by omega)]
    unfold tfs tsn
    rw [e1, e2]
    exact this
  have k2 : ∀ j, S3 (a + 2) j = S (a + 2) j := fun j => by rw [e3, gz_st_n _ _ _ (by omega), e2, gz_st_n _ _ _ (by omega), e1, gz_st_n _ _ _ (by omega)]
  have k3 : ∀ j, S3 (a + 3) j = S (a + 3) j := fun j => by rw [e3, gz_st_n _ _ _ (by omega), e2, gz_st_n _ _ _ (by omega), e1, gz_st_n _ _ _ (by omega)]
  have k1 : ∀ i, i < n + 1 → S3 (a + 1) i = nI (y2 i) ∧ y2 i < 256 := fun i hi => by rw [e3, gz_st_n _ _ _ (by omega)]; exact qb i hi
  have htn : tb lt mp y2 (n + 1) = none → tb lt mp y n = none := by
    intro h
    rw [← htb n (Nat.le_refl _)]
    exact tb_none.mpr (fun i hi => tb_none.mp h i (by omega))
  -- the end without a pair
  have hend0 : ∀ S4 : gz_S, S4 = gz_st S3 a 7 0 → tsz lt mp y2 (n + 1) = 0 → (tb lt mp y2 (n + 1) = none → (n + 1) / 2 = n / 2) → Q S4 := by
    intro S4 e4 hz hev
    refine hQ S4 (hfr3.tr (by rw [e4]; exact fr_st (by omega))) ⟨⟨?_, ?_, by omega⟩, ?_, fun i hi => ?_, ?_, ?_, fun ht => ?_⟩
    · rw [e4, gz_st_o _ _ _ (by decide), e3, gz_st_o _ _ _ (by decide)]; exact q1
    · rw [e4, gz_st_o _ _ _ (by decide), e3, gz_st_o _ _ _ (by decide)]; exact q2
    · rw [e4, gz_st_o _ _ _ (by decide)]; exact r5
    · rw [e4, gz_st_n _ _ _ (by omega)]; exact k1 i hi
    · rw [e4, gz_st_o _ _ _ (by decide)]; exact r6
    · rw [e4, gz_st_v, hz]; rfl
    · intro p hp2
      rw [hev ht] at hp2
      exact hold S4 (fun j => by rw [e4, gz_st_n _ _ _ (by omega)]; exact k2 j) (fun j => by rw [e4, gz_st_n _ _ _ (by omega)]; exact k3 j) (htn ht) p hp2
  rw [r6, oI_m1 hlt]
  refine ⟨fun c => ?_, fun c => ?_⟩
  · unfold wX6_append_47
    intro S4 e4
    have hz : tsz lt mp y2 (n + 1) = 0 := by unfold tsz; rw [if_neg c]
    have v7 : S4 a 7 = 0 := by rw [e4, gz_st_v]
    refine ⟨fun _ => hend0 S4 e4 hz (fun ht => ?_), fun c2 => absurd ?_ c2⟩
    · have : (n + 1) % 2 = 1 := by
        rcases Nat.mod_two_eq_zero_or_one (n + 1) with h | h
        · exact absurd (tfl_even ht h) c
        · exact h
      omega
    · rw [v7]; decide
  · obtain ⟨ht, hev⟩ := tfl_none c
    rw [r5, div2 (by omega)]
    unfold wX6_append_47
    intro S4 e4
    have hz : tsz lt mp y2 (n + 1) = (n + 1) / 2 := by unfold tsz; rw [if_pos c]
    have v7 : S4 a 7 = nI ((n + 1) / 2) := by rw [e4, gz_st_v]
    rw [v7]
    refine ⟨fun c2 => ?_, fun _ => ?_⟩
    · have c2' : nI ((n + 1) / 2) ≤ nI 0 := c2
      rw [nle (by omega) (by omega)] at c2'
      exfalso
      omega
    · obtain ⟨p, hp1⟩ : ∃ p, (n + 1) / 2 = p + 1 := ⟨(n + 1) / 2 - 1, by omega⟩
      have hn2 : n = 2 * p + 1 := by omega
      have hfits := tb_none.mp ht
      have f0 := hfits (2 * p) (by omega)
      have f1 := hfits (2 * p + 1) (by omega)
      have g0 := tft_even (by omega) f0.2
      have w1 : ∀ i, i < n + 1 → S4 (a + 1) i = nI (y2 i) ∧ y2 i < 256 := fun i hi => by rw [e4, gz_st_n _ _ _ (by omega)]; exact k1 i hi
      unfold wX6_readLastPair
      rw [v7, hp1, n1, n2, n3]
      rw [show (2 : Int32) * nI (p + 1) = nI (2 * (p + 1)) from pk_mul 2 (p + 1), show nI (2 * (p + 1)) - 1 = nI (2 * p + 1) from (pk_sub (a := 2 * (p + 1)) (b := 1) (by omega)).trans (by congr 1), show nI (2 * (p + 1)) - 2 = nI (2 * p) from (pk_sub (a := 2 * (p + 1)) (b := 2) (by omega)).trans (by congr 1), nI_pred, pn_cl (by omega), pn_cl (by omega), pn_cl (by omega), (w1 (2 * p + 1) (by omega)).1, (w1 (2 * p) (by omega)).1, b48n (by omega)]
      refine ⟨pn_in (by omega) (by omega), fun v1 ev => ⟨pn_in (by omega) (by omega), pn_in (by omega) (by omega), fun S5 e5 => ?_⟩⟩
      have u7 : S5 a 7 = nI (p + 1) := by rw [e5, gz_st_n _ _ _ (by omega), v7, hp1]
      have u2 : S5 a 2 = bI lt := by rw [e5, gz_st_n _ _ _ (by omega), e4, gz_st_o _ _ _ (by decide), e3, gz_st_o _ _ _ (by decide)]; exact q2
      rw [u7, u2, nI_pred, pn_cl (by omega), ev, n121 (by have := (w1 (2 * p + 1) (by omega)).2; omega)]
      have hfin : ∀ (S6 : gz_S) (v : Int32), S6 = gz_st S5 (a + 3) p v → v = nI (tsn lt y2 p) → Q S6 := by
        intro S6 v e6 hv
        have hc : ∀ c j, c ≠ a + 2 → c ≠ a + 3 → S6 c j = S4 c j := fun c j g1 g2 => by rw [e6, gz_st_n _ _ _ g2, e5, gz_st_n _ _ _ g1]
        refine hQ S6 (hfr3.tr (fr.tr (S1 := S4) ?_ (fr.tr (S1 := S5) ?_ ?_))) ⟨⟨?_, ?_, by omega⟩, ?_, fun i hi => ?_, ?_, ?_, fun _ => ?_⟩
        · rw [e4]; exact fr_st (by omega)
        · rw [e5]; exact fr_st (by omega)
        · rw [e6]; exact fr_st (by omega)
        · rw [hc _ _ (by omega) (by omega), e4, gz_st_o _ _ _ (by decide), e3, gz_st_o _ _ _ (by decide)]; exact q1
        · rw [hc _ _ (by omega) (by omega), e4, gz_st_o _ _ _ (by decide), e3, gz_st_o _ _ _ (by decide)]; exact q2
        · rw [hc _ _ (by omega) (by omega), e4, gz_st_o _ _ _ (by decide)]; exact r5
        · rw [hc _ _ (by omega) (by omega)]; exact w1 i hi
        · rw [hc _ _ (by omega) (by omega), e4, gz_st_o _ _ _ (by decide)]; exact r6
        · rw [hc _ _ (by omega) (by omega), v7, hz]
        · intro p2 hp2
          by_cases ep : p2 = p
          · subst ep
            constructor
            · rw [e6, gz_st_n _ _ _ (by omega), e5, gz_st_v]; rfl
            · rw [e6, gz_st_v, hv]
          · have h9 := hold S4 (fun j => by rw [e4, gz_st_n _ _ _ (by omega)]; exact k2 j) (fun j => by rw [e4, gz_st_n _ _ _ (by omega)]; exact k3 j) (htn ht) p2 (by omega)
            constructor
            · rw [e6, gz_st_n _ _ _ (by omega), e5, gz_st_o _ _ _ ep]; exact h9.1
            · rw [e6, gz_st_o _ _ _ ep, e5, gz_st_n _ _ _ (by omega)]; exact h9.2
      refine ⟨fun c2 => ?_, fun c2 => ⟨fun c3 => ?_, fun c3 => ?_⟩⟩
      · have hl : lt = false := by cases lt with | false => rfl | true => exact absurd c2 (by decide)
        subst hl
        have g1 := tft_odd_f (by omega) f1.2
        rw [b48n (by omega)]
        refine ⟨pn_in (by omega) (by omega), fun S6 e6 => hfin S6 _ e6 ?_⟩
        rfl
      · have hl : lt = true := by cases lt with | true => rfl | false => exact absurd rfl c2
        subst hl
        unfold wX6_readLastPair_69
        rw [n3, pn_cl (by omega)]
        refine ⟨pn_in (by omega) (by omega), fun S6 e6 => hfin S6 _ e6 ?_⟩
        unfold tsn
        rw [if_pos rfl, if_neg c3]
        rfl
      · have hl : lt = true := by cases lt with | true => rfl | false => exact absurd rfl c2
        subst hl
        unfold wX6_readLastPair_69
        rw [n3, pn_cl (by omega)]
        refine ⟨pn_in (by omega) (by omega), fun S6 e6 => hfin S6 _ e6 ?_⟩
        unfold tsn
        rw [if_pos rfl, if_pos c3]
        rfl
