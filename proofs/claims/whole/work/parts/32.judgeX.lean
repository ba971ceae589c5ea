theorem nle {a b : Nat} (ha : a < 2147483648) (hb : b < 2147483648) : nI a ≤ nI b ↔ a ≤ b := nI_leI ha hb
theorem nlt {a b : Nat} (ha : a < 2147483648) (hb : b < 2147483648) : nI a < nI b ↔ a < b := nI_ltI ha hb
theorem neq {a b : Nat} (ha : a < 2147483648) (hb : b < 2147483648) : nI a = nI b ↔ a = b := nI_eq ha hb
theorem nm1 {a : Nat} (ha : a < 2147483648) : ¬ nI a = (-1 : Int32) := by
  rw [pn_eq, pn_t ha, pn_m1]; omega
theorem d_X.low {S S' : gz_S} {d : dt} (h : d_X S d) (hs : ∀ a j, a < 16 → S' a j = S a j) : d_X S' d := by
  obtain ⟨⟨x1, x2⟩, ⟨x3, x4⟩, ⟨x5, x6⟩, x7, x8⟩ := h
  refine ⟨⟨?_, fun p hp => ⟨?_, ?_⟩⟩, ⟨?_, fun s hs2 => ⟨?_, ?_⟩⟩, ⟨?_, ?_⟩, ?_, fun k hk => ⟨?_, ?_, ?_⟩⟩
  · rw [hs _ _ (by decide)]; exact x1
  · rw [hs _ _ (by decide)]; exact (x2 p hp).1
  · rw [hs _ _ (by decide)]; exact (x2 p hp).2
  · rw [hs _ _ (by decide)]; exact x3
  · rw [hs _ _ (by decide)]; exact (x4 s hs2).1
  · rw [hs _ _ (by decide)]; exact (x4 s hs2).2
  · rw [hs _ _ (by decide)]; exact x5
  · rw [hs _ _ (by decide)]; exact x6
  · rw [hs _ _ (by decide)]; exact x7
  · rw [hs _ _ (by decide)]; exact (x8 k hk).1
  · rw [hs _ _ (by decide)]; exact (x8 k hk).2.1
  · rw [hs _ _ (by decide)]; exact (x8 k hk).2.2
theorem x_weight {d : dt} {s : Nat} {S : gz_S} {Q : Int32 → gz_S → Prop} (hX : d_X S d) (hd : d_ok d) (h : s < d_ns d) (hQ : Q (nI (d_wt d s)) S) : wX3_weight (nI s) S Q := by
  have := hd.1.2
  unfold wX3_weight
  refine ⟨pn_in (by omega) (by decide), ?_⟩
  rw [pn_cl (by omega), (hX.2.1.2 s h).1]
  exact hQ
theorem x_way {d : dt} {s : Nat} {S : gz_S} {Q : Int32 → gz_S → Prop} (hX : d_X S d) (hd : d_ok d) (h : s < d_ns d) (hQ : Q (nI (d_wy d s)) S) : wX3_way (nI s) S Q := by
  have := hd.1.2
  unfold wX3_way
  refine ⟨pn_in (by omega) (by decide), ?_⟩
  rw [pn_cl (by omega), (hX.2.1.2 s h).2]
  exact hQ
theorem x_strength {d : dt} {p : Nat} {S : gz_S} {Q : Int32 → gz_S → Prop} (hX : d_X S d) (hd : d_ok d) (h : p < d_np d) (hQ : Q (nI (d_st d p)) S) : wX3_strength (nI p) S Q := by
  have := hd.1.1
  unfold wX3_strength
  refine ⟨pn_in (by omega) (by decide), ?_⟩
  rw [pn_cl (by omega), (hX.1.2 p h).1]
  exact hQ
theorem x_sideOf {d : dt} {p : Nat} {S : gz_S} {Q : Int32 → gz_S → Prop} (hX : d_X S d) (hd : d_ok d) (h : p < d_np d) (hQ : Q (nI (d_sd d p)) S) : wX3_sideOf (nI p) S Q := by
  have := hd.1.1
  unfold wX3_sideOf
  refine ⟨pn_in (by omega) (by decide), ?_⟩
  rw [pn_cl (by omega), (hX.1.2 p h).2]
  exact hQ
theorem x_hour {d : dt} {a0 k : Nat} {S : gz_S} {s : (Nat → Nat) × (Nat → Option Nat)} {Q : Int32 → gz_S → Prop} (hd : d_ok d) (hX : d_X S d) (hk : k < d_nc d) (h2 : ∀ t, t < 9 → S (a0 + 2) t = oI (s.2 t)) (h3 : ∀ p, p < 8 → S (a0 + 3) p = nI (s.1 p)) (hb : ∀ t p, s.2 t = some p → p < 2147483648) (hl : ∀ p, s.1 p ≤ 24) (hQ : Q (oI (jh d (fun _ => false) s k)) S) : wX2_hourByLaw a0 (nI k) S Q := by
  obtain ⟨⟨x1, x2⟩, ⟨x3, x4⟩, ⟨x5, x6⟩, x7, x8⟩ := id hX
  obtain ⟨⟨o1, o2⟩, o3, o4, o5, o6, o7, o8⟩ := id hd
  have hk30 : k < 30 := by omega
  obtain ⟨c1, c2, c3⟩ := x8 k hk
  obtain ⟨b1, b2, b3⟩ := o8 k hk
  unfold wX2_hourByLaw
  refine ⟨pn_in hk30 (by decide), fun v2 e2 => ⟨pn_in hk30 (by decide), fun v3 e3 => ?_⟩⟩
  rw [pn_cl (by omega), c1] at e2
  rw [pn_cl (by omega), c2] at e3
  subst e2; subst e3
  have hN : ¬ ((fun _ : Nat => false) k = false ∧ d_cp d k < d_np d ∧ d_cs d k < d_ns d ∧ s.2 (d_cs d k) = none ∧ d_wt d (d_cs d k) ≤ d_st d (d_cp d k) ∧ s.1 (d_cp d k) + d_wy d (d_cs d k) + 1 ≤ d_hr d) → Q (-1) S := fun h => by
    have e : jh d (fun _ => false) s k = none := if_neg h
    rw [e] at hQ
    exact hQ
  refine ⟨fun c => hN (fun h => ?_), fun c => ⟨fun c2 => hN (fun h => ?_), fun c2 => ⟨pn_in b2 (by decide), fun c3 => ?_, fun c3 => hN (fun h => ?_)⟩⟩⟩
  · rw [x1, nle (by omega) (by omega)] at c
    omega
  · rw [x3, nle (by omega) (by omega)] at c2
    omega
  · rw [x1, nle (by omega) (by omega)] at c
    rw [x3, nle (by omega) (by omega)] at c2
    have hp : d_cp d k < d_np d := by omega
    have hs : d_cs d k < d_ns d := by omega
    rw [pn_cl (by omega), h2 _ b2, oI_m1 (hb _)] at c3
    obtain ⟨w1, w2, w3⟩ := o4 _ hs
    obtain ⟨w4, w5, w6⟩ := o3 _ hp
    refine x_weight hX hd hs (x_strength hX hd hp ⟨fun c4 => ⟨pn_in b1 (by decide), x_way hX hd hs (fun v4 e4 => ⟨fun c5 => hN (fun h => ?_), fun c5 => ?_⟩)⟩, fun c4 => hN (fun h => ?_)⟩)
    · have hl1 := hl (d_cp d k)
      rw [pn_cl (by omega), h3 _ b1, nI_add, nI_1] at e4
      rw [x5, e4, nlt (by omega) (by omega)] at c5
      omega
    · have hl1 := hl (d_cp d k)
      rw [pn_cl (by omega), h3 _ b1, nI_add, nI_1] at e4
      rw [x5, e4, nlt (by omega) (by omega)] at c5
      rw [nle (by omega) (by omega)] at c4
      have e : jh d (fun _ => false) s k = some (s.1 (d_cp d k) + d_wy d (d_cs d k) + 1) := if_pos ⟨rfl, hp, hs, c3, c4, by omega⟩
      rw [e] at hQ
      rw [e4]
      exact hQ
    · rw [nle (by omega) (by omega)] at c4
      omega
  · rw [pn_cl (by omega), h2 _ b2] at c3
    apply c3
    rw [h.2.2.2.1]
    rfl
/-! ===== a sorted row: where one more comes in ===== -/
theorem ins_at {f : Nat → Nat} {t m : Nat} : ∀ {l : List Nat}, l.Pairwise (fun i j => f i ≤ f j) → m ≤ l.length → (∀ i, m ≤ i → i < l.length → t < f (l.getD i 0)) → (m = 0 ∨ f (l.getD (m - 1) 0) ≤ t) → l.filter (fun j => decide (f j ≤ t)) = l.take m ∧ l.filter (fun j => !decide (f j ≤ t)) = l.drop m := by
  intro l hs hm h1 h2
  have ha : ∀ a ∈ l.take m, f a ≤ t := by
    intro a ha
    obtain ⟨i, hi, e⟩ := List.getElem_of_mem ha
    rw [List.length_take] at hi
    rw [List.getElem_take] at e
    rcases h2 with h2 | h2
    · omega
    · have hm1 : m - 1 < l.length := by omega
      rw [List.getD_eq_getElem?_getD, List.getElem?_eq_getElem hm1] at h2
      have h3 : f l[m - 1] ≤ t := h2
      rw [← e]
      by_cases hi2 : i = m - 1
      · subst hi2; exact h3
      · exact Nat.le_trans (List.pairwise_iff_getElem.mp hs i (m - 1) (by omega) hm1 (by omega)) h3
  have hb : ∀ a ∈ l.drop m, t < f a := by
    intro a ha
    obtain ⟨i, hi, e⟩ := List.getElem_of_mem ha
    rw [List.length_drop] at hi
    rw [List.getElem_drop] at e
    have h3 := h1 (m + i) (by omega) (by omega)
    rw [List.getD_eq_getElem?_getD, List.getElem?_eq_getElem (by omega)] at h3
    rw [← e]
    exact h3
  constructor
  · conv => lhs; rw [← List.take_append_drop m l]
    rw [List.filter_append, List.filter_eq_self.mpr (fun a h => by simpa using ha a h), List.filter_eq_nil_iff.mpr (fun a h => by have := hb a h; simp; omega), List.append_nil]
  · conv => lhs; rw [← List.take_append_drop m l]
    rw [List.filter_append, List.filter_eq_nil_iff.mpr (fun a h => by have := ha a h; simp; omega), List.filter_eq_self.mpr (fun a h => by have := hb a h; simp; omega), List.nil_append]
theorem ins_get {l : List Nat} {m k i : Nat} (hm : m ≤ l.length) : (l.take m ++ k :: l.drop m).getD i 0 = if i < m then l.getD i 0 else if i = m then k else l.getD (i - 1) 0 := by
  rw [List.getD_eq_getElem?_getD, List.getD_eq_getElem?_getD, List.getD_eq_getElem?_getD]
  by_cases h1 : i < m
  · rw [if_pos h1, List.getElem?_append_left (by rw [List.length_take]; omega), List.getElem?_take_of_lt h1]
  · rw [if_neg h1, List.getElem?_append_right (by rw [List.length_take]; omega), List.length_take, Nat.min_eq_left hm]
    by_cases h2 : i = m
    · subst h2
      rw [if_pos rfl, Nat.sub_self]
      rfl
    · rw [if_neg h2]
      obtain ⟨j, hj⟩ : ∃ j, i - m = j + 1 := ⟨i - m - 1, by omega⟩
      rw [hj, List.getElem?_cons_succ, List.getElem?_drop, show m + j = i - 1 by omega]
theorem x_take_lp {a0 k n t : Nat} {f : Nat → Nat} {l : List Nat} {S0 : gz_S} {Q : gz_S → Prop} (hk : k < 30) (hn : l.length = n) (hn9 : n < 9) (hl30 : ∀ i, i < n → l.getD i 0 < 30) (hf : ∀ i, i < n → S0 (a0 + 1) (l.getD i 0) = nI (f (l.getD i 0)) ∧ f (l.getD i 0) ≤ 24) (hft : S0 (a0 + 1) k = nI t) (ht : t ≤ 24) (hcnt : S0 a0 6 = nI n)
    (hQ : ∀ (m : Nat) (S2 : gz_S), m ≤ n → (∀ i, m ≤ i → i < n → t < f (l.getD i 0)) → (m = 0 ∨ f (l.getD (m - 1) 0) ≤ t) → fr (fun a j => a = a0 + 4 ∨ (a = a0 ∧ j = 6)) S0 S2 → S2 a0 6 = nI (n + 1) → (∀ i, i < n + 1 → S2 (a0 + 4) i = nI ((l.take m ++ k :: l.drop m).getD i 0)) → Q S2) :
    ∀ (m : Nat) (S : gz_S), m ≤ n → (∀ i, m ≤ i → i < n → t < f (l.getD i 0)) → fr (fun a j => a = a0 + 4) S0 S → (∀ i, i < m → S (a0 + 4) i = nI (l.getD i 0)) → (∀ i, m < i → i ≤ n → S (a0 + 4) i = nI (l.getD (i - 1) 0)) → wX2_take_48 Q (m + 1) a0 (nI k) (nI m) S := by
  have hend : ∀ (m : Nat) (S : gz_S), m ≤ n → (∀ i, m ≤ i → i < n → t < f (l.getD i 0)) → (m = 0 ∨ f (l.getD (m - 1) 0) ≤ t) → fr (fun a j => a = a0 + 4) S0 S → (∀ i, i < m → S (a0 + 4) i = nI (l.getD i 0)) → (∀ i, m < i → i ≤ n → S (a0 + 4) i = nI (l.getD (i - 1) 0)) → wX2_take_94 Q a0 (nI k) (nI m) S := by
    intro m S hm h1 h2 hfr hlo hhi
    unfold wX2_take_94
    refine ⟨pn_in (by omega) (by decide), fun S1 e1 S2 e2 => ?_⟩
    have hc1 : S1 a0 6 = nI n := by rw [e1, gz_st_n _ _ _ (by omega), hfr a0 6 (by omega), hcnt]
    refine hQ m S2 hm h1 h2 ?_ ?_ ?_
    · refine fr.tr (S1 := S1) (fr.tr (S1 := S) (hfr.mono (fun a j h => Or.inl h)) ?_) ?_
      · rw [e1]; exact fr_st (Or.inl rfl)
      · rw [e2]; exact fr_st (Or.inr ⟨rfl, rfl⟩)
    · rw [e2, gz_st_v, hc1, nI_1]
    · intro i hi
      rw [e2, gz_st_n _ _ _ (by omega), e1, pn_cl (by omega), ins_get (by omega)]
      by_cases g1 : i < m
      · rw [if_pos g1, gz_st_o _ _ _ (by omega), hlo i g1]
      · rw [if_neg g1]
        by_cases g2 : i = m
        · subst g2; rw [if_pos rfl, gz_st_v]
        · rw [if_neg g2, gz_st_o _ _ _ g2, hhi i (by omega) (by omega)]
  intro m
  induction m with
  | zero =>
    intro S hm h1 hfr hlo hhi
    unfold wX2_take_48
    refine ⟨fun _ => hend 0 S hm h1 (Or.inl rfl) hfr hlo hhi, fun c => absurd ?_ c⟩
    decide
  | succ m ih =>
    intro S hm h1 hfr hlo hhi
    unfold wX2_take_48
    have e0 : nI (m + 1) - 1 = nI m := nI_pred m
    have hm9 : m < 9 := by omega
    have hl1 := hl30 m (by omega)
    refine ⟨fun c => ?_, fun c => ?_⟩
    · exfalso
      have c' : nI (m + 1) ≤ nI 0 := c
      rw [nle (by omega) (by omega)] at c'
      omega
    · rw [e0, pn_cl (by omega)]
      rw [hlo m (by omega)]
      refine ⟨pn_in hm9 (by decide), pn_in hl1 (by decide), pn_in hk (by decide), fun c2 => ?_, fun c2 => ?_⟩
      · rw [pn_cl (by omega), pn_cl (by omega), hfr _ _ (by omega), hfr _ _ (by omega), (hf m (by omega)).1, hft, nle (by have := (hf m (by omega)).2; omega) (by omega)] at c2
        exact hend (m + 1) S hm h1 (Or.inr c2) hfr hlo hhi
      · rw [pn_cl (by omega), pn_cl (by omega), hfr _ _ (by omega), hfr _ _ (by omega), (hf m (by omega)).1, hft, nle (by have := (hf m (by omega)).2; omega) (by omega)] at c2
        refine ⟨pn_in hm9 (by decide), pn_in (by omega) (by decide), fun S2 e2 => ?_⟩
        have e3 : nI (m + 1) + (-1) = nI m := pk_m1 m
        rw [e3]
        refine ih S2 (by omega) ?_ ?_ ?_ ?_
        · intro i hi1 hi2
          by_cases g : i = m
          · subst g; omega
          · exact h1 i (by omega) hi2
        · refine fr.tr (S1 := S) hfr ?_
          rw [e2]
          exact fr_st rfl
        · intro i hi
          rw [e2, pn_cl (by omega), gz_st_o _ _ _ (by omega)]
          exact hlo i (by omega)
        · intro i hi1 hi2
          rw [e2, pn_cl (by omega)]
          by_cases g : i = m + 1
          · subst g
            rw [gz_st_v]
            rfl
          · rw [gz_st_o _ _ _ g]
            exact hhi i (by omega) hi2
