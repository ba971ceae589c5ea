/-! ===== the island as numbers ===== -/
abbrev dt : Type := (Nat × (Nat → Nat) × (Nat → Nat)) × (Nat × (Nat → Nat) × (Nat → Nat)) × (Nat × Nat) × (Nat × (Nat → Nat) × (Nat → Nat) × (Nat → Nat))
def d_np (d : dt) : Nat := d.1.1
def d_st (d : dt) : Nat → Nat := d.1.2.1
def d_sd (d : dt) : Nat → Nat := d.1.2.2
def d_ns (d : dt) : Nat := d.2.1.1
def d_wt (d : dt) : Nat → Nat := d.2.1.2.1
def d_wy (d : dt) : Nat → Nat := d.2.1.2.2
def d_hr (d : dt) : Nat := d.2.2.1.1
def d_ld (d : dt) : Nat := d.2.2.1.2
def d_nc (d : dt) : Nat := d.2.2.2.1
def d_cp (d : dt) : Nat → Nat := d.2.2.2.2.1
def d_cs (d : dt) : Nat → Nat := d.2.2.2.2.2.1
def d_ca (d : dt) : Nat → Nat := d.2.2.2.2.2.2
def d_ok (d : dt) : Prop := (d_np d ≤ 8 ∧ d_ns d ≤ 9) ∧ (∀ p, p < d_np d → 1 ≤ d_st d p ∧ d_st d p ≤ 9 ∧ d_sd d p ≤ 1) ∧ (∀ s, s < d_ns d → 1 ≤ d_wt d s ∧ d_wt d s ≤ 9 ∧ d_wy d s ≤ 9) ∧ (1 ≤ d_hr d ∧ d_hr d ≤ 24) ∧ (1 ≤ d_ld d ∧ d_ld d ≤ 99) ∧ d_nc d ≤ 30 ∧ (∀ k, k < d_nc d → d_cp d k < 8 ∧ d_cs d k < 9 ∧ 1 ≤ d_ca d k ∧ d_ca d k ≤ 5)
/-- where the system has them -/
def d_X (S : gz_S) (d : dt) : Prop := (S 2 7 = nI (d_np d) ∧ ∀ p, p < d_np d → S 4 p = nI (d_st d p) ∧ S 5 p = nI (d_sd d p)) ∧ (S 6 7 = nI (d_ns d) ∧ ∀ s, s < d_ns d → S 8 s = nI (d_wt d s) ∧ S 9 s = nI (d_wy d s)) ∧ (S 1 4 = nI (d_hr d) ∧ S 1 5 = nI (d_ld d)) ∧ S 12 3 = nI (d_nc d) ∧ ∀ k, k < d_nc d → S 13 k = nI (d_cp d k) ∧ S 14 k = nI (d_cs d k) ∧ S 15 k = nI (d_ca d k)
/-- where the other has them, once it has read its texts -/
def d_M (S : gz_S) (d : dt) : Prop := (S 45 7 = nI (d_np d) ∧ ∀ p, p < d_np d → S 52 p = nI (d_st d p) ∧ S 53 p = nI (d_sd d p)) ∧ (S 45 10 = nI (d_ns d) ∧ ∀ s, s < d_ns d → S 54 s = nI (d_wt d s) ∧ S 55 s = nI (d_wy d s)) ∧ (S 56 0 = nI (d_hr d) ∧ S 56 1 = nI (d_ld d)) ∧ S 45 16 = nI (d_nc d) ∧ ∀ k, k < d_nc d → S 59 (3 * k) = nI (d_cp d k) ∧ S 59 (3 * k + 1) = nI (d_cs d k) ∧ S 59 (3 * k + 2) = nI (d_ca d k)
/-! ===== the law of carrying ===== -/
/-- the hour at which carry k is laid, after the state s; none: it is against the law (or left out) -/
def jh (d : dt) (sk : Nat → Bool) (s : (Nat → Nat) × (Nat → Option Nat)) (k : Nat) : Option Nat :=
  if sk k = false ∧ d_cp d k < d_np d ∧ d_cs d k < d_ns d ∧ s.2 (d_cs d k) = none ∧ d_wt d (d_cs d k) ≤ d_st d (d_cp d k) ∧ s.1 (d_cp d k) + d_wy d (d_cs d k) + 1 ≤ d_hr d then some (s.1 (d_cp d k) + d_wy d (d_cs d k) + 1) else none
/-- before carry k: when each one is free, who has carried each stone -/
def js (d : dt) (sk : Nat → Bool) : Nat → (Nat → Nat) × (Nat → Option Nat)
  | 0 => (fun _ => 0, fun _ => none)
  | k + 1 => match jh d sk (js d sk k) k with
    | none => js d sk k
    | some h => (fun p => if p = d_cp d k then h else (js d sk k).1 p, fun s => if s = d_cs d k then some (d_cp d k) else (js d sk k).2 s)
def jl (d : dt) (sk : Nat → Bool) (k : Nat) : Option Nat := jh d sk (js d sk k) k
def jt (d : dt) (sk : Nat → Bool) (k : Nat) : Nat := (jl d sk k).getD 0
/-- the lawful ones of the first k, by the hour (like ones as they were told) -/
def od (d : dt) (sk : Nat → Bool) : Nat → List Nat
  | 0 => []
  | k + 1 => match jl d sk k with
    | none => od d sk k
    | some t => (od d sk k).filter (fun j => decide (jt d sk j ≤ t)) ++ k :: (od d sk k).filter (fun j => !decide (jt d sk j ≤ t))
theorem js_none {d : dt} {sk : Nat → Bool} {k : Nat} (h : jl d sk k = none) : js d sk (k + 1) = js d sk k := by
  have h' : jh d sk (js d sk k) k = none := h
  show (match jh d sk (js d sk k) k with | none => js d sk k | some h => _) = _
  rw [h']
theorem js_some {d : dt} {sk : Nat → Bool} {k t : Nat} (h : jl d sk k = some t) : js d sk (k + 1) = (fun p => if p = d_cp d k then t else (js d sk k).1 p, fun s => if s = d_cs d k then some (d_cp d k) else (js d sk k).2 s) := by
  have h' : jh d sk (js d sk k) k = some t := h
  show (match jh d sk (js d sk k) k with | none => js d sk k | some h => _) = _
  rw [h']
theorem od_none {d : dt} {sk : Nat → Bool} {k : Nat} (h : jl d sk k = none) : od d sk (k + 1) = od d sk k := by
  show (match jl d sk k with | none => od d sk k | some t => _) = _
  rw [h]
theorem od_some {d : dt} {sk : Nat → Bool} {k t : Nat} (h : jl d sk k = some t) : od d sk (k + 1) = (od d sk k).filter (fun j => decide (jt d sk j ≤ t)) ++ k :: (od d sk k).filter (fun j => !decide (jt d sk j ≤ t)) := by
  show (match jl d sk k with | none => od d sk k | some t => _) = _
  rw [h]
theorem jl_iff {d : dt} {sk : Nat → Bool} {k t : Nat} : jl d sk k = some t ↔ (sk k = false ∧ d_cp d k < d_np d ∧ d_cs d k < d_ns d ∧ (js d sk k).2 (d_cs d k) = none ∧ d_wt d (d_cs d k) ≤ d_st d (d_cp d k) ∧ (js d sk k).1 (d_cp d k) + d_wy d (d_cs d k) + 1 ≤ d_hr d) ∧ t = (js d sk k).1 (d_cp d k) + d_wy d (d_cs d k) + 1 := by
  unfold jl jh
  split
  next h => exact ⟨fun e => ⟨h, (Option.some.inj e).symm⟩, fun e => by rw [e.2]⟩
  next h => exact ⟨fun e => (by cases e), fun e => absurd e.1 h⟩
theorem jl_hr {d : dt} {sk : Nat → Bool} {k t : Nat} (h : jl d sk k = some t) : 1 ≤ t ∧ t ≤ d_hr d := by
  have h1 := jl_iff.mp h
  omega
theorem jt_of {d : dt} {sk : Nat → Bool} {k t : Nat} (h : jl d sk k = some t) : jt d sk k = t := by unfold jt; rw [h]; rfl
theorem js_last {d : dt} {sk : Nat → Bool} : ∀ (k p : Nat), (js d sk k).1 p ≤ d_hr d
  | 0, p => Nat.zero_le _
  | k + 1, p => by
    cases h : jl d sk k with
    | none => rw [js_none h]; exact js_last k p
    | some t =>
      rw [js_some h]
      show (if p = d_cp d k then t else (js d sk k).1 p) ≤ _
      split
      · exact (jl_hr h).2
      · exact js_last k p
/-- a stone is carried: by a lawful carry before -/
theorem js_by {d : dt} {sk : Nat → Bool} : ∀ (k s p : Nat), (js d sk k).2 s = some p → ∃ j, j < k ∧ jl d sk j ≠ none ∧ d_cs d j = s ∧ d_cp d j = p
  | 0, s, p, h => by cases h
  | k + 1, s, p, h => by
    cases hl : jl d sk k with
    | none =>
      rw [js_none hl] at h
      obtain ⟨j, h1, h2⟩ := js_by k s p h
      exact ⟨j, by omega, h2⟩
    | some t =>
      rw [js_some hl] at h
      have h' : (if s = d_cs d k then some (d_cp d k) else (js d sk k).2 s) = some p := h
      by_cases e : s = d_cs d k
      · rw [if_pos e] at h'
        exact ⟨k, by omega, by rw [hl]; simp, e.symm, Option.some.inj h'⟩
      · rw [if_neg e] at h'
        obtain ⟨j, h1, h2⟩ := js_by k s p h'
        exact ⟨j, by omega, h2⟩
theorem js_has {d : dt} {sk : Nat → Bool} : ∀ (k j : Nat), j < k → jl d sk j ≠ none → (js d sk k).2 (d_cs d j) ≠ none
  | 0, j, h, _ => by omega
  | k + 1, j, h, hj => by
    cases hl : jl d sk k with
    | none =>
      rw [js_none hl]
      have : j ≠ k := fun e => hj (e ▸ hl)
      exact js_has k j (by omega) hj
    | some t =>
      rw [js_some hl]
      show (if d_cs d j = d_cs d k then some (d_cp d k) else (js d sk k).2 (d_cs d j)) ≠ none
      by_cases e : d_cs d j = d_cs d k
      · rw [if_pos e]; simp
      · rw [if_neg e]
        have : j ≠ k := fun e2 => e (by rw [e2])
        exact js_has k j (by omega) hj
/-- lawful carries are of different stones -/
theorem jl_apart {d : dt} {sk : Nat → Bool} {i j : Nat} (h : i < j) (hi : jl d sk i ≠ none) (hj : jl d sk j ≠ none) : d_cs d i ≠ d_cs d j := by
  intro e
  cases hl : jl d sk j with
  | none => exact hj hl
  | some t =>
    have h1 := (jl_iff.mp hl).1.2.2.2.1
    rw [← e] at h1
    exact js_has j i h hi h1
theorem js_by_of {d : dt} {sk : Nat → Bool} : ∀ (k j : Nat), j < k → jl d sk j ≠ none → (js d sk k).2 (d_cs d j) = some (d_cp d j)
  | 0, j, h, _ => by omega
  | k + 1, j, h, hj => by
    cases hl : jl d sk k with
    | none =>
      rw [js_none hl]
      have : j ≠ k := fun e => hj (e ▸ hl)
      exact js_by_of k j (by omega) hj
    | some t =>
      rw [js_some hl]
      show (if d_cs d j = d_cs d k then some (d_cp d k) else (js d sk k).2 (d_cs d j)) = _
      by_cases e : j = k
      · subst e; rw [if_pos rfl]
      · have h2 : d_cs d j ≠ d_cs d k := jl_apart (by omega) hj (by rw [hl]; simp)
        rw [if_neg h2]
        exact js_by_of k j (by omega) hj
/-! ===== the order ===== -/
theorem od_mem {d : dt} {sk : Nat → Bool} : ∀ (k j : Nat), j ∈ od d sk k ↔ j < k ∧ jl d sk j ≠ none
  | 0, j => by simp [od]
  | k + 1, j => by
    cases hl : jl d sk k with
    | none =>
      rw [od_none hl, od_mem k j]
      constructor
      · exact fun h => ⟨by omega, h.2⟩
      · intro h
        have : j ≠ k := fun e => h.2 (e ▸ hl)
        exact ⟨by omega, h.2⟩
    | some t =>
      rw [od_some hl, List.mem_append, List.mem_cons, List.mem_filter, List.mem_filter, od_mem k j]
      constructor
      · rintro (⟨h, -⟩ | h | ⟨h, -⟩)
        · exact ⟨by omega, h.2⟩
        · subst h; exact ⟨by omega, by rw [hl]; simp⟩
        · exact ⟨by omega, h.2⟩
      · intro h
        by_cases e : j = k
        · exact Or.inr (Or.inl e)
        · by_cases h2 : jt d sk j ≤ t
          · exact Or.inl ⟨⟨by omega, h.2⟩, by simpa using h2⟩
          · exact Or.inr (Or.inr ⟨⟨by omega, h.2⟩, by simpa using h2⟩)
theorem od_nodup {d : dt} {sk : Nat → Bool} : ∀ (k : Nat), (od d sk k).Nodup
  | 0 => List.nodup_nil
  | k + 1 => by
    cases hl : jl d sk k with
    | none => rw [od_none hl]; exact od_nodup k
    | some t =>
      rw [od_some hl]
      have h1 := od_nodup (d := d) (sk := sk) k
      have hk : ∀ P : Nat → Bool, k ∉ (od d sk k).filter P := fun P h => by
        have := (od_mem k k).mp (List.mem_filter.mp h).1
        omega
      refine List.nodup_append.mpr ⟨h1.filter _, List.nodup_cons.mpr ⟨hk _, h1.filter _⟩, ?_⟩
      intro a ha b hb e
      subst e
      rcases List.mem_cons.mp hb with h | h
      · subst h; exact hk _ ha
      · have q1 := (List.mem_filter.mp ha).2
        have q2 := (List.mem_filter.mp h).2
        simp at q1 q2
        omega
/-- sorted by the hour -/
theorem od_sorted {d : dt} {sk : Nat → Bool} : ∀ (k : Nat), (od d sk k).Pairwise (fun i j => jt d sk i ≤ jt d sk j)
  | 0 => List.Pairwise.nil
  | k + 1 => by
    cases hl : jl d sk k with
    | none => rw [od_none hl]; exact od_sorted k
    | some t =>
      rw [od_some hl]
      have h1 := od_sorted (d := d) (sk := sk) k
      have ht := jt_of hl
      refine List.pairwise_append.mpr ⟨h1.filter _, List.pairwise_cons.mpr ⟨?_, h1.filter _⟩, ?_⟩
      · intro a ha
        have q := (List.mem_filter.mp ha).2
        simp at q
        omega
      · intro a ha b hb
        have q := (List.mem_filter.mp ha).2
        simp at q
        rcases List.mem_cons.mp hb with h | h
        · subst h; omega
        · have q2 := (List.mem_filter.mp h).2
          simp at q2
          omega
theorem fl_len (P : Nat → Bool) : ∀ l : List Nat, (l.filter P).length + (l.filter (fun j => !P j)).length = l.length
  | [] => rfl
  | a :: l => by
    have ih := fl_len P l
    cases h : P a with
    | true =>
      rw [List.filter_cons_of_pos h, List.filter_cons_of_neg (by simp [h]), List.length_cons, List.length_cons]
      omega
    | false =>
      rw [List.filter_cons_of_neg (by simp [h]), List.filter_cons_of_pos (by simp [h]), List.length_cons, List.length_cons]
      omega
theorem od_len_some {d : dt} {sk : Nat → Bool} {k t : Nat} (h : jl d sk k = some t) : (od d sk (k + 1)).length = (od d sk k).length + 1 := by
  rw [od_some h, List.length_append, List.length_cons]
  have := fl_len (fun j => decide (jt d sk j ≤ t)) (od d sk k)
  omega
theorem od_len {d : dt} {sk : Nat → Bool} (hd : d_ok d) (k : Nat) : (od d sk k).length ≤ 9 := by
  have h := fb_holes (d_ns d) (od d sk k).length (fun i => d_cs d ((od d sk k).getD i 0)) ?_ ?_
  · have := hd.1.2; omega
  · intro i hi
    have hm : (od d sk k).getD i 0 ∈ od d sk k := by
      rw [List.getD_eq_getElem?_getD, List.getElem?_eq_getElem hi]
      exact List.getElem_mem hi
    have h2 := ((od_mem k _).mp hm).2
    cases hl : jl d sk ((od d sk k).getD i 0) with
    | none => exact absurd hl h2
    | some t => exact (jl_iff.mp hl).1.2.2.1
  · intro i j hij hj
    have e : ∀ i, i < (od d sk k).length → (od d sk k).getD i 0 = (od d sk k)[i]! := fun i hi => by
      rw [List.getD_eq_getElem?_getD, List.getElem?_eq_getElem hi, getElem!_pos (od d sk k) i hi]
      rfl
    have hn := od_nodup (d := d) (sk := sk) k
    have hne : (od d sk k)[i]'(by omega) ≠ (od d sk k)[j]'hj := fun q => by
      have := (List.getElem_inj hn).mp q
      omega
    have g1 : (od d sk k).getD i 0 = (od d sk k)[i]'(by omega) := by
      rw [List.getD_eq_getElem?_getD, List.getElem?_eq_getElem (by omega)]; rfl
    have g2 : (od d sk k).getD j 0 = (od d sk k)[j]'hj := by
      rw [List.getD_eq_getElem?_getD, List.getElem?_eq_getElem hj]; rfl
    show d_cs d ((od d sk k).getD i 0) ≠ d_cs d ((od d sk k).getD j 0)
    rw [g1, g2]
    have m1 := ((od_mem k _).mp (List.getElem_mem (show i < (od d sk k).length by omega))).2
    have m2 := ((od_mem k _).mp (List.getElem_mem hj)).2
    rcases Nat.lt_or_gt_of_ne hne with h | h
    · exact jl_apart h m1 m2
    · exact (jl_apart h m2 m1).symm
