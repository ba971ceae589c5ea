/-- the heap a0 has judged the first k carries -/
def jX (S : gz_S) (a0 : Nat) (d : dt) (sk : Nat → Bool) (k : Nat) : Prop := (∀ j, j < k → S (a0 + 1) j = oI (jl d sk j)) ∧ (∀ t, t < 9 → S (a0 + 2) t = oI ((js d sk k).2 t)) ∧ (∀ p, p < 8 → S (a0 + 3) p = nI ((js d sk k).1 p)) ∧ S a0 6 = nI (od d sk k).length ∧ ∀ i, i < (od d sk k).length → S (a0 + 4) i = nI ((od d sk k).getD i 0)
/-- what judging by the heap a0 may change -/
def jP (a0 a j : Nat) : Prop := (a0 + 1 ≤ a ∧ a ≤ a0 + 4) ∨ (a = a0 ∧ j = 6)
theorem od_at {d : dt} {sk : Nat → Bool} {k i : Nat} (h : i < (od d sk k).length) : (od d sk k).getD i 0 < k ∧ jl d sk ((od d sk k).getD i 0) = some (jt d sk ((od d sk k).getD i 0)) := by
  have hm : (od d sk k).getD i 0 ∈ od d sk k := by
    rw [List.getD_eq_getElem?_getD, List.getElem?_eq_getElem h]
    exact List.getElem_mem h
  obtain ⟨h1, h2⟩ := (od_mem k _).mp hm
  refine ⟨h1, ?_⟩
  cases hl : jl d sk ((od d sk k).getD i 0) with
  | none => exact absurd hl h2
  | some t => rw [jt_of hl]
theorem x_take {d : dt} {sk : Nat → Bool} {a0 k t : Nat} {S : gz_S} {Q : gz_S → Prop} (ha : a0 = 16 ∨ a0 = 23) (hd : d_ok d) (hX : d_X S d) (hk : k < d_nc d) (hl : jl d sk k = some t) (hJ : jX S a0 d sk k) (hlk : S (a0 + 1) k = nI t) (hQ : ∀ S', fr (jP a0) S S' → jX S' a0 d sk (k + 1) → Q S') : wX2_take a0 (nI k) S Q := by
  obtain ⟨j1, j2, j3, j4, j5⟩ := hJ
  obtain ⟨⟨o1, o2⟩, o3, o4, o5, o6, o7, o8⟩ := id hd
  obtain ⟨c1, c2, c3⟩ := hX.2.2.2.2 k hk
  obtain ⟨b1, b2, b3⟩ := o8 k hk
  have hk30 : k < 30 := by omega
  have ht := jl_hr hl
  have hlen : (od d sk k).length < 9 := by
    have h1 := od_len (sk := sk) hd (k + 1)
    rw [od_len_some hl] at h1
    omega
  unfold wX2_take
  rw [pn_cl (by omega), c2, c1, pn_cl (by omega)]
  refine ⟨pn_in hk30 (by decide), pn_in hk30 (by decide), pn_in b2 (by decide), fun S1 e1 => ?_⟩
  have hX1 : S1 13 k = nI (d_cp d k) := by rw [e1, gz_st_n _ _ _ (by omega)]; exact c1
  rw [hX1, pn_cl (by omega)]
  have hlk1 : S1 (a0 + 1) k = nI t := by rw [e1, gz_st_n _ _ _ (by omega)]; exact hlk
  rw [hlk1]
  refine ⟨pn_in hk30 (by decide), pn_in hk30 (by decide), pn_in b1 (by decide), fun S2 e2 v2 e3 => ?_⟩
  have hc2 : S2 a0 6 = nI (od d sk k).length := by rw [e2, gz_st_n _ _ _ (by omega), e1, gz_st_n _ _ _ (by omega)]; exact j4
  have hS2 : ∀ a j, a ≠ a0 + 2 → a ≠ a0 + 3 → S2 a j = S a j := fun a j g1 g2 => by rw [e2, gz_st_n _ _ _ g2, e1, gz_st_n _ _ _ g1]
  rw [e3, hc2]
  refine ⟨(od d sk k).length + 1, x_take_lp (f := jt d sk) (t := t) (l := od d sk k) (S0 := S2) hk30 rfl hlen ?_ ?_ ?_ (by omega) hc2 ?_ (od d sk k).length S2 (Nat.le_refl _) ?_ fr_rf ?_ ?_⟩
  · intro i hi
    have := (od_at hi).1
    omega
  · intro i hi
    obtain ⟨g1, g2⟩ := od_at hi
    have g3 := jl_hr g2
    refine ⟨?_, by omega⟩
    rw [hS2 _ _ (by omega) (by omega), j1 _ g1, g2]
    rfl
  · rw [hS2 _ _ (by omega) (by omega)]; exact hlk
  · intro m S3 hm h1 h2 hfr hcnt hord
    obtain ⟨f1, f2⟩ := ins_at (od_sorted (d := d) (sk := sk) k) hm h1 h2
    have hod : od d sk (k + 1) = (od d sk k).take m ++ k :: (od d sk k).drop m := by rw [od_some hl, f1, f2]
    have hS3 : ∀ a j, a ≠ a0 + 4 → a ≠ a0 → S3 a j = S2 a j := fun a j g1 g2 => hfr a j (by omega)
    refine hQ S3 ?_ ⟨?_, ?_, ?_, ?_, ?_⟩
    · intro a j h
      unfold jP at h
      rw [hfr a j (by omega), hS2 a j (by omega) (by omega)]
    · intro j hj
      rw [hS3 _ _ (by omega) (by omega), hS2 _ _ (by omega) (by omega)]
      by_cases e : j = k
      · subst e; rw [hlk, hl]; rfl
      · exact j1 j (by omega)
    · intro s hs
      rw [hS3 _ _ (by omega) (by omega), js_some hl, e2, gz_st_n _ _ _ (by omega), e1]
      show _ = oI (if s = d_cs d k then some (d_cp d k) else (js d sk k).2 s)
      by_cases e : s = d_cs d k
      · subst e; rw [if_pos rfl, gz_st_v]; rfl
      · rw [if_neg e, gz_st_o _ _ _ e]; exact j2 s hs
    · intro p hp
      rw [hS3 _ _ (by omega) (by omega), js_some hl, e2]
      show _ = nI (if p = d_cp d k then t else (js d sk k).1 p)
      by_cases e : p = d_cp d k
      · subst e; rw [if_pos rfl, gz_st_v]
      · rw [if_neg e, gz_st_o _ _ _ e, e1, gz_st_n _ _ _ (by omega)]; exact j3 p hp
    · rw [hcnt, od_len_some hl]
    · intro i hi
      rw [od_len_some hl] at hi
      rw [hord i hi, hod]
  · intro i h1 h2
    omega
  · intro i hi
    rw [hS2 _ _ (by omega) (by omega)]
    exact j5 i hi
  · intro i h1 h2
    omega
theorem jh_sk {d : dt} {sk : Nat → Bool} {s : (Nat → Nat) × (Nat → Option Nat)} {k : Nat} (h : sk k = false) : jh d sk s k = jh d (fun _ => false) s k := by
  unfold jh
  rw [h]
theorem js_num {d : dt} {sk : Nat → Bool} (hd : d_ok d) {k t p : Nat} (hk : k ≤ d_nc d) (h : (js d sk k).2 t = some p) : p < 2147483648 := by
  obtain ⟨j, h1, -, -, h4⟩ := js_by k t p h
  have := (hd.2.2.2.2.2.2 j (by omega)).1
  omega
theorem jX_none {d : dt} {sk : Nat → Bool} {a0 k : Nat} {S : gz_S} (hl : jl d sk k = none) (hJ : jX S a0 d sk k) (hlk : S (a0 + 1) k = -1) : jX S a0 d sk (k + 1) := by
  obtain ⟨j1, j2, j3, j4, j5⟩ := hJ
  refine ⟨?_, ?_, ?_, ?_, ?_⟩
  · intro j hj
    by_cases e : j = k
    · subst e; rw [hlk, hl]; rfl
    · exact j1 j (by omega)
  · rw [js_none hl]; exact j2
  · rw [js_none hl]; exact j3
  · rw [od_none hl]; exact j4
  · rw [od_none hl]; exact j5
theorem x_judge_lp {d : dt} {a0 : Nat} {x1 : Int32} {S0 : gz_S} {Q : gz_S → Prop} (ha : a0 = 16 ∨ a0 = 23) (hd : d_ok d) (hX0 : d_X S0 d) (hQ : ∀ S', fr (jP a0) S0 S' → jX S' a0 d (fun k => decide (nI k = x1)) (d_nc d) → Q S') :
    ∀ (m k : Nat) (S : gz_S), k + m = d_nc d → fr (jP a0) S0 S → jX S a0 d (fun k => decide (nI k = x1)) k → wX2_judgeWithout_23 Q (m + 1) a0 x1 (nI k) S := by
  have hlow : ∀ S, fr (jP a0) S0 S → d_X S d := fun S h => hX0.low (fun a j h2 => h a j (by unfold jP; omega))
  have hnc := hd.2.2.2.2.2.1
  intro m
  induction m with
  | zero =>
    intro k S hk hfr hJ
    obtain rfl : k = d_nc d := by omega
    unfold wX2_judgeWithout_23
    refine ⟨fun _ => hQ S hfr hJ, fun c => absurd ?_ c⟩
    rw [(hlow S hfr).2.2.2.1]
    exact nI_le (Nat.le_refl _) (by omega)
  | succ m ih =>
    intro k S hk hfr hJ
    have hXS := hlow S hfr
    obtain ⟨j1, j2, j3, j4, j5⟩ := id hJ
    unfold wX2_judgeWithout_23
    -- behind the hour
    have hgo : ∀ o : Option Nat, jl d (fun k => decide (nI k = x1)) k = o → wX2_judgeWithout_53 (fun y0 y1 S => wX2_judgeWithout_23 Q (m + 1) a0 y0 y1 S) Q a0 (a0 + 1) x1 (nI k) (nI k) (oI o) S := by
      intro o ho
      unfold wX2_judgeWithout_53
      refine ⟨pn_in (by omega) (by decide), fun S1 e1 => ?_⟩
      rw [pn_cl (by omega)] at e1 ⊢
      have hv : S1 (a0 + 1) k = oI o := by rw [e1, gz_st_v]
      have hfr1 : fr (jP a0) S0 S1 := hfr.tr (by rw [e1]; exact fr_st (by unfold jP; omega))
      have hJ1 : jX S1 a0 d (fun k => decide (nI k = x1)) k := by
        refine ⟨fun j hj => ?_, fun s hs => ?_, fun p hp => ?_, ?_, fun i hi => ?_⟩
        · rw [e1, gz_st_o _ _ _ (by omega)]; exact j1 j hj
        · rw [e1, gz_st_n _ _ _ (by omega)]; exact j2 s hs
        · rw [e1, gz_st_n _ _ _ (by omega)]; exact j3 p hp
        · rw [e1, gz_st_n _ _ _ (by omega)]; exact j4
        · rw [e1, gz_st_n _ _ _ (by omega)]; exact j5 i hi
      refine ⟨pn_in (by omega) (by decide), fun c => ?_, fun c => ?_⟩
      · rw [hv] at c
        cases o with
        | none =>
          unfold wX2_judgeWithout_69
          rw [nI_1]
          exact ih (k + 1) S1 (by omega) hfr1 (jX_none ho hJ1 hv)
        | some t =>
          have ht := jl_hr ho
          exact absurd c (nm1 (by have := hd.2.2.2.1.2; omega))
      · rw [hv] at c
        cases o with
        | none => exact absurd rfl c
        | some t =>
          refine x_take ha hd (hlow S1 hfr1) (by omega) ho hJ1 hv (fun S2 hfr2 hJ2 => ?_)
          unfold wX2_judgeWithout_69
          rw [nI_1]
          exact ih (k + 1) S2 (by omega) (hfr1.tr hfr2) hJ2
    refine ⟨fun c => ?_, fun _ => ⟨fun c2 => ?_, fun c2 => ?_⟩⟩
    · exfalso
      rw [hXS.2.2.2.1, nle (by omega) (by omega)] at c
      omega
    · refine x_hour hd hXS (by omega) j2 j3 (fun t p h => js_num hd (by omega) h) (fun p => Nat.le_trans (js_last k p) hd.2.2.2.1.2) ?_
      refine hgo _ ?_
      exact jh_sk (by simpa using c2)
    · refine hgo none ?_
      unfold jl jh
      rw [if_neg]
      intro h
      have h1 := h.1
      simp [c2] at h1
theorem x_judge {d : dt} {a0 : Nat} {x1 : Int32} {S : gz_S} {Q : gz_S → Prop} (ha : a0 = 16 ∨ a0 = 23) (hd : d_ok d) (hX : d_X S d) (hQ : ∀ S', fr (jP a0) S S' → jX S' a0 d (fun k => decide (nI k = x1)) (d_nc d) → Q S') : wX2_judgeWithout a0 x1 S Q := by
  have n2 : gz_n (a0 + 2) = 9 := by rcases ha with rfl | rfl <;> rfl
  have n3 : gz_n (a0 + 3) = 8 := by rcases ha with rfl | rfl <;> rfl
  unfold wX2_judgeWithout
  refine w_fill n2 (by decide) (w_fill n3 (by decide) (fun S3 e3 => ?_))
  have hfr : fr (jP a0) S S3 := by
    refine fr.tr (S1 := gz_fl S (a0 + 2) 9 (-1)) (fr_fl (fun j => by unfold jP; omega)) (fr.tr (S1 := gz_fl (gz_fl S (a0 + 2) 9 (-1)) (a0 + 3) 8 0) (fr_fl (fun j => by unfold jP; omega)) ?_)
    rw [e3]
    exact fr_st (by unfold jP; omega)
  refine ⟨d_nc d + 1, x_judge_lp ha hd hX hQ (d_nc d) 0 S3 (by omega) hfr ⟨fun j hj => by omega, fun t ht => ?_, fun p hp => ?_, ?_, fun i hi => ?_⟩⟩
  · rw [e3, gz_st_n _ _ _ (by omega)]
    unfold gz_fl
    rw [gz_u_ne _ _ (by omega), gz_u_at]
    simp only [ht, if_true]
    rfl
  · rw [e3, gz_st_n _ _ _ (by omega), gz_fl_in _ _ _ _ hp]
    rfl
  · rw [e3, gz_st_v]
    rfl
  · simp [od] at hi
theorem x_judgeAll {d : dt} {a0 : Nat} {S : gz_S} {Q : gz_S → Prop} (ha : a0 = 16 ∨ a0 = 23) (hd : d_ok d) (hX : d_X S d) (hQ : ∀ S', fr (jP a0) S S' → jX S' a0 d (fun k => decide (nI k = -1)) (d_nc d) → Q S') : wX2_judgeAll a0 S Q := by
  unfold wX2_judgeAll
  exact x_judge ha hd hX hQ
