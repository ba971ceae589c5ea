/-! ===== count ===== -/
theorem od_ag {d : dt} : ∀ k, k ≤ 30 → (od d sk0 k).length + ag d sk0 k = k
  | 0, _ => rfl
  | k + 1, h => by
    have ih := od_ag (d := d) k (by omega)
    cases hl : jl d sk0 k with
    | none =>
      rw [od_none hl]
      show _ + (if sk0 k = false ∧ jl d sk0 k = none then ag d sk0 k + 1 else ag d sk0 k) = _
      rw [if_pos ⟨sk0_f (by omega), hl⟩]
      omega
    | some t =>
      rw [od_len_some hl]
      show _ + (if sk0 k = false ∧ jl d sk0 k = none then ag d sk0 k + 1 else ag d sk0 k) = _
      rw [if_neg (fun c => by rw [hl] at c; cases c.2)]
      omega
theorem one10 {x : Nat} (h : x < 10) (b : Bool) : fb_sm (fun y => if b && (x == y) then 1 else 0) 10 = if b then 1 else 0 := by
  cases b with
  | false => rw [fb_sm_cong (g := fun _ => 0) (fun k _ => by simp), fb_sm_const]; simp
  | true =>
    have : x = 0 ∨ x = 1 ∨ x = 2 ∨ x = 3 ∨ x = 4 ∨ x = 5 ∨ x = 6 ∨ x = 7 ∨ x = 8 ∨ x = 9 := by omega
    rcases this with h | h | h | h | h | h | h | h | h | h <;> subst h <;> rfl
theorem ct_part {q : Nat → Bool} {g : Nat → Nat} : ∀ {n : Nat}, (∀ j, j < n → q j = true → g j < 10) → fb_sm (fun x => fb_ct (fun j => q j && (g j == x)) n) 10 = fb_ct q n
  | 0, _ => by
    show fb_sm (fun _ => 0) 10 = 0
    rw [fb_sm_const]
  | n + 1, h => by
    have ih := ct_part (q := q) (g := g) (n := n) (fun j hj => h j (by omega))
    show fb_sm (fun x => fb_ct (fun j => q j && (g j == x)) n + (if q n && (g n == x) then 1 else 0)) 10 = _
    rw [fb_sm_add, ih, fb_ct_succ]
    congr 1
    by_cases e : q n = true
    · exact one10 (h n (by omega) e) (q n)
    · have e2 : q n = false := by cases h : q n with | true => exact absurd h e | false => rfl
      rw [e2, fb_sm_cong (g := fun _ => 0) (fun k _ => by simp), fb_sm_const]; simp
theorem lying_eq {d : dt} {s : HS} {pl : Nat → Option Nat} (hd : d_ok d) (hly : ∀ j, s.2.1 j = true → j < d_nc d ∧ d_cp d j < d_np d ∧ d_cs d j < d_ns d) (hp : pX d s pl) : fb_ct (fun t => (pl t).isSome) (d_ns d) = fb_ct s.2.1 (d_nc d) := by
  have hlt : ∀ t x, pl t = some x → x < 10 ∧ t < d_ns d := fun t x e => by
    obtain ⟨j, q1, q2, q3, q4⟩ := (hp.1 t x).mp e
    have h3 := hly j q2
    exact ⟨by rw [← q4]; exact sh_lt hd q1 h3.2.1, by rw [← q3]; exact h3.2.2⟩
  have h9 : fb_ct (fun t => (pl t).isSome) 9 = fb_ct (fun t => (pl t).isSome) (d_ns d) := by
    have h := fb_ct_split (fun t => (pl t).isSome) (d_ns d) (9 - d_ns d)
    have hns := hd.1.2
    rw [show d_ns d + (9 - d_ns d) = 9 by omega] at h
    have z : fb_ct (fun k => (pl (d_ns d + k)).isSome) (9 - d_ns d) = 0 := fb_ct_zero.mpr (fun k _ => by
      cases e : pl (d_ns d + k) with
      | none => rfl
      | some x => have := (hlt _ _ e).2; omega)
    rw [h, z]
    rfl
  rw [← h9, ← ct_part (q := fun t => (pl t).isSome) (g := fun t => (pl t).getD 0) (n := 9) (fun t _ e => ?_), ← ct_part (q := s.2.1) (g := sh d) (n := d_nc d) (fun j hj e => sh_lt hd hj (hly j e).2.1)]
  · refine fb_sm_cong (fun x _ => ?_)
    rw [← hp.2 x]
    refine fb_ct_cong (fun t _ => ?_)
    cases e : pl t with
    | none => simp
    | some z =>
      by_cases q : z = x <;> simp [q]
  · cases q : pl t with
    | none => rw [q] at e; cases e
    | some z => exact (hlt t z q).1
def lyn (d : dt) : Nat := fb_ct (hf d (qq d sk0 (d_hr d + 1))).2.1 (d_nc d)
theorem x_lying_lp {d : dt} {pl : Nat → Option Nat} {S : gz_S} {Q : Int32 → gz_S → Prop} (hd : d_ok d) (hX : d_X S d) (h22 : ∀ t, t < 9 → S 22 t = oI (pl t)) (hs : ∀ t x, pl t = some x → x < 10) (hQ : Q (nI (fb_ct (fun t => (pl t).isSome) (d_ns d))) S) : ∀ (m t : Nat), t + m = d_ns d → wX7_stonesLying_18 Q (m + 1) (nI (fb_ct (fun t => (pl t).isSome) t)) (nI t) S
  | 0, t, h1 => by
    have hns := hd.1.2
    unfold wX7_stonesLying_18
    obtain rfl : t = d_ns d := by omega
    rw [hX.2.1.1]
    exact ⟨fun _ => hQ, fun c => absurd (nI_le (Nat.le_refl _) (by omega)) c⟩
  | m + 1, t, h1 => by
    have hns := hd.1.2
    have ih := x_lying_lp hd hX h22 hs hQ m (t + 1) (by omega)
    unfold wX7_stonesLying_18 wX7_stonesLying_48
    rw [hX.2.1.1, nle (by omega) (by omega), pn_cl (by omega), h22 t (by omega), oI_m1 (fun n e => by have := hs t n e; omega)]
    refine ⟨fun c => by omega, fun _ => ⟨pn_in (by omega) (by decide), fun c => ?_, fun c => ?_⟩⟩
    · rw [nI_1]
      rw [fb_ct_succ, c] at ih
      exact ih
    · rw [nI_1, nI_1]
      rw [fb_ct_succ] at ih
      cases e : pl t with
      | none => exact absurd e c
      | some x =>
        rw [e] at ih
        exact ih
theorem x_lying {d : dt} {td : Nat → Int32} {ar : Nat → Nat} : lX wX7_stonesLying d td ar (nI (lyn d)) := fun S Q hS hQ => by
  have hb := hS.1.2.2.2.1
  unfold wX7_stonesLying
  rw [hS.2.1.2.2.1.1]
  refine x_pileUp (Or.inl rfl) hS.1 hS.2.1 hS.2.2.1 hb.2 (fun S1 hf1 hH hp => ⟨d_ns d + 1, ?_⟩)
  have hS1 := hS.keep (hf1.mono hP_X)
  have q := hQ S1 (hf1.mono hP_X)
  unfold lyn at q
  rw [← lying_eq hS.1 (fun j hj => ⟨(hf_law hj).1, (hf_law hj).2.2⟩) hp] at q
  refine x_lying_lp hS.1 hS1.2.1 (fun t ht => hH.2.1 t ht) (fun t x e => ?_) q (d_ns d) 0 (by omega)
  obtain ⟨j, q1, q2, q3, q4⟩ := (hp.1 t x).mp e
  rw [← q4]
  exact sh_lt hS.1 q1 (hf_law q2).2.2.1
theorem m_lying_lp {d : dt} {ly : Nat → Bool} {S : gz_S} {Q : Int32 → gz_S → Prop} (hd : d_ok d) (h45 : S 45 16 = nI (d_nc d)) (h64 : ∀ k, k < d_nc d → S 64 k = bI (ly k)) (hQ : Q (nI (fb_ct ly (d_nc d))) S) : ∀ (m k : Nat), k + m = d_nc d → wX8_count_103 Q (m + 1) (nI (fb_ct ly k)) (nI k) S
  | 0, k, h1 => by
    have hns := hd.2.2.2.2.2.1
    unfold wX8_count_103
    obtain rfl : k = d_nc d := by omega
    rw [h45]
    exact ⟨fun _ => hQ, fun c => absurd (nI_le (Nat.le_refl _) (by omega)) c⟩
  | m + 1, k, h1 => by
    have hns := hd.2.2.2.2.2.1
    have ih := m_lying_lp hd h45 h64 hQ m (k + 1) (by omega)
    unfold wX8_count_103 wX8_count_126
    rw [h45, nle (by omega) (by omega), pn_cl (by omega), h64 k (by omega), bI_0]
    refine ⟨fun c => by omega, fun _ => ⟨pn_in (by omega) (by decide), fun c v2 e2 => ?_, fun c v2 e2 => ?_⟩⟩
    · rw [e2, nI_1, Int32.add_zero]
      rw [fb_ct_succ, c] at ih
      exact ih
    · rw [e2, nI_1, nI_1]
      have c' : ly k = true := by cases h : ly k with | true => rfl | false => exact absurd h c
      rw [fb_ct_succ, c'] at ih
      exact ih
/-- the answer -/
def ctv (d : dt) (n0 n1 : Nat) (fd x : Int32) : Int32 :=
  if x.toInt = 0 then nI (d_np d) else if x.toInt = 1 then nI (d_ns d) else if x.toInt = 2 then nI n0 else if x.toInt = 3 then nI n1 else if x.toInt = 4 then nI (d_nc d) else if x.toInt = 5 then nI (ag d sk0 (d_nc d)) else if x.toInt = 6 then nI (lyn d) else if x.toInt = 7 then nI (d_hr d) else if x.toInt = 8 then fd else -2
theorem Rd.XS {S : gz_S} {y0 y1 : Nat → Nat} {n0 n1 : Nat} {d : dt} (h : Rd S y0 n0 y1 n1 d) : ∃ td ar, XS S d td ar := by
  obtain ⟨td, ar, h1, -⟩ := h.both
  exact ⟨td, ar, h1⟩
theorem x_count {S : gz_S} {y0 y1 : Nat → Nat} {n0 n1 : Nat} {d : dt} {x : Int32} {Q : Int32 → gz_S → Prop} (hR : Rd S y0 n0 y1 n1 d) (hQ : ∀ S', fr gX S S' → Q (ctv d n0 n1 (S 0 7) x) S') : wX7_count x S Q := by
  obtain ⟨td, ar, hS⟩ := hR.XS
  have hc := hS.1.2.2.2.2.2.1
  have q := hQ S fr_rf
  unfold wX7_count
  unfold ctv at q hQ
  refine ⟨fun h => ?_, fun h => ?_, fun h => ?_, fun h => ?_, fun h => ?_, fun h => ?_, fun h => ?_, fun h => ?_, fun h => ?_, fun h => ?_⟩
  · rw [if_neg (by omega), if_neg (by omega), if_neg (by omega), if_neg (by omega), if_neg (by omega), if_neg (by omega), if_neg (by omega), if_neg (by omega), if_neg (by omega)] at q
    exact q
  · rw [if_pos h] at q
    rw [hS.2.1.1.1]
    exact q
  · rw [if_neg (by omega), if_pos h] at q
    rw [hS.2.1.2.1.1]
    exact q
  · rw [if_neg (by omega), if_neg (by omega), if_pos h] at q
    rw [hR.1.1.2.1]
    exact q
  · rw [if_neg (by omega), if_neg (by omega), if_neg (by omega), if_pos h] at q
    rw [hR.1.2.2.1.2.1]
    exact q
  · rw [if_neg (by omega), if_neg (by omega), if_neg (by omega), if_neg (by omega), if_pos h] at q
    rw [hS.2.1.2.2.2.1]
    exact q
  · rw [if_neg (by omega), if_neg (by omega), if_neg (by omega), if_neg (by omega), if_neg (by omega), if_pos h] at q
    have e := od_ag (d := d) (d_nc d) hc
    rw [hS.2.1.2.2.2.1, hS.2.2.1.2.2.2.1, pk_sub (by omega)]
    rw [show d_nc d - (od d sk0 (d_nc d)).length = ag d sk0 (d_nc d) by omega]
    exact q
  · rw [if_neg (by omega), if_neg (by omega), if_neg (by omega), if_neg (by omega), if_neg (by omega), if_neg (by omega), if_pos h] at hQ
    exact x_lying S _ hS hQ
  · rw [if_neg (by omega), if_neg (by omega), if_neg (by omega), if_neg (by omega), if_neg (by omega), if_neg (by omega), if_neg (by omega), if_pos h] at q
    rw [hS.2.1.2.2.1.1]
    exact q
  · rw [if_neg (by omega), if_neg (by omega), if_neg (by omega), if_neg (by omega), if_neg (by omega), if_neg (by omega), if_neg (by omega), if_neg (by omega), if_pos h] at q
    exact q
theorem m_count {S : gz_S} {y0 y1 : Nat → Nat} {n0 n1 : Nat} {d : dt} {x : Int32} {Q : Int32 → gz_S → Prop} (hR : Rd S y0 n0 y1 n1 d) (hQ : ∀ S', fr gq S S' → Q (ctv d n0 n1 (S 0 7) x) S') : wX8_count x S Q := by
  have hd := hR.ok
  have hc := hd.2.2.2.2.2.1
  unfold wX8_count
  refine m_reads hR (fun S1 hf1 hM1 hR1 => m_goes hd hM1 (fun S2 hf2 hJ => ?_))
  have hfa : fr gq S S2 := hf1.tr (fr_g hf2 gP_g)
  have hR2 := hR.keep hfa
  have hM2 := hM1.goes hf2
  have q := hQ S2 hfa
  have hfd : S2 45 4 = S 0 7 := by rw [← hR2.2.2.2.2.2.2]; exact hfa 0 7 (by unfold gq; omega)
  unfold ctv at q hQ
  refine ⟨fun h => ?_, fun h => ?_, fun h => ?_, fun h => ?_, fun h => ?_, fun h => ?_, fun h => ?_, fun h => ?_, fun h => ?_, fun h => ?_⟩
  · rw [if_neg (by omega), if_neg (by omega), if_neg (by omega), if_neg (by omega), if_neg (by omega), if_neg (by omega), if_neg (by omega), if_neg (by omega), if_neg (by omega)] at q
    exact q
  · rw [if_pos h] at q
    rw [hM2.1.1]
    exact q
  · rw [if_neg (by omega), if_pos h] at q
    rw [hM2.2.1.1]
    exact q
  · rw [if_neg (by omega), if_neg (by omega), if_pos h] at q
    have e : x = 2 := by rw [pn_eq, h]; decide
    rw [e]
    refine ⟨in02, ?_⟩
    rw [show ((2 : Int32) - 2).toNatClampNeg = 0 by decide, hR2.1.2.1.1]
    exact q
  · rw [if_neg (by omega), if_neg (by omega), if_neg (by omega), if_pos h] at q
    have e : x = 3 := by rw [pn_eq, h]; decide
    rw [e]
    refine ⟨in12, ?_⟩
    rw [show ((3 : Int32) - 2).toNatClampNeg = 1 by decide, hR2.1.2.2.2.1.1]
    exact q
  · rw [if_neg (by omega), if_neg (by omega), if_neg (by omega), if_neg (by omega), if_pos h] at q
    rw [hM2.2.2.2.1]
    exact q
  · rw [if_neg (by omega), if_neg (by omega), if_neg (by omega), if_neg (by omega), if_neg (by omega), if_pos h] at q
    have e : S2 45 21 = nI (ag d sk0 (d_nc d)) := hJ.2.2.2.1
    rw [e]
    exact q
  · rw [if_neg (by omega), if_neg (by omega), if_neg (by omega), if_neg (by omega), if_neg (by omega), if_neg (by omega), if_pos h] at hQ
    unfold wX8_end
    rw [cl0, hM2.2.2.1.1]
    refine ⟨in02, m_heaps (sk := sk0) hd hM2 hd.2.2.2.1.2 hJ.1 (fun S3 hf3 hH => ⟨d_nc d + 1, ?_⟩)⟩
    exact m_lying_lp (ly := (hf d (qq d sk0 (d_hr d + 1))).2.1) hd (hM2.heaps hf3).2.2.2.1 hH.2.1 (hQ S3 (hfa.tr (fr_g hf3 kP_g))) (d_nc d) 0 (by omega)
  · rw [if_neg (by omega), if_neg (by omega), if_neg (by omega), if_neg (by omega), if_neg (by omega), if_neg (by omega), if_neg (by omega), if_pos h] at q
    rw [cl0, hM2.2.2.1.1]
    exact ⟨in02, q⟩
  · rw [if_neg (by omega), if_neg (by omega), if_neg (by omega), if_neg (by omega), if_neg (by omega), if_neg (by omega), if_neg (by omega), if_neg (by omega), if_pos h] at q
    rw [hfd]
    exact q
theorem p_count (x1 : Int32) : pr (wX7_count x1) (wX8_count x1) := by
  intro S F K ⟨y0, n0, y1, n1, d, hR⟩ hF hK
  refine x_count hR (fun S1 hf1 => hF _ ?_)
  have hR1 := hR.keep (hf1.mono gX_g)
  refine m_count hR1 (fun S2 hf2 => ?_)
  rw [hf1 0 7 (by unfold gX; omega)]
  exact hK _ S2 ⟨_, _, _, _, _, hR1.keep hf2⟩
