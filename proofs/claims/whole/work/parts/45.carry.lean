/-! ===== set ===== -/
theorem js_ld {d : dt} {v : Nat} {sk : Nat → Bool} : ∀ k, js (d.1, d.2.1, (d_hr d, v), d.2.2.2) sk k = js d sk k
  | 0 => rfl
  | k + 1 => by
    have ih := js_ld (d := d) (v := v) (sk := sk) k
    have e : jh (d.1, d.2.1, (d_hr d, v), d.2.2.2) sk (js d sk k) k = jh d sk (js d sk k) k := rfl
    unfold js
    rw [ih, e]
    rfl
theorem jl_ld {d : dt} {v : Nat} {sk : Nat → Bool} (k : Nat) : jl (d.1, d.2.1, (d_hr d, v), d.2.2.2) sk k = jl d sk k := by
  unfold jl
  rw [js_ld]
  rfl
theorem od_ld {d : dt} {v : Nat} {sk : Nat → Bool} : ∀ k, od (d.1, d.2.1, (d_hr d, v), d.2.2.2) sk k = od d sk k
  | 0 => rfl
  | k + 1 => by
    have ih := od_ld (d := d) (v := v) (sk := sk) k
    have e : ∀ j, jt (d.1, d.2.1, (d_hr d, v), d.2.2.2) sk j = jt d sk j := fun j => by unfold jt; rw [jl_ld]
    unfold od
    rw [ih, jl_ld]
    simp only [e]
theorem jX_ld {S : gz_S} {d : dt} {v k : Nat} {sk : Nat → Bool} {a0 : Nat} (h : jX S a0 d sk k) : jX S a0 (d.1, d.2.1, (d_hr d, v), d.2.2.2) sk k := by
  obtain ⟨h1, h2, h3, h4, h5⟩ := h
  refine ⟨fun j hj => ?_, fun t ht => ?_, fun p hp => ?_, ?_, fun i hi => ?_⟩
  · rw [jl_ld]; exact h1 j hj
  · rw [js_ld]; exact h2 t ht
  · rw [js_ld]; exact h3 p hp
  · rw [od_ld]; exact h4
  · rw [od_ld] at hi ⊢; exact h5 i hi
theorem p_set (x1 x2 : Int32) : pr (wX7_set x1 x2) (wX8_set x1 x2) := by
  intro S F K ⟨y0, n0, y1, n1, d, hR⟩ hF hK
  unfold wX7_set wX8_set
  by_cases g1 : 0 ≤ x1 ∧ x1 ≤ 1
  · refine w_within (fun _ _ => ⟨fun c => absurd c n10, fun _ => ?_⟩) (fun g => absurd g1 g)
    unfold wX7_set_22 wX7_set_52
    rcases two g1 with rfl | rfl
    · refine ⟨fun c => absurd rfl c, fun _ => ?_⟩
      by_cases g2 : 1 ≤ x2 ∧ x2 ≤ 24
      · obtain ⟨v, hv1, hv2, rfl⟩ := pn_rng1 (hi := 24) (by decide) g2.1 g2.2
        refine w_within (fun _ _ => ⟨fun _ => ⟨fun c => absurd rfl c, fun _ => ⟨fun c => absurd rfl c, fun _ S1 e1 => ?_⟩⟩, fun c => absurd c n10⟩) (fun g => absurd g2 g)
        have hf1 : fr (fun a j => a = 1 ∧ j = 4) S S1 := by rw [e1]; exact fr_st ⟨rfl, rfl⟩
        have ha : AX S1 y0 n0 y1 n1 (d.1, d.2.1, (v, d_ld d), d.2.2.2) := by
          obtain ⟨t0, t1, ⟨a1, a2⟩, a3, a4⟩ := hR.ax
          refine ⟨t0.keep (fun c j hc => hf1 c j (by omega)), t1.keep (fun c j hc => hf1 c j (by omega)), ⟨?_, ?_⟩, ?_, fun k hk => ⟨?_, ?_, ?_⟩⟩
          · rw [e1, gz_st_v]; rfl
          · rw [hf1 _ _ (by omega)]; exact a2
          · rw [hf1 _ _ (by omega)]; exact a3
          · rw [hf1 _ _ (by omega)]; exact (a4 k hk).1
          · rw [hf1 _ _ (by omega)]; exact (a4 k hk).2.1
          · rw [hf1 _ _ (by omega)]; exact (a4 k hk).2.2
        have he : AE y0 n0 y1 n1 (d.1, d.2.1, (v, d_ld d), d.2.2.2) := ⟨hR.ae.1, hR.ae.2.1, ⟨hv1, hv2⟩, hR.ae.2.2.2⟩
        refine x_rej ha he (fun S2 hf2 ha2 hj2 => hF _ ?_)
        have hm2 : AM S2 y0 n0 y1 n1 d := hR.am.keep (fun c j hc => by rw [hf2 _ _ (by unfold jP; omega), hf1 _ _ (by omega)])
        refine w_isTwo (fun _ _ => ⟨fun c => absurd c n10, fun _ => ⟨fun c => absurd rfl c, fun _ => ?_⟩⟩) (fun g => absurd g1 g)
        unfold wX8_set_23
        refine w_in (lo := 1) (hi := 24) (by decide) (by decide) (fun _ _ => ⟨fun _ => ⟨in02, fun v3 e3 => ⟨in02, fun S3 e => ?_⟩⟩, fun c => absurd c n10⟩) (fun g => absurd g2 g)
        rw [cl0] at e3 e
        have hv : v3 = S 1 4 := by rw [e3, hm2.2.2.1.1, hR.ax.2.2.1.1]
        have hf3 : fr (fun a j => a = 56 ∧ j = 0) S2 S3 := by rw [e]; exact fr_st ⟨rfl, rfl⟩
        rw [hv]
        refine hK _ S3 (mkR ha2 hj2 ⟨hm2.1.keep (fun c j hc => hf3 c j (by omega)), hm2.2.1.keep (fun c j hc => hf3 c j (by omega)), ⟨?_, ?_⟩, ?_, fun k hk => ⟨?_, ?_, ?_⟩⟩ he (hR.2.2.2.keep (fun c j hc => by rw [hf3 _ _ (by omega), hf2 _ _ (by unfold jP; omega), hf1 _ _ (by omega)])) (fun c j hc => hf3 c j (by omega)))
        · rw [e, gz_st_v]; rfl
        · rw [hf3 _ _ (by omega)]; exact hm2.2.2.1.2
        · rw [hf3 _ _ (by omega)]; exact hm2.2.2.2.1
        · rw [hf3 _ _ (by omega)]; exact (hm2.2.2.2.2 k hk).1
        · rw [hf3 _ _ (by omega)]; exact (hm2.2.2.2.2 k hk).2.1
        · rw [hf3 _ _ (by omega)]; exact (hm2.2.2.2.2 k hk).2.2
      · unfold wX8_set_23
        exact w_within (fun a b => absurd ⟨a, b⟩ g2) (fun _ => ⟨fun c => absurd rfl c, fun _ => hF _ (w_isTwo (fun _ _ => ⟨fun c => absurd c n10, fun _ => ⟨fun c => absurd rfl c, fun _ => w_in (lo := 1) (hi := 24) (by decide) (by decide) (fun a b => absurd ⟨a, b⟩ g2) (fun _ => ⟨fun c => absurd rfl c, fun _ => hK _ S ⟨_, _, _, _, _, hR⟩⟩)⟩⟩) (fun g => absurd g1 g))⟩)
    · refine ⟨fun _ => ?_, fun c => absurd c n10⟩
      by_cases g2 : 1 ≤ x2 ∧ x2 ≤ 99
      · obtain ⟨v, hv1, hv2, rfl⟩ := pn_rng1 (hi := 99) (by decide) g2.1 g2.2
        refine w_within (fun _ _ => ⟨fun _ => ⟨fun _ => ⟨fun _ S1 e1 => hF _ ?_, fun c => absurd c n10⟩, fun c => absurd c n10⟩, fun c => absurd c n10⟩) (fun g => absurd g2 g)
        have hf1 : fr (fun a j => a = 1 ∧ j = 5) S S1 := by rw [e1]; exact fr_st ⟨rfl, rfl⟩
        have ha : AX S1 y0 n0 y1 n1 (d.1, d.2.1, (d_hr d, v), d.2.2.2) := by
          obtain ⟨t0, t1, ⟨a1, a2⟩, a3, a4⟩ := hR.ax
          refine ⟨t0.keep (fun c j hc => hf1 c j (by omega)), t1.keep (fun c j hc => hf1 c j (by omega)), ⟨?_, ?_⟩, ?_, fun k hk => ⟨?_, ?_, ?_⟩⟩
          · rw [hf1 _ _ (by omega)]; exact a1
          · rw [e1, gz_st_v]; rfl
          · rw [hf1 _ _ (by omega)]; exact a3
          · rw [hf1 _ _ (by omega)]; exact (a4 k hk).1
          · rw [hf1 _ _ (by omega)]; exact (a4 k hk).2.1
          · rw [hf1 _ _ (by omega)]; exact (a4 k hk).2.2
        have he : AE y0 n0 y1 n1 (d.1, d.2.1, (d_hr d, v), d.2.2.2) := ⟨hR.ae.1, hR.ae.2.1, hR.ae.2.2.1, ⟨hv1, hv2⟩, hR.ae.2.2.2.2⟩
        have hj1 : jX S1 16 (d.1, d.2.1, (d_hr d, v), d.2.2.2) sk0 (d_nc d) := jX_ld (hR.2.2.1.keep (fun c j hc => hf1 c j (by omega)))
        have hm2 : AM S1 y0 n0 y1 n1 d := hR.am.keep (fun c j hc => hf1 _ _ (by omega))
        refine w_isTwo (fun _ _ => ⟨fun c => absurd c n10, fun _ => ⟨fun _ => ?_, fun c => absurd c n10⟩⟩) (fun g => absurd g1 g)
        unfold wX8_set_23
        refine w_in (lo := 1) (hi := 99) (by decide) (by decide) (fun _ _ => ⟨fun _ => ⟨in12, fun v3 e3 => ⟨in12, fun S3 e => ?_⟩⟩, fun c => absurd c n10⟩) (fun g => absurd g2 g)
        rw [cl1] at e3 e
        have hv : v3 = S 1 5 := by rw [e3, hm2.2.2.1.2, hR.ax.2.2.1.2]
        have hf3 : fr (fun a j => a = 56 ∧ j = 1) S1 S3 := by rw [e]; exact fr_st ⟨rfl, rfl⟩
        rw [hv]
        refine hK _ S3 (mkR ha hj1 ⟨hm2.1.keep (fun c j hc => hf3 c j (by omega)), hm2.2.1.keep (fun c j hc => hf3 c j (by omega)), ⟨?_, ?_⟩, ?_, fun k hk => ⟨?_, ?_, ?_⟩⟩ he (hR.2.2.2.keep (fun c j hc => by rw [hf3 _ _ (by omega), hf1 _ _ (by omega)])) (fun c j hc => hf3 c j (by omega)))
        · rw [hf3 _ _ (by omega)]; exact hm2.2.2.1.1
        · rw [e, gz_st_v]; rfl
        · rw [hf3 _ _ (by omega)]; exact hm2.2.2.2.1
        · rw [hf3 _ _ (by omega)]; exact (hm2.2.2.2.2 k hk).1
        · rw [hf3 _ _ (by omega)]; exact (hm2.2.2.2.2 k hk).2.1
        · rw [hf3 _ _ (by omega)]; exact (hm2.2.2.2.2 k hk).2.2
      · unfold wX8_set_23
        exact w_within (fun a b => absurd ⟨a, b⟩ g2) (fun _ => ⟨fun c => absurd rfl c, fun _ => hF _ (w_isTwo (fun _ _ => ⟨fun c => absurd c n10, fun _ => ⟨fun _ => w_in (lo := 1) (hi := 99) (by decide) (by decide) (fun a b => absurd ⟨a, b⟩ g2) (fun _ => ⟨fun c => absurd rfl c, fun _ => hK _ S ⟨_, _, _, _, _, hR⟩⟩), fun c => absurd c n10⟩⟩) (fun g => absurd g1 g))⟩)
  · exact w_within (fun a b => absurd ⟨a, b⟩ g1) (fun _ => ⟨fun _ => hF _ (w_isTwo (fun a b => absurd ⟨a, b⟩ g1) (fun _ => ⟨fun _ => hK _ S ⟨_, _, _, _, _, hR⟩, fun c => absurd rfl c⟩)), fun c => absurd rfl c⟩)
/-! ===== carry ===== -/
def d_add (d : dt) (p s a : Nat) : dt := (d.1, d.2.1, d.2.2.1, (d_nc d + 1, yw (d_cp d) (d_nc d) p, yw (d_cs d) (d_nc d) s, yw (d_ca d) (d_nc d) a))
abbrev tld (x1 x2 x3 : Int32) : Prop := (0 ≤ x1 ∧ x1 ≤ 7) ∧ (0 ≤ x2 ∧ x2 ≤ 8) ∧ (1 ≤ x3 ∧ x3 ≤ 5)
theorem tld_n {x1 x2 x3 : Int32} (h : tld x1 x2 x3) : ∃ p s a : Nat, p < 8 ∧ s < 9 ∧ 1 ≤ a ∧ a ≤ 5 ∧ x1 = nI p ∧ x2 = nI s ∧ x3 = nI a := by
  obtain ⟨p, hp, e1⟩ := pn_rng (hi := 7) (by decide) h.1.1 h.1.2
  obtain ⟨s, hs, e2⟩ := pn_rng (hi := 8) (by decide) h.2.1.1 h.2.1.2
  obtain ⟨a, ha1, ha2, e3⟩ := pn_rng1 (hi := 5) (by decide) h.2.2.1 h.2.2.2
  exact ⟨p, s, a, by omega, by omega, ha1, ha2, e1, e2, e3⟩
theorem rB_add {d : dt} {p s a : Nat} (h : rB d) (hn : d_nc d < 30) (hp : p < 8) (hs : s < 9) (ha : 1 ≤ a ∧ a ≤ 5) : rB (d_add d p s a) := by
  obtain ⟨h1, h2, h3, h4⟩ := h
  refine ⟨h1, h2, hn, fun k hk => ?_⟩
  show yw (d_cp d) (d_nc d) p k < 8 ∧ yw (d_cs d) (d_nc d) s k < 9 ∧ 1 ≤ yw (d_ca d) (d_nc d) a k ∧ yw (d_ca d) (d_nc d) a k ≤ 5
  have hk' : k < d_nc d + 1 := hk
  unfold yw
  by_cases e : k = d_nc d
  · rw [if_pos e, if_pos e, if_pos e]; exact ⟨hp, hs, ha⟩
  · rw [if_neg e, if_neg e, if_neg e]; exact h4 k (by omega)
theorem AE.add {y0 y1 : Nat → Nat} {n0 n1 : Nat} {d : dt} {p s a : Nat} (h : AE y0 n0 y1 n1 d) (hn : d_nc d < 30) (hp : p < 8) (hs : s < 9) (ha : 1 ≤ a ∧ a ≤ 5) : AE y0 n0 y1 n1 (d_add d p s a) := ⟨h.1, h.2.1, rB_add h.2.2 hn hp hs ha⟩
theorem x_add {S : gz_S} {d : dt} {p s a : Nat} {Q : gz_S → Prop} (h : cX S d) (hn : d_nc d < 30) (hQ : ∀ S', fr (fun c _ => 12 ≤ c ∧ c ≤ 15) S S' → cX S' (d_add d p s a) → Q S') : wX1_append (nI p) (nI s) (nI a) S Q := by
  obtain ⟨⟨h1, h2⟩, h3, h4⟩ := h
  unfold wX1_append
  rw [h3, pn_cl (by omega)]
  refine ⟨pn_in (by omega) (by decide), fun S9 e9 => ?_⟩
  have f9 : fr (fun c j => c = 13 ∧ j = d_nc d) S S9 := by rw [e9]; exact fr_st ⟨rfl, rfl⟩
  have a9 : S9 12 3 = nI (d_nc d) := by rw [f9 _ _ (by omega)]; exact h3
  rw [a9, pn_cl (by omega)]
  refine ⟨pn_in (by omega) (by decide), fun S19 e19 => ?_⟩
  have f19 : fr (fun c j => c = 14 ∧ j = d_nc d) S9 S19 := by rw [e19]; exact fr_st ⟨rfl, rfl⟩
  have a19 : S19 12 3 = nI (d_nc d) := by rw [f19 _ _ (by omega)]; exact a9
  rw [a19, pn_cl (by omega)]
  refine ⟨pn_in (by omega) (by decide), fun S29 e29 => ?_⟩
  have f29 : fr (fun c j => c = 15 ∧ j = d_nc d) S19 S29 := by rw [e29]; exact fr_st ⟨rfl, rfl⟩
  have a29 : S29 12 3 = nI (d_nc d) := by rw [f29 _ _ (by omega)]; exact a19
  rw [a29, nI_1]
  intro S37 e37
  have f37 : fr (fun c j => c = 12 ∧ j = 3) S29 S37 := by rw [e37]; exact fr_st ⟨rfl, rfl⟩
  have hall : ∀ c j, ¬ (c = 12 ∧ j = 3) → ¬ ((c = 13 ∨ c = 14 ∨ c = 15) ∧ j = d_nc d) → S37 c j = S c j := fun c j q1 q2 => by
    rw [f37 _ _ (by omega), f29 _ _ (by omega), f19 _ _ (by omega), f9 _ _ (by omega)]
  refine hQ S37 (fun c j hc => hall c j (by omega) (by omega)) ⟨⟨?_, ?_⟩, ?_, fun k hk => ?_⟩
  · rw [hall _ _ (by omega) (by omega)]; exact h1
  · rw [hall _ _ (by omega) (by omega)]; exact h2
  · rw [e37, gz_st_v]; rfl
  · show S37 13 k = nI (yw (d_cp d) (d_nc d) p k) ∧ S37 14 k = nI (yw (d_cs d) (d_nc d) s k) ∧ S37 15 k = nI (yw (d_ca d) (d_nc d) a k)
    have hk' : k < d_nc d + 1 := hk
    unfold yw
    by_cases e : k = d_nc d
    · rw [if_pos e, if_pos e, if_pos e, e]
      refine ⟨?_, ?_, ?_⟩
      · rw [f37 _ _ (by omega), f29 _ _ (by omega), f19 _ _ (by omega), e9, gz_st_v]
      · rw [f37 _ _ (by omega), f29 _ _ (by omega), e19, gz_st_v]
      · rw [f37 _ _ (by omega), e29, gz_st_v]
    · rw [if_neg e, if_neg e, if_neg e, hall _ _ (by omega) (by omega), hall _ _ (by omega) (by omega), hall _ _ (by omega) (by omega)]
      exact h4 k (by omega)
theorem x_told {x1 x2 x3 : Int32} {S : gz_S} {Q : Int32 → gz_S → Prop} (h1 : tld x1 x2 x3 → Q 1 S) (h0 : ¬ tld x1 x2 x3 → Q 0 S) : wX1_canBeTold x1 x2 x3 S Q := by
  unfold wX1_canBeTold
  refine w_within (fun a1 b1 => ⟨fun c => absurd c n10, fun _ => ?_⟩) (fun g => ⟨fun _ => h0 (fun q => g q.1), fun c => absurd rfl c⟩)
  refine w_within (fun a2 b2 => ⟨fun c => absurd c n10, fun _ => ?_⟩) (fun g => ⟨fun _ => h0 (fun q => g q.2.1), fun c => absurd rfl c⟩)
  exact w_within (fun a3 b3 => ⟨fun c => absurd c n10, fun _ => h1 ⟨⟨a1, b1⟩, ⟨a2, b2⟩, a3, b3⟩⟩) (fun g => ⟨fun _ => h0 (fun q => g q.2.2), fun c => absurd rfl c⟩)
theorem m_carry {x1 x2 x3 : Int32} {S : gz_S} {d : dt} {Q : Int32 → gz_S → Prop} (h : cM S d) (hn : d_nc d ≤ 30) (h0 : ¬ tld x1 x2 x3 → Q (-2) S) (h4 : tld x1 x2 x3 → d_nc d = 30 → Q (-4) S) (hQ : tld x1 x2 x3 → d_nc d < 30 → ∀ S', fr (fun c j => c = 59 ∨ (c = 45 ∧ j = 16)) S S' → cM S' (d_add d x1.toNatClampNeg x2.toNatClampNeg x3.toNatClampNeg) → Q (nI (d_nc d + 1)) S') : wX8_carry x1 x2 x3 S Q := by
  unfold wX8_carry
  refine w_in (lo := 0) (hi := 7) (by decide) (by decide) (fun a1 b1 => ⟨fun c => absurd c n10, fun _ => ?_⟩) (fun g => ⟨fun _ => h0 (fun q => g q.1), fun c => absurd rfl c⟩)
  refine w_in (lo := 0) (hi := 8) (by decide) (by decide) (fun a2 b2 => ⟨fun c => absurd c n10, fun _ => ?_⟩) (fun g => ⟨fun _ => h0 (fun q => g q.2.1), fun c => absurd rfl c⟩)
  refine w_in (lo := 1) (hi := 5) (by decide) (by decide) (fun a3 b3 => ⟨fun _ => ?_, fun c => absurd c n10⟩) (fun g => ⟨fun c => absurd rfl c, fun _ => h0 (fun q => g q.2.2)⟩)
  have ht : tld x1 x2 x3 := ⟨⟨a1, b1⟩, ⟨a2, b2⟩, a3, b3⟩
  have hQ2 := hQ ht
  have h42 := h4 ht
  obtain ⟨p, s, a, hp, hs, ha1, ha2, rfl, rfl, rfl⟩ := tld_n ht
  rw [pn_cl (by omega), pn_cl (by omega), pn_cl (by omega)] at hQ2
  obtain ⟨⟨q1, q2⟩, q3, q4⟩ := h
  rw [q3, show (30 : Int32) = nI 30 from rfl, neq (by omega) (by decide), n3k, pn_cl (by omega)]
  refine ⟨fun c => ⟨pn_in (by omega) (by decide), fun S62 e62 => ?_⟩, fun c => h42 c⟩
  have f62 : fr (fun c j => c = 59 ∧ j = 3 * d_nc d) S S62 := by rw [e62]; exact fr_st ⟨rfl, rfl⟩
  have a62 : S62 45 16 = nI (d_nc d) := by rw [f62 _ _ (by omega)]; exact q3
  rw [a62, n3k, nI_1, pn_cl (by omega)]
  refine ⟨pn_in (by omega) (by decide), fun S76 e76 => ?_⟩
  have f76 : fr (fun c j => c = 59 ∧ j = 3 * d_nc d + 1) S62 S76 := by rw [e76]; exact fr_st ⟨rfl, rfl⟩
  have a76 : S76 45 16 = nI (d_nc d) := by rw [f76 _ _ (by omega)]; exact a62
  rw [a76, n3k, nI_2, pn_cl (by omega)]
  refine ⟨pn_in (by omega) (by decide), fun S90 e90 S98 e98 => ?_⟩
  have f90 : fr (fun c j => c = 59 ∧ j = 3 * d_nc d + 2) S76 S90 := by rw [e90]; exact fr_st ⟨rfl, rfl⟩
  have a90 : S90 45 16 = nI (d_nc d) := by rw [f90 _ _ (by omega)]; exact a76
  rw [a90, nI_1] at e98
  have f98 : fr (fun c j => c = 45 ∧ j = 16) S90 S98 := by rw [e98]; exact fr_st ⟨rfl, rfl⟩
  have a98 : S98 45 16 = nI (d_nc d + 1) := by rw [e98, gz_st_v]
  rw [a98]
  have hall : ∀ c j, ¬ (c = 45 ∧ j = 16) → ¬ (c = 59 ∧ 3 * d_nc d ≤ j ∧ j ≤ 3 * d_nc d + 2) → S98 c j = S c j := fun c j q1 q2 => by
    rw [f98 _ _ (by omega), f90 _ _ (by omega), f76 _ _ (by omega), f62 _ _ (by omega)]
  refine hQ2 (by omega) S98 (fun c j hc => hall c j (by omega) (by omega)) ⟨⟨?_, ?_⟩, a98, fun k hk => ?_⟩
  · rw [hall _ _ (by omega) (by omega)]; exact q1
  · rw [hall _ _ (by omega) (by omega)]; exact q2
  · show S98 59 (3 * k) = nI (yw (d_cp d) (d_nc d) p k) ∧ S98 59 (3 * k + 1) = nI (yw (d_cs d) (d_nc d) s k) ∧ S98 59 (3 * k + 2) = nI (yw (d_ca d) (d_nc d) a k)
    have hk' : k < d_nc d + 1 := hk
    unfold yw
    by_cases e : k = d_nc d
    · rw [if_pos e, if_pos e, if_pos e, e]
      refine ⟨?_, ?_, ?_⟩
      · rw [f98 _ _ (by omega), f90 _ _ (by omega), f76 _ _ (by omega), e62, gz_st_v]
      · rw [f98 _ _ (by omega), f90 _ _ (by omega), e76, gz_st_v]
      · rw [f98 _ _ (by omega), e90, gz_st_v]
    · rw [if_neg e, if_neg e, if_neg e, hall _ _ (by omega) (by omega), hall _ _ (by omega) (by omega), hall _ _ (by omega) (by omega)]
      exact q4 k (by omega)
theorem p_carry (x1 x2 x3 : Int32) : pr (wX7_carry x1 x2 x3) (wX8_carry x1 x2 x3) := by
  intro S F K ⟨y0, n0, y1, n1, d, hR⟩ hF hK
  have hn : d_nc d ≤ 30 := hR.ae.2.2.2.2.1
  unfold wX7_carry
  refine x_told (fun ht => ⟨fun _ => ?_, fun c => absurd c n10⟩) (fun ht => ⟨fun c => absurd rfl c, fun _ => hF _ (m_carry hR.am.2.2 hn (fun _ => hK _ S ⟨_, _, _, _, _, hR⟩) (fun q => absurd q ht) (fun q => absurd q ht))⟩)
  unfold wX1_isFull
  refine pk_lt (d_nc d) 30 (fun c => ⟨fun _ => ?_, fun c => absurd rfl c⟩) (fun c => ⟨fun c => absurd c n10, fun _ => hF _ (m_carry hR.am.2.2 hn (fun q => absurd ht q) (fun _ _ => hK _ S ⟨_, _, _, _, _, hR⟩) (fun _ q => by omega))⟩) hR.ax.2.2.2.1 rfl
  obtain ⟨p, s, a, hp, hs, ha1, ha2, rfl, rfl, rfl⟩ := tld_n ht
  refine x_add hR.ax.2.2 c (fun S1 hf1 hc1 => ?_)
  have ha : AX S1 y0 n0 y1 n1 (d_add d p s a) := ⟨hR.ax.1.keep (fun c j hc => hf1 c j (by omega)), hR.ax.2.1.keep (fun c j hc => hf1 c j (by omega)), hc1⟩
  have he := hR.ae.add c hp hs ⟨ha1, ha2⟩
  refine x_rej ha he (fun S2 hf2 ha2 hj2 => ?_)
  rw [ha2.2.2.2.1]
  have hm2 : AM S2 y0 n0 y1 n1 d := hR.am.keep (fun c j hc => by rw [hf2 _ _ (by unfold jP; omega), hf1 _ _ (by omega)])
  refine hF _ (m_carry hm2.2.2 hn (fun q => absurd ht q) (fun _ q => by omega) (fun _ _ S3 hf3 hc3 => ?_))
  rw [pn_cl (by omega), pn_cl (by omega), pn_cl (by omega)] at hc3
  exact hK _ S3 (mkR ha2 hj2 ⟨hm2.1.keep (fun c j hc => hf3 c j (by omega)), hm2.2.1.keep (fun c j hc => hf3 c j (by omega)), hc3⟩ he (hR.2.2.2.keep (fun c j hc => by rw [hf3 _ _ (by omega), hf2 _ _ (by unfold jP; omega), hf1 _ _ (by omega)])) (fun c j hc => hf3 c j (by omega)))
/-! ===== undo ===== -/
theorem nz0 {a : Nat} (h : a < 2147483648) : nI a = 0 ↔ a = 0 := n0 h
theorem p_undo : pr wX7_undo wX8_undo := by
  intro S F K ⟨y0, n0, y1, n1, d, hR⟩ hF hK
  have hn : d_nc d ≤ 30 := hR.ae.2.2.2.2.1
  unfold wX7_undo wX8_undo
  rw [hR.ax.2.2.2.1, nz0 (by omega)]
  refine ⟨fun c S1 e1 => ?_, fun c => hF _ ⟨fun c2 => absurd ?_ c2, fun _ => hK _ S ⟨_, _, _, _, _, hR⟩⟩⟩
  · have e1' : S1 = gz_st S 12 3 (nI (d_nc d - 1)) := by rw [e1, show (1 : Int32) = nI 1 from rfl, pk_sub (by omega)]
    have hf1 : fr (fun a j => a = 12 ∧ j = 3) S S1 := by rw [e1']; exact fr_st ⟨rfl, rfl⟩
    have ha : AX S1 y0 n0 y1 n1 (d.1, d.2.1, d.2.2.1, (d_nc d - 1, d.2.2.2.2)) := by
      obtain ⟨t0, t1, ⟨a1, a2⟩, a3, a4⟩ := hR.ax
      refine ⟨t0.keep (fun c j hc => hf1 c j (by omega)), t1.keep (fun c j hc => hf1 c j (by omega)), ⟨?_, ?_⟩, ?_, fun k hk => ?_⟩
      · rw [hf1 _ _ (by omega)]; exact a1
      · rw [hf1 _ _ (by omega)]; exact a2
      · rw [e1', gz_st_v]; rfl
      · have hk' : k < d_nc d - 1 := hk
        rw [hf1 _ _ (by omega), hf1 _ _ (by omega), hf1 _ _ (by omega)]; exact a4 k (by omega)
    have he : AE y0 n0 y1 n1 (d.1, d.2.1, d.2.2.1, (d_nc d - 1, d.2.2.2.2)) := ⟨hR.ae.1, hR.ae.2.1, hR.ae.2.2.1, hR.ae.2.2.2.1, Nat.le_trans (Nat.sub_le _ _) hn, fun k hk => hR.ae.2.2.2.2.2 k (Nat.lt_of_lt_of_le hk (Nat.sub_le _ _))⟩
    refine x_rej ha he (fun S2 hf2 ha2 hj2 => ?_)
    rw [ha2.2.2.2.1]
    have hm2 : AM S2 y0 n0 y1 n1 d := hR.am.keep (fun c j hc => by rw [hf2 _ _ (by unfold jP; omega), hf1 _ _ (by omega)])
    refine hF _ ?_
    rw [hm2.2.2.2.1, nz0 (by omega)]
    refine ⟨fun _ S3 e3 => ?_, fun q => absurd q c⟩
    have e3' : S3 = gz_st S2 45 16 (nI (d_nc d - 1)) := by rw [e3, show (1 : Int32) = nI 1 from rfl, pk_sub (by omega)]
    have hf3 : fr (fun a j => a = 45 ∧ j = 16) S2 S3 := by rw [e3']; exact fr_st ⟨rfl, rfl⟩
    have a3 : S3 45 16 = nI (d_nc d - 1) := by rw [e3', gz_st_v]
    rw [a3]
    refine hK _ S3 (mkR ha2 hj2 ⟨hm2.1.keep (fun c j hc => hf3 c j (by omega)), hm2.2.1.keep (fun c j hc => hf3 c j (by omega)), ⟨?_, ?_⟩, a3, fun k hk => ?_⟩ he (hR.2.2.2.keep (fun c j hc => by rw [hf3 _ _ (by omega), hf2 _ _ (by unfold jP; omega), hf1 _ _ (by omega)])) (fun c j hc => hf3 c j (by omega)))
    · rw [hf3 _ _ (by omega)]; exact hm2.2.2.1.1
    · rw [hf3 _ _ (by omega)]; exact hm2.2.2.1.2
    · have hk' : k < d_nc d - 1 := hk
      rw [hf3 _ _ (by omega), hf3 _ _ (by omega), hf3 _ _ (by omega)]; exact hm2.2.2.2.2 k (by omega)
  · rw [hR.am.2.2.2.1, c]; rfl
