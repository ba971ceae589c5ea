/-! ===== looking: when, settled, without, judged, laid, person, stone ===== -/
def lX (w : gz_S → (Int32 → gz_S → Prop) → Prop) (d : dt) (td : Nat → Int32) (ar : Nat → Nat) (v : Int32) : Prop := ∀ S Q, XS S d td ar → (∀ S', fr gX S S' → Q v S') → w S Q
def lM (w : gz_S → (Int32 → gz_S → Prop) → Prop) (d : dt) (td : Nat → Int32) (ar : Nat → Nat) (v : Int32) : Prop := ∀ S Q, MS S d td ar → (∀ S', fr gM S S' → Q v S') → w S Q
theorem pr_lk {wx wm : gz_S → (Int32 → gz_S → Prop) → Prop} (h : ∀ d td ar, d_ok d → ∃ v, lX wx d td ar v ∧ lM wm d td ar v) : pr wx (fun S Q => wX8_reads S (fun S1 => wm S1 Q)) := by
  intro S F K ⟨y0, n0, y1, n1, d, hR⟩ hF hK
  obtain ⟨td, ar, hX, hMS⟩ := hR.both
  obtain ⟨v, h1, h2⟩ := h d td ar hR.ok
  refine h1 S _ hX (fun S1 hf1 => hF _ (m_reads (hR.keep (hf1.mono gX_g)) (fun S2 hf2 hM2 hR2 => h2 S2 _ (hMS S2 ((hf1.mono gX_g).tr hf2) hM2) (fun S3 hf3 => hK _ S3 ⟨_, _, _, _, _, hR2.keep (hf3.mono gM_g)⟩))))
theorem rngm {x : Int32} {n : Nat} (hn : n < 2147483648) : (0 ≤ x ∧ x ≤ nI n - 1) ↔ ∃ k, k < n ∧ x = nI k := by
  have e1 : (1 : Int32).toInt = 1 := by decide
  have e0 : (0 : Int32).toInt = 0 := by decide
  have e : (nI n - 1).toInt = (n : Int) - 1 := by rw [fb_subI] <;> rw [pn_t hn, e1] <;> omega
  rw [pn_le, pn_le, e, e0]
  constructor
  · intro h
    refine ⟨x.toInt.toNat, by omega, ?_⟩
    rw [pn_eq, pn_t (by omega)]
    omega
  · rintro ⟨k, h1, rfl⟩
    rw [pn_t (by omega)]
    omega
/-! when -/
def whn (d : dt) (td : Nat → Int32) : Nat → Nat → Int32
  | 0, _ => -1
  | n + 1, h => if d_hr d < h then -1 else if tp d td h ≤ 0 then whn d td n (h + 1) else nI h
theorem x_when_lp {d : dt} {td : Nat → Int32} {ar : Nat → Nat} {Q : Int32 → gz_S → Prop} : ∀ (n h : Nat) (S : gz_S), XS S d td ar → d_hr d + 2 ≤ h + n → h ≤ d_hr d + 1 → (∀ S', fr gX S S' → Q (whn d td n h) S') → wX7_when_2 Q n (nI h) S
  | 0, h, S, hS, h1, h2, hQ => by omega
  | n + 1, h, S, hS, h1, h2, hQ => by
    unfold wX7_when_2
    have hb := hS.1.2.2.2.1
    rw [hS.2.1.2.2.1.1, nlt (by omega) (by omega)]
    refine ⟨fun c => ?_, fun c => ?_⟩
    · have := hQ S fr_rf
      unfold whn at this
      rw [if_pos c] at this
      exact this
    · refine hS.tip (by omega) (fun S1 hf1 _ _ => ⟨fun c2 => ?_, fun c2 => ?_⟩)
      · rw [nI_1]
        refine x_when_lp n (h + 1) S1 (hS.keep hf1) (by omega) (by omega) (fun S' hf' => ?_)
        have := hQ S' (hf1.tr hf')
        unfold whn at this
        rw [if_neg c, if_pos c2] at this
        exact this
      · have := hQ S1 hf1
        unfold whn at this
        rw [if_neg c, if_neg c2] at this
        exact this
theorem m_when_lp {d : dt} {td : Nat → Int32} {ar : Nat → Nat} {Q : Int32 → gz_S → Prop} : ∀ (n h : Nat) (S : gz_S), MS S d td ar → d_hr d + 2 ≤ h + n → h ≤ d_hr d + 1 → (∀ S', fr gM S S' → Q (whn d td n h) S') → wX8_whenNow_2 Q n (nI h) S
  | 0, h, S, hS, h1, h2, hQ => by omega
  | n + 1, h, S, hS, h1, h2, hQ => by
    unfold wX8_whenNow_2
    have hb := hS.1.2.2.2.1
    refine hS.end_ ?_
    rw [nlt (by omega) (by omega)]
    refine ⟨fun c => ?_, fun c => ?_⟩
    · have := hQ S fr_rf
      unfold whn at this
      rw [if_pos c] at this
      exact this
    · refine hS.tip (by omega) (fun S1 hf1 _ _ => ⟨fun c2 => ?_, fun c2 => ?_⟩)
      · rw [nI_1]
        refine m_when_lp n (h + 1) S1 (hS.keep hf1) (by omega) (by omega) (fun S' hf' => ?_)
        have := hQ S' (hf1.tr hf')
        unfold whn at this
        rw [if_neg c, if_pos c2] at this
        exact this
      · have := hQ S1 hf1
        unfold whn at this
        rw [if_neg c, if_neg c2] at this
        exact this
theorem x_when (d : dt) (td : Nat → Int32) (ar : Nat → Nat) : lX wX7_when d td ar (whn d td (d_hr d + 2) 0) := fun S Q hS hQ => ⟨d_hr d + 2, x_when_lp (d_hr d + 2) 0 S hS (by omega) (by omega) hQ⟩
theorem m_when (d : dt) (td : Nat → Int32) (ar : Nat → Nat) : lM wX8_whenNow d td ar (whn d td (d_hr d + 2) 0) := fun S Q hS hQ => ⟨d_hr d + 2, m_when_lp (d_hr d + 2) 0 S hS (by omega) (by omega) hQ⟩
theorem p_when : pr wX7_when wX8_when := pr_lk (wm := wX8_whenNow) (fun d td ar _ => ⟨_, x_when d td ar, m_when d td ar⟩)
/-! settled -/
def sgn (x : Int32) : Int32 := if x ≤ 0 then (if 0 ≤ x then 0 else -1) else 1
theorem x_cmp {x : Int32} {S : gz_S} {Q : Int32 → gz_S → Prop} (hQ : Q (sgn x) S) : wJ6_compare_7cf53 x 0 S Q := by
  have e0 : (0 : Int32).toInt = 0 := by decide
  unfold wJ6_compare_7cf53
  unfold sgn at hQ
  by_cases h1 : 0 ≤ x
  · by_cases h2 : x ≤ 0
    · rw [if_pos h2, if_pos h1] at hQ
      have e : x = 0 := by rw [pn_eq]; rw [pn_le] at h1 h2; omega
      exact ⟨fun _ => ⟨fun c => absurd e c, fun _ => hQ⟩, fun c => absurd h1 c⟩
    · rw [if_neg h2] at hQ
      exact ⟨fun _ => ⟨fun _ => hQ, fun c => absurd (by rw [c]; decide) h2⟩, fun c => absurd h1 c⟩
  · have h2 : x ≤ 0 := by rw [pn_le] at h1 ⊢; omega
    rw [if_pos h2, if_neg h1] at hQ
    exact ⟨fun c => absurd c h1, fun _ => hQ⟩
theorem m_sign {x : Int32} {S : gz_S} {Q : Int32 → gz_S → Prop} (hQ : Q (sgn x) S) : wX8_sign x S Q := by
  unfold wX8_sign
  unfold sgn at hQ
  refine ⟨fun c => ⟨fun c2 => ?_, fun c2 => ?_⟩, fun c => ?_⟩
  · rw [if_pos c, if_pos c2] at hQ; exact hQ
  · rw [if_pos c, if_neg c2] at hQ; exact hQ
  · rw [if_neg c] at hQ; exact hQ
def stl (d : dt) (td : Nat → Int32) (s : Int32) : Nat → Nat
  | 0 => 0
  | h + 1 => if sgn (tp d td h) = s then stl d td s h else h + 1
def stv (d : dt) (td : Nat → Int32) : Int32 := if sgn (tp d td (d_hr d)) = 0 then -1 else nI (stl d td (sgn (tp d td (d_hr d))) (d_hr d))
theorem nm (h : Nat) : nI (h + 1) - 1 = nI h := pk_sub (a := h + 1) (b := 1) (by omega)
theorem x_settled_lp {d : dt} {td : Nat → Int32} {ar : Nat → Nat} {s : Int32} {Q : Int32 → gz_S → Prop} : ∀ (h : Nat) (S : gz_S), XS S d td ar → h ≤ 24 → (∀ S', fr gX S S' → Q (nI (stl d td s h)) S') → wX7_settled_43 Q (h + 1) s (nI h) (nI h - 1) S
  | 0, S, hS, h2, hQ => by
    unfold wX7_settled_43
    exact ⟨fun _ => hQ S fr_rf, fun c => absurd (by decide) c⟩
  | h + 1, S, hS, h2, hQ => by
    unfold wX7_settled_43
    rw [nm]
    refine ⟨fun c => ?_, fun c => ?_⟩
    · rw [show (0 : Int32) = nI 0 from rfl, nlt (by omega) (by omega)] at c
      omega
    · refine hS.tip (by omega) (fun S1 hf1 _ _ => x_cmp ⟨fun c2 => ?_, fun c2 => ?_⟩)
      · rw [show nI h + -1 = nI h - 1 from (Int32.sub_eq_add_neg (nI h) 1).symm]
        refine x_settled_lp h S1 (hS.keep hf1) (by omega) (fun S' hf' => ?_)
        have := hQ S' (hf1.tr hf')
        unfold stl at this
        rw [if_pos c2] at this
        exact this
      · have := hQ S1 hf1
        unfold stl at this
        rw [if_neg c2] at this
        exact this
theorem m_settled_lp {d : dt} {td : Nat → Int32} {ar : Nat → Nat} {s : Int32} {Q : Int32 → gz_S → Prop} : ∀ (h : Nat) (S : gz_S), MS S d td ar → h ≤ 24 → (∀ S', fr gM S S' → Q (nI (stl d td s h)) S') → wX8_settledNow_23 Q (h + 1) s (nI h) S
  | 0, S, hS, h2, hQ => by
    unfold wX8_settledNow_23
    exact ⟨fun _ => hQ S fr_rf, fun c => absurd (by decide) c⟩
  | h + 1, S, hS, h2, hQ => by
    unfold wX8_settledNow_23
    rw [nm]
    refine ⟨fun c => ?_, fun c => ?_⟩
    · rw [show (0 : Int32) = nI 0 from rfl, nle (by omega) (by omega)] at c
      omega
    · refine hS.tip (by omega) (fun S1 hf1 _ _ => m_sign ⟨fun c2 => ?_, fun c2 => ?_⟩)
      · have := hQ S1 hf1
        unfold stl at this
        rw [if_neg c2] at this
        exact this
      · rw [show nI (h + 1) + -1 = nI (h + 1) - 1 from (Int32.sub_eq_add_neg (nI (h + 1)) 1).symm, nm]
        refine m_settled_lp h S1 (hS.keep hf1) (by omega) (fun S' hf' => ?_)
        have := hQ S' (hf1.tr hf')
        unfold stl at this
        rw [if_pos c2] at this
        exact this
theorem x_settled (d : dt) (td : Nat → Int32) (ar : Nat → Nat) : lX wX7_settled d td ar (stv d td) := fun S Q hS hQ => by
  have hb := hS.1.2.2.2.1
  unfold wX7_settled
  rw [hS.2.1.2.2.1.1]
  refine hS.tip (by omega) (fun S1 hf1 _ _ => x_cmp ?_)
  have hS1 := hS.keep hf1
  unfold stv at hQ
  refine ⟨fun c v2 e2 v3 e3 => ?_, fun c => ?_⟩
  · rw [e2, e3, hS1.2.1.2.2.1.1]
    rw [if_neg c] at hQ
    exact ⟨_, x_settled_lp _ S1 hS1 (by omega) (fun S' hf' => hQ S' (hf1.tr hf'))⟩
  · rw [if_pos c] at hQ
    exact hQ S1 hf1
theorem m_settled (d : dt) (td : Nat → Int32) (ar : Nat → Nat) : lM wX8_settledNow d td ar (stv d td) := fun S Q hS hQ => by
  have hb := hS.1.2.2.2.1
  unfold wX8_settledNow
  refine hS.end_ (hS.tip (by omega) (fun S1 hf1 _ _ => m_sign ?_))
  have hS1 := hS.keep hf1
  unfold stv at hQ
  refine ⟨fun c => hS1.end_ ?_, fun c => ?_⟩
  · rw [if_neg c] at hQ
    exact ⟨_, m_settled_lp _ S1 hS1 (by omega) (fun S' hf' => hQ S' (hf1.tr hf'))⟩
  · rw [if_pos c] at hQ
    exact hQ S1 hf1
theorem p_settled : pr wX7_settled wX8_settled := pr_lk (wm := wX8_settledNow) (fun d td ar _ => ⟨_, x_settled d td ar, m_settled d td ar⟩)
/-! without -/
def wov (d : dt) (td : Nat → Int32) (k : Nat) : Int32 := tpv (td (d_hr d)) (hf d (qq d (fun j => decide (nI j = nI k)) (d_hr d + 1))).1
theorem x_wo {d : dt} {td : Nat → Int32} {ar : Nat → Nat} {k : Nat} {S : gz_S} {Q : Int32 → gz_S → Prop} (hS : XS S d td ar) (hk : k < d_nc d) (hQ : ∀ S', fr gX S S' → Q (wov d td k) S') : wX7_without (nI k) S Q := by
  have hc := hS.1.2.2.2.2.2.1
  have hb := hS.1.2.2.2.1
  unfold wX7_without
  rw [hS.2.1.2.2.2.1]
  refine w_within (fun _ _ => ⟨fun _ => ?_, fun c => absurd c n10⟩) (fun g => absurd ((rngm (by omega)).mpr ⟨k, hk, rfl⟩) g)
  refine x_judge (Or.inr rfl) hS.1 hS.2.1 (fun S1 hf1 hJ => ?_)
  have hS1 := hS.keep (hf1.mono jP_X2)
  rw [hS1.2.1.2.2.1.1]
  refine x_tipAt (Or.inr rfl) hS1.1 hS1.2.1 hJ (by omega) (fun S2 hf2 _ _ => ?_)
  rw [hS1.2.2.2.1 _ hb.2]
  exact hQ S2 ((hf1.mono jP_X2).tr (hf2.mono hP_X2))
theorem m_wo {d : dt} {td : Nat → Int32} {ar : Nat → Nat} {k : Nat} {S : gz_S} {Q : Int32 → gz_S → Prop} (hS : MS S d td ar) (hk : k < d_nc d) (hQ : ∀ S', fr gM S S' → Q (wov d td k) S') : wX8_withoutOf (nI k) S Q := by
  have hb := hS.1.2.2.2.1
  unfold wX8_withoutOf
  refine m_goes hS.1 hS.2.1 (fun S1 hf1 hJ => ?_)
  have hS1 := hS.keep (hf1.mono gP_M)
  refine hS1.end_ (m_heaps hS1.1 hS1.2.1 hb.2 hJ.1 (fun S2 hf2 hH => ?_))
  have hS2 := hS1.keep (hf2.mono kP_M)
  refine hS2.end_ (m_tipNow hb.2 hH ?_)
  rw [hS2.2.2.1 _ hb.2]
  exact hQ S2 ((hf1.mono gP_M).tr (hf2.mono kP_M))
theorem p_without (x1 : Int32) : pr (wX7_without x1) (wX8_without x1) := by
  refine pr_lk (wm := fun S1 Q => wX8_in (x1.toInt64) 0 (((S1 45 16) - 1).toInt64) S1 (fun r14 S14 => (r14 = 0 → Q (-10002) S14) ∧ (¬ r14 = 0 → wX8_withoutOf x1 S14 (fun r22 S22 => Q r22 S22)))) (fun d td ar hd => ?_)
  have hc := hd.2.2.2.2.2.1
  by_cases g : ∃ k, k < d_nc d ∧ x1 = nI k
  · obtain ⟨k, hk, rfl⟩ := g
    refine ⟨wov d td k, fun S Q hS hQ => x_wo hS hk hQ, fun S Q hS hQ => ?_⟩
    dsimp only
    rw [hS.2.1.2.2.2.1]
    refine w_in (lo := 0) (by decide) rfl (fun _ _ => ⟨fun c => absurd c n10, fun _ => m_wo hS hk hQ⟩) (fun g => absurd ((rngm (by omega)).mpr ⟨k, hk, rfl⟩) g)
  · refine ⟨-10002, fun S Q hS hQ => ?_, fun S Q hS hQ => ?_⟩
    · unfold wX7_without
      rw [hS.2.1.2.2.2.1]
      exact w_within (fun a b => absurd ((rngm (by omega)).mp ⟨a, b⟩) g) (fun _ => ⟨fun c => absurd rfl c, fun _ => hQ S fr_rf⟩)
    · dsimp only
      rw [hS.2.1.2.2.2.1]
      exact w_in (lo := 0) (by decide) rfl (fun a b => absurd ((rngm (by omega)).mp ⟨a, b⟩) g) (fun _ => ⟨fun _ => hQ S fr_rf, fun c => absurd rfl c⟩)
/-! judged -/
theorem sk0_f {k : Nat} (h : k < 2147483648) : sk0 k = false := by unfold sk0; simp [nm1 h]
theorem fg_up {d : dt} {k : Nat} (h : fg d sk0 k ≠ none) : ∀ m, fg d sk0 (k + m) = fg d sk0 k
  | 0 => rfl
  | m + 1 => by
    have e := fg_up h m
    show (if sk0 (k + m) = false ∧ jl d sk0 (k + m) = none ∧ fg d sk0 (k + m) = none then some (k + m) else fg d sk0 (k + m)) = _
    rw [e, if_neg (fun c => h c.2.2)]
theorem x_judged_lp {d : dt} {Q : Int32 → gz_S → Prop} {S : gz_S} (hc : d_nc d ≤ 30) (h12 : S 12 3 = nI (d_nc d)) (h17 : ∀ j, j < d_nc d → S 17 j = oI (jl d sk0 j)) (hd : d_ok d) (hQ : Q (oI (fg d sk0 (d_nc d))) S) : ∀ (m k : Nat), k + m = d_nc d → fg d sk0 k = none → wX7_judged_2 Q (m + 1) (nI k) S
  | 0, k, h1, h2 => by
    unfold wX7_judged_2
    obtain rfl : k = d_nc d := by omega
    rw [h12]
    rw [h2] at hQ
    exact ⟨fun _ => hQ, fun c => absurd (nI_le (Nat.le_refl _) (by omega)) c⟩
  | m + 1, k, h1, h2 => by
    unfold wX7_judged_2
    rw [h12, nle (by omega) (by omega), pn_cl (by omega), h17 k (by omega)]
    refine ⟨fun c => by omega, fun c => ⟨pn_in (by omega) (by decide), ?_, ?_⟩⟩
    · intro c2
      rw [nI_1]
      refine x_judged_lp hc h12 h17 hd hQ m (k + 1) (by omega) ?_
      show (if _ then _ else _) = _
      rw [if_neg (fun q => c2 (by rw [q.2.1]; rfl)), h2]
    · intro c2
      have e : jl d sk0 k = none := by
        refine (oI_m1 (fun n hn => ?_)).mp c2
        have := jl_hr hn
        have := hd.2.2.2.1
        omega
      have e2 : fg d sk0 (k + 1) = some k := by
        show (if _ then _ else _) = _
        rw [if_pos ⟨sk0_f (by omega), e, h2⟩]
      have e3 := fg_up (d := d) (k := k + 1) (by rw [e2]; simp) m
      rw [show k + 1 + m = d_nc d by omega, e2] at e3
      rw [e3] at hQ
      exact hQ
theorem x_judged {d : dt} {td : Nat → Int32} {ar : Nat → Nat} : lX wX7_judged d td ar (oI (fg d sk0 (d_nc d))) := fun S Q hS hQ =>
  ⟨_, x_judged_lp hS.1.2.2.2.2.2.1 hS.2.1.2.2.2.1 hS.2.2.1.1 hS.1 (hQ S fr_rf) (d_nc d) 0 (by omega) rfl⟩
theorem p_judged : pr wX7_judged wX8_judged := by
  refine pr_lk (wm := fun S1 Q => wX8_goes (-1) S1 (fun S6 => Q (S6 45 22) S6)) (fun d td ar hd => ⟨_, x_judged, fun S Q hS hQ => ?_⟩)
  refine m_goes hS.1 hS.2.1 (fun S1 hf1 hJ => ?_)
  have e : S1 45 22 = oI (fg d sk0 (d_nc d)) := hJ.2.2.2.2
  rw [e]
  exact hQ S1 (hf1.mono gP_M)
/-! laid -/
theorem x_laid {d : dt} {td : Nat → Int32} {ar : Nat → Nat} {k : Nat} {S : gz_S} {Q : Int32 → gz_S → Prop} (hS : XS S d td ar) (hk : k < d_nc d) (hQ : Q (oI (jl d sk0 k)) S) : wX7_laid (nI k) S Q := by
  have hc := hS.1.2.2.2.2.2.1
  unfold wX7_laid
  rw [hS.2.1.2.2.2.1]
  refine w_within (fun _ _ => ⟨fun c => absurd c n10, fun _ => ⟨pn_in (by omega) (by decide), ?_⟩⟩) (fun g => absurd ((rngm (by omega)).mpr ⟨k, hk, rfl⟩) g)
  rw [pn_cl (by omega)]
  have e : S 17 k = oI (jl d sk0 k) := hS.2.2.1.1 k hk
  rw [e]
  exact hQ
theorem p_laid (x1 : Int32) : pr (wX7_laid x1) (wX8_laid x1) := by
  refine pr_lk (wm := fun S1 Q => wX8_goes (-1) S1 (fun S6 => wX8_in (x1.toInt64) 0 (((S6 45 16) - 1).toInt64) S6 (fun r19 S19 => (r19 = 0 → Q (-2) S19) ∧ (¬ r19 = 0 → vp_in x1 30 ∧ Q (S19 60 x1.toNatClampNeg) S19)))) (fun d td ar hd => ?_)
  have hc := hd.2.2.2.2.2.1
  by_cases g : ∃ k, k < d_nc d ∧ x1 = nI k
  · obtain ⟨k, hk, rfl⟩ := g
    refine ⟨oI (jl d sk0 k), fun S Q hS hQ => x_laid hS hk (hQ S fr_rf), fun S Q hS hQ => ?_⟩
    refine m_goes hS.1 hS.2.1 (fun S1 hf1 hJ => ?_)
    have hS1 := hS.keep (hf1.mono gP_M)
    rw [hS1.2.1.2.2.2.1]
    refine w_in (lo := 0) (by decide) rfl (fun _ _ => ⟨fun c => absurd c n10, fun _ => ⟨pn_in (by omega) (by decide), ?_⟩⟩) (fun g => absurd ((rngm (by omega)).mpr ⟨k, hk, rfl⟩) g)
    rw [pn_cl (by omega)]
    have e : S1 60 k = oI (jl d sk0 k) := hJ.1 k hk
    rw [e]
    exact hQ S1 (hf1.mono gP_M)
  · refine ⟨-2, fun S Q hS hQ => ?_, fun S Q hS hQ => ?_⟩
    · unfold wX7_laid
      rw [hS.2.1.2.2.2.1]
      exact w_within (fun a b => absurd ((rngm (by omega)).mp ⟨a, b⟩) g) (fun _ => ⟨fun _ => hQ S fr_rf, fun c => absurd rfl c⟩)
    · refine m_goes hS.1 hS.2.1 (fun S1 hf1 hJ => ?_)
      have hS1 := hS.keep (hf1.mono gP_M)
      rw [hS1.2.1.2.2.2.1]
      exact w_in (lo := 0) (by decide) rfl (fun a b => absurd ((rngm (by omega)).mp ⟨a, b⟩) g) (fun _ => ⟨fun _ => hQ S1 (hf1.mono gP_M), fun c => absurd rfl c⟩)
/-! person, stone -/
def psv (d : dt) (p w : Nat) : Int32 := if w = 0 then nI (d_st d p) else if w = 1 then nI (d_sd d p) else nI ((js d sk0 (d_nc d)).1 p)
def stnv (d : dt) (s w : Nat) : Int32 := if w = 0 then nI (d_wt d s) else if w = 1 then nI (d_wy d s) else oI ((js d sk0 (d_nc d)).2 s)
theorem n0' {w : Nat} (h : w ≤ 2) : nI w = 0 ↔ w = 0 := n0 (by omega)
theorem n1' {w : Nat} (h : w ≤ 2) : nI w = 1 ↔ w = 1 := neq (b := 1) (by omega) (by decide)
theorem x_person {d : dt} {td : Nat → Int32} {ar : Nat → Nat} {p w : Nat} {S : gz_S} {Q : Int32 → gz_S → Prop} (hS : XS S d td ar) (hp : p < d_np d) (hw : w ≤ 2) (hQ : Q (psv d p w) S) : wX7_person (nI p) (nI w) S Q := by
  have hb := hS.1.1
  unfold wX7_person
  rw [hS.2.1.1.1]
  refine w_within (fun _ _ => ⟨fun c => absurd c n10, fun _ => ?_⟩) (fun g => absurd ((rngm (by omega)).mpr ⟨p, hp, rfl⟩) g)
  refine w_within (fun _ _ => ⟨fun _ => ?_, fun c => absurd c n10⟩) (fun g => absurd ⟨nI_pos' (by omega), nI_le (b := 2) hw (by decide)⟩ g)
  rw [n0' hw, n1' hw]
  unfold psv at hQ
  refine ⟨fun c => ⟨fun c2 => ⟨pn_in (by omega) (by decide), ?_⟩, fun c2 => ?_⟩, fun c => ?_⟩
  · rw [if_neg c, if_neg c2] at hQ
    rw [pn_cl (by omega)]
    have e : S 19 p = nI ((js d sk0 (d_nc d)).1 p) := hS.2.2.1.2.2.1 p (by omega)
    rw [e]
    exact hQ
  · rw [if_neg c, if_pos c2] at hQ
    exact x_sideOf hS.2.1 hS.1 hp hQ
  · rw [if_pos c] at hQ
    exact x_strength hS.2.1 hS.1 hp hQ
theorem x_stone {d : dt} {td : Nat → Int32} {ar : Nat → Nat} {s w : Nat} {S : gz_S} {Q : Int32 → gz_S → Prop} (hS : XS S d td ar) (hp : s < d_ns d) (hw : w ≤ 2) (hQ : Q (stnv d s w) S) : wX7_stone (nI s) (nI w) S Q := by
  have hb := hS.1.1
  unfold wX7_stone
  rw [hS.2.1.2.1.1]
  refine w_within (fun _ _ => ⟨fun c => absurd c n10, fun _ => ?_⟩) (fun g => absurd ((rngm (by omega)).mpr ⟨s, hp, rfl⟩) g)
  refine w_within (fun _ _ => ⟨fun _ => ?_, fun c => absurd c n10⟩) (fun g => absurd ⟨nI_pos' (by omega), nI_le (b := 2) hw (by decide)⟩ g)
  rw [n0' hw, n1' hw]
  unfold stnv at hQ
  refine ⟨fun c => ⟨fun c2 => ⟨pn_in (by omega) (by decide), ?_⟩, fun c2 => ?_⟩, fun c => ?_⟩
  · rw [if_neg c, if_neg c2] at hQ
    rw [pn_cl (by omega)]
    have e : S 18 s = oI ((js d sk0 (d_nc d)).2 s) := hS.2.2.1.2.1 s (by omega)
    rw [e]
    exact hQ
  · rw [if_neg c, if_pos c2] at hQ
    exact x_way hS.2.1 hS.1 hp hQ
  · rw [if_pos c] at hQ
    exact x_weight hS.2.1 hS.1 hp hQ
theorem m_person {d : dt} {p w : Nat} {S : gz_S} {Q : Int32 → gz_S → Prop} (hd : d_ok d) (hM : d_M S d) (hJ : jM S d sk0 (d_nc d)) (hp : p < d_np d) (hw : w ≤ 2) (hQ : Q (psv d p w) S) : wX8_personOf (nI p) (nI w) S Q := by
  have hb := hd.1
  unfold wX8_personOf
  rw [n0' hw, n1' hw, pn_cl (by omega), (hM.1.2 p hp).1, (hM.1.2 p hp).2, hJ.2.2.1 p (by omega)]
  unfold psv at hQ
  refine ⟨fun c => ⟨fun c2 => ⟨pn_in (by omega) (by decide), ?_⟩, fun c2 => ⟨pn_in (by omega) (by decide), ?_⟩⟩, fun c => ⟨pn_in (by omega) (by decide), ?_⟩⟩
  · rw [if_neg c, if_neg c2] at hQ; exact hQ
  · rw [if_neg c, if_pos c2] at hQ; exact hQ
  · rw [if_pos c] at hQ; exact hQ
theorem m_stone {d : dt} {s w : Nat} {S : gz_S} {Q : Int32 → gz_S → Prop} (hd : d_ok d) (hM : d_M S d) (hJ : jM S d sk0 (d_nc d)) (hp : s < d_ns d) (hw : w ≤ 2) (hQ : Q (stnv d s w) S) : wX8_stoneOf (nI s) (nI w) S Q := by
  have hb := hd.1
  unfold wX8_stoneOf
  rw [n0' hw, n1' hw, pn_cl (by omega), (hM.2.1.2 s hp).1, (hM.2.1.2 s hp).2, hJ.2.1 s (by omega)]
  unfold stnv at hQ
  refine ⟨fun c => ⟨fun c2 => ⟨pn_in (by omega) (by decide), ?_⟩, fun c2 => ⟨pn_in (by omega) (by decide), ?_⟩⟩, fun c => ⟨pn_in (by omega) (by decide), ?_⟩⟩
  · rw [if_neg c, if_neg c2] at hQ; exact hQ
  · rw [if_neg c, if_pos c2] at hQ; exact hQ
  · rw [if_pos c] at hQ; exact hQ
theorem p_person (x1 x2 : Int32) : pr (wX7_person x1 x2) (wX8_person x1 x2) := by
  refine pr_lk (wm := fun S1 Q => wX8_in (x1.toInt64) 0 (((S1 45 7) - 1).toInt64) S1 (fun r14 S14 => gz_b01 r14 ∧ ((r14 = 0 → Q (-2) S14) ∧ (¬ r14 = 0 → wX8_in (x2.toInt64) 0 2 S14 (fun r14 S14 => (¬ r14 = 0 → wX8_goes (-1) S14 (fun S25 => wX8_personOf x1 x2 S25 (fun r31 S31 => Q r31 S31))) ∧ (r14 = 0 → Q (-2) S14)))))) (fun d td ar hd => ?_)
  have hc := hd.1
  by_cases g : ∃ k, k < d_np d ∧ x1 = nI k
  · obtain ⟨k, hk, rfl⟩ := g
    by_cases g2 : 0 ≤ x2 ∧ x2 ≤ 2
    · obtain ⟨w, hw, rfl⟩ := pn_rng (hi := 2) (by decide) g2.1 g2.2
      refine ⟨psv d k w, fun S Q hS hQ => x_person hS hk hw (hQ S fr_rf), fun S Q hS hQ => ?_⟩
      dsimp only
      rw [hS.2.1.1.1]
      refine w_in (lo := 0) (by decide) rfl (fun _ _ => ⟨b01_1, fun c => absurd c n10, fun _ => ?_⟩) (fun g => absurd ((rngm (by omega)).mpr ⟨k, hk, rfl⟩) g)
      refine w_in (lo := 0) (hi := 2) (by decide) (by decide) (fun _ _ => ⟨fun _ => ?_, fun c => absurd c n10⟩) (fun g => absurd g2 g)
      exact m_goes hS.1 hS.2.1 (fun S1 hf1 hJ => m_person hS.1 (hS.keep (hf1.mono gP_M)).2.1 hJ hk hw (hQ S1 (hf1.mono gP_M)))
    · refine ⟨-2, fun S Q hS hQ => ?_, fun S Q hS hQ => ?_⟩
      · unfold wX7_person
        rw [hS.2.1.1.1]
        exact w_within (fun _ _ => ⟨fun c => absurd c n10, fun _ => w_within (fun a b => absurd ⟨a, b⟩ g2) (fun _ => ⟨fun c => absurd rfl c, fun _ => hQ S fr_rf⟩)⟩) (fun g => absurd ((rngm (by omega)).mpr ⟨k, hk, rfl⟩) g)
      · dsimp only
        rw [hS.2.1.1.1]
        exact w_in (lo := 0) (by decide) rfl (fun _ _ => ⟨b01_1, fun c => absurd c n10, fun _ => w_in (lo := 0) (hi := 2) (by decide) (by decide) (fun a b => absurd ⟨a, b⟩ g2) (fun _ => ⟨fun c => absurd rfl c, fun _ => hQ S fr_rf⟩)⟩) (fun g => absurd ((rngm (by omega)).mpr ⟨k, hk, rfl⟩) g)
  · refine ⟨-2, fun S Q hS hQ => ?_, fun S Q hS hQ => ?_⟩
    · unfold wX7_person
      rw [hS.2.1.1.1]
      exact w_within (fun a b => absurd ((rngm (by omega)).mp ⟨a, b⟩) g) (fun _ => ⟨fun _ => hQ S fr_rf, fun c => absurd rfl c⟩)
    · dsimp only
      rw [hS.2.1.1.1]
      exact w_in (lo := 0) (by decide) rfl (fun a b => absurd ((rngm (by omega)).mp ⟨a, b⟩) g) (fun _ => ⟨b01_0, fun _ => hQ S fr_rf, fun c => absurd rfl c⟩)
theorem p_stone (x1 x2 : Int32) : pr (wX7_stone x1 x2) (wX8_stone x1 x2) := by
  refine pr_lk (wm := fun S1 Q => wX8_in (x1.toInt64) 0 (((S1 45 10) - 1).toInt64) S1 (fun r14 S14 => gz_b01 r14 ∧ ((r14 = 0 → Q (-2) S14) ∧ (¬ r14 = 0 → wX8_in (x2.toInt64) 0 2 S14 (fun r14 S14 => (¬ r14 = 0 → wX8_goes (-1) S14 (fun S25 => wX8_stoneOf x1 x2 S25 (fun r31 S31 => Q r31 S31))) ∧ (r14 = 0 → Q (-2) S14)))))) (fun d td ar hd => ?_)
  have hc := hd.1
  by_cases g : ∃ k, k < d_ns d ∧ x1 = nI k
  · obtain ⟨k, hk, rfl⟩ := g
    by_cases g2 : 0 ≤ x2 ∧ x2 ≤ 2
    · obtain ⟨w, hw, rfl⟩ := pn_rng (hi := 2) (by decide) g2.1 g2.2
      refine ⟨stnv d k w, fun S Q hS hQ => x_stone hS hk hw (hQ S fr_rf), fun S Q hS hQ => ?_⟩
      dsimp only
      rw [hS.2.1.2.1.1]
      refine w_in (lo := 0) (by decide) rfl (fun _ _ => ⟨b01_1, fun c => absurd c n10, fun _ => ?_⟩) (fun g => absurd ((rngm (by omega)).mpr ⟨k, hk, rfl⟩) g)
      refine w_in (lo := 0) (hi := 2) (by decide) (by decide) (fun _ _ => ⟨fun _ => ?_, fun c => absurd c n10⟩) (fun g => absurd g2 g)
      exact m_goes hS.1 hS.2.1 (fun S1 hf1 hJ => m_stone hS.1 (hS.keep (hf1.mono gP_M)).2.1 hJ hk hw (hQ S1 (hf1.mono gP_M)))
    · refine ⟨-2, fun S Q hS hQ => ?_, fun S Q hS hQ => ?_⟩
      · unfold wX7_stone
        rw [hS.2.1.2.1.1]
        exact w_within (fun _ _ => ⟨fun c => absurd c n10, fun _ => w_within (fun a b => absurd ⟨a, b⟩ g2) (fun _ => ⟨fun c => absurd rfl c, fun _ => hQ S fr_rf⟩)⟩) (fun g => absurd ((rngm (by omega)).mpr ⟨k, hk, rfl⟩) g)
      · dsimp only
        rw [hS.2.1.2.1.1]
        exact w_in (lo := 0) (by decide) rfl (fun _ _ => ⟨b01_1, fun c => absurd c n10, fun _ => w_in (lo := 0) (hi := 2) (by decide) (by decide) (fun a b => absurd ⟨a, b⟩ g2) (fun _ => ⟨fun c => absurd rfl c, fun _ => hQ S fr_rf⟩)⟩) (fun g => absurd ((rngm (by omega)).mpr ⟨k, hk, rfl⟩) g)
  · refine ⟨-2, fun S Q hS hQ => ?_, fun S Q hS hQ => ?_⟩
    · unfold wX7_stone
      rw [hS.2.1.2.1.1]
      exact w_within (fun a b => absurd ((rngm (by omega)).mp ⟨a, b⟩) g) (fun _ => ⟨fun _ => hQ S fr_rf, fun c => absurd rfl c⟩)
    · dsimp only
      rw [hS.2.1.2.1.1]
      exact w_in (lo := 0) (by decide) rfl (fun a b => absurd ((rngm (by omega)).mp ⟨a, b⟩) g) (fun _ => ⟨b01_0, fun _ => hQ S fr_rf, fun c => absurd rfl c⟩)
