/-! ===== copy ===== -/
theorem lgc (a b : Int64) : 0 < lg_cmp a b ↔ b.toInt < a.toInt := by
  have h1 : (b < a) ↔ b.toInt < a.toInt := fa_lt64 b a
  have h2 : (a = b) ↔ a.toInt = b.toInt := fa_eq64 a b
  unfold lg_cmp
  by_cases c : a > b
  · have c' := h1.mp c
    rw [if_pos c]
    exact ⟨fun _ => c', fun _ => by decide⟩
  · have c' : ¬ b.toInt < a.toInt := fun q => c (h1.mpr q)
    rw [if_neg c]
    by_cases e : a = b
    · rw [if_pos e]; exact ⟨fun q => absurd q (by decide), fun q => absurd q c'⟩
    · rw [if_neg e]; exact ⟨fun q => absurd q (by decide), fun q => absurd q c'⟩
theorem lgn (a b : Int64) : lg_cmp a b ≤ 0 ↔ ¬ b.toInt < a.toInt := by
  rw [← lgc, pn_le, pn_lt]
  have z : (0 : Int32).toInt = 0 := by decide
  rw [z]
  omega
theorem lsum (x y : Int32) : (x.toInt64 + y.toInt64).toInt = x.toInt + y.toInt := by
  have h1 := fb_rng x
  have h2 := fb_rng y
  rw [fb_addL] <;> rw [Int32.toInt_toInt64, Int32.toInt_toInt64] <;> omega
def run1 (x y : Int32) (n : Nat) : Prop := 0 ≤ x.toInt ∧ 0 ≤ y.toInt ∧ x.toInt + y.toInt ≤ (n : Int)
theorem x_run {a0 n : Nat} {x y : Int32} {S : gz_S} {Q : Int32 → gz_S → Prop} (hn : n ≤ 60) (h : S a0 2 = nI n) (h1 : run1 x y n → Q 1 S) (h0 : ¬ run1 x y n → Q 0 S) : wX5_hasRun a0 x y S Q := by
  have z : (0 : Int32).toInt = 0 := by decide
  have e : (nI n).toInt = (n : Int) := pn_t (by omega)
  unfold run1 at h0 h1
  unfold wX5_hasRun
  rw [h, pn_lt, pn_lt, pn_lt, z, e]
  refine ⟨fun c => h0 (fun q => by omega), fun c => ⟨fun c2 => h0 (fun q => by omega), fun c2 => ⟨fun c3 => h0 (fun q => by omega), fun c3 => ?_⟩⟩⟩
  have es : (nI n - x).toInt = (n : Int) - x.toInt := by rw [fb_subI] <;> rw [e] <;> omega
  rw [pn_lt, es]
  exact ⟨fun c4 => h0 (fun q => by omega), fun c4 => h1 ⟨by omega, by omega, by omega⟩⟩
theorem m_cp2 {t j k : Nat} {S1 : gz_S} {Q : Int32 → gz_S → Prop} (ht : t < 4) (hj : j + k ≤ 60) (hQ : ∀ S', fr (fun c q => c = 48 ∧ 60 * t + j ≤ q ∧ q < 60 * t + j + k) S1 S' → (∀ q, q < k → S' 48 (60 * t + j + q) = S1 49 q) → Q 1 S') : ∀ (m a : Nat) (S : gz_S), a + m = k → fr (fun c q => c = 48 ∧ 60 * t + j ≤ q ∧ q < 60 * t + j + k) S1 S → (∀ q, q < a → S 48 (60 * t + j + q) = S1 49 q) → wX8_copy_157 Q (m + 1) (nI t) (nI j) (nI k) (nI a) S
  | 0, a, S, h1, hf, h => by
    obtain rfl : a = k := by omega
    unfold wX8_copy_157
    exact ⟨fun _ => hQ S hf h, fun c => absurd (nI_le (Nat.le_refl _) (by omega)) c⟩
  | m + 1, a, S, h1, hf, h => by
    unfold wX8_copy_157
    rw [nle (by omega) (by omega), m60, nI_add, pn_cl (by omega), pn_cl (by omega), nI_1]
    refine ⟨fun c => by omega, fun _ => ⟨pn_in (by omega) (by decide), pn_in (by omega) (by decide), fun S2 e2 => m_cp2 ht hj hQ m (a + 1) S2 (by omega) (hf.tr ?_) (fun q hq => ?_)⟩⟩
    · rw [e2]; exact fr_st (by omega)
    · rw [e2]
      by_cases e : q = a
      · rw [e, gz_st_v, hf _ _ (by omega)]
      · rw [gz_st_o _ _ _ (by omega)]; exact h q (by omega)
theorem m_cp1 {s i t j k : Nat} {S0 : gz_S} {Q : Int32 → gz_S → Prop} (hs : s < 4) (hi : i + k ≤ 60) (ht : t < 4) (hj : j + k ≤ 60) (hQ : ∀ S', fr (fun c q => c = 49 ∨ (c = 48 ∧ 60 * t + j ≤ q ∧ q < 60 * t + j + k)) S0 S' → (∀ q, q < k → S' 48 (60 * t + j + q) = S0 48 (60 * s + i + q)) → Q 1 S') : ∀ (m a : Nat) (S : gz_S), a + m = k → fr (fun c _ => c = 49) S0 S → (∀ q, q < a → S 49 q = S0 48 (60 * s + i + q)) → wX8_copy_120 Q (m + 1) (nI s) (nI i) (nI t) (nI j) (nI k) (nI a) S
  | 0, a, S, h1, hf, h => by
    obtain rfl : a = k := by omega
    unfold wX8_copy_120
    refine ⟨fun _ => ⟨a + 1, m_cp2 ht hj (fun S' hf' h' => hQ S' (fun c q hc => ?_) (fun q hq => ?_)) a 0 S (by omega) fr_rf (fun q hq => by omega)⟩, fun c => absurd (nI_le (Nat.le_refl _) (by omega)) c⟩
    · rw [hf' _ _ (by omega), hf _ _ (by omega)]
    · rw [h' q hq, h q hq]
  | m + 1, a, S, h1, hf, h => by
    unfold wX8_copy_120
    rw [nle (by omega) (by omega), m60, nI_add, pn_cl (by omega), pn_cl (by omega), nI_1]
    refine ⟨fun c => by omega, fun _ => ⟨pn_in (by omega) (by decide), pn_in (by omega) (by decide), fun S2 e2 => m_cp1 hs hi ht hj hQ m (a + 1) S2 (by omega) (hf.tr ?_) (fun q hq => ?_)⟩⟩
    · rw [e2]; exact fr_st rfl
    · rw [e2]
      by_cases e : q = a
      · rw [e, gz_st_v, hf _ _ (by omega)]
      · rw [gz_st_o _ _ _ e]; exact h q (by omega)
theorem p_copy (x1 x2 x3 x4 x5 : Int32) : pr (wX7_copy x1 x2 x3 x4 x5) (wX8_copy x1 x2 x3 x4 x5) := by
  intro S F K ⟨y0, n0, y1, n1, d, hR⟩ hF hK
  have hRel : Rel S := ⟨_, _, _, _, _, hR⟩
  unfold wX7_copy
  by_cases g1 : 0 ≤ x1 ∧ x1 ≤ 3
  · refine w_within (fun _ _ => ⟨fun c => absurd c n10, fun _ => ?_⟩) (fun g => absurd g1 g)
    by_cases g2 : 0 ≤ x3 ∧ x3 ≤ 3
    · refine w_within (fun _ _ => ⟨fun _ => ?_, fun c => absurd c n10⟩) (fun g => absurd g2 g)
      have hM : ∀ (S1 : gz_S) (Q : Int32 → gz_S → Prop), _ → wX8_copy x1 x2 x3 x4 x5 S1 Q := fun S1 Q h => w_isSheet (fun _ _ => ⟨fun c => absurd c n10, fun _ => w_isSheet (fun _ _ => ⟨fun _ => h, fun c => absurd c n10⟩) (fun g => absurd g2 g)⟩) (fun g => absurd g1 g)
      obtain ⟨s, hs, rfl⟩ := sh_x g1
      obtain ⟨t, ht, rfl⟩ := sh_x g2
      rw [pn_cl (n := s) (by omega), pn_cl (n := t) (by omega)] at hM ⊢
      refine ⟨pn_in hs (by decide), pn_in ht (by decide), ?_⟩
      unfold wX5_isLost
      rcases hR.sh hs with ⟨q1, q2⟩ | ⟨f, n, q1, q2, q3, q4, q5, q6, q7⟩
      · rw [q1]
        refine ⟨fun c => absurd rfl c, fun _ => ⟨fun _ S1 e1 => hF _ (hM _ _ ⟨pn_in hs (by decide), ?_⟩), fun c => absurd c n10⟩⟩
        have q' : S1 46 s = -1 := by rw [e1, gz_st_n _ _ _ (by decide)]; exact q2
        rw [q']
        exact ⟨fun _ S2 e2 => hK _ S2 (hR.fnd e1 e2), fun c => absurd (by decide) c⟩
      · rw [q4]
        refine ⟨fun _ => ⟨fun c => absurd rfl c, fun _ => ?_⟩, fun c => absurd c (nm1 (by omega))⟩
        have hnn : ¬ nI f < 0 := by rw [show (0 : Int32) = nI 0 from rfl, nlt (by omega) (by omega)]; omega
        rcases hR.sh ht with ⟨r1, r2⟩ | ⟨g, m, r1, r2, r3, r4, r5, r6, r7⟩
        · rw [r1]
          refine ⟨fun c => absurd rfl c, fun _ => ⟨fun c => absurd c n10, fun _ S1 e1 => hF _ (hM _ _ ⟨pn_in hs (by decide), ?_⟩)⟩⟩
          have q' : S1 46 s = nI f := by rw [e1, gz_st_n _ _ _ (by decide)]; exact q5
          have r' : S1 46 t = -1 := by rw [e1, gz_st_n _ _ _ (by decide)]; exact r2
          rw [q', r']
          exact ⟨fun c => absurd c hnn, fun _ => ⟨pn_in ht (by decide), fun c => absurd c neg1, fun _ S2 e2 => hK _ S2 (hR.fnd e1 e2)⟩⟩
        · dsimp only
          rw [r4, q3, r3]
          refine ⟨fun _ => ⟨fun _ => ⟨fun c => ?_, fun c S1 e1 => hF _ (hM _ _ ⟨pn_in hs (by decide), ?_⟩)⟩, fun c => absurd rfl c⟩, fun c => absurd c (nm1 (by omega))⟩
          · -- the forms are alike
            have ef : f = g := (neq (by omega) (by omega)).mp c
            -- the reference, for a finding of 2 and for the good case
            have hM2 : ∀ (S1 : gz_S) (Q : Int32 → gz_S → Prop), S1 46 s = nI f → S1 46 t = nI g → S1 47 s = nI n → S1 47 t = nI m → (¬ (run1 x2 x5 n ∧ run1 x4 x5 m) → wX8_copy_111 Q S1) → (run1 x2 x5 n ∧ run1 x4 x5 m → ∃ m120, wX8_copy_120 Q m120 (nI s) x2 (nI t) x4 x5 0 S1) → wX8_copy (nI s) x2 (nI t) x4 x5 S1 Q := by
              intro S1 Q a1 a2 a3 a4 hbad hgood
              have z : (0 : Int32).toInt = 0 := by decide
              refine hM S1 Q ⟨pn_in hs (by decide), ?_⟩
              rw [a1, a2, a3, a4, lgc, lgn, lsum, lsum, Int32.toInt_toInt64, Int32.toInt_toInt64, pn_t (by omega), pn_t (by omega), pn_lt (x := x2), pn_lt (x := x4), pn_lt (x := x5), z]
              unfold run1 at hbad hgood
              exact ⟨fun c => absurd c hnn, fun _ => ⟨pn_in ht (by decide), fun _ => ⟨pn_in hs (by decide), pn_in ht (by decide), fun _ => ⟨fun c => hbad (fun q => by omega), fun c => ⟨fun c => hbad (fun q => by omega), fun c => ⟨fun c => hbad (fun q => by omega), fun c => ⟨pn_in hs (by decide), fun c => hbad (fun q => by omega), fun c => ⟨pn_in ht (by decide), fun c => hgood ⟨⟨by omega, by omega, by omega⟩, by omega, by omega, by omega⟩, fun c => hbad (fun q => by omega)⟩⟩⟩⟩⟩, fun c2 => absurd c c2⟩, fun c => absurd (nI_pos' (by omega)) c⟩⟩
            have hbad : ¬ (run1 x2 x5 n ∧ run1 x4 x5 m) → ∀ S1, S1 = gz_st S 0 7 2 → F (wX8_copy (nI s) x2 (nI t) x4 x5 S1 (fun r2 S2 => K (-10 - 2) r2 S2)) := by
              intro hb S1 e1
              have k1 : ∀ c j, c ≠ 0 → S1 c j = S c j := fun c j hc => by rw [e1, gz_st_n _ _ _ hc]
              refine hF _ (hM2 S1 _ (by rw [k1 _ _ (by decide)]; exact q5) (by rw [k1 _ _ (by decide)]; exact r5) (by rw [k1 _ _ (by decide)]; exact q6) (by rw [k1 _ _ (by decide)]; exact r6) (fun _ S2 e2 => hK _ S2 (hR.fnd e1 e2)) (fun h => absurd h hb))
            refine x_run q2 q4 (fun h1 => ⟨fun c => absurd c n10, fun _ => ?_⟩) (fun h1 => ⟨fun _ S1 e1 => hbad (fun q => h1 q.1) S1 e1, fun c => absurd rfl c⟩)
            refine x_run r2 r4 (fun h2 => ⟨fun _ => ?_, fun c => absurd c n10⟩) (fun h2 => ⟨fun c => absurd rfl c, fun _ S1 e1 => hbad (fun q => h2 q.2) S1 e1⟩)
            have hnat : ∀ x : Int32, 0 ≤ x.toInt → x.toInt ≤ 60 → ∃ i : Nat, i ≤ 60 ∧ x = nI i ∧ x.toInt = i := fun x a b => ⟨x.toInt.toNat, by omega, by rw [pn_eq, pn_t (by omega)]; omega, by omega⟩
            unfold run1 at h1 h2
            obtain ⟨i, hi60, rfl, hi⟩ := hnat x2 (by omega) (by omega)
            obtain ⟨j, hj60, rfl, hj⟩ := hnat x4 (by omega) (by omega)
            obtain ⟨k, hk60, rfl, hk⟩ := hnat x5 (by omega) (by omega)
            rw [pn_cl (n := i) (by omega), pn_cl (n := j) (by omega), pn_cl (n := k) (by omega)]
            have nn : ∀ a : Nat, a ≤ 60 → ¬ nI a < 0 := fun a ha => by rw [show (0 : Int32) = nI 0 from rfl, nlt (by omega) (by omega)]; omega
            refine ⟨nn i hi60, nn j hj60, nn k hk60, by omega, by omega, fun S1 e1 => hF _ ?_⟩
            have k1 : ∀ c q, c ≠ 37 + 2 * t + 1 → S1 c q = S c q := fun c q hc => by rw [e1, gz_u_ne _ _ hc]
            refine hM2 S1 _ (by rw [k1 _ _ (by omega)]; exact q5) (by rw [k1 _ _ (by omega)]; exact r5) (by rw [k1 _ _ (by omega)]; exact q6) (by rw [k1 _ _ (by omega)]; exact r6) (fun h => absurd ⟨h1, h2⟩ h) (fun _ => ⟨k + 1, m_cp1 hs (by omega) ht (by omega) (fun S2 hf2 hv => hK _ S2 (hR.shs (fun c q hc => ?_) (fun u hu => ?_) ?_)) k 0 S1 (by omega) fr_rf (fun q hq => by omega)⟩)
            · unfold shP at hc
              rw [hf2 _ _ (by omega), k1 _ _ (by omega)]
            · by_cases eu : u = t
              · subst eu
                refine Or.inr ⟨g, m, r1, r2, ?_, ?_, ?_, ?_, fun q hq => ?_⟩
                · rw [hf2 _ _ (by omega), k1 _ _ (by omega)]; exact r3
                · rw [hf2 _ _ (by omega), k1 _ _ (by omega)]; exact r4
                · rw [hf2 _ _ (by omega), k1 _ _ (by omega)]; exact r5
                · rw [hf2 _ _ (by omega), k1 _ _ (by omega)]; exact r6
                · rw [hf2 _ _ (by omega), e1, gz_u_at]
                  by_cases hin : j ≤ q ∧ q < j + k
                  · rw [pk_cpy_in hin.1 hin.2, q7 _ (by omega)]
                    have := hv (q - j) (by omega)
                    rw [show 60 * u + j + (q - j) = 60 * u + q by omega, e1, gz_u_ne _ _ (by omega), show 60 * s + i + (q - j) = 60 * s + (i + (q - j)) by omega] at this
                    exact this.symm
                  · rw [pk_cpy_out (by omega), r7 q hq, hf2 _ _ (by omega), e1, gz_u_ne _ _ (by omega)]
              · refine (hR.sh hu).keep (fun c q hc => ?_)
                rw [hf2 _ _ (by omega), k1 _ _ (by omega)]
            · rw [hf2 0 _ (by omega), k1 0 _ (by omega), hf2 45 _ (by omega), k1 45 _ (by omega)]
              exact hR.2.2.2.2.2.2
          · have k1 : ∀ c j, c ≠ 0 → S1 c j = S c j := fun c j hc => by rw [e1, gz_st_n _ _ _ hc]
            rw [k1 46 _ (by decide), k1 46 _ (by decide), q5, r5]
            exact ⟨fun c => absurd c hnn, fun _ => ⟨pn_in ht (by decide), fun _ => ⟨pn_in hs (by decide), pn_in ht (by decide), fun c2 => absurd c2 c, fun _ S2 e2 => hK _ S2 (hR.fnd e1 e2)⟩, fun c => absurd (nI_pos' (by omega)) c⟩⟩
    · unfold wX8_copy
      exact w_within (fun a b => absurd ⟨a, b⟩ g2) (fun _ => ⟨fun c => absurd rfl c, fun _ => hF _ (w_isSheet (fun _ _ => ⟨fun c => absurd c n10, fun _ => w_isSheet (fun a b => absurd ⟨a, b⟩ g2) (fun _ => ⟨fun c => absurd rfl c, fun _ => hK _ S hRel⟩)⟩) (fun g => absurd g1 g))⟩)
  · unfold wX8_copy
    exact w_within (fun a b => absurd ⟨a, b⟩ g1) (fun _ => ⟨fun _ => hF _ (w_isSheet (fun a b => absurd ⟨a, b⟩ g1) (fun _ => ⟨fun _ => hK _ S hRel, fun c => absurd rfl c⟩)), fun c => absurd rfl c⟩)
