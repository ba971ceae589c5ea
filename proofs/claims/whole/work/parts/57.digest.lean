/-! ===== digest ===== -/
def fo (g : Nat → Int32) (h : Int64) : Nat → Int64
  | 0 => h
  | k + 1 => 31 * fo g h k + (g k).toInt64
def fo2 (a b : Nat → Int32) (h : Int64) : Nat → Int64
  | 0 => h
  | k + 1 => 31 * (31 * fo2 a b h k + (a k).toInt64) + (b k).toInt64
def fo3 (g : Nat → Nat → Int32) (h : Int64) : Nat → Int64
  | 0 => h
  | p + 1 => fo (g p) (fo3 g h p) 3
def dg1 (d : dt) (y0 : Nat → Nat) (n0 : Nat) (y1 : Nat → Nat) (n1 : Nat) (fd : Int32) : Int64 :=
  31 * (31 * (31 * fo (fun k => ctv d n0 n1 fd (nI k)) 17 8 + (oI (tfl true 8 y0 n0)).toInt64) + (oI (tfl false 9 y1 n1)).toInt64) + (oI (fg d sk0 (d_nc d))).toInt64
def dg2 (d : dt) (h : Int64) : Int64 := fo3 (stnv d) (fo3 (psv d) h (d_np d)) (d_ns d)
def dg3 (d : dt) (td : Nat → Int32) (h : Int64) : Int64 := fo2 (fun k => oI (jl d sk0 k)) (wov d td) h (d_nc d)
def dg4 (d : dt) (td : Nat → Int32) (h : Int64) : Int64 :=
  31 * (31 * (31 * (31 * (31 * (31 * h + (tp d td 3).toInt64) + (tp d td (d_hr d)).toInt64) + (nI ((hf d (qq d sk0 (d_hr d + 1))).1 4)).toInt64) + (nI ((hf d (qq d sk0 (d_hr d + 1))).1 5)).toInt64) + (nI (hf d (qq d sk0 (d_hr d + 1))).2.2).toInt64) + (whn d td (d_hr d + 2) 0).toInt64
def dg5 (d : dt) (td : Nat → Int32) (h : Int64) : Int64 := 31 * (31 * fo (rsv d td) h 3 + (stv d td).toInt64) + ((dbf d (d_nc d)).2).toInt64
noncomputable def dg6 (d : dt) (td : Nat → Int32) (ar : Nat → Nat) (h : Int64) : Int64 :=
  fo (sev d ar (Int32.toInt 3)) (fo (gmv d td 2) (fo (fun s => hv1 (hof d s (d_np d))) (fo (fun s => nI (mw d s (-1))) (fo (few d td) h 2) 2) 2) 2) 3
noncomputable def dgv (d : dt) (td : Nat → Int32) (ar : Nat → Nat) (y0 : Nat → Nat) (n0 : Nat) (y1 : Nat → Nat) (n1 : Nat) (fd : Int32) : Int64 := dg6 d td ar (dg5 d td (dg4 d td (dg3 d td (dg2 d (dg1 d y0 n0 y1 n1 fd)))))
/-! the system -/
theorem x_d109 {d : dt} {td : Nat → Int32} {ar : Nat → Nat} {h : Int64} {Q : Int64 → gz_S → Prop} : ∀ (m w : Nat) (S : gz_S), XS S d td ar → w + m = 3 → (∀ S', fr gX S S' → Q (fo (sev d ar (Int32.toInt 3)) h 3) S') → wX7_digestWhatCouldBe_109 Q (m + 1) (fo (sev d ar (Int32.toInt 3)) h w) (nI w) S
  | 0, w, S, hS, hw, hQ => by
    obtain rfl : w = 3 := by omega
    unfold wX7_digestWhatCouldBe_109
    exact ⟨fun _ => hQ S fr_rf, fun c => absurd (by decide) c⟩
  | m + 1, w, S, hS, hw, hQ => by
    unfold wX7_digestWhatCouldBe_109
    rw [show (2 : Int32) = nI 2 from rfl, nlt (by omega) (by omega), nI_1]
    refine ⟨fun c => by omega, fun _ => x_secret (told := 3) (by decide) (by decide) (by omega) S _ hS (fun S1 f1 v e => ?_)⟩
    subst e
    exact x_d109 m (w + 1) S1 (hS.keep f1) (by omega) (fun S' f' => hQ S' (f1.tr f'))
theorem x_dW {d : dt} {td : Nat → Int32} {ar : Nat → Nat} {h : Int64} {S : gz_S} {Q : Int64 → gz_S → Prop} (hS : XS S d td ar) (htd : ∀ h, h ≤ 24 → bd (td h) 50) (hQ : ∀ S', fr gX S S' → Q (dg6 d td ar h) S') : wX7_digestWhatCouldBe h S Q := by
  unfold wX7_digestWhatCouldBe
  refine x_few (w := 0) (by decide) S _ hS (fun S1 f1 v1 e1 => ?_)
  have hS1 := hS.keep f1
  refine x_few (w := 1) (by decide) S1 _ hS1 (fun S2 f2 v2 e2 => ?_)
  have hS2 := hS1.keep f2
  refine x_most (sd := 0) (by decide) S2 _ hS2 (fun S3 f3 v3 e3 => ?_)
  have hS3 := hS2.keep f3
  refine x_most (sd := 1) (by decide) S3 _ hS3 (fun S4 f4 v4 e4 => ?_)
  have hS4 := hS3.keep f4
  refine x_hold (sd := 0) (by decide) S4 _ hS4 (fun S5 f5 v5 e5 => ?_)
  have hS5 := hS4.keep f5
  refine x_hold (sd := 1) (by decide) S5 _ hS5 (fun S6 f6 v6 e6 => ?_)
  have hS6 := hS5.keep f6
  refine x_game (n := 2) (w := 0) (by decide) (by decide) (by decide) htd S6 _ hS6 (fun S7 f7 v7 e7 => ?_)
  have hS7 := hS6.keep f7
  refine x_game (n := 2) (w := 1) (by decide) (by decide) (by decide) htd S7 _ hS7 (fun S8 f8 v8 e8 => ?_)
  have hS8 := hS7.keep f8
  have f18 : fr gX S S8 := f1.tr (f2.tr (f3.tr (f4.tr (f5.tr (f6.tr (f7.tr f8))))))
  have ev : v8 = fo (gmv d td 2) (fo (fun s => hv1 (hof d s (d_np d))) (fo (fun s => nI (mw d s (-1))) (fo (few d td) h 2) 2) 2) 2 := by
    rw [e8, e7, e6, e5, e4, e3, e2, e1]
    rfl
  rw [ev]
  exact ⟨4, x_d109 3 0 S8 hS8 (by omega) (fun S' f' => hQ S' (f18.tr f'))⟩
theorem x_d103 {d : dt} {td : Nat → Int32} {ar : Nat → Nat} {h : Int64} {Q : Int64 → gz_S → Prop} : ∀ (m w : Nat) (S : gz_S), XS S d td ar → w + m = 3 → (∀ S', fr gX S S' → Q (dg5 d td h) S') → wX7_digestHeap_103 Q (m + 1) (fo (rsv d td) h w) (nI w) S
  | 0, w, S, hS, hw, hQ => by
    obtain rfl : w = 3 := by omega
    unfold wX7_digestHeap_103
    refine ⟨fun _ => x_settled d td ar S _ hS (fun S1 f1 v1 e1 => ?_), fun c => absurd (by decide) c⟩
    have hS1 := hS.keep f1
    refine x_doubles hS1.1 hS1.2.1 ?_
    rw [e1]
    exact hQ S1 f1
  | m + 1, w, S, hS, hw, hQ => by
    unfold wX7_digestHeap_103
    rw [show (2 : Int32) = nI 2 from rfl, nlt (by omega) (by omega), nI_1]
    refine ⟨fun c => by omega, fun _ => x_result hS (by omega) (fun S1 f1 v e => ?_)⟩
    subst e
    exact x_d103 m (w + 1) S1 (hS.keep f1) (by omega) (fun S' f' => hQ S' (f1.tr f'))
theorem x_dH {d : dt} {td : Nat → Int32} {ar : Nat → Nat} {h : Int64} {S : gz_S} {Q : Int64 → gz_S → Prop} (hS : XS S d td ar) (hQ : ∀ S', fr gX S S' → Q (dg5 d td (dg4 d td h)) S') : wX7_digestHeap h S Q := by
  have hb := hS.1.2.2.2.1
  unfold wX7_digestHeap
  intro v0 e0
  rw [hS.2.1.2.2.1.1] at e0
  rw [e0]
  refine x_tip (h := 3) hS (by decide) (fun S1 f1 v1 e1 => ?_)
  have hS1 := hS.keep f1
  refine x_tip hS1 hb.2 (fun S2 f2 v2 e2 => ?_)
  have hS2 := hS1.keep f2
  refine x_shelf (s := 0) (a := 5) hS2 (by decide) (by decide) (by decide) hb.2 (fun S3 f3 v3 e3 => ?_)
  have hS3 := hS2.keep f3
  refine x_shelf (s := 1) (a := 1) hS3 (by decide) (by decide) (by decide) hb.2 (fun S4 f4 v4 e4 => ?_)
  have hS4 := hS3.keep f4
  refine x_slid hS4 hb.2 (fun S5 f5 v5 e5 => ?_)
  have hS5 := hS4.keep f5
  refine x_when d td ar S5 _ hS5 (fun S6 f6 v6 e6 => ?_)
  have hS6 := hS5.keep f6
  have f16 : fr gX S S6 := f1.tr (f2.tr (f3.tr (f4.tr (f5.tr f6))))
  have ev : v6 = dg4 d td h := by
    rw [e6, e5, e4, e3, e2, e1]
    rfl
  rw [ev]
  exact ⟨4, x_d103 3 0 S6 hS6 (by omega) (fun S' f' => hQ S' (f16.tr f'))⟩
theorem x_d78 {d : dt} {td : Nat → Int32} {ar : Nat → Nat} {s : Nat} {h : Int64} {k60 : Int64 → Int32 → gz_S → Prop} {Q : Int64 → gz_S → Prop} {S : gz_S} (hS : XS S d td ar) (hs : s < d_ns d) (hk : k60 (fo (stnv d s) h 3) (nI s + 1) S) : ∀ (m w : Nat), w + m = 3 → wX7_digestPeopleAndStones_78 k60 Q (m + 1) (fo (stnv d s) h w) (nI s) (nI w) S
  | 0, w, hw => by
    obtain rfl : w = 3 := by omega
    unfold wX7_digestPeopleAndStones_78
    exact ⟨fun _ => hk, fun c => absurd (by decide) c⟩
  | m + 1, w, hw => by
    have ih := x_d78 (Q := Q) hS hs hk m (w + 1) (by omega)
    unfold wX7_digestPeopleAndStones_78
    rw [show (2 : Int32) = nI 2 from rfl, nlt (by omega) (by omega), nI_1 w]
    refine ⟨fun c => by omega, fun _ => x_stone hS hs (by omega) (fun v e => ?_)⟩
    subst e
    exact ih
theorem x_d60 {d : dt} {td : Nat → Int32} {ar : Nat → Nat} {h : Int64} {Q : Int64 → gz_S → Prop} {S : gz_S} (hS : XS S d td ar) (hQ : Q (fo3 (stnv d) h (d_ns d)) S) : ∀ (m s : Nat), s + m = d_ns d → wX7_digestPeopleAndStones_60 Q (m + 1) (fo3 (stnv d) h s) (nI s) S
  | 0, s, hs => by
    have hn := hS.1.1
    obtain rfl : s = d_ns d := by omega
    unfold wX7_digestPeopleAndStones_60
    rw [hS.2.1.2.1.1]
    exact ⟨fun _ => hQ, fun c => absurd (nI_le (Nat.le_refl _) (by omega)) c⟩
  | m + 1, s, hs => by
    have hn := hS.1.1
    have ih := x_d60 hS hQ m (s + 1) (by omega)
    unfold wX7_digestPeopleAndStones_60
    rw [hS.2.1.2.1.1, nle (by omega) (by omega)]
    refine ⟨fun c => by omega, fun _ => ⟨4, x_d78 (h := fo3 (stnv d) h s) hS (by omega) ?_ 3 0 (by omega)⟩⟩
    rw [nI_1]
    exact ih
theorem x_d23 {d : dt} {td : Nat → Int32} {ar : Nat → Nat} {s : Nat} {h : Int64} {k60 : Int64 → Int32 → gz_S → Prop} {Q : Int64 → gz_S → Prop} {S : gz_S} (hS : XS S d td ar) (hs : s < d_np d) (hk : k60 (fo (psv d s) h 3) (nI s + 1) S) : ∀ (m w : Nat), w + m = 3 → wX7_digestPeopleAndStones_23 k60 Q (m + 1) (fo (psv d s) h w) (nI s) (nI w) S
  | 0, w, hw => by
    obtain rfl : w = 3 := by omega
    unfold wX7_digestPeopleAndStones_23
    exact ⟨fun _ => hk, fun c => absurd (by decide) c⟩
  | m + 1, w, hw => by
    have ih := x_d23 (Q := Q) hS hs hk m (w + 1) (by omega)
    unfold wX7_digestPeopleAndStones_23
    rw [show (2 : Int32) = nI 2 from rfl, nlt (by omega) (by omega), nI_1 w]
    refine ⟨fun c => by omega, fun _ => x_person hS hs (by omega) (fun v e => ?_)⟩
    subst e
    exact ih
theorem x_d5 {d : dt} {td : Nat → Int32} {ar : Nat → Nat} {h : Int64} {Q : Int64 → gz_S → Prop} {S : gz_S} (hS : XS S d td ar) (hQ : Q (dg2 d h) S) : ∀ (m s : Nat), s + m = d_np d → wX7_digestPeopleAndStones_5 Q (m + 1) (fo3 (psv d) h s) (nI s) S
  | 0, s, hs => by
    have hn := hS.1.1
    obtain rfl : s = d_np d := by omega
    unfold wX7_digestPeopleAndStones_5
    rw [hS.2.1.1.1]
    exact ⟨fun _ => ⟨_, x_d60 hS hQ (d_ns d) 0 (by omega)⟩, fun c => absurd (nI_le (Nat.le_refl _) (by omega)) c⟩
  | m + 1, s, hs => by
    have hn := hS.1.1
    have ih := x_d5 hS hQ m (s + 1) (by omega)
    unfold wX7_digestPeopleAndStones_5
    rw [hS.2.1.1.1, nle (by omega) (by omega)]
    refine ⟨fun c => by omega, fun _ => ⟨4, x_d23 (h := fo3 (psv d) h s) hS (by omega) ?_ 3 0 (by omega)⟩⟩
    rw [nI_1]
    exact ih
theorem x_d77 {d : dt} {td : Nat → Int32} {ar : Nat → Nat} {h : Int64} {Q : Int64 → gz_S → Prop} (htd : ∀ h, h ≤ 24 → bd (td h) 50) : ∀ (m k : Nat) (S : gz_S), XS S d td ar → k + m = d_nc d → (∀ S', fr gX S S' → Q (dg6 d td ar (dg5 d td (dg4 d td (dg3 d td h)))) S') → wX7_digest_77 Q (m + 1) (fo2 (fun k => oI (jl d sk0 k)) (wov d td) h k) (nI k) S
  | 0, k, S, hS, hk, hQ => by
    have hn := hS.1.2.2.2.2.2.1
    obtain rfl : k = d_nc d := by omega
    unfold wX7_digest_77
    rw [hS.2.1.2.2.2.1]
    refine ⟨fun _ => x_dH hS (fun S1 f1 => x_dW (hS.keep f1) htd (fun S2 f2 => hQ S2 (f1.tr f2))), fun c => absurd (nI_le (Nat.le_refl _) (by omega)) c⟩
  | m + 1, k, S, hS, hk, hQ => by
    have hn := hS.1.2.2.2.2.2.1
    unfold wX7_digest_77
    rw [hS.2.1.2.2.2.1, nle (by omega) (by omega), nI_1]
    refine ⟨fun c => by omega, fun _ => x_laid hS (by omega) (fun v e => x_wo hS (by omega) (fun S1 f1 v2 e2 => ?_))⟩
    subst e
    subst e2
    exact x_d77 htd m (k + 1) S1 (hS.keep f1) (by omega) (fun S' f' => hQ S' (f1.tr f'))
theorem x_fault0 {S : gz_S} {y0 y1 : Nat → Nat} {n0 n1 : Nat} {d : dt} {Q : Int32 → gz_S → Prop} (hR : Rd S y0 n0 y1 n1 d) (hQ : Q (oI (tfl true 8 y0 n0)) S) : wX7_fault 0 S Q := by
  unfold wX7_fault
  refine w_within (fun _ _ => ⟨fun c => absurd c n10, fun _ => ?_⟩) (fun g => absurd g01 g)
  unfold wX3_text
  refine ⟨fun c => absurd rfl c, fun _ => ?_⟩
  dsimp only
  rw [hR.1.1.2.2.2.1]
  exact hQ
theorem x_fault1 {S : gz_S} {y0 y1 : Nat → Nat} {n0 n1 : Nat} {d : dt} {Q : Int32 → gz_S → Prop} (hR : Rd S y0 n0 y1 n1 d) (hQ : Q (oI (tfl false 9 y1 n1)) S) : wX7_fault 1 S Q := by
  unfold wX7_fault
  refine w_within (fun _ _ => ⟨fun c => absurd c n10, fun _ => ?_⟩) (fun g => absurd g11 g)
  unfold wX3_text
  refine ⟨fun _ => ?_, fun c => absurd c n10⟩
  dsimp only
  rw [hR.1.2.2.1.2.2.2.1]
  exact hQ
theorem x_d6 {d : dt} {td : Nat → Int32} {ar : Nat → Nat} {y0 y1 : Nat → Nat} {n0 n1 : Nat} {fd : Int32} {Q : Int64 → gz_S → Prop} (htd : ∀ h, h ≤ 24 → bd (td h) 50) : ∀ (m k : Nat) (S : gz_S), XS S d td ar → Rd S y0 n0 y1 n1 d → S 0 7 = fd → k + m = 8 → (∀ S', fr gX S S' → Q (dgv d td ar y0 n0 y1 n1 fd) S') → wX7_digest_6 Q (m + 1) (fo (fun k => ctv d n0 n1 fd (nI k)) 17 k) (nI k) S
  | 0, k, S, hS, hR, hfd, hk, hQ => by
    obtain rfl : k = 8 := by omega
    unfold wX7_digest_6
    refine ⟨fun _ => x_fault0 hR (fun v1 e1 => x_fault1 hR (fun v2 e2 => x_judged S _ hS (fun S1 f1 v3 e3 => ?_))), fun c => absurd (by decide) c⟩
    have hS1 := hS.keep f1
    have ev : v3 = dg1 d y0 n0 y1 n1 fd := by
      rw [e3, e2, e1]
      rfl
    rw [ev]
    refine ⟨_, x_d5 hS1 ?_ (d_np d) 0 (by omega)⟩
    exact ⟨_, x_d77 htd (d_nc d) 0 S1 hS1 (by omega) (fun S' f' => hQ S' (f1.tr f'))⟩
  | m + 1, k, S, hS, hR, hfd, hk, hQ => by
    unfold wX7_digest_6
    rw [show (7 : Int32) = nI 7 from rfl, nlt (by omega) (by omega), nI_1]
    refine ⟨fun c => by omega, fun _ => x_count hR (fun S1 f1 v e => ?_)⟩
    rw [hfd] at e
    subst e
    exact x_d6 htd m (k + 1) S1 (hS.keep f1) (hR.keep (f1.mono gX_g)) (by rw [f1 0 7 (by unfold gX; omega)]; exact hfd) (by omega) (fun S' f' => hQ S' (f1.tr f'))
/-! the reference -/
theorem m_d452 {d : dt} {td : Nat → Int32} {ar : Nat → Nat} {h : Int64} {Q : Int64 → gz_S → Prop} : ∀ (m w : Nat) (S : gz_S), MS S d td ar → w + m = 3 → (∀ S', fr gM S S' → Q (fo (sev d ar (Int32.toInt 3)) h 3) S') → wX8_digest_452 Q (m + 1) (fo (sev d ar (Int32.toInt 3)) h w) (nI w) S
  | 0, w, S, hS, hw, hQ => by
    obtain rfl : w = 3 := by omega
    unfold wX8_digest_452
    exact ⟨fun _ => hQ S fr_rf, fun c => absurd (by decide) c⟩
  | m + 1, w, S, hS, hw, hQ => by
    unfold wX8_digest_452
    rw [show (3 : Int32) ≤ nI w ↔ 3 ≤ w from nle (a := 3) (by decide) (by omega), nI_1]
    refine ⟨fun c => by omega, fun _ => m_secret (told := 3) (by decide) (by omega) S _ hS (fun S1 f1 v e => ?_)⟩
    subst e
    exact m_d452 m (w + 1) S1 (hS.keep f1) (by omega) (fun S' f' => hQ S' (f1.tr f'))
theorem m_d425 {d : dt} {td : Nat → Int32} {ar : Nat → Nat} {h : Int64} {Q : Int64 → gz_S → Prop} : ∀ (m w : Nat) (S : gz_S), MS S d td ar → w + m = 2 → (∀ S', fr gM S S' → Q (fo (sev d ar (Int32.toInt 3)) (fo (gmv d td 2) h 2) 3) S') → wX8_digest_425 Q (m + 1) (fo (gmv d td 2) h w) (nI w) S
  | 0, w, S, hS, hw, hQ => by
    obtain rfl : w = 2 := by omega
    unfold wX8_digest_425
    exact ⟨fun _ => ⟨4, m_d452 3 0 S hS (by omega) hQ⟩, fun c => absurd (by decide) c⟩
  | m + 1, w, S, hS, hw, hQ => by
    unfold wX8_digest_425
    rw [show (2 : Int32) ≤ nI w ↔ 2 ≤ w from nle (a := 2) (by decide) (by omega), nI_1]
    refine ⟨fun c => by omega, fun _ => m_game (n := 2) (by decide) (by decide) (by omega) S _ hS (fun S1 f1 v e => ?_)⟩
    subst e
    exact m_d425 m (w + 1) S1 (hS.keep f1) (by omega) (fun S' f' => hQ S' (f1.tr f'))
theorem m_d399 {d : dt} {td : Nat → Int32} {ar : Nat → Nat} {h : Int64} {Q : Int64 → gz_S → Prop} : ∀ (m w : Nat) (S : gz_S), MS S d td ar → w + m = 2 → (∀ S', fr gM S S' → Q (fo (sev d ar (Int32.toInt 3)) (fo (gmv d td 2) (fo (fun s => hv1 (hof d s (d_np d))) h 2) 2) 3) S') → wX8_digest_399 Q (m + 1) (fo (fun s => hv1 (hof d s (d_np d))) h w) (nI w) S
  | 0, w, S, hS, hw, hQ => by
    obtain rfl : w = 2 := by omega
    unfold wX8_digest_399
    exact ⟨fun _ => ⟨3, m_d425 2 0 S hS (by omega) hQ⟩, fun c => absurd (by decide) c⟩
  | m + 1, w, S, hS, hw, hQ => by
    unfold wX8_digest_399
    rw [show (2 : Int32) ≤ nI w ↔ 2 ≤ w from nle (a := 2) (by decide) (by omega), nI_1]
    refine ⟨fun c => by omega, fun _ => m_hold (by omega) S _ hS (fun S1 f1 v e => ?_)⟩
    subst e
    exact m_d399 m (w + 1) S1 (hS.keep f1) (by omega) (fun S' f' => hQ S' (f1.tr f'))
theorem m_d372 {d : dt} {td : Nat → Int32} {ar : Nat → Nat} {h : Int64} {Q : Int64 → gz_S → Prop} : ∀ (m w : Nat) (S : gz_S), MS S d td ar → w + m = 2 → (∀ S', fr gM S S' → Q (fo (sev d ar (Int32.toInt 3)) (fo (gmv d td 2) (fo (fun s => hv1 (hof d s (d_np d))) (fo (fun s => nI (mw d s (-1))) h 2) 2) 2) 3) S') → wX8_digest_372 Q (m + 1) (fo (fun s => nI (mw d s (-1))) h w) (nI w) S
  | 0, w, S, hS, hw, hQ => by
    obtain rfl : w = 2 := by omega
    unfold wX8_digest_372
    exact ⟨fun _ => ⟨3, m_d399 2 0 S hS (by omega) hQ⟩, fun c => absurd (by decide) c⟩
  | m + 1, w, S, hS, hw, hQ => by
    unfold wX8_digest_372
    rw [show (2 : Int32) ≤ nI w ↔ 2 ≤ w from nle (a := 2) (by decide) (by omega), nI_1]
    refine ⟨fun c => by omega, fun _ => m_mostW (by omega) S _ hS (fun S1 f1 v e => ?_)⟩
    subst e
    exact m_d372 m (w + 1) S1 (hS.keep f1) (by omega) (fun S' f' => hQ S' (f1.tr f'))
theorem m_d296 {d : dt} {td : Nat → Int32} {ar : Nat → Nat} {h : Int64} {Q : Int64 → gz_S → Prop} : ∀ (m w : Nat) (S : gz_S), MS S d td ar → w + m = 3 → (∀ S', fr gM S S' → Q (dg6 d td ar (dg5 d td h)) S') → wX8_digest_296 Q (m + 1) (fo (rsv d td) h w) (nI w) S
  | 0, w, S, hS, hw, hQ => by
    obtain rfl : w = 3 := by omega
    unfold wX8_digest_296
    refine ⟨fun _ => m_settled d td ar S _ hS (fun S1 f1 v1 e1 => ?_), fun c => absurd (by decide) c⟩
    have hS1 := hS.keep f1
    refine m_doubles hS1.1 hS1.2.1.2.2.2.1 (fun j hj => (hS1.2.1.2.2.2.2 j hj).2.1) (fun v2 e2 => ?_)
    refine m_few (w := 0) (by decide) S1 _ hS1 (fun S2 f2 v3 e3 => ?_)
    have hS2 := hS1.keep f2
    refine m_few (w := 1) (by decide) S2 _ hS2 (fun S3 f3 v4 e4 => ?_)
    have hS3 := hS2.keep f3
    have ev : v4 = fo (few d td) (dg5 d td h) 2 := by
      rw [e4, e3, e2, e1]
      rfl
    rw [ev]
    exact ⟨3, m_d372 2 0 S3 hS3 (by omega) (fun S' f' => hQ S' (f1.tr (f2.tr (f3.tr f'))))⟩
  | m + 1, w, S, hS, hw, hQ => by
    unfold wX8_digest_296
    rw [show (3 : Int32) ≤ nI w ↔ 3 ≤ w from nle (a := 3) (by decide) (by omega), nI_1]
    refine ⟨fun c => by omega, fun _ => m_result hS (by omega) (fun S1 f1 v e => ?_)⟩
    subst e
    exact m_d296 m (w + 1) S1 (hS.keep f1) (by omega) (fun S' f' => hQ S' (f1.tr f'))
theorem m_d166 {d : dt} {td : Nat → Int32} {ar : Nat → Nat} {h : Int64} {Q : Int64 → gz_S → Prop} : ∀ (m k : Nat) (S : gz_S), MS S d td ar → k + m = d_nc d → (∀ S', fr gM S S' → Q (dg6 d td ar (dg5 d td (dg4 d td (dg3 d td h)))) S') → wX8_digest_166 Q (m + 1) (fo2 (fun k => oI (jl d sk0 k)) (wov d td) h k) (nI k) S
  | 0, k, S, hS, hk, hQ => by
    have hn := hS.1.2.2.2.2.2.1
    have hb := hS.1.2.2.2.1
    obtain rfl : k = d_nc d := by omega
    unfold wX8_digest_166
    rw [hS.2.1.2.2.2.1]
    refine ⟨fun _ => ?_, fun c => absurd (nI_le (Nat.le_refl _) (by omega)) c⟩
    refine hS.tip (h := 3) (by decide) (fun S1 f1 _ _ v1 e1 => ?_)
    have hS1 := hS.keep f1
    refine hS1.end_ (hS1.tip hb.2 (fun S2 f2 _ hH v2 e2 => ?_))
    have hS2 := hS1.keep f2
    have h5 : S2 63 5 = nI ((hf d (qq d sk0 (d_hr d + 1))).1 4) := hH.1 4 (by decide)
    have h7 : S2 63 7 = nI ((hf d (qq d sk0 (d_hr d + 1))).1 5) := hH.1 5 (by decide)
    have h25 : S2 45 25 = nI (hf d (qq d sk0 (d_hr d + 1))).2.2 := hH.2.2
    refine ⟨pn_in (j := 5) (by decide) (by decide), fun v3 e3 => ⟨pn_in (j := 7) (by decide) (by decide), fun v4 e4 v5 e5 => ?_⟩⟩
    rw [show (5 : Int32).toNatClampNeg = 5 by decide, h5] at e3
    rw [show (7 : Int32).toNatClampNeg = 7 by decide, h7] at e4
    rw [h25] at e5
    refine m_when d td ar S2 _ hS2 (fun S3 f3 v6 e6 => ?_)
    have hS3 := hS2.keep f3
    have ev : v6 = dg4 d td (dg3 d td h) := by
      rw [e6, e5, e4, e3, e2, e1]
      rfl
    rw [ev]
    exact ⟨4, m_d296 3 0 S3 hS3 (by omega) (fun S' f' => hQ S' (f1.tr (f2.tr (f3.tr f'))))⟩
  | m + 1, k, S, hS, hk, hQ => by
    have hn := hS.1.2.2.2.2.2.1
    unfold wX8_digest_166
    rw [hS.2.1.2.2.2.1, nle (by omega) (by omega), nI_1, pn_cl (by omega)]
    refine ⟨fun c => by omega, fun _ => m_goes hS.1 hS.2.1 (fun S1 f1 hJ => ⟨pn_in (by omega) (by decide), fun v e => ?_⟩)⟩
    have f1M := f1.mono gP_M
    have hS1 := hS.keep f1M
    have e60 : S1 60 k = oI (jl d sk0 k) := hJ.1 k (by omega)
    rw [e60] at e
    refine m_wo hS1 (by omega) (fun S2 f2 v2 e2 => ?_)
    subst e
    subst e2
    exact m_d166 m (k + 1) S2 (hS1.keep f2) (by omega) (fun S' f' => hQ S' (f1M.tr (f2.tr f')))
theorem m_d131 {d : dt} {s : Nat} {h : Int64} {k60 : Int64 → Int32 → gz_S → Prop} {Q : Int64 → gz_S → Prop} {S : gz_S} (hd : d_ok d) (hM : d_M S d) (hJ : jM S d sk0 (d_nc d)) (hs : s < d_ns d) (hk : k60 (fo (stnv d s) h 3) (nI s + 1) S) : ∀ (m w : Nat), w + m = 3 → wX8_digest_131 k60 Q (m + 1) (fo (stnv d s) h w) (nI s) (nI w) S
  | 0, w, hw => by
    obtain rfl : w = 3 := by omega
    unfold wX8_digest_131
    exact ⟨fun _ => hk, fun c => absurd (by decide) c⟩
  | m + 1, w, hw => by
    have ih := m_d131 (Q := Q) hd hM hJ hs hk m (w + 1) (by omega)
    unfold wX8_digest_131
    rw [show (3 : Int32) ≤ nI w ↔ 3 ≤ w from nle (a := 3) (by decide) (by omega), nI_1 w]
    refine ⟨fun c => by omega, fun _ => m_stone hd hM hJ hs (by omega) (fun v e => ?_)⟩
    subst e
    exact ih
theorem m_d120 {d : dt} {h : Int64} {Q : Int64 → gz_S → Prop} {S : gz_S} (hd : d_ok d) (hM : d_M S d) (hJ : jM S d sk0 (d_nc d)) (hQ : ∃ m166, wX8_digest_166 Q m166 (fo3 (stnv d) h (d_ns d)) 0 S) : ∀ (m s : Nat), s + m = d_ns d → wX8_digest_120 Q (m + 1) (fo3 (stnv d) h s) (nI s) S
  | 0, s, hs => by
    have hn := hd.1
    obtain rfl : s = d_ns d := by omega
    unfold wX8_digest_120
    rw [hM.2.1.1]
    exact ⟨fun _ => hQ, fun c => absurd (nI_le (Nat.le_refl _) (by omega)) c⟩
  | m + 1, s, hs => by
    have hn := hd.1
    have ih := m_d120 hd hM hJ hQ m (s + 1) (by omega)
    unfold wX8_digest_120
    rw [hM.2.1.1, nle (by omega) (by omega)]
    refine ⟨fun c => by omega, fun _ => ⟨4, m_d131 (h := fo3 (stnv d) h s) hd hM hJ (by omega) ?_ 3 0 (by omega)⟩⟩
    rw [nI_1]
    exact ih
theorem m_d85 {d : dt} {s : Nat} {h : Int64} {k60 : Int64 → Int32 → gz_S → Prop} {Q : Int64 → gz_S → Prop} {S : gz_S} (hd : d_ok d) (hM : d_M S d) (hJ : jM S d sk0 (d_nc d)) (hs : s < d_np d) (hk : k60 (fo (psv d s) h 3) (nI s + 1) S) : ∀ (m w : Nat), w + m = 3 → wX8_digest_85 k60 Q (m + 1) (fo (psv d s) h w) (nI s) (nI w) S
  | 0, w, hw => by
    obtain rfl : w = 3 := by omega
    unfold wX8_digest_85
    exact ⟨fun _ => hk, fun c => absurd (by decide) c⟩
  | m + 1, w, hw => by
    have ih := m_d85 (Q := Q) hd hM hJ hs hk m (w + 1) (by omega)
    unfold wX8_digest_85
    rw [show (3 : Int32) ≤ nI w ↔ 3 ≤ w from nle (a := 3) (by decide) (by omega), nI_1 w]
    refine ⟨fun c => by omega, fun _ => m_person hd hM hJ hs (by omega) (fun v e => ?_)⟩
    subst e
    exact ih
theorem m_d74 {d : dt} {h : Int64} {Q : Int64 → gz_S → Prop} {S : gz_S} (hd : d_ok d) (hM : d_M S d) (hJ : jM S d sk0 (d_nc d)) (hQ : ∃ m166, wX8_digest_166 Q m166 (dg2 d h) 0 S) : ∀ (m s : Nat), s + m = d_np d → wX8_digest_74 Q (m + 1) (fo3 (psv d) h s) (nI s) S
  | 0, s, hs => by
    have hn := hd.1
    obtain rfl : s = d_np d := by omega
    unfold wX8_digest_74
    rw [hM.1.1]
    exact ⟨fun _ => ⟨_, m_d120 hd hM hJ hQ (d_ns d) 0 (by omega)⟩, fun c => absurd (nI_le (Nat.le_refl _) (by omega)) c⟩
  | m + 1, s, hs => by
    have hn := hd.1
    have ih := m_d74 hd hM hJ hQ m (s + 1) (by omega)
    unfold wX8_digest_74
    rw [hM.1.1, nle (by omega) (by omega)]
    refine ⟨fun c => by omega, fun _ => ⟨4, m_d85 (h := fo3 (psv d) h s) hd hM hJ (by omega) ?_ 3 0 (by omega)⟩⟩
    rw [nI_1]
    exact ih
theorem m_reads2 {S : gz_S} {y0 y1 : Nat → Nat} {n0 n1 : Nat} {d : dt} {x : Int64} {K : Int64 → Int32 → gz_S → Prop} (h : Rd S y0 n0 y1 n1 d) (hQ : ∀ S', fr gq S S' → d_M S' d → Rd S' y0 n0 y1 n1 d → K (31 * x + (oI (tfl true 8 y0 n0)).toInt64) (oI (tfl false 9 y1 n1)) S') : wX8_readsPeople S (fun r S1 => ∀ v : Int64, v = 31 * x + r.toInt64 → wX8_readsStones S1 (fun r2 S2 => K v r2 S2)) := by
  obtain ⟨⟨-, t0, -, t1, e0, e1⟩, ⟨-, -, c1⟩, -⟩ := id h
  have f1 : d_np d = tsz true 8 y0 n0 := by unfold d_np; rw [e0]
  have f2 : d_st d = tfs y0 := by unfold d_st; rw [e0]
  have f3 : d_sd d = tsn true y0 := by unfold d_sd; rw [e0]
  have f4 : d_ns d = tsz false 9 y1 n1 := by unfold d_ns; rw [e1]
  have f5 : d_wt d = tfs y1 := by unfold d_wt; rw [e1]
  have f6 : d_wy d = tsn false y1 := by unfold d_wy; rw [e1]
  refine m_readsPeople t0 (fun S1 hf1 a1 a2 v ev => ?_)
  rw [ev]
  refine m_readsStones (t1.keep (fun c j h => hf1 c j (by unfold rP; omega))) (fun S2 hf2 b1 b2 => ?_)
  have hg : fr gq S S2 := (hf1.mono (fun a j h => by unfold rP at h; unfold gq; omega)).tr (hf2.mono (fun a j h => by unfold rS at h; unfold gq; omega))
  have h2 := h.keep hg
  refine hQ S2 hg ⟨⟨?_, fun p hp => ?_⟩, ⟨by rw [f4]; exact b1, fun s hs => ?_⟩, h2.2.1.2.2⟩ h2
  · rw [f1, hf2 _ _ (by unfold rS; omega)]; exact a1
  · rw [f1] at hp
    obtain ⟨q1, q2⟩ := txt_pairs (cap := 0) hp
    rw [f2, f3, hf2 52 _ (by unfold rS; omega), hf2 53 _ (by unfold rS; omega)]
    exact a2 q1 p q2
  · rw [f4] at hs
    obtain ⟨q1, q2⟩ := txt_pairs (cap := 0) hs
    rw [f5, f6]
    exact b2 q1 s q2
theorem m_d6 {d : dt} {td : Nat → Int32} {ar : Nat → Nat} {y0 y1 : Nat → Nat} {n0 n1 : Nat} {fd : Int32} {S0 : gz_S} {Q : Int64 → gz_S → Prop} (hMS : ∀ S', fr gq S0 S' → d_M S' d → MS S' d td ar) (hQ : ∀ S', fr gq S0 S' → Q (dgv d td ar y0 n0 y1 n1 fd) S') : ∀ (m k : Nat) (S : gz_S), Rd S y0 n0 y1 n1 d → fr gq S0 S → S 0 7 = fd → k + m = 8 → wX8_digest_6 Q (m + 1) (fo (fun k => ctv d n0 n1 fd (nI k)) 17 k) (nI k) S
  | 0, k, S, hR, hf, hfd, hk => by
    obtain rfl : k = 8 := by omega
    unfold wX8_digest_6
    refine ⟨fun _ => m_reads2 hR (fun S1 f1 hM1 hR1 v2 e2 => ?_), fun c => absurd (by decide) c⟩
    have hd := hR.ok
    refine m_goes hd hM1 (fun S2 f2 hJ v3 e3 => ?_)
    have f2q : fr gq S1 S2 := f2.mono gP_g
    have hf2 : fr gq S0 S2 := hf.tr (f1.tr f2q)
    have hM2 := hM1.goes f2
    have hS2 := hMS S2 hf2 hM2
    have e22 : S2 45 22 = oI (fg d sk0 (d_nc d)) := hJ.2.2.2.2
    rw [e22, e2] at e3
    have ev : v3 = dg1 d y0 n0 y1 n1 fd := e3
    rw [ev]
    refine ⟨d_np d + 1, m_d74 hd hM2 hJ ⟨d_nc d + 1, ?_⟩ (d_np d) 0 (by omega)⟩
    exact m_d166 (d_nc d) 0 S2 hS2 (by omega) (fun S' f' => hQ S' (hf2.tr (f'.mono gM_g)))
  | m + 1, k, S, hR, hf, hfd, hk => by
    unfold wX8_digest_6
    rw [show (8 : Int32) ≤ nI k ↔ 8 ≤ k from nle (a := 8) (by decide) (by omega), nI_1]
    refine ⟨fun c => by omega, fun _ => m_count hR (fun S1 f1 v e => ?_)⟩
    rw [hfd] at e
    subst e
    exact m_d6 hMS hQ m (k + 1) S1 (hR.keep f1) (hf.tr f1) (by rw [f1 0 7 (by unfold gq; omega)]; exact hfd) (by omega)
theorem p_digest (S : gz_S) (F : Prop → Prop) (K : Int64 → Int64 → gz_S → Prop) (hR : Rel S) (hF : ∀ p, p → F p) (hK : ∀ r S2, Rel S2 → K r r S2) : wX7_digest S (fun r S1 => F (wX8_digest S1 (fun r2 S2 => K r r2 S2))) := by
  obtain ⟨y0, n0, y1, n1, d, hR⟩ := hR
  obtain ⟨td, ar, hX, hMS⟩ := hR.both
  have htd : ∀ t, t ≤ 24 → bd (td t) 50 := fun t ht => by rw [← hX.2.2.2.1 t ht]; exact (hR.2.2.2.1 t ht).2
  refine ⟨9, x_d6 htd 8 0 S hX hR rfl (by omega) (fun S1 f1 => hF _ ?_)⟩
  have f1q := f1.mono gX_g
  have hR1 := hR.keep f1q
  exact ⟨9, m_d6 (S0 := S1) (fun S' f' hM => hMS S' (f1q.tr f') hM) (fun S' f' => hK _ S' ⟨_, _, _, _, _, hR1.keep f'⟩) 8 0 S1 hR1 fr_rf (f1 0 7 (by unfold gX; omega)) (by omega)⟩
