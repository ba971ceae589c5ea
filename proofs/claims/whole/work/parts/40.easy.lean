/-! ===== what each side holds, and what looking changes ===== -/
theorem pn_rng1 {x : Int32} {hi : Nat} (hh : hi < 2147483648) (h0 : 1 ≤ x) (h1 : x ≤ nI hi) : ∃ j : Nat, 1 ≤ j ∧ j ≤ hi ∧ x = nI j := by
  have e0 : (0 : Int32).toInt = 0 := by decide
  have e1 : (1 : Int32).toInt = 1 := by decide
  have h2 : 0 ≤ x := by rw [pn_le] at h0 ⊢; omega
  obtain ⟨j, h3, h4⟩ := pn_rng hh h2 h1
  refine ⟨j, ?_, h3, h4⟩
  rw [h4, pn_le, e1, pn_t (by omega)] at h0
  omega
def gX (a j : Nat) : Prop := a = 21 ∨ a = 22 ∨ (a = 16 ∧ j = 9) ∨ (23 ≤ a ∧ a ≤ 35)
def gM (a j : Nat) : Prop := (a = 45 ∧ (j = 21 ∨ j = 22 ∨ j = 25)) ∨ a = 49 ∨ (60 ≤ a ∧ a ≤ 72)
theorem gX_g (a j : Nat) (h : gX a j) : gq a j := by unfold gX at h; unfold gq; omega
theorem gM_g (a j : Nat) (h : gM a j) : gq a j := by unfold gM at h; unfold gq; omega
theorem hP_X (a j : Nat) (h : hP 16 a j) : gX a j := by unfold hP at h; unfold gX; omega
theorem hP_X2 (a j : Nat) (h : hP 23 a j) : gX a j := by unfold hP at h; unfold gX; omega
theorem jP_X2 (a j : Nat) (h : jP 23 a j) : gX a j := by unfold jP at h; unfold gX; omega
theorem gP_M (a j : Nat) (h : gP a j) : gM a j := by unfold gP at h; unfold gM; omega
theorem kP_M (a j : Nat) (h : kP a j) : gM a j := by unfold kP at h; unfold gM; omega
def XS (S : gz_S) (d : dt) (td : Nat → Int32) (ar : Nat → Nat) : Prop := d_ok d ∧ d_X S d ∧ jX S 16 d sk0 (d_nc d) ∧ (∀ h, h ≤ 24 → S 10 h = td h) ∧ ∀ p, p < 8 → S 11 p = nI (ar p) ∧ ar p ≤ 5
def MS (S : gz_S) (d : dt) (td : Nat → Int32) (ar : Nat → Nat) : Prop := d_ok d ∧ d_M S d ∧ (∀ h, h ≤ 24 → S 57 h = td h) ∧ ∀ p, p < 8 → S 58 p = nI (ar p) ∧ ar p ≤ 5
theorem XS.keep {S S' : gz_S} {d : dt} {td : Nat → Int32} {ar : Nat → Nat} (h : XS S d td ar) (hf : fr gX S S') : XS S' d td ar := by
  obtain ⟨h1, h2, h3, h4, h5⟩ := h
  refine ⟨h1, h2.low (fun a j h => hf a j (by unfold gX; omega)), h3.keep (fun a j h => hf a j (by unfold gX; omega)), fun h hh => ?_, fun p hp => ?_⟩
  · rw [hf _ _ (by unfold gX; omega)]; exact h4 h hh
  · rw [hf _ _ (by unfold gX; omega)]; exact h5 p hp
theorem MS.keep {S S' : gz_S} {d : dt} {td : Nat → Int32} {ar : Nat → Nat} (h : MS S d td ar) (hf : fr gM S S') : MS S' d td ar := by
  obtain ⟨h1, h2, h4, h5⟩ := h
  refine ⟨h1, h2.keep (fun a j h => hf a j (by unfold gM; omega)), fun h hh => ?_, fun p hp => ?_⟩
  · rw [hf _ _ (by unfold gM; omega)]; exact h4 h hh
  · rw [hf _ _ (by unfold gM; omega)]; exact h5 p hp
/-- the tip at an hour -/
def tp (d : dt) (td : Nat → Int32) (h : Nat) : Int32 := tpv (td h) (hf d (qq d sk0 (h + 1))).1
theorem XS.tip {S : gz_S} {d : dt} {td : Nat → Int32} {ar : Nat → Nat} {h : Nat} {Q : Int32 → gz_S → Prop} (hS : XS S d td ar) (hh : h ≤ 24) (hQ : ∀ S', fr gX S S' → hX S' 16 (hf d (qq d sk0 (h + 1))) (plf d (qq d sk0 (h + 1))) → pX d (hf d (qq d sk0 (h + 1))) (plf d (qq d sk0 (h + 1))) → Q (tp d td h) S') : wX2_tipAt 16 (nI h) S Q :=
  x_tipAt (Or.inl rfl) hS.1 hS.2.1 hS.2.2.1 hh (fun S1 hf1 a b => by rw [hS.2.2.2.1 h hh]; exact hQ S1 (hf1.mono hP_X) a b)
theorem MS.tip {S : gz_S} {d : dt} {td : Nat → Int32} {ar : Nat → Nat} {h : Nat} {Q : Int32 → gz_S → Prop} (hS : MS S d td ar) (hh : h ≤ 24) (hQ : ∀ S', fr gM S S' → jM S' d sk0 (d_nc d) → hM S' d (hf d (qq d sk0 (h + 1))) → Q (tp d td h) S') : wX8_tipOf (nI h) S Q := by
  obtain ⟨hd, hMM, h4, h5⟩ := hS
  unfold wX8_tipOf
  refine m_goes hd hMM (fun S1 hf1 hJ => m_heaps (sk := sk0) hd (hMM.goes hf1) hh hJ.1 (fun S2 hf2 hH => m_tipNow hh hH ?_))
  have e : S2 57 h = td h := by rw [hf2 _ _ (by unfold kP; omega), hf1 _ _ (by unfold gP; omega)]; exact h4 h hh
  rw [e]
  refine hQ S2 ((hf1.mono gP_M).tr (hf2.mono kP_M)) ?_ hH
  obtain ⟨j1, j2, j3, j4, j5⟩ := hJ
  refine ⟨fun j hj => ?_, fun t ht => ?_, fun p hp => ?_, ?_, ?_⟩
  · rw [hf2 _ _ (by unfold kP; omega)]; exact j1 j hj
  · rw [hf2 _ _ (by unfold kP; omega)]; exact j2 t ht
  · rw [hf2 _ _ (by unfold kP; omega)]; exact j3 p hp
  · rw [hf2 _ _ (by unfold kP; omega)]; exact j4
  · rw [hf2 _ _ (by unfold kP; omega)]; exact j5
theorem MS.end_ {S : gz_S} {d : dt} {td : Nat → Int32} {ar : Nat → Nat} {Q : Int32 → gz_S → Prop} (hS : MS S d td ar) (hQ : Q (nI (d_hr d)) S) : wX8_end S Q := by
  unfold wX8_end
  rw [cl0, hS.2.1.2.2.1.1]
  exact ⟨in02, hQ⟩
/-- both sides out of the relation -/
theorem Rd.both {S : gz_S} {y0 y1 : Nat → Nat} {n0 n1 : Nat} {d : dt} (h : Rd S y0 n0 y1 n1 d) : ∃ (td : Nat → Int32) (ar : Nat → Nat), XS S d td ar ∧ ∀ S', fr gq S S' → d_M S' d → MS S' d td ar := by
  obtain ⟨o1, o2, o3, o4⟩ := h.2.2.2
  have ha : ∃ ar : Nat → Nat, ∀ p, p < 8 → S 11 p = nI (ar p) ∧ ar p ≤ 5 := by
    refine ⟨fun p => (S 11 p).toNatClampNeg, fun p hp => ?_⟩
    obtain ⟨-, v, h1, h2⟩ := o2 p hp
    dsimp only
    rw [h2, pn_cl (by omega)]
    exact ⟨rfl, h1⟩
  obtain ⟨ar, ha⟩ := ha
  refine ⟨fun h => S 10 h, ar, ⟨h.ok, h.X, h.2.2.1, fun _ _ => rfl, ha⟩, fun S' hf hM => ⟨h.ok, hM, fun t ht => ?_, fun p hp => ?_⟩⟩
  · rw [hf _ _ (by unfold gq; omega)]; exact (o1 t ht).1.symm
  · rw [hf _ _ (by unfold gq; omega), ← (o2 p hp).1]; exact ha p hp
/-- a call that only looks: the system answers v, so does the reference once it has read -/
theorem pr_look {wx : gz_S → (Int32 → gz_S → Prop) → Prop} {wm : gz_S → (Int32 → gz_S → Prop) → Prop} (h : ∀ d td ar, ∃ v : Int32, (∀ S Q, XS S d td ar → (∀ S', fr gX S S' → Q v S') → wx S Q) ∧ (∀ S Q y0 n0 y1 n1, Rd S y0 n0 y1 n1 d → (∀ S', fr gq S S' → d_M S' d → MS S' d td ar) → (∀ S', fr gq S S' → Q v S') → wm S Q)) : pr wx wm := by
  intro S F K ⟨y0, n0, y1, n1, d, hR⟩ hF hK
  obtain ⟨td, ar, hX, hMS⟩ := hR.both
  obtain ⟨v, h1, h2⟩ := h d td ar
  refine h1 S _ hX (fun S1 hf1 => hF _ (h2 S1 _ y0 n0 y1 n1 (hR.keep (hf1.mono gX_g)) (fun S' hf hM => hMS S' ((hf1.mono gX_g).tr hf) hM) (fun S2 hf2 => hK _ S2 ⟨_, _, _, _, _, (hR.keep (hf1.mono gX_g)).keep hf2⟩)))
theorem in_h {x : Int32} (h0 : 0 ≤ x) (h1 : x ≤ 24) : ∃ h : Nat, h ≤ 24 ∧ x = nI h := pn_rng (hi := 24) (by decide) h0 h1
/-! ===== tip, shelf, slid ===== -/
theorem x_tip {S : gz_S} {d : dt} {td : Nat → Int32} {ar : Nat → Nat} {h : Nat} {Q : Int32 → gz_S → Prop} (hS : XS S d td ar) (hh : h ≤ 24) (hQ : ∀ S', fr gX S S' → Q (tp d td h) S') : wX7_tip (nI h) S Q := by
  unfold wX7_tip
  refine w_within (fun g1 g2 => ⟨fun c => absurd c n10, fun _ => ?_⟩) (fun g => absurd ⟨?_, ?_⟩ g)
  · exact hS.tip hh (fun S1 hf1 _ _ => hQ S1 hf1)
  · exact nI_pos' (by omega)
  · exact nI_le (b := 24) hh (by decide)
theorem p_tip (x1 : Int32) : pr (wX7_tip x1) (wX8_tip x1) := by
  refine pr_look (fun d td ar => ?_)
  by_cases g : 0 ≤ x1 ∧ x1 ≤ 24
  · obtain ⟨h, hh, rfl⟩ := in_h g.1 g.2
    refine ⟨tp d td h, fun S Q hS hQ => x_tip hS hh hQ, fun S Q y0 n0 y1 n1 hR hMS hQ => ?_⟩
    unfold wX8_tip
    refine m_reads hR (fun S2 hf2 hM2 hR2 => w_isHour (fun _ _ => ⟨fun c => absurd c n10, fun _ => ?_⟩) (fun g2 => absurd g g2))
    exact (hMS S2 hf2 hM2).tip hh (fun S3 hf3 _ _ => hQ S3 (hf2.tr (hf3.mono gM_g)))
  · refine ⟨-10002, fun S Q hS hQ => ?_, fun S Q y0 n0 y1 n1 hR hMS hQ => ?_⟩
    · unfold wX7_tip
      exact w_within (fun a b => absurd ⟨a, b⟩ g) (fun _ => ⟨fun _ => hQ S fr_rf, fun c => absurd rfl c⟩)
    · unfold wX8_tip
      exact m_reads hR (fun S2 hf2 hM2 hR2 => w_isHour (fun a b => absurd ⟨a, b⟩ g) (fun _ => ⟨fun _ => hQ S2 hf2, fun c => absurd rfl c⟩))
theorem x_slid {S : gz_S} {d : dt} {td : Nat → Int32} {ar : Nat → Nat} {h : Nat} {Q : Int32 → gz_S → Prop} (hS : XS S d td ar) (hh : h ≤ 24) (hQ : ∀ S', fr gX S S' → Q (nI (hf d (qq d sk0 (h + 1))).2.2) S') : wX7_slid (nI h) S Q := by
  unfold wX7_slid
  refine w_within (fun g1 g2 => ⟨fun _ => ?_, fun c => absurd c n10⟩) (fun g => absurd ⟨nI_pos' (by omega), nI_le (b := 24) hh (by decide)⟩ g)
  refine x_pileUp (Or.inl rfl) hS.1 hS.2.1 hS.2.2.1 hh (fun S1 hf1 a b => ?_)
  rw [a.2.2]
  exact hQ S1 (hf1.mono hP_X)
theorem p_slid (x1 : Int32) : pr (wX7_slid x1) (wX8_slid x1) := by
  refine pr_look (fun d td ar => ?_)
  by_cases g : 0 ≤ x1 ∧ x1 ≤ 24
  · obtain ⟨h, hh, rfl⟩ := in_h g.1 g.2
    refine ⟨nI (hf d (qq d sk0 (h + 1))).2.2, fun S Q hS hQ => x_slid hS hh hQ, fun S Q y0 n0 y1 n1 hR hMS hQ => ?_⟩
    unfold wX8_slid
    refine m_reads hR (fun S2 hf2 hM2 hR2 => w_isHour (fun _ _ => ⟨fun c => absurd c n10, fun _ => ?_⟩) (fun g2 => absurd g g2))
    unfold wX8_slidOf
    refine m_goes hR.ok hM2 (fun S3 hf3 hJ => m_heaps (sk := sk0) hR.ok (hM2.goes hf3) hh hJ.1 (fun S4 hf4 hH => ?_))
    rw [hH.2.2]
    exact hQ S4 (hf2.tr ((fr_g hf3 gP_g).tr (fr_g hf4 kP_g)))
  · refine ⟨-2, fun S Q hS hQ => ?_, fun S Q y0 n0 y1 n1 hR hMS hQ => ?_⟩
    · unfold wX7_slid
      exact w_within (fun a b => absurd ⟨a, b⟩ g) (fun _ => ⟨fun c => absurd rfl c, fun _ => hQ S fr_rf⟩)
    · unfold wX8_slid
      exact m_reads hR (fun S2 hf2 hM2 hR2 => w_isHour (fun a b => absurd ⟨a, b⟩ g) (fun _ => ⟨fun _ => hQ S2 hf2, fun c => absurd rfl c⟩))
theorem x_shelf {S : gz_S} {d : dt} {td : Nat → Int32} {ar : Nat → Nat} {s a h : Nat} {Q : Int32 → gz_S → Prop} (hS : XS S d td ar) (hs : s ≤ 1) (ha1 : 1 ≤ a) (ha : a ≤ 5) (hh : h ≤ 24) (hQ : ∀ S', fr gX S S' → Q (nI ((hf d (qq d sk0 (h + 1))).1 (s * 5 + a - 1))) S') : wX7_shelf (nI s) (nI a) (nI h) S Q := by
  unfold wX7_shelf
  refine w_within (fun g1 g2 => ⟨fun c => absurd c n10, fun _ => ?_⟩) (fun g => absurd ⟨nI_pos' (by omega), nI_le (b := 1) hs (by decide)⟩ g)
  refine w_within (fun g3 g4 => ⟨fun c => absurd c n10, fun _ => ?_⟩) (fun g => absurd ⟨nI_le (a := 1) ha1 (by omega), nI_le (b := 5) ha (by decide)⟩ g)
  refine w_within (fun g5 g6 => ⟨fun _ => ?_, fun c => absurd c n10⟩) (fun g => absurd ⟨nI_pos' (by omega), nI_le (b := 24) hh (by decide)⟩ g)
  refine x_pileUp (Or.inl rfl) hS.1 hS.2.1 hS.2.2.1 hh (fun S1 hf1 q1 q2 => ?_)
  unfold wX7_shelfNumber
  have esh : nI s * 5 + nI a - 1 = nI (s * 5 + a - 1) := by
    rw [show nI s * 5 = nI (s * 5) from pk_mul s 5, nI_add, show (1 : Int32) = nI 1 from rfl, pk_sub (by omega)]
  rw [esh]
  dsimp only
  rw [pn_cl (by omega)]
  refine ⟨pn_in (by omega) (by decide), ?_⟩
  have e5 : S1 21 (s * 5 + a - 1) = nI ((hf d (qq d sk0 (h + 1))).1 (s * 5 + a - 1)) := q1.1 _ (by omega)
  rw [e5]
  exact hQ S1 (hf1.mono hP_X)
theorem p_shelf (x1 x2 x3 : Int32) : pr (wX7_shelf x1 x2 x3) (wX8_shelf x1 x2 x3) := by
  refine pr_look (fun d td ar => ?_)
  by_cases g1 : 0 ≤ x1 ∧ x1 ≤ 1
  · by_cases g2 : 1 ≤ x2 ∧ x2 ≤ 5
    · by_cases g3 : 0 ≤ x3 ∧ x3 ≤ 24
      · obtain ⟨h, hh, rfl⟩ := in_h g3.1 g3.2
        obtain ⟨s, hs, rfl⟩ := pn_rng (hi := 1) (by decide) g1.1 g1.2
        obtain ⟨a, ha1, ha, rfl⟩ := pn_rng1 (hi := 5) (by decide) g2.1 g2.2
        refine ⟨_, fun S Q hS hQ => x_shelf hS hs ha1 ha hh hQ, fun S Q y0 n0 y1 n1 hR hMS hQ => ?_⟩
        unfold wX8_shelf
        refine w_isTwo (fun _ _ => ⟨fun c => absurd c n10, fun _ => ?_⟩) (fun g => absurd g1 g)
        refine w_in (lo := 1) (hi := 5) (by decide) (by decide) (fun _ _ => ⟨fun c => absurd c n10, fun _ => ?_⟩) (fun g => absurd g2 g)
        refine w_isHour (fun _ _ => ⟨fun _ => ?_, fun c => absurd c n10⟩) (fun g => absurd g3 g)
        refine m_reads hR (fun S2 hf2 hM2 hR2 => m_goes hR.ok hM2 (fun S3 hf3 hJ => m_heaps (sk := sk0) hR.ok (hM2.goes hf3) hh hJ.1 (fun S4 hf4 hH => ?_)))
        have em : (6 : Int32) * nI s + nI a = nI (mx (s * 5 + a - 1)) := by
          rw [show (6 : Int32) * nI s = nI (6 * s) from pk_mul 6 s, nI_add]
          congr 1
          unfold mx
          omega
        rw [em, pn_cl (by unfold mx; omega), hH.1 _ (by omega)]
        exact ⟨pn_in (by unfold mx; omega) (by decide), hQ S4 (hf2.tr ((fr_g hf3 gP_g).tr (fr_g hf4 kP_g)))⟩
      · refine ⟨-2, fun S Q hS hQ => ?_, fun S Q y0 n0 y1 n1 hR hMS hQ => ?_⟩
        · unfold wX7_shelf
          exact w_within (fun _ _ => ⟨fun c => absurd c n10, fun _ => w_within (fun _ _ => ⟨fun c => absurd c n10, fun _ => w_within (fun a b => absurd ⟨a, b⟩ g3) (fun _ => ⟨fun c => absurd rfl c, fun _ => hQ S fr_rf⟩)⟩) (fun g => absurd g2 g)⟩) (fun g => absurd g1 g)
        · unfold wX8_shelf
          exact w_isTwo (fun _ _ => ⟨fun c => absurd c n10, fun _ => w_in (lo := 1) (hi := 5) (by decide) (by decide) (fun _ _ => ⟨fun c => absurd c n10, fun _ => w_isHour (fun a b => absurd ⟨a, b⟩ g3) (fun _ => ⟨fun c => absurd rfl c, fun _ => hQ S fr_rf⟩)⟩) (fun g => absurd g2 g)⟩) (fun g => absurd g1 g)
    · refine ⟨-2, fun S Q hS hQ => ?_, fun S Q y0 n0 y1 n1 hR hMS hQ => ?_⟩
      · unfold wX7_shelf
        exact w_within (fun _ _ => ⟨fun c => absurd c n10, fun _ => w_within (fun a b => absurd ⟨a, b⟩ g2) (fun _ => ⟨fun _ => hQ S fr_rf, fun c => absurd rfl c⟩)⟩) (fun g => absurd g1 g)
      · unfold wX8_shelf
        exact w_isTwo (fun _ _ => ⟨fun c => absurd c n10, fun _ => w_in (lo := 1) (hi := 5) (by decide) (by decide) (fun a b => absurd ⟨a, b⟩ g2) (fun _ => ⟨fun _ => hQ S fr_rf, fun c => absurd rfl c⟩)⟩) (fun g => absurd g1 g)
  · refine ⟨-2, fun S Q hS hQ => ?_, fun S Q y0 n0 y1 n1 hR hMS hQ => ?_⟩
    · unfold wX7_shelf
      exact w_within (fun a b => absurd ⟨a, b⟩ g1) (fun _ => ⟨fun _ => hQ S fr_rf, fun c => absurd rfl c⟩)
    · unfold wX8_shelf
      exact w_isTwo (fun a b => absurd ⟨a, b⟩ g1) (fun _ => ⟨fun _ => hQ S fr_rf, fun c => absurd rfl c⟩)
