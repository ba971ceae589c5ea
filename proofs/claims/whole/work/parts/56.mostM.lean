/-! ===== the reference: the most ===== -/
theorem b01_b (b : Bool) : gz_b01 (bI b) := by cases b; exact b01_0; exact b01_1
def lfb (d : dt) (q o : Nat) : Nat → Bool
  | 0 => true
  | s + 1 => lfb d q o s && (!o.testBit s || decide (d_wt d s ≤ q))
theorem lfb_iff {d : dt} {q o : Nat} : ∀ n, lfb d q o n = true ↔ ∀ s, s < n → o.testBit s = true → d_wt d s ≤ q
  | 0 => ⟨fun _ s h => by omega, fun _ => rfl⟩
  | n + 1 => by
    have ih := lfb_iff (d := d) (q := q) (o := o) n
    show (lfb d q o n && (!o.testBit n || decide (d_wt d n ≤ q))) = true ↔ _
    rw [Bool.and_eq_true, ih, Bool.or_eq_true, decide_eq_true_eq]
    constructor
    · intro h s hs hb
      by_cases e : s = n
      · rcases h.2 with g | g
        · rw [← e, hb] at g; cases g
        · rw [e]; exact g
      · exact h.1 s (by omega) hb
    · intro h
      refine ⟨fun s hs hb => h s (by omega) hb, ?_⟩
      cases e : o.testBit n with
      | false => exact Or.inl rfl
      | true => exact Or.inr (h n (by omega) e)
def feb (d : dt) (q o : Nat) : Bool := lfb d q o (d_ns d) && decide (tm d o ≤ d_hr d)
theorem feb_iff {d : dt} {q o : Nat} (ho : o < 2 ^ d_ns d) : feb d q o = true ↔ fe d q o := by
  unfold feb fe lf
  rw [Bool.and_eq_true, lfb_iff, decide_eq_true_eq]
  refine and_congr_left (fun _ => ⟨fun h s hs => ⟨bit_lt ho hs, h s (bit_lt ho hs) hs⟩, fun h s _ hb => (h s hb).2⟩)
def tmf (d : dt) (o s : Nat) : Nat := fb_sm (fun s => if o.testBit s then d_wy d s + 1 else 0) s
theorem tmf_le {d : dt} (hd : d_ok d) {o : Nat} {s : Nat} (hs : s ≤ d_ns d) : tmf d o s ≤ s * 10 := fb_sm_bound (fun k hk => by
  have := (hd.2.2.1 k (by omega)).2.2
  split <;> omega)
theorem m_call_lp {d : dt} {p o : Nat} {S : gz_S} {Q : Int32 → gz_S → Prop} (hd : d_ok d) (hM : d_M S d) (hp : p < d_np d) (ho : o < 512) (hQ : Q (bI (feb d (d_st d p) o)) S) : ∀ (m s : Nat), s + m = d_ns d → wX8_carriesAll_8 Q (m + 1) (nI p) (nI o) (nI (tmf d o s)) (bI (lfb d (d_st d p) o s)) (nI s) S
  | 0, s, h => by
    have hns := hd.1
    have hh := hd.2.2.2.1
    obtain rfl : s = d_ns d := by omega
    have ht := tmf_le hd (o := o) (Nat.le_refl (d_ns d))
    have et : tm d o = tmf d o (d_ns d) := rfl
    unfold wX8_carriesAll_8
    rw [hM.2.1.1]
    refine ⟨fun _ => ?_, fun c => absurd (nI_le (Nat.le_refl _) (by omega)) c⟩
    unfold feb at hQ
    rw [et] at hQ
    rw [bI_0, cl0, hM.2.2.1.1, nlt (by omega) (by omega)]
    refine ⟨fun c => ?_, fun c => ⟨in02, fun c2 => ?_, fun c2 => ?_⟩⟩
    · rw [c] at hQ; exact hQ
    · rw [show decide (tmf d o (d_ns d) ≤ d_hr d) = false from decide_eq_false (by omega), Bool.and_false] at hQ
      exact hQ
    · have c' : lfb d (d_st d p) o (d_ns d) = true := by cases h : lfb d (d_st d p) o (d_ns d) with | true => rfl | false => exact absurd h c
      rw [c', show decide (tmf d o (d_ns d) ≤ d_hr d) = true from decide_eq_true (by omega)] at hQ
      exact hQ
  | m + 1, s, h => by
    have hns := hd.1
    have ih := m_call_lp hd hM hp ho hQ m (s + 1) (by omega)
    have hq := hd.2.1 p hp
    have hw := hd.2.2.1 s (by omega)
    have et : tmf d o (s + 1) = tmf d o s + (if o.testBit s then d_wy d s + 1 else 0) := rfl
    have ea : lfb d (d_st d p) o (s + 1) = (lfb d (d_st d p) o s && (!o.testBit s || decide (d_wt d s ≤ d_st d p))) := rfl
    have k40 : ∀ t1 : Nat, t1 = (if o.testBit s then d_wy d s + 1 else 0) → wX8_carriesAll_40 (fun y0 y1 y2 y3 y4 S => wX8_carriesAll_8 Q (m + 1) y0 y1 y2 y3 y4 S) Q (nI p) (nI o) (bI (lfb d (d_st d p) o s)) (nI s) (nI (tmf d o s)) (nI t1) S := by
      intro t1 e1
      unfold wX8_carriesAll_40 wX8_carriesAll_76 wX8_carriesAll_72 wX8_carriesAll_77
      intro v3 e3
      rw [e3, nI_add, e1, ← et, nI_1, bI_0]
      refine ⟨fun c => ?_, fun c => m_isIn (by omega) (by omega) ?_⟩
      · rw [ea, c] at ih; exact ih
      · have c' : lfb d (d_st d p) o s = true := by cases h : lfb d (d_st d p) o s with | true => rfl | false => exact absurd h c
        rw [ea, c', Bool.true_and] at ih
        rw [bI_0, pn_cl (by omega), pn_cl (by omega), (hM.1.2 p hp).1, (hM.2.1.2 s (by omega)).1, nlt (by omega) (by omega)]
        refine ⟨fun c2 => ?_, fun c2 => ⟨pn_in (by omega) (by decide), pn_in (by omega) (by decide), fun c3 => ?_, fun c3 => ?_⟩⟩
        · rw [c2] at ih; exact ih
        · have c2' : o.testBit s = true := by cases h : o.testBit s with | true => rfl | false => exact absurd h c2
          rw [c2', show decide (d_wt d s ≤ d_st d p) = false from decide_eq_false (by omega)] at ih
          exact ih
        · rw [show decide (d_wt d s ≤ d_st d p) = true from decide_eq_true (by omega), Bool.or_true] at ih
          exact ih
    unfold wX8_carriesAll_8
    rw [hM.2.1.1, nle (by omega) (by omega)]
    refine ⟨fun c => by omega, fun _ => m_isIn (by omega) (by omega) ?_⟩
    rw [bI_0, pn_cl (by omega), (hM.2.1.2 s (by omega)).2, nI_1]
    refine ⟨fun c => k40 0 (by rw [c]; rfl), fun c => ⟨pn_in (by omega) (by decide), k40 (d_wy d s + 1) ?_⟩⟩
    have c' : o.testBit s = true := by cases h : o.testBit s with | true => rfl | false => exact absurd h c
    rw [c']; rfl
theorem m_call {d : dt} {p o : Nat} {S : gz_S} {Q : Int32 → gz_S → Prop} (hd : d_ok d) (hM : d_M S d) (hp : p < d_np d) (ho : o < 512) (hQ : Q (bI (feb d (d_st d p) o)) S) : wX8_carriesAll (nI p) (nI o) S Q := ⟨_, m_call_lp hd hM hp ho hQ (d_ns d) 0 (by omega)⟩
/-! one more of the people -/
def inn (C : Nat → Bool) (o : Nat) (B : Nat → Bool) : Nat → Nat → Bool
  | 0, j => B j
  | c + 1, j => inn C o B c j || (C c && decide (c &&& o = 0) && decide (j = c ||| o))
theorem inn_iff {C : Nat → Bool} {o : Nat} {B : Nat → Bool} {j : Nat} : ∀ n, inn C o B n j = true ↔ B j = true ∨ ∃ c, c < n ∧ C c = true ∧ c &&& o = 0 ∧ c ||| o = j
  | 0 => ⟨fun h => Or.inl h, fun h => h.elim id (fun ⟨c, h, _⟩ => by omega)⟩
  | n + 1 => by
    have ih := inn_iff (C := C) (o := o) (B := B) (j := j) n
    show (inn C o B n j || (C n && decide (n &&& o = 0) && decide (j = n ||| o))) = true ↔ _
    rw [Bool.or_eq_true, Bool.and_eq_true, Bool.and_eq_true, ih, decide_eq_true_eq, decide_eq_true_eq]
    constructor
    · rintro ((h | ⟨c, h1, h2⟩) | ⟨⟨h1, h2⟩, h3⟩)
      · exact Or.inl h
      · exact Or.inr ⟨c, by omega, h2⟩
      · exact Or.inr ⟨n, by omega, h1, h2, h3.symm⟩
    · rintro (h | ⟨c, h1, h2, h3, h4⟩)
      · exact Or.inl (Or.inl h)
      · by_cases e : c = n
        · rw [e] at h2 h3 h4
          exact Or.inr ⟨⟨h2, h3⟩, h4.symm⟩
        · exact Or.inl (Or.inr ⟨c, by omega, h2, h3, h4⟩)
def onx (d : dt) (q : Nat) (C : Nat → Bool) : Nat → Nat → Bool
  | 0, j => C j
  | k + 1, j => if feb d q (k + 1) = true then inn C (k + 1) (onx d q C k) (2 ^ d_ns d) j else onx d q C k j
theorem onx_iff {d : dt} {q : Nat} {C : Nat → Bool} {j : Nat} : ∀ k, onx d q C k j = true ↔ C j = true ∨ ∃ o c, 1 ≤ o ∧ o ≤ k ∧ feb d q o = true ∧ c < 2 ^ d_ns d ∧ C c = true ∧ c &&& o = 0 ∧ c ||| o = j
  | 0 => ⟨fun h => Or.inl h, fun h => h.elim id (fun ⟨o, c, h1, h2, _⟩ => by omega)⟩
  | k + 1 => by
    have ih := onx_iff (d := d) (q := q) (C := C) (j := j) k
    show (if feb d q (k + 1) = true then inn C (k + 1) (onx d q C k) (2 ^ d_ns d) j else onx d q C k j) = true ↔ _
    by_cases hf : feb d q (k + 1) = true
    · rw [if_pos hf, inn_iff, ih]
      constructor
      · rintro ((h | ⟨o, c, h1, h2, h3⟩) | ⟨c, h1, h2, h3, h4⟩)
        · exact Or.inl h
        · exact Or.inr ⟨o, c, h1, by omega, h3⟩
        · exact Or.inr ⟨k + 1, c, by omega, by omega, hf, h1, h2, h3, h4⟩
      · rintro (h | ⟨o, c, h1, h2, h3, h4, h5, h6, h7⟩)
        · exact Or.inl (Or.inl h)
        · by_cases e : o = k + 1
          · rw [e] at h6 h7
            exact Or.inr ⟨c, h4, h5, h6, h7⟩
          · exact Or.inl (Or.inr ⟨o, c, h1, by omega, h3, h4, h5, h6, h7⟩)
    · rw [if_neg hf, ih]
      constructor
      · rintro (h | ⟨o, c, h1, h2, h3⟩)
        · exact Or.inl h
        · exact Or.inr ⟨o, c, h1, by omega, h3⟩
      · rintro (h | ⟨o, c, h1, h2, h3, h4⟩)
        · exact Or.inl h
        · by_cases e : o = k + 1
          · rw [e] at h3; exact absurd h3 hf
          · exact Or.inr ⟨o, c, h1, by omega, h3, h4⟩
theorem onx_cb {d : dt} {f g : Nat → Nat} {n : Nat} (hg : ∀ i, i < n → g i = f i) (j : Nat) : onx d (g n) (cb d f n) (2 ^ d_ns d - 1) j = cb d g (n + 1) j := by
  refine bool_iff ?_
  rw [onx_iff, cb_iff, cb_iff]
  constructor
  · rintro (h | ⟨o, c, h1, h2, h3, h4, h5, h6, h7⟩)
    · exact cn_up (cn_cong (fun i hi => (hg i hi).symm) h)
    · exact ⟨c, o, h6, h7, (feb_iff (by omega)).mp h3, cn_cong (fun i hi => (hg i hi).symm) (cb_iff.mp h5)⟩
  · rintro ⟨c, o, h1, h2, h3, h4⟩
    have h5 := cn_cong hg h4
    have ho := lf_lt h3.1
    by_cases e : o = 0
    · rw [e, Nat.or_zero] at h2
      rw [h2] at h5
      exact Or.inl h5
    · exact Or.inr ⟨o, c, by omega, by omega, (feb_iff ho).mpr h3, cn_lt h5, cb_iff.mpr h5, h1, h2⟩
/-! the loops -/
theorem m_m113 {d : dt} {td : Nat → Int32} {ar : Nat → Nat} {C B : Nat → Bool} {o : Nat} {x1 x2 x3 : Int32} {k32 : Int32 → Int32 → Int32 → gz_S → Prop} {k89 : Int32 → Int32 → Int32 → Int32 → gz_S → Prop} {S0 : gz_S} {Q : Int32 → gz_S → Prop} (hS0 : MS S0 d td ar) (ho : o < 2 ^ d_ns d) (hK : ∀ S', fr gM S0 S' → (∀ j, j < 512 → S' 66 j = bI (C j)) → (∀ j, j < 512 → S' 65 j = bI (inn C o B (2 ^ d_ns d) j)) → k89 x1 x2 x3 (nI o + 1) S') : ∀ (m c : Nat) (S : gz_S), c + m = 2 ^ d_ns d → fr gM S0 S → (∀ j, j < 512 → S 66 j = bI (C j)) → (∀ j, j < 512 → S 65 j = bI (inn C o B c j)) → wX8_mostOf_113 k32 k89 Q (m + 1) x1 x2 x3 (nI o) (nI c) S
  | 0, c, S, h, hfr, h66, h65 => by
    have hd := hS0.1
    have h9 := p29 hd.1.2
    have hM := (hS0.keep hfr).2.1
    obtain rfl : c = 2 ^ d_ns d := by omega
    unfold wX8_mostOf_113 wX8_mostOf_188
    rw [hM.2.1.1, shl1 (by have := hd.1.2; omega)]
    exact ⟨fun _ => hK S hfr h66 h65, fun c => absurd (nI_le (Nat.le_refl _) (by omega)) c⟩
  | m + 1, c, S, h, hfr, h66, h65 => by
    have hd := hS0.1
    have h9 := p29 hd.1.2
    have hM := (hS0.keep hfr).2.1
    have hor : c ||| o < 512 := Nat.or_lt_two_pow (n := 9) (by omega) (by omega)
    have hand : c &&& o < 512 := Nat.lt_of_le_of_lt Nat.and_le_left (by omega)
    have put : ∀ t : Bool, t = (inn C o B c (c ||| o) || (C c && decide (c &&& o = 0))) → wX8_mostOf_181 k32 k89 (fun y0 y1 y2 y3 y4 S => wX8_mostOf_113 k32 k89 Q (m + 1) y0 y1 y2 y3 y4 S) Q x1 x2 x3 (nI o) (nI c) (nI (c ||| o)) (bI t) S := by
      intro t et
      unfold wX8_mostOf_181
      refine ⟨pn_in hor (by decide), b01_b t, fun S1 e1 => ?_⟩
      rw [pn_cl (by omega)] at e1
      rw [nI_1]
      have hf1 : fr gM S S1 := by rw [e1]; exact fr_st (by unfold gM; omega)
      refine m_m113 hS0 ho hK m (c + 1) S1 (by omega) (hfr.tr hf1) (fun j hj => by rw [e1, gz_st_n _ _ _ (by decide)]; exact h66 j hj) (fun j hj => ?_)
      show S1 65 j = bI (inn C o B c j || (C c && decide (c &&& o = 0) && decide (j = c ||| o)))
      by_cases e : j = c ||| o
      · rw [e, e1, gz_st_v, et]
        simp
      · rw [e1, gz_st_o _ _ _ e, h65 j hj]
        simp [e]
    have k147 : ∀ t0 : Bool, t0 = (C c && decide (c &&& o = 0)) → wX8_mostOf_147 k32 k89 (fun y0 y1 y2 y3 y4 S => wX8_mostOf_113 k32 k89 Q (m + 1) y0 y1 y2 y3 y4 S) Q x1 x2 x3 (nI o) (nI c) (bI t0) S := by
      intro t0 e0
      unfold wX8_mostOf_147 wX8_mostOf_176
      rw [fa_or, pn_cl (by omega), h65 _ hor, bI_0, bI_0]
      refine ⟨pn_in hor (by decide), fun c1 => put true ?_, fun c1 => ⟨fun c2 => put false ?_, fun c2 => put true ?_⟩⟩
      · have c' : inn C o B c (c ||| o) = true := by cases h : inn C o B c (c ||| o) with | true => rfl | false => exact absurd h c1
        rw [c']; rfl
      · rw [c1, ← e0, c2]; rfl
      · have c' : t0 = true := by cases h : t0 with | true => rfl | false => exact absurd h c2
        rw [c1, ← e0, c']; rfl
    unfold wX8_mostOf_113 wX8_mostOf_146
    rw [hM.2.1.1, shl1 (by have := hd.1.2; omega), nle (by omega) (by omega), pn_cl (by omega), h66 c (by omega), bI_0, fa_and, n0 (by omega)]
    refine ⟨fun c => by omega, fun _ => ⟨pn_in (by omega) (by decide), fun c1 => k147 false ?_, fun c1 => ⟨fun c2 => k147 false ?_, fun c2 => k147 true ?_⟩⟩⟩
    · rw [c1]; rfl
    · rw [show decide (c &&& o = 0) = false from decide_eq_false c2, Bool.and_false]
    · have c' : C c = true := by cases h : C c with | true => rfl | false => exact absurd h c1
      rw [c', show decide (c &&& o = 0) = true from decide_eq_true c2]; rfl
theorem m_m89 {d : dt} {td : Nat → Int32} {ar : Nat → Nat} {C : Nat → Bool} {p : Nat} {x1 x2 : Int32} {k32 : Int32 → Int32 → Int32 → gz_S → Prop} {S0 : gz_S} {Q : Int32 → gz_S → Prop} (hS0 : MS S0 d td ar) (hp : p < d_np d) (hK : ∀ S', fr gM S0 S' → (∀ j, j < 512 → S' 65 j = bI (onx d (d_st d p) C (2 ^ d_ns d - 1) j)) → k32 x1 x2 (nI p + 1) S') : ∀ (m k : Nat) (S : gz_S), k + 1 + m = 2 ^ d_ns d → fr gM S0 S → (∀ j, j < 512 → S 66 j = bI (C j)) → (∀ j, j < 512 → S 65 j = bI (onx d (d_st d p) C k j)) → wX8_mostOf_89 k32 Q (m + 1) x1 x2 (nI p) (nI (k + 1)) S
  | 0, k, S, h, hfr, h66, h65 => by
    have hd := hS0.1
    have h9 := p29 hd.1.2
    have hM := (hS0.keep hfr).2.1
    have ek : k = 2 ^ d_ns d - 1 := by omega
    unfold wX8_mostOf_89 wX8_mostOf_194
    rw [hM.2.1.1, shl1 (by have := hd.1.2; omega), nle (by omega) (by omega)]
    exact ⟨fun _ => hK S hfr (by rw [← ek]; exact h65), fun c => by omega⟩
  | m + 1, k, S, h, hfr, h66, h65 => by
    have hd := hS0.1
    have h9 := p29 hd.1.2
    have hM := (hS0.keep hfr).2.1
    have eo : ∀ j, onx d (d_st d p) C (k + 1) j = if feb d (d_st d p) (k + 1) = true then inn C (k + 1) (onx d (d_st d p) C k) (2 ^ d_ns d) j else onx d (d_st d p) C k j := fun j => rfl
    unfold wX8_mostOf_89 wX8_mostOf_188
    rw [hM.2.1.1, shl1 (by have := hd.1.2; omega), nle (by omega) (by omega)]
    refine ⟨fun c => by omega, fun _ => m_call hd hM hp (by omega) ?_⟩
    rw [bI_0]
    refine ⟨fun c => ?_, fun c => ?_⟩
    · rw [nI_1]
      refine m_m89 hS0 hp hK m (k + 1) S (by omega) hfr h66 (fun j hj => ?_)
      rw [eo, if_neg (by rw [c]; decide)]
      exact h65 j hj
    · have c' : feb d (d_st d p) (k + 1) = true := by cases h : feb d (d_st d p) (k + 1) with | true => rfl | false => exact absurd h c
      refine ⟨_, m_m113 (td := td) (ar := ar) (C := C) (B := onx d (d_st d p) C k) (S0 := S0) hS0 (by omega) (fun S1 hf1 g66 g65 => ?_) (2 ^ d_ns d) 0 S (by omega) hfr h66 h65⟩
      rw [nI_1]
      refine m_m89 hS0 hp hK m (k + 1) S1 (by omega) hf1 g66 (fun j hj => ?_)
      rw [eo, if_pos c']
      exact g65 j hj
theorem m_m58 {C : Nat → Bool} {x1 x2 x3 : Int32} {k32 : Int32 → Int32 → Int32 → gz_S → Prop} {S0 : gz_S} {Q : Int32 → gz_S → Prop} (hK : ∀ S', fr gM S0 S' → (∀ j, j < 512 → S' 65 j = bI (C j)) → (∀ j, j < 512 → S' 66 j = bI (C j)) → ∃ m89, wX8_mostOf_89 k32 Q m89 x1 x2 x3 1 S') : ∀ (m k : Nat) (S : gz_S), k + m = 512 → fr gM S0 S → (∀ j, j < 512 → S 65 j = bI (C j)) → (∀ j, j < k → S 66 j = bI (C j)) → wX8_mostOf_58 k32 Q (m + 1) x1 x2 x3 (nI k) S
  | 0, k, S, h, hfr, h65, h66 => by
    obtain rfl : k = 512 := by omega
    unfold wX8_mostOf_58
    exact ⟨fun _ => hK S hfr h65 h66, fun c => absurd (by decide) c⟩
  | m + 1, k, S, h, hfr, h65, h66 => by
    unfold wX8_mostOf_58
    rw [show (512 : Int32) = nI 512 from rfl, nle (by omega) (by omega), pn_cl (by omega), h65 k (by omega), nI_1]
    refine ⟨fun c => by omega, fun _ => ⟨pn_in (by omega) (by decide), pn_in (by omega) (by decide), b01_b _, fun S1 e1 => ?_⟩⟩
    have hf1 : fr gM S S1 := by rw [e1]; exact fr_st (by unfold gM; omega)
    refine m_m58 hK m (k + 1) S1 (by omega) (hfr.tr hf1) (fun j hj => by rw [e1, gz_st_n _ _ _ (by decide)]; exact h65 j hj) (fun j hj => ?_)
    by_cases e : j = k
    · rw [e, e1, gz_st_v]
    · rw [e1, gz_st_o _ _ _ e]; exact h66 j (by omega)
theorem m_m205 {d : dt} {P : Nat → Bool} {S : gz_S} {Q : Int32 → gz_S → Prop} (hd : d_ok d) (hM : d_M S d) (h65 : ∀ j, j < 512 → S 65 j = bI (P j)) (hQ : Q (nI (mwf P d (2 ^ d_ns d))) S) : ∀ (m k : Nat), k + m = 2 ^ d_ns d → wX8_mostOf_205 Q (m + 1) (nI (mwf P d k)) (nI k) S
  | 0, k, h => by
    have h9 := p29 hd.1.2
    obtain rfl : k = 2 ^ d_ns d := by omega
    unfold wX8_mostOf_205
    rw [hM.2.1.1, shl1 (by have := hd.1.2; omega)]
    exact ⟨fun _ => hQ, fun c => absurd (nI_le (Nat.le_refl _) (by omega)) c⟩
  | m + 1, k, h => by
    have h9 := p29 hd.1.2
    have ih := m_m205 hd hM h65 hQ m (k + 1) (by omega)
    have hm := mwf_le (P := P) hd k
    have hw := wo_le hd k
    have es : mwf P d (k + 1) = if P k = true ∧ mwf P d k < wo d k then wo d k else mwf P d k := rfl
    unfold wX8_mostOf_205 wX8_mostOf_245 wX8_mostOf_246
    rw [hM.2.1.1, shl1 (by have := hd.1.2; omega), nle (by omega) (by omega), pn_cl (by omega), h65 k (by omega), bI_0, nI_1]
    refine ⟨fun c => by omega, fun _ => ⟨pn_in (by omega) (by decide), fun c => ?_, fun c => m_weightOf hd hM (by omega) ?_⟩⟩
    · rw [es, if_neg (fun q => by rw [q.1] at c; cases c)] at ih
      exact ih
    · have c' : P k = true := by cases h : P k with | true => rfl | false => exact absurd h c
      rw [nle (by omega) (by omega)]
      refine ⟨fun c2 => ?_, fun c2 => m_weightOf hd hM (by omega) ?_⟩
      · rw [es, if_neg (fun q => by omega)] at ih
        exact ih
      · rw [es, if_pos ⟨c', by omega⟩] at ih
        exact ih
theorem m_m32 {d : dt} {td : Nat → Int32} {ar : Nat → Nat} {sd : Nat} {h : Int32} {S0 : gz_S} {Q : Int32 → gz_S → Prop} (hS0 : MS S0 d td ar) (hsd : sd ≤ 1) (hQ : ∀ S', fr gM S0 S' → Q (nI (mw d sd h)) S') : ∀ (m p : Nat) (S : gz_S), p + m = d_np d → fr gM S0 S → (∀ j, j < 512 → S 65 j = bI (cb d (ga d sd h p).2 (ga d sd h p).1 j)) → wX8_mostOf_32 Q (m + 1) (nI sd) h (nI p) S
  | 0, p, S, hp, hfr, h65 => by
    have hd := hS0.1
    have hnp := hd.1
    have hM := (hS0.keep hfr).2.1
    obtain rfl : p = d_np d := by omega
    unfold wX8_mostOf_32
    rw [hM.1.1]
    exact ⟨fun _ => ⟨_, m_m205 hd hM h65 (hQ S hfr) (2 ^ d_ns d) 0 (by omega)⟩, fun c => absurd (nI_le (Nat.le_refl _) (by omega)) c⟩
  | m + 1, p, S, hp, hfr, h65 => by
    have hd := hS0.1
    have hnp := hd.1
    have hM := (hS0.keep hfr).2.1
    have hq := hd.2.1 p (by omega)
    have hg := ga_le d sd h p
    have eg : ga d sd h (p + 1) = if ¬ nI p = h ∧ d_sd d p = sd then ((ga d sd h p).1 + 1, fun i => if i = (ga d sd h p).1 then d_st d p else (ga d sd h p).2 i) else ga d sd h p := rfl
    have keep : ¬ (¬ nI p = h ∧ d_sd d p = sd) → wX8_mostOf_32 Q (m + 1) (nI sd) h (nI (p + 1)) S := fun g => m_m32 hS0 hsd hQ m (p + 1) S (by omega) hfr (by rw [eg, if_neg g]; exact h65)
    unfold wX8_mostOf_32 wX8_mostOf_194
    rw [hM.1.1, nle (by omega) (by omega), nI_1, pn_cl (by omega), (hM.1.2 p (by omega)).2, neq (by omega) (by omega)]
    refine ⟨fun c => by omega, fun _ => ⟨pn_in (by omega) (by decide), fun c => keep (fun g => c g.2), fun c => ⟨fun c2 => keep (fun g => g.1 c2), fun c2 => ?_⟩⟩⟩
    have hp1 := Nat.two_pow_pos (d_ns d)
    refine ⟨513, m_m58 (C := cb d (ga d sd h p).2 (ga d sd h p).1) (S0 := S0) (fun S1 hf1 g65 g66 => ⟨2 ^ d_ns d, ?_⟩) 512 0 S (by omega) hfr h65 (fun j hj => by omega)⟩
    have k := m_m89 (td := td) (ar := ar) (C := cb d (ga d sd h p).2 (ga d sd h p).1) (p := p) (x1 := nI sd) (x2 := h) (k32 := fun y0 y1 y2 S => wX8_mostOf_32 Q (m + 1) y0 y1 y2 S) (S0 := S0) (Q := Q) hS0 (by omega) (fun S2 hf2 q65 => ?_) (2 ^ d_ns d - 1) 0 S1 (by omega) hf1 g66 g65
    · rw [show 2 ^ d_ns d - 1 + 1 = 2 ^ d_ns d by omega] at k
      exact k
    · rw [nI_1]
      refine m_m32 hS0 hsd hQ m (p + 1) S2 (by omega) hf2 (fun j hj => ?_)
      rw [eg, if_pos ⟨c2, c⟩, q65 j hj]
      have e := onx_cb (d := d) (f := (ga d sd h p).2) (g := fun i => if i = (ga d sd h p).1 then d_st d p else (ga d sd h p).2 i) (n := (ga d sd h p).1) (fun i hi => if_neg (by omega)) j
      simp only [if_true] at e
      rw [e]
theorem m_m2 {d : dt} {td : Nat → Int32} {ar : Nat → Nat} {sd : Nat} {h : Int32} {S0 : gz_S} {Q : Int32 → gz_S → Prop} (hS0 : MS S0 d td ar) (hsd : sd ≤ 1) (hQ : ∀ S', fr gM S0 S' → Q (nI (mw d sd h)) S') : ∀ (m k : Nat) (S : gz_S), k + m = 512 → fr gM S0 S → (∀ j, j < k → S 65 j = bI (cb d (fun _ => 0) 0 j)) → wX8_mostOf_2 Q (m + 1) (nI sd) h (nI k) S
  | 0, k, S, hk, hfr, h65 => by
    obtain rfl : k = 512 := by omega
    unfold wX8_mostOf_2
    exact ⟨fun _ => ⟨_, m_m32 hS0 hsd hQ (d_np d) 0 S (by omega) hfr h65⟩, fun c => absurd (by decide) c⟩
  | m + 1, k, S, hk, hfr, h65 => by
    unfold wX8_mostOf_2 wX8_mostOf_23
    rw [show (512 : Int32) = nI 512 from rfl, nle (by omega) (by omega), pn_cl (by omega), nI_1, n0 (by omega)]
    have next : ∀ (t : Bool) (S1 : gz_S), t = cb d (fun _ => 0) 0 k → S1 = gz_st S 65 k (bI t) → wX8_mostOf_2 Q (m + 1) (nI sd) h (nI (k + 1)) S1 := by
      intro t S1 et e1
      have hf1 : fr gM S S1 := by rw [e1]; exact fr_st (by unfold gM; omega)
      refine m_m2 hS0 hsd hQ m (k + 1) S1 (by omega) (hfr.tr hf1) (fun j hj => ?_)
      by_cases e : j = k
      · rw [e, e1, gz_st_v, et]
      · rw [e1, gz_st_o _ _ _ e]; exact h65 j (by omega)
    refine ⟨fun c => by omega, fun _ => ⟨fun c => ⟨pn_in (by omega) (by decide), b01_0, fun S1 e1 => next false S1 ?_ e1⟩, fun c => ⟨pn_in (by omega) (by decide), b01_1, fun S1 e1 => next true S1 ?_ e1⟩⟩⟩
    · cases e : cb d (fun _ => 0) 0 k with
      | false => rfl
      | true => exact absurd (cb_iff.mp e) c
    · exact (cb_iff.mpr (show cn d (fun _ => 0) 0 k from c)).symm
theorem m_mostW {d : dt} {td : Nat → Int32} {ar : Nat → Nat} {sd : Nat} {h : Int32} (hsd : sd ≤ 1) : lM (wX8_mostOf (nI sd) h) d td ar (nI (mw d sd h)) := fun S Q hS hQ => ⟨513, m_m2 hS hsd hQ 512 0 S (by omega) fr_rf (fun j hj => by omega)⟩
theorem x_most {d : dt} {td : Nat → Int32} {ar : Nat → Nat} {sd : Nat} (hsd : sd ≤ 1) : lX (wX7_most (nI sd)) d td ar (nI (mw d sd (-1))) := fun S Q hS hQ => by
  unfold wX7_most
  exact w_within (fun _ _ => ⟨fun c => absurd c n10, fun _ => x_mostW hsd S _ hS hQ⟩) (fun g => absurd ⟨nI_pos' (by omega), nI_le (b := 1) hsd (by decide)⟩ g)
theorem p_most (x1 : Int32) : pr (wX7_most x1) (wX8_most x1) := by
  refine pr_lk (wm := fun S1 Q => wX8_isTwo x1 S1 (fun r5 S5 => (r5 = 0 → Q (-2) S5) ∧ (¬ r5 = 0 → wX8_mostOf x1 (-1) S5 (fun r14 S14 => Q r14 S14)))) (fun d td ar hd => ?_)
  by_cases g : 0 ≤ x1 ∧ x1 ≤ 1
  · obtain ⟨w, hw, rfl⟩ := pn_rng (hi := 1) (by decide) g.1 g.2
    exact ⟨_, x_most hw, fun S Q hS hQ => w_isTwo (fun _ _ => ⟨fun c => absurd c n10, fun _ => m_mostW hw S _ hS hQ⟩) (fun q => absurd g q)⟩
  · refine ⟨-2, fun S Q hS hQ => ?_, fun S Q hS hQ => w_isTwo (fun a b => absurd ⟨a, b⟩ g) (fun _ => ⟨fun _ => hQ S fr_rf, fun c => absurd rfl c⟩)⟩
    unfold wX7_most
    exact w_within (fun a b => absurd ⟨a, b⟩ g) (fun _ => ⟨fun _ => hQ S fr_rf, fun c => absurd rfl c⟩)
/-! ===== whom to hold back ===== -/
noncomputable def hof (d : dt) (sd : Nat) : Nat → Option (Nat × Nat)
  | 0 => none
  | p + 1 => if d_sd d p = sd then (match hof d sd p with
    | none => some (p, mw d sd (nI p))
    | some q => if mw d sd (nI p) < q.2 then some (p, mw d sd (nI p)) else some q) else hof d sd p
def hv1 (o : Option (Nat × Nat)) : Int32 := match o with
  | none => -1
  | some q => nI q.1
def hv2 (o : Option (Nat × Nat)) : Int32 := match o with
  | none => 0
  | some q => nI q.2
theorem mw_le {d : dt} (hd : d_ok d) (sd : Nat) (h : Int32) : mw d sd h ≤ 81 := mwf_le hd _
theorem hof_b {d : dt} (hd : d_ok d) {sd : Nat} : ∀ {p : Nat} {q : Nat × Nat}, hof d sd p = some q → q.1 < p ∧ q.2 ≤ 81
  | 0, q, h => by cases h
  | p + 1, q, h => by
    have hm := mw_le hd sd (nI p)
    unfold hof at h
    split at h
    · split at h
      · cases h; exact ⟨by dsimp only; omega, hm⟩
      next q2 e2 =>
        split at h
        · cases h; exact ⟨by dsimp only; omega, hm⟩
        · cases h
          have := hof_b hd e2
          exact ⟨by omega, this.2⟩
    · have := hof_b hd h
      exact ⟨by omega, this.2⟩
theorem hof_y {d : dt} {sd p : Nat} (h : d_sd d p = sd) : hof d sd (p + 1) = match hof d sd p with
    | none => some (p, mw d sd (nI p))
    | some q => if mw d sd (nI p) < q.2 then some (p, mw d sd (nI p)) else some q := by
  show (if d_sd d p = sd then _ else hof d sd p) = _
  rw [if_pos h]
theorem hof_n {d : dt} {sd p : Nat} (h : ¬ d_sd d p = sd) : hof d sd (p + 1) = hof d sd p := by
  show (if d_sd d p = sd then _ else hof d sd p) = _
  rw [if_neg h]
theorem x_hold_lp {d : dt} {td : Nat → Int32} {ar : Nat → Nat} {sd : Nat} {Q : Int32 → gz_S → Prop} (hsd : sd ≤ 1) : ∀ (m p : Nat) (S : gz_S), XS S d td ar → (∀ S', fr gX S S' → Q (hv1 (hof d sd (d_np d))) S') → p + m = d_np d → wX7_hold_19 Q (m + 1) (nI sd) (hv1 (hof d sd p)) (hv2 (hof d sd p)) (nI p) S
  | 0, p, S, hS, hQ, hp => by
    have hnp := hS.1.1
    obtain rfl : p = d_np d := by omega
    unfold wX7_hold_19
    rw [hS.2.1.1.1]
    exact ⟨fun _ => hQ S fr_rf, fun c => absurd (nI_le (Nat.le_refl _) (by omega)) c⟩
  | m + 1, p, S, hS, hQ, hp => by
    have hd := hS.1
    have hnp := hd.1
    have hq := hd.2.1 p (by omega)
    have hm := mw_le hd sd (nI p)
    unfold wX7_hold_19 wX7_hold_70 wX7_hold_76
    rw [hS.2.1.1.1, nle (by omega) (by omega), nI_1]
    refine ⟨fun c => by omega, fun _ => x_sideOf hS.2.1 hd (by omega) ?_⟩
    rw [neq (by omega) (by omega)]
    refine ⟨fun c => ?_, fun c => x_mostW hsd S _ hS (fun S1 hf1 => ?_)⟩
    · have ih := x_hold_lp hsd m (p + 1) S hS hQ (by omega)
      rw [hof_n c] at ih
      exact ih
    · have ih := x_hold_lp hsd m (p + 1) S1 (hS.keep hf1) (fun S' hf' => hQ S' (hf1.tr hf')) (by omega)
      rw [hof_y c] at ih
      cases ho : hof d sd p with
      | none =>
        rw [ho] at ih
        exact ⟨fun _ => ih, fun c => absurd rfl c⟩
      | some q =>
        rw [ho] at ih
        have hb := hof_b hd ho
        refine ⟨fun c => absurd c (nm1 (by omega)), fun _ => ?_⟩
        show (nI q.2 ≤ nI (mw d sd (nI p)) → _) ∧ (¬ nI q.2 ≤ nI (mw d sd (nI p)) → _)
        rw [nle (by omega) (by omega)]
        dsimp only at ih
        refine ⟨fun c2 => ?_, fun c2 => ?_⟩
        · rw [if_neg (by omega)] at ih; exact ih
        · rw [if_pos (by omega)] at ih; exact ih
theorem m_hold_lp {d : dt} {td : Nat → Int32} {ar : Nat → Nat} {sd : Nat} {Q : Int32 → gz_S → Prop} (hsd : sd ≤ 1) : ∀ (m p : Nat) (S : gz_S), MS S d td ar → (∀ S', fr gM S S' → Q (hv1 (hof d sd (d_np d))) S') → p + m = d_np d → wX8_holdOf_7 Q (m + 1) (nI sd) (hv1 (hof d sd p)) (hv2 (hof d sd p)) (nI p) S
  | 0, p, S, hS, hQ, hp => by
    have hnp := hS.1.1
    obtain rfl : p = d_np d := by omega
    unfold wX8_holdOf_7
    rw [hS.2.1.1.1]
    exact ⟨fun _ => hQ S fr_rf, fun c => absurd (nI_le (Nat.le_refl _) (by omega)) c⟩
  | m + 1, p, S, hS, hQ, hp => by
    have hd := hS.1
    have hnp := hd.1
    have hq := hd.2.1 p (by omega)
    have hm := mw_le hd sd (nI p)
    unfold wX8_holdOf_7 wX8_holdOf_47 wX8_holdOf_53
    rw [hS.2.1.1.1, nle (by omega) (by omega), nI_1, pn_cl (by omega), (hS.2.1.1.2 p (by omega)).2, neq (by omega) (by omega)]
    refine ⟨fun c => by omega, fun _ => ⟨pn_in (by omega) (by decide), fun c => ?_, fun c => m_mostW hsd S _ hS (fun S1 hf1 => ?_)⟩⟩
    · have ih := m_hold_lp hsd m (p + 1) S hS hQ (by omega)
      rw [hof_n c] at ih
      exact ih
    · have ih := m_hold_lp hsd m (p + 1) S1 (hS.keep hf1) (fun S' hf' => hQ S' (hf1.tr hf')) (by omega)
      rw [hof_y c] at ih
      cases ho : hof d sd p with
      | none =>
        rw [ho] at ih
        exact ⟨fun _ => ih, fun c => absurd rfl c⟩
      | some q =>
        rw [ho] at ih
        have hb := hof_b hd ho
        refine ⟨fun c => absurd c (nm1 (by omega)), fun _ => ?_⟩
        show (nI q.2 ≤ nI (mw d sd (nI p)) → _) ∧ (¬ nI q.2 ≤ nI (mw d sd (nI p)) → _)
        rw [nle (by omega) (by omega)]
        dsimp only at ih
        refine ⟨fun c2 => ?_, fun c2 => ?_⟩
        · rw [if_neg (by omega)] at ih; exact ih
        · rw [if_pos (by omega)] at ih; exact ih
theorem x_hold {d : dt} {td : Nat → Int32} {ar : Nat → Nat} {sd : Nat} (hsd : sd ≤ 1) : lX (wX7_hold (nI sd)) d td ar (hv1 (hof d sd (d_np d))) := fun S Q hS hQ => by
  unfold wX7_hold
  exact w_within (fun _ _ => ⟨fun _ => ⟨_, x_hold_lp hsd (d_np d) 0 S hS hQ (by omega)⟩, fun c => absurd c n10⟩) (fun g => absurd ⟨nI_pos' (by omega), nI_le (b := 1) hsd (by decide)⟩ g)
theorem m_hold {d : dt} {td : Nat → Int32} {ar : Nat → Nat} {sd : Nat} (hsd : sd ≤ 1) : lM (wX8_holdOf (nI sd)) d td ar (hv1 (hof d sd (d_np d))) := fun S Q hS hQ => ⟨_, m_hold_lp hsd (d_np d) 0 S hS hQ (by omega)⟩
theorem p_hold (x1 : Int32) : pr (wX7_hold x1) (wX8_hold x1) := by
  refine pr_lk (wm := fun S1 Q => wX8_isTwo x1 S1 (fun r5 S5 => (r5 = 0 → Q (-2) S5) ∧ (¬ r5 = 0 → wX8_holdOf x1 S5 (fun r13 S13 => Q r13 S13)))) (fun d td ar hd => ?_)
  by_cases g : 0 ≤ x1 ∧ x1 ≤ 1
  · obtain ⟨w, hw, rfl⟩ := pn_rng (hi := 1) (by decide) g.1 g.2
    exact ⟨_, x_hold hw, fun S Q hS hQ => w_isTwo (fun _ _ => ⟨fun c => absurd c n10, fun _ => m_hold hw S _ hS hQ⟩) (fun q => absurd g q)⟩
  · refine ⟨-2, fun S Q hS hQ => ?_, fun S Q hS hQ => w_isTwo (fun a b => absurd ⟨a, b⟩ g) (fun _ => ⟨fun _ => hQ S fr_rf, fun c => absurd rfl c⟩)⟩
    unfold wX7_hold
    exact w_within (fun a b => absurd ⟨a, b⟩ g) (fun _ => ⟨fun c => absurd rfl c, fun _ => hQ S fr_rf⟩)
