/-! ===== what porters can carry together ===== -/
def tm (d : dt) (b : Nat) : Nat := fb_sm (fun s => if b.testBit s then d_wy d s + 1 else 0) (d_ns d)
def lf (d : dt) (q b : Nat) : Prop := ∀ s, b.testBit s = true → s < d_ns d ∧ d_wt d s ≤ q
def fe (d : dt) (q b : Nat) : Prop := lf d q b ∧ tm d b ≤ d_hr d
def cn (d : dt) (f : Nat → Nat) : Nat → Nat → Prop
  | 0, b => b = 0
  | k + 1, b => ∃ c o, c &&& o = 0 ∧ c ||| o = b ∧ fe d (f k) o ∧ cn d f k c
theorem tm_0 (d : dt) : tm d 0 = 0 := by
  unfold tm
  rw [fb_sm_cong (g := fun _ => 0) (fun k _ => by rw [Nat.zero_testBit]; rfl), fb_sm_const, Nat.mul_zero]
theorem fe_0 (d : dt) (q : Nat) : fe d q 0 := ⟨fun s h => absurd h (by rw [Nat.zero_testBit]; decide), by rw [tm_0]; omega⟩
theorem cn_up {d : dt} {f : Nat → Nat} {k b : Nat} (h : cn d f k b) : cn d f (k + 1) b := ⟨b, 0, Nat.and_zero b, Nat.or_zero b, fe_0 d _, h⟩
theorem cn_mono {d : dt} {f : Nat → Nat} {k b : Nat} (h : cn d f k b) : ∀ m, cn d f (k + m) b
  | 0 => h
  | m + 1 => cn_up (cn_mono h m)
theorem cn_le {d : dt} {f : Nat → Nat} {k m b : Nat} (h : cn d f k b) (hk : k ≤ m) : cn d f m b := by
  have := cn_mono h (m - k)
  rw [show k + (m - k) = m by omega] at this
  exact this
theorem cn_0 {d : dt} {f : Nat → Nat} (k : Nat) : cn d f k 0 := cn_le (k := 0) (m := k) (b := 0) rfl (Nat.zero_le _)
theorem cn_cong {d : dt} {f g : Nat → Nat} : ∀ {k b : Nat}, (∀ i, i < k → f i = g i) → cn d f k b → cn d g k b
  | 0, b, _, h => h
  | k + 1, b, e, h => by
    obtain ⟨c, o, h1, h2, h3, h4⟩ := h
    exact ⟨c, o, h1, h2, by rw [← e k (by omega)]; exact h3, cn_cong (fun i hi => e i (by omega)) h4⟩
theorem lf_lt {d : dt} {q b : Nat} (h : lf d q b) : b < 2 ^ d_ns d := by
  refine Nat.lt_pow_two_of_testBit b (fun i hi => ?_)
  cases e : b.testBit i with
  | false => rfl
  | true => have := (h i e).1; omega
theorem cn_lt {d : dt} {f : Nat → Nat} : ∀ {k b : Nat}, cn d f k b → b < 2 ^ d_ns d
  | 0, b, h => by
    have e : b = 0 := h
    rw [e]
    exact Nat.two_pow_pos _
  | k + 1, b, h => by
    obtain ⟨c, o, h1, h2, h3, h4⟩ := h
    rw [← h2]
    exact Nat.or_lt_two_pow (cn_lt h4) (lf_lt h3.1)
theorem tm_set {d : dt} {o s : Nat} (h : o.testBit s = false) (hs : s < d_ns d) : tm d (o ||| 2 ^ s) = tm d o + (d_wy d s + 1) := by
  unfold tm
  have e := fb_sm_upd (fun k => if o.testBit k then d_wy d k + 1 else 0) (d_wy d s + 1) (i := s) (n := d_ns d) hs
  have e2 : (fun k => if (o ||| 2 ^ s).testBit k then d_wy d k + 1 else 0) = (fun k => if k = s then d_wy d s + 1 else (if o.testBit k then d_wy d k + 1 else 0)) := by
    funext k
    rw [fb_bit_set]
    by_cases q : k = s
    · rw [if_pos q, q]; simp
    · rw [if_neg q]; simp [q]
  rw [e2]
  simp only [h] at e
  simpa using e
theorem dj_bit {c o : Nat} (h : c &&& o = 0) (i : Nat) : ¬ (c.testBit i = true ∧ o.testBit i = true) := fun q => by
  have e : (c &&& o).testBit i = true := by rw [Nat.testBit_and, q.1, q.2]; rfl
  rw [h, Nat.zero_testBit] at e
  cases e
theorem dj_of {c o : Nat} (h : ∀ i, ¬ (c.testBit i = true ∧ o.testBit i = true)) : c &&& o = 0 := Nat.eq_of_testBit_eq (fun i => by
  rw [Nat.testBit_and, Nat.zero_testBit]
  have := h i
  cases e1 : c.testBit i <;> cases e2 : o.testBit i <;> simp_all)
theorem or_bit {c o b : Nat} (h : c ||| o = b) (i : Nat) : b.testBit i = (c.testBit i || o.testBit i) := by rw [← h, Nat.testBit_or]
theorem bs_bit {b s i : Nat} (hb : b < 512) : (mn b (2 ^ s)).testBit i = (b.testBit i && !decide (i = s)) := by
  rw [mn_bit hb, Nat.testBit_two_pow]
  have : decide (s = i) = decide (i = s) := by by_cases e : s = i <;> simp [e, eq_comm]
  rw [this]
theorem bs_lt {b s : Nat} (hb : b < 512) (h : b.testBit s = true) : mn b (2 ^ s) < b := by
  have h1 := mn_le b (2 ^ s)
  have h2 : mn b (2 ^ s) ≠ b := fun e => by
    have := bs_bit (s := s) (i := s) hb
    rw [e, h] at this
    simp at this
  omega
theorem nI_bs {b s : Nat} : nI b &&& (nI (2 ^ s) ^^^ -1) = nI (mn b (2 ^ s)) := by
  rw [neg1n, fb_xorI, fa_and]
  rfl
/-! the least state of a set -/
def sdS (d : dt) (f : Nat → Nat) (n b v : Nat) : Prop := ∃ p o c, v = p * 32 + tm d o ∧ (p < n ∨ b = 0) ∧ c &&& o = 0 ∧ c ||| o = b ∧ fe d (f p) o ∧ cn d f p c
def lsT (d : dt) (f : Nat → Nat) (n b v : Nat) : Prop := v ≤ 1048576 ∧ (b = 0 → v = 0) ∧ (v < 1048576 → sdS d f n b v) ∧ ∀ p o c, p < n → c &&& o = 0 → c ||| o = b → fe d (f p) o → cn d f p c → v ≤ p * 32 + tm d o
def uf (v p : Nat) : Nat := if p = v / 32 then v % 32 else 0
def afT (d : dt) (f : Nat → Nat) (n v s r : Nat) : Prop := r ≤ 1048576 ∧ (r < 1048576 → ∃ p, v / 32 ≤ p ∧ p < n ∧ d_wt d s ≤ f p ∧ uf v p + (d_wy d s + 1) ≤ d_hr d ∧ r = p * 32 + (uf v p + (d_wy d s + 1))) ∧ ∀ p, v / 32 ≤ p → p < n → d_wt d s ≤ f p → uf v p + (d_wy d s + 1) ≤ d_hr d → r ≤ p * 32 + (uf v p + (d_wy d s + 1))
theorem LS_0 (d : dt) (f : Nat → Nat) (n : Nat) : lsT d f n 0 0 := ⟨by omega, fun _ => rfl, fun _ => ⟨0, 0, 0, by rw [tm_0], Or.inr rfl, rfl, rfl, fe_0 d _, cn_0 0⟩, fun p o c _ _ _ _ _ => by omega⟩
theorem LS_iff {d : dt} {f : Nat → Nat} {n b v : Nat} (hd : d_ok d) (hn : n ≤ 8) (h : lsT d f n b v) : v < 1048576 ↔ cn d f n b := by
  have hh := hd.2.2.2.1
  obtain ⟨h1, h2, h3, h4⟩ := h
  constructor
  · intro q
    obtain ⟨p, o, c, e1, e2, e3, e4, e5, e6⟩ := h3 q
    rcases e2 with e2 | e2
    · exact cn_le (k := p + 1) ⟨c, o, e3, e4, e5, e6⟩ (by omega)
    · rw [e2]; exact cn_0 n
  · intro q
    cases n with
    | zero => have e : b = 0 := q; have := h2 e; omega
    | succ m =>
      obtain ⟨c, o, e1, e2, e3, e4⟩ := q
      have := h4 m o c (by omega) e1 e2 e3 e4
      have := e3.2
      omega
theorem AF_snd {d : dt} {f : Nat → Nat} {n b v s r : Nat} (hd : d_ok d) (hn : n ≤ 8) (hb : b < 512) (hs : s < d_ns d) (hbs : b.testBit s = true) (hL : lsT d f n (mn b (2 ^ s)) v) (hA : afT d f n v s r) (hr : r < 1048576) : sdS d f n b r := by
  have hh := hd.2.2.2.1
  obtain ⟨p, a1, a2, a3, a4, a5⟩ := hA.2.1 hr
  obtain ⟨p1, o, c, e1, e2, e3, e4, e5, e6⟩ := hL.2.2.1 (by omega)
  have ht := e5.2
  have hp1 : v / 32 = p1 := by omega
  have hu : v % 32 = tm d o := by omega
  have hbit : ∀ i, (c.testBit i || o.testBit i) = (b.testBit i && !decide (i = s)) := fun i => by rw [← or_bit e4, bs_bit hb]
  have hss := hbit s
  simp at hss
  by_cases e : p = p1
  · have hu2 : uf v p = tm d o := by unfold uf; rw [if_pos (by omega), hu]
    rw [hu2] at a4 a5
    have ht2 := tm_set (d := d) hss.2 hs
    refine ⟨p, o ||| 2 ^ s, c, by rw [ht2]; exact a5, Or.inl a2, dj_of (fun i q => ?_), ?_, ⟨fun i hi => ?_, by rw [ht2]; exact a4⟩, by rw [e]; exact e6⟩
    · rw [fb_bit_set] at q
      rcases Bool.or_eq_true _ _ ▸ q.2 with q2 | q2
      · exact dj_bit e3 i ⟨q.1, q2⟩
      · have : i = s := by simpa using q2
        rw [this, hss.1] at q
        cases q.1
    · refine Nat.eq_of_testBit_eq (fun i => ?_)
      rw [Nat.testBit_or, fb_bit_set, ← Bool.or_assoc, hbit]
      by_cases q : i = s
      · rw [q, hbs]; simp
      · simp [q]
    · rw [fb_bit_set] at hi
      rcases Bool.or_eq_true _ _ ▸ hi with q2 | q2
      · rw [e]; exact e5.1 i q2
      · have : i = s := by simpa using q2
        rw [this]
        exact ⟨hs, a3⟩
  · have hu2 : uf v p = 0 := by unfold uf; rw [if_neg (by omega)]
    rw [hu2] at a4 a5
    have ht2 := tm_set (d := d) (o := 0) (s := s) (Nat.zero_testBit s) hs
    rw [Nat.zero_or, tm_0] at ht2
    refine ⟨p, 2 ^ s, mn b (2 ^ s), by rw [ht2]; exact a5, Or.inl a2, dj_of (fun i q => ?_), ?_, ⟨fun i hi => ?_, by rw [ht2]; exact a4⟩, cn_le (k := p1 + 1) ⟨c, o, e3, e4, e5, e6⟩ (by omega)⟩
    · rw [bs_bit hb, Nat.testBit_two_pow] at q
      have q2 : s = i := by simpa using q.2
      have q1 := q.1
      simp [q2] at q1
    · refine Nat.eq_of_testBit_eq (fun i => ?_)
      rw [fb_bit_set, bs_bit hb]
      by_cases q : i = s
      · rw [q, hbs]; simp
      · simp [q]
    · rw [Nat.testBit_two_pow] at hi
      have : s = i := by simpa using hi
      rw [← this]
      exact ⟨hs, a3⟩
theorem AF_cmp {d : dt} {f : Nat → Nat} {n b v s r p o c : Nat} (hd : d_ok d) (hb : b < 512) (hs : s < d_ns d) (hL : lsT d f n (mn b (2 ^ s)) v) (hA : afT d f n v s r) (hp : p < n) (h1 : c &&& o = 0) (h2 : c ||| o = b) (h3 : fe d (f p) o) (h4 : cn d f p c) (hos : o.testBit s = true) : r ≤ p * 32 + tm d o := by
  have hh := hd.2.2.2.1
  have hfl : ∀ i, (o ^^^ 2 ^ s).testBit i = (o.testBit i && !decide (i = s)) := fun i => by
    rw [fb_bit_flip]
    by_cases q : i = s
    · rw [q, hos]; simp
    · simp [q]
  have hset : (o ^^^ 2 ^ s) ||| 2 ^ s = o := Nat.eq_of_testBit_eq (fun i => by
    rw [fb_bit_set, hfl]
    by_cases q : i = s
    · rw [q, hos]; simp
    · simp [q])
  have hoff : (o ^^^ 2 ^ s).testBit s = false := by rw [hfl]; simp
  have ht := tm_set (d := d) hoff hs
  rw [hset] at ht
  have hc : c.testBit s = false := by
    cases e : c.testBit s with
    | false => rfl
    | true => exact absurd ⟨e, hos⟩ (dj_bit h1 s)
  have h32 := h3.2
  have hle := hL.2.2.2 p (o ^^^ 2 ^ s) c hp (dj_of (fun i q => ?_)) ?_ ⟨fun i hi => ?_, by omega⟩ h4
  · have hw := (h3.1 s hos).2
    by_cases e : p = v / 32
    · have hu : uf v p = v % 32 := if_pos e
      have := hA.2.2 p (by omega) hp hw (by rw [hu]; omega)
      rw [hu] at this
      omega
    · have hu : uf v p = 0 := if_neg e
      have := hA.2.2 p (by omega) hp hw (by rw [hu]; omega)
      rw [hu] at this
      omega
  · rw [hfl] at q
    have q2 := q.2
    simp at q2
    exact dj_bit h1 i ⟨q.1, q2.1⟩
  · refine Nat.eq_of_testBit_eq (fun i => ?_)
    rw [Nat.testBit_or, hfl, bs_bit hb, or_bit h2]
    by_cases q : i = s
    · rw [q, hc]; simp
    · simp [q]
  · rw [hfl] at hi
    simp at hi
    exact h3.1 i hi.1
def lsI (d : dt) (f : Nat → Nat) (n b s0 v : Nat) : Prop := v ≤ 1048576 ∧ (v < 1048576 → sdS d f n b v) ∧ ∀ s, s < s0 → ∀ p o c, p < n → c &&& o = 0 → c ||| o = b → fe d (f p) o → cn d f p c → o.testBit s = true → v ≤ p * 32 + tm d o
theorem LI_end {d : dt} {f : Nat → Nat} {n b v : Nat} (hd : d_ok d) (hb : 1 ≤ b) (h : lsI d f n b (d_ns d) v) : lsT d f n b v := by
  have hh := hd.2.2.2.1
  refine ⟨h.1, fun e => by omega, h.2.1, ?_⟩
  have go : ∀ p, p < n → ∀ o c, c &&& o = 0 → c ||| o = b → fe d (f p) o → cn d f p c → v ≤ p * 32 + tm d o := by
    intro p
    induction p with
    | zero =>
      intro hp o c h1 h2 h3 h4
      have ec : c = 0 := h4
      rw [ec, Nat.zero_or] at h2
      by_cases hx : ∃ s, o.testBit s = true
      · obtain ⟨s, hx⟩ := hx
        exact h.2.2 s (h3.1 s hx).1 0 o c hp h1 (by rw [ec, Nat.zero_or]; exact h2) h3 h4 hx
      · have : o = 0 := Nat.eq_of_testBit_eq (fun i => by
          rw [Nat.zero_testBit]
          cases e : o.testBit i with
          | false => rfl
          | true => exact absurd ⟨i, e⟩ hx)
        omega
    | succ k ih =>
      intro hp o c h1 h2 h3 h4
      by_cases hx : ∃ s, o.testBit s = true
      · obtain ⟨s, hx⟩ := hx
        exact h.2.2 s (h3.1 s hx).1 (k + 1) o c hp h1 h2 h3 h4 hx
      · have e0 : o = 0 := Nat.eq_of_testBit_eq (fun i => by
          rw [Nat.zero_testBit]
          cases e : o.testBit i with
          | false => rfl
          | true => exact absurd ⟨i, e⟩ hx)
        rw [e0, Nat.or_zero] at h2
        obtain ⟨c2, o2, g1, g2, g3, g4⟩ := h4
        have := ih (by omega) o2 c2 g1 (g2.trans h2) g3 g4
        have := g3.2
        omega
  exact fun p o c hp h1 h2 h3 h4 => go p hp o c h1 h2 h3 h4
/-! what the most is -/
noncomputable def cb (d : dt) (f : Nat → Nat) (n b : Nat) : Bool := @decide (cn d f n b) (Classical.propDecidable _)
theorem cb_iff {d : dt} {f : Nat → Nat} {n b : Nat} : cb d f n b = true ↔ cn d f n b := @decide_eq_true_iff _ (Classical.propDecidable _)
theorem bool_iff {x y : Bool} (h : x = true ↔ y = true) : x = y := by
  cases x <;> cases y <;> simp_all
def mwf (P : Nat → Bool) (d : dt) : Nat → Nat
  | 0 => 0
  | k + 1 => if P k = true ∧ mwf P d k < wo d k then wo d k else mwf P d k
theorem mwf_le {P : Nat → Bool} {d : dt} (hd : d_ok d) : ∀ k, mwf P d k ≤ 81
  | 0 => Nat.zero_le _
  | k + 1 => by
    have := mwf_le (P := P) hd k
    have := wo_le hd k
    unfold mwf
    split <;> omega
theorem wof_0 (d : dt) : ∀ s, wof d 0 s = 0
  | 0 => rfl
  | s + 1 => by
    show wof d 0 s + _ = 0
    rw [wof_0 d s, Nat.zero_testBit]
    rfl
theorem mwf_1 (P : Nat → Bool) (d : dt) : mwf P d 1 = 0 := by
  unfold mwf
  split
  · exact wof_0 d _
  · rfl
def ga (d : dt) (sd : Nat) (h : Int32) : Nat → Nat × (Nat → Nat)
  | 0 => (0, fun _ => 0)
  | p + 1 => if ¬ nI p = h ∧ d_sd d p = sd then ((ga d sd h p).1 + 1, fun i => if i = (ga d sd h p).1 then d_st d p else (ga d sd h p).2 i) else ga d sd h p
theorem ga_le (d : dt) (sd : Nat) (h : Int32) : ∀ p, (ga d sd h p).1 ≤ p
  | 0 => Nat.le_refl _
  | p + 1 => by
    have := ga_le d sd h p
    unfold ga
    split
    · show (ga d sd h p).1 + 1 ≤ p + 1
      omega
    · omega
theorem ga_st {d : dt} {sd : Nat} {h : Int32} (hd : d_ok d) : ∀ p, p ≤ d_np d → ∀ i, i < (ga d sd h p).1 → (ga d sd h p).2 i ≤ 9
  | 0, _, i, hi => by
    have : i < 0 := hi
    omega
  | p + 1, hp, i, hi => by
    have ih := ga_st (sd := sd) (h := h) hd p (by omega)
    have hq := (hd.2.1 p (by omega)).2.1
    unfold ga at hi ⊢
    split at hi
    next g =>
      rw [if_pos g]
      show (if i = (ga d sd h p).1 then d_st d p else (ga d sd h p).2 i) ≤ 9
      have hi2 : i < (ga d sd h p).1 + 1 := hi
      split
      · exact hq
      · exact ih i (by omega)
    next g =>
      rw [if_neg g]
      exact ih i hi
noncomputable def mw (d : dt) (sd : Nat) (h : Int32) : Nat := mwf (cb d (ga d sd h (d_np d)).2 (ga d sd h (d_np d)).1) d (2 ^ d_ns d)
