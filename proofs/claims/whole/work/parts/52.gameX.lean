/-! ===== the game ===== -/
def mn (f tk : Nat) : Nat := f &&& (tk ^^^ 4294967295)
def fsd (f0 f1 sd : Nat) : Nat := if sd = 0 then f0 else f1
def wv (d : dt) (sd s : Nat) : Int32 := if sd = 0 then 5 * nI (d_wt d s) else (-5) * nI (d_wt d s)
def btr (sd : Nat) (e b : Int32) : Bool := if sd = 0 then decide (b < e) else decide (e < b)
def gnx (sd : Nat) (o : Option (Nat × Int32)) (s : Nat) (e : Int32) : Option (Nat × Int32) := match o with
  | none => some (s, e)
  | some q => if btr sd e q.2 = true then some (s, e) else some q
def gfold (mine : Nat) (ev : Nat → Int32) (sd : Nat) : Nat → Option (Nat × Int32)
  | 0 => none
  | s + 1 => if mine.testBit s = true then gnx sd (gfold mine ev sd s) s (ev s) else gfold mine ev sd s
def gval (o : Option (Nat × Int32)) : Int32 := match o with
  | none => 0
  | some q => q.2
def gfst (o : Option (Nat × Int32)) : Int32 := match o with
  | none => -1
  | some q => nI q.1
def GV (d : dt) (f0 f1 : Nat) : Nat → Nat → Nat → Int32 → Int32
  | 0, _, _, tip => tip
  | r + 1, sd, tk, tip => if mn (fsd f0 f1 sd) tk = 0 then GV d f0 f1 r (1 - sd) tk tip else gval (gfold (mn (fsd f0 f1 sd) tk) (fun s => GV d f0 f1 r (1 - sd) (tk ||| 2 ^ s) (tip + wv d sd s)) sd 9)
def GO (d : dt) (f0 f1 r sd tk : Nat) (tip : Int32) (s : Nat) : Option (Nat × Int32) := gfold (mn (fsd f0 f1 sd) tk) (fun s => GV d f0 f1 r (1 - sd) (tk ||| 2 ^ s) (tip + wv d sd s)) sd s
theorem mn_le (f tk : Nat) : mn f tk ≤ f := Nat.and_le_left
theorem mn_bit {f tk i : Nat} (hf : f < 512) : (mn f tk).testBit i = (f.testBit i && !tk.testBit i) := by
  unfold mn
  rw [Nat.testBit_and, Nat.testBit_xor, show 4294967295 = 2 ^ 32 - 1 from rfl, Nat.testBit_two_pow_sub_one]
  rcases Nat.lt_or_ge i 32 with g | g
  · simp [g]
  · have h2 : f < 2 ^ i := Nat.lt_of_lt_of_le hf (by rw [show 512 = 2 ^ 9 from rfl]; exact Nat.pow_le_pow_right (by decide) (by omega))
    rw [Nat.testBit_lt_two_pow h2]
    rfl
theorem mn_0 {f : Nat} (hf : f < 512) : mn f 0 = f := Nat.eq_of_testBit_eq (fun i => by rw [mn_bit hf]; simp)
theorem mn_take {f tk s : Nat} (hf : f < 512) : mn f tk &&& (2 ^ s ^^^ 4294967295) = mn f (tk ||| 2 ^ s) := by
  show mn (mn f tk) (2 ^ s) = _
  refine Nat.eq_of_testBit_eq (fun i => ?_)
  rw [mn_bit (Nat.lt_of_le_of_lt (mn_le f tk) hf), mn_bit hf, mn_bit hf, fb_bit_set, Nat.testBit_two_pow]
  have : decide (s = i) = decide (i = s) := by by_cases e : s = i <;> simp [e, eq_comm]
  rw [this]
  cases f.testBit i <;> cases tk.testBit i <;> cases decide (i = s) <;> rfl
theorem nI_take {f tk s : Nat} (hf : f < 512) : nI (mn f tk) &&& (nI (2 ^ s) ^^^ -1) = nI (mn f (tk ||| 2 ^ s)) := by
  rw [neg1n, fb_xorI, fa_and, mn_take hf]
theorem bit_lt {f s n : Nat} (hf : f < 2 ^ n) (h : f.testBit s = true) : s < n := by
  rcases Nat.lt_or_ge s n with g | g
  · exact g
  · have h2 : f < 2 ^ s := Nat.lt_of_lt_of_le hf (Nat.pow_le_pow_right (by decide) g)
    rw [Nat.testBit_lt_two_pow h2] at h
    cases h
theorem gf_up {mine sd n : Nat} {ev : Nat → Int32} (h : mine < 2 ^ n) : ∀ m, gfold mine ev sd (n + m) = gfold mine ev sd n
  | 0 => rfl
  | m + 1 => by
    show (if mine.testBit (n + m) = true then _ else gfold mine ev sd (n + m)) = _
    rw [if_neg (fun q => by have := bit_lt h q; omega), gf_up h m]
theorem gf_mem {mine sd : Nat} {ev : Nat → Int32} : ∀ {s i : Nat} {b : Int32}, gfold mine ev sd s = some (i, b) → i < s ∧ mine.testBit i = true ∧ b = ev i
  | 0, i, b, h => by cases h
  | s + 1, i, b, h => by
    unfold gfold at h
    split at h
    next q =>
      unfold gnx at h
      split at h
      · cases h; exact ⟨by omega, q, rfl⟩
      next qq e =>
        split at h
        · cases h; exact ⟨by omega, q, rfl⟩
        · cases h
          have := gf_mem e
          exact ⟨by omega, this.2⟩
    · have := gf_mem h
      exact ⟨by omega, this.2⟩
def bd (x : Int32) (B : Int) : Prop := -B ≤ x.toInt ∧ x.toInt ≤ B
theorem bd_add {x y : Int32} {A B : Int} (hx : bd x A) (hy : bd y B) (h : A + B ≤ 2000000) : (x + y).toInt = x.toInt + y.toInt ∧ bd (x + y) (A + B) := by
  unfold bd at *
  have e : (x + y).toInt = x.toInt + y.toInt := by rw [fb_addI] <;> omega
  exact ⟨e, by rw [e]; omega, by rw [e]; omega⟩
theorem bd_wv {d : dt} (hd : d_ok d) {sd s : Nat} (hs : s < d_ns d) : bd (wv d sd s) 45 := by
  have hw := hd.2.2.1 s hs
  have e : (nI (d_wt d s)).toInt = (d_wt d s : Int) := pn_t (by omega)
  have e5 : (5 : Int32).toInt = 5 := by decide
  have em : (-5 : Int32).toInt = -5 := by decide
  unfold bd wv
  split
  · rw [fb_mulI (by rw [e, e5]; omega) (by rw [e, e5]; omega), e, e5]; omega
  · rw [fb_mulI (by rw [e, em]; omega) (by rw [e, em]; omega), e, em]; omega
theorem gv_bd {d : dt} {f0 f1 : Nat} (hd : d_ok d) (h0 : f0 < 2 ^ d_ns d) (h1 : f1 < 2 ^ d_ns d) : ∀ (r sd tk : Nat) (tip : Int32) (B : Int), bd tip B → B + 45 * r ≤ 1000000 → bd (GV d f0 f1 r sd tk tip) (B + 45 * r)
  | 0, sd, tk, tip, B, h, _ => by
    unfold bd at *
    show -_ ≤ tip.toInt ∧ tip.toInt ≤ _
    omega
  | r + 1, sd, tk, tip, B, h, hB => by
    unfold GV
    split
    · have := gv_bd hd h0 h1 r (1 - sd) tk tip B h (by omega)
      unfold bd at *
      omega
    next hm =>
      cases hg : gfold (mn (fsd f0 f1 sd) tk) (fun s => GV d f0 f1 r (1 - sd) (tk ||| 2 ^ s) (tip + wv d sd s)) sd 9 with
      | none =>
        show bd 0 _
        unfold bd at *
        have z : (0 : Int32).toInt = 0 := by decide
        rw [z]
        omega
      | some q =>
        obtain ⟨i, b⟩ := q
        have hi := gf_mem hg
        have hlt : mn (fsd f0 f1 sd) tk < 2 ^ d_ns d := Nat.lt_of_le_of_lt (mn_le _ _) (by unfold fsd; split; exact h0; exact h1)
        have hin := bit_lt hlt hi.2.1
        have hb := (bd_add h (bd_wv hd (sd := sd) hin) (by omega)).2
        have := gv_bd hd h0 h1 r (1 - sd) (tk ||| 2 ^ i) (tip + wv d sd i) (B + 45) hb (by omega)
        show bd b _
        rw [hi.2.2]
        unfold bd at *
        omega
/-! ===== the system's play ===== -/
def sgI (sd : Nat) : Int32 := if sd = 0 then 1 else -1
theorem sg_cmp {sd : Nat} {e b : Int32} {B : Int} (he : bd e B) (hb : bd b B) (h : B ≤ 2000000) : (sgI sd * e ≤ sgI sd * b) ↔ btr sd e b = false := by
  unfold sgI btr
  unfold bd at he hb
  by_cases c : sd = 0
  · rw [if_pos c, if_pos c, Int32.one_mul, Int32.one_mul, decide_eq_false_iff_not, pn_le, pn_lt]
    omega
  · have m1 : (-1 : Int32).toInt = -1 := by decide
    rw [if_neg c, if_neg c, decide_eq_false_iff_not, pn_le, pn_lt, fb_mulI (by rw [m1]; omega) (by rw [m1]; omega), fb_mulI (by rw [m1]; omega) (by rw [m1]; omega), m1]
    omega
theorem sg_w {d : dt} {sd s : Nat} : sgI sd * 5 * nI (d_wt d s) = wv d sd s := by
  unfold sgI wv
  by_cases c : sd = 0
  · rw [if_pos c, if_pos c, Int32.one_mul]
  · rw [if_neg c, if_neg c, show (-1 : Int32) * 5 = -5 by decide]
def anyI (o : Option (Nat × Int32)) : Int32 := match o with
  | none => 0
  | some _ => 1
theorem x_play_lp {d : dt} {f0 f1 r sd tk : Nat} {tip : Int32} {B : Int} {S : gz_S} {Q : Int32 → gz_S → Prop} {rc : Int32 → Int32 → Int32 → Int32 → Int32 → gz_S → (Int32 → gz_S → Prop) → Prop} (hd : d_ok d) (hX : d_X S d) (h0 : f0 < 2 ^ d_ns d) (h1 : f1 < 2 ^ d_ns d) (hsd : sd ≤ 1) (hr : r ≤ 4) (hB : B + 45 * (r + 1 : Nat) ≤ 1000000) (htip : bd tip B)
    (hrec : ∀ tk' tip' (Q' : Int32 → gz_S → Prop), bd tip' (B + 45) → Q' (GV d f0 f1 r (1 - sd) tk' tip') S → rc (nI r) (nI (1 - sd)) (nI (mn f0 tk')) (nI (mn f1 tk')) tip' S Q')
    (hQ : Q (gval (GO d f0 f1 r sd tk tip (d_ns d))) S) : ∀ (m s : Nat), s + m = d_ns d → wX7_playOut_60 rc Q (m + 1) (nI (r + 1)) (nI sd) (nI (mn f0 tk)) (nI (mn f1 tk)) tip (nI (mn (fsd f0 f1 sd) tk)) (sgI sd) (anyI (GO d f0 f1 r sd tk tip s)) (gval (GO d f0 f1 r sd tk tip s)) (nI s) S
  | 0, s, h => by
    have hns := hd.1.2
    obtain rfl : s = d_ns d := by omega
    unfold wX7_playOut_60
    rw [hX.2.1.1]
    exact ⟨fun _ => hQ, fun c => absurd (nI_le (Nat.le_refl _) (by omega)) c⟩
  | m + 1, s, h => by
    have hns := hd.1.2
    have h9 := p29 hns
    have ih := x_play_lp hd hX h0 h1 hsd hr hB htip hrec hQ m (s + 1) (by omega)
    have hmlt : mn (fsd f0 f1 sd) tk < 2 ^ d_ns d := Nat.lt_of_le_of_lt (mn_le _ _) (by unfold fsd; split; exact h0; exact h1)
    have est : GO d f0 f1 r sd tk tip (s + 1) = if (mn (fsd f0 f1 sd) tk).testBit s = true then gnx sd (GO d f0 f1 r sd tk tip s) s (GV d f0 f1 r (1 - sd) (tk ||| 2 ^ s) (tip + wv d sd s)) else GO d f0 f1 r sd tk tip s := rfl
    unfold wX7_playOut_60 wX7_playOut_147 wX7_playOut_154
    rw [hX.2.1.1, nle (by omega) (by omega), nI_1, shl1 (by omega)]
    refine ⟨fun c => by omega, fun _ v11 e11 => ?_⟩
    rw [e11, fa_bit (by omega), nI_take (by omega), nI_take (by omega), nm]
    refine ⟨fun c => ?_, fun c => x_weight hX hd (by omega) (fun v12 e12 => ?_)⟩
    · rw [est, if_neg (by rw [c]; decide)] at ih
      exact ih
    · have c' : (mn (fsd f0 f1 sd) tk).testBit s = true := by cases h : (mn (fsd f0 f1 sd) tk).testBit s with | true => rfl | false => exact absurd h c
      rw [sg_w] at e12
      have hbw := bd_add htip (bd_wv hd (sd := sd) (s := s) (by omega)) (by omega)
      have e1s : (1 : Int32) - nI sd = nI (1 - sd) := by
        have : sd = 0 ∨ sd = 1 := by omega
        rcases this with rfl | rfl <;> rfl
      rw [e12, e1s]
      refine hrec (tk ||| 2 ^ s) (tip + wv d sd s) _ hbw.2 ?_
      have hev := gv_bd hd h0 h1 r (1 - sd) (tk ||| 2 ^ s) (tip + wv d sd s) (B + 45) hbw.2 (by omega)
      rw [est, if_pos c'] at ih
      cases ho : GO d f0 f1 r sd tk tip s with
      | none =>
        rw [ho] at ih
        exact ⟨fun _ => ih, fun q => absurd rfl q⟩
      | some q =>
        obtain ⟨i, b⟩ := q
        rw [ho] at ih
        have hi := gf_mem ho
        have hbi := (bd_add htip (bd_wv hd (sd := sd) (s := i) (by omega)) (by omega)).2
        have hbb := gv_bd hd h0 h1 r (1 - sd) (tk ||| 2 ^ i) (tip + wv d sd i) (B + 45) hbi (by omega)
        have hb2 : bd b (B + 45 + 45 * r) := by rw [hi.2.2]; exact hbb
        refine ⟨fun q => absurd q n10, fun _ => ?_⟩
        show (sgI sd * _ ≤ sgI sd * b → _) ∧ (¬ sgI sd * _ ≤ sgI sd * b → _)
        rw [sg_cmp hev hb2 (by omega)]
        refine ⟨fun q => ?_, fun q => ?_⟩
        · have e : gnx sd (some (i, b)) s (GV d f0 f1 r (1 - sd) (tk ||| 2 ^ s) (tip + wv d sd s)) = some (i, b) := by
            show (if btr sd _ b = true then _ else _) = _
            rw [q, if_neg (by decide)]
          rw [e] at ih
          exact ih
        · have q' : btr sd (GV d f0 f1 r (1 - sd) (tk ||| 2 ^ s) (tip + wv d sd s)) b = true := by cases h : btr sd (GV d f0 f1 r (1 - sd) (tk ||| 2 ^ s) (tip + wv d sd s)) b with | true => rfl | false => exact absurd h q
          have e : gnx sd (some (i, b)) s (GV d f0 f1 r (1 - sd) (tk ||| 2 ^ s) (tip + wv d sd s)) = some (s, GV d f0 f1 r (1 - sd) (tk ||| 2 ^ s) (tip + wv d sd s)) := by
            show (if btr sd _ b = true then _ else _) = _
            rw [q', if_pos rfl]
          rw [e] at ih
          exact ih
theorem GO_9 {d : dt} {f0 f1 r sd tk : Nat} {tip : Int32} (hd : d_ok d) (h0 : f0 < 2 ^ d_ns d) (h1 : f1 < 2 ^ d_ns d) : GO d f0 f1 r sd tk tip 9 = GO d f0 f1 r sd tk tip (d_ns d) := by
  have hns := hd.1.2
  have hmlt : mn (fsd f0 f1 sd) tk < 2 ^ d_ns d := Nat.lt_of_le_of_lt (mn_le _ _) (by unfold fsd; split; exact h0; exact h1)
  unfold GO
  have := gf_up (ev := fun s => GV d f0 f1 r (1 - sd) (tk ||| 2 ^ s) (tip + wv d sd s)) (sd := sd) hmlt (9 - d_ns d)
  rw [show d_ns d + (9 - d_ns d) = 9 by omega] at this
  exact this
theorem x_play {d : dt} {f0 f1 : Nat} {S : gz_S} (hd : d_ok d) (hX : d_X S d) (h0 : f0 < 2 ^ d_ns d) (h1 : f1 < 2 ^ d_ns d) : ∀ (r fu sd tk : Nat) (tip : Int32) (B : Int) (Q : Int32 → gz_S → Prop), sd ≤ 1 → r < fu → r ≤ 4 → bd tip B → B + 45 * r ≤ 1000000 → Q (GV d f0 f1 r sd tk tip) S → wX7_playOut fu (nI r) (nI sd) (nI (mn f0 tk)) (nI (mn f1 tk)) tip S Q
  | 0, 0, sd, tk, tip, B, Q, hsd, hfu, hr, htip, hB, hQ => by omega
  | r + 1, 0, sd, tk, tip, B, Q, hsd, hfu, hr, htip, hB, hQ => by omega
  | 0, fu + 1, sd, tk, tip, B, Q, hsd, hfu, hr, htip, hB, hQ => by
    show wX7_playOut_b (wX7_playOut fu) (nI 0) (nI sd) _ _ tip S Q
    unfold wX7_playOut_b
    exact ⟨fun c => absurd c (by decide), fun _ => hQ⟩
  | r + 1, fu + 1, sd, tk, tip, B, Q, hsd, hfu, hr, htip, hB, hQ => by
    have h9 := p29 hd.1.2
    show wX7_playOut_b (wX7_playOut fu) (nI (r + 1)) (nI sd) _ _ tip S Q
    have e1s : (1 : Int32) - nI sd = nI (1 - sd) := by
      have : sd = 0 ∨ sd = 1 := by omega
      rcases this with rfl | rfl <;> rfl
    have hml := mn_le (fsd f0 f1 sd) tk
    have hf : fsd f0 f1 sd < 512 := by unfold fsd; split <;> omega
    have core : wX7_playOut_17 (wX7_playOut fu) Q (nI (r + 1)) (nI sd) (nI (mn f0 tk)) (nI (mn f1 tk)) tip (nI (mn (fsd f0 f1 sd) tk)) S := by
      unfold wX7_playOut_17 wX7_playOut_49
      rw [n0 (by omega), n0' (by omega), nm, e1s]
      have hg : GV d f0 f1 (r + 1) sd tk tip = if mn (fsd f0 f1 sd) tk = 0 then GV d f0 f1 r (1 - sd) tk tip else gval (GO d f0 f1 r sd tk tip 9) := rfl
      have go : ¬ mn (fsd f0 f1 sd) tk = 0 → ∃ m60, wX7_playOut_60 (wX7_playOut fu) Q m60 (nI (r + 1)) (nI sd) (nI (mn f0 tk)) (nI (mn f1 tk)) tip (nI (mn (fsd f0 f1 sd) tk)) (sgI sd) 0 0 0 S := fun c => by
        rw [hg, if_neg c, GO_9 hd h0 h1] at hQ
        exact ⟨d_ns d + 1, x_play_lp hd hX h0 h1 hsd (by omega) (by omega) htip (fun tk' tip' Q' hb' q' => x_play hd hX h0 h1 r fu (1 - sd) tk' tip' (B + 45) Q' (by omega) (by omega) (by omega) hb' (by omega) q') hQ (d_ns d) 0 (by omega)⟩
      refine ⟨fun c => ⟨fun c2 => ?_, fun c2 => ?_⟩, fun c => ?_⟩
      · have := go c
        unfold sgI at this
        rw [if_neg c2] at this
        exact this
      · have := go c
        unfold sgI at this
        rw [if_pos c2] at this
        exact this
      · rw [hg, if_pos c] at hQ
        exact x_play hd hX h0 h1 r fu (1 - sd) tk tip B Q (by omega) (by omega) (by omega) htip (by omega) hQ
    unfold wX7_playOut_b
    rw [show (0 : Int32) = nI 0 from rfl, nlt (by omega) (by omega), neq (by omega) (by omega)]
    refine ⟨fun _ => ⟨fun c => ?_, fun c => ?_⟩, fun c => by omega⟩
    · unfold fsd at core
      rw [if_neg c] at core
      exact core
    · unfold fsd at core
      rw [if_pos c] at core
      exact core
/-! the first stone -/
theorem x_first_lp {d : dt} {f0 f1 r : Nat} {tip : Int32} {B : Int} {S : gz_S} {Q : Int32 → gz_S → Prop} (hd : d_ok d) (hX : d_X S d) (h0 : f0 < 2 ^ d_ns d) (h1 : f1 < 2 ^ d_ns d) (hr : r ≤ 4) (hB : B + 45 * (r + 1 : Nat) ≤ 1000000) (htip : bd tip B)
    (hQ : Q (gfst (GO d f0 f1 r 0 0 tip (d_ns d))) S) : ∀ (m s : Nat), s + m = d_ns d → wX7_firstStone_9 Q (m + 1) (nI (r + 1)) (nI f0) (nI f1) tip (gfst (GO d f0 f1 r 0 0 tip s)) (gval (GO d f0 f1 r 0 0 tip s)) (nI s) S
  | 0, s, h => by
    have hns := hd.1.2
    obtain rfl : s = d_ns d := by omega
    unfold wX7_firstStone_9
    rw [hX.2.1.1]
    exact ⟨fun _ => hQ, fun c => absurd (nI_le (Nat.le_refl _) (by omega)) c⟩
  | m + 1, s, h => by
    have hns := hd.1.2
    have h9 := p29 hns
    have ih := x_first_lp hd hX h0 h1 hr hB htip hQ m (s + 1) (by omega)
    have m0 : mn f0 0 = f0 := mn_0 (by omega)
    have m1 : mn f1 0 = f1 := mn_0 (by omega)
    have est : GO d f0 f1 r 0 0 tip (s + 1) = if (mn f0 0).testBit s = true then gnx 0 (GO d f0 f1 r 0 0 tip s) s (GV d f0 f1 r 1 (0 ||| 2 ^ s) (tip + wv d 0 s)) else GO d f0 f1 r 0 0 tip s := rfl
    unfold wX7_firstStone_9 wX7_firstStone_89 wX7_firstStone_97
    rw [hX.2.1.1, nle (by omega) (by omega), nI_1, shl1 (by omega)]
    refine ⟨fun c => by omega, fun _ v8 e8 => ?_⟩
    rw [e8, fa_bit (by omega), nm]
    have t0 : nI f0 &&& (nI (2 ^ s) ^^^ -1) = nI (mn f0 (0 ||| 2 ^ s)) := by
      have := nI_take (f := f0) (tk := 0) (s := s) (by omega)
      rw [m0] at this
      exact this
    have t1 : nI f1 &&& (nI (2 ^ s) ^^^ -1) = nI (mn f1 (0 ||| 2 ^ s)) := by
      have := nI_take (f := f1) (tk := 0) (s := s) (by omega)
      rw [m1] at this
      exact this
    rw [t0, t1]
    rw [m0] at est
    refine ⟨fun c => ?_, fun c => x_weight hX hd (by omega) ?_⟩
    · rw [est, if_neg (by rw [c]; decide)] at ih
      exact ih
    · have c' : f0.testBit s = true := by cases h : f0.testBit s with | true => rfl | false => exact absurd h c
      have hbw := bd_add htip (bd_wv hd (sd := 0) (s := s) (by omega)) (by omega)
      have ew : (5 : Int32) * nI (d_wt d s) = wv d 0 s := rfl
      rw [ew]
      refine x_play hd hX h0 h1 r 6 1 (0 ||| 2 ^ s) (tip + wv d 0 s) (B + 45) _ (by decide) (by omega) hr hbw.2 (by omega) ?_
      rw [est, if_pos c'] at ih
      cases ho : GO d f0 f1 r 0 0 tip s with
      | none =>
        rw [ho] at ih
        exact ⟨fun _ => ih, fun q => absurd rfl q⟩
      | some q =>
        obtain ⟨i, b⟩ := q
        rw [ho] at ih
        have hi := gf_mem ho
        refine ⟨fun q => absurd q (nm1 (by omega)), fun _ => ?_⟩
        have eb : btr 0 (GV d f0 f1 r 1 (0 ||| 2 ^ s) (tip + wv d 0 s)) b = decide (b < GV d f0 f1 r 1 (0 ||| 2 ^ s) (tip + wv d 0 s)) := rfl
        have eg : gnx 0 (some (i, b)) s (GV d f0 f1 r 1 (0 ||| 2 ^ s) (tip + wv d 0 s)) = if btr 0 (GV d f0 f1 r 1 (0 ||| 2 ^ s) (tip + wv d 0 s)) b = true then some (s, GV d f0 f1 r 1 (0 ||| 2 ^ s) (tip + wv d 0 s)) else some (i, b) := rfl
        rw [eg] at ih
        refine ⟨fun q => ?_, fun q => ?_⟩
        · have q2 : ¬ b < GV d f0 f1 r 1 (0 ||| 2 ^ s) (tip + wv d 0 s) := by
            have q' : GV d f0 f1 r 1 (0 ||| 2 ^ s) (tip + wv d 0 s) ≤ b := q
            rw [pn_le] at q'; rw [pn_lt]; omega
          rw [if_neg (by rw [eb, decide_eq_true_eq]; exact q2)] at ih
          exact ih
        · have q2 : b < GV d f0 f1 r 1 (0 ||| 2 ^ s) (tip + wv d 0 s) := by
            have q' : ¬ GV d f0 f1 r 1 (0 ||| 2 ^ s) (tip + wv d 0 s) ≤ b := q
            rw [pn_le] at q'; rw [pn_lt]; omega
          rw [if_pos (by rw [eb, decide_eq_true_eq]; exact q2)] at ih
          exact ih
theorem tstep {x : Int32} {k a b : Nat} {B : Int} (hx : bd x B) (hk : k ≤ 5) (ha : a ≤ 99) (hb : b ≤ 99) (hB : B ≤ 100000) : bd (x + nI k * (nI a - nI b)) (B + 495) := by
  have e1 : (nI a - nI b).toInt = (a : Int) - b := pk_sub_toInt (by omega) (by omega)
  have e2 : (nI k).toInt = (k : Int) := pn_t (by omega)
  have hm : -495 ≤ (k : Int) * ((a : Int) - b) ∧ (k : Int) * ((a : Int) - b) ≤ 495 := by
    have : k = 0 ∨ k = 1 ∨ k = 2 ∨ k = 3 ∨ k = 4 ∨ k = 5 := by omega
    rcases this with rfl | rfl | rfl | rfl | rfl | rfl <;> omega
  have e3 : (nI k * (nI a - nI b)).toInt = (k : Int) * ((a : Int) - b) := by rw [fb_mulI] <;> rw [e1, e2] <;> omega
  exact (bd_add hx (B := 495) ⟨by rw [e3]; omega, by rw [e3]; omega⟩ (by omega)).2
theorem tp_bd {d : dt} {td : Nat → Int32} {h : Nat} (hd : d_ok d) (ht : bd (td h) 50) : bd (tp d td h) 2525 := by
  have hl := hd.2.2.2.2.1.2
  have on : ∀ x, (hf d (qq d sk0 (h + 1))).1 x ≤ 99 := fun x => Nat.le_trans (hf_on d _ x) hl
  unfold tp tpv
  exact tstep (k := 5) (tstep (k := 4) (tstep (k := 3) (tstep (k := 2) (tstep (k := 1) ht (by decide) (on _) (on _) (by decide)) (by decide) (on _) (on _) (by decide)) (by decide) (on _) (on _) (by decide)) (by decide) (on _) (on _) (by decide)) (by decide) (on _) (on _) (by decide)
def gmv (d : dt) (td : Nat → Int32) (n w : Nat) : Int32 := if w = 0 then GV d (fr9 d 0) (fr9 d 1) n 0 0 (tp d td (d_hr d)) else gfst (GO d (fr9 d 0) (fr9 d 1) (n - 1) 0 0 (tp d td (d_hr d)) 9)
theorem x_game {d : dt} {td : Nat → Int32} {ar : Nat → Nat} {n w : Nat} (hn1 : 1 ≤ n) (hn : n ≤ 4) (hw : w ≤ 1) (htd : ∀ h, h ≤ 24 → bd (td h) 50) : lX (wX7_game (nI n) (nI w)) d td ar (gmv d td n w) := fun S Q hS hQ => by
  have hb := hS.1.2.2.2.1
  have l0 := fr9_lt hS.1 0
  have l1 := fr9_lt hS.1 1
  have m0 : mn (fr9 d 0) 0 = fr9 d 0 := mn_0 l0.2
  have m1 : mn (fr9 d 1) 0 = fr9 d 1 := mn_0 l1.2
  have ht := tp_bd (h := d_hr d) hS.1 (htd _ hb.2)
  unfold wX7_game
  refine w_within (fun _ _ => ⟨fun c => absurd c n10, fun _ => ?_⟩) (fun g => absurd ⟨nI_le (a := 1) hn1 (by omega), nI_le (b := 4) hn (by decide)⟩ g)
  refine w_within (fun _ _ => ⟨fun _ => ?_, fun c => absurd c n10⟩) (fun g => absurd ⟨nI_pos' (by omega), nI_le (b := 1) hw (by decide)⟩ g)
  refine x_layable (sd := 0) hS (by decide) (x_layable (sd := 1) hS (by decide) ?_)
  rw [hS.2.1.2.2.1.1, n0' (by omega)]
  refine hS.tip hb.2 (fun S1 hf1 _ _ => ?_)
  have hX1 := (hS.keep hf1).2.1
  have q := hQ S1 hf1
  unfold gmv at q
  refine ⟨fun c => ?_, fun c => ?_⟩
  · rw [if_neg c, GO_9 hS.1 l0.1 l1.1] at q
    obtain ⟨r, rfl⟩ : ∃ r, n = r + 1 := ⟨n - 1, by omega⟩
    exact ⟨_, x_first_lp hS.1 hX1 l0.1 l1.1 (by omega) (by omega) ht q (d_ns d) 0 (by omega)⟩
  · rw [if_pos c] at q
    have := x_play hS.1 hX1 l0.1 l1.1 n 6 0 0 (tp d td (d_hr d)) 2525 Q (by decide) (by omega) hn ht (by omega) q
    rw [m0, m1] at this
    exact this
