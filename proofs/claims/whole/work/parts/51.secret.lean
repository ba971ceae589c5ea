/-! ===== the secret vote ===== -/
abbrev WA : Type := Nat × Int32 × Int32
def eA : WA := (0, -1, -1)
def opA (a b : WA) : WA := (a.1 + b.1, a.2.1 &&& b.2.1, a.2.2 &&& b.2.2)
theorem opA_e (a : WA) : opA a eA = a := by
  unfold opA eA
  simp
theorem e_opA (a : WA) : opA eA a = a := by
  unfold opA eA
  simp
theorem opA_c (a b : WA) : opA a b = opA b a := by
  unfold opA
  rw [Nat.add_comm, Int32.and_comm a.2.1, Int32.and_comm a.2.2]
theorem opA_a (a b c : WA) : opA (opA a b) c = opA a (opA b c) := by
  unfold opA
  simp only [Nat.add_assoc, Int32.and_assoc]
theorem opA_6 (a b c x y z : WA) : opA (opA (opA (opA (opA a b) c) x) y) z = opA (opA (opA a x) (opA b y)) (opA c z) := by
  unfold opA
  refine Prod.ext ?_ (Prod.ext ?_ ?_)
  · show a.1 + b.1 + c.1 + x.1 + y.1 + z.1 = a.1 + x.1 + (b.1 + y.1) + (c.1 + z.1)
    omega
  · show ((((a.2.1 &&& b.2.1) &&& c.2.1) &&& x.2.1) &&& y.2.1) &&& z.2.1 = ((a.2.1 &&& x.2.1) &&& (b.2.1 &&& y.2.1)) &&& (c.2.1 &&& z.2.1)
    ac_rfl
  · show ((((a.2.2 &&& b.2.2) &&& c.2.2) &&& x.2.2) &&& y.2.2) &&& z.2.2 = ((a.2.2 &&& x.2.2) &&& (b.2.2 &&& y.2.2)) &&& (c.2.2 &&& z.2.2)
    ac_rfl
def bt1 (p : Nat) : Int32 := 1 <<< (nI p &&& 31)
def lfA (td t : Int) (y n : Int32) : WA := if t = td then (1, y, n) else eA
def VV (pl : Nat → Nat) (td : Int) : Nat → Nat → Int → Int32 → Int32 → WA
  | 0, _, t, y, n => lfA td t y n
  | r + 1, p, t, y, n => opA (opA (VV pl td r (p + 1) t y n) (VV pl td r (p + 1) (t + pl p) (y ||| bt1 p) n)) (VV pl td r (p + 1) (t - pl p) y (n ||| bt1 p))
def rch (pl : Nat → Nat) : Nat → Nat → Nat
  | 0, _ => 0
  | r + 1, p => rch pl r (p + 1) + pl p
theorem VV_far {pl : Nat → Nat} {td : Int} : ∀ (r p : Nat) (t : Int) (y n : Int32), (rch pl r p < td - t ∨ td - t < -(rch pl r p : Int)) → VV pl td r p t y n = eA
  | 0, p, t, y, n, h => by
    show lfA td t y n = eA
    unfold lfA
    have : rch pl 0 p = 0 := rfl
    rw [if_neg (by omega)]
  | r + 1, p, t, y, n, h => by
    have e : rch pl (r + 1) p = rch pl r (p + 1) + pl p := rfl
    show opA (opA _ _) _ = eA
    rw [VV_far r (p + 1) t y n (by omega), VV_far r (p + 1) (t + pl p) _ n (by omega), VV_far r (p + 1) (t - pl p) y _ (by omega)]
    rfl
theorem VV_le {pl : Nat → Nat} {td : Int} : ∀ (r p : Nat) (t : Int) (y n : Int32), (VV pl td r p t y n).1 ≤ 3 ^ r
  | 0, p, t, y, n => by
    show (lfA td t y n).1 ≤ 1
    unfold lfA
    split
    · exact Nat.le_refl _
    · exact Nat.zero_le _
  | r + 1, p, t, y, n => by
    have h1 := VV_le (pl := pl) (td := td) r (p + 1) t y n
    have h2 := VV_le (pl := pl) (td := td) r (p + 1) (t + pl p) (y ||| bt1 p) n
    have h3 := VV_le (pl := pl) (td := td) r (p + 1) (t - pl p) y (n ||| bt1 p)
    show (VV pl td r (p + 1) t y n).1 + (VV pl td r (p + 1) (t + pl p) (y ||| bt1 p) n).1 + (VV pl td r (p + 1) (t - pl p) y (n ||| bt1 p)).1 ≤ 3 ^ (r + 1)
    rw [Nat.pow_succ]
    omega
/-! the reference's order -/
def LF (pl : Nat → Nat) (td : Int) : Nat → Nat → Nat → Int → Int32 → Int32 → WA
  | 0, _, _, t, y, n => lfA td t y n
  | r + 1, p, c, t, y, n => if c % 3 = 1 then LF pl td r (p + 1) (c / 3) (t + pl p) (y ||| bt1 p) n else if c % 3 = 2 then LF pl td r (p + 1) (c / 3) (t - pl p) y (n ||| bt1 p) else LF pl td r (p + 1) (c / 3) t y n
def sgA (f : Nat → WA) : Nat → WA
  | 0 => eA
  | n + 1 => opA (sgA f n) (f n)
theorem sgA_3 (f : Nat → WA) : ∀ n, sgA f (3 * n) = opA (opA (sgA (fun q => f (3 * q)) n) (sgA (fun q => f (3 * q + 1)) n)) (sgA (fun q => f (3 * q + 2)) n)
  | 0 => by
    show eA = opA (opA eA eA) eA
    rw [opA_e, opA_e]
  | n + 1 => by
    have ih := sgA_3 f n
    show opA (opA (opA (sgA f (3 * n)) (f (3 * n))) (f (3 * n + 1))) (f (3 * n + 2)) = opA (opA (opA (sgA (fun q => f (3 * q)) n) (f (3 * n))) (opA (sgA (fun q => f (3 * q + 1)) n) (f (3 * n + 1)))) (opA (sgA (fun q => f (3 * q + 2)) n) (f (3 * n + 2)))
    rw [ih]
    exact opA_6 _ _ _ _ _ _
theorem sgA_cong {f g : Nat → WA} (h : ∀ q, f q = g q) (n : Nat) : sgA f n = sgA g n := by rw [show f = g from funext h]
theorem sg_LF {pl : Nat → Nat} {td : Int} : ∀ (r p : Nat) (t : Int) (y n : Int32), sgA (fun c => LF pl td r p c t y n) (3 ^ r) = VV pl td r p t y n
  | 0, p, t, y, n => e_opA _
  | r + 1, p, t, y, n => by
    rw [Nat.pow_succ, Nat.mul_comm, sgA_3]
    show _ = opA (opA (VV pl td r (p + 1) t y n) (VV pl td r (p + 1) (t + pl p) (y ||| bt1 p) n)) (VV pl td r (p + 1) (t - pl p) y (n ||| bt1 p))
    rw [← sg_LF r (p + 1) t y n, ← sg_LF r (p + 1) (t + pl p) (y ||| bt1 p) n, ← sg_LF r (p + 1) (t - pl p) y (n ||| bt1 p)]
    congr 1
    · congr 1
      · refine sgA_cong (fun q => ?_) _
        show (if 3 * q % 3 = 1 then _ else _) = _
        rw [if_neg (by omega), if_neg (by omega), show 3 * q / 3 = q by omega]
      · refine sgA_cong (fun q => ?_) _
        show (if (3 * q + 1) % 3 = 1 then _ else _) = _
        rw [if_pos (by omega), show (3 * q + 1) / 3 = q by omega]
    · refine sgA_cong (fun q => ?_) _
      show (if (3 * q + 2) % 3 = 1 then _ else _) = _
      rw [if_neg (by omega), if_pos (by omega), show (3 * q + 2) / 3 = q by omega]
/-! ===== the system's ballot ===== -/
theorem abs_le {x : Int32} {n : Nat} (hx : -100000 ≤ x.toInt ∧ x.toInt ≤ 100000) (hn : n ≤ 100000) : gz_abs x ≤ nI n ↔ (x.toInt ≤ n ∧ -(n : Int) ≤ x.toInt) := by
  have z : (0 : Int32).toInt = 0 := by decide
  unfold gz_abs
  by_cases c : 0 ≤ x
  · rw [if_pos c, pn_le, pn_t (by omega)]
    rw [pn_le, z] at c
    omega
  · rw [if_neg c, pn_le, pn_t (by omega), fb_subI (by rw [z]; omega) (by rw [z]; omega), z]
    rw [pn_le, z] at c
    omega
def bS (S : gz_S) (pl : Nat → Nat) (td : Int) (np : Nat) : Prop := S 33 3 = nI np ∧ (S 33 4).toInt = td ∧ (∀ q, q < np → S 34 q = nI (pl q)) ∧ ∀ q, q ≤ np → S 35 q = nI (rch pl (np - q) q)
def vP (a j : Nat) : Prop := a = 33 ∧ (j = 5 ∨ j = 6 ∨ j = 7)
theorem bS.keep {S S' : gz_S} {pl : Nat → Nat} {td : Int} {np : Nat} (h : bS S pl td np) (hf : fr vP S S') : bS S' pl td np := by
  obtain ⟨h1, h2, h3, h4⟩ := h
  refine ⟨?_, ?_, fun q hq => ?_, fun q hq => ?_⟩
  · rw [hf _ _ (by unfold vP; omega)]; exact h1
  · rw [hf _ _ (by unfold vP; omega)]; exact h2
  · rw [hf _ _ (by unfold vP; omega)]; exact h3 q hq
  · rw [hf _ _ (by unfold vP; omega)]; exact h4 q hq
def acc (S S' : gz_S) (a : WA) : Prop := S' 33 5 = S 33 5 + nI a.1 ∧ S' 33 6 = S 33 6 &&& a.2.1 ∧ S' 33 7 = S 33 7 &&& a.2.2
theorem acc_e (S : gz_S) : acc S S eA := by
  refine ⟨?_, ?_, ?_⟩
  · show S 33 5 = S 33 5 + 0
    rw [Int32.add_zero]
  · show S 33 6 = S 33 6 &&& -1
    simp
  · show S 33 7 = S 33 7 &&& -1
    simp
theorem acc_op {S S1 S2 : gz_S} {a b : WA} (h1 : acc S S1 a) (h2 : acc S1 S2 b) : acc S S2 (opA a b) := by
  refine ⟨?_, ?_, ?_⟩
  · rw [h2.1, h1.1, Int32.add_assoc, nI_add]; rfl
  · rw [h2.2.1, h1.2.1, Int32.and_assoc]; rfl
  · rw [h2.2.2, h1.2.2, Int32.and_assoc]; rfl
theorem x_vote {pl : Nat → Nat} {td : Int} {np : Nat} (hnp : np ≤ 8) (htd : -999 ≤ td ∧ td ≤ 999) : ∀ (r p : Nat) (fu : Nat) (x2 y n : Int32) (S : gz_S) (Q : gz_S → Prop), p + r = np → r < fu → bS S pl td np → (-1000 : Int) + rch pl r p ≤ x2.toInt → x2.toInt ≤ 1000 - (rch pl r p : Int) → (∀ S', fr vP S S' → acc S S' (VV pl td r p x2.toInt y n) → Q S') → wX0_vote fu (nI p) x2 y n S Q
  | 0, p, 0, x2, y, n, S, Q, h1, h2, hS, h3, h4, hQ => by omega
  | r + 1, p, 0, x2, y, n, S, Q, h1, h2, hS, h3, h4, hQ => by omega
  | 0, p, fu + 1, x2, y, n, S, Q, h1, h2, hS, h3, h4, hQ => by
    obtain rfl : p = np := by omega
    have z0 : rch pl 0 p = 0 := rfl
    rw [z0] at h3 h4
    show wX0_vote_b (wX0_vote fu) (nI p) x2 y n S Q
    unfold wX0_vote_b
    have hr : S 35 p = nI 0 := by rw [hS.2.2.2 p (Nat.le_refl _), Nat.sub_self]; rfl
    have ed : (S 33 4 - x2).toInt = td - x2.toInt := by rw [fb_subI] <;> rw [hS.2.1] <;> omega
    rw [pn_cl (by omega), hr, abs_le (by rw [ed]; omega) (by omega), ed, hS.1, nlt (by omega) (by omega)]
    refine ⟨pn_in (by omega) (by decide), fun c => ⟨fun c2 => by omega, fun _ S34 e34 S44 e44 S55 e55 => hQ S55 ?_ ?_⟩, fun c => hQ S fr_rf ?_⟩
    · refine fr.tr (S1 := S34) ?_ (fr.tr (S1 := S44) ?_ ?_)
      · rw [e34]; exact fr_st ⟨rfl, by omega⟩
      · rw [e44]; exact fr_st ⟨rfl, by omega⟩
      · rw [e55]; exact fr_st ⟨rfl, by omega⟩
    · have e : VV pl td 0 p x2.toInt y n = (1, y, n) := by
        show lfA td x2.toInt y n = _
        unfold lfA
        rw [if_pos (by omega)]
      rw [e]
      refine ⟨?_, ?_, ?_⟩
      · rw [e55, gz_st_o _ _ _ (by decide), e44, gz_st_o _ _ _ (by decide), e34, gz_st_v]; rfl
      · rw [e55, gz_st_o _ _ _ (by decide), e44, gz_st_v, e34, gz_st_o _ _ _ (by decide)]
      · rw [e55, gz_st_v, e44, gz_st_o _ _ _ (by decide), e34, gz_st_o _ _ _ (by decide)]
    · have e : VV pl td 0 p x2.toInt y n = eA := by
        show lfA td x2.toInt y n = _
        unfold lfA
        rw [if_neg (by omega)]
      rw [e]
      exact acc_e S
  | r + 1, p, fu + 1, x2, y, n, S, Q, h1, h2, hS, h3, h4, hQ => by
    have z0 : rch pl (r + 1) p = rch pl r (p + 1) + pl p := rfl
    show wX0_vote_b (wX0_vote fu) (nI p) x2 y n S Q
    unfold wX0_vote_b
    have hr : S 35 p = nI (rch pl (r + 1) p) := by rw [hS.2.2.2 p (by omega), show np - p = r + 1 by omega]
    have ed : (S 33 4 - x2).toInt = td - x2.toInt := by rw [fb_subI] <;> rw [hS.2.1] <;> omega
    rw [pn_cl (by omega), hr, abs_le (by rw [ed]; omega) (by omega), ed, hS.1, nlt (by omega) (by omega)]
    refine ⟨pn_in (by omega) (by decide), fun c => ⟨fun c2 => ⟨pn_in (by omega) (by decide), fun v5 e5 => ?_⟩, fun c2 => by omega⟩, fun c => hQ S fr_rf ?_⟩
    · rw [hS.2.2.1 p (by omega)] at e5
      subst e5
      have ep : (nI (pl p)).toInt = (pl p : Int) := pn_t (by omega)
      have ea : (x2 + nI (pl p)).toInt = x2.toInt + pl p := by rw [fb_addI] <;> rw [ep] <;> omega
      have es : (x2 - nI (pl p)).toInt = x2.toInt - pl p := by rw [fb_subI] <;> rw [ep] <;> omega
      rw [nI_1]
      refine x_vote hnp htd r (p + 1) fu _ _ _ S _ (by omega) (by omega) hS (by omega) (by omega) (fun S1 f1 a1 => ?_)
      refine x_vote hnp htd r (p + 1) fu _ _ _ S1 _ (by omega) (by omega) (hS.keep f1) (by omega) (by omega) (fun S2 f2 a2 => ?_)
      refine x_vote hnp htd r (p + 1) fu _ _ _ S2 _ (by omega) (by omega) ((hS.keep f1).keep f2) (by omega) (by omega) (fun S3 f3 a3 => hQ S3 ((f1.tr f2).tr f3) ?_)
      rw [ea] at a2
      rw [es] at a3
      exact acc_op (acc_op a1 a2) a3
    · rw [VV_far (r + 1) p x2.toInt y n (by omega)]
      exact acc_e S
def plv (d : dt) (ar : Nat → Nat) (p : Nat) : Nat := d_st d p * ar p
def alb (d : dt) : Int32 := (1 <<< (nI (d_np d) &&& 31)) - 1
def seT (d : dt) (ar : Nat → Nat) (td : Int) : WA := VV (plv d ar) td (d_np d) 0 0 0 0
def sev (d : dt) (ar : Nat → Nat) (td : Int) (w : Nat) : Int32 := if w = 0 then nI (seT d ar td).1 else if (seT d ar td).1 = 0 then 0 else if w = 1 then alb d &&& (seT d ar td).2.1 else alb d &&& (seT d ar td).2.2
theorem plv_le {d : dt} {ar : Nat → Nat} (hd : d_ok d) (ha : ∀ p, p < 8 → ar p ≤ 5) {p : Nat} (hp : p < d_np d) : plv d ar p ≤ 45 := by
  have h1 := (hd.2.1 p hp).2.1
  have h2 := ha p (by have := hd.1.1; omega)
  unfold plv
  calc d_st d p * ar p ≤ 9 * 5 := Nat.mul_le_mul h1 h2
    _ = 45 := rfl
theorem rch_le {d : dt} {ar : Nat → Nat} (hd : d_ok d) (ha : ∀ p, p < 8 → ar p ≤ 5) : ∀ r p, p + r = d_np d → rch (plv d ar) r p ≤ 45 * r
  | 0, p, _ => Nat.le_refl _
  | r + 1, p, h => by
    have ih := rch_le hd ha r (p + 1) (by omega)
    have := plv_le hd ha (p := p) (by omega)
    show rch (plv d ar) r (p + 1) + plv d ar p ≤ _
    omega
def bP (a j : Nat) : Prop := 33 ≤ a ∧ a ≤ 35
theorem x_open_lp {d : dt} {td : Nat → Int32} {ar : Nat → Nat} {told : Int32} {Q : gz_S → Prop} (htd : -999 ≤ told.toInt ∧ told.toInt ≤ 999) : ∀ (p : Nat) (S : gz_S), p ≤ d_np d → XS S d td ar → S 33 3 = nI (d_np d) → S 33 4 = told → (∀ q, p ≤ q → q < d_np d → S 34 q = nI (plv d ar q)) → (∀ q, p ≤ q → q ≤ d_np d → S 35 q = nI (rch (plv d ar) (d_np d - q) q)) → (∀ S', fr bP S S' → S' 33 5 = nI (seT d ar told.toInt).1 → ((seT d ar told.toInt).1 = 0 → S' 33 6 = 0 ∧ S' 33 7 = 0) → (¬ (seT d ar told.toInt).1 = 0 → S' 33 6 = alb d &&& (seT d ar told.toInt).2.1 ∧ S' 33 7 = alb d &&& (seT d ar told.toInt).2.2) → Q S') → wX0_open_36 Q (p + 1) (nI p - 1) S
  | 0, S, hp, hS, h3, h4, h34, h35, hQ => by
    have hnp := hS.1.1.1
    have har : ∀ p, p < 8 → ar p ≤ 5 := fun p hp => (hS.2.2.2.2 p hp).2
    have hr := rch_le hS.1 har (d_np d) 0 (by omega)
    unfold wX0_open_36
    refine ⟨fun _ S93 e93 S105 e105 S113 e113 => ?_, fun c => absurd (by decide) c⟩
    have a3 : S93 33 3 = nI (d_np d) := by rw [e93, gz_st_o _ _ _ (by decide)]; exact h3
    have f : fr vP S S113 := by
      refine fr.tr (S1 := S93) ?_ (fr.tr (S1 := S105) ?_ ?_)
      · rw [e93]; exact fr_st ⟨rfl, by omega⟩
      · rw [e105]; exact fr_st ⟨rfl, by omega⟩
      · rw [e113]; exact fr_st ⟨rfl, by omega⟩
    have b5 : S113 33 5 = 0 := by rw [e113, gz_st_o _ _ _ (by decide), e105, gz_st_o _ _ _ (by decide), e93, gz_st_v]
    have b6 : S113 33 6 = alb d := by rw [e113, gz_st_o _ _ _ (by decide), e105, gz_st_v, a3]; rfl
    have b7 : S113 33 7 = alb d := by rw [e113, gz_st_v, e105, gz_st_v, a3]; rfl
    have hbS : bS S113 (plv d ar) told.toInt (d_np d) := bS.keep ⟨h3, by rw [h4], fun q hq => h34 q (by omega) hq, fun q hq => h35 q (by omega) hq⟩ f
    refine x_vote (pl := plv d ar) (td := told.toInt) hnp htd (d_np d) 0 10 0 0 0 S113 _ (by omega) (by omega) hbS (by show (-1000 : Int) + rch (plv d ar) (d_np d) 0 ≤ 0; omega) (by show (0 : Int) ≤ 1000 - (rch (plv d ar) (d_np d) 0 : Int); omega) (fun S1 f1 a1 => ?_)
    obtain ⟨c5, c6, c7⟩ := a1
    have g5 : S1 33 5 = nI (seT d ar told.toInt).1 := by rw [c5, b5, Int32.zero_add]; rfl
    have g6 : S1 33 6 = alb d &&& (seT d ar told.toInt).2.1 := by rw [c6, b6]; rfl
    have g7 : S1 33 7 = alb d &&& (seT d ar told.toInt).2.2 := by rw [c7, b7]; rfl
    have hle : (seT d ar told.toInt).1 ≤ 3 ^ d_np d := VV_le _ _ _ _ _
    have h38 : 3 ^ d_np d ≤ 3 ^ 8 := Nat.pow_le_pow_right (by decide) hnp
    have fb : fr bP S S1 := (f.tr f1).mono (fun a j h => by unfold vP at h; unfold bP; omega)
    rw [g5, n0 (by omega)]
    refine ⟨fun c => hQ S1 fb g5 (fun q => absurd q c) (fun _ => ⟨g6, g7⟩), fun c S133 e133 S138 e138 => hQ S138 (fb.tr (fr.tr (S1 := S133) ?_ ?_)) ?_ (fun _ => ⟨?_, ?_⟩) (fun q => absurd c q)⟩
    · rw [e133]; exact fr_st (by unfold bP; omega)
    · rw [e138]; exact fr_st (by unfold bP; omega)
    · rw [e138, gz_st_o _ _ _ (by decide), e133, gz_st_o _ _ _ (by decide)]; exact g5
    · rw [e138, gz_st_o _ _ _ (by decide), e133, gz_st_v]
    · rw [e138, gz_st_v]
  | p + 1, S, hp, hS, h3, h4, h34, h35, hQ => by
    have hnp := hS.1.1.1
    have hst := hS.1.2.1 p (by omega)
    have har := hS.2.2.2.2 p (by omega)
    unfold wX0_open_36
    rw [nm, show (0 : Int32) = nI 0 from rfl, nlt (by omega) (by omega)]
    refine ⟨fun c => by omega, fun _ => x_strength hS.2.1 hS.1 (by omega) ?_⟩
    rw [pn_cl (by omega), har.1, pk_mul, nI_1, pn_cl (by omega)]
    refine ⟨pn_in (by omega) (by decide), pn_in (by omega) (by decide), fun S63 e63 => ⟨pn_in (by omega) (by decide), pn_in (by omega) (by decide), pn_in (by omega) (by decide), fun S84 e84 => ?_⟩⟩
    have f63 : fr (fun a j => a = 34 ∧ j = p) S S63 := by rw [e63]; exact fr_st ⟨rfl, rfl⟩
    have a1 : S63 35 (p + 1) = nI (rch (plv d ar) (d_np d - (p + 1)) (p + 1)) := by rw [f63 _ _ (by omega)]; exact h35 (p + 1) (by omega) (by omega)
    have a2 : S63 34 p = nI (plv d ar p) := by rw [e63, gz_st_v]; rfl
    rw [a1, a2, nI_add] at e84
    have f84 : fr (fun a j => a = 35 ∧ j = p) S63 S84 := by rw [e84]; exact fr_st ⟨rfl, rfl⟩
    have fa : fr gX S S84 := (f63.mono (fun a j h => by unfold gX; omega)).tr (f84.mono (fun a j h => by unfold gX; omega))
    rw [show nI p + -1 = nI p - 1 from (Int32.sub_eq_add_neg (nI p) 1).symm]
    refine x_open_lp htd p S84 (by omega) (hS.keep fa) (by rw [f84 _ _ (by omega), f63 _ _ (by omega)]; exact h3) (by rw [f84 _ _ (by omega), f63 _ _ (by omega)]; exact h4) (fun q q1 q2 => ?_) (fun q q1 q2 => ?_) (fun S' hf' => hQ S' (((f63.mono (fun a j h => by unfold bP; omega)).tr (f84.mono (fun a j h => by unfold bP; omega))).tr hf'))
    · rw [f84 _ _ (by omega)]
      by_cases e : q = p
      · rw [e]; exact a2
      · rw [f63 _ _ (by omega)]; exact h34 q (by omega) q2
    · by_cases e : q = p
      · rw [e, e84, gz_st_v, show d_np d - p = (d_np d - (p + 1)) + 1 by omega]; rfl
      · rw [f84 _ _ (by omega), f63 _ _ (by omega)]; exact h35 q (by omega) q2
theorem x_secret {d : dt} {td : Nat → Int32} {ar : Nat → Nat} {w : Nat} {told : Int32} (htd : -999 ≤ told.toInt ∧ told.toInt ≤ 999) (hr : -999 ≤ told ∧ told ≤ 999) (hw : w ≤ 2) : lX (wX7_secret told (nI w)) d td ar (sev d ar told.toInt w) := fun S Q hS hQ => by
  have hnp := hS.1.1.1
  unfold wX7_secret
  refine w_within (fun _ _ => ⟨fun c => absurd c n10, fun _ => ?_⟩) (fun g => absurd hr g)
  refine w_within (fun _ _ => ⟨fun _ => ?_, fun c => absurd c n10⟩) (fun g => absurd (f02 hw) g)
  unfold wX0_open
  intro S2 e2 S16 e16
  have f2 : fr (fun a j => a = 33 ∧ j = 4) S S2 := by rw [e2]; exact fr_st ⟨rfl, rfl⟩
  have a2 : S2 2 7 = nI (d_np d) := by rw [f2 _ _ (by omega)]; exact hS.2.1.1.1
  rw [a2] at e16
  have f16 : fr (fun a j => a = 33 ∧ j = 3) S2 S16 := by rw [e16]; exact fr_st ⟨rfl, rfl⟩
  have a16 : S16 33 3 = nI (d_np d) := by rw [e16, gz_st_v]
  rw [a16, pn_cl (by omega)]
  refine ⟨pn_in (by omega) (by decide), fun S28 e28 v2 ev => ?_⟩
  have f28 : fr (fun a j => a = 35 ∧ j = d_np d) S16 S28 := by rw [e28]; exact fr_st ⟨rfl, rfl⟩
  have a28 : S28 33 3 = nI (d_np d) := by rw [f28 _ _ (by omega)]; exact a16
  rw [ev, a28]
  have fa : fr gX S S28 := ((f2.mono (fun a j h => by unfold gX; omega)).tr (f16.mono (fun a j h => by unfold gX; omega))).tr (f28.mono (fun a j h => by unfold gX; omega))
  refine ⟨d_np d + 1, x_open_lp htd (d_np d) S28 (Nat.le_refl _) (hS.keep fa) a28 ?_ (fun q q1 q2 => by omega) (fun q q1 q2 => ?_) (fun S3 f3 c5 c0 c1 => ?_)⟩
  · rw [f28 _ _ (by omega), f16 _ _ (by omega), e2, gz_st_v]
  · rw [show q = d_np d by omega, e28, gz_st_v, Nat.sub_self]; rfl
  · have q := hQ S3 (fa.tr (f3.mono (fun a j h => by unfold bP at h; unfold gX; omega)))
    unfold sev at q
    rw [n0' hw, n1' hw, c5]
    refine ⟨fun g => ⟨fun g2 => ?_, fun g2 => ?_⟩, fun g => ?_⟩
    · rw [if_neg g] at q
      by_cases z : (seT d ar told.toInt).1 = 0
      · rw [if_pos z] at q; rw [(c0 z).2]; exact q
      · rw [if_neg z, if_neg g2] at q; rw [(c1 z).2]; exact q
    · rw [if_neg g] at q
      by_cases z : (seT d ar told.toInt).1 = 0
      · rw [if_pos z] at q; rw [(c0 z).1]; exact q
      · rw [if_neg z, if_pos g2] at q; rw [(c1 z).1]; exact q
    · rw [if_pos g] at q; exact q
/-! ===== the reference's ===== -/
theorem m_66 {d : dt} {ar : Nat → Nat} {told x2 x3 x7 : Int32} {k44 : Int32 → Int32 → Int32 → Int32 → Int32 → Int32 → Int32 → gz_S → Prop} {Q : Int32 → gz_S → Prop} {S : gz_S} (hd : d_ok d) (hM : d_M S d) (ha : ∀ p, p < 8 → S 58 p = nI (ar p) ∧ ar p ≤ 5) (htd : -999 ≤ told.toInt ∧ told.toInt ≤ 999) : ∀ (r p c c4 : Nat) (x5 x6 x9 y n : Int32), p + r = d_np d → c < 6561 → (-1000 : Int) + rch (plv d ar) r p ≤ x9.toInt → x9.toInt ≤ 1000 - (rch (plv d ar) r p : Int) → k44 told x2 x3 (nI (c4 + (LF (plv d ar) told.toInt r p c x9.toInt y n).1)) (x5 &&& (LF (plv d ar) told.toInt r p c x9.toInt y n).2.1) (x6 &&& (LF (plv d ar) told.toInt r p c x9.toInt y n).2.2) (x7 + 1) S → wX8_secretOf_66 k44 Q (r + 1) told x2 x3 (nI c4) x5 x6 x7 (nI c) x9 y n (nI p) S
  | 0, p, c, c4, x5, x6, x9, y, n, h1, hc, h3, h4, hk => by
    have hnp := hd.1.1
    obtain rfl : p = d_np d := by omega
    unfold wX8_secretOf_66 wX8_secretOf_200
    rw [hM.1.1]
    refine ⟨fun _ => ⟨fun q => ?_, fun q v5 e5 v6 e6 => ?_⟩, fun q => absurd (nI_le (Nat.le_refl _) (by omega)) q⟩
    · have e : LF (plv d ar) told.toInt 0 (d_np d) c x9.toInt y n = eA := by
        show lfA told.toInt x9.toInt y n = _
        unfold lfA
        rw [if_neg (fun g => q (pn_eq.mpr g))]
      rw [e] at hk
      unfold eA at hk
      simp at hk
      exact hk
    · have e : LF (plv d ar) told.toInt 0 (d_np d) c x9.toInt y n = (1, y, n) := by
        show lfA told.toInt x9.toInt y n = _
        unfold lfA
        rw [if_pos (by rw [q])]
      rw [e] at hk
      rw [e5, e6, nI_1]
      exact hk
  | r + 1, p, c, c4, x5, x6, x9, y, n, h1, hc, h3, h4, hk => by
    have hnp := hd.1.1
    have hap := ha p (by omega)
    have z0 : rch (plv d ar) (r + 1) p = rch (plv d ar) r (p + 1) + plv d ar p := rfl
    have hple := plv_le hd (fun p hp => (ha p hp).2) (p := p) (by omega)
    have ep : (nI (plv d ar p)).toInt = (plv d ar p : Int) := pn_t (by omega)
    have en : (-nI (plv d ar p)).toInt = -(plv d ar p : Int) := by rw [fb_negI (by rw [ep]; omega), ep]
    have ea : (x9 + nI (plv d ar p)).toInt = x9.toInt + plv d ar p := by rw [fb_addI] <;> rw [ep] <;> omega
    have es : (x9 + -nI (plv d ar p)).toInt = x9.toInt - plv d ar p := by rw [fb_addI] <;> rw [en] <;> omega
    unfold wX8_secretOf_66 wX8_secretOf_130 wX8_secretOf_149 wX8_secretOf_168
    rw [hM.1.1, nle (by omega) (by omega), show (3 : Int32) = nI 3 from rfl, pk_rem (by omega) (by decide) (by decide), pk_div (by omega) (by decide) (by decide), pn_cl (by omega), (hM.1.2 p (by omega)).1, hap.1, pk_mul, nI_1]
    refine ⟨fun q => by omega, fun _ v13 e13 v8 e8 => ⟨pn_in (by omega) (by decide), pn_in (by omega) (by decide), fun v14 e14 => ?_⟩⟩
    have e14' : v14 = nI (plv d ar p) := e14
    have m3 : c % 3 < 3 := Nat.mod_lt _ (by decide)
    have hc3 : c / 3 < 6561 := by omega
    rw [e13, e8, e14', n1' (by omega), show (2 : Int32) = nI 2 from rfl, neq (by omega) (by decide)]
    have el : LF (plv d ar) told.toInt (r + 1) p c x9.toInt y n = if c % 3 = 1 then LF (plv d ar) told.toInt r (p + 1) (c / 3) (x9.toInt + plv d ar p) (y ||| bt1 p) n else if c % 3 = 2 then LF (plv d ar) told.toInt r (p + 1) (c / 3) (x9.toInt - plv d ar p) y (n ||| bt1 p) else LF (plv d ar) told.toInt r (p + 1) (c / 3) x9.toInt y n := rfl
    rw [el] at hk
    refine ⟨fun q => ⟨fun q2 v9 e9 => ⟨fun _ v10 e10 => ⟨fun _ v11 e11 => ?_, fun g => absurd g q2⟩, fun g => absurd g q⟩, fun q2 v9 e9 => ⟨fun _ v10 e10 => ⟨fun g => absurd q2 g, fun _ v11 e11 => ?_⟩, fun g => absurd g q⟩⟩, fun q v9 e9 => ⟨fun g => absurd q g, fun _ v10 e10 => ⟨fun _ v11 e11 => ?_, fun g => by omega⟩⟩⟩
    · rw [if_neg q, if_neg q2] at hk
      rw [e9, e10, e11, Int32.add_zero, Int32.or_zero, Int32.or_zero, nI_1 p]
      exact m_66 hd hM ha htd r (p + 1) (c / 3) c4 x5 x6 x9 y n (by omega) hc3 (by omega) (by omega) hk
    · rw [if_neg q, if_pos q2] at hk
      rw [e9, e10, e11, Int32.or_zero, nI_1 p]
      exact m_66 hd hM ha htd r (p + 1) (c / 3) c4 x5 x6 (x9 + -nI (plv d ar p)) y (n ||| bt1 p) (by omega) hc3 (by omega) (by omega) (by rw [es]; exact hk)
    · rw [if_pos q] at hk
      rw [e9, e10, e11, Int32.or_zero, nI_1 p]
      exact m_66 hd hM ha htd r (p + 1) (c / 3) c4 x5 x6 (x9 + nI (plv d ar p)) (y ||| bt1 p) n (by omega) hc3 (by omega) (by omega) (by rw [ea]; exact hk)
theorem m_44 {d : dt} {ar : Nat → Nat} {told : Int32} {w : Nat} {Q : Int32 → gz_S → Prop} {S : gz_S} (hd : d_ok d) (hM : d_M S d) (ha : ∀ p, p < 8 → S 58 p = nI (ar p) ∧ ar p ≤ 5) (htd : -999 ≤ told.toInt ∧ told.toInt ≤ 999) (hw : w ≤ 2) (hQ : Q (sev d ar told.toInt w) S) : ∀ (m c : Nat), c + m = 3 ^ d_np d → wX8_secretOf_44 Q (m + 1) told (nI w) (nI (3 ^ d_np d)) (nI (sgA (fun c => LF (plv d ar) told.toInt (d_np d) 0 c 0 0 0) c).1) (alb d &&& (sgA (fun c => LF (plv d ar) told.toInt (d_np d) 0 c 0 0 0) c).2.1) (alb d &&& (sgA (fun c => LF (plv d ar) told.toInt (d_np d) 0 c 0 0 0) c).2.2) (nI c) S
  | 0, c, h => by
    have hnp := hd.1.1
    have h38 : 3 ^ d_np d ≤ 3 ^ 8 := Nat.pow_le_pow_right (by decide) hnp
    obtain rfl : c = 3 ^ d_np d := by omega
    have hle : (seT d ar told.toInt).1 ≤ 3 ^ d_np d := VV_le _ _ _ _ _
    unfold wX8_secretOf_44
    rw [sg_LF]
    refine ⟨fun _ => ?_, fun q => absurd (nI_le (Nat.le_refl _) (by omega)) q⟩
    unfold sev at hQ
    show (¬ nI w = 0 → (¬ nI (seT d ar told.toInt).1 = 0 → (¬ nI w = 1 → Q (alb d &&& (seT d ar told.toInt).2.2) S) ∧ (nI w = 1 → Q (alb d &&& (seT d ar told.toInt).2.1) S)) ∧ (nI (seT d ar told.toInt).1 = 0 → Q 0 S)) ∧ (nI w = 0 → Q (nI (seT d ar told.toInt).1) S)
    rw [n0' hw, n1' hw, n0 (by omega)]
    refine ⟨fun g => ⟨fun z => ⟨fun g2 => ?_, fun g2 => ?_⟩, fun z => ?_⟩, fun g => ?_⟩
    · rw [if_neg g, if_neg z, if_neg g2] at hQ; exact hQ
    · rw [if_neg g, if_neg z, if_pos g2] at hQ; exact hQ
    · rw [if_neg g, if_pos z] at hQ; exact hQ
    · rw [if_pos g] at hQ; exact hQ
  | m + 1, c, h => by
    have hnp := hd.1.1
    have h38 : 3 ^ d_np d ≤ 3 ^ 8 := Nat.pow_le_pow_right (by decide) hnp
    have ih := m_44 hd hM ha htd hw hQ m (c + 1) (by omega)
    have hr := rch_le hd (fun p hp => (ha p hp).2) (d_np d) 0 (by omega)
    unfold wX8_secretOf_44
    rw [nle (by omega) (by omega)]
    refine ⟨fun q => by omega, fun _ => ⟨d_np d + 1, m_66 hd hM ha htd (d_np d) 0 c _ _ _ 0 0 0 (by omega) (by omega) (by show (-1000 : Int) + rch (plv d ar) (d_np d) 0 ≤ 0; omega) (by show (0 : Int) ≤ 1000 - (rch (plv d ar) (d_np d) 0 : Int); omega) ?_⟩⟩
    rw [nI_1, Int32.and_assoc, Int32.and_assoc]
    exact ih
theorem m_5 {d : dt} {told x2 : Int32} {Q : Int32 → gz_S → Prop} {S : gz_S} (hd : d_ok d) (hM : d_M S d) (hQ : ∃ m44, wX8_secretOf_44 Q m44 told x2 (nI (3 ^ d_np d)) 0 (alb d) (alb d) 0 S) : ∀ (m p : Nat), p + m = d_np d → wX8_secretOf_5 Q (m + 1) told x2 (nI (3 ^ p)) (nI p) S
  | 0, p, h => by
    have hnp := hd.1.1
    obtain rfl : p = d_np d := by omega
    unfold wX8_secretOf_5
    rw [hM.1.1]
    refine ⟨fun _ v5 e5 => ?_, fun q => absurd (nI_le (Nat.le_refl _) (by omega)) q⟩
    rw [e5]
    exact hQ
  | m + 1, p, h => by
    have hnp := hd.1.1
    have ih := m_5 hd hM hQ m (p + 1) (by omega)
    unfold wX8_secretOf_5
    rw [hM.1.1, nle (by omega) (by omega)]
    refine ⟨fun q => by omega, fun _ v3 e3 => ?_⟩
    rw [e3, show (3 : Int32) = nI 3 from rfl, pk_mul, nI_1, ← Nat.pow_succ]
    exact ih
theorem m_secret {d : dt} {td : Nat → Int32} {ar : Nat → Nat} {w : Nat} {told : Int32} (htd : -999 ≤ told.toInt ∧ told.toInt ≤ 999) (hw : w ≤ 2) : lM (wX8_secretOf told (nI w)) d td ar (sev d ar told.toInt w) := fun S Q hS hQ => by
  refine ⟨d_np d + 1, m_5 hS.1 hS.2.1 ⟨3 ^ d_np d + 1, ?_⟩ (d_np d) 0 (by omega)⟩
  have h := m_44 hS.1 hS.2.1 hS.2.2.2 htd hw (hQ S fr_rf) (3 ^ d_np d) 0 (by omega)
  have e1 : alb d &&& (eA).2.1 = alb d := by unfold eA; simp
  have e2 : alb d &&& (eA).2.2 = alb d := by unfold eA; simp
  have h' : wX8_secretOf_44 Q (3 ^ d_np d + 1) told (nI w) (nI (3 ^ d_np d)) 0 (alb d &&& (eA).2.1) (alb d &&& (eA).2.2) 0 S := h
  rw [e1, e2] at h'
  exact h'
theorem p_secret (x1 x2 : Int32) : pr (wX7_secret x1 x2) (wX8_secret x1 x2) := by
  refine pr_lk (wm := fun S1 Q => wX8_in (x1.toInt64) (-999) 999 S1 (fun r12 S12 => (r12 = 0 → Q (-2) S12) ∧ (¬ r12 = 0 → wX8_in (x2.toInt64) 0 2 S12 (fun r24 S24 => (r24 = 0 → Q (-2) S24) ∧ (¬ r24 = 0 → wX8_secretOf x1 x2 S24 (fun r33 S33 => Q r33 S33)))))) (fun d td ar hd => ?_)
  by_cases g1 : -999 ≤ x1 ∧ x1 ≤ 999
  · have htd : -999 ≤ x1.toInt ∧ x1.toInt ≤ 999 := by
      have a : (-999 : Int32).toInt = -999 := by decide
      have b : (999 : Int32).toInt = 999 := by decide
      rw [pn_le, pn_le, a, b] at g1
      exact g1
    by_cases g2 : 0 ≤ x2 ∧ x2 ≤ 2
    · obtain ⟨w, hw, rfl⟩ := pn_rng (hi := 2) (by decide) g2.1 g2.2
      exact ⟨sev d ar x1.toInt w, x_secret htd g1 hw, fun S Q hS hQ => w_in (lo := -999) (hi := 999) (by decide) (by decide) (fun _ _ => ⟨fun c => absurd c n10, fun _ => w_in (lo := 0) (hi := 2) (by decide) (by decide) (fun _ _ => ⟨fun c => absurd c n10, fun _ => m_secret htd hw S _ hS hQ⟩) (fun g => absurd g2 g)⟩) (fun g => absurd g1 g)⟩
    · refine ⟨-2, fun S Q hS hQ => ?_, fun S Q hS hQ => w_in (lo := -999) (hi := 999) (by decide) (by decide) (fun _ _ => ⟨fun c => absurd c n10, fun _ => w_in (lo := 0) (hi := 2) (by decide) (by decide) (fun a b => absurd ⟨a, b⟩ g2) (fun _ => ⟨fun _ => hQ S fr_rf, fun c => absurd rfl c⟩)⟩) (fun g => absurd g1 g)⟩
      unfold wX7_secret
      exact w_within (fun _ _ => ⟨fun c => absurd c n10, fun _ => w_within (fun a b => absurd ⟨a, b⟩ g2) (fun _ => ⟨fun c => absurd rfl c, fun _ => hQ S fr_rf⟩)⟩) (fun g => absurd g1 g)
  · refine ⟨-2, fun S Q hS hQ => ?_, fun S Q hS hQ => w_in (lo := -999) (hi := 999) (by decide) (by decide) (fun a b => absurd ⟨a, b⟩ g1) (fun _ => ⟨fun _ => hQ S fr_rf, fun c => absurd rfl c⟩)⟩
    unfold wX7_secret
    exact w_within (fun a b => absurd ⟨a, b⟩ g1) (fun _ => ⟨fun _ => hQ S fr_rf, fun c => absurd rfl c⟩)
