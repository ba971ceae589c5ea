/-! ===== bits ===== -/
theorem sm31 : ∀ k, k < 31 → ((nI k &&& 31).toBitVec.smod 32).toNat = k := by decide
theorem shl1 {k : Nat} (h : k < 31) : (1 : Int32) <<< (nI k &&& 31) = nI (2 ^ k) := by
  have e := pk_shlN (n := 1) (nI k &&& 31) k (sm31 k h) (by rw [Nat.one_mul]; exact Nat.pow_lt_pow_right (by decide) (by omega))
  rw [Nat.one_mul] at e
  exact e
theorem bt {n k : Nat} (hn : n < 2147483648) (hk : k < 31) : (nI n >>> (nI k &&& 31)) &&& 1 = bI (n.testBit k) := by
  rw [pk_shrN hn _ k (sm31 k hk), pk_andN (Nat.lt_of_le_of_lt (Nat.div_le_self _ _) (by omega)) 1 (by decide), Nat.testBit_eq_decide_div_mod_eq]
  have h2 : n / 2 ^ k % 2 ^ 1 < 2 := Nat.mod_lt _ (by decide)
  have h3 : n / 2 ^ k % 2 ^ 1 = n / 2 ^ k % 2 := rfl
  by_cases h : n / 2 ^ k % 2 = 1
  · rw [h3, h]; rfl
  · have h4 : n / 2 ^ k % 2 = 0 := by omega
    rw [h3, h4]; rfl
theorem m_isIn {n k : Nat} {S : gz_S} {Q : Int32 → gz_S → Prop} (hn : n < 2147483648) (hk : k < 31) (hQ : Q (bI (n.testBit k)) S) : wX8_isIn (nI n) (nI k) S Q := by
  unfold wX8_isIn
  rw [bt hn hk]
  cases h : n.testBit k with
  | true => rw [h] at hQ; exact ⟨fun c => absurd rfl c, fun _ => hQ⟩
  | false => rw [h] at hQ; exact ⟨fun _ => hQ, fun c => absurd c (by decide)⟩
theorem b0 {n k : Nat} (hn : n < 2147483648) (hk : k < 31) : ((nI n >>> (nI k &&& 31)) &&& 1 = 0) ↔ n.testBit k = false := by rw [bt hn hk]; exact bI_0
theorem or8 {b p : Nat} (hb : b < 256) (hp : p < 8) : b ||| 2 ^ p < 256 := Nat.or_lt_two_pow (n := 8) hb (Nat.pow_lt_pow_right (by decide) hp)
/-! ===== doubles ===== -/
def dbf (d : dt) : Nat → Int32 × Int32
  | 0 => (0, 0)
  | k + 1 => ((dbf d k).1 ||| (1 <<< (nI (d_cs d k) &&& 31)), (dbf d k).2 ||| ((dbf d k).1 &&& (1 <<< (nI (d_cs d k) &&& 31))))
theorem x_doubles_lp {d : dt} {Q : Int32 → gz_S → Prop} {S : gz_S} (hc : d_nc d ≤ 30) (h12 : S 12 3 = nI (d_nc d)) (h14 : ∀ j, j < d_nc d → S 14 j = nI (d_cs d j)) (hQ : Q (dbf d (d_nc d)).2 S) : ∀ (m k : Nat), k + m = d_nc d → wX7_doubles_6 Q (m + 1) (dbf d k).1 (dbf d k).2 (nI k) S
  | 0, k, h1 => by
    unfold wX7_doubles_6
    obtain rfl : k = d_nc d := by omega
    rw [h12]
    exact ⟨fun _ => hQ, fun c => absurd (nI_le (Nat.le_refl _) (by omega)) c⟩
  | m + 1, k, h1 => by
    unfold wX7_doubles_6
    rw [h12, nle (by omega) (by omega), pn_cl (by omega), h14 k (by omega)]
    refine ⟨fun c => by omega, fun c => ⟨pn_in (by omega) (by decide), fun v4 e4 v2 e2 v1 e1 => ?_⟩⟩
    rw [e1, e2, e4, nI_1]
    exact x_doubles_lp hc h12 h14 hQ m (k + 1) (by omega)
theorem m_doubles_lp {d : dt} {Q : Int32 → gz_S → Prop} {S : gz_S} (hc : d_nc d ≤ 30) (h12 : S 45 16 = nI (d_nc d)) (h14 : ∀ j, j < d_nc d → S 59 (3 * j + 1) = nI (d_cs d j)) (hQ : Q (dbf d (d_nc d)).2 S) : ∀ (m k : Nat), k + m = d_nc d → wX8_doubles_6 Q (m + 1) (dbf d k).1 (dbf d k).2 (nI k) S
  | 0, k, h1 => by
    unfold wX8_doubles_6
    obtain rfl : k = d_nc d := by omega
    rw [h12]
    exact ⟨fun _ => hQ, fun c => absurd (nI_le (Nat.le_refl _) (by omega)) c⟩
  | m + 1, k, h1 => by
    unfold wX8_doubles_6
    rw [h12, nle (by omega) (by omega), n3k, nI_1, pn_cl (by omega), h14 k (by omega)]
    refine ⟨fun c => by omega, fun c => ⟨pn_in (by omega) (by decide), fun v4 e4 v2 e2 v1 e1 => ?_⟩⟩
    rw [e1, e2, e4, nI_1]
    exact m_doubles_lp hc h12 h14 hQ m (k + 1) (by omega)
theorem x_doubles {d : dt} {Q : Int32 → gz_S → Prop} {S : gz_S} (hd : d_ok d) (hX : d_X S d) (hQ : Q (dbf d (d_nc d)).2 S) : wX7_doubles S Q :=
  ⟨_, x_doubles_lp hd.2.2.2.2.2.1 hX.2.2.2.1 (fun j hj => (hX.2.2.2.2 j hj).2.1) hQ (d_nc d) 0 (by omega)⟩
theorem m_doubles {d : dt} {Q : Int32 → gz_S → Prop} {S : gz_S} (hd : d_ok d) (h12 : S 45 16 = nI (d_nc d)) (h14 : ∀ j, j < d_nc d → S 59 (3 * j + 1) = nI (d_cs d j)) (hQ : Q (dbf d (d_nc d)).2 S) : wX8_doubles S Q :=
  ⟨_, m_doubles_lp hd.2.2.2.2.2.1 h12 h14 hQ (d_nc d) 0 (by omega)⟩
theorem p_doubles : pr wX7_doubles wX8_doubles := by
  refine pr_look (fun d td ar => ⟨(dbf d (d_nc d)).2, fun S Q hS hQ => x_doubles hS.1 hS.2.1 (hQ S fr_rf), fun S Q y0 n0 y1 n1 hR hMS hQ => ?_⟩)
  exact m_doubles hR.ok hR.2.1.2.2.2.1 (fun j hj => (hR.2.1.2.2.2.2 j hj).2.1) (hQ S fr_rf)
/-! ===== result: by weight ===== -/
def wsg (d : dt) (s : HS) (j : Nat) : Int := if s.2.1 j then (if d_sd d (d_cp d j) = 0 then (d_wt d (d_cs d j) : Int) else -(d_wt d (d_cs d j) : Int)) else 0
def onS (d : dt) (s : HS) (x n : Nat) : Nat := fb_sm (fun j => if s.2.1 j && (sh d j == x) then d_wt d (d_cs d j) else 0) n
theorem on_put {d : dt} {s : HS} {k : Nat} (h : ∀ x, s.1 x = onS d s x (d_nc d)) (hk : k < d_nc d) (hn : s.2.1 k = false) : ∀ x, (hput d s k).1 x = onS d (hput d s k) x (d_nc d) := by
  have e : ∀ x, fb_sm (fun j => if lyp s k j && (sh d j == x) then d_wt d (d_cs d j) else 0) (d_nc d) = s.1 x + if sh d k = x then d_wt d (d_cs d k) else 0 := by
    intro x
    have e2 := fb_sm_upd (fun j => if s.2.1 j && (sh d j == x) then d_wt d (d_cs d j) else 0) (if sh d k = x then d_wt d (d_cs d k) else 0) (i := k) (n := d_nc d) hk
    have f2 : (fun j => if lyp s k j && (sh d j == x) then d_wt d (d_cs d j) else 0) = (fun j => if j = k then (if sh d k = x then d_wt d (d_cs d k) else 0) else (if s.2.1 j && (sh d j == x) then d_wt d (d_cs d j) else 0)) := by
      funext j
      unfold lyp
      by_cases e : j = k
      · subst e; by_cases q : sh d j = x <;> simp [q]
      · simp [e]
    rw [f2, h x]
    unfold onS
    simp [hn] at e2
    simpa using e2
  intro x
  unfold hput
  split
  · show (if x = sh d k then s.1 (sh d k) + d_wt d (d_cs d k) else s.1 x) = fb_sm (fun j => if lyp s k j && (sh d j == x) then d_wt d (d_cs d j) else 0) (d_nc d)
    rw [e]
    by_cases q : x = sh d k
    · rw [if_pos q, if_pos q.symm, q]
    · rw [if_neg q, if_neg (fun w => q w.symm)]; rfl
  · show (if x = sh d k then 0 else s.1 x) = fb_sm (fun j => if (lyp s k j && !(sh d j == sh d k)) && (sh d j == x) then d_wt d (d_cs d j) else 0) (d_nc d)
    by_cases q : x = sh d k
    · rw [if_pos q, fb_sm_cong (g := fun _ => 0) (fun j _ => ?_), fb_sm_const]
      · omega
      · rw [if_neg]
        rw [q]
        cases lyp s k j <;> cases (sh d j == sh d k) <;> simp
    · rw [if_neg q]
      have e2 := e x
      rw [if_neg (fun w => q w.symm)] at e2
      rw [show s.1 x = s.1 x + 0 from rfl, ← e2]
      refine fb_sm_cong (fun j _ => ?_)
      by_cases q2 : sh d j = x
      · have h1 : (sh d j == sh d k) = false := by rw [beq_eq_false_iff_ne]; exact fun w => q (q2.symm.trans w)
        rw [h1]
        simp
      · simp [q2]
theorem on_fold {d : dt} : ∀ (l : List Nat) (s : HS), (∀ x, s.1 x = onS d s x (d_nc d)) → l.Nodup → (∀ k ∈ l, k < d_nc d ∧ s.2.1 k = false) → ∀ x, (l.foldl (hput d) s).1 x = onS d (l.foldl (hput d) s) x (d_nc d)
  | [], s, h, _, _, x => h x
  | k :: l, s, h, hn, hl, x => by
    have hk := hl k List.mem_cons_self
    refine on_fold l (hput d s k) (on_put h hk.1 hk.2) (List.nodup_cons.mp hn).2 (fun j hj => ⟨(hl j (List.mem_cons_of_mem _ hj)).1, ?_⟩) x
    have hjk : j ≠ k := fun e => (List.nodup_cons.mp hn).1 (e ▸ hj)
    have h1 := (hl j (List.mem_cons_of_mem _ hj)).2
    have h2 : lyp s k j = false := by unfold lyp; rw [if_neg hjk]; exact h1
    unfold hput
    split
    · exact h2
    · show (lyp s k j && !(sh d j == sh d k)) = false
      rw [h2]; rfl
theorem qq_nodup {d : dt} {sk : Nat → Bool} (h : Nat) : (qq d sk (h + 1)).Nodup := by rw [← od_qq]; exact (od_nodup _).filter _
theorem on_qq {d : dt} {sk : Nat → Bool} (h x : Nat) : (hf d (qq d sk (h + 1))).1 x = onS d (hf d (qq d sk (h + 1))) x (d_nc d) := by
  refine on_fold _ hs0 (fun x => ?_) (qq_nodup h) (fun k hk => ⟨(qq_mem hk).1, rfl⟩) x
  unfold onS
  rw [fb_sm_cong (g := fun _ => 0) (fun j _ => by simp [hs0]), fb_sm_const]
  simp [hs0]
theorem wsum {d : dt} {s : HS} (hd : d_ok d) (hly : ∀ j, s.2.1 j = true → j < d_nc d ∧ d_cp d j < d_np d) : ∀ n, n ≤ d_nc d → ((onS d s 0 n + onS d s 1 n + onS d s 2 n + onS d s 3 n + onS d s 4 n : Nat) : Int) - ((onS d s 5 n + onS d s 6 n + onS d s 7 n + onS d s 8 n + onS d s 9 n : Nat) : Int) = fb_si (wsg d s) n
  | 0, _ => rfl
  | n + 1, hn => by
    have ih := wsum hd hly n (by omega)
    have st : ∀ x, onS d s x (n + 1) = onS d s x n + if s.2.1 n && (sh d n == x) then d_wt d (d_cs d n) else 0 := fun x => rfl
    rw [fb_si_succ, ← ih]
    simp only [st]
    unfold wsg
    cases hy : s.2.1 n with
    | false => simp
    | true =>
      have h1 := hly n hy
      have h2 := hd.2.2.2.2.2.2 n h1.1
      have h3 := (hd.2.1 _ h1.2).2.2
      have h4 : sh d n = d_sd d (d_cp d n) * 5 + d_ca d n - 1 := rfl
      have h5 : d_ca d n = 1 ∨ d_ca d n = 2 ∨ d_ca d n = 3 ∨ d_ca d n = 4 ∨ d_ca d n = 5 := by omega
      have h6 : d_sd d (d_cp d n) = 0 ∨ d_sd d (d_cp d n) = 1 := by omega
      rcases h6 with h6 | h6 <;> rcases h5 with h5 | h5 | h5 | h5 | h5 <;> rw [h6, h5] at h4 <;> simp [h4, h6] <;> omega
theorem si_b {d : dt} {s : HS} (hd : d_ok d) (hly : ∀ j, s.2.1 j = true → j < d_nc d ∧ d_cs d j < d_ns d) {n : Nat} (hn : n ≤ 30) : -270 ≤ fb_si (wsg d s) n ∧ fb_si (wsg d s) n ≤ 270 := by
  have := fb_si_bound (f := wsg d s) (c := 9) (by decide) (n := n) (fun k hk => by
    unfold wsg
    cases hy : s.2.1 k with
    | false => simp
    | true =>
      have h1 := (hd.2.2.1 _ (hly k hy).2).2.1
      simp only [if_true]
      split <;> omega)
  omega
def r1v (d : dt) (s : HS) : Int32 := Int32.ofInt (fb_si (wsg d s) (d_nc d))
theorem x_lead {d : dt} {s : HS} {pl : Nat → Option Nat} {S : gz_S} {Q : Int32 → gz_S → Prop} (hd : d_ok d) (hly : ∀ j, s.2.1 j = true → j < d_nc d ∧ d_cp d j < d_np d ∧ d_cs d j < d_ns d) (hon : ∀ x, s.1 x = onS d s x (d_nc d)) (hle : ∀ x, s.1 x ≤ 99) (hH : hX S 16 s pl) (hQ : Q (r1v d s) S) : wX2_weightLead 16 S Q := by
  have h0 := hH.1 0 (by decide)
  have h1 := hH.1 1 (by decide)
  have h2 := hH.1 2 (by decide)
  have h3 := hH.1 3 (by decide)
  have h4 := hH.1 4 (by decide)
  have h5 := hH.1 5 (by decide)
  have h6 := hH.1 6 (by decide)
  have h7 := hH.1 7 (by decide)
  have h8 := hH.1 8 (by decide)
  have h9 := hH.1 9 (by decide)
  refine ⟨6, ?_⟩
  unfold wX2_weightLead_4 wX7_shelfNumber
  refine ⟨fun c => absurd c (by decide), fun _ => ⟨pn_in (j := 0) (by decide) (by decide), pn_in (j := 5) (by decide) (by decide), fun v1 e1 => ?_⟩⟩
  unfold wX2_weightLead_4 wX7_shelfNumber
  refine ⟨fun c => absurd c (by decide), fun _ => ⟨pn_in (j := 1) (by decide) (by decide), pn_in (j := 6) (by decide) (by decide), fun v2 e2 => ?_⟩⟩
  unfold wX2_weightLead_4 wX7_shelfNumber
  refine ⟨fun c => absurd c (by decide), fun _ => ⟨pn_in (j := 2) (by decide) (by decide), pn_in (j := 7) (by decide) (by decide), fun v3 e3 => ?_⟩⟩
  unfold wX2_weightLead_4 wX7_shelfNumber
  refine ⟨fun c => absurd c (by decide), fun _ => ⟨pn_in (j := 3) (by decide) (by decide), pn_in (j := 8) (by decide) (by decide), fun v4 e4 => ?_⟩⟩
  unfold wX2_weightLead_4 wX7_shelfNumber
  refine ⟨fun c => absurd c (by decide), fun _ => ⟨pn_in (j := 4) (by decide) (by decide), pn_in (j := 9) (by decide) (by decide), fun v5 e5 => ?_⟩⟩
  unfold wX2_weightLead_4
  refine ⟨fun _ => ?_, fun c => absurd (by decide) c⟩
  have g1 : v1 = 0 + (nI (s.1 0) - nI (s.1 5)) := by rw [← h0, ← h5]; exact e1
  have g2 : v2 = v1 + (nI (s.1 1) - nI (s.1 6)) := by rw [← h1, ← h6]; exact e2
  have g3 : v3 = v2 + (nI (s.1 2) - nI (s.1 7)) := by rw [← h2, ← h7]; exact e3
  have g4 : v4 = v3 + (nI (s.1 3) - nI (s.1 8)) := by rw [← h3, ← h8]; exact e4
  have g5 : v5 = v4 + (nI (s.1 4) - nI (s.1 9)) := by rw [← h4, ← h9]; exact e5
  have b0 := hle 0
  have b1 := hle 1
  have b2 := hle 2
  have b3 := hle 3
  have b4 := hle 4
  have b5 := hle 5
  have b6 := hle 6
  have b7 := hle 7
  have b8 := hle 8
  have b9 := hle 9
  have z : (0 : Int32).toInt = 0 := by decide
  have t1 : v1.toInt = (s.1 0 : Int) - s.1 5 := by rw [g1, fb_addI] <;> rw [pk_sub_toInt (by omega) (by omega), z] <;> omega
  have t2 : v2.toInt = (s.1 0 : Int) - s.1 5 + (s.1 1 - s.1 6) := by rw [g2, fb_addI] <;> rw [pk_sub_toInt (by omega) (by omega), t1] <;> omega
  have t3 : v3.toInt = (s.1 0 : Int) - s.1 5 + (s.1 1 - s.1 6) + (s.1 2 - s.1 7) := by rw [g3, fb_addI] <;> rw [pk_sub_toInt (by omega) (by omega), t2] <;> omega
  have t4 : v4.toInt = (s.1 0 : Int) - s.1 5 + (s.1 1 - s.1 6) + (s.1 2 - s.1 7) + (s.1 3 - s.1 8) := by rw [g4, fb_addI] <;> rw [pk_sub_toInt (by omega) (by omega), t3] <;> omega
  have t5 : v5.toInt = (s.1 0 : Int) - s.1 5 + (s.1 1 - s.1 6) + (s.1 2 - s.1 7) + (s.1 3 - s.1 8) + (s.1 4 - s.1 9) := by rw [g5, fb_addI] <;> rw [pk_sub_toInt (by omega) (by omega), t4] <;> omega
  have hw := wsum hd (fun j h => ⟨(hly j h).1, (hly j h).2.1⟩) (d_nc d) (Nat.le_refl _)
  rw [← hon, ← hon, ← hon, ← hon, ← hon, ← hon, ← hon, ← hon, ← hon, ← hon] at hw
  have hb := si_b hd (fun j h => ⟨(hly j h).1, (hly j h).2.2⟩) hd.2.2.2.2.2.1
  have e : v5 = r1v d s := by
    unfold r1v
    rw [pn_eq, fb_ofI (by omega) (by omega), t5, ← hw]
    omega
  rw [e]
  exact hQ
/-! ===== result: one each ===== -/
def byv (d : dt) (v : Nat → Bool) : Nat → Int32
  | 0 => 0
  | p + 1 => byv d v p + (if v p then (if d_sd d p = 0 then 1 else -1) else 0)
def vtd (d : dt) (s : HS) (p : Nat) : Bool := (List.range (d_nc d)).any (fun j => s.2.1 j && d_cp d j == p)
theorem vtd_iff {d : dt} {s : HS} {p : Nat} : vtd d s p = true ↔ ∃ j, j < d_nc d ∧ s.2.1 j = true ∧ d_cp d j = p := by
  unfold vtd
  rw [List.any_eq_true]
  constructor
  · rintro ⟨j, h1, h2⟩
    simp at h2
    exact ⟨j, List.mem_range.mp h1, h2.1, h2.2⟩
  · rintro ⟨j, h1, h2, h3⟩
    exact ⟨j, List.mem_range.mpr h1, by simp [h2, h3]⟩
def r2v (d : dt) (s : HS) : Int32 := byv d (vtd d s) (d_np d)
theorem n0d {a : Nat} (h : a ≤ 1) : nI a = 0 ↔ a = 0 := n0 (by omega)
theorem x_voters_41 {d : dt} {v : Nat → Bool} {b a0 : Nat} {S : gz_S} {Q : Int32 → gz_S → Prop} (hd : d_ok d) (hX : d_X S d) (hb : b < 256) (hv : ∀ p, p < d_np d → b.testBit p = v p) (hQ : Q (byv d v (d_np d)) S) : ∀ (m p : Nat), p + m = d_np d → wX2_votersLead_41 Q (m + 1) a0 (nI b) (byv d v p) (nI p) S
  | 0, p, h1 => by
    have hnp := hd.1
    unfold wX2_votersLead_41
    obtain rfl : p = d_np d := by omega
    rw [hX.1.1]
    exact ⟨fun _ => hQ, fun c => absurd (nI_le (Nat.le_refl _) (by omega)) c⟩
  | m + 1, p, h1 => by
    have hnp := hd.1
    have ih := x_voters_41 (a0 := a0) hd hX hb hv hQ m (p + 1) (by omega)
    unfold wX2_votersLead_41
    rw [hX.1.1, nle (by omega) (by omega), b0 (by omega) (by omega), hv p (by omega)]
    refine ⟨fun c => by omega, fun _ => ⟨fun c => ?_, fun c => ?_⟩⟩
    · unfold wX2_votersLead_82
      rw [nI_1]
      have e : byv d v (p + 1) = byv d v p := by
        show byv d v p + _ = _
        rw [c]
        exact Int32.add_zero _
      rw [e] at ih
      exact ih
    · refine x_sideOf hX hd (by omega) ?_
      rw [n0d (hd.2.1 p (by omega)).2.2]
      have c' : v p = true := by cases h : v p with | true => rfl | false => exact absurd h c
      unfold wX2_votersLead_80 wX2_votersLead_82
      refine ⟨fun q v2 e2 => ?_, fun q v2 e2 => ?_⟩
      · rw [e2, nI_1]
        have e : byv d v (p + 1) = byv d v p + -1 := by
          show byv d v p + _ = _
          rw [c', if_pos rfl, if_neg q]
        rw [e] at ih
        exact ih
      · rw [e2, nI_1]
        have e : byv d v (p + 1) = byv d v p + 1 := by
          show byv d v p + _ = _
          rw [c', if_pos rfl, if_pos q]
        rw [e] at ih
        exact ih
theorem m_voters {d : dt} {v : Nat → Bool} {b : Nat} {S : gz_S} {Q : Int32 → gz_S → Prop} (hd : d_ok d) (hM : d_M S d) (hb : b < 256) (hv : ∀ p, p < d_np d → b.testBit p = v p) (hQ : Q (byv d v (d_np d)) S) : ∀ (m p : Nat), p + m = d_np d → wX8_resultOf_130 Q (m + 1) (nI b) (byv d v p) (nI p) S
  | 0, p, h1 => by
    have hnp := hd.1
    unfold wX8_resultOf_130
    obtain rfl : p = d_np d := by omega
    rw [hM.1.1]
    exact ⟨fun _ => hQ, fun c => absurd (nI_le (Nat.le_refl _) (by omega)) c⟩
  | m + 1, p, h1 => by
    have hnp := hd.1
    have ih := m_voters hd hM hb hv hQ m (p + 1) (by omega)
    unfold wX8_resultOf_130
    rw [hM.1.1, nle (by omega) (by omega)]
    refine ⟨fun c => by omega, fun _ => m_isIn (by omega) (by omega) ?_⟩
    rw [bI_0, hv p (by omega), pn_cl (by omega), (hM.1.2 p (by omega)).2, n0d (hd.2.1 p (by omega)).2.2]
    unfold wX8_resultOf_170
    refine ⟨fun c => ⟨pn_in (by omega) (by decide), fun q v2 e2 => ?_, fun q v2 e2 => ?_⟩, fun c v2 e2 => ?_⟩
    · have c' : v p = true := by cases h : v p with | true => rfl | false => exact absurd h c
      rw [e2, nI_1]
      have e : byv d v (p + 1) = byv d v p + -1 := by
        show byv d v p + _ = _
        rw [c', if_pos rfl, if_neg q]
      rw [e] at ih
      exact ih
    · have c' : v p = true := by cases h : v p with | true => rfl | false => exact absurd h c
      rw [e2, nI_1]
      have e : byv d v (p + 1) = byv d v p + 1 := by
        show byv d v p + _ = _
        rw [c', if_pos rfl, if_pos q]
      rw [e] at ih
      exact ih
    · rw [e2, nI_1]
      have e : byv d v (p + 1) = byv d v p + 0 := by
        show byv d v p + _ = _
        rw [c]
        rfl
      rw [e] at ih
      exact ih
theorem x_voters_4 {d : dt} {s : HS} {pl : Nat → Option Nat} {S : gz_S} {Q : Int32 → gz_S → Prop} (hd : d_ok d) (hXX : d_X S d) (hJ : jX S 16 d sk0 (d_nc d)) (hly : ∀ j, s.2.1 j = true → j < d_nc d ∧ jl d sk0 j ≠ none) (hH : hX S 16 s pl) (hpX : pX d s pl) (hQ : Q (r2v d s) S) : ∀ (m t b : Nat), t + m = 9 → b < 256 → (∀ p, b.testBit p = true ↔ ∃ j, j < d_nc d ∧ s.2.1 j = true ∧ d_cs d j < t ∧ d_cp d j = p) → wX2_votersLead_4 Q (m + 1) 16 (nI b) (nI t) S
  | 0, t, b, h1, hb, hi => by
    obtain rfl : t = 9 := by omega
    unfold wX2_votersLead_4
    refine ⟨fun _ => ⟨d_np d + 1, x_voters_41 (v := vtd d s) hd hXX hb (fun p hp => ?_) hQ (d_np d) 0 (by omega)⟩, fun c => absurd (by decide) c⟩
    rw [Bool.eq_iff_iff, hi, vtd_iff]
    constructor
    · rintro ⟨j, q1, q2, -, q4⟩; exact ⟨j, q1, q2, q4⟩
    · rintro ⟨j, q1, q2, q4⟩; exact ⟨j, q1, q2, (hd.2.2.2.2.2.2 j q1).2.1, q4⟩
  | m + 1, t, b, h1, hb, hi => by
    unfold wX2_votersLead_4 wX2_votersLead_31
    have e6 : S (16 + 6) t = oI (pl t) := hH.2.1 t (by omega)
    have e2 : S (16 + 2) t = oI ((js d sk0 (d_nc d)).2 t) := hJ.2.1 t (by omega)
    have hsm : ∀ n, pl t = some n → n < 2147483648 := fun n hn => by
      obtain ⟨j, q1, q2, q3, q4⟩ := (hpX.1 t n).mp hn
      have h3 := hly j q2
      cases hl : jl d sk0 j with
      | none => exact absurd hl h3.2
      | some x =>
        have := sh_lt hd q1 (jl_iff.mp hl).1.2.1
        omega
    rw [show (9 : Int32) = nI 9 from rfl, nle (by omega) (by omega), pn_cl (by omega), e6, e2, oI_m1 hsm]
    refine ⟨fun c => by omega, fun _ => ⟨pn_in (by omega) (by decide), fun c => ?_, fun c => ⟨pn_in (by omega) (by decide), fun v1 e1 => ?_⟩⟩⟩
    · rw [nI_1]
      refine x_voters_4 hd hXX hJ hly hH hpX hQ m (t + 1) b (by omega) hb (fun p => ?_)
      rw [hi]
      constructor
      · rintro ⟨j, q1, q2, q3, q4⟩; exact ⟨j, q1, q2, by omega, q4⟩
      · rintro ⟨j, q1, q2, q3, q4⟩
        refine ⟨j, q1, q2, ?_, q4⟩
        have : d_cs d j ≠ t := fun e => by
          have := (hpX.1 t (sh d j)).mpr ⟨j, q1, q2, e, rfl⟩
          rw [c] at this
          cases this
        omega
    · cases hpl : pl t with
      | none => exact absurd hpl c
      | some x =>
        obtain ⟨i, q1, q2, q3, q4⟩ := (hpX.1 t x).mp hpl
        have hby := js_by_of (d_nc d) i q1 (hly i q2).2
        rw [q3] at hby
        have hcp := (hd.2.2.2.2.2.2 i q1).1
        rw [e1, hby]
        show wX2_votersLead_4 Q (m + 1) 16 (nI b ||| (1 <<< (nI (d_cp d i) &&& 31))) (nI t + 1) S
        rw [shl1 (by omega), fa_or, nI_1]
        refine x_voters_4 hd hXX hJ hly hH hpX hQ m (t + 1) (b ||| 2 ^ d_cp d i) (by omega) (or8 hb hcp) (fun p => ?_)
        rw [fb_bit_set, Bool.or_eq_true, hi, decide_eq_true_eq]
        constructor
        · rintro (⟨j, r1, r2, r3, r4⟩ | e)
          · exact ⟨j, r1, r2, by omega, r4⟩
          · exact ⟨i, q1, q2, by omega, e.symm⟩
        · rintro ⟨j, r1, r2, r3, r4⟩
          by_cases e : d_cs d j = t
          · have h2 := js_by_of (d_nc d) j r1 (hly j r2).2
            rw [e, hby] at h2
            exact Or.inr (by rw [← r4]; exact (Option.some.inj h2).symm)
          · exact Or.inl ⟨j, r1, r2, by omega, r4⟩
theorem hf_law {d : dt} {sk : Nat → Bool} {h j : Nat} (hy : (hf d (qq d sk (h + 1))).2.1 j = true) : j < d_nc d ∧ jl d sk j ≠ none ∧ d_cp d j < d_np d ∧ d_cs d j < d_ns d := by
  obtain ⟨h1, t, h2, h3⟩ := qq_mem (hf_ly hy)
  have h4 := (jl_iff.mp h3).1
  exact ⟨h1, by rw [h3]; simp, h4.2.1, h4.2.2.1⟩
/-! the answer -/
def rsv (d : dt) (td : Nat → Int32) (w : Nat) : Int32 := if w = 0 then tp d td (d_hr d) else if w = 1 then r1v d (hf d (qq d sk0 (d_hr d + 1))) else r2v d (hf d (qq d sk0 (d_hr d + 1)))
theorem x_result {d : dt} {td : Nat → Int32} {ar : Nat → Nat} {w : Nat} {S : gz_S} {Q : Int32 → gz_S → Prop} (hS : XS S d td ar) (hw : w ≤ 2) (hQ : ∀ S', fr gX S S' → Q (rsv d td w) S') : wX7_result (nI w) S Q := by
  have hb := hS.1.2.2.2.1
  unfold wX7_result
  refine w_within (fun _ _ => ⟨fun _ => ?_, fun c => absurd c n10⟩) (fun g => absurd ⟨nI_pos' (by omega), nI_le (b := 2) hw (by decide)⟩ g)
  rw [hS.2.1.2.2.1.1, n0' hw, n1' hw]
  refine hS.tip hb.2 (fun S1 hf1 hH hp => ?_)
  have hS1 := hS.keep hf1
  have q := hQ S1 hf1
  unfold rsv at q
  refine ⟨fun c => ⟨fun c2 => ?_, fun c2 => ?_⟩, fun c => ?_⟩
  · rw [if_neg c, if_neg c2] at q
    exact ⟨10, x_voters_4 hS.1 hS1.2.1 hS1.2.2.1 (fun j hj => ⟨(hf_law hj).1, (hf_law hj).2.1⟩) hH hp q 9 0 0 (by omega) (by decide) (fun p => ⟨fun h => (by simp at h), fun h => (by obtain ⟨j, _, _, h, _⟩ := h; omega)⟩)⟩
  · rw [if_neg c, if_pos c2] at q
    refine x_lead hS.1 (fun j hj => ⟨(hf_law hj).1, (hf_law hj).2.2⟩) (fun x => on_qq _ x) (fun x => ?_) hH q
    exact Nat.le_trans (hf_on d _ x) hS.1.2.2.2.2.1.2
  · rw [if_pos c] at q
    exact q
theorem m_result_lp {d : dt} {s : HS} {w : Nat} {S : gz_S} {Q : Int32 → gz_S → Prop} (hd : d_ok d) (hMM : d_M S d) (hw : w ≤ 2) (hly : ∀ j, s.2.1 j = true → j < d_nc d ∧ d_cp d j < d_np d ∧ d_cs d j < d_ns d) (hH : hM S d s) (h1Q : w = 1 → Q (r1v d s) S) (h2Q : ¬ w = 1 → Q (r2v d s) S) : ∀ (m k b : Nat) (x3 : Int32), k + m = d_nc d → b < 256 → x3.toInt = fb_si (wsg d s) k → (∀ p, b.testBit p = true ↔ ∃ j, j < k ∧ s.2.1 j = true ∧ d_cp d j = p) → wX8_resultOf_23 Q (m + 1) (nI w) x3 (nI b) (nI k) S
  | 0, k, b, x3, h1, hb, hx, hi => by
    have hc := hd.2.2.2.2.2.1
    obtain rfl : k = d_nc d := by omega
    have hsb := si_b hd (fun j h => ⟨(hly j h).1, (hly j h).2.2⟩) hc
    unfold wX8_resultOf_23
    rw [hMM.2.2.2.1, n1' hw]
    refine ⟨fun _ => ⟨fun c => ⟨d_np d + 1, m_voters (v := vtd d s) hd hMM hb (fun p hp => ?_) (h2Q c) (d_np d) 0 (by omega)⟩, fun c => ?_⟩, fun c => absurd (nI_le (Nat.le_refl _) (by omega)) c⟩
    · rw [Bool.eq_iff_iff, hi, vtd_iff]
    · have e : x3 = r1v d s := by unfold r1v; rw [pn_eq, fb_ofI (by omega) (by omega), hx]
      rw [e]
      exact h1Q c
  | m + 1, k, b, x3, h1, hb, hx, hi => by
    have hc := hd.2.2.2.2.2.1
    have hk := hd.2.2.2.2.2.2 k (by omega)
    have hsb := si_b hd (fun j h => ⟨(hly j h).1, (hly j h).2.2⟩) (n := k) (by omega)
    obtain ⟨t1, t2, -⟩ := hMM.2.2.2.2 k (by omega)
    have h64 := hH.2.1 k (by omega)
    unfold wX8_resultOf_23 wX8_resultOf_100 wX8_resultOf_111
    rw [hMM.2.2.2.1, nle (by omega) (by omega), n3k, nI_1, pn_cl (n := k) (by omega), h64, bI_0, nI_1, pn_cl (n := 3 * k) (by omega), pn_cl (n := 3 * k + 1) (by omega), t1, t2, pn_cl (n := d_cs d k) (by omega)]
    refine ⟨fun c => by omega, fun _ => ⟨pn_in (by omega) (by decide), fun c => ?_, fun c => ⟨pn_in (by omega) (by decide), fun v6 e6 => ?_⟩⟩⟩
    · refine m_result_lp hd hMM hw hly hH h1Q h2Q m (k + 1) b x3 (by omega) hb ?_ (fun p => ?_)
      · rw [fb_si_succ, ← hx]
        unfold wsg
        rw [c]
        simp
      · rw [hi]
        constructor
        · rintro ⟨j, q1, q2⟩; exact ⟨j, by omega, q2⟩
        · rintro ⟨j, q1, q2, q3⟩
          have : j ≠ k := fun e => by rw [e, c] at q2; cases q2
          exact ⟨j, by omega, q2, q3⟩
    · have c' : s.2.1 k = true := by cases h : s.2.1 k with | true => rfl | false => exact absurd h c
      have hl := hly k c'
      have hwt := hd.2.2.1 _ hl.2.2
      have hsd := hd.2.1 _ hl.2.1
      have hbit : ∀ p, (b ||| 2 ^ d_cp d k).testBit p = true ↔ ∃ j, j < k + 1 ∧ s.2.1 j = true ∧ d_cp d j = p := fun p => by
        rw [fb_bit_set, Bool.or_eq_true, hi, decide_eq_true_eq]
        constructor
        · rintro (⟨j, q1, q2⟩ | e)
          · exact ⟨j, by omega, q2⟩
          · exact ⟨k, by omega, c', e.symm⟩
        · rintro ⟨j, q1, q2, q3⟩
          by_cases e : j = k
          · right; rw [← q3, e]
          · exact Or.inl ⟨j, by omega, q2, q3⟩
      rw [e6, pn_cl (by omega), (hMM.1.2 _ hl.2.1).2, n0d hsd.2.2, (hMM.2.1.2 _ hl.2.2).1, shl1 (by omega), fa_or]
      refine ⟨pn_in (by omega) (by decide), fun q => ⟨pn_in (by omega) (by decide), pn_in (by omega) (by decide), fun v3 e3 v4 e4 => ?_⟩, fun q => ⟨pn_in (by omega) (by decide), pn_in (by omega) (by decide), fun v3 e3 v4 e4 => ?_⟩⟩
      · rw [e4]
        refine m_result_lp hd hMM hw hly hH h1Q h2Q m (k + 1) _ v3 (by omega) (or8 hb (by omega)) ?_ hbit
        have t : (nI (d_wt d (d_cs d k))).toInt = (d_wt d (d_cs d k) : Int) := pn_t (by omega)
        have t' : (-nI (d_wt d (d_cs d k))).toInt = -(d_wt d (d_cs d k) : Int) := by rw [fb_negI (by rw [t]; omega), t]
        rw [fb_si_succ, ← hx, e3, fb_addI (by rw [t']; omega) (by rw [t']; omega), t']
        unfold wsg
        rw [c', if_pos rfl, if_neg q]
      · rw [e4]
        refine m_result_lp hd hMM hw hly hH h1Q h2Q m (k + 1) _ v3 (by omega) (or8 hb (by omega)) ?_ hbit
        have t : (nI (d_wt d (d_cs d k))).toInt = (d_wt d (d_cs d k) : Int) := pn_t (by omega)
        rw [fb_si_succ, ← hx, e3, fb_addI (by rw [t]; omega) (by rw [t]; omega), t]
        unfold wsg
        rw [c', if_pos rfl, if_pos q]
theorem m_result {d : dt} {td : Nat → Int32} {ar : Nat → Nat} {w : Nat} {S : gz_S} {Q : Int32 → gz_S → Prop} (hS : MS S d td ar) (hw : w ≤ 2) (hQ : ∀ S', fr gM S S' → Q (rsv d td w) S') : wX8_resultOf (nI w) S Q := by
  have hb := hS.1.2.2.2.1
  unfold wX8_resultOf
  refine hS.end_ (hS.tip hb.2 (fun S1 hf1 hJ hH => ?_))
  rw [n0' hw]
  have hS1 := hS.keep hf1
  have q := hQ S1 hf1
  unfold rsv at q
  refine ⟨fun c => ⟨d_nc d + 1, ?_⟩, fun c => ?_⟩
  · refine m_result_lp hS.1 hS1.2.1 hw (fun j hj => ⟨(hf_law hj).1, (hf_law hj).2.2⟩) hH (fun c2 => ?_) (fun c2 => ?_) (d_nc d) 0 0 0 (by omega) (by decide) rfl (fun p => ⟨fun h => (by simp at h), fun h => (by obtain ⟨j, h, _⟩ := h; omega)⟩)
    · rw [if_neg c, if_pos c2] at q; exact q
    · rw [if_neg c, if_neg c2] at q; exact q
  · rw [if_pos c] at q; exact q
theorem p_result (x1 : Int32) : pr (wX7_result x1) (wX8_result x1) := by
  refine pr_lk (wm := fun S1 Q => wX8_in (x1.toInt64) 0 2 S1 (fun r10 S10 => (r10 = 0 → Q (-10002) S10) ∧ (¬ r10 = 0 → wX8_resultOf x1 S10 (fun r18 S18 => Q r18 S18)))) (fun d td ar hd => ?_)
  by_cases g2 : 0 ≤ x1 ∧ x1 ≤ 2
  · obtain ⟨w, hw, rfl⟩ := pn_rng (hi := 2) (by decide) g2.1 g2.2
    exact ⟨rsv d td w, fun S Q hS hQ => x_result hS hw hQ, fun S Q hS hQ => w_in (lo := 0) (hi := 2) (by decide) (by decide) (fun _ _ => ⟨fun c => absurd c n10, fun _ => m_result hS hw hQ⟩) (fun g => absurd g2 g)⟩
  · refine ⟨-10002, fun S Q hS hQ => ?_, fun S Q hS hQ => w_in (lo := 0) (hi := 2) (by decide) (by decide) (fun a b => absurd ⟨a, b⟩ g2) (fun _ => ⟨fun _ => hQ S fr_rf, fun c => absurd rfl c⟩)⟩
    unfold wX7_result
    exact w_within (fun a b => absurd ⟨a, b⟩ g2) (fun _ => ⟨fun c => absurd rfl c, fun _ => hQ S fr_rf⟩)
