theorem gz_ws_good (M : gz_M) (hc : Cond.code M.1 M.2.1 M.2.2.1 M.2.2.2 ∈ gz_tbl) : GoodIn gz_tbl (gz_ws M) := by
  intro w hw
  have h1 : w ∈ gz_tbl := by
    rcases List.mem_cons.mp hw with rfl | h
    · exact hc
    · exact h
  exact ⟨h1, good_of_word (List.mem_filter.mp h1).2⟩
/-- what a call's words are: the callee's code, its class initialised, its count of parameters -/
def gz_cw (M : gz_M) (n : Nat) : Prop := Cond.code M.1 M.2.1 M.2.2.1 M.2.2.2 ∈ gz_tbl ∧ Cond.initialized M.1.cls ∈ gz_tbl ∧ (M.1.cls ≠ "java/lang/invoke/MethodHandle" ∧ M.1.cls ≠ "java/lang/invoke/VarHandle" ∧ (parseMethodDescriptor M.1.desc).map (fun d => d.parameters.length) = some n) ∧ M.2.2.1 ≤ 41
def gz_wV (own : String) (idx : Nat) (M : gz_M) : Prop := Cond.methodLink own idx M.1 ∈ gz_tbl ∧ Cond.instanceMethod M.1 ∈ gz_tbl ∧ Cond.selects M.1.cls M.1 M.1 ∈ gz_tbl
def gz_wS (own : String) (idx : Nat) (M : gz_M) : Prop := Cond.methodLink own idx M.1 ∈ gz_tbl ∧ Cond.static M.1 ∈ gz_tbl
def gz_wSN (own : String) (idx : Nat) (M : gz_M) : Prop := (own, idx, M.1) ∈ gz_nst ∧ Cond.static M.1 ∈ gz_tbl
def gz_wI (own : String) (idx : Nat) (M : gz_M) : Prop := Cond.methodLink own idx M.1 ∈ gz_tbl ∧ Cond.instanceMethod M.1 ∈ gz_tbl
def gz_wIN (own : String) (idx : Nat) (M : gz_M) : Prop := (own, idx, M.1) ∈ gz_nst ∧ Cond.instanceMethod M.1 ∈ gz_tbl
section
variable {E : gz_E} {M : gz_M} {N : gz_N} {cells slots pc : Nat} {L : List (Option Value)} {st : List Value} {G : List gz_G} {S : gz_S} {Q : gz_Q}
variable {p : Program} {e : Env} {s : State} {m : MethodId} {args : Array Value} {below : List Frame} {meth : Method} {c : Code} {Z : State → Prop} {R : Room} {H : Heap} {locs : List Loc} {ls : Array Slot}
theorem gz_lo (hw : gz_wd E G S s H locs) (h : gz_B E ≤ s.heap.size) : gz_B E + G.length ≤ H.size := by
  cases hG : G.length with
  | zero => have := hw.2.1; omega
  | succ n =>
    have hl : n < G.length := by omega
    have h1 := (hw.1 n _ (gz_w_at (List.getElem?_eq_getElem hl))).lt
    have h2 : gz_B E + n < H.size := h1
    omega
theorem gz_size {T : State} (X : Stand p (gz_l E) e R s m args below meth c T locs cells slots) (hT : T.heap = H) (hw : gz_wd E G S s H locs) (h0 : s.heap.size = gz_B E + N.2.2.2) (hn : G.length = N.2.2.2 + cells) : H.size = gz_B E + G.length := by
  have h1 : T.heap.size ≤ s.heap.size + cells := X.same.2.2.1
  have h2 := gz_lo hw (by omega)
  rw [hT] at h1
  omega
/-- behind a call -/
theorem gz_back {mc2 ms2 : Nat} {rest : List Value} {Q2 : gz_Q} {a : Array Value} {st0 : List Value}
    (hr : va_Run p (gz_l E) e R s m args below meth c H locs cells slots mc2 ms2 (F0 m pc ls st0) (rest.map (gz_v E)) (fun st oc t => (∃ (v : Option Value) (G2 : List gz_G) (S2 : gz_S), oc = .returned (v.map (gz_v E)) ∧ Q2 v G2 S2 ∧ va_P (gz_D E) vwCl (gz_w E S2 G2) t.heap) ∧ va_F (gz_A E) st t) (gz_A E))
    (hw : gz_wd E G S s H locs) (C : gz_x E M N Q p e s m args below meth c Z R) (hh : gz_h E ls M.2.2.1 L)
    (k : ∀ (v : Option Value) (G2 : List gz_G) (S2 : gz_S), Q2 v G2 S2 → gz_k E M N (cells + mc2) (slots + ms2) (pc + 3) L (v.toList ++ rest) G2 S2 Q) : W p (gz_l E) e R s m args below meth c H locs cells slots Z (F0 m pc ls st0) := by
  intro T hT X
  obtain ⟨v, st₀, t, T', L1, h0, X', hL, e1, e2, ⟨⟨v2, G2, S2, hv, hq, hP⟩, hz, hkk⟩, stp⟩ := hr T hT X
  cases hv
  rw [h0] at hz hkk
  have hw2 : gz_wd E G2 S2 s T'.heap (locs ++ L1) := by
    refine ⟨by rw [e1]; exact hP, Nat.le_trans hw.2.1 (by rw [e1]; exact hz), fun q h1 h2 => ?_, fun q hq => ?_⟩
    · rw [e1, hkk q (Nat.lt_of_lt_of_le h1 hw.2.1) h2]
      exact hw.2.2.1 q h1 h2
    · rcases List.mem_append.mp hq with h | h
      · exact hw.2.2.2 q h
      · exact hL q h
  obtain ⟨t2, a1, b1⟩ := k v2 G2 S2 hq p e s m args below meth c Z R C T'.heap (locs ++ L1) ls hw2 hh T' rfl X'
  refine ⟨t2, stp t2 ?_, b1⟩
  have e3 : (v2.toList ++ rest).map (gz_v E) = (v2.map (gz_v E)).toList ++ rest.map (gz_v E) := by cases v2 <;> simp
  rw [e3] at a1
  exact a1
theorem gz_pre {mc2 : Nat} (hw : gz_wd E G S s H locs) (C : gz_x E M N Q p e s m args below meth c Z R) (hz : mc2 ≠ 0 → H.size = gz_B E + G.length) (as : List Value) :
    FrameBlind (va_Pc (as.map (gz_v E)) (fun U => gz_KN E U ∧ va_P (gz_D E) vwCl (gz_w E S G) U.heap ∧ (mc2 ≠ 0 → U.heap.size = gz_B E + G.length))) ∧
    ∀ U : State, U.heap = H → s.WarmedH U.vm → va_Pc (as.map (gz_v E)) (fun U => gz_KN E U ∧ va_P (gz_D E) vwCl (gz_w E S G) U.heap ∧ (mc2 ≠ 0 → U.heap.size = gz_B E + G.length)) (as.map (gz_v E)).toArray U := by
  refine ⟨fun a U g mk q => ?_, fun U hU hW => ⟨rfl, gz_KN.moved hW C.2.2.2.2.2.2.2.1, by rw [hU]; exact hw.1, fun h => by rw [hU]; exact hz h⟩⟩
  obtain ⟨q0, qK, qP, qz⟩ := q
  exact ⟨q0, qK.calling, qP, qz⟩
theorem gz_fit {D2 mc2 ms2 : Nat} (C : gz_x E M N Q p e s m args below meth c Z R) (hD : D2 + 1 ≤ N.1) {mL : Nat} (hm : mL ≤ 41) : (gz_rm D2 mc2 ms2).frames + 1 ≤ R.frames ∧ 8 + (mL + 11) + (gz_rm D2 mc2 ms2).locals ≤ R.locals := by
  obtain ⟨r1, r2, -, -⟩ := C.2.2.2.2.2.1
  show D2 + 1 ≤ R.frames ∧ 8 + (mL + 11) + 60 * D2 ≤ R.locals
  omega
theorem gz_rest {rest : List Value} (h : (rest.map fun v => v.category).sum ≤ 8) : ((rest.map (gz_v E)).map fun v => v.category).sum ≤ 8 := by
  rw [List.map_map]
  have e1 : ((fun v : Value => v.category) ∘ gz_v E) = fun v => v.category := by funext v; exact gz_v_cat E v
  rw [e1]
  exact h
theorem gk_callV {M2 : gz_M} {D2 mc2 ms2 a idx ci n : Nat} {fl : List (Option (Option Nat))} {as rest stk : List Value} {Q2 : gz_Q} (hM : gz_m E M2 D2 mc2 ms2 (.ref a :: as) G S Q2) (hd : decode M.2.1 pc = .ok (.invokevirtual idx, 3)) (hg : G[a]? = some (.inr ((false, ci), fl))) (hcl : vwCl[ci]?.map (fun q => q.1) = some M2.1.cls) (hV : gz_wV M.1.cls idx M2) (hc : gz_cw M2 n) (hn : as.length = n) (hD : D2 + 1 ≤ N.1) (hf : cells + mc2 ≤ N.2.1 ∧ slots + ms2 ≤ N.2.2.1) (hz : mc2 ≠ 0 → G.length = N.2.2.2 + cells) (hr : (rest.map fun v => v.category).sum ≤ 8) (hs : stk = as.reverse ++ .ref a :: rest)
    (k : ∀ (v : Option Value) (G2 : List gz_G) (S2 : gz_S), Q2 v G2 S2 → gz_k E M N (cells + mc2) (slots + ms2) (pc + 3) L (v.toList ++ rest) G2 S2 Q) : gz_k E M N cells slots pc L stk G S Q := by
  intro p e s m args below meth c Z R C H locs ls hw hh
  subst hs
  obtain ⟨c1, c2, c3, c4⟩ := hc
  intro T hT X
  have hsz : mc2 ≠ 0 → H.size = gz_B E + G.length := fun h => gz_size (N := N) X hT hw (C.2.2.2.2.2.2.2.2.2.1 (by have := hf.1; omega)) (hz h)
  have hts := C.2.2.2.2.1
  obtain ⟨r1, r2, r3, r4⟩ := C.2.2.2.2.2.1
  cases hv : vwCl[ci]? with
  | none => rw [hv] at hcl; cases hcl
  | some q =>
    have hq1 : q.1 = M2.1.cls := by rw [hv] at hcl; exact Option.some.inj hcl
    have hp := gz_pre (mc2 := mc2) hw C hsz (.ref a :: as)
    refine gz_back (a := (Value.ref (gz_B E + a) :: as.map (gz_v E)).toArray) (va_runV (C := M2.1.cls) (b := gz_B E + a) (As := as.map (gz_v E)) (rest := rest.map (gz_v E)) ⟨C.1, C.2.1, C.2.2.1, C.2.2.2.1, hts⟩ hM ⟨callB_of n hts (gz_ws_good M2 c1) rfl rfl rfl (hts _ c2) (hts _ hV.1) c3 (gz_fit C hD c4), hts _ hV.2.1, hts _ hV.2.2⟩ ⟨hp.1, ?_, hp.2⟩ rfl (by rw [List.length_map]; exact hn) hh.1 ?_ (lv_room (gz_rest hr)) hd ⟨by omega, by omega⟩) hw C hh k T hT X
    · rw [← hq1]
      exact va_recv C.2.2.2.2.2.2.2.1.1 hw.1 hv (gz_w_at hg)
    · show List.map (gz_v E) (as.reverse ++ .ref a :: rest) = _
      rw [List.map_append, List.map_reverse]
      rfl
theorem gk_callS {M2 : gz_M} {D2 mc2 ms2 idx n : Nat} {as rest stk : List Value} {Q2 : gz_Q} (hM : gz_m E M2 D2 mc2 ms2 as G S Q2) (hd : decode M.2.1 pc = .ok (.invokestatic idx, 3)) (hV : gz_wS M.1.cls idx M2) (hc : gz_cw M2 n) (hn : as.length = n) (hD : D2 + 1 ≤ N.1) (hf : cells + mc2 ≤ N.2.1 ∧ slots + ms2 ≤ N.2.2.1) (hz : mc2 ≠ 0 → G.length = N.2.2.2 + cells) (hr : (rest.map fun v => v.category).sum ≤ 8) (hs : stk = as.reverse ++ rest)
    (k : ∀ (v : Option Value) (G2 : List gz_G) (S2 : gz_S), Q2 v G2 S2 → gz_k E M N (cells + mc2) (slots + ms2) (pc + 3) L (v.toList ++ rest) G2 S2 Q) : gz_k E M N cells slots pc L stk G S Q := by
  intro p e s m args below meth c Z R C H locs ls hw hh
  subst hs
  obtain ⟨c1, c2, c3, c4⟩ := hc
  intro T hT X
  have hsz : mc2 ≠ 0 → H.size = gz_B E + G.length := fun h => gz_size (N := N) X hT hw (C.2.2.2.2.2.2.2.2.2.1 (by have := hf.1; omega)) (hz h)
  have hts := C.2.2.2.2.1
  obtain ⟨r1, r2, r3, r4⟩ := C.2.2.2.2.2.1
  refine gz_back (a := (as.map (gz_v E)).toArray) (va_runS (As := as.map (gz_v E)) (rest := rest.map (gz_v E)) ⟨C.1, C.2.1, C.2.2.1, C.2.2.2.1, hts⟩ hM ⟨callB_of n hts (gz_ws_good M2 c1) rfl rfl rfl (hts _ c2) (hts _ hV.1) c3 (gz_fit C hD c4), hts _ hV.2⟩ (gz_pre hw C hsz as) rfl (by rw [List.length_map]; exact hn) hh.1 ?_ (lv_room (gz_rest hr)) hd ⟨by omega, by omega⟩) hw C hh k T hT X
  show List.map (gz_v E) (as.reverse ++ rest) = _
  rw [List.map_append, List.map_reverse]
theorem gk_callSN {M2 : gz_M} {D2 mc2 ms2 idx n : Nat} {as rest stk : List Value} {Q2 : gz_Q} (hM : gz_m E M2 D2 mc2 ms2 as G S Q2) (hd : decode M.2.1 pc = .ok (.invokestatic idx, 3)) (hV : gz_wSN M.1.cls idx M2) (hc : gz_cw M2 n) (hn : as.length = n) (hD : D2 + 1 ≤ N.1) (hf : cells + mc2 ≤ N.2.1 ∧ slots + ms2 ≤ N.2.2.1) (hz : mc2 ≠ 0 → G.length = N.2.2.2 + cells) (hr : (rest.map fun v => v.category).sum ≤ 8) (hs : stk = as.reverse ++ rest)
    (k : ∀ (v : Option Value) (G2 : List gz_G) (S2 : gz_S), Q2 v G2 S2 → gz_k E M N (cells + mc2) (slots + ms2) (pc + 3) L (v.toList ++ rest) G2 S2 Q) : gz_k E M N cells slots pc L stk G S Q := by
  intro p e s m args below meth c Z R C H locs ls hw hh
  subst hs
  obtain ⟨c1, c2, c3, c4⟩ := hc
  intro T hT X
  have hsz : mc2 ≠ 0 → H.size = gz_B E + G.length := fun h => gz_size (N := N) X hT hw (C.2.2.2.2.2.2.2.2.2.1 (by have := hf.1; omega)) (hz h)
  have hts := C.2.2.2.2.1
  obtain ⟨r1, r2, r3, r4⟩ := C.2.2.2.2.2.1
  have hnw : va_Nw (.methodLinkNest M.1.cls idx M2.1 "StoneVotes") s := by
    exact C.2.2.2.2.2.2.2.1.2.1 _ hV.1
  refine gz_back (a := (as.map (gz_v E)).toArray) (va_runSN (As := as.map (gz_v E)) (rest := rest.map (gz_v E)) ⟨C.1, C.2.1, C.2.2.1, C.2.2.2.1, hts⟩ hM ⟨va_cnB n hts (gz_ws_good M2 c1) rfl rfl rfl hnw (hts _ c2) c3 (gz_fit C hD c4), hts _ hV.2, trivial⟩ (gz_pre hw C hsz as) rfl (by rw [List.length_map]; exact hn) hh.1 ?_ (lv_room (gz_rest hr)) hd ⟨by omega, by omega⟩) hw C hh k T hT X
  show List.map (gz_v E) (as.reverse ++ rest) = _
  rw [List.map_append, List.map_reverse]
theorem gk_callI {M2 : gz_M} {D2 mc2 ms2 a idx n : Nat} {as rest stk : List Value} {Q2 : gz_Q} (hM : gz_m E M2 D2 mc2 ms2 (.ref a :: as) G S Q2) (hd : decode M.2.1 pc = .ok (.invokespecial idx, 3)) (hV : gz_wI M.1.cls idx M2) (hi : M2.1.name = "<init>") (hrt : M2.2.2.2 = none) (hc : gz_cw M2 n) (hn : as.length = n) (hD : D2 + 1 ≤ N.1) (hf : cells + mc2 ≤ N.2.1 ∧ slots + ms2 ≤ N.2.2.1) (hz : mc2 ≠ 0 → G.length = N.2.2.2 + cells) (hr : (rest.map fun v => v.category).sum ≤ 8) (hs : stk = as.reverse ++ .ref a :: rest)
    (k : ∀ (v : Option Value) (G2 : List gz_G) (S2 : gz_S), Q2 v G2 S2 → gz_k E M N (cells + mc2) (slots + ms2) (pc + 3) L (v.toList ++ rest) G2 S2 Q) : gz_k E M N cells slots pc L stk G S Q := by
  intro p e s m args below meth c Z R C H locs ls hw hh
  subst hs
  obtain ⟨c1, c2, c3, c4⟩ := hc
  intro T hT X
  have hsz : mc2 ≠ 0 → H.size = gz_B E + G.length := fun h => gz_size (N := N) X hT hw (C.2.2.2.2.2.2.2.2.2.1 (by have := hf.1; omega)) (hz h)
  have hts := C.2.2.2.2.1
  obtain ⟨r1, r2, r3, r4⟩ := C.2.2.2.2.2.1
  have hw0 : gz_ws M2 = Cond.code M2.1 M2.2.1 M2.2.2.1 none :: gz_tbl := by unfold gz_ws; rw [hrt]
  refine gz_back (a := (Value.ref (gz_B E + a) :: as.map (gz_v E)).toArray) (va_runI (b := gz_B E + a) (As := as.map (gz_v E)) (rest := rest.map (gz_v E)) ⟨C.1, C.2.1, C.2.2.1, C.2.2.2.1, hts⟩ hM ⟨callB_of n hts (gz_ws_good M2 c1) hw0 rfl rfl (hts _ c2) (hts _ hV.1) c3 (gz_fit C hD c4), hi, hts _ hV.2⟩ (gz_pre hw C hsz (.ref a :: as)) rfl (by rw [List.length_map]; exact hn) hh.1 ?_ (lv_room (gz_rest hr)) hd ⟨by omega, by omega⟩) hw C hh k T hT X
  show List.map (gz_v E) (as.reverse ++ .ref a :: rest) = _
  rw [List.map_append, List.map_reverse]
  rfl
theorem gk_callIN {M2 : gz_M} {D2 mc2 ms2 a idx n : Nat} {as rest stk : List Value} {Q2 : gz_Q} (hM : gz_m E M2 D2 mc2 ms2 (.ref a :: as) G S Q2) (hd : decode M.2.1 pc = .ok (.invokespecial idx, 3)) (hV : gz_wIN M.1.cls idx M2) (hi : M2.1.name = "<init>") (hrt : M2.2.2.2 = none) (hc : gz_cw M2 n) (hn : as.length = n) (hD : D2 + 1 ≤ N.1) (hf : cells + mc2 ≤ N.2.1 ∧ slots + ms2 ≤ N.2.2.1) (hz : mc2 ≠ 0 → G.length = N.2.2.2 + cells) (hr : (rest.map fun v => v.category).sum ≤ 8) (hs : stk = as.reverse ++ .ref a :: rest)
    (k : ∀ (v : Option Value) (G2 : List gz_G) (S2 : gz_S), Q2 v G2 S2 → gz_k E M N (cells + mc2) (slots + ms2) (pc + 3) L (v.toList ++ rest) G2 S2 Q) : gz_k E M N cells slots pc L stk G S Q := by
  intro p e s m args below meth c Z R C H locs ls hw hh
  subst hs
  obtain ⟨c1, c2, c3, c4⟩ := hc
  intro T hT X
  have hsz : mc2 ≠ 0 → H.size = gz_B E + G.length := fun h => gz_size (N := N) X hT hw (C.2.2.2.2.2.2.2.2.2.1 (by have := hf.1; omega)) (hz h)
  have hts := C.2.2.2.2.1
  obtain ⟨r1, r2, r3, r4⟩ := C.2.2.2.2.2.1
  have hw0 : gz_ws M2 = Cond.code M2.1 M2.2.1 M2.2.2.1 none :: gz_tbl := by unfold gz_ws; rw [hrt]
  have hnw : va_Nw (.methodLinkNest M.1.cls idx M2.1 "StoneVotes") s := by
    exact C.2.2.2.2.2.2.2.1.2.1 _ hV.1
  refine gz_back (a := (Value.ref (gz_B E + a) :: as.map (gz_v E)).toArray) (va_runIN (b := gz_B E + a) (As := as.map (gz_v E)) (rest := rest.map (gz_v E)) ⟨C.1, C.2.1, C.2.2.1, C.2.2.2.1, hts⟩ hM ⟨va_cnB n hts (gz_ws_good M2 c1) hw0 rfl rfl hnw (hts _ c2) c3 (gz_fit C hD c4), hi, hts _ hV.2⟩ (gz_pre hw C hsz (.ref a :: as)) rfl (by rw [List.length_map]; exact hn) hh.1 ?_ (lv_room (gz_rest hr)) hd ⟨by omega, by omega⟩) hw C hh k T hT X
  show List.map (gz_v E) (as.reverse ++ .ref a :: rest) = _
  rw [List.map_append, List.map_reverse]
  rfl
/-- Object's constructor -/
theorem gk_obj {a idx : Nat} {rest : List Value} (hd : decode M.2.1 pc = .ok (.invokespecial idx, 3)) (h1 : Cond.methodLink M.1.cls idx objectInit ∈ gz_tbl) (h2 : Cond.instanceMethod objectInit ∈ gz_tbl) (h3 : Cond.code objectInit ⟨#[0xb1]⟩ 1 none ∈ gz_tbl) (hD : 1 ≤ N.1) (hr : (rest.map fun v => v.category).sum ≤ 8) (k : gz_k E M N cells slots (pc + 3) L rest G S Q) : gz_k E M N cells slots pc L (.ref a :: rest) G S Q := by
  intro p e s m args below meth c Z R C H locs ls hw hh
  obtain ⟨r1, r2, r3, r4⟩ := C.2.2.2.2.2.1
  have hts := C.2.2.2.2.1
  have hrr := gz_rest (E := E) hr
  refine W.objInit C.1 C.2.1 C.2.2.2.1 (hts _ h1) (hts _ h2) (hts _ h3) rfl (by rw [C.2.2.1]; exact hh.1) rfl hd (by omega) ?_ (k p e s m args below meth c Z R C H locs ls hw hh)
  show 2 * 0 + _ + 12 ≤ _
  omega
end
