section
variable {E : gz_E} {M : gz_M} {N : gz_N} {cells slots pc : Nat} {L : List (Option Value)} {st : List Value} {G : List gz_G} {S : gz_S} {Q : gz_Q}
variable {p : Program} {e : Env} {s : State} {m : MethodId} {args : Array Value} {below : List Frame} {meth : Method} {c : Code} {Z : State → Prop} {R : Room} {H : Heap} {locs : List Loc} {ls : Array Slot}
theorem gz_w_app (S : gz_S) (G : List gz_G) (g : gz_G) (f : Nat → Int32) : gz_w E (gz_u S G.length f) (G ++ [g]) = gz_w E S G ++ [(gz_B E + G.length, gz_c E (gz_u S G.length f) G.length g)] := by
  apply List.ext_getElem?
  intro i
  have hlen : (gz_w E S G).length = G.length := by unfold gz_w; rw [List.length_mapIdx]
  by_cases h : i < G.length
  · rw [List.getElem?_append_left (by omega)]
    unfold gz_w
    rw [List.getElem?_mapIdx, List.getElem?_mapIdx, List.getElem?_append_left h]
    cases hg : G[i]? with
    | none => rfl
    | some g' =>
      simp only [Option.map_some]
      rw [gz_c_cong g' (gz_u_ne S f (by omega))]
  · rw [List.getElem?_append_right (by omega), hlen]
    unfold gz_w
    rw [List.getElem?_mapIdx, List.getElem?_append_right (by omega)]
    by_cases h2 : i = G.length
    · subst h2
      simp
    · have h3 : i - G.length ≠ 0 := by omega
      obtain ⟨j, hj⟩ : ∃ j, i - G.length = j + 1 := ⟨i - G.length - 1, by omega⟩
      rw [hj]
      rfl
/-- one cell more -/
theorem gz_made {H1 : Heap} {g : gz_G} (hw : gz_wd E G S s H locs) (hsz : H.size = gz_B E + G.length) (e1 : va_at (gz_D E) vwCl (gz_B E + G.length, gz_c E (gz_u S G.length (fun _ => 0)) G.length g) H1) (z1 : H1.size = H.size + 1) (o1 : ∀ q : Nat, q < H.size → H1[q]? = H[q]?) (hb : gz_B E ≤ s.heap.size) : gz_wd E (G ++ [g]) (gz_u S G.length (fun _ => 0)) s H1 locs := by
  refine ⟨?_, Nat.le_trans hw.2.1 (by omega), fun q h1 h2 => ?_, hw.2.2.2⟩
  · rw [gz_w_app]
    refine va_P.app (hw.1.kept (fun k x hx => o1 x.1 ((hw.1 k x hx).lt))) (fun k x hx => ?_)
    have hz : k < 1 := (List.getElem?_eq_some_iff.mp hx).1
    rw [show k = 0 by omega] at hx
    cases hx
    exact e1
  · rw [o1 q (Nat.lt_of_lt_of_le h1 hw.2.1)]
    exact hw.2.2.1 q h1 h2
theorem gk_newa {t n : Nat} {v : Int32} {aty : ArrayType} (hd : decode M.2.1 pc = .ok (.newarray aty, 2)) (ht : t < 2) (hty : newarray.typeOf aty = gz_ty t) (hA : Cond.arrayClass (gz_ty t) ∈ gz_tbl) (hv : nI n = v) (hn : n < 100000) (hcl : cells + 1 ≤ N.2.1) (hsl : slots + n ≤ N.2.2.1) (hz : G.length = N.2.2.2 + cells)
    (k : gz_k E M N (cells + 1) (slots + n) (pc + 2) L (.ref G.length :: st) (G ++ [.inl (t, n)]) (gz_u S G.length (fun _ => 0)) Q) : gz_k E M N cells slots pc L (.int v :: st) G S Q := by
  intro p e s m args below meth c Z R C H locs ls hw hh
  subst hv
  intro T hT X
  have h0 := C.2.2.2.2.2.2.2.2.2.1 (by omega)
  have hsz : H.size = gz_B E + G.length := gz_size (N := N) X hT hw h0 hz
  obtain ⟨r1, r2, r3, r4⟩ := C.2.2.2.2.2.1
  have hts := C.2.2.2.2.1
  have key : W p (gz_l E) e R s m args below meth c H locs cells slots Z (F0 m pc ls (.int (nI n) :: st.map (gz_v E))) := by
   refine va_newaK (rest := st.map (gz_v E)) C.1 C.2.1 (by rw [hty]; exact hts _ hA) rfl hd rfl (N := n) (nI_pos (by omega)) (nI_clamp (by omega)) ?_ (by omega) (by omega) rfl (fun H1 cA e1 z1 o1 hAr hNm => ?_)
   · rw [hty]
     rcases (show t = 0 ∨ t = 1 by omega) with rfl | rfl
     · show n * 4 ≤ _
       omega
     · show n * 1 ≤ _
       omega
   · rw [hty] at e1 hAr hNm
     have hcA : cA = gz_tc E t := by
       have hK := (C.2.2.2.2.2.2.2.1.1.2 t _ (gz_tys_at E (show t < 3 by omega))).2
       rcases (show t = 0 ∨ t = 1 by omega) with rfl | rfl
       · exact Option.some.inj (hNm.symm.trans hK)
       · exact Option.some.inj (hNm.symm.trans hK)
     subst hcA
     have h2 : gz_wd E (G ++ [.inl (t, n)]) (gz_u S G.length (fun _ => 0)) s H1 locs := by
       refine gz_made hw hsz ?_ (by omega) o1 (by omega)
       show H1[gz_B E + G.length]? = some (vp_cell _ _)
       rw [← hsz, e1]
       simp only [gz_u_at]
       rcases (show t = 0 ∨ t = 1 by omega) with rfl | rfl
       · rfl
       · rfl
     have h3 := k p e s m args below meth c Z R C H1 locs ls h2 hh
     simp only [List.map_cons, gz_v] at h3
     rw [← hsz] at h3
     exact h3
  exact key T hT X
/-- a blank object -/
def gz_nw (own : String) (idx ci : Nat) (fl : List (Option (Option Nat))) : Prop := ∃ (C : String) (T : u_T) (n : Nat) (t0 : Nat → FieldType), vwCl[ci]? = some (C, T, n) ∧ fl.length = n ∧ (∀ k, k < n → parseFieldDescriptor (T k).2.2.1 = some (t0 k)) ∧ (∀ w ∈ u_ws C T n, w ∈ gz_tbl) ∧ Cond.classLink own idx C ∈ gz_tbl ∧ Cond.instantiable C n ∈ gz_tbl ∧ Cond.initialized C ∈ gz_tbl ∧ (∀ j, j < n → (fl[j]? = some none ∧ defaultValue (t0 j) = .int 0) ∨ (fl[j]? = some (some none) ∧ defaultValue (t0 j) = .null))
theorem gk_new {idx ci : Nat} {fl : List (Option (Option Nat))} (hd : decode M.2.1 pc = .ok (.new idx, 3)) (hw0 : gz_nw M.1.cls idx ci fl) (hcl : cells + 1 ≤ N.2.1) (hsl : slots + fl.length ≤ N.2.2.1) (hz : G.length = N.2.2.2 + cells)
    (k : gz_k E M N (cells + 1) (slots + fl.length) (pc + 3) L (.ref G.length :: st) (G ++ [.inr ((false, ci), fl)]) (gz_u S G.length (fun _ => 0)) Q) : gz_k E M N cells slots pc L st G S Q := by
  intro p e s m args below meth c Z R C H locs ls hw hh
  obtain ⟨Cn, T0, n, t0, g1, g2, g3, g4, g5, g6, g7, g8⟩ := hw0
  intro T hT X
  have h0 := C.2.2.2.2.2.2.2.2.2.1 (by omega)
  have hsz : H.size = gz_B E + G.length := gz_size (N := N) X hT hw h0 hz
  obtain ⟨r1, r2, r3, r4⟩ := C.2.2.2.2.2.1
  have hts := C.2.2.2.2.1
  have hKn := C.2.2.2.2.2.2.2.1.1.1 ci _ g1
  subst g2
  have key : W p (gz_l E) e R s m args below meth c H locs cells slots Z (F0 m pc ls (st.map (gz_v E))) := by
   refine W.newcK C.1 C.2.1 C.2.2.2.1 (hts _ g5) (hts _ g6) (hts _ g7) rfl hd (by omega) (by omega) hKn.2.1 rfl (fun H1 kC hkC e1 z1 o1 => ?_)
   have h2 : gz_wd E (G ++ [.inr ((false, ci), fl)]) (gz_u S G.length (fun _ => 0)) s H1 locs := by
     refine gz_made hw hsz ?_ (by omega) o1 (by omega)
     refine ⟨_, g1, ?_⟩
     rw [hsz] at e1
     refine (u_born t0 hts g4 hKn hkC e1 g3).to (fun j hj => ?_)
     show defaultValue (t0 j) = (List.mapIdx (fun j f => gz_f E (gz_u S G.length (fun _ => 0)) G.length j f) fl).getD j .null
     rw [List.getD_eq_getElem?_getD, List.getElem?_mapIdx]
     rcases g8 j hj with ⟨a1, a2⟩ | ⟨a1, a2⟩
     · rw [a1, a2]
       simp [gz_f, gz_u_at]
     · rw [a1, a2]
       rfl
   have h3 := k p e s m args below meth c Z R C H1 locs ls h2 hh
   simp only [List.map_cons, gz_v] at h3
   rw [← hsz] at h3
   exact h3
  exact key T hT X
theorem gk_newq {idx n : Nat} {v : Int32} (hd : decode M.2.1 pc = .ok (.anewarray idx, 3)) (hL : Cond.classLink M.1.cls idx "StoneVotes$Sheet" ∈ gz_tbl) (hv : nI n = v) (hn : n < 100000) (hcl : cells + 1 ≤ N.2.1) (hsl : slots + n ≤ N.2.2.1) (hz : G.length = N.2.2.2 + cells)
    (k : gz_k E M N (cells + 1) (slots + n) (pc + 3) L (.ref G.length :: st) (G ++ [.inr ((true, 2), List.replicate n (some none))]) (gz_u S G.length (fun _ => 0)) Q) : gz_k E M N cells slots pc L (.int v :: st) G S Q := by
  intro p e s m args below meth c Z R C H locs ls hw hh
  subst hv
  intro T hT X
  have h0 := C.2.2.2.2.2.2.2.2.2.1 (by omega)
  have hsz : H.size = gz_B E + G.length := gz_size (N := N) X hT hw h0 hz
  obtain ⟨r1, r2, r3, r4⟩ := C.2.2.2.2.2.1
  have hts := C.2.2.2.2.1
  have ecl : (nI n).toNatClampNeg = n := nI_clamp (by omega)
  have key : W p (gz_l E) e R s m args below meth c H locs cells slots Z (F0 m pc ls (.int (nI n) :: st.map (gz_v E))) := by
   refine W.anew (rest := st.map (gz_v E)) C.1 C.2.1 C.2.2.2.1 (hts _ hL) (va_AO.use C.2.2.2.2.2.2.2.1.2.2) rfl hd rfl (nI_pos (by omega)) (by rw [ecl]; omega) (by omega) (by rw [ecl]; omega) (fun cA kA comp f1 f2 f3 f4 => ?_)
   rw [ecl]
   have hcA : cA = gz_tc E 2 := by
     obtain ⟨kA2, comp2, -, -, -, q4⟩ := (C.2.2.2.2.2.2.2.1.1.2 2 _ (gz_tys_at E (show 2 < 3 by omega))).2
     exact Option.some.inj (f1.symm.trans q4)
   subst hcA
   have h2 : gz_wd E (G ++ [.inr ((true, 2), List.replicate n (some none))]) (gz_u S G.length (fun _ => 0)) s (H.push { cls := gz_tc E 2, slots := Array.replicate n .null, vm := .none }) locs := by
     refine gz_made hw hsz ?_ (by rw [Array.size_push]) (fun q hq => by rw [Array.getElem?_push, if_neg (Nat.ne_of_lt hq)]) (by omega)
     show (H.push _)[gz_B E + G.length]? = some (vp_cell _ _)
     rw [← hsz, Array.getElem?_push_size]
     have e2 : (List.replicate n (some (none : Option Nat))).length = n := List.length_replicate
     rw [e2]
     have e3 : gz_r E (List.replicate n (some none)) = fun _ => none := by
       funext i
       unfold gz_r
       cases h : (List.replicate n (some (none : Option Nat)))[i]? with
       | none => rfl
       | some o =>
         have := List.eq_of_mem_replicate (List.mem_of_getElem? h)
         subst this
         rfl
     rw [e3]
     show _ = some (arrV _ _ (fun _ => .null))
     rw [← arrV_new]
   have h3 := k p e s m args below meth c Z R C _ locs ls h2 hh
   simp only [List.map_cons, gz_v] at h3
   rw [← hsz] at h3
   exact h3
  exact key T hT X
theorem gk_aastore {a r ci : Nat} {q : vw_C} {fl fr : List (Option (Option Nat))} {i : Int32} {G2 : List gz_G} (hd : decode M.2.1 pc = .ok (.aastore, 1)) (hg : G[a]? = some (.inr ((true, 2), fl))) (hr : G[r]? = some (.inr ((false, ci), fr))) (hc : vwCl[ci]? = some q) (hq : q.1 = "StoneVotes$Sheet") (hin : vp_in i fl.length) (hG2 : G.set a (.inr ((true, 2), fl.set i.toNatClampNeg (some (some r)))) = G2) (k : gz_k E M N cells slots (pc + 1) L st G2 S Q) : gz_k E M N cells slots pc L (.ref r :: .int i :: .ref a :: st) G S Q := by
  intro p e s m args below meth c Z R C H locs ls hw hh
  subst hG2
  have hlt : i.toNatClampNeg < fl.length := Nat.not_le.mp fun q => hin (Or.inr q)
  refine va_astq (r := q) C.1 C.2.1 C.2.2.2.2.2.2.2.1.1 hw.1 (gz_dd E S G) hw.2 a 2 r ci (gz_w_at hg) (by rw [hq]; rfl) (gz_w_at hr) hc hin hd (fun H1 locs1 hP hD hS => ?_)
  refine k p e s m args below meth c Z R C H1 locs1 ls ⟨?_, hS⟩ hh
  rw [← gz_w_set hg]
  have e1 : va_up (gz_r E fl) i.toNatClampNeg (some (gz_B E + r)) = gz_r E (fl.set i.toNatClampNeg (some (some r))) := by
    funext j
    unfold va_up gz_r
    by_cases hj : j = i.toNatClampNeg
    · subst hj
      rw [if_pos rfl, List.getElem?_set_self hlt]
    · rw [if_neg hj, List.getElem?_set_ne (Ne.symm hj)]
  rw [e1] at hP
  show va_P (gz_D E) vwCl ((gz_w E S G).set a (gz_B E + a, .inl (gz_tc E 2, (fl.set i.toNatClampNeg (some (some r))).length, .inr (.inr (.inr (.inr (gz_r E (fl.set i.toNatClampNeg (some (some r)))))))))) H1
  rw [List.length_set]
  exact hP
theorem gk_copy {a b n0 n1 idx : Nat} {sp dp n : Int32} (hd : decode M.2.1 pc = .ok (.invokestatic idx, 3)) (hw1 : Cond.methodLink M.1.cls idx arraycopyName ∈ gz_tbl) (hw2 : Cond.native arraycopyName ∈ gz_tbl) (hw3 : Cond.static arraycopyName ∈ gz_tbl) (hw4 : Cond.initialized "java/lang/System" ∈ gz_tbl) (hg0 : G[a]? = some (.inl (0, n0))) (hg1 : G[b]? = some (.inl (0, n1))) (h1 : ¬ sp < 0) (h2 : ¬ dp < 0) (h3 : ¬ n < 0) (h4 : sp.toNatClampNeg + n.toNatClampNeg ≤ n0) (h5 : dp.toNatClampNeg + n.toNatClampNeg ≤ n1) (hD : 2 ≤ N.1) (hr : (st.map fun v => v.category).sum ≤ 8)
    (k : gz_k E M N cells slots (pc + 3) L st G (gz_u S b (va_cpy (S a) (S b) sp.toNatClampNeg dp.toNatClampNeg n.toNatClampNeg)) Q) : gz_k E M N cells slots pc L (.int n :: .int dp :: .ref b :: .int sp :: .ref a :: st) G S Q := by
  intro p e s m args below meth c Z R C H locs ls hw hh
  obtain ⟨r1, r2, r3, r4⟩ := C.2.2.2.2.2.1
  have hts := C.2.2.2.2.1
  have hrr := gz_rest (E := E) hr
  refine va_copyi (ty := .int) C.1 C.2.1 (by rw [C.2.2.1]; exact hh.1.symm) C.2.2.2.1 (hts _ hw1) (hts _ hw2) (hts _ hw3) (hts _ hw4) C.2.2.2.2.2.2.2.1.1 hw.1 (gz_dd E S G) hw.2 a b 0 0 (gz_w_at hg0) (gz_w_at hg1) rfl rfl rfl h1 h2 h3 h4 h5 (fun i hi => rfl) (by omega) ?_ hd (fun H1 locs1 hP hD hS => ?_)
  · have e1 : nativeFrameWords "java/lang/System" "arraycopy" 5 + 11 ≤ 60 := by decide +kernel
    omega
  · refine k p e s m args below meth c Z R C H1 locs1 ls ⟨?_, hS⟩ hh
    rw [← gz_w_put hg1 (va_cpy (S a) (S b) sp.toNatClampNeg dp.toNatClampNeg n.toNatClampNeg)]
    simpa only [gz_c, gz_u_at] using hP
/-- locals at the entry -/
def gz_e (as : List Value) (n : Nat) : List (Option Value) := let l := as.flatMap (fun v => if v.category = 2 then [some v, none] else [some v]); l ++ List.replicate (n - l.length) none
theorem gz_e_at : ∀ (as : List Value) (i0 i : Nat) (v : Value), (as.flatMap (fun v => if v.category = 2 then [some v, none] else [some v]))[i]? = some (some v) → (i0 + i, gz_v E v) ∈ lv_args i0 (as.map (gz_v E))
  | [], i0, i, v, h => by simp at h
  | a :: as, i0, i, v, h => by
    rw [List.flatMap_cons] at h
    rw [List.map_cons]
    unfold lv_args
    rw [gz_v_cat]
    by_cases hc : a.category = 2
    · rw [if_pos hc] at h ⊢
      rcases i with _ | _ | i
      · simp at h
        rw [h]
        exact List.mem_cons_self
      · simp at h
      · refine List.mem_cons_of_mem _ ?_
        have := gz_e_at as (i0 + 2) i v (by simpa using h)
        rw [show i0 + (i + 1 + 1) = i0 + 2 + i by omega]
        exact this
    · rw [if_neg hc] at h ⊢
      rcases i with _ | i
      · simp at h
        rw [h]
        exact List.mem_cons_self
      · refine List.mem_cons_of_mem _ ?_
        have := gz_e_at as (i0 + 1) i v (by simpa using h)
        rw [show i0 + (i + 1) = i0 + 1 + i by omega]
        exact this
theorem gz_e_len (as : List Value) : (lg_sl (as.map (gz_v E))).length = (as.flatMap (fun v => if v.category = 2 then [some v, none] else [some v])).length := by
  induction as with
  | nil => rfl
  | cons a as ih =>
    unfold lg_sl at ih ⊢
    rw [List.map_cons, List.flatMap_cons, List.flatMap_cons, List.length_append, List.length_append, ih, gz_v_cat]
    by_cases hc : a.category = 2
    · simp [hc]
    · simp [hc]
/-- a contract out of the walk of the body -/
theorem gz_meet {D mc ms : Nat} {as : List Value} {L0 : List (Option Value)} (hpl : plainName M.1.cls = true) (hL : gz_e as M.2.2.1 = L0) (hlen : (as.flatMap (fun v => if v.category = 2 then [some v, none] else [some v])).length ≤ M.2.2.1) (hlaw : M.1.name ≠ "law") (k : gz_k E M (D, mc, ms, G.length) 0 0 0 L0 [] G S Q) : gz_m E M D mc ms as G S Q := by
  subst hL
  refine Met.ofW (cc := M.2.1) (maxL := M.2.2.1) (ret := M.2.2.2) (ws' := gz_tbl) hpl rfl ?_
  intro p e s m args below meth c s₁ B hml hv
  obtain ⟨rfl, hK, hP, hsz⟩ := hv
  have hts : ∀ w ∈ gz_tbl, w.before (as.map (gz_v E)).toArray s = true := fun w hw => atoms_spec (ws := gz_ws M) B.pre w (List.mem_cons_of_mem _ hw)
  have hl := lv_entry (as.map (gz_v E)) (n := M.2.2.1) (by rw [gz_e_len]; exact hlen)
  rw [lg_entry_eq]
  have hh : gz_h E ((lg_sl (as.map (gz_v E)) ++ List.replicate (M.2.2.1 - (lg_sl (as.map (gz_v E))).length) Slot.unset).toArray) M.2.2.1 (gz_e as M.2.2.1) := by
    refine ⟨hl.1, hl.2.1, fun i v hi => ?_⟩
    have h1 : (as.flatMap (fun v => if v.category = 2 then [some v, none] else [some v]))[i]? = some (some v) := by
      unfold gz_e at hi
      dsimp only at hi
      by_cases hlt : i < (as.flatMap (fun v => if v.category = 2 then [some v, none] else [some v])).length
      · rw [List.getElem?_append_left hlt] at hi
        exact hi
      · rw [List.getElem?_append_right (by omega)] at hi
        have := List.eq_of_mem_replicate (List.mem_of_getElem? hi)
        cases this
    have h2 := hl.2.2 _ (gz_e_at as 0 i v h1)
    simpa using h2
  refine k p e s m _ below meth c _ _ ⟨B.exec, B.bytes, hml, findClass_of_methodNamed B.named, hts, ⟨Nat.le_refl _, Nat.le_refl _, Nat.le_refl _, Nat.le_refl _⟩, (name_of_methodNamed B.named B.method).1, hK, fun h => absurd h hlaw, hsz, ?_⟩ s.heap [] _ ⟨hP, va_S.rf⟩ hh
  intro H locs pc ls i v G2 S2 hw hq hd hret
  rcases hret with ⟨rfl, x, rfl, ty, hr, hn⟩ | ⟨rfl, x, rfl, hr⟩ | ⟨rfl, a, rfl, n, hr⟩ | ⟨rfl, rfl, hr⟩
  · exact W.zret (v := x) B.exec B.bytes (B.returns.trans hr) hn (fun t ht hW => ⟨⟨some (.int x), G2, S2, rfl, hq, by rw [ht]; exact hw.1⟩, hw.2.F ht⟩) hw.2.2.2 hd
  · exact W.lret (v := x) B.exec B.bytes (B.returns.trans hr) (fun t ht hW => ⟨⟨some (.long x), G2, S2, rfl, hq, by rw [ht]; exact hw.1⟩, hw.2.F ht⟩) hw.2.2.2 hd
  · exact W.aret (v := .ref (gz_B E + a)) B.exec B.bytes (B.returns.trans hr) (Or.inl ⟨n, rfl⟩) (Or.inr ⟨_, rfl⟩) (fun t ht hW => ⟨⟨some (.ref a), G2, S2, rfl, hq, by rw [ht]; exact hw.1⟩, hw.2.F ht⟩) hw.2.2.2 hd
  · exact W.vret B.exec B.bytes (B.returns.trans hr) (fun t ht hW => ⟨⟨none, G2, S2, rfl, hq, by rw [ht]; exact hw.1⟩, hw.2.F ht⟩) hw.2.2.2 hd
theorem gz_k.mono {Q2 : gz_Q} (h : ∀ v G S, Q v G S → Q2 v G S) (k : gz_k E M N cells slots pc L st G S Q) : gz_k E M N cells slots pc L st G S Q2 := by
  intro p e s m args below meth c Z R C H locs ls hw hh
  refine k p e s m args below meth c Z R ?_ H locs ls hw hh
  obtain ⟨c1, c2, c3, c4, c5, c6, c7, c8, c9, c10, c11⟩ := C
  exact ⟨c1, c2, c3, c4, c5, c6, c7, c8, c9, c10, fun H locs pc ls i v G S h1 h2 h3 h4 => c11 H locs pc ls i v G S h1 (h v G S h2) h3 h4⟩
end
