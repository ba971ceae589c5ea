def s_X6_init_0 (S : gz_S) : gz_S := (gz_u (gz_u (gz_st (gz_st (gz_u (gz_st (gz_st (gz_st S 2 5 0) 2 6 (-1)) 2 7 0) 3 (fun _ => 0)) 2 1 8) 2 2 1) 4 (fun _ => 0)) 5 (fun _ => 0))
set_option maxHeartbeats 4000000 in
set_option maxRecDepth 100000 in
theorem n_X6_init_0 {E : gz_E} {S : gz_S} : gz_m E mX6_init 2 3 32 [.ref 2, .int 16, .int 8, .int 1] gi_3 S (fun v G S2 => v = none ∧ G = gi_9 ∧ S2 = s_X6_init_0 S) := by
  refine gz_meet (L0 := [some (.ref 2), some (.int 16), some (.int 8), some (.int 1)]) (by decide) rfl (Nat.le_of_ble_eq_true rfl) (by decide) ?_
  refine gk_aload_n dX6_init_0 rfl ?_
  refine gk_obj dX6_init_1 woX6_3 wo_i wo_c (Nat.le_of_ble_eq_true rfl) (Nat.le_of_ble_eq_true rfl) ?_
  refine gk_aload_n dX6_init_4 rfl ?_
  refine gk_iconst (v := 0) dX6_init_5 rfl ?_
  refine gk_puti dX6_init_6 rfl rfl wfX6_9 wpX6_5 rfl rfl ?_
  refine gk_nmS (fun S1 (e1 : S1 = gz_st S 2 5 0) => ?_)
  refine gk_aload_n dX6_init_9 rfl ?_
  refine gk_iconst (v := (-1)) dX6_init_10 rfl ?_
  refine gk_puti dX6_init_11 rfl rfl wfX6_15 wpX6_6 rfl rfl ?_
  refine gk_nmS (fun S2 (e2 : S2 = gz_st S1 2 6 (-1)) => ?_)
  refine gk_aload_n dX6_init_14 rfl ?_
  refine gk_iconst (v := 0) dX6_init_15 rfl ?_
  refine gk_puti dX6_init_16 rfl rfl wfX6_18 wpX6_7 rfl rfl ?_
  refine gk_nmS (fun S3 (e3 : S3 = gz_st S2 2 7 0) => ?_)
  refine gk_aload_n dX6_init_19 rfl ?_
  refine gk_iload_n dX6_init_20 rfl ?_
  refine gk_newa (t := 0) (n := 16) dX6_init_21 (Nat.le_of_ble_eq_true rfl) rfl wa_int rfl (Nat.le_of_ble_eq_true rfl) (Nat.le_of_ble_eq_true rfl) (Nat.le_of_ble_eq_true rfl) rfl ?_
  refine gk_Geq (G2 := gi_4) rfl ?_
  refine gk_req (n := 3) rfl ?_
  refine gk_nmS (fun S4 (e4 : S4 = gz_u S3 3 (fun _ => 0)) => ?_)
  refine gk_putr (G2 := gi_5) dX6_init_23 rfl rfl wfX6_21 wpX6_0 (fun _ => ⟨rfl, rfl⟩) rfl rfl rfl ?_
  refine gk_aload_n dX6_init_26 rfl ?_
  refine gk_iload_n dX6_init_27 rfl ?_
  refine gk_putiF dX6_init_28 rfl rfl wfX6_25 wpX6_1 rfl rfl rfl rfl ?_
  refine gk_nmS (fun S5 (e5 : S5 = gz_st S4 2 1 8) => ?_)
  refine gk_aload_n dX6_init_31 rfl ?_
  refine gk_iload_n dX6_init_32 rfl ?_
  refine gk_putiF dX6_init_33 rfl rfl wfX6_28 wpX6_2 rfl rfl rfl rfl ?_
  refine gk_nmS (fun S6 (e6 : S6 = gz_st S5 2 2 1) => ?_)
  refine gk_aload_n dX6_init_36 rfl ?_
  refine gk_iload_n dX6_init_37 rfl ?_
  refine gk_newa (t := 0) (n := 8) dX6_init_38 (Nat.le_of_ble_eq_true rfl) rfl wa_int rfl (Nat.le_of_ble_eq_true rfl) (Nat.le_of_ble_eq_true rfl) (Nat.le_of_ble_eq_true rfl) rfl ?_
  refine gk_Geq (G2 := gi_6) rfl ?_
  refine gk_req (n := 4) rfl ?_
  refine gk_nmS (fun S7 (e7 : S7 = gz_u S6 4 (fun _ => 0)) => ?_)
  refine gk_putr (G2 := gi_7) dX6_init_40 rfl rfl wfX6_32 wpX6_3 (fun _ => ⟨rfl, rfl⟩) rfl rfl rfl ?_
  refine gk_aload_n dX6_init_43 rfl ?_
  refine gk_iload_n dX6_init_44 rfl ?_
  refine gk_newa (t := 0) (n := 8) dX6_init_45 (Nat.le_of_ble_eq_true rfl) rfl wa_int rfl (Nat.le_of_ble_eq_true rfl) (Nat.le_of_ble_eq_true rfl) (Nat.le_of_ble_eq_true rfl) rfl ?_
  refine gk_Geq (G2 := gi_8) rfl ?_
  refine gk_req (n := 5) rfl ?_
  refine gk_nmS (fun S8 (e8 : S8 = gz_u S7 5 (fun _ => 0)) => ?_)
  refine gk_putr (G2 := gi_9) dX6_init_47 rfl rfl wfX6_35 wpX6_4 (fun _ => ⟨rfl, rfl⟩) rfl rfl rfl ?_
  exact gk_vret dX6_init_50 rfl rfl rfl ⟨rfl, rfl, by rw [e8, e7, e6, e5, e4, e3, e2, e1]; rfl⟩
def s_X6_init_1 (S : gz_S) : gz_S := (gz_u (gz_u (gz_st (gz_st (gz_u (gz_st (gz_st (gz_st S 6 5 0) 6 6 (-1)) 6 7 0) 7 (fun _ => 0)) 6 1 9) 6 2 0) 8 (fun _ => 0)) 9 (fun _ => 0))
set_option maxHeartbeats 4000000 in
set_option maxRecDepth 100000 in
theorem n_X6_init_1 {E : gz_E} {S : gz_S} : gz_m E mX6_init 2 3 38 [.ref 6, .int 20, .int 9, .int 0] gi_11 S (fun v G S2 => v = none ∧ G = gi_17 ∧ S2 = s_X6_init_1 S) := by
  refine gz_meet (L0 := [some (.ref 6), some (.int 20), some (.int 9), some (.int 0)]) (by decide) rfl (Nat.le_of_ble_eq_true rfl) (by decide) ?_
  refine gk_aload_n dX6_init_0 rfl ?_
  refine gk_obj dX6_init_1 woX6_3 wo_i wo_c (Nat.le_of_ble_eq_true rfl) (Nat.le_of_ble_eq_true rfl) ?_
  refine gk_aload_n dX6_init_4 rfl ?_
  refine gk_iconst (v := 0) dX6_init_5 rfl ?_
  refine gk_puti dX6_init_6 rfl rfl wfX6_9 wpX6_5 rfl rfl ?_
  refine gk_nmS (fun S1 (e1 : S1 = gz_st S 6 5 0) => ?_)
  refine gk_aload_n dX6_init_9 rfl ?_
  refine gk_iconst (v := (-1)) dX6_init_10 rfl ?_
  refine gk_puti dX6_init_11 rfl rfl wfX6_15 wpX6_6 rfl rfl ?_
  refine gk_nmS (fun S2 (e2 : S2 = gz_st S1 6 6 (-1)) => ?_)
  refine gk_aload_n dX6_init_14 rfl ?_
  refine gk_iconst (v := 0) dX6_init_15 rfl ?_
  refine gk_puti dX6_init_16 rfl rfl wfX6_18 wpX6_7 rfl rfl ?_
  refine gk_nmS (fun S3 (e3 : S3 = gz_st S2 6 7 0) => ?_)
  refine gk_aload_n dX6_init_19 rfl ?_
  refine gk_iload_n dX6_init_20 rfl ?_
  refine gk_newa (t := 0) (n := 20) dX6_init_21 (Nat.le_of_ble_eq_true rfl) rfl wa_int rfl (Nat.le_of_ble_eq_true rfl) (Nat.le_of_ble_eq_true rfl) (Nat.le_of_ble_eq_true rfl) rfl ?_
  refine gk_Geq (G2 := gi_12) rfl ?_
  refine gk_req (n := 7) rfl ?_
  refine gk_nmS (fun S4 (e4 : S4 = gz_u S3 7 (fun _ => 0)) => ?_)
  refine gk_putr (G2 := gi_13) dX6_init_23 rfl rfl wfX6_21 wpX6_0 (fun _ => ⟨rfl, rfl⟩) rfl rfl rfl ?_
  refine gk_aload_n dX6_init_26 rfl ?_
  refine gk_iload_n dX6_init_27 rfl ?_
  refine gk_putiF dX6_init_28 rfl rfl wfX6_25 wpX6_1 rfl rfl rfl rfl ?_
  refine gk_nmS (fun S5 (e5 : S5 = gz_st S4 6 1 9) => ?_)
  refine gk_aload_n dX6_init_31 rfl ?_
  refine gk_iload_n dX6_init_32 rfl ?_
  refine gk_putiF dX6_init_33 rfl rfl wfX6_28 wpX6_2 rfl rfl rfl rfl ?_
  refine gk_nmS (fun S6 (e6 : S6 = gz_st S5 6 2 0) => ?_)
  refine gk_aload_n dX6_init_36 rfl ?_
  refine gk_iload_n dX6_init_37 rfl ?_
  refine gk_newa (t := 0) (n := 9) dX6_init_38 (Nat.le_of_ble_eq_true rfl) rfl wa_int rfl (Nat.le_of_ble_eq_true rfl) (Nat.le_of_ble_eq_true rfl) (Nat.le_of_ble_eq_true rfl) rfl ?_
  refine gk_Geq (G2 := gi_14) rfl ?_
  refine gk_req (n := 8) rfl ?_
  refine gk_nmS (fun S7 (e7 : S7 = gz_u S6 8 (fun _ => 0)) => ?_)
  refine gk_putr (G2 := gi_15) dX6_init_40 rfl rfl wfX6_32 wpX6_3 (fun _ => ⟨rfl, rfl⟩) rfl rfl rfl ?_
  refine gk_aload_n dX6_init_43 rfl ?_
  refine gk_iload_n dX6_init_44 rfl ?_
  refine gk_newa (t := 0) (n := 9) dX6_init_45 (Nat.le_of_ble_eq_true rfl) rfl wa_int rfl (Nat.le_of_ble_eq_true rfl) (Nat.le_of_ble_eq_true rfl) (Nat.le_of_ble_eq_true rfl) rfl ?_
  refine gk_Geq (G2 := gi_16) rfl ?_
  refine gk_req (n := 9) rfl ?_
  refine gk_nmS (fun S8 (e8 : S8 = gz_u S7 9 (fun _ => 0)) => ?_)
  refine gk_putr (G2 := gi_17) dX6_init_47 rfl rfl wfX6_35 wpX6_4 (fun _ => ⟨rfl, rfl⟩) rfl rfl rfl ?_
  exact gk_vret dX6_init_50 rfl rfl rfl ⟨rfl, rfl, by rw [e8, e7, e6, e5, e4, e3, e2, e1]; rfl⟩
def s_X3_init_2 (S : gz_S) : gz_S := (gz_fl (gz_st (gz_st (gz_u (gz_u (s_X6_init_1 (gz_u (s_X6_init_0 (gz_u S 2 (fun _ => 0))) 6 (fun _ => 0))) 10 (fun _ => 0)) 11 (fun _ => 0)) 1 4 12) 1 5 99) 11 8 1)
set_option maxHeartbeats 4000000 in
set_option maxRecDepth 100000 in
theorem n_X3_init_2 {E : gz_E} {S : gz_S} : gz_m E mX3_init 3 10 119 [.ref 1] gi_2 S (fun v G S2 => v = none ∧ G = gi_22 ∧ S2 = s_X3_init_2 S) := by
  refine gz_meet (L0 := [some (.ref 1)]) (by decide) rfl (Nat.le_of_ble_eq_true rfl) (by decide) ?_
  refine gk_aload_n dX3_init_0 rfl ?_
  refine gk_obj dX3_init_1 woX3_3 wo_i wo_c (Nat.le_of_ble_eq_true rfl) (Nat.le_of_ble_eq_true rfl) ?_
  refine gk_aload_n dX3_init_4 rfl ?_
  refine gk_new (ci := 6) (fl := [some none, none, none, some none, some none, none, none, none]) dX3_init_5 wnX3_9 (Nat.le_of_ble_eq_true rfl) (Nat.le_of_ble_eq_true rfl) rfl ?_
  refine gk_Geq (G2 := gi_3) rfl ?_
  refine gk_req (n := 2) rfl ?_
  refine gk_nmS (fun S1 (e1 : S1 = gz_u S 2 (fun _ => 0)) => ?_)
  refine gk_dup dX3_init_8 rfl ?_
  refine gk_bipush (v := 16) dX3_init_9 rfl ?_
  refine gk_bipush (v := 8) dX3_init_11 rfl ?_
  refine gk_iconst (v := 1) dX3_init_13 rfl ?_
  refine gk_callI (as := [_, _, _]) (rest := [_, _]) n_X6_init_0 dX3_init_14 wvX3_11 rfl rfl wcX6_init rfl (Nat.le_of_ble_eq_true rfl) ⟨(Nat.le_of_ble_eq_true rfl), (Nat.le_of_ble_eq_true rfl)⟩ (fun _ => rfl) (Nat.le_of_ble_eq_true rfl) rfl (fun v G2 S2 hq => ?_)
  obtain ⟨rfl, rfl, rfl⟩ := hq
  refine gk_nmS (fun S2 (e2 : S2 = s_X6_init_0 S1) => ?_)
  refine gk_putr (G2 := gi_10) dX3_init_17 rfl rfl wfX3_14 wpX3_0 (fun _ => ⟨rfl, rfl⟩) rfl rfl rfl ?_
  refine gk_aload_n dX3_init_20 rfl ?_
  refine gk_new (ci := 6) (fl := [some none, none, none, some none, some none, none, none, none]) dX3_init_21 wnX3_9 (Nat.le_of_ble_eq_true rfl) (Nat.le_of_ble_eq_true rfl) rfl ?_
  refine gk_Geq (G2 := gi_11) rfl ?_
  refine gk_req (n := 6) rfl ?_
  refine gk_nmS (fun S3 (e3 : S3 = gz_u S2 6 (fun _ => 0)) => ?_)
  refine gk_dup dX3_init_24 rfl ?_
  refine gk_bipush (v := 20) dX3_init_25 rfl ?_
  refine gk_bipush (v := 9) dX3_init_27 rfl ?_
  refine gk_iconst (v := 0) dX3_init_29 rfl ?_
  refine gk_callI (as := [_, _, _]) (rest := [_, _]) n_X6_init_1 dX3_init_30 wvX3_11 rfl rfl wcX6_init rfl (Nat.le_of_ble_eq_true rfl) ⟨(Nat.le_of_ble_eq_true rfl), (Nat.le_of_ble_eq_true rfl)⟩ (fun _ => rfl) (Nat.le_of_ble_eq_true rfl) rfl (fun v G2 S2 hq => ?_)
  obtain ⟨rfl, rfl, rfl⟩ := hq
  refine gk_nmS (fun S4 (e4 : S4 = s_X6_init_1 S3) => ?_)
  refine gk_putr (G2 := gi_18) dX3_init_33 rfl rfl wfX3_20 wpX3_1 (fun _ => ⟨rfl, rfl⟩) rfl rfl rfl ?_
  refine gk_aload_n dX3_init_36 rfl ?_
  refine gk_bipush (v := 25) dX3_init_37 rfl ?_
  refine gk_newa (t := 0) (n := 25) dX3_init_39 (Nat.le_of_ble_eq_true rfl) rfl wa_int rfl (Nat.le_of_ble_eq_true rfl) (Nat.le_of_ble_eq_true rfl) (Nat.le_of_ble_eq_true rfl) rfl ?_
  refine gk_Geq (G2 := gi_19) rfl ?_
  refine gk_req (n := 10) rfl ?_
  refine gk_nmS (fun S5 (e5 : S5 = gz_u S4 10 (fun _ => 0)) => ?_)
  refine gk_putr (G2 := gi_20) dX3_init_41 rfl rfl wfX3_23 wpX3_2 (fun _ => ⟨rfl, rfl⟩) rfl rfl rfl ?_
  refine gk_aload_n dX3_init_44 rfl ?_
  refine gk_bipush (v := 8) dX3_init_45 rfl ?_
  refine gk_newa (t := 0) (n := 8) dX3_init_47 (Nat.le_of_ble_eq_true rfl) rfl wa_int rfl (Nat.le_of_ble_eq_true rfl) (Nat.le_of_ble_eq_true rfl) (Nat.le_of_ble_eq_true rfl) rfl ?_
  refine gk_Geq (G2 := gi_21) rfl ?_
  refine gk_req (n := 11) rfl ?_
  refine gk_nmS (fun S6 (e6 : S6 = gz_u S5 11 (fun _ => 0)) => ?_)
  refine gk_putr (G2 := gi_22) dX3_init_49 rfl rfl wfX3_27 wpX3_3 (fun _ => ⟨rfl, rfl⟩) rfl rfl rfl ?_
  refine gk_aload_n dX3_init_52 rfl ?_
  refine gk_bipush (v := 12) dX3_init_53 rfl ?_
  refine gk_puti dX3_init_55 rfl rfl wfX3_30 wpX3_4 rfl rfl ?_
  refine gk_nmS (fun S7 (e7 : S7 = gz_st S6 1 4 12) => ?_)
  refine gk_aload_n dX3_init_58 rfl ?_
  refine gk_bipush (v := 99) dX3_init_59 rfl ?_
  refine gk_puti dX3_init_61 rfl rfl wfX3_34 wpX3_5 rfl rfl ?_
  refine gk_nmS (fun S8 (e8 : S8 = gz_st S7 1 5 99) => ?_)
  refine gk_aload_n dX3_init_64 rfl ?_
  refine gk_getr dX3_init_65 rfl rfl wfX3_27 ?_
  refine gk_iconst (v := 1) dX3_init_68 rfl ?_
  refine gk_callS (as := [_, _]) (rest := []) (ct_fill (G := gi_22) (a := 11) (n := 8) rfl (Nat.le_of_ble_eq_true rfl)) dX3_init_69 wvX3_37 wcJ7_fill_53178 rfl (Nat.le_of_ble_eq_true rfl) ⟨(Nat.le_of_ble_eq_true rfl), (Nat.le_of_ble_eq_true rfl)⟩ (fun h9 => absurd rfl h9) (Nat.le_of_ble_eq_true rfl) rfl (fun v G2 S2 hq => ?_)
  obtain ⟨rfl, rfl, rfl⟩ := hq
  refine gk_nmS (fun S9 (e9 : S9 = gz_fl S8 11 8 1) => ?_)
  exact gk_vret dX3_init_72 rfl rfl rfl ⟨rfl, rfl, by rw [e9, e8, e7, e6, e5, e4, e3, e2, e1]; rfl⟩
def s_X1_init_3 (S : gz_S) : gz_S := (gz_st (gz_u (gz_u (gz_u S 13 (fun _ => 0)) 14 (fun _ => 0)) 15 (fun _ => 0)) 12 3 0)
set_option maxHeartbeats 4000000 in
set_option maxRecDepth 100000 in
theorem n_X1_init_3 {E : gz_E} {S : gz_S} : gz_m E mX1_init 2 3 90 [.ref 12] gi_24 S (fun v G S2 => v = none ∧ G = gi_30 ∧ S2 = s_X1_init_3 S) := by
  refine gz_meet (L0 := [some (.ref 12)]) (by decide) rfl (Nat.le_of_ble_eq_true rfl) (by decide) ?_
  refine gk_aload_n dX1_init_0 rfl ?_
  refine gk_obj dX1_init_1 woX1_3 wo_i wo_c (Nat.le_of_ble_eq_true rfl) (Nat.le_of_ble_eq_true rfl) ?_
  refine gk_aload_n dX1_init_4 rfl ?_
  refine gk_bipush (v := 30) dX1_init_5 rfl ?_
  refine gk_newa (t := 0) (n := 30) dX1_init_7 (Nat.le_of_ble_eq_true rfl) rfl wa_int rfl (Nat.le_of_ble_eq_true rfl) (Nat.le_of_ble_eq_true rfl) (Nat.le_of_ble_eq_true rfl) rfl ?_
  refine gk_Geq (G2 := gi_25) rfl ?_
  refine gk_req (n := 13) rfl ?_
  refine gk_nmS (fun S1 (e1 : S1 = gz_u S 13 (fun _ => 0)) => ?_)
  refine gk_putr (G2 := gi_26) dX1_init_9 rfl rfl wfX1_9 wpX1_0 (fun _ => ⟨rfl, rfl⟩) rfl rfl rfl ?_
  refine gk_aload_n dX1_init_12 rfl ?_
  refine gk_bipush (v := 30) dX1_init_13 rfl ?_
  refine gk_newa (t := 0) (n := 30) dX1_init_15 (Nat.le_of_ble_eq_true rfl) rfl wa_int rfl (Nat.le_of_ble_eq_true rfl) (Nat.le_of_ble_eq_true rfl) (Nat.le_of_ble_eq_true rfl) rfl ?_
  refine gk_Geq (G2 := gi_27) rfl ?_
  refine gk_req (n := 14) rfl ?_
  refine gk_nmS (fun S2 (e2 : S2 = gz_u S1 14 (fun _ => 0)) => ?_)
  refine gk_putr (G2 := gi_28) dX1_init_17 rfl rfl wfX1_15 wpX1_1 (fun _ => ⟨rfl, rfl⟩) rfl rfl rfl ?_
  refine gk_aload_n dX1_init_20 rfl ?_
  refine gk_bipush (v := 30) dX1_init_21 rfl ?_
  refine gk_newa (t := 0) (n := 30) dX1_init_23 (Nat.le_of_ble_eq_true rfl) rfl wa_int rfl (Nat.le_of_ble_eq_true rfl) (Nat.le_of_ble_eq_true rfl) (Nat.le_of_ble_eq_true rfl) rfl ?_
  refine gk_Geq (G2 := gi_29) rfl ?_
  refine gk_req (n := 15) rfl ?_
  refine gk_nmS (fun S3 (e3 : S3 = gz_u S2 15 (fun _ => 0)) => ?_)
  refine gk_putr (G2 := gi_30) dX1_init_25 rfl rfl wfX1_18 wpX1_2 (fun _ => ⟨rfl, rfl⟩) rfl rfl rfl ?_
  refine gk_aload_n dX1_init_28 rfl ?_
  refine gk_iconst (v := 0) dX1_init_29 rfl ?_
  refine gk_puti dX1_init_30 rfl rfl wfX1_21 wpX1_3 rfl rfl ?_
  refine gk_nmS (fun S4 (e4 : S4 = gz_st S3 12 3 0) => ?_)
  exact gk_vret dX1_init_33 rfl rfl rfl ⟨rfl, rfl, by rw [e4, e3, e2, e1]; rfl⟩
def s_X2_init_4 (S : gz_S) : gz_S := (gz_fl (gz_fl (gz_st (gz_u (gz_u (gz_st (gz_u (gz_u (gz_u (gz_u S 17 (fun _ => 0)) 18 (fun _ => 0)) 19 (fun _ => 0)) 20 (fun _ => 0)) 16 6 0) 21 (fun _ => 0)) 22 (fun _ => 0)) 16 9 0) 18 9 (-1)) 22 9 (-1))
set_option maxHeartbeats 4000000 in
set_option maxRecDepth 100000 in
theorem n_X2_init_4 {E : gz_E} {S : gz_S} : gz_m E mX2_init 2 6 75 [.ref 16, .ref 1, .ref 12] gi_32 S (fun v G S2 => v = none ∧ G = gi_46 ∧ S2 = s_X2_init_4 S) := by
  refine gz_meet (L0 := [some (.ref 16), some (.ref 1), some (.ref 12)]) (by decide) rfl (Nat.le_of_ble_eq_true rfl) (by decide) ?_
  refine gk_aload_n dX2_init_0 rfl ?_
  refine gk_obj dX2_init_1 woX2_3 wo_i wo_c (Nat.le_of_ble_eq_true rfl) (Nat.le_of_ble_eq_true rfl) ?_
  refine gk_aload_n dX2_init_4 rfl ?_
  refine gk_bipush (v := 30) dX2_init_5 rfl ?_
  refine gk_newa (t := 0) (n := 30) dX2_init_7 (Nat.le_of_ble_eq_true rfl) rfl wa_int rfl (Nat.le_of_ble_eq_true rfl) (Nat.le_of_ble_eq_true rfl) (Nat.le_of_ble_eq_true rfl) rfl ?_
  refine gk_Geq (G2 := gi_33) rfl ?_
  refine gk_req (n := 17) rfl ?_
  refine gk_nmS (fun S1 (e1 : S1 = gz_u S 17 (fun _ => 0)) => ?_)
  refine gk_putr (G2 := gi_34) dX2_init_9 rfl rfl wfX2_9 wpX2_2 (fun _ => ⟨rfl, rfl⟩) rfl rfl rfl ?_
  refine gk_aload_n dX2_init_12 rfl ?_
  refine gk_bipush (v := 9) dX2_init_13 rfl ?_
  refine gk_newa (t := 0) (n := 9) dX2_init_15 (Nat.le_of_ble_eq_true rfl) rfl wa_int rfl (Nat.le_of_ble_eq_true rfl) (Nat.le_of_ble_eq_true rfl) (Nat.le_of_ble_eq_true rfl) rfl ?_
  refine gk_Geq (G2 := gi_35) rfl ?_
  refine gk_req (n := 18) rfl ?_
  refine gk_nmS (fun S2 (e2 : S2 = gz_u S1 18 (fun _ => 0)) => ?_)
  refine gk_putr (G2 := gi_36) dX2_init_17 rfl rfl wfX2_15 wpX2_3 (fun _ => ⟨rfl, rfl⟩) rfl rfl rfl ?_
  refine gk_aload_n dX2_init_20 rfl ?_
  refine gk_bipush (v := 8) dX2_init_21 rfl ?_
  refine gk_newa (t := 0) (n := 8) dX2_init_23 (Nat.le_of_ble_eq_true rfl) rfl wa_int rfl (Nat.le_of_ble_eq_true rfl) (Nat.le_of_ble_eq_true rfl) (Nat.le_of_ble_eq_true rfl) rfl ?_
  refine gk_Geq (G2 := gi_37) rfl ?_
  refine gk_req (n := 19) rfl ?_
  refine gk_nmS (fun S3 (e3 : S3 = gz_u S2 19 (fun _ => 0)) => ?_)
  refine gk_putr (G2 := gi_38) dX2_init_25 rfl rfl wfX2_18 wpX2_4 (fun _ => ⟨rfl, rfl⟩) rfl rfl rfl ?_
  refine gk_aload_n dX2_init_28 rfl ?_
  refine gk_bipush (v := 9) dX2_init_29 rfl ?_
  refine gk_newa (t := 0) (n := 9) dX2_init_31 (Nat.le_of_ble_eq_true rfl) rfl wa_int rfl (Nat.le_of_ble_eq_true rfl) (Nat.le_of_ble_eq_true rfl) (Nat.le_of_ble_eq_true rfl) rfl ?_
  refine gk_Geq (G2 := gi_39) rfl ?_
  refine gk_req (n := 20) rfl ?_
  refine gk_nmS (fun S4 (e4 : S4 = gz_u S3 20 (fun _ => 0)) => ?_)
  refine gk_putr (G2 := gi_40) dX2_init_33 rfl rfl wfX2_21 wpX2_5 (fun _ => ⟨rfl, rfl⟩) rfl rfl rfl ?_
  refine gk_aload_n dX2_init_36 rfl ?_
  refine gk_iconst (v := 0) dX2_init_37 rfl ?_
  refine gk_puti dX2_init_38 rfl rfl wfX2_24 wpX2_6 rfl rfl ?_
  refine gk_nmS (fun S5 (e5 : S5 = gz_st S4 16 6 0) => ?_)
  refine gk_aload_n dX2_init_41 rfl ?_
  refine gk_bipush (v := 10) dX2_init_42 rfl ?_
  refine gk_newa (t := 0) (n := 10) dX2_init_44 (Nat.le_of_ble_eq_true rfl) rfl wa_int rfl (Nat.le_of_ble_eq_true rfl) (Nat.le_of_ble_eq_true rfl) (Nat.le_of_ble_eq_true rfl) rfl ?_
  refine gk_Geq (G2 := gi_41) rfl ?_
  refine gk_req (n := 21) rfl ?_
  refine gk_nmS (fun S6 (e6 : S6 = gz_u S5 21 (fun _ => 0)) => ?_)
  refine gk_putr (G2 := gi_42) dX2_init_46 rfl rfl wfX2_28 wpX2_7 (fun _ => ⟨rfl, rfl⟩) rfl rfl rfl ?_
  refine gk_aload_n dX2_init_49 rfl ?_
  refine gk_bipush (v := 9) dX2_init_50 rfl ?_
  refine gk_newa (t := 0) (n := 9) dX2_init_52 (Nat.le_of_ble_eq_true rfl) rfl wa_int rfl (Nat.le_of_ble_eq_true rfl) (Nat.le_of_ble_eq_true rfl) (Nat.le_of_ble_eq_true rfl) rfl ?_
  refine gk_Geq (G2 := gi_43) rfl ?_
  refine gk_req (n := 22) rfl ?_
  refine gk_nmS (fun S7 (e7 : S7 = gz_u S6 22 (fun _ => 0)) => ?_)
  refine gk_putr (G2 := gi_44) dX2_init_54 rfl rfl wfX2_31 wpX2_8 (fun _ => ⟨rfl, rfl⟩) rfl rfl rfl ?_
  refine gk_aload_n dX2_init_57 rfl ?_
  refine gk_iconst (v := 0) dX2_init_58 rfl ?_
  refine gk_puti dX2_init_59 rfl rfl wfX2_34 wpX2_9 rfl rfl ?_
  refine gk_nmS (fun S8 (e8 : S8 = gz_st S7 16 9 0) => ?_)
  refine gk_aload_n dX2_init_62 rfl ?_
  refine gk_aload_n dX2_init_63 rfl ?_
  refine gk_putr (G2 := gi_45) dX2_init_64 rfl rfl wfX2_37 wpX2_0 (fun _ => ⟨rfl, rfl⟩) rfl rfl rfl ?_
  refine gk_aload_n dX2_init_67 rfl ?_
  refine gk_aload_n dX2_init_68 rfl ?_
  refine gk_putr (G2 := gi_46) dX2_init_69 rfl rfl wfX2_41 wpX2_1 (fun _ => ⟨rfl, rfl⟩) rfl rfl rfl ?_
  refine gk_aload_n dX2_init_72 rfl ?_
  refine gk_getr dX2_init_73 rfl rfl wfX2_15 ?_
  refine gk_iconst (v := (-1)) dX2_init_76 rfl ?_
  refine gk_callS (as := [_, _]) (rest := []) (ct_fill (G := gi_46) (a := 18) (n := 9) rfl (Nat.le_of_ble_eq_true rfl)) dX2_init_77 wvX2_45 wcJ7_fill_53178 rfl (Nat.le_of_ble_eq_true rfl) ⟨(Nat.le_of_ble_eq_true rfl), (Nat.le_of_ble_eq_true rfl)⟩ (fun h9 => absurd rfl h9) (Nat.le_of_ble_eq_true rfl) rfl (fun v G2 S2 hq => ?_)
  obtain ⟨rfl, rfl, rfl⟩ := hq
  refine gk_nmS (fun S9 (e9 : S9 = gz_fl S8 18 9 (-1)) => ?_)
  refine gk_aload_n dX2_init_80 rfl ?_
  refine gk_getr dX2_init_81 rfl rfl wfX2_31 ?_
  refine gk_iconst (v := (-1)) dX2_init_84 rfl ?_
  refine gk_callS (as := [_, _]) (rest := []) (ct_fill (G := gi_46) (a := 22) (n := 9) rfl (Nat.le_of_ble_eq_true rfl)) dX2_init_85 wvX2_45 wcJ7_fill_53178 rfl (Nat.le_of_ble_eq_true rfl) ⟨(Nat.le_of_ble_eq_true rfl), (Nat.le_of_ble_eq_true rfl)⟩ (fun h9 => absurd rfl h9) (Nat.le_of_ble_eq_true rfl) rfl (fun v G2 S2 hq => ?_)
  obtain ⟨rfl, rfl, rfl⟩ := hq
  refine gk_nmS (fun S10 (e10 : S10 = gz_fl S9 22 9 (-1)) => ?_)
  exact gk_vret dX2_init_88 rfl rfl rfl ⟨rfl, rfl, by rw [e10, e9, e8, e7, e6, e5, e4, e3, e2, e1]; rfl⟩
def s_X2_init_5 (S : gz_S) : gz_S := (gz_fl (gz_fl (gz_st (gz_u (gz_u (gz_st (gz_u (gz_u (gz_u (gz_u S 24 (fun _ => 0)) 25 (fun _ => 0)) 26 (fun _ => 0)) 27 (fun _ => 0)) 23 6 0) 28 (fun _ => 0)) 29 (fun _ => 0)) 23 9 0) 25 9 (-1)) 29 9 (-1))
set_option maxHeartbeats 4000000 in
set_option maxRecDepth 100000 in
theorem n_X2_init_5 {E : gz_E} {S : gz_S} : gz_m E mX2_init 2 6 75 [.ref 23, .ref 1, .ref 12] gi_48 S (fun v G S2 => v = none ∧ G = gi_62 ∧ S2 = s_X2_init_5 S) := by
  refine gz_meet (L0 := [some (.ref 23), some (.ref 1), some (.ref 12)]) (by decide) rfl (Nat.le_of_ble_eq_true rfl) (by decide) ?_
  refine gk_aload_n dX2_init_0 rfl ?_
  refine gk_obj dX2_init_1 woX2_3 wo_i wo_c (Nat.le_of_ble_eq_true rfl) (Nat.le_of_ble_eq_true rfl) ?_
  refine gk_aload_n dX2_init_4 rfl ?_
  refine gk_bipush (v := 30) dX2_init_5 rfl ?_
  refine gk_newa (t := 0) (n := 30) dX2_init_7 (Nat.le_of_ble_eq_true rfl) rfl wa_int rfl (Nat.le_of_ble_eq_true rfl) (Nat.le_of_ble_eq_true rfl) (Nat.le_of_ble_eq_true rfl) rfl ?_
  refine gk_Geq (G2 := gi_49) rfl ?_
  refine gk_req (n := 24) rfl ?_
  refine gk_nmS (fun S1 (e1 : S1 = gz_u S 24 (fun _ => 0)) => ?_)
  refine gk_putr (G2 := gi_50) dX2_init_9 rfl rfl wfX2_9 wpX2_2 (fun _ => ⟨rfl, rfl⟩) rfl rfl rfl ?_
  refine gk_aload_n dX2_init_12 rfl ?_
  refine gk_bipush (v := 9) dX2_init_13 rfl ?_
  refine gk_newa (t := 0) (n := 9) dX2_init_15 (Nat.le_of_ble_eq_true rfl) rfl wa_int rfl (Nat.le_of_ble_eq_true rfl) (Nat.le_of_ble_eq_true rfl) (Nat.le_of_ble_eq_true rfl) rfl ?_
  refine gk_Geq (G2 := gi_51) rfl ?_
  refine gk_req (n := 25) rfl ?_
  refine gk_nmS (fun S2 (e2 : S2 = gz_u S1 25 (fun _ => 0)) => ?_)
  refine gk_putr (G2 := gi_52) dX2_init_17 rfl rfl wfX2_15 wpX2_3 (fun _ => ⟨rfl, rfl⟩) rfl rfl rfl ?_
  refine gk_aload_n dX2_init_20 rfl ?_
  refine gk_bipush (v := 8) dX2_init_21 rfl ?_
  refine gk_newa (t := 0) (n := 8) dX2_init_23 (Nat.le_of_ble_eq_true rfl) rfl wa_int rfl (Nat.le_of_ble_eq_true rfl) (Nat.le_of_ble_eq_true rfl) (Nat.le_of_ble_eq_true rfl) rfl ?_
  refine gk_Geq (G2 := gi_53) rfl ?_
  refine gk_req (n := 26) rfl ?_
  refine gk_nmS (fun S3 (e3 : S3 = gz_u S2 26 (fun _ => 0)) => ?_)
  refine gk_putr (G2 := gi_54) dX2_init_25 rfl rfl wfX2_18 wpX2_4 (fun _ => ⟨rfl, rfl⟩) rfl rfl rfl ?_
  refine gk_aload_n dX2_init_28 rfl ?_
  refine gk_bipush (v := 9) dX2_init_29 rfl ?_
  refine gk_newa (t := 0) (n := 9) dX2_init_31 (Nat.le_of_ble_eq_true rfl) rfl wa_int rfl (Nat.le_of_ble_eq_true rfl) (Nat.le_of_ble_eq_true rfl) (Nat.le_of_ble_eq_true rfl) rfl ?_
  refine gk_Geq (G2 := gi_55) rfl ?_
  refine gk_req (n := 27) rfl ?_
  refine gk_nmS (fun S4 (e4 : S4 = gz_u S3 27 (fun _ => 0)) => ?_)
  refine gk_putr (G2 := gi_56) dX2_init_33 rfl rfl wfX2_21 wpX2_5 (fun _ => ⟨rfl, rfl⟩) rfl rfl rfl ?_
  refine gk_aload_n dX2_init_36 rfl ?_
  refine gk_iconst (v := 0) dX2_init_37 rfl ?_
  refine gk_puti dX2_init_38 rfl rfl wfX2_24 wpX2_6 rfl rfl ?_
  refine gk_nmS (fun S5 (e5 : S5 = gz_st S4 23 6 0) => ?_)
  refine gk_aload_n dX2_init_41 rfl ?_
  refine gk_bipush (v := 10) dX2_init_42 rfl ?_
  refine gk_newa (t := 0) (n := 10) dX2_init_44 (Nat.le_of_ble_eq_true rfl) rfl wa_int rfl (Nat.le_of_ble_eq_true rfl) (Nat.le_of_ble_eq_true rfl) (Nat.le_of_ble_eq_true rfl) rfl ?_
  refine gk_Geq (G2 := gi_57) rfl ?_
  refine gk_req (n := 28) rfl ?_
  refine gk_nmS (fun S6 (e6 : S6 = gz_u S5 28 (fun _ => 0)) => ?_)
  refine gk_putr (G2 := gi_58) dX2_init_46 rfl rfl wfX2_28 wpX2_7 (fun _ => ⟨rfl, rfl⟩) rfl rfl rfl ?_
  refine gk_aload_n dX2_init_49 rfl ?_
  refine gk_bipush (v := 9) dX2_init_50 rfl ?_
  refine gk_newa (t := 0) (n := 9) dX2_init_52 (Nat.le_of_ble_eq_true rfl) rfl wa_int rfl (Nat.le_of_ble_eq_true rfl) (Nat.le_of_ble_eq_true rfl) (Nat.le_of_ble_eq_true rfl) rfl ?_
  refine gk_Geq (G2 := gi_59) rfl ?_
  refine gk_req (n := 29) rfl ?_
  refine gk_nmS (fun S7 (e7 : S7 = gz_u S6 29 (fun _ => 0)) => ?_)
  refine gk_putr (G2 := gi_60) dX2_init_54 rfl rfl wfX2_31 wpX2_8 (fun _ => ⟨rfl, rfl⟩) rfl rfl rfl ?_
  refine gk_aload_n dX2_init_57 rfl ?_
  refine gk_iconst (v := 0) dX2_init_58 rfl ?_
  refine gk_puti dX2_init_59 rfl rfl wfX2_34 wpX2_9 rfl rfl ?_
  refine gk_nmS (fun S8 (e8 : S8 = gz_st S7 23 9 0) => ?_)
  refine gk_aload_n dX2_init_62 rfl ?_
  refine gk_aload_n dX2_init_63 rfl ?_
  refine gk_putr (G2 := gi_61) dX2_init_64 rfl rfl wfX2_37 wpX2_0 (fun _ => ⟨rfl, rfl⟩) rfl rfl rfl ?_
  refine gk_aload_n dX2_init_67 rfl ?_
  refine gk_aload_n dX2_init_68 rfl ?_
  refine gk_putr (G2 := gi_62) dX2_init_69 rfl rfl wfX2_41 wpX2_1 (fun _ => ⟨rfl, rfl⟩) rfl rfl rfl ?_
  refine gk_aload_n dX2_init_72 rfl ?_
  refine gk_getr dX2_init_73 rfl rfl wfX2_15 ?_
  refine gk_iconst (v := (-1)) dX2_init_76 rfl ?_
  refine gk_callS (as := [_, _]) (rest := []) (ct_fill (G := gi_62) (a := 25) (n := 9) rfl (Nat.le_of_ble_eq_true rfl)) dX2_init_77 wvX2_45 wcJ7_fill_53178 rfl (Nat.le_of_ble_eq_true rfl) ⟨(Nat.le_of_ble_eq_true rfl), (Nat.le_of_ble_eq_true rfl)⟩ (fun h9 => absurd rfl h9) (Nat.le_of_ble_eq_true rfl) rfl (fun v G2 S2 hq => ?_)
  obtain ⟨rfl, rfl, rfl⟩ := hq
  refine gk_nmS (fun S9 (e9 : S9 = gz_fl S8 25 9 (-1)) => ?_)
  refine gk_aload_n dX2_init_80 rfl ?_
  refine gk_getr dX2_init_81 rfl rfl wfX2_31 ?_
  refine gk_iconst (v := (-1)) dX2_init_84 rfl ?_
  refine gk_callS (as := [_, _]) (rest := []) (ct_fill (G := gi_62) (a := 29) (n := 9) rfl (Nat.le_of_ble_eq_true rfl)) dX2_init_85 wvX2_45 wcJ7_fill_53178 rfl (Nat.le_of_ble_eq_true rfl) ⟨(Nat.le_of_ble_eq_true rfl), (Nat.le_of_ble_eq_true rfl)⟩ (fun h9 => absurd rfl h9) (Nat.le_of_ble_eq_true rfl) rfl (fun v G2 S2 hq => ?_)
  obtain ⟨rfl, rfl, rfl⟩ := hq
  refine gk_nmS (fun S10 (e10 : S10 = gz_fl S9 29 9 (-1)) => ?_)
  exact gk_vret dX2_init_88 rfl rfl rfl ⟨rfl, rfl, by rw [e10, e9, e8, e7, e6, e5, e4, e3, e2, e1]; rfl⟩
def s_X4_init_6 (S : gz_S) : gz_S := (gz_u (gz_st (gz_u S 31 (fun _ => 0)) 30 2 0) 32 (fun _ => 0))
set_option maxHeartbeats 4000000 in
set_option maxRecDepth 100000 in
theorem n_X4_init_6 {E : gz_E} {S : gz_S} : gz_m E mX4_init 2 2 520 [.ref 30, .ref 1] gi_64 S (fun v G S2 => v = none ∧ G = gi_69 ∧ S2 = s_X4_init_6 S) := by
  refine gz_meet (L0 := [some (.ref 30), some (.ref 1)]) (by decide) rfl (Nat.le_of_ble_eq_true rfl) (by decide) ?_
  refine gk_aload_n dX4_init_0 rfl ?_
  refine gk_obj dX4_init_1 woX4_3 wo_i wo_c (Nat.le_of_ble_eq_true rfl) (Nat.le_of_ble_eq_true rfl) ?_
  refine gk_aload_n dX4_init_4 rfl ?_
  refine gk_bipush (v := 8) dX4_init_5 rfl ?_
  refine gk_newa (t := 0) (n := 8) dX4_init_7 (Nat.le_of_ble_eq_true rfl) rfl wa_int rfl (Nat.le_of_ble_eq_true rfl) (Nat.le_of_ble_eq_true rfl) (Nat.le_of_ble_eq_true rfl) rfl ?_
  refine gk_Geq (G2 := gi_65) rfl ?_
  refine gk_req (n := 31) rfl ?_
  refine gk_nmS (fun S1 (e1 : S1 = gz_u S 31 (fun _ => 0)) => ?_)
  refine gk_putr (G2 := gi_66) dX4_init_9 rfl rfl wfX4_9 wpX4_1 (fun _ => ⟨rfl, rfl⟩) rfl rfl rfl ?_
  refine gk_aload_n dX4_init_12 rfl ?_
  refine gk_iconst (v := 0) dX4_init_13 rfl ?_
  refine gk_puti dX4_init_14 rfl rfl wfX4_15 wpX4_2 rfl rfl ?_
  refine gk_nmS (fun S2 (e2 : S2 = gz_st S1 30 2 0) => ?_)
  refine gk_aload_n dX4_init_17 rfl ?_
  refine gk_sipush (v := 512) dX4_init_18 rfl ?_
  refine gk_newa (t := 0) (n := 512) dX4_init_21 (Nat.le_of_ble_eq_true rfl) rfl wa_int rfl (Nat.le_of_ble_eq_true rfl) (Nat.le_of_ble_eq_true rfl) (Nat.le_of_ble_eq_true rfl) rfl ?_
  refine gk_Geq (G2 := gi_67) rfl ?_
  refine gk_req (n := 32) rfl ?_
  refine gk_nmS (fun S3 (e3 : S3 = gz_u S2 32 (fun _ => 0)) => ?_)
  refine gk_putr (G2 := gi_68) dX4_init_23 rfl rfl wfX4_19 wpX4_3 (fun _ => ⟨rfl, rfl⟩) rfl rfl rfl ?_
  refine gk_aload_n dX4_init_26 rfl ?_
  refine gk_aload_n dX4_init_27 rfl ?_
  refine gk_putr (G2 := gi_69) dX4_init_28 rfl rfl wfX4_22 wpX4_0 (fun _ => ⟨rfl, rfl⟩) rfl rfl rfl ?_
  exact gk_vret dX4_init_31 rfl rfl rfl ⟨rfl, rfl, by rw [e3, e2, e1]; rfl⟩
def s_X0_init_7 (S : gz_S) : gz_S := (gz_st (gz_st (gz_st (gz_st (gz_st (gz_u (gz_u S 34 (fun _ => 0)) 35 (fun _ => 0)) 33 3 0) 33 4 0) 33 5 0) 33 6 0) 33 7 0)
set_option maxHeartbeats 4000000 in
set_option maxRecDepth 100000 in
theorem n_X0_init_7 {E : gz_E} {S : gz_S} : gz_m E mX0_init 2 2 17 [.ref 33, .ref 1] gi_71 S (fun v G S2 => v = none ∧ G = gi_76 ∧ S2 = s_X0_init_7 S) := by
  refine gz_meet (L0 := [some (.ref 33), some (.ref 1)]) (by decide) rfl (Nat.le_of_ble_eq_true rfl) (by decide) ?_
  refine gk_aload_n dX0_init_0 rfl ?_
  refine gk_obj dX0_init_1 woX0_3 wo_i wo_c (Nat.le_of_ble_eq_true rfl) (Nat.le_of_ble_eq_true rfl) ?_
  refine gk_aload_n dX0_init_4 rfl ?_
  refine gk_bipush (v := 8) dX0_init_5 rfl ?_
  refine gk_newa (t := 0) (n := 8) dX0_init_7 (Nat.le_of_ble_eq_true rfl) rfl wa_int rfl (Nat.le_of_ble_eq_true rfl) (Nat.le_of_ble_eq_true rfl) (Nat.le_of_ble_eq_true rfl) rfl ?_
  refine gk_Geq (G2 := gi_72) rfl ?_
  refine gk_req (n := 34) rfl ?_
  refine gk_nmS (fun S1 (e1 : S1 = gz_u S 34 (fun _ => 0)) => ?_)
  refine gk_putr (G2 := gi_73) dX0_init_9 rfl rfl wfX0_9 wpX0_1 (fun _ => ⟨rfl, rfl⟩) rfl rfl rfl ?_
  refine gk_aload_n dX0_init_12 rfl ?_
  refine gk_bipush (v := 9) dX0_init_13 rfl ?_
  refine gk_newa (t := 0) (n := 9) dX0_init_15 (Nat.le_of_ble_eq_true rfl) rfl wa_int rfl (Nat.le_of_ble_eq_true rfl) (Nat.le_of_ble_eq_true rfl) (Nat.le_of_ble_eq_true rfl) rfl ?_
  refine gk_Geq (G2 := gi_74) rfl ?_
  refine gk_req (n := 35) rfl ?_
  refine gk_nmS (fun S2 (e2 : S2 = gz_u S1 35 (fun _ => 0)) => ?_)
  refine gk_putr (G2 := gi_75) dX0_init_17 rfl rfl wfX0_15 wpX0_2 (fun _ => ⟨rfl, rfl⟩) rfl rfl rfl ?_
  refine gk_aload_n dX0_init_20 rfl ?_
  refine gk_iconst (v := 0) dX0_init_21 rfl ?_
  refine gk_puti dX0_init_22 rfl rfl wfX0_18 wpX0_3 rfl rfl ?_
  refine gk_nmS (fun S3 (e3 : S3 = gz_st S2 33 3 0) => ?_)
  refine gk_aload_n dX0_init_25 rfl ?_
  refine gk_iconst (v := 0) dX0_init_26 rfl ?_
  refine gk_puti dX0_init_27 rfl rfl wfX0_22 wpX0_4 rfl rfl ?_
  refine gk_nmS (fun S4 (e4 : S4 = gz_st S3 33 4 0) => ?_)
  refine gk_aload_n dX0_init_30 rfl ?_
  refine gk_iconst (v := 0) dX0_init_31 rfl ?_
  refine gk_puti dX0_init_32 rfl rfl wfX0_25 wpX0_5 rfl rfl ?_
  refine gk_nmS (fun S5 (e5 : S5 = gz_st S4 33 5 0) => ?_)
  refine gk_aload_n dX0_init_35 rfl ?_
  refine gk_iconst (v := 0) dX0_init_36 rfl ?_
  refine gk_puti dX0_init_37 rfl rfl wfX0_28 wpX0_6 rfl rfl ?_
  refine gk_nmS (fun S6 (e6 : S6 = gz_st S5 33 6 0) => ?_)
  refine gk_aload_n dX0_init_40 rfl ?_
  refine gk_iconst (v := 0) dX0_init_41 rfl ?_
  refine gk_puti dX0_init_42 rfl rfl wfX0_31 wpX0_7 rfl rfl ?_
  refine gk_nmS (fun S7 (e7 : S7 = gz_st S6 33 7 0) => ?_)
  refine gk_aload_n dX0_init_45 rfl ?_
  refine gk_aload_n dX0_init_46 rfl ?_
  refine gk_putr (G2 := gi_76) dX0_init_47 rfl rfl wfX0_34 wpX0_0 (fun _ => ⟨rfl, rfl⟩) rfl rfl rfl ?_
  exact gk_vret dX0_init_50 rfl rfl rfl ⟨rfl, rfl, by rw [e7, e6, e5, e4, e3, e2, e1]; rfl⟩
def s_X5_init_8 (S : gz_S) : gz_S := (gz_st (gz_st (gz_u S 38 (fun _ => 0)) 37 1 0) 37 2 (-1))
set_option maxHeartbeats 4000000 in
set_option maxRecDepth 100000 in
theorem n_X5_init_8 {E : gz_E} {S : gz_S} : gz_m E mX5_init 2 1 60 [.ref 37] gi_80 S (fun v G S2 => v = none ∧ G = gi_82 ∧ S2 = s_X5_init_8 S) := by
  refine gz_meet (L0 := [some (.ref 37)]) (by decide) rfl (Nat.le_of_ble_eq_true rfl) (by decide) ?_
  refine gk_aload_n dX5_init_0 rfl ?_
  refine gk_obj dX5_init_1 woX5_3 wo_i wo_c (Nat.le_of_ble_eq_true rfl) (Nat.le_of_ble_eq_true rfl) ?_
  refine gk_aload_n dX5_init_4 rfl ?_
  refine gk_bipush (v := 60) dX5_init_5 rfl ?_
  refine gk_newa (t := 0) (n := 60) dX5_init_7 (Nat.le_of_ble_eq_true rfl) rfl wa_int rfl (Nat.le_of_ble_eq_true rfl) (Nat.le_of_ble_eq_true rfl) (Nat.le_of_ble_eq_true rfl) rfl ?_
  refine gk_Geq (G2 := gi_81) rfl ?_
  refine gk_req (n := 38) rfl ?_
  refine gk_nmS (fun S1 (e1 : S1 = gz_u S 38 (fun _ => 0)) => ?_)
  refine gk_putr (G2 := gi_82) dX5_init_9 rfl rfl wfX5_9 wpX5_0 (fun _ => ⟨rfl, rfl⟩) rfl rfl rfl ?_
  refine gk_aload_n dX5_init_12 rfl ?_
  refine gk_iconst (v := 0) dX5_init_13 rfl ?_
  refine gk_puti dX5_init_14 rfl rfl wfX5_15 wpX5_1 rfl rfl ?_
  refine gk_nmS (fun S2 (e2 : S2 = gz_st S1 37 1 0) => ?_)
  refine gk_aload_n dX5_init_17 rfl ?_
  refine gk_iconst (v := (-1)) dX5_init_18 rfl ?_
  refine gk_puti dX5_init_19 rfl rfl wfX5_19 wpX5_2 rfl rfl ?_
  refine gk_nmS (fun S3 (e3 : S3 = gz_st S2 37 2 (-1)) => ?_)
  exact gk_vret dX5_init_22 rfl rfl rfl ⟨rfl, rfl, by rw [e3, e2, e1]; rfl⟩
def s_X5_init_9 (S : gz_S) : gz_S := (gz_st (gz_st (gz_u S 40 (fun _ => 0)) 39 1 0) 39 2 (-1))
set_option maxHeartbeats 4000000 in
set_option maxRecDepth 100000 in
theorem n_X5_init_9 {E : gz_E} {S : gz_S} : gz_m E mX5_init 2 1 60 [.ref 39] gi_84 S (fun v G S2 => v = none ∧ G = gi_86 ∧ S2 = s_X5_init_9 S) := by
  refine gz_meet (L0 := [some (.ref 39)]) (by decide) rfl (Nat.le_of_ble_eq_true rfl) (by decide) ?_
  refine gk_aload_n dX5_init_0 rfl ?_
  refine gk_obj dX5_init_1 woX5_3 wo_i wo_c (Nat.le_of_ble_eq_true rfl) (Nat.le_of_ble_eq_true rfl) ?_
  refine gk_aload_n dX5_init_4 rfl ?_
  refine gk_bipush (v := 60) dX5_init_5 rfl ?_
  refine gk_newa (t := 0) (n := 60) dX5_init_7 (Nat.le_of_ble_eq_true rfl) rfl wa_int rfl (Nat.le_of_ble_eq_true rfl) (Nat.le_of_ble_eq_true rfl) (Nat.le_of_ble_eq_true rfl) rfl ?_
  refine gk_Geq (G2 := gi_85) rfl ?_
  refine gk_req (n := 40) rfl ?_
  refine gk_nmS (fun S1 (e1 : S1 = gz_u S 40 (fun _ => 0)) => ?_)
  refine gk_putr (G2 := gi_86) dX5_init_9 rfl rfl wfX5_9 wpX5_0 (fun _ => ⟨rfl, rfl⟩) rfl rfl rfl ?_
  refine gk_aload_n dX5_init_12 rfl ?_
  refine gk_iconst (v := 0) dX5_init_13 rfl ?_
  refine gk_puti dX5_init_14 rfl rfl wfX5_15 wpX5_1 rfl rfl ?_
  refine gk_nmS (fun S2 (e2 : S2 = gz_st S1 39 1 0) => ?_)
  refine gk_aload_n dX5_init_17 rfl ?_
  refine gk_iconst (v := (-1)) dX5_init_18 rfl ?_
  refine gk_puti dX5_init_19 rfl rfl wfX5_19 wpX5_2 rfl rfl ?_
  refine gk_nmS (fun S3 (e3 : S3 = gz_st S2 39 2 (-1)) => ?_)
  exact gk_vret dX5_init_22 rfl rfl rfl ⟨rfl, rfl, by rw [e3, e2, e1]; rfl⟩
def s_X5_init_10 (S : gz_S) : gz_S := (gz_st (gz_st (gz_u S 42 (fun _ => 0)) 41 1 0) 41 2 (-1))
set_option maxHeartbeats 4000000 in
set_option maxRecDepth 100000 in
theorem n_X5_init_10 {E : gz_E} {S : gz_S} : gz_m E mX5_init 2 1 60 [.ref 41] gi_88 S (fun v G S2 => v = none ∧ G = gi_90 ∧ S2 = s_X5_init_10 S) := by
  refine gz_meet (L0 := [some (.ref 41)]) (by decide) rfl (Nat.le_of_ble_eq_true rfl) (by decide) ?_
  refine gk_aload_n dX5_init_0 rfl ?_
  refine gk_obj dX5_init_1 woX5_3 wo_i wo_c (Nat.le_of_ble_eq_true rfl) (Nat.le_of_ble_eq_true rfl) ?_
  refine gk_aload_n dX5_init_4 rfl ?_
  refine gk_bipush (v := 60) dX5_init_5 rfl ?_
  refine gk_newa (t := 0) (n := 60) dX5_init_7 (Nat.le_of_ble_eq_true rfl) rfl wa_int rfl (Nat.le_of_ble_eq_true rfl) (Nat.le_of_ble_eq_true rfl) (Nat.le_of_ble_eq_true rfl) rfl ?_
  refine gk_Geq (G2 := gi_89) rfl ?_
  refine gk_req (n := 42) rfl ?_
  refine gk_nmS (fun S1 (e1 : S1 = gz_u S 42 (fun _ => 0)) => ?_)
  refine gk_putr (G2 := gi_90) dX5_init_9 rfl rfl wfX5_9 wpX5_0 (fun _ => ⟨rfl, rfl⟩) rfl rfl rfl ?_
  refine gk_aload_n dX5_init_12 rfl ?_
  refine gk_iconst (v := 0) dX5_init_13 rfl ?_
  refine gk_puti dX5_init_14 rfl rfl wfX5_15 wpX5_1 rfl rfl ?_
  refine gk_nmS (fun S2 (e2 : S2 = gz_st S1 41 1 0) => ?_)
  refine gk_aload_n dX5_init_17 rfl ?_
  refine gk_iconst (v := (-1)) dX5_init_18 rfl ?_
  refine gk_puti dX5_init_19 rfl rfl wfX5_19 wpX5_2 rfl rfl ?_
  refine gk_nmS (fun S3 (e3 : S3 = gz_st S2 41 2 (-1)) => ?_)
  exact gk_vret dX5_init_22 rfl rfl rfl ⟨rfl, rfl, by rw [e3, e2, e1]; rfl⟩
def s_X5_init_11 (S : gz_S) : gz_S := (gz_st (gz_st (gz_u S 44 (fun _ => 0)) 43 1 0) 43 2 (-1))
set_option maxHeartbeats 4000000 in
set_option maxRecDepth 100000 in
theorem n_X5_init_11 {E : gz_E} {S : gz_S} : gz_m E mX5_init 2 1 60 [.ref 43] gi_92 S (fun v G S2 => v = none ∧ G = gi_94 ∧ S2 = s_X5_init_11 S) := by
  refine gz_meet (L0 := [some (.ref 43)]) (by decide) rfl (Nat.le_of_ble_eq_true rfl) (by decide) ?_
  refine gk_aload_n dX5_init_0 rfl ?_
  refine gk_obj dX5_init_1 woX5_3 wo_i wo_c (Nat.le_of_ble_eq_true rfl) (Nat.le_of_ble_eq_true rfl) ?_
  refine gk_aload_n dX5_init_4 rfl ?_
  refine gk_bipush (v := 60) dX5_init_5 rfl ?_
  refine gk_newa (t := 0) (n := 60) dX5_init_7 (Nat.le_of_ble_eq_true rfl) rfl wa_int rfl (Nat.le_of_ble_eq_true rfl) (Nat.le_of_ble_eq_true rfl) (Nat.le_of_ble_eq_true rfl) rfl ?_
  refine gk_Geq (G2 := gi_93) rfl ?_
  refine gk_req (n := 44) rfl ?_
  refine gk_nmS (fun S1 (e1 : S1 = gz_u S 44 (fun _ => 0)) => ?_)
  refine gk_putr (G2 := gi_94) dX5_init_9 rfl rfl wfX5_9 wpX5_0 (fun _ => ⟨rfl, rfl⟩) rfl rfl rfl ?_
  refine gk_aload_n dX5_init_12 rfl ?_
  refine gk_iconst (v := 0) dX5_init_13 rfl ?_
  refine gk_puti dX5_init_14 rfl rfl wfX5_15 wpX5_1 rfl rfl ?_
  refine gk_nmS (fun S2 (e2 : S2 = gz_st S1 43 1 0) => ?_)
  refine gk_aload_n dX5_init_17 rfl ?_
  refine gk_iconst (v := (-1)) dX5_init_18 rfl ?_
  refine gk_puti dX5_init_19 rfl rfl wfX5_19 wpX5_2 rfl rfl ?_
  refine gk_nmS (fun S3 (e3 : S3 = gz_st S2 43 2 (-1)) => ?_)
  exact gk_vret dX5_init_22 rfl rfl rfl ⟨rfl, rfl, by rw [e3, e2, e1]; rfl⟩
def s_X7_init_12 (S : gz_S) : gz_S := (s_X5_init_11 (gz_u (s_X5_init_10 (gz_u (s_X5_init_9 (gz_u (s_X5_init_8 (gz_u (gz_st (gz_u (s_X0_init_7 (gz_u (s_X4_init_6 (gz_u (s_X2_init_5 (gz_u (s_X2_init_4 (gz_u (s_X1_init_3 (gz_u (s_X3_init_2 (gz_u S 1 (fun _ => 0))) 12 (fun _ => 0))) 16 (fun _ => 0))) 23 (fun _ => 0))) 30 (fun _ => 0))) 33 (fun _ => 0))) 36 (fun _ => 0)) 0 7 0) 37 (fun _ => 0))) 39 (fun _ => 0))) 41 (fun _ => 0))) 43 (fun _ => 0)))
set_option maxHeartbeats 4000000 in
set_option maxRecDepth 100000 in
theorem n_X7_init_12 {E : gz_E} {S : gz_S} : gz_m E mX7_init 4 44 1194 [.ref 0] gi_1 S (fun v G S2 => v = none ∧ G = gi_95 ∧ S2 = s_X7_init_12 S) := by
  refine gz_meet (L0 := [some (.ref 0), none]) (by decide) rfl (Nat.le_of_ble_eq_true rfl) (by decide) ?_
  refine gk_aload_n dX7_init_0 rfl ?_
  refine gk_obj dX7_init_1 woX7_1 wo_i wo_c (Nat.le_of_ble_eq_true rfl) (Nat.le_of_ble_eq_true rfl) ?_
  refine gk_aload_n dX7_init_4 rfl ?_
  refine gk_new (ci := 3) (fl := [some none, some none, some none, some none, none, none]) dX7_init_5 wnX7_7 (Nat.le_of_ble_eq_true rfl) (Nat.le_of_ble_eq_true rfl) rfl ?_
  refine gk_Geq (G2 := gi_2) rfl ?_
  refine gk_req (n := 1) rfl ?_
  refine gk_nmS (fun S1 (e1 : S1 = gz_u S 1 (fun _ => 0)) => ?_)
  refine gk_dup dX7_init_8 rfl ?_
  refine gk_callI (as := []) (rest := [_, _]) n_X3_init_2 dX7_init_9 wvX7_9 rfl rfl wcX3_init rfl (Nat.le_of_ble_eq_true rfl) ⟨(Nat.le_of_ble_eq_true rfl), (Nat.le_of_ble_eq_true rfl)⟩ (fun _ => rfl) (Nat.le_of_ble_eq_true rfl) rfl (fun v G2 S2 hq => ?_)
  obtain ⟨rfl, rfl, rfl⟩ := hq
  refine gk_nmS (fun S2 (e2 : S2 = s_X3_init_2 S1) => ?_)
  refine gk_putr (G2 := gi_23) dX7_init_12 rfl rfl wfX7_10 wpX7_0 (fun _ => ⟨rfl, rfl⟩) rfl rfl rfl ?_
  refine gk_aload_n dX7_init_15 rfl ?_
  refine gk_new (ci := 1) (fl := [some none, some none, some none, none]) dX7_init_16 wnX7_16 (Nat.le_of_ble_eq_true rfl) (Nat.le_of_ble_eq_true rfl) rfl ?_
  refine gk_Geq (G2 := gi_24) rfl ?_
  refine gk_req (n := 12) rfl ?_
  refine gk_nmS (fun S3 (e3 : S3 = gz_u S2 12 (fun _ => 0)) => ?_)
  refine gk_dup dX7_init_19 rfl ?_
  refine gk_callIN (as := []) (rest := [_, _]) n_X1_init_3 dX7_init_20 wvX7_18 rfl rfl wcX1_init rfl (Nat.le_of_ble_eq_true rfl) ⟨(Nat.le_of_ble_eq_true rfl), (Nat.le_of_ble_eq_true rfl)⟩ (fun _ => rfl) (Nat.le_of_ble_eq_true rfl) rfl (fun v G2 S2 hq => ?_)
  obtain ⟨rfl, rfl, rfl⟩ := hq
  refine gk_nmS (fun S4 (e4 : S4 = s_X1_init_3 S3) => ?_)
  refine gk_putr (G2 := gi_31) dX7_init_23 rfl rfl wfX7_19 wpX7_1 (fun _ => ⟨rfl, rfl⟩) rfl rfl rfl ?_
  refine gk_aload_n dX7_init_26 rfl ?_
  refine gk_new (ci := 2) (fl := [some none, some none, some none, some none, some none, some none, none, some none, some none, none]) dX7_init_27 wnX7_23 (Nat.le_of_ble_eq_true rfl) (Nat.le_of_ble_eq_true rfl) rfl ?_
  refine gk_Geq (G2 := gi_32) rfl ?_
  refine gk_req (n := 16) rfl ?_
  refine gk_nmS (fun S5 (e5 : S5 = gz_u S4 16 (fun _ => 0)) => ?_)
  refine gk_dup dX7_init_30 rfl ?_
  refine gk_aload_n dX7_init_31 rfl ?_
  refine gk_getr dX7_init_32 rfl rfl wfX7_10 ?_
  refine gk_aload_n dX7_init_35 rfl ?_
  refine gk_getr dX7_init_36 rfl rfl wfX7_19 ?_
  refine gk_callI (as := [_, _]) (rest := [_, _]) n_X2_init_4 dX7_init_39 wvX7_25 rfl rfl wcX2_init rfl (Nat.le_of_ble_eq_true rfl) ⟨(Nat.le_of_ble_eq_true rfl), (Nat.le_of_ble_eq_true rfl)⟩ (fun _ => rfl) (Nat.le_of_ble_eq_true rfl) rfl (fun v G2 S2 hq => ?_)
  obtain ⟨rfl, rfl, rfl⟩ := hq
  refine gk_nmS (fun S6 (e6 : S6 = s_X2_init_4 S5) => ?_)
  refine gk_putr (G2 := gi_47) dX7_init_42 rfl rfl wfX7_28 wpX7_2 (fun _ => ⟨rfl, rfl⟩) rfl rfl rfl ?_
  refine gk_aload_n dX7_init_45 rfl ?_
  refine gk_new (ci := 2) (fl := [some none, some none, some none, some none, some none, some none, none, some none, some none, none]) dX7_init_46 wnX7_23 (Nat.le_of_ble_eq_true rfl) (Nat.le_of_ble_eq_true rfl) rfl ?_
  refine gk_Geq (G2 := gi_48) rfl ?_
  refine gk_req (n := 23) rfl ?_
  refine gk_nmS (fun S7 (e7 : S7 = gz_u S6 23 (fun _ => 0)) => ?_)
  refine gk_dup dX7_init_49 rfl ?_
  refine gk_aload_n dX7_init_50 rfl ?_
  refine gk_getr dX7_init_51 rfl rfl wfX7_10 ?_
  refine gk_aload_n dX7_init_54 rfl ?_
  refine gk_getr dX7_init_55 rfl rfl wfX7_19 ?_
  refine gk_callI (as := [_, _]) (rest := [_, _]) n_X2_init_5 dX7_init_58 wvX7_25 rfl rfl wcX2_init rfl (Nat.le_of_ble_eq_true rfl) ⟨(Nat.le_of_ble_eq_true rfl), (Nat.le_of_ble_eq_true rfl)⟩ (fun _ => rfl) (Nat.le_of_ble_eq_true rfl) rfl (fun v G2 S2 hq => ?_)
  obtain ⟨rfl, rfl, rfl⟩ := hq
  refine gk_nmS (fun S8 (e8 : S8 = s_X2_init_5 S7) => ?_)
  refine gk_putr (G2 := gi_63) dX7_init_61 rfl rfl wfX7_32 wpX7_3 (fun _ => ⟨rfl, rfl⟩) rfl rfl rfl ?_
  refine gk_aload_n dX7_init_64 rfl ?_
  refine gk_new (ci := 4) (fl := [some none, some none, none, some none]) dX7_init_65 wnX7_35 (Nat.le_of_ble_eq_true rfl) (Nat.le_of_ble_eq_true rfl) rfl ?_
  refine gk_Geq (G2 := gi_64) rfl ?_
  refine gk_req (n := 30) rfl ?_
  refine gk_nmS (fun S9 (e9 : S9 = gz_u S8 30 (fun _ => 0)) => ?_)
  refine gk_dup dX7_init_68 rfl ?_
  refine gk_aload_n dX7_init_69 rfl ?_
  refine gk_getr dX7_init_70 rfl rfl wfX7_10 ?_
  refine gk_callI (as := [_]) (rest := [_, _]) n_X4_init_6 dX7_init_73 wvX7_37 rfl rfl wcX4_init rfl (Nat.le_of_ble_eq_true rfl) ⟨(Nat.le_of_ble_eq_true rfl), (Nat.le_of_ble_eq_true rfl)⟩ (fun _ => rfl) (Nat.le_of_ble_eq_true rfl) rfl (fun v G2 S2 hq => ?_)
  obtain ⟨rfl, rfl, rfl⟩ := hq
  refine gk_nmS (fun S10 (e10 : S10 = s_X4_init_6 S9) => ?_)
  refine gk_putr (G2 := gi_70) dX7_init_76 rfl rfl wfX7_40 wpX7_4 (fun _ => ⟨rfl, rfl⟩) rfl rfl rfl ?_
  refine gk_aload_n dX7_init_79 rfl ?_
  refine gk_new (ci := 0) (fl := [some none, some none, some none, none, none, none, none, none]) dX7_init_80 wnX7_44 (Nat.le_of_ble_eq_true rfl) (Nat.le_of_ble_eq_true rfl) rfl ?_
  refine gk_Geq (G2 := gi_71) rfl ?_
  refine gk_req (n := 33) rfl ?_
  refine gk_nmS (fun S11 (e11 : S11 = gz_u S10 33 (fun _ => 0)) => ?_)
  refine gk_dup dX7_init_83 rfl ?_
  refine gk_aload_n dX7_init_84 rfl ?_
  refine gk_getr dX7_init_85 rfl rfl wfX7_10 ?_
  refine gk_callI (as := [_]) (rest := [_, _]) n_X0_init_7 dX7_init_88 wvX7_46 rfl rfl wcX0_init rfl (Nat.le_of_ble_eq_true rfl) ⟨(Nat.le_of_ble_eq_true rfl), (Nat.le_of_ble_eq_true rfl)⟩ (fun _ => rfl) (Nat.le_of_ble_eq_true rfl) rfl (fun v G2 S2 hq => ?_)
  obtain ⟨rfl, rfl, rfl⟩ := hq
  refine gk_nmS (fun S12 (e12 : S12 = s_X0_init_7 S11) => ?_)
  refine gk_putr (G2 := gi_77) dX7_init_91 rfl rfl wfX7_47 wpX7_5 (fun _ => ⟨rfl, rfl⟩) rfl rfl rfl ?_
  refine gk_aload_n dX7_init_94 rfl ?_
  refine gk_iconst (v := 4) dX7_init_95 rfl ?_
  refine gk_newq (n := 4) dX7_init_96 wlX7_51 rfl (Nat.le_of_ble_eq_true rfl) (Nat.le_of_ble_eq_true rfl) (Nat.le_of_ble_eq_true rfl) rfl ?_
  refine gk_Geq (G2 := gi_78) rfl ?_
  refine gk_req (n := 36) rfl ?_
  refine gk_nmS (fun S13 (e13 : S13 = gz_u S12 36 (fun _ => 0)) => ?_)
  refine gk_putr (G2 := gi_79) dX7_init_99 rfl rfl wfX7_53 wpX7_6 (fun _ => ⟨rfl, rfl⟩) rfl rfl rfl ?_
  refine gk_aload_n dX7_init_102 rfl ?_
  refine gk_iconst (v := 0) dX7_init_103 rfl ?_
  refine gk_puti dX7_init_104 rfl rfl wfX7_57 wpX7_7 rfl rfl ?_
  refine gk_nmS (fun S14 (e14 : S14 = gz_st S13 0 7 0) => ?_)
  refine gk_iconst (v := 0) dX7_init_107 rfl ?_
  refine gk_istore_n dX7_init_108 (Nat.le_of_ble_eq_true rfl) rfl rfl ?_
  refine gk_iload_n dX7_init_109 rfl ?_
  refine gk_iconst (v := 4) dX7_init_110 rfl ?_
  refine gk_icmp_ge (tgt := 133) dX7_init_111 (by decide) (fun c => absurd c (by decide)) (fun _ => ?_)
  refine gk_aload_n dX7_init_114 rfl ?_
  refine gk_getr dX7_init_115 rfl rfl wfX7_53 ?_
  refine gk_iload_n dX7_init_118 rfl ?_
  refine gk_new (ci := 5) (fl := [some none, none, none]) dX7_init_119 wnX7_51 (Nat.le_of_ble_eq_true rfl) (Nat.le_of_ble_eq_true rfl) rfl ?_
  refine gk_Geq (G2 := gi_80) rfl ?_
  refine gk_req (n := 37) rfl ?_
  refine gk_nmS (fun S15 (e15 : S15 = gz_u S14 37 (fun _ => 0)) => ?_)
  refine gk_dup dX7_init_122 rfl ?_
  refine gk_callIN (as := []) (rest := [_, _, _]) n_X5_init_8 dX7_init_123 wvX7_61 rfl rfl wcX5_init rfl (Nat.le_of_ble_eq_true rfl) ⟨(Nat.le_of_ble_eq_true rfl), (Nat.le_of_ble_eq_true rfl)⟩ (fun _ => rfl) (Nat.le_of_ble_eq_true rfl) rfl (fun v G2 S2 hq => ?_)
  obtain ⟨rfl, rfl, rfl⟩ := hq
  refine gk_nmS (fun S16 (e16 : S16 = s_X5_init_8 S15) => ?_)
  refine gk_aastore (G2 := gi_83) dX7_init_126 rfl rfl rfl rfl (gz_in_lit (by decide)) rfl ?_
  refine gk_iinc (v := 1) dX7_init_127 rfl (Nat.le_of_ble_eq_true rfl) rfl (by decide) rfl ?_
  refine gk_goto (tgt := 109) dX7_init_130 (by decide) ?_
  refine gk_iload_n dX7_init_109 rfl ?_
  refine gk_iconst (v := 4) dX7_init_110 rfl ?_
  refine gk_icmp_ge (tgt := 133) dX7_init_111 (by decide) (fun c => absurd c (by decide)) (fun _ => ?_)
  refine gk_aload_n dX7_init_114 rfl ?_
  refine gk_getr dX7_init_115 rfl rfl wfX7_53 ?_
  refine gk_iload_n dX7_init_118 rfl ?_
  refine gk_new (ci := 5) (fl := [some none, none, none]) dX7_init_119 wnX7_51 (Nat.le_of_ble_eq_true rfl) (Nat.le_of_ble_eq_true rfl) rfl ?_
  refine gk_Geq (G2 := gi_84) rfl ?_
  refine gk_req (n := 39) rfl ?_
  refine gk_nmS (fun S17 (e17 : S17 = gz_u S16 39 (fun _ => 0)) => ?_)
  refine gk_dup dX7_init_122 rfl ?_
  refine gk_callIN (as := []) (rest := [_, _, _]) n_X5_init_9 dX7_init_123 wvX7_61 rfl rfl wcX5_init rfl (Nat.le_of_ble_eq_true rfl) ⟨(Nat.le_of_ble_eq_true rfl), (Nat.le_of_ble_eq_true rfl)⟩ (fun _ => rfl) (Nat.le_of_ble_eq_true rfl) rfl (fun v G2 S2 hq => ?_)
  obtain ⟨rfl, rfl, rfl⟩ := hq
  refine gk_nmS (fun S18 (e18 : S18 = s_X5_init_9 S17) => ?_)
  refine gk_aastore (G2 := gi_87) dX7_init_126 rfl rfl rfl rfl (gz_in_lit (by decide)) rfl ?_
  refine gk_iinc (v := 2) dX7_init_127 rfl (Nat.le_of_ble_eq_true rfl) rfl (by decide) rfl ?_
  refine gk_goto (tgt := 109) dX7_init_130 (by decide) ?_
  refine gk_iload_n dX7_init_109 rfl ?_
  refine gk_iconst (v := 4) dX7_init_110 rfl ?_
  refine gk_icmp_ge (tgt := 133) dX7_init_111 (by decide) (fun c => absurd c (by decide)) (fun _ => ?_)
  refine gk_aload_n dX7_init_114 rfl ?_
  refine gk_getr dX7_init_115 rfl rfl wfX7_53 ?_
  refine gk_iload_n dX7_init_118 rfl ?_
  refine gk_new (ci := 5) (fl := [some none, none, none]) dX7_init_119 wnX7_51 (Nat.le_of_ble_eq_true rfl) (Nat.le_of_ble_eq_true rfl) rfl ?_
  refine gk_Geq (G2 := gi_88) rfl ?_
  refine gk_req (n := 41) rfl ?_
  refine gk_nmS (fun S19 (e19 : S19 = gz_u S18 41 (fun _ => 0)) => ?_)
  refine gk_dup dX7_init_122 rfl ?_
  refine gk_callIN (as := []) (rest := [_, _, _]) n_X5_init_10 dX7_init_123 wvX7_61 rfl rfl wcX5_init rfl (Nat.le_of_ble_eq_true rfl) ⟨(Nat.le_of_ble_eq_true rfl), (Nat.le_of_ble_eq_true rfl)⟩ (fun _ => rfl) (Nat.le_of_ble_eq_true rfl) rfl (fun v G2 S2 hq => ?_)
  obtain ⟨rfl, rfl, rfl⟩ := hq
  refine gk_nmS (fun S20 (e20 : S20 = s_X5_init_10 S19) => ?_)
  refine gk_aastore (G2 := gi_91) dX7_init_126 rfl rfl rfl rfl (gz_in_lit (by decide)) rfl ?_
  refine gk_iinc (v := 3) dX7_init_127 rfl (Nat.le_of_ble_eq_true rfl) rfl (by decide) rfl ?_
  refine gk_goto (tgt := 109) dX7_init_130 (by decide) ?_
  refine gk_iload_n dX7_init_109 rfl ?_
  refine gk_iconst (v := 4) dX7_init_110 rfl ?_
  refine gk_icmp_ge (tgt := 133) dX7_init_111 (by decide) (fun c => absurd c (by decide)) (fun _ => ?_)
  refine gk_aload_n dX7_init_114 rfl ?_
  refine gk_getr dX7_init_115 rfl rfl wfX7_53 ?_
  refine gk_iload_n dX7_init_118 rfl ?_
  refine gk_new (ci := 5) (fl := [some none, none, none]) dX7_init_119 wnX7_51 (Nat.le_of_ble_eq_true rfl) (Nat.le_of_ble_eq_true rfl) rfl ?_
  refine gk_Geq (G2 := gi_92) rfl ?_
  refine gk_req (n := 43) rfl ?_
  refine gk_nmS (fun S21 (e21 : S21 = gz_u S20 43 (fun _ => 0)) => ?_)
  refine gk_dup dX7_init_122 rfl ?_
  refine gk_callIN (as := []) (rest := [_, _, _]) n_X5_init_11 dX7_init_123 wvX7_61 rfl rfl wcX5_init rfl (Nat.le_of_ble_eq_true rfl) ⟨(Nat.le_of_ble_eq_true rfl), (Nat.le_of_ble_eq_true rfl)⟩ (fun _ => rfl) (Nat.le_of_ble_eq_true rfl) rfl (fun v G2 S2 hq => ?_)
  obtain ⟨rfl, rfl, rfl⟩ := hq
  refine gk_nmS (fun S22 (e22 : S22 = s_X5_init_11 S21) => ?_)
  refine gk_aastore (G2 := gi_95) dX7_init_126 rfl rfl rfl rfl (gz_in_lit (by decide)) rfl ?_
  refine gk_iinc (v := 4) dX7_init_127 rfl (Nat.le_of_ble_eq_true rfl) rfl (by decide) rfl ?_
  refine gk_goto (tgt := 109) dX7_init_130 (by decide) ?_
  refine gk_iload_n dX7_init_109 rfl ?_
  refine gk_iconst (v := 4) dX7_init_110 rfl ?_
  refine gk_icmp_ge (tgt := 133) dX7_init_111 (by decide) (fun _ => ?_) (fun c => absurd (by decide) c)
  exact gk_vret dX7_init_133 rfl rfl rfl ⟨rfl, rfl, by rw [e22, e21, e20, e19, e18, e17, e16, e15, e14, e13, e12, e11, e10, e9, e8, e7, e6, e5, e4, e3, e2, e1]; rfl⟩
def s_X8_init_13 (S : gz_S) : gz_S := (gz_st (gz_st (gz_st (gz_st (gz_st (gz_st (gz_st (gz_st (gz_st (gz_st (gz_st (gz_st (gz_st (gz_st (gz_u (gz_u (gz_u (gz_u (gz_u (gz_u (gz_u (gz_u (gz_u (gz_u (gz_u (gz_u (gz_u (gz_u (gz_u (gz_u (gz_u (gz_u (gz_u (gz_u (gz_u (gz_u (gz_u (gz_u (gz_u (gz_u (gz_u S 46 (fun _ => 0)) 47 (fun _ => 0)) 48 (fun _ => 0)) 49 (fun _ => 0)) 50 (fun _ => 0)) 51 (fun _ => 0)) 52 (fun _ => 0)) 53 (fun _ => 0)) 54 (fun _ => 0)) 55 (fun _ => 0)) 56 (fun _ => 0)) 57 (fun _ => 0)) 58 (fun _ => 0)) 59 (fun _ => 0)) 60 (fun _ => 0)) 61 (fun _ => 0)) 62 (fun _ => 0)) 63 (fun _ => 0)) 64 (fun _ => 0)) 65 (fun _ => 0)) 66 (fun _ => 0)) 67 (fun _ => 0)) 68 (fun _ => 0)) 69 (fun _ => 0)) 70 (fun _ => 0)) 71 (fun _ => 0)) 72 (fun _ => 0)) 46 0 (-1)) 46 1 (-1)) 46 2 (-1)) 46 3 (-1)) 58 0 1) 58 1 1) 58 2 1) 58 3 1) 58 4 1) 58 5 1) 58 6 1) 58 7 1) 56 0 12) 56 1 99)
set_option maxHeartbeats 4000000 in
set_option maxRecDepth 100000 in
theorem n_X8_init_13 {E : gz_E} {S : gz_S} : gz_m E mX8_init 2 27 1650 [.ref 45] gi_96 S (fun v G S2 => v = none ∧ G = gi_150 ∧ S2 = s_X8_init_13 S) := by
  refine gz_meet (L0 := [some (.ref 45), none]) (by decide) rfl (Nat.le_of_ble_eq_true rfl) (by decide) ?_
  refine gk_aload_n dX8_init_0 rfl ?_
  refine gk_obj dX8_init_1 woX8_1 wo_i wo_c (Nat.le_of_ble_eq_true rfl) (Nat.le_of_ble_eq_true rfl) ?_
  refine gk_aload_n dX8_init_4 rfl ?_
  refine gk_iconst (v := 4) dX8_init_5 rfl ?_
  refine gk_newa (t := 0) (n := 4) dX8_init_6 (Nat.le_of_ble_eq_true rfl) rfl wa_int rfl (Nat.le_of_ble_eq_true rfl) (Nat.le_of_ble_eq_true rfl) (Nat.le_of_ble_eq_true rfl) rfl ?_
  refine gk_Geq (G2 := gi_97) rfl ?_
  refine gk_req (n := 46) rfl ?_
  refine gk_nmS (fun S1 (e1 : S1 = gz_u S 46 (fun _ => 0)) => ?_)
  refine gk_putr (G2 := gi_98) dX8_init_8 rfl rfl wfX8_7 wpX8_0 (fun _ => ⟨rfl, rfl⟩) rfl rfl rfl ?_
  refine gk_aload_n dX8_init_11 rfl ?_
  refine gk_iconst (v := 4) dX8_init_12 rfl ?_
  refine gk_newa (t := 0) (n := 4) dX8_init_13 (Nat.le_of_ble_eq_true rfl) rfl wa_int rfl (Nat.le_of_ble_eq_true rfl) (Nat.le_of_ble_eq_true rfl) (Nat.le_of_ble_eq_true rfl) rfl ?_
  refine gk_Geq (G2 := gi_99) rfl ?_
  refine gk_req (n := 47) rfl ?_
  refine gk_nmS (fun S2 (e2 : S2 = gz_u S1 47 (fun _ => 0)) => ?_)
  refine gk_putr (G2 := gi_100) dX8_init_15 rfl rfl wfX8_13 wpX8_1 (fun _ => ⟨rfl, rfl⟩) rfl rfl rfl ?_
  refine gk_aload_n dX8_init_18 rfl ?_
  refine gk_sipush (v := 240) dX8_init_19 rfl ?_
  refine gk_newa (t := 0) (n := 240) dX8_init_22 (Nat.le_of_ble_eq_true rfl) rfl wa_int rfl (Nat.le_of_ble_eq_true rfl) (Nat.le_of_ble_eq_true rfl) (Nat.le_of_ble_eq_true rfl) rfl ?_
  refine gk_Geq (G2 := gi_101) rfl ?_
  refine gk_req (n := 48) rfl ?_
  refine gk_nmS (fun S3 (e3 : S3 = gz_u S2 48 (fun _ => 0)) => ?_)
  refine gk_putr (G2 := gi_102) dX8_init_24 rfl rfl wfX8_16 wpX8_2 (fun _ => ⟨rfl, rfl⟩) rfl rfl rfl ?_
  refine gk_aload_n dX8_init_27 rfl ?_
  refine gk_bipush (v := 60) dX8_init_28 rfl ?_
  refine gk_newa (t := 0) (n := 60) dX8_init_30 (Nat.le_of_ble_eq_true rfl) rfl wa_int rfl (Nat.le_of_ble_eq_true rfl) (Nat.le_of_ble_eq_true rfl) (Nat.le_of_ble_eq_true rfl) rfl ?_
  refine gk_Geq (G2 := gi_103) rfl ?_
  refine gk_req (n := 49) rfl ?_
  refine gk_nmS (fun S4 (e4 : S4 = gz_u S3 49 (fun _ => 0)) => ?_)
  refine gk_putr (G2 := gi_104) dX8_init_32 rfl rfl wfX8_19 wpX8_3 (fun _ => ⟨rfl, rfl⟩) rfl rfl rfl ?_
  refine gk_aload_n dX8_init_35 rfl ?_
  refine gk_bipush (v := 36) dX8_init_36 rfl ?_
  refine gk_newa (t := 0) (n := 36) dX8_init_38 (Nat.le_of_ble_eq_true rfl) rfl wa_int rfl (Nat.le_of_ble_eq_true rfl) (Nat.le_of_ble_eq_true rfl) (Nat.le_of_ble_eq_true rfl) rfl ?_
  refine gk_Geq (G2 := gi_105) rfl ?_
  refine gk_req (n := 50) rfl ?_
  refine gk_nmS (fun S5 (e5 : S5 = gz_u S4 50 (fun _ => 0)) => ?_)
  refine gk_putr (G2 := gi_106) dX8_init_40 rfl rfl wfX8_22 wpX8_5 (fun _ => ⟨rfl, rfl⟩) rfl rfl rfl ?_
  refine gk_aload_n dX8_init_43 rfl ?_
  refine gk_iconst (v := 2) dX8_init_44 rfl ?_
  refine gk_newa (t := 0) (n := 2) dX8_init_45 (Nat.le_of_ble_eq_true rfl) rfl wa_int rfl (Nat.le_of_ble_eq_true rfl) (Nat.le_of_ble_eq_true rfl) (Nat.le_of_ble_eq_true rfl) rfl ?_
  refine gk_Geq (G2 := gi_107) rfl ?_
  refine gk_req (n := 51) rfl ?_
  refine gk_nmS (fun S6 (e6 : S6 = gz_u S5 51 (fun _ => 0)) => ?_)
  refine gk_putr (G2 := gi_108) dX8_init_47 rfl rfl wfX8_25 wpX8_6 (fun _ => ⟨rfl, rfl⟩) rfl rfl rfl ?_
  refine gk_aload_n dX8_init_50 rfl ?_
  refine gk_bipush (v := 8) dX8_init_51 rfl ?_
  refine gk_newa (t := 0) (n := 8) dX8_init_53 (Nat.le_of_ble_eq_true rfl) rfl wa_int rfl (Nat.le_of_ble_eq_true rfl) (Nat.le_of_ble_eq_true rfl) (Nat.le_of_ble_eq_true rfl) rfl ?_
  refine gk_Geq (G2 := gi_109) rfl ?_
  refine gk_req (n := 52) rfl ?_
  refine gk_nmS (fun S7 (e7 : S7 = gz_u S6 52 (fun _ => 0)) => ?_)
  refine gk_putr (G2 := gi_110) dX8_init_55 rfl rfl wfX8_28 wpX8_8 (fun _ => ⟨rfl, rfl⟩) rfl rfl rfl ?_
  refine gk_aload_n dX8_init_58 rfl ?_
  refine gk_bipush (v := 8) dX8_init_59 rfl ?_
  refine gk_newa (t := 0) (n := 8) dX8_init_61 (Nat.le_of_ble_eq_true rfl) rfl wa_int rfl (Nat.le_of_ble_eq_true rfl) (Nat.le_of_ble_eq_true rfl) (Nat.le_of_ble_eq_true rfl) rfl ?_
  refine gk_Geq (G2 := gi_111) rfl ?_
  refine gk_req (n := 53) rfl ?_
  refine gk_nmS (fun S8 (e8 : S8 = gz_u S7 53 (fun _ => 0)) => ?_)
  refine gk_putr (G2 := gi_112) dX8_init_63 rfl rfl wfX8_31 wpX8_9 (fun _ => ⟨rfl, rfl⟩) rfl rfl rfl ?_
  refine gk_aload_n dX8_init_66 rfl ?_
  refine gk_bipush (v := 9) dX8_init_67 rfl ?_
  refine gk_newa (t := 0) (n := 9) dX8_init_69 (Nat.le_of_ble_eq_true rfl) rfl wa_int rfl (Nat.le_of_ble_eq_true rfl) (Nat.le_of_ble_eq_true rfl) (Nat.le_of_ble_eq_true rfl) rfl ?_
  refine gk_Geq (G2 := gi_113) rfl ?_
  refine gk_req (n := 54) rfl ?_
  refine gk_nmS (fun S9 (e9 : S9 = gz_u S8 54 (fun _ => 0)) => ?_)
  refine gk_putr (G2 := gi_114) dX8_init_71 rfl rfl wfX8_34 wpX8_11 (fun _ => ⟨rfl, rfl⟩) rfl rfl rfl ?_
  refine gk_aload_n dX8_init_74 rfl ?_
  refine gk_bipush (v := 9) dX8_init_75 rfl ?_
  refine gk_newa (t := 0) (n := 9) dX8_init_77 (Nat.le_of_ble_eq_true rfl) rfl wa_int rfl (Nat.le_of_ble_eq_true rfl) (Nat.le_of_ble_eq_true rfl) (Nat.le_of_ble_eq_true rfl) rfl ?_
  refine gk_Geq (G2 := gi_115) rfl ?_
  refine gk_req (n := 55) rfl ?_
  refine gk_nmS (fun S10 (e10 : S10 = gz_u S9 55 (fun _ => 0)) => ?_)
  refine gk_putr (G2 := gi_116) dX8_init_79 rfl rfl wfX8_37 wpX8_12 (fun _ => ⟨rfl, rfl⟩) rfl rfl rfl ?_
  refine gk_aload_n dX8_init_82 rfl ?_
  refine gk_iconst (v := 2) dX8_init_83 rfl ?_
  refine gk_newa (t := 0) (n := 2) dX8_init_84 (Nat.le_of_ble_eq_true rfl) rfl wa_int rfl (Nat.le_of_ble_eq_true rfl) (Nat.le_of_ble_eq_true rfl) (Nat.le_of_ble_eq_true rfl) rfl ?_
  refine gk_Geq (G2 := gi_117) rfl ?_
  refine gk_req (n := 56) rfl ?_
  refine gk_nmS (fun S11 (e11 : S11 = gz_u S10 56 (fun _ => 0)) => ?_)
  refine gk_putr (G2 := gi_118) dX8_init_86 rfl rfl wfX8_40 wpX8_13 (fun _ => ⟨rfl, rfl⟩) rfl rfl rfl ?_
  refine gk_aload_n dX8_init_89 rfl ?_
  refine gk_bipush (v := 25) dX8_init_90 rfl ?_
  refine gk_newa (t := 0) (n := 25) dX8_init_92 (Nat.le_of_ble_eq_true rfl) rfl wa_int rfl (Nat.le_of_ble_eq_true rfl) (Nat.le_of_ble_eq_true rfl) (Nat.le_of_ble_eq_true rfl) rfl ?_
  refine gk_Geq (G2 := gi_119) rfl ?_
  refine gk_req (n := 57) rfl ?_
  refine gk_nmS (fun S12 (e12 : S12 = gz_u S11 57 (fun _ => 0)) => ?_)
  refine gk_putr (G2 := gi_120) dX8_init_94 rfl rfl wfX8_43 wpX8_14 (fun _ => ⟨rfl, rfl⟩) rfl rfl rfl ?_
  refine gk_aload_n dX8_init_97 rfl ?_
  refine gk_bipush (v := 8) dX8_init_98 rfl ?_
  refine gk_newa (t := 0) (n := 8) dX8_init_100 (Nat.le_of_ble_eq_true rfl) rfl wa_int rfl (Nat.le_of_ble_eq_true rfl) (Nat.le_of_ble_eq_true rfl) (Nat.le_of_ble_eq_true rfl) rfl ?_
  refine gk_Geq (G2 := gi_121) rfl ?_
  refine gk_req (n := 58) rfl ?_
  refine gk_nmS (fun S13 (e13 : S13 = gz_u S12 58 (fun _ => 0)) => ?_)
  refine gk_putr (G2 := gi_122) dX8_init_102 rfl rfl wfX8_46 wpX8_15 (fun _ => ⟨rfl, rfl⟩) rfl rfl rfl ?_
  refine gk_aload_n dX8_init_105 rfl ?_
  refine gk_bipush (v := 90) dX8_init_106 rfl ?_
  refine gk_newa (t := 0) (n := 90) dX8_init_108 (Nat.le_of_ble_eq_true rfl) rfl wa_int rfl (Nat.le_of_ble_eq_true rfl) (Nat.le_of_ble_eq_true rfl) (Nat.le_of_ble_eq_true rfl) rfl ?_
  refine gk_Geq (G2 := gi_123) rfl ?_
  refine gk_req (n := 59) rfl ?_
  refine gk_nmS (fun S14 (e14 : S14 = gz_u S13 59 (fun _ => 0)) => ?_)
  refine gk_putr (G2 := gi_124) dX8_init_110 rfl rfl wfX8_49 wpX8_17 (fun _ => ⟨rfl, rfl⟩) rfl rfl rfl ?_
  refine gk_aload_n dX8_init_113 rfl ?_
  refine gk_bipush (v := 30) dX8_init_114 rfl ?_
  refine gk_newa (t := 0) (n := 30) dX8_init_116 (Nat.le_of_ble_eq_true rfl) rfl wa_int rfl (Nat.le_of_ble_eq_true rfl) (Nat.le_of_ble_eq_true rfl) (Nat.le_of_ble_eq_true rfl) rfl ?_
  refine gk_Geq (G2 := gi_125) rfl ?_
  refine gk_req (n := 60) rfl ?_
  refine gk_nmS (fun S15 (e15 : S15 = gz_u S14 60 (fun _ => 0)) => ?_)
  refine gk_putr (G2 := gi_126) dX8_init_118 rfl rfl wfX8_52 wpX8_18 (fun _ => ⟨rfl, rfl⟩) rfl rfl rfl ?_
  refine gk_aload_n dX8_init_121 rfl ?_
  refine gk_bipush (v := 8) dX8_init_122 rfl ?_
  refine gk_newa (t := 0) (n := 8) dX8_init_124 (Nat.le_of_ble_eq_true rfl) rfl wa_int rfl (Nat.le_of_ble_eq_true rfl) (Nat.le_of_ble_eq_true rfl) (Nat.le_of_ble_eq_true rfl) rfl ?_
  refine gk_Geq (G2 := gi_127) rfl ?_
  refine gk_req (n := 61) rfl ?_
  refine gk_nmS (fun S16 (e16 : S16 = gz_u S15 61 (fun _ => 0)) => ?_)
  refine gk_putr (G2 := gi_128) dX8_init_126 rfl rfl wfX8_55 wpX8_19 (fun _ => ⟨rfl, rfl⟩) rfl rfl rfl ?_
  refine gk_aload_n dX8_init_129 rfl ?_
  refine gk_bipush (v := 9) dX8_init_130 rfl ?_
  refine gk_newa (t := 0) (n := 9) dX8_init_132 (Nat.le_of_ble_eq_true rfl) rfl wa_int rfl (Nat.le_of_ble_eq_true rfl) (Nat.le_of_ble_eq_true rfl) (Nat.le_of_ble_eq_true rfl) rfl ?_
  refine gk_Geq (G2 := gi_129) rfl ?_
  refine gk_req (n := 62) rfl ?_
  refine gk_nmS (fun S17 (e17 : S17 = gz_u S16 62 (fun _ => 0)) => ?_)
  refine gk_putr (G2 := gi_130) dX8_init_134 rfl rfl wfX8_58 wpX8_20 (fun _ => ⟨rfl, rfl⟩) rfl rfl rfl ?_
  refine gk_aload_n dX8_init_137 rfl ?_
  refine gk_bipush (v := 12) dX8_init_138 rfl ?_
  refine gk_newa (t := 0) (n := 12) dX8_init_140 (Nat.le_of_ble_eq_true rfl) rfl wa_int rfl (Nat.le_of_ble_eq_true rfl) (Nat.le_of_ble_eq_true rfl) (Nat.le_of_ble_eq_true rfl) rfl ?_
  refine gk_Geq (G2 := gi_131) rfl ?_
  refine gk_req (n := 63) rfl ?_
  refine gk_nmS (fun S18 (e18 : S18 = gz_u S17 63 (fun _ => 0)) => ?_)
  refine gk_putr (G2 := gi_132) dX8_init_142 rfl rfl wfX8_61 wpX8_23 (fun _ => ⟨rfl, rfl⟩) rfl rfl rfl ?_
  refine gk_aload_n dX8_init_145 rfl ?_
  refine gk_bipush (v := 30) dX8_init_146 rfl ?_
  refine gk_newa (t := 1) (n := 30) dX8_init_148 (Nat.le_of_ble_eq_true rfl) rfl wa_boolean rfl (Nat.le_of_ble_eq_true rfl) (Nat.le_of_ble_eq_true rfl) (Nat.le_of_ble_eq_true rfl) rfl ?_
  refine gk_Geq (G2 := gi_133) rfl ?_
  refine gk_req (n := 64) rfl ?_
  refine gk_nmS (fun S19 (e19 : S19 = gz_u S18 64 (fun _ => 0)) => ?_)
  refine gk_putr (G2 := gi_134) dX8_init_150 rfl rfl wfX8_64 wpX8_24 (fun _ => ⟨rfl, rfl⟩) rfl rfl rfl ?_
  refine gk_aload_n dX8_init_153 rfl ?_
  refine gk_sipush (v := 512) dX8_init_154 rfl ?_
  refine gk_newa (t := 1) (n := 512) dX8_init_157 (Nat.le_of_ble_eq_true rfl) rfl wa_boolean rfl (Nat.le_of_ble_eq_true rfl) (Nat.le_of_ble_eq_true rfl) (Nat.le_of_ble_eq_true rfl) rfl ?_
  refine gk_Geq (G2 := gi_135) rfl ?_
  refine gk_req (n := 65) rfl ?_
  refine gk_nmS (fun S20 (e20 : S20 = gz_u S19 65 (fun _ => 0)) => ?_)
  refine gk_putr (G2 := gi_136) dX8_init_159 rfl rfl wfX8_68 wpX8_26 (fun _ => ⟨rfl, rfl⟩) rfl rfl rfl ?_
  refine gk_aload_n dX8_init_162 rfl ?_
  refine gk_sipush (v := 512) dX8_init_163 rfl ?_
  refine gk_newa (t := 1) (n := 512) dX8_init_166 (Nat.le_of_ble_eq_true rfl) rfl wa_boolean rfl (Nat.le_of_ble_eq_true rfl) (Nat.le_of_ble_eq_true rfl) (Nat.le_of_ble_eq_true rfl) rfl ?_
  refine gk_Geq (G2 := gi_137) rfl ?_
  refine gk_req (n := 66) rfl ?_
  refine gk_nmS (fun S21 (e21 : S21 = gz_u S20 66 (fun _ => 0)) => ?_)
  refine gk_putr (G2 := gi_138) dX8_init_168 rfl rfl wfX8_71 wpX8_27 (fun _ => ⟨rfl, rfl⟩) rfl rfl rfl ?_
  refine gk_aload_n dX8_init_171 rfl ?_
  refine gk_bipush (v := 6) dX8_init_172 rfl ?_
  refine gk_newa (t := 0) (n := 6) dX8_init_174 (Nat.le_of_ble_eq_true rfl) rfl wa_int rfl (Nat.le_of_ble_eq_true rfl) (Nat.le_of_ble_eq_true rfl) (Nat.le_of_ble_eq_true rfl) rfl ?_
  refine gk_Geq (G2 := gi_139) rfl ?_
  refine gk_req (n := 67) rfl ?_
  refine gk_nmS (fun S22 (e22 : S22 = gz_u S21 67 (fun _ => 0)) => ?_)
  refine gk_putr (G2 := gi_140) dX8_init_176 rfl rfl wfX8_74 wpX8_28 (fun _ => ⟨rfl, rfl⟩) rfl rfl rfl ?_
  refine gk_aload_n dX8_init_179 rfl ?_
  refine gk_bipush (v := 6) dX8_init_180 rfl ?_
  refine gk_newa (t := 0) (n := 6) dX8_init_182 (Nat.le_of_ble_eq_true rfl) rfl wa_int rfl (Nat.le_of_ble_eq_true rfl) (Nat.le_of_ble_eq_true rfl) (Nat.le_of_ble_eq_true rfl) rfl ?_
  refine gk_Geq (G2 := gi_141) rfl ?_
  refine gk_req (n := 68) rfl ?_
  refine gk_nmS (fun S23 (e23 : S23 = gz_u S22 68 (fun _ => 0)) => ?_)
  refine gk_putr (G2 := gi_142) dX8_init_184 rfl rfl wfX8_77 wpX8_29 (fun _ => ⟨rfl, rfl⟩) rfl rfl rfl ?_
  refine gk_aload_n dX8_init_187 rfl ?_
  refine gk_bipush (v := 6) dX8_init_188 rfl ?_
  refine gk_newa (t := 0) (n := 6) dX8_init_190 (Nat.le_of_ble_eq_true rfl) rfl wa_int rfl (Nat.le_of_ble_eq_true rfl) (Nat.le_of_ble_eq_true rfl) (Nat.le_of_ble_eq_true rfl) rfl ?_
  refine gk_Geq (G2 := gi_143) rfl ?_
  refine gk_req (n := 69) rfl ?_
  refine gk_nmS (fun S24 (e24 : S24 = gz_u S23 69 (fun _ => 0)) => ?_)
  refine gk_putr (G2 := gi_144) dX8_init_192 rfl rfl wfX8_80 wpX8_30 (fun _ => ⟨rfl, rfl⟩) rfl rfl rfl ?_
  refine gk_aload_n dX8_init_195 rfl ?_
  refine gk_bipush (v := 6) dX8_init_196 rfl ?_
  refine gk_newa (t := 0) (n := 6) dX8_init_198 (Nat.le_of_ble_eq_true rfl) rfl wa_int rfl (Nat.le_of_ble_eq_true rfl) (Nat.le_of_ble_eq_true rfl) (Nat.le_of_ble_eq_true rfl) rfl ?_
  refine gk_Geq (G2 := gi_145) rfl ?_
  refine gk_req (n := 70) rfl ?_
  refine gk_nmS (fun S25 (e25 : S25 = gz_u S24 70 (fun _ => 0)) => ?_)
  refine gk_putr (G2 := gi_146) dX8_init_200 rfl rfl wfX8_83 wpX8_31 (fun _ => ⟨rfl, rfl⟩) rfl rfl rfl ?_
  refine gk_aload_n dX8_init_203 rfl ?_
  refine gk_bipush (v := 6) dX8_init_204 rfl ?_
  refine gk_newa (t := 1) (n := 6) dX8_init_206 (Nat.le_of_ble_eq_true rfl) rfl wa_boolean rfl (Nat.le_of_ble_eq_true rfl) (Nat.le_of_ble_eq_true rfl) (Nat.le_of_ble_eq_true rfl) rfl ?_
  refine gk_Geq (G2 := gi_147) rfl ?_
  refine gk_req (n := 71) rfl ?_
  refine gk_nmS (fun S26 (e26 : S26 = gz_u S25 71 (fun _ => 0)) => ?_)
  refine gk_putr (G2 := gi_148) dX8_init_208 rfl rfl wfX8_86 wpX8_32 (fun _ => ⟨rfl, rfl⟩) rfl rfl rfl ?_
  refine gk_aload_n dX8_init_211 rfl ?_
  refine gk_iconst (v := 2) dX8_init_212 rfl ?_
  refine gk_newa (t := 0) (n := 2) dX8_init_213 (Nat.le_of_ble_eq_true rfl) rfl wa_int rfl (Nat.le_of_ble_eq_true rfl) (Nat.le_of_ble_eq_true rfl) (Nat.le_of_ble_eq_true rfl) rfl ?_
  refine gk_Geq (G2 := gi_149) rfl ?_
  refine gk_req (n := 72) rfl ?_
  refine gk_nmS (fun S27 (e27 : S27 = gz_u S26 72 (fun _ => 0)) => ?_)
  refine gk_putr (G2 := gi_150) dX8_init_215 rfl rfl wfX8_89 wpX8_33 (fun _ => ⟨rfl, rfl⟩) rfl rfl rfl ?_
  refine gk_iconst (v := 0) dX8_init_218 rfl ?_
  refine gk_istore_n dX8_init_219 (Nat.le_of_ble_eq_true rfl) rfl rfl ?_
  refine gk_iload_n dX8_init_220 rfl ?_
  refine gk_iconst (v := 4) dX8_init_221 rfl ?_
  refine gk_icmp_ge (tgt := 238) dX8_init_222 (by decide) (fun c => absurd c (by decide)) (fun _ => ?_)
  refine gk_aload_n dX8_init_225 rfl ?_
  refine gk_getr dX8_init_226 rfl rfl wfX8_7 ?_
  refine gk_iload_n dX8_init_229 rfl ?_
  refine gk_iconst (v := (-1)) dX8_init_230 rfl ?_
  refine gk_iastore dX8_init_231 rfl (gz_in_lit (by decide)) ?_
  refine gk_nmS (fun S28 (e28 : S28 = gz_st S27 46 0 (-1)) => ?_)
  refine gk_iinc (v := 1) dX8_init_232 rfl (Nat.le_of_ble_eq_true rfl) rfl (by decide) rfl ?_
  refine gk_goto (tgt := 220) dX8_init_235 (by decide) ?_
  refine gk_iload_n dX8_init_220 rfl ?_
  refine gk_iconst (v := 4) dX8_init_221 rfl ?_
  refine gk_icmp_ge (tgt := 238) dX8_init_222 (by decide) (fun c => absurd c (by decide)) (fun _ => ?_)
  refine gk_aload_n dX8_init_225 rfl ?_
  refine gk_getr dX8_init_226 rfl rfl wfX8_7 ?_
  refine gk_iload_n dX8_init_229 rfl ?_
  refine gk_iconst (v := (-1)) dX8_init_230 rfl ?_
  refine gk_iastore dX8_init_231 rfl (gz_in_lit (by decide)) ?_
  refine gk_nmS (fun S29 (e29 : S29 = gz_st S28 46 1 (-1)) => ?_)
  refine gk_iinc (v := 2) dX8_init_232 rfl (Nat.le_of_ble_eq_true rfl) rfl (by decide) rfl ?_
  refine gk_goto (tgt := 220) dX8_init_235 (by decide) ?_
  refine gk_iload_n dX8_init_220 rfl ?_
  refine gk_iconst (v := 4) dX8_init_221 rfl ?_
  refine gk_icmp_ge (tgt := 238) dX8_init_222 (by decide) (fun c => absurd c (by decide)) (fun _ => ?_)
  refine gk_aload_n dX8_init_225 rfl ?_
  refine gk_getr dX8_init_226 rfl rfl wfX8_7 ?_
  refine gk_iload_n dX8_init_229 rfl ?_
  refine gk_iconst (v := (-1)) dX8_init_230 rfl ?_
  refine gk_iastore dX8_init_231 rfl (gz_in_lit (by decide)) ?_
  refine gk_nmS (fun S30 (e30 : S30 = gz_st S29 46 2 (-1)) => ?_)
  refine gk_iinc (v := 3) dX8_init_232 rfl (Nat.le_of_ble_eq_true rfl) rfl (by decide) rfl ?_
  refine gk_goto (tgt := 220) dX8_init_235 (by decide) ?_
  refine gk_iload_n dX8_init_220 rfl ?_
  refine gk_iconst (v := 4) dX8_init_221 rfl ?_
  refine gk_icmp_ge (tgt := 238) dX8_init_222 (by decide) (fun c => absurd c (by decide)) (fun _ => ?_)
  refine gk_aload_n dX8_init_225 rfl ?_
  refine gk_getr dX8_init_226 rfl rfl wfX8_7 ?_
  refine gk_iload_n dX8_init_229 rfl ?_
  refine gk_iconst (v := (-1)) dX8_init_230 rfl ?_
  refine gk_iastore dX8_init_231 rfl (gz_in_lit (by decide)) ?_
  refine gk_nmS (fun S31 (e31 : S31 = gz_st S30 46 3 (-1)) => ?_)
  refine gk_iinc (v := 4) dX8_init_232 rfl (Nat.le_of_ble_eq_true rfl) rfl (by decide) rfl ?_
  refine gk_goto (tgt := 220) dX8_init_235 (by decide) ?_
  refine gk_iload_n dX8_init_220 rfl ?_
  refine gk_iconst (v := 4) dX8_init_221 rfl ?_
  refine gk_icmp_ge (tgt := 238) dX8_init_222 (by decide) (fun _ => ?_) (fun c => absurd (by decide) c)
  refine gk_iconst (v := 0) dX8_init_238 rfl ?_
  refine gk_istore_n dX8_init_239 (Nat.le_of_ble_eq_true rfl) rfl rfl ?_
  refine gk_iload_n dX8_init_240 rfl ?_
  refine gk_bipush (v := 8) dX8_init_241 rfl ?_
  refine gk_icmp_ge (tgt := 259) dX8_init_243 (by decide) (fun c => absurd c (by decide)) (fun _ => ?_)
  refine gk_aload_n dX8_init_246 rfl ?_
  refine gk_getr dX8_init_247 rfl rfl wfX8_46 ?_
  refine gk_iload_n dX8_init_250 rfl ?_
  refine gk_iconst (v := 1) dX8_init_251 rfl ?_
  refine gk_iastore dX8_init_252 rfl (gz_in_lit (by decide)) ?_
  refine gk_nmS (fun S32 (e32 : S32 = gz_st S31 58 0 1) => ?_)
  refine gk_iinc (v := 1) dX8_init_253 rfl (Nat.le_of_ble_eq_true rfl) rfl (by decide) rfl ?_
  refine gk_goto (tgt := 240) dX8_init_256 (by decide) ?_
  refine gk_iload_n dX8_init_240 rfl ?_
  refine gk_bipush (v := 8) dX8_init_241 rfl ?_
  refine gk_icmp_ge (tgt := 259) dX8_init_243 (by decide) (fun c => absurd c (by decide)) (fun _ => ?_)
  refine gk_aload_n dX8_init_246 rfl ?_
  refine gk_getr dX8_init_247 rfl rfl wfX8_46 ?_
  refine gk_iload_n dX8_init_250 rfl ?_
  refine gk_iconst (v := 1) dX8_init_251 rfl ?_
  refine gk_iastore dX8_init_252 rfl (gz_in_lit (by decide)) ?_
  refine gk_nmS (fun S33 (e33 : S33 = gz_st S32 58 1 1) => ?_)
  refine gk_iinc (v := 2) dX8_init_253 rfl (Nat.le_of_ble_eq_true rfl) rfl (by decide) rfl ?_
  refine gk_goto (tgt := 240) dX8_init_256 (by decide) ?_
  refine gk_iload_n dX8_init_240 rfl ?_
  refine gk_bipush (v := 8) dX8_init_241 rfl ?_
  refine gk_icmp_ge (tgt := 259) dX8_init_243 (by decide) (fun c => absurd c (by decide)) (fun _ => ?_)
  refine gk_aload_n dX8_init_246 rfl ?_
  refine gk_getr dX8_init_247 rfl rfl wfX8_46 ?_
  refine gk_iload_n dX8_init_250 rfl ?_
  refine gk_iconst (v := 1) dX8_init_251 rfl ?_
  refine gk_iastore dX8_init_252 rfl (gz_in_lit (by decide)) ?_
  refine gk_nmS (fun S34 (e34 : S34 = gz_st S33 58 2 1) => ?_)
  refine gk_iinc (v := 3) dX8_init_253 rfl (Nat.le_of_ble_eq_true rfl) rfl (by decide) rfl ?_
  refine gk_goto (tgt := 240) dX8_init_256 (by decide) ?_
  refine gk_iload_n dX8_init_240 rfl ?_
  refine gk_bipush (v := 8) dX8_init_241 rfl ?_
  refine gk_icmp_ge (tgt := 259) dX8_init_243 (by decide) (fun c => absurd c (by decide)) (fun _ => ?_)
  refine gk_aload_n dX8_init_246 rfl ?_
  refine gk_getr dX8_init_247 rfl rfl wfX8_46 ?_
  refine gk_iload_n dX8_init_250 rfl ?_
  refine gk_iconst (v := 1) dX8_init_251 rfl ?_
  refine gk_iastore dX8_init_252 rfl (gz_in_lit (by decide)) ?_
  refine gk_nmS (fun S35 (e35 : S35 = gz_st S34 58 3 1) => ?_)
  refine gk_iinc (v := 4) dX8_init_253 rfl (Nat.le_of_ble_eq_true rfl) rfl (by decide) rfl ?_
  refine gk_goto (tgt := 240) dX8_init_256 (by decide) ?_
  refine gk_iload_n dX8_init_240 rfl ?_
  refine gk_bipush (v := 8) dX8_init_241 rfl ?_
  refine gk_icmp_ge (tgt := 259) dX8_init_243 (by decide) (fun c => absurd c (by decide)) (fun _ => ?_)
  refine gk_aload_n dX8_init_246 rfl ?_
  refine gk_getr dX8_init_247 rfl rfl wfX8_46 ?_
  refine gk_iload_n dX8_init_250 rfl ?_
  refine gk_iconst (v := 1) dX8_init_251 rfl ?_
  refine gk_iastore dX8_init_252 rfl (gz_in_lit (by decide)) ?_
  refine gk_nmS (fun S36 (e36 : S36 = gz_st S35 58 4 1) => ?_)
  refine gk_iinc (v := 5) dX8_init_253 rfl (Nat.le_of_ble_eq_true rfl) rfl (by decide) rfl ?_
  refine gk_goto (tgt := 240) dX8_init_256 (by decide) ?_
  refine gk_iload_n dX8_init_240 rfl ?_
  refine gk_bipush (v := 8) dX8_init_241 rfl ?_
  refine gk_icmp_ge (tgt := 259) dX8_init_243 (by decide) (fun c => absurd c (by decide)) (fun _ => ?_)
  refine gk_aload_n dX8_init_246 rfl ?_
  refine gk_getr dX8_init_247 rfl rfl wfX8_46 ?_
  refine gk_iload_n dX8_init_250 rfl ?_
  refine gk_iconst (v := 1) dX8_init_251 rfl ?_
  refine gk_iastore dX8_init_252 rfl (gz_in_lit (by decide)) ?_
  refine gk_nmS (fun S37 (e37 : S37 = gz_st S36 58 5 1) => ?_)
  refine gk_iinc (v := 6) dX8_init_253 rfl (Nat.le_of_ble_eq_true rfl) rfl (by decide) rfl ?_
  refine gk_goto (tgt := 240) dX8_init_256 (by decide) ?_
  refine gk_iload_n dX8_init_240 rfl ?_
  refine gk_bipush (v := 8) dX8_init_241 rfl ?_
  refine gk_icmp_ge (tgt := 259) dX8_init_243 (by decide) (fun c => absurd c (by decide)) (fun _ => ?_)
  refine gk_aload_n dX8_init_246 rfl ?_
  refine gk_getr dX8_init_247 rfl rfl wfX8_46 ?_
  refine gk_iload_n dX8_init_250 rfl ?_
  refine gk_iconst (v := 1) dX8_init_251 rfl ?_
  refine gk_iastore dX8_init_252 rfl (gz_in_lit (by decide)) ?_
  refine gk_nmS (fun S38 (e38 : S38 = gz_st S37 58 6 1) => ?_)
  refine gk_iinc (v := 7) dX8_init_253 rfl (Nat.le_of_ble_eq_true rfl) rfl (by decide) rfl ?_
  refine gk_goto (tgt := 240) dX8_init_256 (by decide) ?_
  refine gk_iload_n dX8_init_240 rfl ?_
  refine gk_bipush (v := 8) dX8_init_241 rfl ?_
  refine gk_icmp_ge (tgt := 259) dX8_init_243 (by decide) (fun c => absurd c (by decide)) (fun _ => ?_)
  refine gk_aload_n dX8_init_246 rfl ?_
  refine gk_getr dX8_init_247 rfl rfl wfX8_46 ?_
  refine gk_iload_n dX8_init_250 rfl ?_
  refine gk_iconst (v := 1) dX8_init_251 rfl ?_
  refine gk_iastore dX8_init_252 rfl (gz_in_lit (by decide)) ?_
  refine gk_nmS (fun S39 (e39 : S39 = gz_st S38 58 7 1) => ?_)
  refine gk_iinc (v := 8) dX8_init_253 rfl (Nat.le_of_ble_eq_true rfl) rfl (by decide) rfl ?_
  refine gk_goto (tgt := 240) dX8_init_256 (by decide) ?_
  refine gk_iload_n dX8_init_240 rfl ?_
  refine gk_bipush (v := 8) dX8_init_241 rfl ?_
  refine gk_icmp_ge (tgt := 259) dX8_init_243 (by decide) (fun _ => ?_) (fun c => absurd (by decide) c)
  refine gk_aload_n dX8_init_259 rfl ?_
  refine gk_getr dX8_init_260 rfl rfl wfX8_40 ?_
  refine gk_iconst (v := 0) dX8_init_263 rfl ?_
  refine gk_bipush (v := 12) dX8_init_264 rfl ?_
  refine gk_iastore dX8_init_266 rfl (gz_in_lit (by decide)) ?_
  refine gk_nmS (fun S40 (e40 : S40 = gz_st S39 56 0 12) => ?_)
  refine gk_aload_n dX8_init_267 rfl ?_
  refine gk_getr dX8_init_268 rfl rfl wfX8_40 ?_
  refine gk_iconst (v := 1) dX8_init_271 rfl ?_
  refine gk_bipush (v := 99) dX8_init_272 rfl ?_
  refine gk_iastore dX8_init_274 rfl (gz_in_lit (by decide)) ?_
  refine gk_nmS (fun S41 (e41 : S41 = gz_st S40 56 1 99) => ?_)
  exact gk_vret dX8_init_275 rfl rfl rfl ⟨rfl, rfl, by rw [e41, e40, e39, e38, e37, e36, e35, e34, e33, e32, e31, e30, e29, e28, e27, e26, e25, e24, e23, e22, e21, e20, e19, e18, e17, e16, e15, e14, e13, e12, e11, e10, e9, e8, e7, e6, e5, e4, e3, e2, e1]; rfl⟩
def s_law (S : gz_S) : gz_S := s_X8_init_13 (gz_u (s_X7_init_12 (gz_u S 0 (fun _ => 0))) 45 (fun _ => 0))
set_option maxHeartbeats 4000000 in
set_option maxRecDepth 100000 in
theorem n_law {E : gz_E} {S : gz_S} {Q : Int32 → gz_S → Prop} (h : ∃ n, wL_law_18 (gz_L E) (gz_xs E) Q n 0 (s_law S)) : gz_k E mL_law (16, 73, 2886, 0) 0 0 0 [some (.float 0), none, none, none] [] gi_0 S (gz_qi Q) := by
  obtain ⟨n, h⟩ := h
  refine gk_new (ci := 7) (fl := [some none, some none, some none, some none, some none, some none, some none, none]) dL_law_0 wnL_7 (Nat.le_of_ble_eq_true rfl) (Nat.le_of_ble_eq_true rfl) rfl ?_
  refine gk_Geq (G2 := gi_1) rfl ?_
  refine gk_req (n := 0) rfl ?_
  refine gk_dup dL_law_3 rfl ?_
  refine gk_callI (as := []) (rest := [_]) n_X7_init_12 dL_law_4 wvL_9 rfl rfl wcX7_init rfl (Nat.le_of_ble_eq_true rfl) ⟨(Nat.le_of_ble_eq_true rfl), (Nat.le_of_ble_eq_true rfl)⟩ (fun _ => rfl) (Nat.le_of_ble_eq_true rfl) rfl (fun v G2 S2 hq => ?_)
  obtain ⟨rfl, rfl, rfl⟩ := hq
  refine gk_astore_n dL_law_7 (Nat.le_of_ble_eq_true rfl) rfl rfl ?_
  refine gk_new (ci := 8) (fl := [some none, some none, some none, some none, none, some none, some none, none, some none, some none, none, some none, some none, some none, some none, some none, none, some none, some none, some none, some none, none, none, some none, some none, none, some none, some none, some none, some none, some none, some none, some none, some none]) dL_law_8 wnL_10 (Nat.le_of_ble_eq_true rfl) (Nat.le_of_ble_eq_true rfl) rfl ?_
  refine gk_Geq (G2 := gi_96) rfl ?_
  refine gk_req (n := 45) rfl ?_
  refine gk_dup dL_law_11 rfl ?_
  refine gk_callI (as := []) (rest := [_]) n_X8_init_13 dL_law_12 wvL_12 rfl rfl wcX8_init rfl (Nat.le_of_ble_eq_true rfl) ⟨(Nat.le_of_ble_eq_true rfl), (Nat.le_of_ble_eq_true rfl)⟩ (fun _ => rfl) (Nat.le_of_ble_eq_true rfl) rfl (fun v G2 S2 hq => ?_)
  obtain ⟨rfl, rfl, rfl⟩ := hq
  refine gk_astore_n dL_law_15 (Nat.le_of_ble_eq_true rfl) rfl rfl ?_
  refine gk_iconst (v := 0) dL_law_16 rfl ?_
  refine gk_istore_n dL_law_17 (Nat.le_of_ble_eq_true rfl) rfl rfl ?_
  refine gk_Geq (G2 := gz_F) rfl ?_
  exact gk_less (gz_le_s rfl (gz_le_s rfl (gz_le_s rfl (gz_le_s rfl gz_le_0)))) (oL_law_18 n _ _ h)
