def fc_X5_init_2 (s0 : jM) : Option jM := lt_ (zM s0 2) fun s1 => lt_ (zM s1 3) fun s2 => lt_ (zM s2 4) fun s3 => lt_ (zM s3 5) fun s4 => lt_ (pI s4 1 4 (0 : Int32)) fun s5 => lt_ (pI s5 1 5 (0 : Int32)) fun s6 => lt_ (pI s6 1 6 (3 : Int32)) fun s7 => lt_ (zM s7 6) fun s8 => lt_ (pI s8 1 8 (0 : Int32)) fun s9 => lt_ (zM s9 7) fun s10 => lt_ (zM s10 8) fun s11 => lt_ (zM s11 9) fun s12 => lt_ (pI s12 1 12 (0 : Int32)) fun s13 => some s13
set_option maxRecDepth 100000 in
set_option maxHeartbeats 4000000 in
theorem conc_X5_init_2 (l : Launch) (s0 : jM) : Con l 2 yX5_init cX5_init 1 none (eC shc_18 8 96) shc_2 [.ref 1] s0 (fc_X5_init_2 s0) := by
  refine Con_of (ls0 := [some (.ref 1)]) (ini := true) (mc := 8) (ms := 96) (by decide +kernel) rfl (Nat.le_of_ble_eq_true rfl) (fun _ => rfl) (fun _ _ => rfl) ?_
  unfold fc_X5_init_2
  refine J_aload_n (i := 0) dX5_init_0 rfl rfl ?_
  refine J_objI dX5_init_1 (mTB 116 w_116 rfl) obj_in obj_cd ⟨by simp only [rmD]; omega, by simp only [rmD, List.map_nil, List.map_cons, List.sum_nil, List.sum_cons, Value.category]; omega⟩ ?_
  refine J_aload_n (i := 0) dX5_init_4 rfl rfl ?_
  refine J_bipush (v := (8 : Int32)) dX5_init_5 (by decide) ?_
  refine J_newarr (a := 2) (N := 8) (ty := .int) (Sh2 := shc_3) dX5_init_7 rfl (mTB 176 w_176 rfl) (by decide) (by decide) (by decide) (by decide) noCx_ok (by decide +kernel) (by decide) rfl (by decide +kernel) rfl rfl ⟨by decide, by decide⟩ (fun s1 => ?_)
  refine J_putR (sl := [some (some none), some (some none), some (some none), some (some none), none, none, none, some (some none), none, some (some none), some (some none), some (some none), none]) (Sh2 := shc_4) dX5_init_9 fp_RX5_9 (fun _ => rfl) (by decide +kernel) rfl rfl (fun _ => rfl) (fun _ => rfl) ?_
  refine J_aload_n (i := 0) dX5_init_12 rfl rfl ?_
  refine J_bipush (v := (8 : Int32)) dX5_init_13 (by decide) ?_
  refine J_newarr (a := 3) (N := 8) (ty := .int) (Sh2 := shc_5) dX5_init_15 rfl (mTB 176 w_176 rfl) (by decide) (by decide) (by decide) (by decide) noCx_ok (by decide +kernel) (by decide) rfl (by decide +kernel) rfl rfl ⟨by decide, by decide⟩ (fun s2 => ?_)
  refine J_putR (sl := [some (some (some 2)), some (some none), some (some none), some (some none), none, none, none, some (some none), none, some (some none), some (some none), some (some none), none]) (Sh2 := shc_6) dX5_init_17 fp_RX5_15 (fun _ => rfl) (by decide +kernel) rfl rfl (fun _ => rfl) (fun _ => rfl) ?_
  refine J_aload_n (i := 0) dX5_init_20 rfl rfl ?_
  refine J_bipush (v := (8 : Int32)) dX5_init_21 (by decide) ?_
  refine J_newarr (a := 4) (N := 8) (ty := .int) (Sh2 := shc_7) dX5_init_23 rfl (mTB 176 w_176 rfl) (by decide) (by decide) (by decide) (by decide) noCx_ok (by decide +kernel) (by decide) rfl (by decide +kernel) rfl rfl ⟨by decide, by decide⟩ (fun s3 => ?_)
  refine J_putR (sl := [some (some (some 2)), some (some (some 3)), some (some none), some (some none), none, none, none, some (some none), none, some (some none), some (some none), some (some none), none]) (Sh2 := shc_8) dX5_init_25 fp_RX5_18 (fun _ => rfl) (by decide +kernel) rfl rfl (fun _ => rfl) (fun _ => rfl) ?_
  refine J_aload_n (i := 0) dX5_init_28 rfl rfl ?_
  refine J_bipush (v := (8 : Int32)) dX5_init_29 (by decide) ?_
  refine J_newarr (a := 5) (N := 8) (ty := .int) (Sh2 := shc_9) dX5_init_31 rfl (mTB 176 w_176 rfl) (by decide) (by decide) (by decide) (by decide) noCx_ok (by decide +kernel) (by decide) rfl (by decide +kernel) rfl rfl ⟨by decide, by decide⟩ (fun s4 => ?_)
  refine J_putR (sl := [some (some (some 2)), some (some (some 3)), some (some (some 4)), some (some none), none, none, none, some (some none), none, some (some none), some (some none), some (some none), none]) (Sh2 := shc_10) dX5_init_33 fp_RX5_21 (fun _ => rfl) (by decide +kernel) rfl rfl (fun _ => rfl) (fun _ => rfl) ?_
  refine J_aload_n (i := 0) dX5_init_36 rfl rfl ?_
  refine J_iconst (v := (0 : Int32)) dX5_init_37 (by decide) ?_
  refine J_putI dX5_init_38 fp_RX5_24 (fun _ => rfl) (by decide +kernel) rfl rfl ?_
  refine J_letM rfl (fun s5 => ?_)
  refine J_aload_n (i := 0) dX5_init_41 rfl rfl ?_
  refine J_iconst (v := (0 : Int32)) dX5_init_42 (by decide) ?_
  refine J_putI dX5_init_43 fp_RX5_28 (fun _ => rfl) (by decide +kernel) rfl rfl ?_
  refine J_letM rfl (fun s6 => ?_)
  refine J_aload_n (i := 0) dX5_init_46 rfl rfl ?_
  refine J_iconst (v := (3 : Int32)) dX5_init_47 (by decide) ?_
  refine J_putI dX5_init_48 fp_RX5_31 (fun _ => rfl) (by decide +kernel) rfl rfl ?_
  refine J_letM rfl (fun s7 => ?_)
  refine J_aload_n (i := 0) dX5_init_51 rfl rfl ?_
  refine J_bipush (v := (40 : Int32)) dX5_init_52 (by decide) ?_
  refine J_newarr (a := 6) (N := 40) (ty := .char) (Sh2 := shc_11) dX5_init_54 rfl (mTB 177 w_177 rfl) (by decide) (by decide) (by decide) (by decide) noCx_ok (by decide +kernel) (by decide) rfl (by decide +kernel) rfl rfl ⟨by decide, by decide⟩ (fun s8 => ?_)
  refine J_putR (sl := [some (some (some 2)), some (some (some 3)), some (some (some 4)), some (some (some 5)), none, none, none, some (some none), none, some (some none), some (some none), some (some none), none]) (Sh2 := shc_12) dX5_init_56 fp_RX5_34 (fun _ => rfl) (by decide +kernel) rfl rfl (fun _ => rfl) (fun _ => rfl) ?_
  refine J_aload_n (i := 0) dX5_init_59 rfl rfl ?_
  refine J_iconst (v := (0 : Int32)) dX5_init_60 (by decide) ?_
  refine J_putI dX5_init_61 fp_RX5_38 (fun _ => rfl) (by decide +kernel) rfl rfl ?_
  refine J_letM rfl (fun s9 => ?_)
  refine J_aload_n (i := 0) dX5_init_64 rfl rfl ?_
  refine J_bipush (v := (8 : Int32)) dX5_init_65 (by decide) ?_
  refine J_newarr (a := 7) (N := 8) (ty := .int) (Sh2 := shc_13) dX5_init_67 rfl (mTB 176 w_176 rfl) (by decide) (by decide) (by decide) (by decide) noCx_ok (by decide +kernel) (by decide) rfl (by decide +kernel) rfl rfl ⟨by decide, by decide⟩ (fun s10 => ?_)
  refine J_putR (sl := [some (some (some 2)), some (some (some 3)), some (some (some 4)), some (some (some 5)), none, none, none, some (some (some 6)), none, some (some none), some (some none), some (some none), none]) (Sh2 := shc_14) dX5_init_69 fp_RX5_41 (fun _ => rfl) (by decide +kernel) rfl rfl (fun _ => rfl) (fun _ => rfl) ?_
  refine J_aload_n (i := 0) dX5_init_72 rfl rfl ?_
  refine J_bipush (v := (8 : Int32)) dX5_init_73 (by decide) ?_
  refine J_newarr (a := 8) (N := 8) (ty := .int) (Sh2 := shc_15) dX5_init_75 rfl (mTB 176 w_176 rfl) (by decide) (by decide) (by decide) (by decide) noCx_ok (by decide +kernel) (by decide) rfl (by decide +kernel) rfl rfl ⟨by decide, by decide⟩ (fun s11 => ?_)
  refine J_putR (sl := [some (some (some 2)), some (some (some 3)), some (some (some 4)), some (some (some 5)), none, none, none, some (some (some 6)), none, some (some (some 7)), some (some none), some (some none), none]) (Sh2 := shc_16) dX5_init_77 fp_RX5_44 (fun _ => rfl) (by decide +kernel) rfl rfl (fun _ => rfl) (fun _ => rfl) ?_
  refine J_aload_n (i := 0) dX5_init_80 rfl rfl ?_
  refine J_bipush (v := (8 : Int32)) dX5_init_81 (by decide) ?_
  refine J_newarr (a := 9) (N := 8) (ty := .int) (Sh2 := shc_17) dX5_init_83 rfl (mTB 176 w_176 rfl) (by decide) (by decide) (by decide) (by decide) noCx_ok (by decide +kernel) (by decide) rfl (by decide +kernel) rfl rfl ⟨by decide, by decide⟩ (fun s12 => ?_)
  refine J_putR (sl := [some (some (some 2)), some (some (some 3)), some (some (some 4)), some (some (some 5)), none, none, none, some (some (some 6)), none, some (some (some 7)), some (some (some 8)), some (some none), none]) (Sh2 := shc_18) dX5_init_85 fp_RX5_47 (fun _ => rfl) (by decide +kernel) rfl rfl (fun _ => rfl) (fun _ => rfl) ?_
  refine J_aload_n (i := 0) dX5_init_88 rfl rfl ?_
  refine J_iconst (v := (0 : Int32)) dX5_init_89 (by decide) ?_
  refine J_putI dX5_init_90 fp_RX5_50 (fun _ => rfl) (by decide +kernel) rfl rfl ?_
  refine J_letM rfl (fun s13 => ?_)
  exact J_return dX5_init_93 rfl rfl
def fc_X5_init_3 (s0 : jM) : Option jM := lt_ (zM s0 11) fun s1 => lt_ (zM s1 12) fun s2 => lt_ (zM s2 13) fun s3 => lt_ (zM s3 14) fun s4 => lt_ (pI s4 10 4 (0 : Int32)) fun s5 => lt_ (pI s5 10 5 (0 : Int32)) fun s6 => lt_ (pI s6 10 6 (3 : Int32)) fun s7 => lt_ (zM s7 15) fun s8 => lt_ (pI s8 10 8 (0 : Int32)) fun s9 => lt_ (zM s9 16) fun s10 => lt_ (zM s10 17) fun s11 => lt_ (zM s11 18) fun s12 => lt_ (pI s12 10 12 (0 : Int32)) fun s13 => some s13
set_option maxRecDepth 100000 in
set_option maxHeartbeats 4000000 in
theorem conc_X5_init_3 (l : Launch) (s0 : jM) : Con l 2 yX5_init cX5_init 1 none (eC shc_36 8 96) shc_20 [.ref 10] s0 (fc_X5_init_3 s0) := by
  refine Con_of (ls0 := [some (.ref 10)]) (ini := true) (mc := 8) (ms := 96) (by decide +kernel) rfl (Nat.le_of_ble_eq_true rfl) (fun _ => rfl) (fun _ _ => rfl) ?_
  unfold fc_X5_init_3
  refine J_aload_n (i := 0) dX5_init_0 rfl rfl ?_
  refine J_objI dX5_init_1 (mTB 116 w_116 rfl) obj_in obj_cd ⟨by simp only [rmD]; omega, by simp only [rmD, List.map_nil, List.map_cons, List.sum_nil, List.sum_cons, Value.category]; omega⟩ ?_
  refine J_aload_n (i := 0) dX5_init_4 rfl rfl ?_
  refine J_bipush (v := (8 : Int32)) dX5_init_5 (by decide) ?_
  refine J_newarr (a := 11) (N := 8) (ty := .int) (Sh2 := shc_21) dX5_init_7 rfl (mTB 176 w_176 rfl) (by decide) (by decide) (by decide) (by decide) noCx_ok (by decide +kernel) (by decide) rfl (by decide +kernel) rfl rfl ⟨by decide, by decide⟩ (fun s1 => ?_)
  refine J_putR (sl := [some (some none), some (some none), some (some none), some (some none), none, none, none, some (some none), none, some (some none), some (some none), some (some none), none]) (Sh2 := shc_22) dX5_init_9 fp_RX5_9 (fun _ => rfl) (by decide +kernel) rfl rfl (fun _ => rfl) (fun _ => rfl) ?_
  refine J_aload_n (i := 0) dX5_init_12 rfl rfl ?_
  refine J_bipush (v := (8 : Int32)) dX5_init_13 (by decide) ?_
  refine J_newarr (a := 12) (N := 8) (ty := .int) (Sh2 := shc_23) dX5_init_15 rfl (mTB 176 w_176 rfl) (by decide) (by decide) (by decide) (by decide) noCx_ok (by decide +kernel) (by decide) rfl (by decide +kernel) rfl rfl ⟨by decide, by decide⟩ (fun s2 => ?_)
  refine J_putR (sl := [some (some (some 11)), some (some none), some (some none), some (some none), none, none, none, some (some none), none, some (some none), some (some none), some (some none), none]) (Sh2 := shc_24) dX5_init_17 fp_RX5_15 (fun _ => rfl) (by decide +kernel) rfl rfl (fun _ => rfl) (fun _ => rfl) ?_
  refine J_aload_n (i := 0) dX5_init_20 rfl rfl ?_
  refine J_bipush (v := (8 : Int32)) dX5_init_21 (by decide) ?_
  refine J_newarr (a := 13) (N := 8) (ty := .int) (Sh2 := shc_25) dX5_init_23 rfl (mTB 176 w_176 rfl) (by decide) (by decide) (by decide) (by decide) noCx_ok (by decide +kernel) (by decide) rfl (by decide +kernel) rfl rfl ⟨by decide, by decide⟩ (fun s3 => ?_)
  refine J_putR (sl := [some (some (some 11)), some (some (some 12)), some (some none), some (some none), none, none, none, some (some none), none, some (some none), some (some none), some (some none), none]) (Sh2 := shc_26) dX5_init_25 fp_RX5_18 (fun _ => rfl) (by decide +kernel) rfl rfl (fun _ => rfl) (fun _ => rfl) ?_
  refine J_aload_n (i := 0) dX5_init_28 rfl rfl ?_
  refine J_bipush (v := (8 : Int32)) dX5_init_29 (by decide) ?_
  refine J_newarr (a := 14) (N := 8) (ty := .int) (Sh2 := shc_27) dX5_init_31 rfl (mTB 176 w_176 rfl) (by decide) (by decide) (by decide) (by decide) noCx_ok (by decide +kernel) (by decide) rfl (by decide +kernel) rfl rfl ⟨by decide, by decide⟩ (fun s4 => ?_)
  refine J_putR (sl := [some (some (some 11)), some (some (some 12)), some (some (some 13)), some (some none), none, none, none, some (some none), none, some (some none), some (some none), some (some none), none]) (Sh2 := shc_28) dX5_init_33 fp_RX5_21 (fun _ => rfl) (by decide +kernel) rfl rfl (fun _ => rfl) (fun _ => rfl) ?_
  refine J_aload_n (i := 0) dX5_init_36 rfl rfl ?_
  refine J_iconst (v := (0 : Int32)) dX5_init_37 (by decide) ?_
  refine J_putI dX5_init_38 fp_RX5_24 (fun _ => rfl) (by decide +kernel) rfl rfl ?_
  refine J_letM rfl (fun s5 => ?_)
  refine J_aload_n (i := 0) dX5_init_41 rfl rfl ?_
  refine J_iconst (v := (0 : Int32)) dX5_init_42 (by decide) ?_
  refine J_putI dX5_init_43 fp_RX5_28 (fun _ => rfl) (by decide +kernel) rfl rfl ?_
  refine J_letM rfl (fun s6 => ?_)
  refine J_aload_n (i := 0) dX5_init_46 rfl rfl ?_
  refine J_iconst (v := (3 : Int32)) dX5_init_47 (by decide) ?_
  refine J_putI dX5_init_48 fp_RX5_31 (fun _ => rfl) (by decide +kernel) rfl rfl ?_
  refine J_letM rfl (fun s7 => ?_)
  refine J_aload_n (i := 0) dX5_init_51 rfl rfl ?_
  refine J_bipush (v := (40 : Int32)) dX5_init_52 (by decide) ?_
  refine J_newarr (a := 15) (N := 40) (ty := .char) (Sh2 := shc_29) dX5_init_54 rfl (mTB 177 w_177 rfl) (by decide) (by decide) (by decide) (by decide) noCx_ok (by decide +kernel) (by decide) rfl (by decide +kernel) rfl rfl ⟨by decide, by decide⟩ (fun s8 => ?_)
  refine J_putR (sl := [some (some (some 11)), some (some (some 12)), some (some (some 13)), some (some (some 14)), none, none, none, some (some none), none, some (some none), some (some none), some (some none), none]) (Sh2 := shc_30) dX5_init_56 fp_RX5_34 (fun _ => rfl) (by decide +kernel) rfl rfl (fun _ => rfl) (fun _ => rfl) ?_
  refine J_aload_n (i := 0) dX5_init_59 rfl rfl ?_
  refine J_iconst (v := (0 : Int32)) dX5_init_60 (by decide) ?_
  refine J_putI dX5_init_61 fp_RX5_38 (fun _ => rfl) (by decide +kernel) rfl rfl ?_
  refine J_letM rfl (fun s9 => ?_)
  refine J_aload_n (i := 0) dX5_init_64 rfl rfl ?_
  refine J_bipush (v := (8 : Int32)) dX5_init_65 (by decide) ?_
  refine J_newarr (a := 16) (N := 8) (ty := .int) (Sh2 := shc_31) dX5_init_67 rfl (mTB 176 w_176 rfl) (by decide) (by decide) (by decide) (by decide) noCx_ok (by decide +kernel) (by decide) rfl (by decide +kernel) rfl rfl ⟨by decide, by decide⟩ (fun s10 => ?_)
  refine J_putR (sl := [some (some (some 11)), some (some (some 12)), some (some (some 13)), some (some (some 14)), none, none, none, some (some (some 15)), none, some (some none), some (some none), some (some none), none]) (Sh2 := shc_32) dX5_init_69 fp_RX5_41 (fun _ => rfl) (by decide +kernel) rfl rfl (fun _ => rfl) (fun _ => rfl) ?_
  refine J_aload_n (i := 0) dX5_init_72 rfl rfl ?_
  refine J_bipush (v := (8 : Int32)) dX5_init_73 (by decide) ?_
  refine J_newarr (a := 17) (N := 8) (ty := .int) (Sh2 := shc_33) dX5_init_75 rfl (mTB 176 w_176 rfl) (by decide) (by decide) (by decide) (by decide) noCx_ok (by decide +kernel) (by decide) rfl (by decide +kernel) rfl rfl ⟨by decide, by decide⟩ (fun s11 => ?_)
  refine J_putR (sl := [some (some (some 11)), some (some (some 12)), some (some (some 13)), some (some (some 14)), none, none, none, some (some (some 15)), none, some (some (some 16)), some (some none), some (some none), none]) (Sh2 := shc_34) dX5_init_77 fp_RX5_44 (fun _ => rfl) (by decide +kernel) rfl rfl (fun _ => rfl) (fun _ => rfl) ?_
  refine J_aload_n (i := 0) dX5_init_80 rfl rfl ?_
  refine J_bipush (v := (8 : Int32)) dX5_init_81 (by decide) ?_
  refine J_newarr (a := 18) (N := 8) (ty := .int) (Sh2 := shc_35) dX5_init_83 rfl (mTB 176 w_176 rfl) (by decide) (by decide) (by decide) (by decide) noCx_ok (by decide +kernel) (by decide) rfl (by decide +kernel) rfl rfl ⟨by decide, by decide⟩ (fun s12 => ?_)
  refine J_putR (sl := [some (some (some 11)), some (some (some 12)), some (some (some 13)), some (some (some 14)), none, none, none, some (some (some 15)), none, some (some (some 16)), some (some (some 17)), some (some none), none]) (Sh2 := shc_36) dX5_init_85 fp_RX5_47 (fun _ => rfl) (by decide +kernel) rfl rfl (fun _ => rfl) (fun _ => rfl) ?_
  refine J_aload_n (i := 0) dX5_init_88 rfl rfl ?_
  refine J_iconst (v := (0 : Int32)) dX5_init_89 (by decide) ?_
  refine J_putI dX5_init_90 fp_RX5_50 (fun _ => rfl) (by decide +kernel) rfl rfl ?_
  refine J_letM rfl (fun s13 => ?_)
  exact J_return dX5_init_93 rfl rfl
def fc_X5_init_4 (s0 : jM) : Option jM := lt_ (zM s0 20) fun s1 => lt_ (zM s1 21) fun s2 => lt_ (zM s2 22) fun s3 => lt_ (zM s3 23) fun s4 => lt_ (pI s4 19 4 (0 : Int32)) fun s5 => lt_ (pI s5 19 5 (0 : Int32)) fun s6 => lt_ (pI s6 19 6 (3 : Int32)) fun s7 => lt_ (zM s7 24) fun s8 => lt_ (pI s8 19 8 (0 : Int32)) fun s9 => lt_ (zM s9 25) fun s10 => lt_ (zM s10 26) fun s11 => lt_ (zM s11 27) fun s12 => lt_ (pI s12 19 12 (0 : Int32)) fun s13 => some s13
set_option maxRecDepth 100000 in
set_option maxHeartbeats 4000000 in
theorem conc_X5_init_4 (l : Launch) (s0 : jM) : Con l 2 yX5_init cX5_init 1 none (eC shc_54 8 96) shc_38 [.ref 19] s0 (fc_X5_init_4 s0) := by
  refine Con_of (ls0 := [some (.ref 19)]) (ini := true) (mc := 8) (ms := 96) (by decide +kernel) rfl (Nat.le_of_ble_eq_true rfl) (fun _ => rfl) (fun _ _ => rfl) ?_
  unfold fc_X5_init_4
  refine J_aload_n (i := 0) dX5_init_0 rfl rfl ?_
  refine J_objI dX5_init_1 (mTB 116 w_116 rfl) obj_in obj_cd ⟨by simp only [rmD]; omega, by simp only [rmD, List.map_nil, List.map_cons, List.sum_nil, List.sum_cons, Value.category]; omega⟩ ?_
  refine J_aload_n (i := 0) dX5_init_4 rfl rfl ?_
  refine J_bipush (v := (8 : Int32)) dX5_init_5 (by decide) ?_
  refine J_newarr (a := 20) (N := 8) (ty := .int) (Sh2 := shc_39) dX5_init_7 rfl (mTB 176 w_176 rfl) (by decide) (by decide) (by decide) (by decide) noCx_ok (by decide +kernel) (by decide) rfl (by decide +kernel) rfl rfl ⟨by decide, by decide⟩ (fun s1 => ?_)
  refine J_putR (sl := [some (some none), some (some none), some (some none), some (some none), none, none, none, some (some none), none, some (some none), some (some none), some (some none), none]) (Sh2 := shc_40) dX5_init_9 fp_RX5_9 (fun _ => rfl) (by decide +kernel) rfl rfl (fun _ => rfl) (fun _ => rfl) ?_
  refine J_aload_n (i := 0) dX5_init_12 rfl rfl ?_
  refine J_bipush (v := (8 : Int32)) dX5_init_13 (by decide) ?_
  refine J_newarr (a := 21) (N := 8) (ty := .int) (Sh2 := shc_41) dX5_init_15 rfl (mTB 176 w_176 rfl) (by decide) (by decide) (by decide) (by decide) noCx_ok (by decide +kernel) (by decide) rfl (by decide +kernel) rfl rfl ⟨by decide, by decide⟩ (fun s2 => ?_)
  refine J_putR (sl := [some (some (some 20)), some (some none), some (some none), some (some none), none, none, none, some (some none), none, some (some none), some (some none), some (some none), none]) (Sh2 := shc_42) dX5_init_17 fp_RX5_15 (fun _ => rfl) (by decide +kernel) rfl rfl (fun _ => rfl) (fun _ => rfl) ?_
  refine J_aload_n (i := 0) dX5_init_20 rfl rfl ?_
  refine J_bipush (v := (8 : Int32)) dX5_init_21 (by decide) ?_
  refine J_newarr (a := 22) (N := 8) (ty := .int) (Sh2 := shc_43) dX5_init_23 rfl (mTB 176 w_176 rfl) (by decide) (by decide) (by decide) (by decide) noCx_ok (by decide +kernel) (by decide) rfl (by decide +kernel) rfl rfl ⟨by decide, by decide⟩ (fun s3 => ?_)
  refine J_putR (sl := [some (some (some 20)), some (some (some 21)), some (some none), some (some none), none, none, none, some (some none), none, some (some none), some (some none), some (some none), none]) (Sh2 := shc_44) dX5_init_25 fp_RX5_18 (fun _ => rfl) (by decide +kernel) rfl rfl (fun _ => rfl) (fun _ => rfl) ?_
  refine J_aload_n (i := 0) dX5_init_28 rfl rfl ?_
  refine J_bipush (v := (8 : Int32)) dX5_init_29 (by decide) ?_
  refine J_newarr (a := 23) (N := 8) (ty := .int) (Sh2 := shc_45) dX5_init_31 rfl (mTB 176 w_176 rfl) (by decide) (by decide) (by decide) (by decide) noCx_ok (by decide +kernel) (by decide) rfl (by decide +kernel) rfl rfl ⟨by decide, by decide⟩ (fun s4 => ?_)
  refine J_putR (sl := [some (some (some 20)), some (some (some 21)), some (some (some 22)), some (some none), none, none, none, some (some none), none, some (some none), some (some none), some (some none), none]) (Sh2 := shc_46) dX5_init_33 fp_RX5_21 (fun _ => rfl) (by decide +kernel) rfl rfl (fun _ => rfl) (fun _ => rfl) ?_
  refine J_aload_n (i := 0) dX5_init_36 rfl rfl ?_
  refine J_iconst (v := (0 : Int32)) dX5_init_37 (by decide) ?_
  refine J_putI dX5_init_38 fp_RX5_24 (fun _ => rfl) (by decide +kernel) rfl rfl ?_
  refine J_letM rfl (fun s5 => ?_)
  refine J_aload_n (i := 0) dX5_init_41 rfl rfl ?_
  refine J_iconst (v := (0 : Int32)) dX5_init_42 (by decide) ?_
  refine J_putI dX5_init_43 fp_RX5_28 (fun _ => rfl) (by decide +kernel) rfl rfl ?_
  refine J_letM rfl (fun s6 => ?_)
  refine J_aload_n (i := 0) dX5_init_46 rfl rfl ?_
  refine J_iconst (v := (3 : Int32)) dX5_init_47 (by decide) ?_
  refine J_putI dX5_init_48 fp_RX5_31 (fun _ => rfl) (by decide +kernel) rfl rfl ?_
  refine J_letM rfl (fun s7 => ?_)
  refine J_aload_n (i := 0) dX5_init_51 rfl rfl ?_
  refine J_bipush (v := (40 : Int32)) dX5_init_52 (by decide) ?_
  refine J_newarr (a := 24) (N := 40) (ty := .char) (Sh2 := shc_47) dX5_init_54 rfl (mTB 177 w_177 rfl) (by decide) (by decide) (by decide) (by decide) noCx_ok (by decide +kernel) (by decide) rfl (by decide +kernel) rfl rfl ⟨by decide, by decide⟩ (fun s8 => ?_)
  refine J_putR (sl := [some (some (some 20)), some (some (some 21)), some (some (some 22)), some (some (some 23)), none, none, none, some (some none), none, some (some none), some (some none), some (some none), none]) (Sh2 := shc_48) dX5_init_56 fp_RX5_34 (fun _ => rfl) (by decide +kernel) rfl rfl (fun _ => rfl) (fun _ => rfl) ?_
  refine J_aload_n (i := 0) dX5_init_59 rfl rfl ?_
  refine J_iconst (v := (0 : Int32)) dX5_init_60 (by decide) ?_
  refine J_putI dX5_init_61 fp_RX5_38 (fun _ => rfl) (by decide +kernel) rfl rfl ?_
  refine J_letM rfl (fun s9 => ?_)
  refine J_aload_n (i := 0) dX5_init_64 rfl rfl ?_
  refine J_bipush (v := (8 : Int32)) dX5_init_65 (by decide) ?_
  refine J_newarr (a := 25) (N := 8) (ty := .int) (Sh2 := shc_49) dX5_init_67 rfl (mTB 176 w_176 rfl) (by decide) (by decide) (by decide) (by decide) noCx_ok (by decide +kernel) (by decide) rfl (by decide +kernel) rfl rfl ⟨by decide, by decide⟩ (fun s10 => ?_)
  refine J_putR (sl := [some (some (some 20)), some (some (some 21)), some (some (some 22)), some (some (some 23)), none, none, none, some (some (some 24)), none, some (some none), some (some none), some (some none), none]) (Sh2 := shc_50) dX5_init_69 fp_RX5_41 (fun _ => rfl) (by decide +kernel) rfl rfl (fun _ => rfl) (fun _ => rfl) ?_
  refine J_aload_n (i := 0) dX5_init_72 rfl rfl ?_
  refine J_bipush (v := (8 : Int32)) dX5_init_73 (by decide) ?_
  refine J_newarr (a := 26) (N := 8) (ty := .int) (Sh2 := shc_51) dX5_init_75 rfl (mTB 176 w_176 rfl) (by decide) (by decide) (by decide) (by decide) noCx_ok (by decide +kernel) (by decide) rfl (by decide +kernel) rfl rfl ⟨by decide, by decide⟩ (fun s11 => ?_)
  refine J_putR (sl := [some (some (some 20)), some (some (some 21)), some (some (some 22)), some (some (some 23)), none, none, none, some (some (some 24)), none, some (some (some 25)), some (some none), some (some none), none]) (Sh2 := shc_52) dX5_init_77 fp_RX5_44 (fun _ => rfl) (by decide +kernel) rfl rfl (fun _ => rfl) (fun _ => rfl) ?_
  refine J_aload_n (i := 0) dX5_init_80 rfl rfl ?_
  refine J_bipush (v := (8 : Int32)) dX5_init_81 (by decide) ?_
  refine J_newarr (a := 27) (N := 8) (ty := .int) (Sh2 := shc_53) dX5_init_83 rfl (mTB 176 w_176 rfl) (by decide) (by decide) (by decide) (by decide) noCx_ok (by decide +kernel) (by decide) rfl (by decide +kernel) rfl rfl ⟨by decide, by decide⟩ (fun s12 => ?_)
  refine J_putR (sl := [some (some (some 20)), some (some (some 21)), some (some (some 22)), some (some (some 23)), none, none, none, some (some (some 24)), none, some (some (some 25)), some (some (some 26)), some (some none), none]) (Sh2 := shc_54) dX5_init_85 fp_RX5_47 (fun _ => rfl) (by decide +kernel) rfl rfl (fun _ => rfl) (fun _ => rfl) ?_
  refine J_aload_n (i := 0) dX5_init_88 rfl rfl ?_
  refine J_iconst (v := (0 : Int32)) dX5_init_89 (by decide) ?_
  refine J_putI dX5_init_90 fp_RX5_50 (fun _ => rfl) (by decide +kernel) rfl rfl ?_
  refine J_letM rfl (fun s13 => ?_)
  exact J_return dX5_init_93 rfl rfl
def fc_X6_init_5 (N : Nat) (s0 : jM) : Option jM := lt_ (zM s0 30) fun s1 => lt_ (zM s1 31) fun s2 => lt_ (zM s2 32) fun s3 => Option.bind (f_X6_read N s3) fun s4 => some s4
set_option maxRecDepth 100000 in
set_option maxHeartbeats 4000000 in
theorem conc_X6_init_5 (l : Launch) (N : Nat) (s0 : jM) : Con l 111 yX6_init cX6_init 2 none (eC shc_65 3 120) shc_58 [.ref 29, .ref 1] s0 (fc_X6_init_5 N s0) := by
  refine Con_of (ls0 := [some (.ref 29), some (.ref 1)]) (ini := true) (mc := 3) (ms := 120) (by decide +kernel) rfl (Nat.le_of_ble_eq_true rfl) (fun _ => rfl) (fun _ _ => rfl) ?_
  unfold fc_X6_init_5
  refine J_aload_n (i := 0) dX6_init_0 rfl rfl ?_
  refine J_objI dX6_init_1 (mTB 183 w_183 rfl) obj_in obj_cd ⟨by simp only [rmD]; omega, by simp only [rmD, List.map_nil, List.map_cons, List.sum_nil, List.sum_cons, Value.category]; omega⟩ ?_
  refine J_aload_n (i := 0) dX6_init_4 rfl rfl ?_
  refine J_bipush (v := (40 : Int32)) dX6_init_5 (by decide) ?_
  refine J_newarr (a := 30) (N := 40) (ty := .char) (Sh2 := shc_59) dX6_init_7 rfl (mTB 177 w_177 rfl) (by decide) (by decide) (by decide) (by decide) noCx_ok (by decide +kernel) (by decide) rfl (by decide +kernel) rfl rfl ⟨by decide, by decide⟩ (fun s1 => ?_)
  refine J_putR (sl := [some (some none), some (some none), some (some none), none, some (some none), none, none, none, none]) (Sh2 := shc_60) dX6_init_9 fp_RX6_9 (fun _ => rfl) (by decide +kernel) rfl rfl (fun _ => rfl) (fun _ => rfl) ?_
  refine J_aload_n (i := 0) dX6_init_12 rfl rfl ?_
  refine J_bipush (v := (40 : Int32)) dX6_init_13 (by decide) ?_
  refine J_newarr (a := 31) (N := 40) (ty := .int) (Sh2 := shc_61) dX6_init_15 rfl (mTB 176 w_176 rfl) (by decide) (by decide) (by decide) (by decide) noCx_ok (by decide +kernel) (by decide) rfl (by decide +kernel) rfl rfl ⟨by decide, by decide⟩ (fun s2 => ?_)
  refine J_putR (sl := [some (some none), some (some (some 30)), some (some none), none, some (some none), none, none, none, none]) (Sh2 := shc_62) dX6_init_17 fp_RX6_15 (fun _ => rfl) (by decide +kernel) rfl rfl (fun _ => rfl) (fun _ => rfl) ?_
  refine J_aload_n (i := 0) dX6_init_20 rfl rfl ?_
  refine J_bipush (v := (40 : Int32)) dX6_init_21 (by decide) ?_
  refine J_newarr (a := 32) (N := 40) (ty := .long) (Sh2 := shc_63) dX6_init_23 rfl (mTB 372 w_372 rfl) (by decide) (by decide) (by decide) (by decide) noCx_ok (by decide +kernel) (by decide) rfl (by decide +kernel) rfl rfl ⟨by decide, by decide⟩ (fun s3 => ?_)
  refine J_putR (sl := [some (some none), some (some (some 30)), some (some (some 31)), none, some (some none), none, none, none, none]) (Sh2 := shc_64) dX6_init_25 fp_RX6_19 (fun _ => rfl) (by decide +kernel) rfl rfl (fun _ => rfl) (fun _ => rfl) ?_
  refine J_aload_n (i := 0) dX6_init_28 rfl rfl ?_
  refine J_aload_n (i := 1) dX6_init_29 rfl rfl ?_
  refine J_putR (sl := [some (some none), some (some (some 30)), some (some (some 31)), none, some (some (some 32)), none, none, none, none]) (Sh2 := shc_65) dX6_init_30 fp_RX6_23 (fun _ => rfl) (by decide +kernel) rfl rfl (fun _ => rfl) (fun _ => rfl) ?_
  refine J_aload_n (i := 0) dX6_init_33 rfl rfl ?_
  refine J_callVV 29 [] dX6_init_34 ca_X6_read lk_RX6_27 vi_X6_read rcv_29 rfl rfl ⟨by show _ ≤ _; simp only [rmD]; omega, by show _ ≤ _; simp only [rmD]; omega⟩ (Nat.le_of_ble_eq_true rfl) ⟨by decide, by decide⟩ (conv_X6_read l N _) (fun s4 _ => ?_)
  exact J_return dX6_init_37 rfl rfl
def fc_X4_init_6 (s0 : jM) : Option jM := lt_ (zM s0 34) fun s1 => lt_ (zM s1 35) fun s2 => lt_ (zM s2 36) fun s3 => lt_ (pI s3 33 5 (1 : Int32)) fun s4 => some s4
set_option maxRecDepth 100000 in
set_option maxHeartbeats 4000000 in
theorem conc_X4_init_6 (l : Launch) (s0 : jM) : Con l 2 yX4_init cX4_init 3 none (eC shc_75 3 1605) shc_67 [.ref 33, .ref 1, .ref 29] s0 (fc_X4_init_6 s0) := by
  refine Con_of (ls0 := [some (.ref 33), some (.ref 1), some (.ref 29)]) (ini := true) (mc := 3) (ms := 1605) (by decide +kernel) rfl (Nat.le_of_ble_eq_true rfl) (fun _ => rfl) (fun _ _ => rfl) ?_
  unfold fc_X4_init_6
  refine J_aload_n (i := 0) dX4_init_0 rfl rfl ?_
  refine J_objI dX4_init_1 (mTB 379 w_379 rfl) obj_in obj_cd ⟨by simp only [rmD]; omega, by simp only [rmD, List.map_nil, List.map_cons, List.sum_nil, List.sum_cons, Value.category]; omega⟩ ?_
  refine J_aload_n (i := 0) dX4_init_4 rfl rfl ?_
  refine J_iconst (v := (5 : Int32)) dX4_init_5 (by decide) ?_
  refine J_newarr (a := 34) (N := 5) (ty := .int) (Sh2 := shc_68) dX4_init_6 rfl (mTB 176 w_176 rfl) (by decide) (by decide) (by decide) (by decide) noCx_ok (by decide +kernel) (by decide) rfl (by decide +kernel) rfl rfl ⟨by decide, by decide⟩ (fun s1 => ?_)
  refine J_putR (sl := [some (some none), some (some none), some (some none), some (some none), some (some none), none]) (Sh2 := shc_69) dX4_init_8 fp_RX4_9 (fun _ => rfl) (by decide +kernel) rfl rfl (fun _ => rfl) (fun _ => rfl) ?_
  refine J_aload_n (i := 0) dX4_init_11 rfl rfl ?_
  refine J_sipush (v := (800 : Int32)) dX4_init_12 (by decide) ?_
  refine J_newarr (a := 35) (N := 800) (ty := .long) (Sh2 := shc_70) dX4_init_15 rfl (mTB 372 w_372 rfl) (by decide) (by decide) (by decide) (by decide) noCx_ok (by decide +kernel) (by decide) rfl (by decide +kernel) rfl rfl ⟨by decide, by decide⟩ (fun s2 => ?_)
  refine J_putR (sl := [some (some none), some (some none), some (some (some 34)), some (some none), some (some none), none]) (Sh2 := shc_71) dX4_init_17 fp_RX4_15 (fun _ => rfl) (by decide +kernel) rfl rfl (fun _ => rfl) (fun _ => rfl) ?_
  refine J_aload_n (i := 0) dX4_init_20 rfl rfl ?_
  refine J_sipush (v := (800 : Int32)) dX4_init_21 (by decide) ?_
  refine J_newarr (a := 36) (N := 800) (ty := .long) (Sh2 := shc_72) dX4_init_24 rfl (mTB 372 w_372 rfl) (by decide) (by decide) (by decide) (by decide) noCx_ok (by decide +kernel) (by decide) rfl (by decide +kernel) rfl rfl ⟨by decide, by decide⟩ (fun s3 => ?_)
  refine J_putR (sl := [some (some none), some (some none), some (some (some 34)), some (some (some 35)), some (some none), none]) (Sh2 := shc_73) dX4_init_26 fp_RX4_19 (fun _ => rfl) (by decide +kernel) rfl rfl (fun _ => rfl) (fun _ => rfl) ?_
  refine J_aload_n (i := 0) dX4_init_29 rfl rfl ?_
  refine J_iconst (v := (1 : Int32)) dX4_init_30 (by decide) ?_
  refine J_putI dX4_init_31 fp_RX4_22 (fun _ => rfl) (by decide +kernel) rfl rfl ?_
  refine J_letM rfl (fun s4 => ?_)
  refine J_aload_n (i := 0) dX4_init_34 rfl rfl ?_
  refine J_aload_n (i := 1) dX4_init_35 rfl rfl ?_
  refine J_putR (sl := [some (some none), some (some none), some (some (some 34)), some (some (some 35)), some (some (some 36)), none]) (Sh2 := shc_74) dX4_init_36 fp_RX4_26 (fun _ => rfl) (by decide +kernel) rfl rfl (fun _ => rfl) (fun _ => rfl) ?_
  refine J_aload_n (i := 0) dX4_init_39 rfl rfl ?_
  refine J_aload_n (i := 2) dX4_init_40 rfl rfl ?_
  refine J_putR (sl := [some (some (some 1)), some (some none), some (some (some 34)), some (some (some 35)), some (some (some 36)), none]) (Sh2 := shc_75) dX4_init_41 fp_RX4_30 (fun _ => rfl) (by decide +kernel) rfl rfl (fun _ => rfl) (fun _ => rfl) ?_
  exact J_return dX4_init_44 rfl rfl
def fc_X1_init_7 (s0 : jM) : Option jM := lt_ (zM s0 38) fun s1 => lt_ (zM s1 39) fun s2 => lt_ (zM s2 40) fun s3 => lt_ (pI s3 37 8 (0 : Int32)) fun s4 => some s4
set_option maxRecDepth 100000 in
set_option maxHeartbeats 4000000 in
theorem conc_X1_init_7 (l : Launch) (s0 : jM) : Con l 2 yX1_init cX1_init 3 none (eC shc_85 3 216) shc_77 [.ref 37, .ref 1, .ref 33] s0 (fc_X1_init_7 s0) := by
  refine Con_of (ls0 := [some (.ref 37), some (.ref 1), some (.ref 33)]) (ini := true) (mc := 3) (ms := 216) (by decide +kernel) rfl (Nat.le_of_ble_eq_true rfl) (fun _ => rfl) (fun _ _ => rfl) ?_
  unfold fc_X1_init_7
  refine J_aload_n (i := 0) dX1_init_0 rfl rfl ?_
  refine J_objI dX1_init_1 (mTB 405 w_405 rfl) obj_in obj_cd ⟨by simp only [rmD]; omega, by simp only [rmD, List.map_nil, List.map_cons, List.sum_nil, List.sum_cons, Value.category]; omega⟩ ?_
  refine J_aload_n (i := 0) dX1_init_4 rfl rfl ?_
  refine J_sipush (v := (200 : Int32)) dX1_init_5 (by decide) ?_
  refine J_newarr (a := 38) (N := 200) (ty := .int) (Sh2 := shc_78) dX1_init_8 rfl (mTB 176 w_176 rfl) (by decide) (by decide) (by decide) (by decide) noCx_ok (by decide +kernel) (by decide) rfl (by decide +kernel) rfl rfl ⟨by decide, by decide⟩ (fun s1 => ?_)
  refine J_putR (sl := [some (some none), some (some none), some (some none), some (some none), some (some none), none, none, none, none]) (Sh2 := shc_79) dX1_init_10 fp_RX1_9 (fun _ => rfl) (by decide +kernel) rfl rfl (fun _ => rfl) (fun _ => rfl) ?_
  refine J_aload_n (i := 0) dX1_init_13 rfl rfl ?_
  refine J_bipush (v := (8 : Int32)) dX1_init_14 (by decide) ?_
  refine J_newarr (a := 39) (N := 8) (ty := .int) (Sh2 := shc_80) dX1_init_16 rfl (mTB 176 w_176 rfl) (by decide) (by decide) (by decide) (by decide) noCx_ok (by decide +kernel) (by decide) rfl (by decide +kernel) rfl rfl ⟨by decide, by decide⟩ (fun s2 => ?_)
  refine J_putR (sl := [some (some none), some (some none), some (some (some 38)), some (some none), some (some none), none, none, none, none]) (Sh2 := shc_81) dX1_init_18 fp_RX1_15 (fun _ => rfl) (by decide +kernel) rfl rfl (fun _ => rfl) (fun _ => rfl) ?_
  refine J_aload_n (i := 0) dX1_init_21 rfl rfl ?_
  refine J_bipush (v := (8 : Int32)) dX1_init_22 (by decide) ?_
  refine J_newarr (a := 40) (N := 8) (ty := .int) (Sh2 := shc_82) dX1_init_24 rfl (mTB 176 w_176 rfl) (by decide) (by decide) (by decide) (by decide) noCx_ok (by decide +kernel) (by decide) rfl (by decide +kernel) rfl rfl ⟨by decide, by decide⟩ (fun s3 => ?_)
  refine J_putR (sl := [some (some none), some (some none), some (some (some 38)), some (some (some 39)), some (some none), none, none, none, none]) (Sh2 := shc_83) dX1_init_26 fp_RX1_18 (fun _ => rfl) (by decide +kernel) rfl rfl (fun _ => rfl) (fun _ => rfl) ?_
  refine J_aload_n (i := 0) dX1_init_29 rfl rfl ?_
  refine J_iconst (v := (0 : Int32)) dX1_init_30 (by decide) ?_
  refine J_putI dX1_init_31 fp_RX1_21 (fun _ => rfl) (by decide +kernel) rfl rfl ?_
  refine J_letM rfl (fun s4 => ?_)
  refine J_aload_n (i := 0) dX1_init_34 rfl rfl ?_
  refine J_aload_n (i := 1) dX1_init_35 rfl rfl ?_
  refine J_putR (sl := [some (some none), some (some none), some (some (some 38)), some (some (some 39)), some (some (some 40)), none, none, none, none]) (Sh2 := shc_84) dX1_init_36 fp_RX1_25 (fun _ => rfl) (by decide +kernel) rfl rfl (fun _ => rfl) (fun _ => rfl) ?_
  refine J_aload_n (i := 0) dX1_init_39 rfl rfl ?_
  refine J_aload_n (i := 2) dX1_init_40 rfl rfl ?_
  refine J_putR (sl := [some (some (some 1)), some (some none), some (some (some 38)), some (some (some 39)), some (some (some 40)), none, none, none, none]) (Sh2 := shc_85) dX1_init_41 fp_RX1_29 (fun _ => rfl) (by decide +kernel) rfl rfl (fun _ => rfl) (fun _ => rfl) ?_
  exact J_return dX1_init_44 rfl rfl
def fc_X0_init_8 (s0 : jM) : Option jM := lt_ (zM s0 42) fun s1 => lt_ (zM s1 43) fun s2 => lt_ (zM s2 44) fun s3 => lt_ (zM s3 45) fun s4 => lt_ (zM s4 46) fun s5 => lt_ (zM s5 47) fun s6 => lt_ (zM s6 48) fun s7 => lt_ (pI s7 41 14 (0 : Int32)) fun s8 => some s8
set_option maxRecDepth 100000 in
set_option maxHeartbeats 4000000 in
theorem conc_X0_init_8 (l : Launch) (s0 : jM) : Con l 2 yX0_init cX0_init 3 none (eC shc_103 7 1544) shc_87 [.ref 41, .ref 1, .ref 33] s0 (fc_X0_init_8 s0) := by
  refine Con_of (ls0 := [some (.ref 41), some (.ref 1), some (.ref 33)]) (ini := true) (mc := 7) (ms := 1544) (by decide +kernel) rfl (Nat.le_of_ble_eq_true rfl) (fun _ => rfl) (fun _ _ => rfl) ?_
  unfold fc_X0_init_8
  refine J_aload_n (i := 0) dX0_init_0 rfl rfl ?_
  refine J_objI dX0_init_1 (mTB 445 w_445 rfl) obj_in obj_cd ⟨by simp only [rmD]; omega, by simp only [rmD, List.map_nil, List.map_cons, List.sum_nil, List.sum_cons, Value.category]; omega⟩ ?_
  refine J_aload_n (i := 0) dX0_init_4 rfl rfl ?_
  refine J_sipush (v := (256 : Int32)) dX0_init_5 (by decide) ?_
  refine J_newarr (a := 42) (N := 256) (ty := .int) (Sh2 := shc_88) dX0_init_8 rfl (mTB 176 w_176 rfl) (by decide) (by decide) (by decide) (by decide) noCx_ok (by decide +kernel) (by decide) rfl (by decide +kernel) rfl rfl ⟨by decide, by decide⟩ (fun s1 => ?_)
  refine J_putR (sl := [some (some none), some (some none), some (some none), some (some none), some (some none), some (some none), some (some none), some (some none), some (some none), none, none, none, none, none, none]) (Sh2 := shc_89) dX0_init_10 fp_RX0_9 (fun _ => rfl) (by decide +kernel) rfl rfl (fun _ => rfl) (fun _ => rfl) ?_
  refine J_aload_n (i := 0) dX0_init_13 rfl rfl ?_
  refine J_sipush (v := (256 : Int32)) dX0_init_14 (by decide) ?_
  refine J_newarr (a := 43) (N := 256) (ty := .int) (Sh2 := shc_90) dX0_init_17 rfl (mTB 176 w_176 rfl) (by decide) (by decide) (by decide) (by decide) noCx_ok (by decide +kernel) (by decide) rfl (by decide +kernel) rfl rfl ⟨by decide, by decide⟩ (fun s2 => ?_)
  refine J_putR (sl := [some (some none), some (some none), some (some (some 42)), some (some none), some (some none), some (some none), some (some none), some (some none), some (some none), none, none, none, none, none, none]) (Sh2 := shc_91) dX0_init_19 fp_RX0_15 (fun _ => rfl) (by decide +kernel) rfl rfl (fun _ => rfl) (fun _ => rfl) ?_
  refine J_aload_n (i := 0) dX0_init_22 rfl rfl ?_
  refine J_sipush (v := (256 : Int32)) dX0_init_23 (by decide) ?_
  refine J_newarr (a := 44) (N := 256) (ty := .int) (Sh2 := shc_92) dX0_init_26 rfl (mTB 176 w_176 rfl) (by decide) (by decide) (by decide) (by decide) noCx_ok (by decide +kernel) (by decide) rfl (by decide +kernel) rfl rfl ⟨by decide, by decide⟩ (fun s3 => ?_)
  refine J_putR (sl := [some (some none), some (some none), some (some (some 42)), some (some (some 43)), some (some none), some (some none), some (some none), some (some none), some (some none), none, none, none, none, none, none]) (Sh2 := shc_93) dX0_init_28 fp_RX0_18 (fun _ => rfl) (by decide +kernel) rfl rfl (fun _ => rfl) (fun _ => rfl) ?_
  refine J_aload_n (i := 0) dX0_init_31 rfl rfl ?_
  refine J_sipush (v := (256 : Int32)) dX0_init_32 (by decide) ?_
  refine J_newarr (a := 45) (N := 256) (ty := .int) (Sh2 := shc_94) dX0_init_35 rfl (mTB 176 w_176 rfl) (by decide) (by decide) (by decide) (by decide) noCx_ok (by decide +kernel) (by decide) rfl (by decide +kernel) rfl rfl ⟨by decide, by decide⟩ (fun s4 => ?_)
  refine J_putR (sl := [some (some none), some (some none), some (some (some 42)), some (some (some 43)), some (some (some 44)), some (some none), some (some none), some (some none), some (some none), none, none, none, none, none, none]) (Sh2 := shc_95) dX0_init_37 fp_RX0_21 (fun _ => rfl) (by decide +kernel) rfl rfl (fun _ => rfl) (fun _ => rfl) ?_
  refine J_aload_n (i := 0) dX0_init_40 rfl rfl ?_
  refine J_sipush (v := (256 : Int32)) dX0_init_41 (by decide) ?_
  refine J_newarr (a := 46) (N := 256) (ty := .int) (Sh2 := shc_96) dX0_init_44 rfl (mTB 176 w_176 rfl) (by decide) (by decide) (by decide) (by decide) noCx_ok (by decide +kernel) (by decide) rfl (by decide +kernel) rfl rfl ⟨by decide, by decide⟩ (fun s5 => ?_)
  refine J_putR (sl := [some (some none), some (some none), some (some (some 42)), some (some (some 43)), some (some (some 44)), some (some (some 45)), some (some none), some (some none), some (some none), none, none, none, none, none, none]) (Sh2 := shc_97) dX0_init_46 fp_RX0_24 (fun _ => rfl) (by decide +kernel) rfl rfl (fun _ => rfl) (fun _ => rfl) ?_
  refine J_aload_n (i := 0) dX0_init_49 rfl rfl ?_
  refine J_sipush (v := (256 : Int32)) dX0_init_50 (by decide) ?_
  refine J_newarr (a := 47) (N := 256) (ty := .int) (Sh2 := shc_98) dX0_init_53 rfl (mTB 176 w_176 rfl) (by decide) (by decide) (by decide) (by decide) noCx_ok (by decide +kernel) (by decide) rfl (by decide +kernel) rfl rfl ⟨by decide, by decide⟩ (fun s6 => ?_)
  refine J_putR (sl := [some (some none), some (some none), some (some (some 42)), some (some (some 43)), some (some (some 44)), some (some (some 45)), some (some (some 46)), some (some none), some (some none), none, none, none, none, none, none]) (Sh2 := shc_99) dX0_init_55 fp_RX0_27 (fun _ => rfl) (by decide +kernel) rfl rfl (fun _ => rfl) (fun _ => rfl) ?_
  refine J_aload_n (i := 0) dX0_init_58 rfl rfl ?_
  refine J_bipush (v := (8 : Int32)) dX0_init_59 (by decide) ?_
  refine J_newarr (a := 48) (N := 8) (ty := .int) (Sh2 := shc_100) dX0_init_61 rfl (mTB 176 w_176 rfl) (by decide) (by decide) (by decide) (by decide) noCx_ok (by decide +kernel) (by decide) rfl (by decide +kernel) rfl rfl ⟨by decide, by decide⟩ (fun s7 => ?_)
  refine J_putR (sl := [some (some none), some (some none), some (some (some 42)), some (some (some 43)), some (some (some 44)), some (some (some 45)), some (some (some 46)), some (some (some 47)), some (some none), none, none, none, none, none, none]) (Sh2 := shc_101) dX0_init_63 fp_RX0_30 (fun _ => rfl) (by decide +kernel) rfl rfl (fun _ => rfl) (fun _ => rfl) ?_
  refine J_aload_n (i := 0) dX0_init_66 rfl rfl ?_
  refine J_iconst (v := (0 : Int32)) dX0_init_67 (by decide) ?_
  refine J_putI dX0_init_68 fp_RX0_33 (fun _ => rfl) (by decide +kernel) rfl rfl ?_
  refine J_letM rfl (fun s8 => ?_)
  refine J_aload_n (i := 0) dX0_init_71 rfl rfl ?_
  refine J_aload_n (i := 1) dX0_init_72 rfl rfl ?_
  refine J_putR (sl := [some (some none), some (some none), some (some (some 42)), some (some (some 43)), some (some (some 44)), some (some (some 45)), some (some (some 46)), some (some (some 47)), some (some (some 48)), none, none, none, none, none, none]) (Sh2 := shc_102) dX0_init_73 fp_RX0_37 (fun _ => rfl) (by decide +kernel) rfl rfl (fun _ => rfl) (fun _ => rfl) ?_
  refine J_aload_n (i := 0) dX0_init_76 rfl rfl ?_
  refine J_aload_n (i := 2) dX0_init_77 rfl rfl ?_
  refine J_putR (sl := [some (some (some 1)), some (some none), some (some (some 42)), some (some (some 43)), some (some (some 44)), some (some (some 45)), some (some (some 46)), some (some (some 47)), some (some (some 48)), none, none, none, none, none, none]) (Sh2 := shc_103) dX0_init_78 fp_RX0_41 (fun _ => rfl) (by decide +kernel) rfl rfl (fun _ => rfl) (fun _ => rfl) ?_
  exact J_return dX0_init_81 rfl rfl
def fc_X3_init_9 (s0 : jM) : Option jM := some s0
set_option maxRecDepth 100000 in
set_option maxHeartbeats 4000000 in
theorem conc_X3_init_9 (l : Launch) (s0 : jM) : Con l 2 yX3_init cX3_init 3 none (eC shc_107 0 0) shc_105 [.ref 49, .ref 1, .ref 33] s0 (fc_X3_init_9 s0) := by
  refine Con_of (ls0 := [some (.ref 49), some (.ref 1), some (.ref 33)]) (ini := true) (mc := 0) (ms := 0) (by decide +kernel) rfl (Nat.le_of_ble_eq_true rfl) (fun _ => rfl) (fun _ _ => rfl) ?_
  unfold fc_X3_init_9
  refine J_aload_n (i := 0) dX3_init_0 rfl rfl ?_
  refine J_objI dX3_init_1 (mTB 504 w_504 rfl) obj_in obj_cd ⟨by simp only [rmD]; omega, by simp only [rmD, List.map_nil, List.map_cons, List.sum_nil, List.sum_cons, Value.category]; omega⟩ ?_
  refine J_aload_n (i := 0) dX3_init_4 rfl rfl ?_
  refine J_aload_n (i := 1) dX3_init_5 rfl rfl ?_
  refine J_putR (sl := [some (some none), some (some none)]) (Sh2 := shc_106) dX3_init_6 fp_RX3_9 (fun _ => rfl) (by decide +kernel) rfl rfl (fun _ => rfl) (fun _ => rfl) ?_
  refine J_aload_n (i := 0) dX3_init_9 rfl rfl ?_
  refine J_aload_n (i := 2) dX3_init_10 rfl rfl ?_
  refine J_putR (sl := [some (some (some 1)), some (some none)]) (Sh2 := shc_107) dX3_init_11 fp_RX3_15 (fun _ => rfl) (by decide +kernel) rfl rfl (fun _ => rfl) (fun _ => rfl) ?_
  exact J_return dX3_init_14 rfl rfl
def fc_X2_init_10 (s0 : jM) : Option jM := lt_ (pL s0 50 0 (0 : Int64)) fun s1 => lt_ (pL s1 50 1 (1 : Int64)) fun s2 => some s2
set_option maxRecDepth 100000 in
set_option maxHeartbeats 4000000 in
theorem conc_X2_init_10 (l : Launch) (s0 : jM) : Con l 2 yX2_init cX2_init 1 none (eC shc_109 0 0) shc_109 [.ref 50] s0 (fc_X2_init_10 s0) := by
  refine Con_of (ls0 := [some (.ref 50)]) (ini := true) (mc := 0) (ms := 0) (by decide +kernel) rfl (Nat.le_of_ble_eq_true rfl) (fun _ => rfl) (fun _ _ => rfl) ?_
  unfold fc_X2_init_10
  refine J_aload_n (i := 0) dX2_init_0 rfl rfl ?_
  refine J_objI dX2_init_1 (mTB 517 w_517 rfl) obj_in obj_cd ⟨by simp only [rmD]; omega, by simp only [rmD, List.map_nil, List.map_cons, List.sum_nil, List.sum_cons, Value.category]; omega⟩ ?_
  refine J_aload_n (i := 0) dX2_init_4 rfl rfl ?_
  refine J_lconst (v := (0 : Int64)) dX2_init_5 (by decide) ?_
  refine J_putL dX2_init_6 fp_RX2_7 (fun _ => rfl) (by decide +kernel) rfl rfl ?_
  refine J_letM rfl (fun s1 => ?_)
  refine J_aload_n (i := 0) dX2_init_9 rfl rfl ?_
  refine J_lconst (v := (1 : Int64)) dX2_init_10 (by decide) ?_
  refine J_putL dX2_init_11 fp_RX2_13 (fun _ => rfl) (by decide +kernel) rfl rfl ?_
  refine J_letM rfl (fun s2 => ?_)
  exact J_return dX2_init_14 rfl rfl
def fc_X7_init_1 (N : Nat) (s0 : jM) : Option jM := lt_ (zM s0 1) fun s1 => Option.bind (fc_X5_init_2 s1) fun s2 => lt_ (zM s2 10) fun s3 => Option.bind (fc_X5_init_3 s3) fun s4 => lt_ (zM s4 19) fun s5 => Option.bind (fc_X5_init_4 s5) fun s6 => lt_ (zM s6 28) fun s7 => lt_ (zM s7 29) fun s8 => Option.bind (fc_X6_init_5 N s8) fun s9 => lt_ (zM s9 33) fun s10 => Option.bind (fc_X4_init_6 s10) fun s11 => lt_ (zM s11 37) fun s12 => Option.bind (fc_X1_init_7 s12) fun s13 => lt_ (zM s13 41) fun s14 => Option.bind (fc_X0_init_8 s14) fun s15 => lt_ (zM s15 49) fun s16 => Option.bind (fc_X3_init_9 s16) fun s17 => lt_ (zM s17 50) fun s18 => Option.bind (fc_X2_init_10 s18) fun s19 => lt_ (zM s19 51) fun s20 => lt_ (zM s20 52) fun s21 => some s21
set_option maxRecDepth 100000 in
set_option maxHeartbeats 4000000 in
theorem conc_X7_init_1 (l : Launch) (N : Nat) (s0 : jM) : Con l 112 yX7_init cX7_init 1 none (eC shc_114 52 3906) shc_1 [.ref 0] s0 (fc_X7_init_1 N s0) := by
  refine Con_of (ls0 := [some (.ref 0)]) (ini := true) (mc := 52) (ms := 3906) (by decide +kernel) rfl (Nat.le_of_ble_eq_true rfl) (fun _ => rfl) (fun _ _ => rfl) ?_
  unfold fc_X7_init_1
  refine J_aload_n (i := 0) dX7_init_0 rfl rfl ?_
  refine J_objI dX7_init_1 (mTB 108 w_108 rfl) obj_in obj_cd ⟨by simp only [rmD]; omega, by simp only [rmD, List.map_nil, List.map_cons, List.sum_nil, List.sum_cons, Value.category]; omega⟩ ?_
  refine J_aload_n (i := 0) dX7_init_4 rfl rfl ?_
  refine J_new (ci := 5) (a := 1) (sl := [some (some none), some (some none), some (some none), some (some none), none, none, none, some (some none), none, some (some none), some (some none), some (some none), none]) (Sh2 := shc_2) dX7_init_5 rfl uin_5 tyX5 tyX5_ok (mTB 111 w_111 rfl) (mTB 112 w_112 rfl) (mTB 86 w_86 rfl) (by decide +kernel) noCx_ok (by decide +kernel) (by decide) rfl rfl (by decide +kernel) rfl rfl ⟨by decide, by decide⟩ (fun s1 => ?_)
  refine J_dup dX7_init_8 rfl ?_
  refine J_callI (Sh2 := shc_18) (mc := 8) (ms := 96) (sg := fun r => r) 1 [] dX7_init_9 ca_X5_init lk_RX7_9 obj_vi_X5_init rfl rfl rfl ⟨by show _ ≤ _; simp only [rmD]; omega, by show _ ≤ _; simp only [rmD]; omega⟩ (Nat.le_of_ble_eq_true rfl) ⟨by decide, by decide⟩ (conc_X5_init_2 l _) (fun _ => rfl) noCx_ok rfl rfl (by decide +kernel) (fun s2 _ => ?_)
  refine J_putR (sl := [some (some none), some (some none), some (some none), some (some none), some (some none), some (some none), some (some none), some (some none), some (some none), some (some none), some (some none), some (some none), none, none, none]) (Sh2 := shc_19) dX7_init_12 fp_RX7_10 (fun _ => rfl) (by decide +kernel) rfl rfl (fun _ => rfl) (fun _ => rfl) ?_
  refine J_aload_n (i := 0) dX7_init_15 rfl rfl ?_
  refine J_new (ci := 5) (a := 10) (sl := [some (some none), some (some none), some (some none), some (some none), none, none, none, some (some none), none, some (some none), some (some none), some (some none), none]) (Sh2 := shc_20) dX7_init_16 rfl uin_5 tyX5 tyX5_ok (mTB 111 w_111 rfl) (mTB 112 w_112 rfl) (mTB 86 w_86 rfl) (by decide +kernel) noCx_ok (by decide +kernel) (by decide) rfl rfl (by decide +kernel) rfl rfl ⟨by decide, by decide⟩ (fun s3 => ?_)
  refine J_dup dX7_init_19 rfl ?_
  refine J_callI (Sh2 := shc_36) (mc := 8) (ms := 96) (sg := fun r => r) 10 [] dX7_init_20 ca_X5_init lk_RX7_9 obj_vi_X5_init rfl rfl rfl ⟨by show _ ≤ _; simp only [rmD]; omega, by show _ ≤ _; simp only [rmD]; omega⟩ (Nat.le_of_ble_eq_true rfl) ⟨by decide, by decide⟩ (conc_X5_init_3 l _) (fun _ => rfl) noCx_ok rfl rfl (by decide +kernel) (fun s4 _ => ?_)
  refine J_putR (sl := [some (some (some 1)), some (some none), some (some none), some (some none), some (some none), some (some none), some (some none), some (some none), some (some none), some (some none), some (some none), some (some none), none, none, none]) (Sh2 := shc_37) dX7_init_23 fp_RX7_16 (fun _ => rfl) (by decide +kernel) rfl rfl (fun _ => rfl) (fun _ => rfl) ?_
  refine J_aload_n (i := 0) dX7_init_26 rfl rfl ?_
  refine J_new (ci := 5) (a := 19) (sl := [some (some none), some (some none), some (some none), some (some none), none, none, none, some (some none), none, some (some none), some (some none), some (some none), none]) (Sh2 := shc_38) dX7_init_27 rfl uin_5 tyX5 tyX5_ok (mTB 111 w_111 rfl) (mTB 112 w_112 rfl) (mTB 86 w_86 rfl) (by decide +kernel) noCx_ok (by decide +kernel) (by decide) rfl rfl (by decide +kernel) rfl rfl ⟨by decide, by decide⟩ (fun s5 => ?_)
  refine J_dup dX7_init_30 rfl ?_
  refine J_callI (Sh2 := shc_54) (mc := 8) (ms := 96) (sg := fun r => r) 19 [] dX7_init_31 ca_X5_init lk_RX7_9 obj_vi_X5_init rfl rfl rfl ⟨by show _ ≤ _; simp only [rmD]; omega, by show _ ≤ _; simp only [rmD]; omega⟩ (Nat.le_of_ble_eq_true rfl) ⟨by decide, by decide⟩ (conc_X5_init_4 l _) (fun _ => rfl) noCx_ok rfl rfl (by decide +kernel) (fun s6 _ => ?_)
  refine J_putR (sl := [some (some (some 1)), some (some (some 10)), some (some none), some (some none), some (some none), some (some none), some (some none), some (some none), some (some none), some (some none), some (some none), some (some none), none, none, none]) (Sh2 := shc_55) dX7_init_34 fp_RX7_19 (fun _ => rfl) (by decide +kernel) rfl rfl (fun _ => rfl) (fun _ => rfl) ?_
  refine J_aload_n (i := 0) dX7_init_37 rfl rfl ?_
  refine J_iconst (v := (2 : Int32)) dX7_init_38 (by decide) ?_
  refine J_newarr (a := 28) (N := 2) (ty := .boolean) (Sh2 := shc_56) dX7_init_39 rfl (mTB 371 w_371 rfl) (by decide) (by decide) (by decide) (by decide) noCx_ok (by decide +kernel) (by decide) rfl (by decide +kernel) rfl rfl ⟨by decide, by decide⟩ (fun s7 => ?_)
  refine J_putR (sl := [some (some (some 1)), some (some (some 10)), some (some (some 19)), some (some none), some (some none), some (some none), some (some none), some (some none), some (some none), some (some none), some (some none), some (some none), none, none, none]) (Sh2 := shc_57) dX7_init_41 fp_RX7_22 (fun _ => rfl) (by decide +kernel) rfl rfl (fun _ => rfl) (fun _ => rfl) ?_
  refine J_aload_n (i := 0) dX7_init_44 rfl rfl ?_
  refine J_new (ci := 6) (a := 29) (sl := [some (some none), some (some none), some (some none), none, some (some none), none, none, none, none]) (Sh2 := shc_58) dX7_init_45 rfl uin_6 tyX6 tyX6_ok (mTB 178 w_178 rfl) (mTB 179 w_179 rfl) (mTB 87 w_87 rfl) (by decide +kernel) noCx_ok (by decide +kernel) (by decide) rfl rfl (by decide +kernel) rfl rfl ⟨by decide, by decide⟩ (fun s8 => ?_)
  refine J_dup dX7_init_48 rfl ?_
  refine J_aload_n (i := 0) dX7_init_49 rfl rfl ?_
  refine J_getR (r := 1) dX7_init_50 fl_RX7_10 (by decide +kernel) ?_
  refine J_callI (Sh2 := shc_65) (mc := 3) (ms := 120) (sg := fun r => r) 29 [.ref 1] dX7_init_53 ca_X6_init lk_RX7_28 obj_vi_X6_init rfl rfl rfl ⟨by show _ ≤ _; simp only [rmD]; omega, by show _ ≤ _; simp only [rmD]; omega⟩ (Nat.le_of_ble_eq_true rfl) ⟨by decide, by decide⟩ (conc_X6_init_5 l N _) (fun _ => rfl) noCx_ok rfl rfl (by decide +kernel) (fun s9 _ => ?_)
  refine J_putR (sl := [some (some (some 1)), some (some (some 10)), some (some (some 19)), some (some (some 28)), some (some none), some (some none), some (some none), some (some none), some (some none), some (some none), some (some none), some (some none), none, none, none]) (Sh2 := shc_66) dX7_init_56 fp_RX7_31 (fun _ => rfl) (by decide +kernel) rfl rfl (fun _ => rfl) (fun _ => rfl) ?_
  refine J_aload_n (i := 0) dX7_init_59 rfl rfl ?_
  refine J_new (ci := 4) (a := 33) (sl := [some (some none), some (some none), some (some none), some (some none), some (some none), none]) (Sh2 := shc_67) dX7_init_60 rfl uin_4 tyX4 tyX4_ok (mTB 374 w_374 rfl) (mTB 375 w_375 rfl) (mTB 94 w_94 rfl) (by decide +kernel) noCx_ok (by decide +kernel) (by decide) rfl rfl (by decide +kernel) rfl rfl ⟨by decide, by decide⟩ (fun s10 => ?_)
  refine J_dup dX7_init_63 rfl ?_
  refine J_aload_n (i := 0) dX7_init_64 rfl rfl ?_
  refine J_getR (r := 1) dX7_init_65 fl_RX7_10 (by decide +kernel) ?_
  refine J_aload_n (i := 0) dX7_init_68 rfl rfl ?_
  refine J_getR (r := 29) dX7_init_69 fl_RX7_31 (by decide +kernel) ?_
  refine J_callI (Sh2 := shc_75) (mc := 3) (ms := 1605) (sg := fun r => r) 33 [.ref 1, .ref 29] dX7_init_72 ca_X4_init lk_RX7_37 obj_vi_X4_init rfl rfl rfl ⟨by show _ ≤ _; simp only [rmD]; omega, by show _ ≤ _; simp only [rmD]; omega⟩ (Nat.le_of_ble_eq_true rfl) ⟨by decide, by decide⟩ (conc_X4_init_6 l _) (fun _ => rfl) noCx_ok rfl rfl (by decide +kernel) (fun s11 _ => ?_)
  refine J_putR (sl := [some (some (some 1)), some (some (some 10)), some (some (some 19)), some (some (some 28)), some (some (some 29)), some (some none), some (some none), some (some none), some (some none), some (some none), some (some none), some (some none), none, none, none]) (Sh2 := shc_76) dX7_init_75 fp_RX7_40 (fun _ => rfl) (by decide +kernel) rfl rfl (fun _ => rfl) (fun _ => rfl) ?_
  refine J_aload_n (i := 0) dX7_init_78 rfl rfl ?_
  refine J_new (ci := 1) (a := 37) (sl := [some (some none), some (some none), some (some none), some (some none), some (some none), none, none, none, none]) (Sh2 := shc_77) dX7_init_79 rfl uin_1 tyX1 tyX1_ok (mTB 400 w_400 rfl) (mTB 401 w_401 rfl) (mTB 95 w_95 rfl) (by decide +kernel) noCx_ok (by decide +kernel) (by decide) rfl rfl (by decide +kernel) rfl rfl ⟨by decide, by decide⟩ (fun s12 => ?_)
  refine J_dup dX7_init_82 rfl ?_
  refine J_aload_n (i := 0) dX7_init_83 rfl rfl ?_
  refine J_getR (r := 1) dX7_init_84 fl_RX7_10 (by decide +kernel) ?_
  refine J_aload_n (i := 0) dX7_init_87 rfl rfl ?_
  refine J_getR (r := 33) dX7_init_88 fl_RX7_40 (by decide +kernel) ?_
  refine J_callI (Sh2 := shc_85) (mc := 3) (ms := 216) (sg := fun r => r) 37 [.ref 1, .ref 33] dX7_init_91 ca_X1_init lk_RX7_46 obj_vi_X1_init rfl rfl rfl ⟨by show _ ≤ _; simp only [rmD]; omega, by show _ ≤ _; simp only [rmD]; omega⟩ (Nat.le_of_ble_eq_true rfl) ⟨by decide, by decide⟩ (conc_X1_init_7 l _) (fun _ => rfl) noCx_ok rfl rfl (by decide +kernel) (fun s13 _ => ?_)
  refine J_putR (sl := [some (some (some 1)), some (some (some 10)), some (some (some 19)), some (some (some 28)), some (some (some 29)), some (some (some 33)), some (some none), some (some none), some (some none), some (some none), some (some none), some (some none), none, none, none]) (Sh2 := shc_86) dX7_init_94 fp_RX7_49 (fun _ => rfl) (by decide +kernel) rfl rfl (fun _ => rfl) (fun _ => rfl) ?_
  refine J_aload_n (i := 0) dX7_init_97 rfl rfl ?_
  refine J_new (ci := 0) (a := 41) (sl := [some (some none), some (some none), some (some none), some (some none), some (some none), some (some none), some (some none), some (some none), some (some none), none, none, none, none, none, none]) (Sh2 := shc_87) dX7_init_98 rfl uin_0 tyX0 tyX0_ok (mTB 440 w_440 rfl) (mTB 441 w_441 rfl) (mTB 96 w_96 rfl) (by decide +kernel) noCx_ok (by decide +kernel) (by decide) rfl rfl (by decide +kernel) rfl rfl ⟨by decide, by decide⟩ (fun s14 => ?_)
  refine J_dup dX7_init_101 rfl ?_
  refine J_aload_n (i := 0) dX7_init_102 rfl rfl ?_
  refine J_getR (r := 1) dX7_init_103 fl_RX7_10 (by decide +kernel) ?_
  refine J_aload_n (i := 0) dX7_init_106 rfl rfl ?_
  refine J_getR (r := 33) dX7_init_107 fl_RX7_40 (by decide +kernel) ?_
  refine J_callI (Sh2 := shc_103) (mc := 7) (ms := 1544) (sg := fun r => r) 41 [.ref 1, .ref 33] dX7_init_110 ca_X0_init lk_RX7_55 obj_vi_X0_init rfl rfl rfl ⟨by show _ ≤ _; simp only [rmD]; omega, by show _ ≤ _; simp only [rmD]; omega⟩ (Nat.le_of_ble_eq_true rfl) ⟨by decide, by decide⟩ (conc_X0_init_8 l _) (fun _ => rfl) noCx_ok rfl rfl (by decide +kernel) (fun s15 _ => ?_)
  refine J_putR (sl := [some (some (some 1)), some (some (some 10)), some (some (some 19)), some (some (some 28)), some (some (some 29)), some (some (some 33)), some (some (some 37)), some (some none), some (some none), some (some none), some (some none), some (some none), none, none, none]) (Sh2 := shc_104) dX7_init_113 fp_RX7_56 (fun _ => rfl) (by decide +kernel) rfl rfl (fun _ => rfl) (fun _ => rfl) ?_
  refine J_aload_n (i := 0) dX7_init_116 rfl rfl ?_
  refine J_new (ci := 3) (a := 49) (sl := [some (some none), some (some none)]) (Sh2 := shc_105) dX7_init_117 rfl uin_3 tyX3 tyX3_ok (mTB 499 w_499 rfl) (mTB 500 w_500 rfl) (mTB 97 w_97 rfl) (by decide +kernel) noCx_ok (by decide +kernel) (by decide) rfl rfl (by decide +kernel) rfl rfl ⟨by decide, by decide⟩ (fun s16 => ?_)
  refine J_dup dX7_init_120 rfl ?_
  refine J_aload_n (i := 0) dX7_init_121 rfl rfl ?_
  refine J_getR (r := 1) dX7_init_122 fl_RX7_10 (by decide +kernel) ?_
  refine J_aload_n (i := 0) dX7_init_125 rfl rfl ?_
  refine J_getR (r := 33) dX7_init_126 fl_RX7_40 (by decide +kernel) ?_
  refine J_callI (Sh2 := shc_107) (mc := 0) (ms := 0) (sg := fun r => r) 49 [.ref 1, .ref 33] dX7_init_129 ca_X3_init lk_RX7_62 obj_vi_X3_init rfl rfl rfl ⟨by show _ ≤ _; simp only [rmD]; omega, by show _ ≤ _; simp only [rmD]; omega⟩ (Nat.le_of_ble_eq_true rfl) ⟨by decide, by decide⟩ (conc_X3_init_9 l _) (fun _ => rfl) noCx_ok rfl rfl (by decide +kernel) (fun s17 _ => ?_)
  refine J_putR (sl := [some (some (some 1)), some (some (some 10)), some (some (some 19)), some (some (some 28)), some (some (some 29)), some (some (some 33)), some (some (some 37)), some (some (some 41)), some (some none), some (some none), some (some none), some (some none), none, none, none]) (Sh2 := shc_108) dX7_init_132 fp_RX7_63 (fun _ => rfl) (by decide +kernel) rfl rfl (fun _ => rfl) (fun _ => rfl) ?_
  refine J_aload_n (i := 0) dX7_init_135 rfl rfl ?_
  refine J_new (ci := 2) (a := 50) (sl := [some none, some none]) (Sh2 := shc_109) dX7_init_136 rfl uin_2 tyX2 tyX2_ok (mTB 512 w_512 rfl) (mTB 513 w_513 rfl) (mTB 98 w_98 rfl) (by decide +kernel) noCx_ok (by decide +kernel) (by decide) rfl rfl (by decide +kernel) rfl rfl ⟨by decide, by decide⟩ (fun s18 => ?_)
  refine J_dup dX7_init_139 rfl ?_
  refine J_callI (Sh2 := shc_109) (mc := 0) (ms := 0) (sg := fun r => r) 50 [] dX7_init_140 ca_X2_init lk_RX7_69 obj_vi_X2_init rfl rfl rfl ⟨by show _ ≤ _; simp only [rmD]; omega, by show _ ≤ _; simp only [rmD]; omega⟩ (Nat.le_of_ble_eq_true rfl) ⟨by decide, by decide⟩ (conc_X2_init_10 l _) (fun _ => rfl) noCx_ok rfl rfl (by decide +kernel) (fun s19 _ => ?_)
  refine J_putR (sl := [some (some (some 1)), some (some (some 10)), some (some (some 19)), some (some (some 28)), some (some (some 29)), some (some (some 33)), some (some (some 37)), some (some (some 41)), some (some (some 49)), some (some none), some (some none), some (some none), none, none, none]) (Sh2 := shc_110) dX7_init_143 fp_RX7_70 (fun _ => rfl) (by decide +kernel) rfl rfl (fun _ => rfl) (fun _ => rfl) ?_
  refine J_aload_n (i := 0) dX7_init_146 rfl rfl ?_
  refine J_bipush (v := (9 : Int32)) dX7_init_147 (by decide) ?_
  refine J_newarr (a := 51) (N := 9) (ty := .long) (Sh2 := shc_111) dX7_init_149 rfl (mTB 372 w_372 rfl) (by decide) (by decide) (by decide) (by decide) noCx_ok (by decide +kernel) (by decide) rfl (by decide +kernel) rfl rfl ⟨by decide, by decide⟩ (fun s20 => ?_)
  refine J_putR (sl := [some (some (some 1)), some (some (some 10)), some (some (some 19)), some (some (some 28)), some (some (some 29)), some (some (some 33)), some (some (some 37)), some (some (some 41)), some (some (some 49)), some (some (some 50)), some (some none), some (some none), none, none, none]) (Sh2 := shc_112) dX7_init_151 fp_RX7_74 (fun _ => rfl) (by decide +kernel) rfl rfl (fun _ => rfl) (fun _ => rfl) ?_
  refine J_aload_n (i := 0) dX7_init_154 rfl rfl ?_
  refine J_bipush (v := (40 : Int32)) dX7_init_155 (by decide) ?_
  refine J_newarr (a := 52) (N := 40) (ty := .int) (Sh2 := shc_113) dX7_init_157 rfl (mTB 176 w_176 rfl) (by decide) (by decide) (by decide) (by decide) noCx_ok (by decide +kernel) (by decide) rfl (by decide +kernel) rfl rfl ⟨by decide, by decide⟩ (fun s21 => ?_)
  refine J_putR (sl := [some (some (some 1)), some (some (some 10)), some (some (some 19)), some (some (some 28)), some (some (some 29)), some (some (some 33)), some (some (some 37)), some (some (some 41)), some (some (some 49)), some (some (some 50)), some (some (some 51)), some (some none), none, none, none]) (Sh2 := shc_114) dX7_init_159 fp_RX7_78 (fun _ => rfl) (by decide +kernel) rfl rfl (fun _ => rfl) (fun _ => rfl) ?_
  exact J_return dX7_init_162 rfl rfl
def fc_X8_init_11 (s0 : jM) : Option jM := lt_ (zM s0 54) fun s1 => lt_ (zM s1 55) fun s2 => lt_ (zM s2 56) fun s3 => lt_ (zM s3 57) fun s4 => lt_ (pL s4 53 5 (1 : Int64)) fun s5 => lt_ (zM s5 58) fun s6 => lt_ (zM s6 59) fun s7 => lt_ (zM s7 60) fun s8 => lt_ (zM s8 61) fun s9 => lt_ (zM s9 62) fun s10 => lt_ (zM s10 63) fun s11 => lt_ (zM s11 64) fun s12 => lt_ (zM s12 65) fun s13 => lt_ (zM s13 66) fun s14 => lt_ (zM s14 67) fun s15 => lt_ (zM s15 68) fun s16 => lt_ (zM s16 69) fun s17 => lt_ (zM s17 70) fun s18 => gd (ib (33 : Int32) 101) <| lt_ (pI s18 54 (Int32.toNatClampNeg (33 : Int32)) (3 : Int32)) fun s19 => some s19
set_option maxRecDepth 100000 in
set_option maxHeartbeats 4000000 in
theorem conc_X8_init_11 (l : Launch) (s0 : jM) : Con l 2 yX8_init cX8_init 1 none (eC shc_149 17 1834) shc_115 [.ref 53] s0 (fc_X8_init_11 s0) := by
  refine Con_of (ls0 := [some (.ref 53)]) (ini := true) (mc := 17) (ms := 1834) (by decide +kernel) rfl (Nat.le_of_ble_eq_true rfl) (fun _ => rfl) (fun _ _ => rfl) ?_
  unfold fc_X8_init_11
  refine J_aload_n (i := 0) dX8_init_0 rfl rfl ?_
  refine J_objI dX8_init_1 (mTB 877 w_877 rfl) obj_in obj_cd ⟨by simp only [rmD]; omega, by simp only [rmD, List.map_nil, List.map_cons, List.sum_nil, List.sum_cons, Value.category]; omega⟩ ?_
  refine J_aload_n (i := 0) dX8_init_4 rfl rfl ?_
  refine J_bipush (v := (101 : Int32)) dX8_init_5 (by decide) ?_
  refine J_newarr (a := 54) (N := 101) (ty := .int) (Sh2 := shc_116) dX8_init_7 rfl (mTB 176 w_176 rfl) (by decide) (by decide) (by decide) (by decide) noCx_ok (by decide +kernel) (by decide) rfl (by decide +kernel) rfl rfl ⟨by decide, by decide⟩ (fun s1 => ?_)
  refine J_putR (sl := [some (some none), some (some none), some (some none), some (some none), some none, some none, none, none, some (some none), none, some (some none), none, some (some none), some none, some (some none), some (some none), some (some none), none, none, some (some none), some (some none), some (some none), some (some none), none, some (some none), some (some none), some (some none)]) (Sh2 := shc_117) dX8_init_9 fp_RX8_7 (fun _ => rfl) (by decide +kernel) rfl rfl (fun _ => rfl) (fun _ => rfl) ?_
  refine J_aload_n (i := 0) dX8_init_12 rfl rfl ?_
  refine J_sipush (v := (202 : Int32)) dX8_init_13 (by decide) ?_
  refine J_newarr (a := 55) (N := 202) (ty := .int) (Sh2 := shc_118) dX8_init_16 rfl (mTB 176 w_176 rfl) (by decide) (by decide) (by decide) (by decide) noCx_ok (by decide +kernel) (by decide) rfl (by decide +kernel) rfl rfl ⟨by decide, by decide⟩ (fun s2 => ?_)
  refine J_putR (sl := [some (some (some 54)), some (some none), some (some none), some (some none), some none, some none, none, none, some (some none), none, some (some none), none, some (some none), some none, some (some none), some (some none), some (some none), none, none, some (some none), some (some none), some (some none), some (some none), none, some (some none), some (some none), some (some none)]) (Sh2 := shc_119) dX8_init_18 fp_RX8_13 (fun _ => rfl) (by decide +kernel) rfl rfl (fun _ => rfl) (fun _ => rfl) ?_
  refine J_aload_n (i := 0) dX8_init_21 rfl rfl ?_
  refine J_iconst (v := (2 : Int32)) dX8_init_22 (by decide) ?_
  refine J_newarr (a := 56) (N := 2) (ty := .boolean) (Sh2 := shc_120) dX8_init_23 rfl (mTB 371 w_371 rfl) (by decide) (by decide) (by decide) (by decide) noCx_ok (by decide +kernel) (by decide) rfl (by decide +kernel) rfl rfl ⟨by decide, by decide⟩ (fun s3 => ?_)
  refine J_putR (sl := [some (some (some 54)), some (some (some 55)), some (some none), some (some none), some none, some none, none, none, some (some none), none, some (some none), none, some (some none), some none, some (some none), some (some none), some (some none), none, none, some (some none), some (some none), some (some none), some (some none), none, some (some none), some (some none), some (some none)]) (Sh2 := shc_121) dX8_init_25 fp_RX8_16 (fun _ => rfl) (by decide +kernel) rfl rfl (fun _ => rfl) (fun _ => rfl) ?_
  refine J_aload_n (i := 0) dX8_init_28 rfl rfl ?_
  refine J_iconst (v := (3 : Int32)) dX8_init_29 (by decide) ?_
  refine J_newarr (a := 57) (N := 3) (ty := .int) (Sh2 := shc_122) dX8_init_30 rfl (mTB 176 w_176 rfl) (by decide) (by decide) (by decide) (by decide) noCx_ok (by decide +kernel) (by decide) rfl (by decide +kernel) rfl rfl ⟨by decide, by decide⟩ (fun s4 => ?_)
  refine J_putR (sl := [some (some (some 54)), some (some (some 55)), some (some (some 56)), some (some none), some none, some none, none, none, some (some none), none, some (some none), none, some (some none), some none, some (some none), some (some none), some (some none), none, none, some (some none), some (some none), some (some none), some (some none), none, some (some none), some (some none), some (some none)]) (Sh2 := shc_123) dX8_init_32 fp_RX8_20 (fun _ => rfl) (by decide +kernel) rfl rfl (fun _ => rfl) (fun _ => rfl) ?_
  refine J_aload_n (i := 0) dX8_init_35 rfl rfl ?_
  refine J_lconst (v := (1 : Int64)) dX8_init_36 (by decide) ?_
  refine J_putL dX8_init_37 fp_RX8_23 (fun _ => rfl) (by decide +kernel) rfl rfl ?_
  refine J_letM rfl (fun s5 => ?_)
  refine J_aload_n (i := 0) dX8_init_40 rfl rfl ?_
  refine J_bipush (v := (64 : Int32)) dX8_init_41 (by decide) ?_
  refine J_newarr (a := 58) (N := 64) (ty := .long) (Sh2 := shc_124) dX8_init_43 rfl (mTB 372 w_372 rfl) (by decide) (by decide) (by decide) (by decide) noCx_ok (by decide +kernel) (by decide) rfl (by decide +kernel) rfl rfl ⟨by decide, by decide⟩ (fun s6 => ?_)
  refine J_putR (sl := [some (some (some 54)), some (some (some 55)), some (some (some 56)), some (some (some 57)), some none, some none, none, none, some (some none), none, some (some none), none, some (some none), some none, some (some none), some (some none), some (some none), none, none, some (some none), some (some none), some (some none), some (some none), none, some (some none), some (some none), some (some none)]) (Sh2 := shc_125) dX8_init_45 fp_RX8_27 (fun _ => rfl) (by decide +kernel) rfl rfl (fun _ => rfl) (fun _ => rfl) ?_
  refine J_aload_n (i := 0) dX8_init_48 rfl rfl ?_
  refine J_sipush (v := (128 : Int32)) dX8_init_49 (by decide) ?_
  refine J_newarr (a := 59) (N := 128) (ty := .int) (Sh2 := shc_126) dX8_init_52 rfl (mTB 176 w_176 rfl) (by decide) (by decide) (by decide) (by decide) noCx_ok (by decide +kernel) (by decide) rfl (by decide +kernel) rfl rfl ⟨by decide, by decide⟩ (fun s7 => ?_)
  refine J_putR (sl := [some (some (some 54)), some (some (some 55)), some (some (some 56)), some (some (some 57)), some none, some none, none, none, some (some (some 58)), none, some (some none), none, some (some none), some none, some (some none), some (some none), some (some none), none, none, some (some none), some (some none), some (some none), some (some none), none, some (some none), some (some none), some (some none)]) (Sh2 := shc_127) dX8_init_54 fp_RX8_31 (fun _ => rfl) (by decide +kernel) rfl rfl (fun _ => rfl) (fun _ => rfl) ?_
  refine J_aload_n (i := 0) dX8_init_57 rfl rfl ?_
  refine J_bipush (v := (6 : Int32)) dX8_init_58 (by decide) ?_
  refine J_newarr (a := 60) (N := 6) (ty := .long) (Sh2 := shc_128) dX8_init_60 rfl (mTB 372 w_372 rfl) (by decide) (by decide) (by decide) (by decide) noCx_ok (by decide +kernel) (by decide) rfl (by decide +kernel) rfl rfl ⟨by decide, by decide⟩ (fun s8 => ?_)
  refine J_putR (sl := [some (some (some 54)), some (some (some 55)), some (some (some 56)), some (some (some 57)), some none, some none, none, none, some (some (some 58)), none, some (some (some 59)), none, some (some none), some none, some (some none), some (some none), some (some none), none, none, some (some none), some (some none), some (some none), some (some none), none, some (some none), some (some none), some (some none)]) (Sh2 := shc_129) dX8_init_62 fp_RX8_34 (fun _ => rfl) (by decide +kernel) rfl rfl (fun _ => rfl) (fun _ => rfl) ?_
  refine J_aload_n (i := 0) dX8_init_65 rfl rfl ?_
  refine J_bipush (v := (8 : Int32)) dX8_init_66 (by decide) ?_
  refine J_newarr (a := 61) (N := 8) (ty := .int) (Sh2 := shc_130) dX8_init_68 rfl (mTB 176 w_176 rfl) (by decide) (by decide) (by decide) (by decide) noCx_ok (by decide +kernel) (by decide) rfl (by decide +kernel) rfl rfl ⟨by decide, by decide⟩ (fun s9 => ?_)
  refine J_putR (sl := [some (some (some 54)), some (some (some 55)), some (some (some 56)), some (some (some 57)), some none, some none, none, none, some (some (some 58)), none, some (some (some 59)), none, some (some (some 60)), some none, some (some none), some (some none), some (some none), none, none, some (some none), some (some none), some (some none), some (some none), none, some (some none), some (some none), some (some none)]) (Sh2 := shc_131) dX8_init_70 fp_RX8_37 (fun _ => rfl) (by decide +kernel) rfl rfl (fun _ => rfl) (fun _ => rfl) ?_
  refine J_aload_n (i := 0) dX8_init_73 rfl rfl ?_
  refine J_bipush (v := (8 : Int32)) dX8_init_74 (by decide) ?_
  refine J_newarr (a := 62) (N := 8) (ty := .int) (Sh2 := shc_132) dX8_init_76 rfl (mTB 176 w_176 rfl) (by decide) (by decide) (by decide) (by decide) noCx_ok (by decide +kernel) (by decide) rfl (by decide +kernel) rfl rfl ⟨by decide, by decide⟩ (fun s10 => ?_)
  refine J_putR (sl := [some (some (some 54)), some (some (some 55)), some (some (some 56)), some (some (some 57)), some none, some none, none, none, some (some (some 58)), none, some (some (some 59)), none, some (some (some 60)), some none, some (some (some 61)), some (some none), some (some none), none, none, some (some none), some (some none), some (some none), some (some none), none, some (some none), some (some none), some (some none)]) (Sh2 := shc_133) dX8_init_78 fp_RX8_40 (fun _ => rfl) (by decide +kernel) rfl rfl (fun _ => rfl) (fun _ => rfl) ?_
  refine J_aload_n (i := 0) dX8_init_81 rfl rfl ?_
  refine J_sipush (v := (200 : Int32)) dX8_init_82 (by decide) ?_
  refine J_newarr (a := 63) (N := 200) (ty := .int) (Sh2 := shc_134) dX8_init_85 rfl (mTB 176 w_176 rfl) (by decide) (by decide) (by decide) (by decide) noCx_ok (by decide +kernel) (by decide) rfl (by decide +kernel) rfl rfl ⟨by decide, by decide⟩ (fun s11 => ?_)
  refine J_putR (sl := [some (some (some 54)), some (some (some 55)), some (some (some 56)), some (some (some 57)), some none, some none, none, none, some (some (some 58)), none, some (some (some 59)), none, some (some (some 60)), some none, some (some (some 61)), some (some (some 62)), some (some none), none, none, some (some none), some (some none), some (some none), some (some none), none, some (some none), some (some none), some (some none)]) (Sh2 := shc_135) dX8_init_87 fp_RX8_43 (fun _ => rfl) (by decide +kernel) rfl rfl (fun _ => rfl) (fun _ => rfl) ?_
  refine J_aload_n (i := 0) dX8_init_90 rfl rfl ?_
  refine J_sipush (v := (256 : Int32)) dX8_init_91 (by decide) ?_
  refine J_newarr (a := 64) (N := 256) (ty := .int) (Sh2 := shc_136) dX8_init_94 rfl (mTB 176 w_176 rfl) (by decide) (by decide) (by decide) (by decide) noCx_ok (by decide +kernel) (by decide) rfl (by decide +kernel) rfl rfl ⟨by decide, by decide⟩ (fun s12 => ?_)
  refine J_putR (sl := [some (some (some 54)), some (some (some 55)), some (some (some 56)), some (some (some 57)), some none, some none, none, none, some (some (some 58)), none, some (some (some 59)), none, some (some (some 60)), some none, some (some (some 61)), some (some (some 62)), some (some (some 63)), none, none, some (some none), some (some none), some (some none), some (some none), none, some (some none), some (some none), some (some none)]) (Sh2 := shc_137) dX8_init_96 fp_RX8_46 (fun _ => rfl) (by decide +kernel) rfl rfl (fun _ => rfl) (fun _ => rfl) ?_
  refine J_aload_n (i := 0) dX8_init_99 rfl rfl ?_
  refine J_sipush (v := (256 : Int32)) dX8_init_100 (by decide) ?_
  refine J_newarr (a := 65) (N := 256) (ty := .int) (Sh2 := shc_138) dX8_init_103 rfl (mTB 176 w_176 rfl) (by decide) (by decide) (by decide) (by decide) noCx_ok (by decide +kernel) (by decide) rfl (by decide +kernel) rfl rfl ⟨by decide, by decide⟩ (fun s13 => ?_)
  refine J_putR (sl := [some (some (some 54)), some (some (some 55)), some (some (some 56)), some (some (some 57)), some none, some none, none, none, some (some (some 58)), none, some (some (some 59)), none, some (some (some 60)), some none, some (some (some 61)), some (some (some 62)), some (some (some 63)), none, none, some (some (some 64)), some (some none), some (some none), some (some none), none, some (some none), some (some none), some (some none)]) (Sh2 := shc_139) dX8_init_105 fp_RX8_49 (fun _ => rfl) (by decide +kernel) rfl rfl (fun _ => rfl) (fun _ => rfl) ?_
  refine J_aload_n (i := 0) dX8_init_108 rfl rfl ?_
  refine J_sipush (v := (256 : Int32)) dX8_init_109 (by decide) ?_
  refine J_newarr (a := 66) (N := 256) (ty := .int) (Sh2 := shc_140) dX8_init_112 rfl (mTB 176 w_176 rfl) (by decide) (by decide) (by decide) (by decide) noCx_ok (by decide +kernel) (by decide) rfl (by decide +kernel) rfl rfl ⟨by decide, by decide⟩ (fun s14 => ?_)
  refine J_putR (sl := [some (some (some 54)), some (some (some 55)), some (some (some 56)), some (some (some 57)), some none, some none, none, none, some (some (some 58)), none, some (some (some 59)), none, some (some (some 60)), some none, some (some (some 61)), some (some (some 62)), some (some (some 63)), none, none, some (some (some 64)), some (some (some 65)), some (some none), some (some none), none, some (some none), some (some none), some (some none)]) (Sh2 := shc_141) dX8_init_114 fp_RX8_52 (fun _ => rfl) (by decide +kernel) rfl rfl (fun _ => rfl) (fun _ => rfl) ?_
  refine J_aload_n (i := 0) dX8_init_117 rfl rfl ?_
  refine J_sipush (v := (256 : Int32)) dX8_init_118 (by decide) ?_
  refine J_newarr (a := 67) (N := 256) (ty := .int) (Sh2 := shc_142) dX8_init_121 rfl (mTB 176 w_176 rfl) (by decide) (by decide) (by decide) (by decide) noCx_ok (by decide +kernel) (by decide) rfl (by decide +kernel) rfl rfl ⟨by decide, by decide⟩ (fun s15 => ?_)
  refine J_putR (sl := [some (some (some 54)), some (some (some 55)), some (some (some 56)), some (some (some 57)), some none, some none, none, none, some (some (some 58)), none, some (some (some 59)), none, some (some (some 60)), some none, some (some (some 61)), some (some (some 62)), some (some (some 63)), none, none, some (some (some 64)), some (some (some 65)), some (some (some 66)), some (some none), none, some (some none), some (some none), some (some none)]) (Sh2 := shc_143) dX8_init_123 fp_RX8_55 (fun _ => rfl) (by decide +kernel) rfl rfl (fun _ => rfl) (fun _ => rfl) ?_
  refine J_aload_n (i := 0) dX8_init_126 rfl rfl ?_
  refine J_bipush (v := (8 : Int32)) dX8_init_127 (by decide) ?_
  refine J_newarr (a := 68) (N := 8) (ty := .int) (Sh2 := shc_144) dX8_init_129 rfl (mTB 176 w_176 rfl) (by decide) (by decide) (by decide) (by decide) noCx_ok (by decide +kernel) (by decide) rfl (by decide +kernel) rfl rfl ⟨by decide, by decide⟩ (fun s16 => ?_)
  refine J_putR (sl := [some (some (some 54)), some (some (some 55)), some (some (some 56)), some (some (some 57)), some none, some none, none, none, some (some (some 58)), none, some (some (some 59)), none, some (some (some 60)), some none, some (some (some 61)), some (some (some 62)), some (some (some 63)), none, none, some (some (some 64)), some (some (some 65)), some (some (some 66)), some (some (some 67)), none, some (some none), some (some none), some (some none)]) (Sh2 := shc_145) dX8_init_131 fp_RX8_58 (fun _ => rfl) (by decide +kernel) rfl rfl (fun _ => rfl) (fun _ => rfl) ?_
  refine J_aload_n (i := 0) dX8_init_134 rfl rfl ?_
  refine J_bipush (v := (40 : Int32)) dX8_init_135 (by decide) ?_
  refine J_newarr (a := 69) (N := 40) (ty := .int) (Sh2 := shc_146) dX8_init_137 rfl (mTB 176 w_176 rfl) (by decide) (by decide) (by decide) (by decide) noCx_ok (by decide +kernel) (by decide) rfl (by decide +kernel) rfl rfl ⟨by decide, by decide⟩ (fun s17 => ?_)
  refine J_putR (sl := [some (some (some 54)), some (some (some 55)), some (some (some 56)), some (some (some 57)), some none, some none, none, none, some (some (some 58)), none, some (some (some 59)), none, some (some (some 60)), some none, some (some (some 61)), some (some (some 62)), some (some (some 63)), none, none, some (some (some 64)), some (some (some 65)), some (some (some 66)), some (some (some 67)), none, some (some (some 68)), some (some none), some (some none)]) (Sh2 := shc_147) dX8_init_139 fp_RX8_61 (fun _ => rfl) (by decide +kernel) rfl rfl (fun _ => rfl) (fun _ => rfl) ?_
  refine J_aload_n (i := 0) dX8_init_142 rfl rfl ?_
  refine J_bipush (v := (40 : Int32)) dX8_init_143 (by decide) ?_
  refine J_newarr (a := 70) (N := 40) (ty := .int) (Sh2 := shc_148) dX8_init_145 rfl (mTB 176 w_176 rfl) (by decide) (by decide) (by decide) (by decide) noCx_ok (by decide +kernel) (by decide) rfl (by decide +kernel) rfl rfl ⟨by decide, by decide⟩ (fun s18 => ?_)
  refine J_putR (sl := [some (some (some 54)), some (some (some 55)), some (some (some 56)), some (some (some 57)), some none, some none, none, none, some (some (some 58)), none, some (some (some 59)), none, some (some (some 60)), some none, some (some (some 61)), some (some (some 62)), some (some (some 63)), none, none, some (some (some 64)), some (some (some 65)), some (some (some 66)), some (some (some 67)), none, some (some (some 68)), some (some (some 69)), some (some none)]) (Sh2 := shc_149) dX8_init_147 fp_RX8_64 (fun _ => rfl) (by decide +kernel) rfl rfl (fun _ => rfl) (fun _ => rfl) ?_
  refine J_aload_n (i := 0) dX8_init_150 rfl rfl ?_
  refine J_getR (r := 54) dX8_init_151 fl_RX8_7 (by decide +kernel) ?_
  refine J_bipush (v := (33 : Int32)) dX8_init_154 (by decide) ?_
  refine J_iconst (v := (3 : Int32)) dX8_init_156 (by decide) ?_
  refine J_iast (N := 101) dX8_init_157 (by decide +kernel) ?_
  refine J_letM rfl (fun s19 => ?_)
  exact J_return dX8_init_158 rfl rfl
