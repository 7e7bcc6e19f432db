def f_X5_become_10_1  (s0 : jM) : Option jM := lt_ (cpI s0 2 11 (Int32.toNatClampNeg (0 : Int32)) (Int32.toNatClampNeg (0 : Int32)) (Int32.toNatClampNeg (8 : Int32))) fun s1 => lt_ (cpI s1 3 12 (Int32.toNatClampNeg (0 : Int32)) (Int32.toNatClampNeg (0 : Int32)) (Int32.toNatClampNeg (8 : Int32))) fun s2 => lt_ (cpI s2 4 13 (Int32.toNatClampNeg (0 : Int32)) (Int32.toNatClampNeg (0 : Int32)) (Int32.toNatClampNeg (8 : Int32))) fun s3 => lt_ (cpI s3 5 14 (Int32.toNatClampNeg (0 : Int32)) (Int32.toNatClampNeg (0 : Int32)) (Int32.toNatClampNeg (8 : Int32))) fun s4 => lt_ (pI s4 10 4 (gI s4 1 4)) fun s5 => lt_ (pI s5 10 5 (gI s5 1 5)) fun s6 => lt_ (pI s6 10 6 (gI s6 1 6)) fun s7 => lt_ (cpI s7 6 15 (Int32.toNatClampNeg (0 : Int32)) (Int32.toNatClampNeg (0 : Int32)) (Int32.toNatClampNeg (40 : Int32))) fun s8 => lt_ (pI s8 10 8 (gI s8 1 8)) fun s9 => lt_ (cpI s9 7 16 (Int32.toNatClampNeg (0 : Int32)) (Int32.toNatClampNeg (0 : Int32)) (Int32.toNatClampNeg (8 : Int32))) fun s10 => lt_ (cpI s10 8 17 (Int32.toNatClampNeg (0 : Int32)) (Int32.toNatClampNeg (0 : Int32)) (Int32.toNatClampNeg (8 : Int32))) fun s11 => lt_ (cpI s11 9 18 (Int32.toNatClampNeg (0 : Int32)) (Int32.toNatClampNeg (0 : Int32)) (Int32.toNatClampNeg (8 : Int32))) fun s12 => lt_ (pI s12 10 12 (gI s12 1 12)) fun s13 => some s13
set_option maxRecDepth 100000 in
set_option maxHeartbeats 4000000 in
theorem con_X5_become_10_1 (l : Launch) (s0 : jM) : Con l (1) yX5_become cX5_become 2 (Option.none : Option Jvm.ClassFile.FieldType) (eV SH) SH [.ref 10, .ref 1] s0 (f_X5_become_10_1 s0) := by
  refine Con_of (ls0 := [some (.ref 10), some (.ref 1)]) (ini := false) (mc := 0) (ms := 0) (by decide +kernel) rfl (Nat.le_of_ble_eq_true rfl) (fun h => by cases h) (fun _ _ => rfl) ?_
  unfold f_X5_become_10_1
  refine J_aload_n (i := 1) dX5_become_0 rfl rfl ?_
  refine J_getR dX5_become_1 fl_RX5_9 sh_1_0 ?_
  refine J_iconst (v := (0 : Int32)) dX5_become_4 (by decide) ?_
  refine J_aload_n (i := 0) dX5_become_5 rfl rfl ?_
  refine J_getR dX5_become_6 fl_RX5_9 sh_10_0 ?_
  refine J_iconst (v := (0 : Int32)) dX5_become_9 (by decide) ?_
  refine J_bipush (v := (8 : Int32)) dX5_become_10 (by decide) ?_
  refine J_copyI dX5_become_12 (mTB 846 (by decide +kernel) rfl) sa_2 sa_11 (by decide) (by decide) (by decide) ⟨by decide, by decide⟩ ⟨by decide, by decide⟩ ?_
  refine J_letM rfl (fun s1 => ?_)
  refine J_aload_n (i := 1) dX5_become_15 rfl rfl ?_
  refine J_getR dX5_become_16 fl_RX5_15 sh_1_1 ?_
  refine J_iconst (v := (0 : Int32)) dX5_become_19 (by decide) ?_
  refine J_aload_n (i := 0) dX5_become_20 rfl rfl ?_
  refine J_getR dX5_become_21 fl_RX5_15 sh_10_1 ?_
  refine J_iconst (v := (0 : Int32)) dX5_become_24 (by decide) ?_
  refine J_bipush (v := (8 : Int32)) dX5_become_25 (by decide) ?_
  refine J_copyI dX5_become_27 (mTB 846 (by decide +kernel) rfl) sa_3 sa_12 (by decide) (by decide) (by decide) ⟨by decide, by decide⟩ ⟨by decide, by decide⟩ ?_
  refine J_letM rfl (fun s2 => ?_)
  refine J_aload_n (i := 1) dX5_become_30 rfl rfl ?_
  refine J_getR dX5_become_31 fl_RX5_18 sh_1_2 ?_
  refine J_iconst (v := (0 : Int32)) dX5_become_34 (by decide) ?_
  refine J_aload_n (i := 0) dX5_become_35 rfl rfl ?_
  refine J_getR dX5_become_36 fl_RX5_18 sh_10_2 ?_
  refine J_iconst (v := (0 : Int32)) dX5_become_39 (by decide) ?_
  refine J_bipush (v := (8 : Int32)) dX5_become_40 (by decide) ?_
  refine J_copyI dX5_become_42 (mTB 846 (by decide +kernel) rfl) sa_4 sa_13 (by decide) (by decide) (by decide) ⟨by decide, by decide⟩ ⟨by decide, by decide⟩ ?_
  refine J_letM rfl (fun s3 => ?_)
  refine J_aload_n (i := 1) dX5_become_45 rfl rfl ?_
  refine J_getR dX5_become_46 fl_RX5_21 sh_1_3 ?_
  refine J_iconst (v := (0 : Int32)) dX5_become_49 (by decide) ?_
  refine J_aload_n (i := 0) dX5_become_50 rfl rfl ?_
  refine J_getR dX5_become_51 fl_RX5_21 sh_10_3 ?_
  refine J_iconst (v := (0 : Int32)) dX5_become_54 (by decide) ?_
  refine J_bipush (v := (8 : Int32)) dX5_become_55 (by decide) ?_
  refine J_copyI dX5_become_57 (mTB 846 (by decide +kernel) rfl) sa_5 sa_14 (by decide) (by decide) (by decide) ⟨by decide, by decide⟩ ⟨by decide, by decide⟩ ?_
  refine J_letM rfl (fun s4 => ?_)
  refine J_aload_n (i := 0) dX5_become_60 rfl rfl ?_
  refine J_aload_n (i := 1) dX5_become_61 rfl rfl ?_
  refine J_getI dX5_become_62 fl_RX5_24 sh_1_4 ?_
  refine J_putI dX5_become_65 fp_RX5_24 (fun h => by first | rfl | cases h) sh_10_4 rfl rfl ?_
  refine J_letM rfl (fun s5 => ?_)
  refine J_aload_n (i := 0) dX5_become_68 rfl rfl ?_
  refine J_aload_n (i := 1) dX5_become_69 rfl rfl ?_
  refine J_getI dX5_become_70 fl_RX5_28 sh_1_5 ?_
  refine J_putI dX5_become_73 fp_RX5_28 (fun h => by first | rfl | cases h) sh_10_5 rfl rfl ?_
  refine J_letM rfl (fun s6 => ?_)
  refine J_aload_n (i := 0) dX5_become_76 rfl rfl ?_
  refine J_aload_n (i := 1) dX5_become_77 rfl rfl ?_
  refine J_getI dX5_become_78 fl_RX5_31 sh_1_6 ?_
  refine J_putI dX5_become_81 fp_RX5_31 (fun h => by first | rfl | cases h) sh_10_6 rfl rfl ?_
  refine J_letM rfl (fun s7 => ?_)
  refine J_aload_n (i := 1) dX5_become_84 rfl rfl ?_
  refine J_getR dX5_become_85 fl_RX5_34 sh_1_7 ?_
  refine J_iconst (v := (0 : Int32)) dX5_become_88 (by decide) ?_
  refine J_aload_n (i := 0) dX5_become_89 rfl rfl ?_
  refine J_getR dX5_become_90 fl_RX5_34 sh_10_7 ?_
  refine J_iconst (v := (0 : Int32)) dX5_become_93 (by decide) ?_
  refine J_bipush (v := (40 : Int32)) dX5_become_94 (by decide) ?_
  refine J_copyC dX5_become_96 (mTB 846 (by decide +kernel) rfl) sa_6 sa_15 (by decide) (by decide) (by decide) ⟨by decide, by decide⟩ ⟨by decide, by decide⟩ ?_
  refine J_letM rfl (fun s8 => ?_)
  refine J_aload_n (i := 0) dX5_become_99 rfl rfl ?_
  refine J_aload_n (i := 1) dX5_become_100 rfl rfl ?_
  refine J_getI dX5_become_101 fl_RX5_38 sh_1_8 ?_
  refine J_putI dX5_become_104 fp_RX5_38 (fun h => by first | rfl | cases h) sh_10_8 rfl rfl ?_
  refine J_letM rfl (fun s9 => ?_)
  refine J_aload_n (i := 1) dX5_become_107 rfl rfl ?_
  refine J_getR dX5_become_108 fl_RX5_41 sh_1_9 ?_
  refine J_iconst (v := (0 : Int32)) dX5_become_111 (by decide) ?_
  refine J_aload_n (i := 0) dX5_become_112 rfl rfl ?_
  refine J_getR dX5_become_113 fl_RX5_41 sh_10_9 ?_
  refine J_iconst (v := (0 : Int32)) dX5_become_116 (by decide) ?_
  refine J_bipush (v := (8 : Int32)) dX5_become_117 (by decide) ?_
  refine J_copyI dX5_become_119 (mTB 846 (by decide +kernel) rfl) sa_7 sa_16 (by decide) (by decide) (by decide) ⟨by decide, by decide⟩ ⟨by decide, by decide⟩ ?_
  refine J_letM rfl (fun s10 => ?_)
  refine J_aload_n (i := 1) dX5_become_122 rfl rfl ?_
  refine J_getR dX5_become_123 fl_RX5_44 sh_1_10 ?_
  refine J_iconst (v := (0 : Int32)) dX5_become_126 (by decide) ?_
  refine J_aload_n (i := 0) dX5_become_127 rfl rfl ?_
  refine J_getR dX5_become_128 fl_RX5_44 sh_10_10 ?_
  refine J_iconst (v := (0 : Int32)) dX5_become_131 (by decide) ?_
  refine J_bipush (v := (8 : Int32)) dX5_become_132 (by decide) ?_
  refine J_copyI dX5_become_134 (mTB 846 (by decide +kernel) rfl) sa_8 sa_17 (by decide) (by decide) (by decide) ⟨by decide, by decide⟩ ⟨by decide, by decide⟩ ?_
  refine J_letM rfl (fun s11 => ?_)
  refine J_aload_n (i := 1) dX5_become_137 rfl rfl ?_
  refine J_getR dX5_become_138 fl_RX5_47 sh_1_11 ?_
  refine J_iconst (v := (0 : Int32)) dX5_become_141 (by decide) ?_
  refine J_aload_n (i := 0) dX5_become_142 rfl rfl ?_
  refine J_getR dX5_become_143 fl_RX5_47 sh_10_11 ?_
  refine J_iconst (v := (0 : Int32)) dX5_become_146 (by decide) ?_
  refine J_bipush (v := (8 : Int32)) dX5_become_147 (by decide) ?_
  refine J_copyI dX5_become_149 (mTB 846 (by decide +kernel) rfl) sa_9 sa_18 (by decide) (by decide) (by decide) ⟨by decide, by decide⟩ ⟨by decide, by decide⟩ ?_
  refine J_letM rfl (fun s12 => ?_)
  refine J_aload_n (i := 0) dX5_become_152 rfl rfl ?_
  refine J_aload_n (i := 1) dX5_become_153 rfl rfl ?_
  refine J_getI dX5_become_154 fl_RX5_50 sh_1_12 ?_
  refine J_putI dX5_become_157 fp_RX5_50 (fun h => by first | rfl | cases h) sh_10_12 rfl rfl ?_
  refine J_letM rfl (fun s13 => ?_)
  exact J_return dX5_become_160 rfl rfl

def f_X5_become_19_1  (s0 : jM) : Option jM := lt_ (cpI s0 2 20 (Int32.toNatClampNeg (0 : Int32)) (Int32.toNatClampNeg (0 : Int32)) (Int32.toNatClampNeg (8 : Int32))) fun s1 => lt_ (cpI s1 3 21 (Int32.toNatClampNeg (0 : Int32)) (Int32.toNatClampNeg (0 : Int32)) (Int32.toNatClampNeg (8 : Int32))) fun s2 => lt_ (cpI s2 4 22 (Int32.toNatClampNeg (0 : Int32)) (Int32.toNatClampNeg (0 : Int32)) (Int32.toNatClampNeg (8 : Int32))) fun s3 => lt_ (cpI s3 5 23 (Int32.toNatClampNeg (0 : Int32)) (Int32.toNatClampNeg (0 : Int32)) (Int32.toNatClampNeg (8 : Int32))) fun s4 => lt_ (pI s4 19 4 (gI s4 1 4)) fun s5 => lt_ (pI s5 19 5 (gI s5 1 5)) fun s6 => lt_ (pI s6 19 6 (gI s6 1 6)) fun s7 => lt_ (cpI s7 6 24 (Int32.toNatClampNeg (0 : Int32)) (Int32.toNatClampNeg (0 : Int32)) (Int32.toNatClampNeg (40 : Int32))) fun s8 => lt_ (pI s8 19 8 (gI s8 1 8)) fun s9 => lt_ (cpI s9 7 25 (Int32.toNatClampNeg (0 : Int32)) (Int32.toNatClampNeg (0 : Int32)) (Int32.toNatClampNeg (8 : Int32))) fun s10 => lt_ (cpI s10 8 26 (Int32.toNatClampNeg (0 : Int32)) (Int32.toNatClampNeg (0 : Int32)) (Int32.toNatClampNeg (8 : Int32))) fun s11 => lt_ (cpI s11 9 27 (Int32.toNatClampNeg (0 : Int32)) (Int32.toNatClampNeg (0 : Int32)) (Int32.toNatClampNeg (8 : Int32))) fun s12 => lt_ (pI s12 19 12 (gI s12 1 12)) fun s13 => some s13
set_option maxRecDepth 100000 in
set_option maxHeartbeats 4000000 in
theorem con_X5_become_19_1 (l : Launch) (s0 : jM) : Con l (1) yX5_become cX5_become 2 (Option.none : Option Jvm.ClassFile.FieldType) (eV SH) SH [.ref 19, .ref 1] s0 (f_X5_become_19_1 s0) := by
  refine Con_of (ls0 := [some (.ref 19), some (.ref 1)]) (ini := false) (mc := 0) (ms := 0) (by decide +kernel) rfl (Nat.le_of_ble_eq_true rfl) (fun h => by cases h) (fun _ _ => rfl) ?_
  unfold f_X5_become_19_1
  refine J_aload_n (i := 1) dX5_become_0 rfl rfl ?_
  refine J_getR dX5_become_1 fl_RX5_9 sh_1_0 ?_
  refine J_iconst (v := (0 : Int32)) dX5_become_4 (by decide) ?_
  refine J_aload_n (i := 0) dX5_become_5 rfl rfl ?_
  refine J_getR dX5_become_6 fl_RX5_9 sh_19_0 ?_
  refine J_iconst (v := (0 : Int32)) dX5_become_9 (by decide) ?_
  refine J_bipush (v := (8 : Int32)) dX5_become_10 (by decide) ?_
  refine J_copyI dX5_become_12 (mTB 846 (by decide +kernel) rfl) sa_2 sa_20 (by decide) (by decide) (by decide) ⟨by decide, by decide⟩ ⟨by decide, by decide⟩ ?_
  refine J_letM rfl (fun s1 => ?_)
  refine J_aload_n (i := 1) dX5_become_15 rfl rfl ?_
  refine J_getR dX5_become_16 fl_RX5_15 sh_1_1 ?_
  refine J_iconst (v := (0 : Int32)) dX5_become_19 (by decide) ?_
  refine J_aload_n (i := 0) dX5_become_20 rfl rfl ?_
  refine J_getR dX5_become_21 fl_RX5_15 sh_19_1 ?_
  refine J_iconst (v := (0 : Int32)) dX5_become_24 (by decide) ?_
  refine J_bipush (v := (8 : Int32)) dX5_become_25 (by decide) ?_
  refine J_copyI dX5_become_27 (mTB 846 (by decide +kernel) rfl) sa_3 sa_21 (by decide) (by decide) (by decide) ⟨by decide, by decide⟩ ⟨by decide, by decide⟩ ?_
  refine J_letM rfl (fun s2 => ?_)
  refine J_aload_n (i := 1) dX5_become_30 rfl rfl ?_
  refine J_getR dX5_become_31 fl_RX5_18 sh_1_2 ?_
  refine J_iconst (v := (0 : Int32)) dX5_become_34 (by decide) ?_
  refine J_aload_n (i := 0) dX5_become_35 rfl rfl ?_
  refine J_getR dX5_become_36 fl_RX5_18 sh_19_2 ?_
  refine J_iconst (v := (0 : Int32)) dX5_become_39 (by decide) ?_
  refine J_bipush (v := (8 : Int32)) dX5_become_40 (by decide) ?_
  refine J_copyI dX5_become_42 (mTB 846 (by decide +kernel) rfl) sa_4 sa_22 (by decide) (by decide) (by decide) ⟨by decide, by decide⟩ ⟨by decide, by decide⟩ ?_
  refine J_letM rfl (fun s3 => ?_)
  refine J_aload_n (i := 1) dX5_become_45 rfl rfl ?_
  refine J_getR dX5_become_46 fl_RX5_21 sh_1_3 ?_
  refine J_iconst (v := (0 : Int32)) dX5_become_49 (by decide) ?_
  refine J_aload_n (i := 0) dX5_become_50 rfl rfl ?_
  refine J_getR dX5_become_51 fl_RX5_21 sh_19_3 ?_
  refine J_iconst (v := (0 : Int32)) dX5_become_54 (by decide) ?_
  refine J_bipush (v := (8 : Int32)) dX5_become_55 (by decide) ?_
  refine J_copyI dX5_become_57 (mTB 846 (by decide +kernel) rfl) sa_5 sa_23 (by decide) (by decide) (by decide) ⟨by decide, by decide⟩ ⟨by decide, by decide⟩ ?_
  refine J_letM rfl (fun s4 => ?_)
  refine J_aload_n (i := 0) dX5_become_60 rfl rfl ?_
  refine J_aload_n (i := 1) dX5_become_61 rfl rfl ?_
  refine J_getI dX5_become_62 fl_RX5_24 sh_1_4 ?_
  refine J_putI dX5_become_65 fp_RX5_24 (fun h => by first | rfl | cases h) sh_19_4 rfl rfl ?_
  refine J_letM rfl (fun s5 => ?_)
  refine J_aload_n (i := 0) dX5_become_68 rfl rfl ?_
  refine J_aload_n (i := 1) dX5_become_69 rfl rfl ?_
  refine J_getI dX5_become_70 fl_RX5_28 sh_1_5 ?_
  refine J_putI dX5_become_73 fp_RX5_28 (fun h => by first | rfl | cases h) sh_19_5 rfl rfl ?_
  refine J_letM rfl (fun s6 => ?_)
  refine J_aload_n (i := 0) dX5_become_76 rfl rfl ?_
  refine J_aload_n (i := 1) dX5_become_77 rfl rfl ?_
  refine J_getI dX5_become_78 fl_RX5_31 sh_1_6 ?_
  refine J_putI dX5_become_81 fp_RX5_31 (fun h => by first | rfl | cases h) sh_19_6 rfl rfl ?_
  refine J_letM rfl (fun s7 => ?_)
  refine J_aload_n (i := 1) dX5_become_84 rfl rfl ?_
  refine J_getR dX5_become_85 fl_RX5_34 sh_1_7 ?_
  refine J_iconst (v := (0 : Int32)) dX5_become_88 (by decide) ?_
  refine J_aload_n (i := 0) dX5_become_89 rfl rfl ?_
  refine J_getR dX5_become_90 fl_RX5_34 sh_19_7 ?_
  refine J_iconst (v := (0 : Int32)) dX5_become_93 (by decide) ?_
  refine J_bipush (v := (40 : Int32)) dX5_become_94 (by decide) ?_
  refine J_copyC dX5_become_96 (mTB 846 (by decide +kernel) rfl) sa_6 sa_24 (by decide) (by decide) (by decide) ⟨by decide, by decide⟩ ⟨by decide, by decide⟩ ?_
  refine J_letM rfl (fun s8 => ?_)
  refine J_aload_n (i := 0) dX5_become_99 rfl rfl ?_
  refine J_aload_n (i := 1) dX5_become_100 rfl rfl ?_
  refine J_getI dX5_become_101 fl_RX5_38 sh_1_8 ?_
  refine J_putI dX5_become_104 fp_RX5_38 (fun h => by first | rfl | cases h) sh_19_8 rfl rfl ?_
  refine J_letM rfl (fun s9 => ?_)
  refine J_aload_n (i := 1) dX5_become_107 rfl rfl ?_
  refine J_getR dX5_become_108 fl_RX5_41 sh_1_9 ?_
  refine J_iconst (v := (0 : Int32)) dX5_become_111 (by decide) ?_
  refine J_aload_n (i := 0) dX5_become_112 rfl rfl ?_
  refine J_getR dX5_become_113 fl_RX5_41 sh_19_9 ?_
  refine J_iconst (v := (0 : Int32)) dX5_become_116 (by decide) ?_
  refine J_bipush (v := (8 : Int32)) dX5_become_117 (by decide) ?_
  refine J_copyI dX5_become_119 (mTB 846 (by decide +kernel) rfl) sa_7 sa_25 (by decide) (by decide) (by decide) ⟨by decide, by decide⟩ ⟨by decide, by decide⟩ ?_
  refine J_letM rfl (fun s10 => ?_)
  refine J_aload_n (i := 1) dX5_become_122 rfl rfl ?_
  refine J_getR dX5_become_123 fl_RX5_44 sh_1_10 ?_
  refine J_iconst (v := (0 : Int32)) dX5_become_126 (by decide) ?_
  refine J_aload_n (i := 0) dX5_become_127 rfl rfl ?_
  refine J_getR dX5_become_128 fl_RX5_44 sh_19_10 ?_
  refine J_iconst (v := (0 : Int32)) dX5_become_131 (by decide) ?_
  refine J_bipush (v := (8 : Int32)) dX5_become_132 (by decide) ?_
  refine J_copyI dX5_become_134 (mTB 846 (by decide +kernel) rfl) sa_8 sa_26 (by decide) (by decide) (by decide) ⟨by decide, by decide⟩ ⟨by decide, by decide⟩ ?_
  refine J_letM rfl (fun s11 => ?_)
  refine J_aload_n (i := 1) dX5_become_137 rfl rfl ?_
  refine J_getR dX5_become_138 fl_RX5_47 sh_1_11 ?_
  refine J_iconst (v := (0 : Int32)) dX5_become_141 (by decide) ?_
  refine J_aload_n (i := 0) dX5_become_142 rfl rfl ?_
  refine J_getR dX5_become_143 fl_RX5_47 sh_19_11 ?_
  refine J_iconst (v := (0 : Int32)) dX5_become_146 (by decide) ?_
  refine J_bipush (v := (8 : Int32)) dX5_become_147 (by decide) ?_
  refine J_copyI dX5_become_149 (mTB 846 (by decide +kernel) rfl) sa_9 sa_27 (by decide) (by decide) (by decide) ⟨by decide, by decide⟩ ⟨by decide, by decide⟩ ?_
  refine J_letM rfl (fun s12 => ?_)
  refine J_aload_n (i := 0) dX5_become_152 rfl rfl ?_
  refine J_aload_n (i := 1) dX5_become_153 rfl rfl ?_
  refine J_getI dX5_become_154 fl_RX5_50 sh_1_12 ?_
  refine J_putI dX5_become_157 fp_RX5_50 (fun h => by first | rfl | cases h) sh_19_12 rfl rfl ?_
  refine J_letM rfl (fun s13 => ?_)
  exact J_return dX5_become_160 rfl rfl

def f_X5_become_1_10  (s0 : jM) : Option jM := lt_ (cpI s0 11 2 (Int32.toNatClampNeg (0 : Int32)) (Int32.toNatClampNeg (0 : Int32)) (Int32.toNatClampNeg (8 : Int32))) fun s1 => lt_ (cpI s1 12 3 (Int32.toNatClampNeg (0 : Int32)) (Int32.toNatClampNeg (0 : Int32)) (Int32.toNatClampNeg (8 : Int32))) fun s2 => lt_ (cpI s2 13 4 (Int32.toNatClampNeg (0 : Int32)) (Int32.toNatClampNeg (0 : Int32)) (Int32.toNatClampNeg (8 : Int32))) fun s3 => lt_ (cpI s3 14 5 (Int32.toNatClampNeg (0 : Int32)) (Int32.toNatClampNeg (0 : Int32)) (Int32.toNatClampNeg (8 : Int32))) fun s4 => lt_ (pI s4 1 4 (gI s4 10 4)) fun s5 => lt_ (pI s5 1 5 (gI s5 10 5)) fun s6 => lt_ (pI s6 1 6 (gI s6 10 6)) fun s7 => lt_ (cpI s7 15 6 (Int32.toNatClampNeg (0 : Int32)) (Int32.toNatClampNeg (0 : Int32)) (Int32.toNatClampNeg (40 : Int32))) fun s8 => lt_ (pI s8 1 8 (gI s8 10 8)) fun s9 => lt_ (cpI s9 16 7 (Int32.toNatClampNeg (0 : Int32)) (Int32.toNatClampNeg (0 : Int32)) (Int32.toNatClampNeg (8 : Int32))) fun s10 => lt_ (cpI s10 17 8 (Int32.toNatClampNeg (0 : Int32)) (Int32.toNatClampNeg (0 : Int32)) (Int32.toNatClampNeg (8 : Int32))) fun s11 => lt_ (cpI s11 18 9 (Int32.toNatClampNeg (0 : Int32)) (Int32.toNatClampNeg (0 : Int32)) (Int32.toNatClampNeg (8 : Int32))) fun s12 => lt_ (pI s12 1 12 (gI s12 10 12)) fun s13 => some s13
set_option maxRecDepth 100000 in
set_option maxHeartbeats 4000000 in
theorem con_X5_become_1_10 (l : Launch) (s0 : jM) : Con l (1) yX5_become cX5_become 2 (Option.none : Option Jvm.ClassFile.FieldType) (eV SH) SH [.ref 1, .ref 10] s0 (f_X5_become_1_10 s0) := by
  refine Con_of (ls0 := [some (.ref 1), some (.ref 10)]) (ini := false) (mc := 0) (ms := 0) (by decide +kernel) rfl (Nat.le_of_ble_eq_true rfl) (fun h => by cases h) (fun _ _ => rfl) ?_
  unfold f_X5_become_1_10
  refine J_aload_n (i := 1) dX5_become_0 rfl rfl ?_
  refine J_getR dX5_become_1 fl_RX5_9 sh_10_0 ?_
  refine J_iconst (v := (0 : Int32)) dX5_become_4 (by decide) ?_
  refine J_aload_n (i := 0) dX5_become_5 rfl rfl ?_
  refine J_getR dX5_become_6 fl_RX5_9 sh_1_0 ?_
  refine J_iconst (v := (0 : Int32)) dX5_become_9 (by decide) ?_
  refine J_bipush (v := (8 : Int32)) dX5_become_10 (by decide) ?_
  refine J_copyI dX5_become_12 (mTB 846 (by decide +kernel) rfl) sa_11 sa_2 (by decide) (by decide) (by decide) ⟨by decide, by decide⟩ ⟨by decide, by decide⟩ ?_
  refine J_letM rfl (fun s1 => ?_)
  refine J_aload_n (i := 1) dX5_become_15 rfl rfl ?_
  refine J_getR dX5_become_16 fl_RX5_15 sh_10_1 ?_
  refine J_iconst (v := (0 : Int32)) dX5_become_19 (by decide) ?_
  refine J_aload_n (i := 0) dX5_become_20 rfl rfl ?_
  refine J_getR dX5_become_21 fl_RX5_15 sh_1_1 ?_
  refine J_iconst (v := (0 : Int32)) dX5_become_24 (by decide) ?_
  refine J_bipush (v := (8 : Int32)) dX5_become_25 (by decide) ?_
  refine J_copyI dX5_become_27 (mTB 846 (by decide +kernel) rfl) sa_12 sa_3 (by decide) (by decide) (by decide) ⟨by decide, by decide⟩ ⟨by decide, by decide⟩ ?_
  refine J_letM rfl (fun s2 => ?_)
  refine J_aload_n (i := 1) dX5_become_30 rfl rfl ?_
  refine J_getR dX5_become_31 fl_RX5_18 sh_10_2 ?_
  refine J_iconst (v := (0 : Int32)) dX5_become_34 (by decide) ?_
  refine J_aload_n (i := 0) dX5_become_35 rfl rfl ?_
  refine J_getR dX5_become_36 fl_RX5_18 sh_1_2 ?_
  refine J_iconst (v := (0 : Int32)) dX5_become_39 (by decide) ?_
  refine J_bipush (v := (8 : Int32)) dX5_become_40 (by decide) ?_
  refine J_copyI dX5_become_42 (mTB 846 (by decide +kernel) rfl) sa_13 sa_4 (by decide) (by decide) (by decide) ⟨by decide, by decide⟩ ⟨by decide, by decide⟩ ?_
  refine J_letM rfl (fun s3 => ?_)
  refine J_aload_n (i := 1) dX5_become_45 rfl rfl ?_
  refine J_getR dX5_become_46 fl_RX5_21 sh_10_3 ?_
  refine J_iconst (v := (0 : Int32)) dX5_become_49 (by decide) ?_
  refine J_aload_n (i := 0) dX5_become_50 rfl rfl ?_
  refine J_getR dX5_become_51 fl_RX5_21 sh_1_3 ?_
  refine J_iconst (v := (0 : Int32)) dX5_become_54 (by decide) ?_
  refine J_bipush (v := (8 : Int32)) dX5_become_55 (by decide) ?_
  refine J_copyI dX5_become_57 (mTB 846 (by decide +kernel) rfl) sa_14 sa_5 (by decide) (by decide) (by decide) ⟨by decide, by decide⟩ ⟨by decide, by decide⟩ ?_
  refine J_letM rfl (fun s4 => ?_)
  refine J_aload_n (i := 0) dX5_become_60 rfl rfl ?_
  refine J_aload_n (i := 1) dX5_become_61 rfl rfl ?_
  refine J_getI dX5_become_62 fl_RX5_24 sh_10_4 ?_
  refine J_putI dX5_become_65 fp_RX5_24 (fun h => by first | rfl | cases h) sh_1_4 rfl rfl ?_
  refine J_letM rfl (fun s5 => ?_)
  refine J_aload_n (i := 0) dX5_become_68 rfl rfl ?_
  refine J_aload_n (i := 1) dX5_become_69 rfl rfl ?_
  refine J_getI dX5_become_70 fl_RX5_28 sh_10_5 ?_
  refine J_putI dX5_become_73 fp_RX5_28 (fun h => by first | rfl | cases h) sh_1_5 rfl rfl ?_
  refine J_letM rfl (fun s6 => ?_)
  refine J_aload_n (i := 0) dX5_become_76 rfl rfl ?_
  refine J_aload_n (i := 1) dX5_become_77 rfl rfl ?_
  refine J_getI dX5_become_78 fl_RX5_31 sh_10_6 ?_
  refine J_putI dX5_become_81 fp_RX5_31 (fun h => by first | rfl | cases h) sh_1_6 rfl rfl ?_
  refine J_letM rfl (fun s7 => ?_)
  refine J_aload_n (i := 1) dX5_become_84 rfl rfl ?_
  refine J_getR dX5_become_85 fl_RX5_34 sh_10_7 ?_
  refine J_iconst (v := (0 : Int32)) dX5_become_88 (by decide) ?_
  refine J_aload_n (i := 0) dX5_become_89 rfl rfl ?_
  refine J_getR dX5_become_90 fl_RX5_34 sh_1_7 ?_
  refine J_iconst (v := (0 : Int32)) dX5_become_93 (by decide) ?_
  refine J_bipush (v := (40 : Int32)) dX5_become_94 (by decide) ?_
  refine J_copyC dX5_become_96 (mTB 846 (by decide +kernel) rfl) sa_15 sa_6 (by decide) (by decide) (by decide) ⟨by decide, by decide⟩ ⟨by decide, by decide⟩ ?_
  refine J_letM rfl (fun s8 => ?_)
  refine J_aload_n (i := 0) dX5_become_99 rfl rfl ?_
  refine J_aload_n (i := 1) dX5_become_100 rfl rfl ?_
  refine J_getI dX5_become_101 fl_RX5_38 sh_10_8 ?_
  refine J_putI dX5_become_104 fp_RX5_38 (fun h => by first | rfl | cases h) sh_1_8 rfl rfl ?_
  refine J_letM rfl (fun s9 => ?_)
  refine J_aload_n (i := 1) dX5_become_107 rfl rfl ?_
  refine J_getR dX5_become_108 fl_RX5_41 sh_10_9 ?_
  refine J_iconst (v := (0 : Int32)) dX5_become_111 (by decide) ?_
  refine J_aload_n (i := 0) dX5_become_112 rfl rfl ?_
  refine J_getR dX5_become_113 fl_RX5_41 sh_1_9 ?_
  refine J_iconst (v := (0 : Int32)) dX5_become_116 (by decide) ?_
  refine J_bipush (v := (8 : Int32)) dX5_become_117 (by decide) ?_
  refine J_copyI dX5_become_119 (mTB 846 (by decide +kernel) rfl) sa_16 sa_7 (by decide) (by decide) (by decide) ⟨by decide, by decide⟩ ⟨by decide, by decide⟩ ?_
  refine J_letM rfl (fun s10 => ?_)
  refine J_aload_n (i := 1) dX5_become_122 rfl rfl ?_
  refine J_getR dX5_become_123 fl_RX5_44 sh_10_10 ?_
  refine J_iconst (v := (0 : Int32)) dX5_become_126 (by decide) ?_
  refine J_aload_n (i := 0) dX5_become_127 rfl rfl ?_
  refine J_getR dX5_become_128 fl_RX5_44 sh_1_10 ?_
  refine J_iconst (v := (0 : Int32)) dX5_become_131 (by decide) ?_
  refine J_bipush (v := (8 : Int32)) dX5_become_132 (by decide) ?_
  refine J_copyI dX5_become_134 (mTB 846 (by decide +kernel) rfl) sa_17 sa_8 (by decide) (by decide) (by decide) ⟨by decide, by decide⟩ ⟨by decide, by decide⟩ ?_
  refine J_letM rfl (fun s11 => ?_)
  refine J_aload_n (i := 1) dX5_become_137 rfl rfl ?_
  refine J_getR dX5_become_138 fl_RX5_47 sh_10_11 ?_
  refine J_iconst (v := (0 : Int32)) dX5_become_141 (by decide) ?_
  refine J_aload_n (i := 0) dX5_become_142 rfl rfl ?_
  refine J_getR dX5_become_143 fl_RX5_47 sh_1_11 ?_
  refine J_iconst (v := (0 : Int32)) dX5_become_146 (by decide) ?_
  refine J_bipush (v := (8 : Int32)) dX5_become_147 (by decide) ?_
  refine J_copyI dX5_become_149 (mTB 846 (by decide +kernel) rfl) sa_18 sa_9 (by decide) (by decide) (by decide) ⟨by decide, by decide⟩ ⟨by decide, by decide⟩ ?_
  refine J_letM rfl (fun s12 => ?_)
  refine J_aload_n (i := 0) dX5_become_152 rfl rfl ?_
  refine J_aload_n (i := 1) dX5_become_153 rfl rfl ?_
  refine J_getI dX5_become_154 fl_RX5_50 sh_10_12 ?_
  refine J_putI dX5_become_157 fp_RX5_50 (fun h => by first | rfl | cases h) sh_1_12 rfl rfl ?_
  refine J_letM rfl (fun s13 => ?_)
  exact J_return dX5_become_160 rfl rfl

def f_X5_become_1_19  (s0 : jM) : Option jM := lt_ (cpI s0 20 2 (Int32.toNatClampNeg (0 : Int32)) (Int32.toNatClampNeg (0 : Int32)) (Int32.toNatClampNeg (8 : Int32))) fun s1 => lt_ (cpI s1 21 3 (Int32.toNatClampNeg (0 : Int32)) (Int32.toNatClampNeg (0 : Int32)) (Int32.toNatClampNeg (8 : Int32))) fun s2 => lt_ (cpI s2 22 4 (Int32.toNatClampNeg (0 : Int32)) (Int32.toNatClampNeg (0 : Int32)) (Int32.toNatClampNeg (8 : Int32))) fun s3 => lt_ (cpI s3 23 5 (Int32.toNatClampNeg (0 : Int32)) (Int32.toNatClampNeg (0 : Int32)) (Int32.toNatClampNeg (8 : Int32))) fun s4 => lt_ (pI s4 1 4 (gI s4 19 4)) fun s5 => lt_ (pI s5 1 5 (gI s5 19 5)) fun s6 => lt_ (pI s6 1 6 (gI s6 19 6)) fun s7 => lt_ (cpI s7 24 6 (Int32.toNatClampNeg (0 : Int32)) (Int32.toNatClampNeg (0 : Int32)) (Int32.toNatClampNeg (40 : Int32))) fun s8 => lt_ (pI s8 1 8 (gI s8 19 8)) fun s9 => lt_ (cpI s9 25 7 (Int32.toNatClampNeg (0 : Int32)) (Int32.toNatClampNeg (0 : Int32)) (Int32.toNatClampNeg (8 : Int32))) fun s10 => lt_ (cpI s10 26 8 (Int32.toNatClampNeg (0 : Int32)) (Int32.toNatClampNeg (0 : Int32)) (Int32.toNatClampNeg (8 : Int32))) fun s11 => lt_ (cpI s11 27 9 (Int32.toNatClampNeg (0 : Int32)) (Int32.toNatClampNeg (0 : Int32)) (Int32.toNatClampNeg (8 : Int32))) fun s12 => lt_ (pI s12 1 12 (gI s12 19 12)) fun s13 => some s13
set_option maxRecDepth 100000 in
set_option maxHeartbeats 4000000 in
theorem con_X5_become_1_19 (l : Launch) (s0 : jM) : Con l (1) yX5_become cX5_become 2 (Option.none : Option Jvm.ClassFile.FieldType) (eV SH) SH [.ref 1, .ref 19] s0 (f_X5_become_1_19 s0) := by
  refine Con_of (ls0 := [some (.ref 1), some (.ref 19)]) (ini := false) (mc := 0) (ms := 0) (by decide +kernel) rfl (Nat.le_of_ble_eq_true rfl) (fun h => by cases h) (fun _ _ => rfl) ?_
  unfold f_X5_become_1_19
  refine J_aload_n (i := 1) dX5_become_0 rfl rfl ?_
  refine J_getR dX5_become_1 fl_RX5_9 sh_19_0 ?_
  refine J_iconst (v := (0 : Int32)) dX5_become_4 (by decide) ?_
  refine J_aload_n (i := 0) dX5_become_5 rfl rfl ?_
  refine J_getR dX5_become_6 fl_RX5_9 sh_1_0 ?_
  refine J_iconst (v := (0 : Int32)) dX5_become_9 (by decide) ?_
  refine J_bipush (v := (8 : Int32)) dX5_become_10 (by decide) ?_
  refine J_copyI dX5_become_12 (mTB 846 (by decide +kernel) rfl) sa_20 sa_2 (by decide) (by decide) (by decide) ⟨by decide, by decide⟩ ⟨by decide, by decide⟩ ?_
  refine J_letM rfl (fun s1 => ?_)
  refine J_aload_n (i := 1) dX5_become_15 rfl rfl ?_
  refine J_getR dX5_become_16 fl_RX5_15 sh_19_1 ?_
  refine J_iconst (v := (0 : Int32)) dX5_become_19 (by decide) ?_
  refine J_aload_n (i := 0) dX5_become_20 rfl rfl ?_
  refine J_getR dX5_become_21 fl_RX5_15 sh_1_1 ?_
  refine J_iconst (v := (0 : Int32)) dX5_become_24 (by decide) ?_
  refine J_bipush (v := (8 : Int32)) dX5_become_25 (by decide) ?_
  refine J_copyI dX5_become_27 (mTB 846 (by decide +kernel) rfl) sa_21 sa_3 (by decide) (by decide) (by decide) ⟨by decide, by decide⟩ ⟨by decide, by decide⟩ ?_
  refine J_letM rfl (fun s2 => ?_)
  refine J_aload_n (i := 1) dX5_become_30 rfl rfl ?_
  refine J_getR dX5_become_31 fl_RX5_18 sh_19_2 ?_
  refine J_iconst (v := (0 : Int32)) dX5_become_34 (by decide) ?_
  refine J_aload_n (i := 0) dX5_become_35 rfl rfl ?_
  refine J_getR dX5_become_36 fl_RX5_18 sh_1_2 ?_
  refine J_iconst (v := (0 : Int32)) dX5_become_39 (by decide) ?_
  refine J_bipush (v := (8 : Int32)) dX5_become_40 (by decide) ?_
  refine J_copyI dX5_become_42 (mTB 846 (by decide +kernel) rfl) sa_22 sa_4 (by decide) (by decide) (by decide) ⟨by decide, by decide⟩ ⟨by decide, by decide⟩ ?_
  refine J_letM rfl (fun s3 => ?_)
  refine J_aload_n (i := 1) dX5_become_45 rfl rfl ?_
  refine J_getR dX5_become_46 fl_RX5_21 sh_19_3 ?_
  refine J_iconst (v := (0 : Int32)) dX5_become_49 (by decide) ?_
  refine J_aload_n (i := 0) dX5_become_50 rfl rfl ?_
  refine J_getR dX5_become_51 fl_RX5_21 sh_1_3 ?_
  refine J_iconst (v := (0 : Int32)) dX5_become_54 (by decide) ?_
  refine J_bipush (v := (8 : Int32)) dX5_become_55 (by decide) ?_
  refine J_copyI dX5_become_57 (mTB 846 (by decide +kernel) rfl) sa_23 sa_5 (by decide) (by decide) (by decide) ⟨by decide, by decide⟩ ⟨by decide, by decide⟩ ?_
  refine J_letM rfl (fun s4 => ?_)
  refine J_aload_n (i := 0) dX5_become_60 rfl rfl ?_
  refine J_aload_n (i := 1) dX5_become_61 rfl rfl ?_
  refine J_getI dX5_become_62 fl_RX5_24 sh_19_4 ?_
  refine J_putI dX5_become_65 fp_RX5_24 (fun h => by first | rfl | cases h) sh_1_4 rfl rfl ?_
  refine J_letM rfl (fun s5 => ?_)
  refine J_aload_n (i := 0) dX5_become_68 rfl rfl ?_
  refine J_aload_n (i := 1) dX5_become_69 rfl rfl ?_
  refine J_getI dX5_become_70 fl_RX5_28 sh_19_5 ?_
  refine J_putI dX5_become_73 fp_RX5_28 (fun h => by first | rfl | cases h) sh_1_5 rfl rfl ?_
  refine J_letM rfl (fun s6 => ?_)
  refine J_aload_n (i := 0) dX5_become_76 rfl rfl ?_
  refine J_aload_n (i := 1) dX5_become_77 rfl rfl ?_
  refine J_getI dX5_become_78 fl_RX5_31 sh_19_6 ?_
  refine J_putI dX5_become_81 fp_RX5_31 (fun h => by first | rfl | cases h) sh_1_6 rfl rfl ?_
  refine J_letM rfl (fun s7 => ?_)
  refine J_aload_n (i := 1) dX5_become_84 rfl rfl ?_
  refine J_getR dX5_become_85 fl_RX5_34 sh_19_7 ?_
  refine J_iconst (v := (0 : Int32)) dX5_become_88 (by decide) ?_
  refine J_aload_n (i := 0) dX5_become_89 rfl rfl ?_
  refine J_getR dX5_become_90 fl_RX5_34 sh_1_7 ?_
  refine J_iconst (v := (0 : Int32)) dX5_become_93 (by decide) ?_
  refine J_bipush (v := (40 : Int32)) dX5_become_94 (by decide) ?_
  refine J_copyC dX5_become_96 (mTB 846 (by decide +kernel) rfl) sa_24 sa_6 (by decide) (by decide) (by decide) ⟨by decide, by decide⟩ ⟨by decide, by decide⟩ ?_
  refine J_letM rfl (fun s8 => ?_)
  refine J_aload_n (i := 0) dX5_become_99 rfl rfl ?_
  refine J_aload_n (i := 1) dX5_become_100 rfl rfl ?_
  refine J_getI dX5_become_101 fl_RX5_38 sh_19_8 ?_
  refine J_putI dX5_become_104 fp_RX5_38 (fun h => by first | rfl | cases h) sh_1_8 rfl rfl ?_
  refine J_letM rfl (fun s9 => ?_)
  refine J_aload_n (i := 1) dX5_become_107 rfl rfl ?_
  refine J_getR dX5_become_108 fl_RX5_41 sh_19_9 ?_
  refine J_iconst (v := (0 : Int32)) dX5_become_111 (by decide) ?_
  refine J_aload_n (i := 0) dX5_become_112 rfl rfl ?_
  refine J_getR dX5_become_113 fl_RX5_41 sh_1_9 ?_
  refine J_iconst (v := (0 : Int32)) dX5_become_116 (by decide) ?_
  refine J_bipush (v := (8 : Int32)) dX5_become_117 (by decide) ?_
  refine J_copyI dX5_become_119 (mTB 846 (by decide +kernel) rfl) sa_25 sa_7 (by decide) (by decide) (by decide) ⟨by decide, by decide⟩ ⟨by decide, by decide⟩ ?_
  refine J_letM rfl (fun s10 => ?_)
  refine J_aload_n (i := 1) dX5_become_122 rfl rfl ?_
  refine J_getR dX5_become_123 fl_RX5_44 sh_19_10 ?_
  refine J_iconst (v := (0 : Int32)) dX5_become_126 (by decide) ?_
  refine J_aload_n (i := 0) dX5_become_127 rfl rfl ?_
  refine J_getR dX5_become_128 fl_RX5_44 sh_1_10 ?_
  refine J_iconst (v := (0 : Int32)) dX5_become_131 (by decide) ?_
  refine J_bipush (v := (8 : Int32)) dX5_become_132 (by decide) ?_
  refine J_copyI dX5_become_134 (mTB 846 (by decide +kernel) rfl) sa_26 sa_8 (by decide) (by decide) (by decide) ⟨by decide, by decide⟩ ⟨by decide, by decide⟩ ?_
  refine J_letM rfl (fun s11 => ?_)
  refine J_aload_n (i := 1) dX5_become_137 rfl rfl ?_
  refine J_getR dX5_become_138 fl_RX5_47 sh_19_11 ?_
  refine J_iconst (v := (0 : Int32)) dX5_become_141 (by decide) ?_
  refine J_aload_n (i := 0) dX5_become_142 rfl rfl ?_
  refine J_getR dX5_become_143 fl_RX5_47 sh_1_11 ?_
  refine J_iconst (v := (0 : Int32)) dX5_become_146 (by decide) ?_
  refine J_bipush (v := (8 : Int32)) dX5_become_147 (by decide) ?_
  refine J_copyI dX5_become_149 (mTB 846 (by decide +kernel) rfl) sa_27 sa_9 (by decide) (by decide) (by decide) ⟨by decide, by decide⟩ ⟨by decide, by decide⟩ ?_
  refine J_letM rfl (fun s12 => ?_)
  refine J_aload_n (i := 0) dX5_become_152 rfl rfl ?_
  refine J_aload_n (i := 1) dX5_become_153 rfl rfl ?_
  refine J_getI dX5_become_154 fl_RX5_50 sh_19_12 ?_
  refine J_putI dX5_become_157 fp_RX5_50 (fun h => by first | rfl | cases h) sh_1_12 rfl rfl ?_
  refine J_letM rfl (fun s13 => ?_)
  exact J_return dX5_become_160 rfl rfl

def f_X7_isWithin (a0 : Int32) (a1 : Int32) (a2 : Int32) : Option Int32 := jn_ (fun (_ : Unit) => some (0 : Int32)) fun j1 => if a0 < a1 then (j1 ()) else (if a2 < a0 then (j1 ()) else (some (1 : Int32)))
set_option maxRecDepth 100000 in
set_option maxHeartbeats 4000000 in
theorem con_X7_isWithin (l : Launch) (a0 : Int32) (a1 : Int32) (a2 : Int32) (s0 : jM) : Con l (1) yX7_isWithin cX7_isWithin 3 (Option.some Jvm.ClassFile.FieldType.boolean) (eI SH s0) SH [.int a0, .int a1, .int a2] s0 (f_X7_isWithin a0 a1 a2) := by
  refine Con_of (ls0 := [some (.int a0), some (.int a1), some (.int a2)]) (ini := false) (mc := 0) (ms := 0) (by decide +kernel) rfl (Nat.le_of_ble_eq_true rfl) (fun h => by cases h) (fun _ _ => rfl) ?_
  unfold f_X7_isWithin
  refine J_join (P := fun j => ∀ (_ : Unit), J l RX7 cX7_isWithin 3 (Option.some Jvm.ClassFile.FieldType.boolean) false (rmD (1) 0 0) noCx (eI SH s0) SH 0 0 s0 14 [none, none, none] [] (j ())) ?_ (fun j1 hj1 => ?_)
  · intro _
    refine J_iconst (v := (0 : Int32)) dX7_isWithin_14 (by decide) ?_
    exact J_ireturn dX7_isWithin_15 rfl rfl rfl
  refine J_iload_n (i := 0) dX7_isWithin_0 rfl rfl ?_
  refine J_iload_n (i := 1) dX7_isWithin_1 rfl rfl ?_
  refine J_icmp_lt (tgt := 14) dX7_isWithin_2 (by decide) (fun c2 => ?_) (fun c2 => ?_)
  · refine J_sub (l1 := [none, none, none]) trivial ?_
    exact hj1 ()
  · refine J_iload_n (i := 0) dX7_isWithin_5 rfl rfl ?_
    refine J_iload_n (i := 2) dX7_isWithin_6 rfl rfl ?_
    refine J_icmp_gt (tgt := 14) dX7_isWithin_7 (by decide) (fun c3 => ?_) (fun c3 => ?_)
    · refine J_sub (l1 := [none, none, none]) trivial ?_
      exact hj1 ()
    · refine J_iconst (v := (1 : Int32)) dX7_isWithin_10 (by decide) ?_
      refine J_goto (tgt := 15) dX7_isWithin_11 (by decide) ?_
      exact J_ireturn dX7_isWithin_15 rfl rfl rfl

def f_X7_refuseAsBad  (s0 : jM) : Option (Int32 × jM) := lt_ (pI s0 0 12 ((gI s0 0 12) + (1 : Int32))) fun s1 => some ((-2 : Int32), s1)
set_option maxRecDepth 100000 in
set_option maxHeartbeats 4000000 in
theorem con_X7_refuseAsBad (l : Launch) (s0 : jM) : Con l (1) yX7_refuseAsBad cX7_refuseAsBad 1 (Option.some Jvm.ClassFile.FieldType.int) (eIM SH) SH [.ref 0] s0 (f_X7_refuseAsBad s0) := by
  refine Con_of (ls0 := [some (.ref 0)]) (ini := false) (mc := 0) (ms := 0) (by decide +kernel) rfl (Nat.le_of_ble_eq_true rfl) (fun h => by cases h) (fun _ _ => rfl) ?_
  unfold f_X7_refuseAsBad
  refine J_aload_n (i := 0) dX7_refuseAsBad_0 rfl rfl ?_
  refine J_dup dX7_refuseAsBad_1 rfl ?_
  refine J_getI dX7_refuseAsBad_2 fl_RX7_179 sh_0_12 ?_
  refine J_iconst (v := (1 : Int32)) dX7_refuseAsBad_5 (by decide) ?_
  refine J_iadd dX7_refuseAsBad_6 ?_
  refine J_putI dX7_refuseAsBad_7 fp_RX7_179 (fun h => by first | rfl | cases h) sh_0_12 rfl rfl ?_
  refine J_letM rfl (fun s1 => ?_)
  refine J_bipush (v := (-2 : Int32)) dX7_refuseAsBad_10 (by decide) ?_
  exact J_ireturn dX7_refuseAsBad_12 rfl rfl rfl

def f_X5_addWalker (a1 : Int32) (a2 : Int32) (a3 : Int32) (s0 : jM) : Option jM := if (8 : Int32) ≤ (gI s0 1 4) then (some s0) else (gd (ib (gI s0 1 4) 8) <| lt_ (pI s0 2 (Int32.toNatClampNeg (gI s0 1 4)) a1) fun s2 => gd (ib (gI s2 1 4) 8) <| lt_ (pI s2 3 (Int32.toNatClampNeg (gI s2 1 4)) a2) fun s3 => gd (ib (gI s3 1 4) 8) <| lt_ (pI s3 4 (Int32.toNatClampNeg (gI s3 1 4)) a3) fun s4 => gd (ib (gI s4 1 4) 8) <| lt_ (pI s4 5 (Int32.toNatClampNeg (gI s4 1 4)) (10 : Int32)) fun s5 => lt_ (pI s5 1 4 ((gI s5 1 4) + (1 : Int32))) fun s6 => some s6)
set_option maxRecDepth 100000 in
set_option maxHeartbeats 4000000 in
theorem con_X5_addWalker (l : Launch) (a1 : Int32) (a2 : Int32) (a3 : Int32) (s0 : jM) : Con l (1) yX5_addWalker cX5_addWalker 4 (Option.none : Option Jvm.ClassFile.FieldType) (eV SH) SH [.ref 1, .int a1, .int a2, .int a3] s0 (f_X5_addWalker a1 a2 a3 s0) := by
  refine Con_of (ls0 := [some (.ref 1), some (.int a1), some (.int a2), some (.int a3)]) (ini := false) (mc := 0) (ms := 0) (by decide +kernel) rfl (Nat.le_of_ble_eq_true rfl) (fun h => by cases h) (fun _ _ => rfl) ?_
  unfold f_X5_addWalker
  refine J_aload_n (i := 0) dX5_addWalker_0 rfl rfl ?_
  refine J_getI dX5_addWalker_1 fl_RX5_24 sh_1_4 ?_
  refine J_bipush (v := (8 : Int32)) dX5_addWalker_4 (by decide) ?_
  refine J_icmp_ge (tgt := 60) dX5_addWalker_6 (by decide) (fun c1 => ?_) (fun c1 => ?_)
  · exact J_return dX5_addWalker_60 rfl rfl
  · refine J_aload_n (i := 0) dX5_addWalker_9 rfl rfl ?_
    refine J_getR dX5_addWalker_10 fl_RX5_9 sh_1_0 ?_
    refine J_aload_n (i := 0) dX5_addWalker_13 rfl rfl ?_
    refine J_getI dX5_addWalker_14 fl_RX5_24 sh_1_4 ?_
    refine J_iload_n (i := 1) dX5_addWalker_17 rfl rfl ?_
    refine J_iast dX5_addWalker_18 sa_2 ?_
    refine J_letM rfl (fun s2 => ?_)
    refine J_aload_n (i := 0) dX5_addWalker_19 rfl rfl ?_
    refine J_getR dX5_addWalker_20 fl_RX5_15 sh_1_1 ?_
    refine J_aload_n (i := 0) dX5_addWalker_23 rfl rfl ?_
    refine J_getI dX5_addWalker_24 fl_RX5_24 sh_1_4 ?_
    refine J_iload_n (i := 2) dX5_addWalker_27 rfl rfl ?_
    refine J_iast dX5_addWalker_28 sa_3 ?_
    refine J_letM rfl (fun s3 => ?_)
    refine J_aload_n (i := 0) dX5_addWalker_29 rfl rfl ?_
    refine J_getR dX5_addWalker_30 fl_RX5_18 sh_1_2 ?_
    refine J_aload_n (i := 0) dX5_addWalker_33 rfl rfl ?_
    refine J_getI dX5_addWalker_34 fl_RX5_24 sh_1_4 ?_
    refine J_iload_n (i := 3) dX5_addWalker_37 rfl rfl ?_
    refine J_iast dX5_addWalker_38 sa_4 ?_
    refine J_letM rfl (fun s4 => ?_)
    refine J_aload_n (i := 0) dX5_addWalker_39 rfl rfl ?_
    refine J_getR dX5_addWalker_40 fl_RX5_21 sh_1_3 ?_
    refine J_aload_n (i := 0) dX5_addWalker_43 rfl rfl ?_
    refine J_getI dX5_addWalker_44 fl_RX5_24 sh_1_4 ?_
    refine J_bipush (v := (10 : Int32)) dX5_addWalker_47 (by decide) ?_
    refine J_iast dX5_addWalker_49 sa_5 ?_
    refine J_letM rfl (fun s5 => ?_)
    refine J_aload_n (i := 0) dX5_addWalker_50 rfl rfl ?_
    refine J_dup dX5_addWalker_51 rfl ?_
    refine J_getI dX5_addWalker_52 fl_RX5_24 sh_1_4 ?_
    refine J_iconst (v := (1 : Int32)) dX5_addWalker_55 (by decide) ?_
    refine J_iadd dX5_addWalker_56 ?_
    refine J_putI dX5_addWalker_57 fp_RX5_24 (fun h => by first | rfl | cases h) sh_1_4 rfl rfl ?_
    refine J_letM rfl (fun s6 => ?_)
    exact J_return dX5_addWalker_60 rfl rfl

def f_X7_forgetWhatFollows  (s0 : jM) : Option jM := lt_ (pI s0 33 5 (1 : Int32)) fun s1 => lt_ (pI s1 37 8 (0 : Int32)) fun s2 => lt_ (pI s2 41 14 (0 : Int32)) fun s3 => some s3
set_option maxRecDepth 100000 in
set_option maxHeartbeats 4000000 in
theorem con_X7_forgetWhatFollows (l : Launch) (s0 : jM) : Con l (1) yX7_forgetWhatFollows cX7_forgetWhatFollows 1 (Option.none : Option Jvm.ClassFile.FieldType) (eV SH) SH [.ref 0] s0 (f_X7_forgetWhatFollows s0) := by
  refine Con_of (ls0 := [some (.ref 0)]) (ini := false) (mc := 0) (ms := 0) (by decide +kernel) rfl (Nat.le_of_ble_eq_true rfl) (fun h => by cases h) (fun _ _ => rfl) ?_
  unfold f_X7_forgetWhatFollows
  refine J_aload_n (i := 0) dX7_forgetWhatFollows_0 rfl rfl ?_
  refine J_getR dX7_forgetWhatFollows_1 fl_RX7_40 sh_0_5 ?_
  refine J_iconst (v := (1 : Int32)) dX7_forgetWhatFollows_4 (by decide) ?_
  refine J_putI dX7_forgetWhatFollows_5 fp_RX7_253 (fun h => by first | rfl | cases h) sh_33_5 rfl rfl ?_
  refine J_letM rfl (fun s1 => ?_)
  refine J_aload_n (i := 0) dX7_forgetWhatFollows_8 rfl rfl ?_
  refine J_getR dX7_forgetWhatFollows_9 fl_RX7_49 sh_0_6 ?_
  refine J_iconst (v := (0 : Int32)) dX7_forgetWhatFollows_12 (by decide) ?_
  refine J_putI dX7_forgetWhatFollows_13 fp_RX7_107 (fun h => by first | rfl | cases h) sh_37_8 rfl rfl ?_
  refine J_letM rfl (fun s2 => ?_)
  refine J_aload_n (i := 0) dX7_forgetWhatFollows_16 rfl rfl ?_
  refine J_getR dX7_forgetWhatFollows_17 fl_RX7_56 sh_0_7 ?_
  refine J_iconst (v := (0 : Int32)) dX7_forgetWhatFollows_20 (by decide) ?_
  refine J_putI dX7_forgetWhatFollows_21 fp_RX7_114 (fun h => by first | rfl | cases h) sh_41_14 rfl rfl ?_
  refine J_letM rfl (fun s3 => ?_)
  exact J_return dX7_forgetWhatFollows_24 rfl rfl

def f_X7_refuseAsFull  (s0 : jM) : Option (Int32 × jM) := lt_ (pI s0 0 14 ((gI s0 0 14) + (1 : Int32))) fun s1 => some ((-4 : Int32), s1)
set_option maxRecDepth 100000 in
set_option maxHeartbeats 4000000 in
theorem con_X7_refuseAsFull (l : Launch) (s0 : jM) : Con l (1) yX7_refuseAsFull cX7_refuseAsFull 1 (Option.some Jvm.ClassFile.FieldType.int) (eIM SH) SH [.ref 0] s0 (f_X7_refuseAsFull s0) := by
  refine Con_of (ls0 := [some (.ref 0)]) (ini := false) (mc := 0) (ms := 0) (by decide +kernel) rfl (Nat.le_of_ble_eq_true rfl) (fun h => by cases h) (fun _ _ => rfl) ?_
  unfold f_X7_refuseAsFull
  refine J_aload_n (i := 0) dX7_refuseAsFull_0 rfl rfl ?_
  refine J_dup dX7_refuseAsFull_1 rfl ?_
  refine J_getI dX7_refuseAsFull_2 fl_RX7_242 sh_0_14 ?_
  refine J_iconst (v := (1 : Int32)) dX7_refuseAsFull_5 (by decide) ?_
  refine J_iadd dX7_refuseAsFull_6 ?_
  refine J_putI dX7_refuseAsFull_7 fp_RX7_242 (fun h => by first | rfl | cases h) sh_0_14 rfl rfl ?_
  refine J_letM rfl (fun s1 => ?_)
  refine J_bipush (v := (-4 : Int32)) dX7_refuseAsFull_10 (by decide) ?_
  exact J_ireturn dX7_refuseAsFull_12 rfl rfl rfl

def f_X7_walker (a1 : Int32) (a2 : Int32) (a3 : Int32) (s0 : jM) : Option (Int32 × jM) := jn_ (fun (_ : Unit) => Option.bind (f_X7_refuseAsBad s0) fun r2 => some (r2.1, r2.2)) fun j1 => Option.bind (f_X7_isWithin a1 (0 : Int32) (7 : Int32)) fun r3 => if r3 = 0 then (j1 ()) else (Option.bind (f_X7_isWithin a2 (1 : Int32) (20 : Int32)) fun r5 => if r5 = 0 then (j1 ()) else (Option.bind (f_X7_isWithin a3 (0 : Int32) (99 : Int32)) fun r7 => if r7 = 0 then (j1 ()) else (if (gI s0 1 4) < (8 : Int32) then (lt_ (gI s0 1 4) fun x10 => Option.bind (f_X5_addWalker a1 a2 a3 s0) fun r11 => Option.bind (f_X7_forgetWhatFollows r11) fun r12 => some (x10, r12)) else (Option.bind (f_X7_refuseAsFull s0) fun r13 => some (r13.1, r13.2)))))
set_option maxRecDepth 100000 in
set_option maxHeartbeats 4000000 in
theorem con_X7_walker (l : Launch) (a1 : Int32) (a2 : Int32) (a3 : Int32) (s0 : jM) : Con l (2) yX7_walker cX7_walker 5 (Option.some Jvm.ClassFile.FieldType.int) (eIM SH) SH [.ref 0, .int a1, .int a2, .int a3] s0 (f_X7_walker a1 a2 a3 s0) := by
  refine Con_of (ls0 := [some (.ref 0), some (.int a1), some (.int a2), some (.int a3), none]) (ini := false) (mc := 0) (ms := 0) (by decide +kernel) rfl (Nat.le_of_ble_eq_true rfl) (fun h => by cases h) (fun _ _ => rfl) ?_
  unfold f_X7_walker
  refine J_join (P := fun j => ∀ (_ : Unit), J l RX7 cX7_walker 5 (Option.some Jvm.ClassFile.FieldType.int) false (rmD (2) 0 0) noCx (eIM SH) SH 0 0 s0 30 [some (.ref 0), none, none, none, none] [] (j ())) ?_ (fun j1 hj1 => ?_)
  · intro _
    refine J_aload_n (i := 0) dX7_walker_30 rfl rfl ?_
    refine J_callVIM 0 [] dX7_walker_31 ca_X7_refuseAsBad lk_RX7_86 vi_X7_refuseAsBad rc_0 rfl rfl ⟨by show _ ≤ _; simp only [rmD]; omega, by show _ ≤ _; simp only [rmD]; omega⟩ (Nat.le_of_ble_eq_true rfl) ⟨Nat.zero_le _, Nat.zero_le _⟩ (con_X7_refuseAsBad l _) (fun r2 _ => ?_)
    exact J_ireturn dX7_walker_34 rfl rfl rfl
  refine J_iload_n (i := 1) dX7_walker_0 rfl rfl ?_
  refine J_iconst (v := (0 : Int32)) dX7_walker_1 (by decide) ?_
  refine J_bipush (v := (7 : Int32)) dX7_walker_2 (by decide) ?_
  refine J_callSI [.int a1, .int (0 : Int32), .int (7 : Int32)] dX7_walker_4 ca_X7_isWithin lk_RX7_82 st_X7_isWithin rfl rfl ⟨by show _ ≤ _; simp only [rmD]; omega, by show _ ≤ _; simp only [rmD]; omega⟩ (Nat.le_of_ble_eq_true rfl) ⟨Nat.zero_le _, Nat.zero_le _⟩ (con_X7_isWithin l _ _ _ _) (fun r3 _ => ?_)
  refine J_if_eq (tgt := 30) dX7_walker_7 (by decide) (fun c4 => ?_) (fun c4 => ?_)
  · refine J_sub (l1 := [some (.ref 0), none, none, none, none]) ⟨rfl, trivial⟩ ?_
    exact hj1 ()
  · refine J_iload_n (i := 2) dX7_walker_10 rfl rfl ?_
    refine J_iconst (v := (1 : Int32)) dX7_walker_11 (by decide) ?_
    refine J_bipush (v := (20 : Int32)) dX7_walker_12 (by decide) ?_
    refine J_callSI [.int a2, .int (1 : Int32), .int (20 : Int32)] dX7_walker_14 ca_X7_isWithin lk_RX7_82 st_X7_isWithin rfl rfl ⟨by show _ ≤ _; simp only [rmD]; omega, by show _ ≤ _; simp only [rmD]; omega⟩ (Nat.le_of_ble_eq_true rfl) ⟨Nat.zero_le _, Nat.zero_le _⟩ (con_X7_isWithin l _ _ _ _) (fun r5 _ => ?_)
    refine J_if_eq (tgt := 30) dX7_walker_17 (by decide) (fun c6 => ?_) (fun c6 => ?_)
    · refine J_sub (l1 := [some (.ref 0), none, none, none, none]) ⟨rfl, trivial⟩ ?_
      exact hj1 ()
    · refine J_iload_n (i := 3) dX7_walker_20 rfl rfl ?_
      refine J_iconst (v := (0 : Int32)) dX7_walker_21 (by decide) ?_
      refine J_bipush (v := (99 : Int32)) dX7_walker_22 (by decide) ?_
      refine J_callSI [.int a3, .int (0 : Int32), .int (99 : Int32)] dX7_walker_24 ca_X7_isWithin lk_RX7_82 st_X7_isWithin rfl rfl ⟨by show _ ≤ _; simp only [rmD]; omega, by show _ ≤ _; simp only [rmD]; omega⟩ (Nat.le_of_ble_eq_true rfl) ⟨Nat.zero_le _, Nat.zero_le _⟩ (con_X7_isWithin l _ _ _ _) (fun r7 _ => ?_)
      refine J_if_ne (tgt := 35) dX7_walker_27 (by decide) (fun c8 => ?_) (fun c8 => ?_)
      · refine J_aload_n (i := 0) dX7_walker_35 rfl rfl ?_
        refine J_getR dX7_walker_36 fl_RX7_10 sh_0_0 ?_
        refine J_getI dX7_walker_39 fl_RX7_90 sh_1_4 ?_
        refine J_bipush (v := (8 : Int32)) dX7_walker_42 (by decide) ?_
        refine J_icmp_lt (tgt := 52) dX7_walker_44 (by decide) (fun c9 => ?_) (fun c9 => ?_)
        · refine J_aload_n (i := 0) dX7_walker_52 rfl rfl ?_
          refine J_getR dX7_walker_53 fl_RX7_10 sh_0_0 ?_
          refine J_getI dX7_walker_56 fl_RX7_90 sh_1_4 ?_
          refine J_istoreN (i := 4) (LS := fun x10 => [some (.ref 0), some (.int a1), some (.int a2), some (.int a3), some (.int x10)]) dX7_walker_59 (fun _ => rfl) (by decide) (fun x10 => ?_)
          refine J_aload_n (i := 0) dX7_walker_61 rfl rfl ?_
          refine J_getR dX7_walker_62 fl_RX7_10 sh_0_0 ?_
          refine J_iload_n (i := 1) dX7_walker_65 rfl rfl ?_
          refine J_iload_n (i := 2) dX7_walker_66 rfl rfl ?_
          refine J_iload_n (i := 3) dX7_walker_67 rfl rfl ?_
          refine J_callVV 1 [.int a1, .int a2, .int a3] dX7_walker_68 ca_X5_addWalker lk_RX7_97 vi_X5_addWalker rc_1 rfl rfl ⟨by show _ ≤ _; simp only [rmD]; omega, by show _ ≤ _; simp only [rmD]; omega⟩ (Nat.le_of_ble_eq_true rfl) ⟨Nat.zero_le _, Nat.zero_le _⟩ (con_X5_addWalker l _ _ _ _) (fun r11 _ => ?_)
          refine J_aload_n (i := 0) dX7_walker_71 rfl rfl ?_
          refine J_callVV 0 [] dX7_walker_72 ca_X7_forgetWhatFollows lk_RX7_101 vi_X7_forgetWhatFollows rc_0 rfl rfl ⟨by show _ ≤ _; simp only [rmD]; omega, by show _ ≤ _; simp only [rmD]; omega⟩ (Nat.le_of_ble_eq_true rfl) ⟨Nat.zero_le _, Nat.zero_le _⟩ (con_X7_forgetWhatFollows l _) (fun r12 _ => ?_)
          refine J_iload (i := 4) dX7_walker_75 rfl ?_
          exact J_ireturn dX7_walker_77 rfl rfl rfl
        · refine J_aload_n (i := 0) dX7_walker_47 rfl rfl ?_
          refine J_callVIM 0 [] dX7_walker_48 ca_X7_refuseAsFull lk_RX7_94 vi_X7_refuseAsFull rc_0 rfl rfl ⟨by show _ ≤ _; simp only [rmD]; omega, by show _ ≤ _; simp only [rmD]; omega⟩ (Nat.le_of_ble_eq_true rfl) ⟨Nat.zero_le _, Nat.zero_le _⟩ (con_X7_refuseAsFull l _) (fun r13 _ => ?_)
          exact J_ireturn dX7_walker_51 rfl rfl rfl
      · refine J_sub (l1 := [some (.ref 0), none, none, none, none]) ⟨rfl, trivial⟩ ?_
        exact hj1 ()

def f_X7_put (a1 : Int32) (a2 : Int32) (s0 : jM) : Option (Int32 × jM) := jn_ (fun (_ : Unit) => jn_ (fun (_ : Unit) => Option.bind (f_X7_refuseAsBad s0) fun r3 => some (r3.1, r3.2)) fun j2 => if a1 = (1 : Int32) then (Option.bind (f_X7_isWithin a2 (0 : Int32) (99 : Int32)) fun r5 => if r5 = 0 then (j2 ()) else (lt_ (gI s0 1 6) fun x7 => lt_ (pI s0 1 6 a2) fun s8 => lt_ (pI s8 41 14 (0 : Int32)) fun s9 => some (x7, s9))) else (j2 ())) fun j1 => if a1 = 0 then (Option.bind (f_X7_isWithin a2 (0 : Int32) (19 : Int32)) fun r11 => if r11 = 0 then (j1 ()) else (lt_ (gI s0 1 5) fun x13 => lt_ (pI s0 1 5 a2) fun s14 => lt_ (pI s14 37 8 (0 : Int32)) fun s15 => some (x13, s15))) else (j1 ())
set_option maxRecDepth 100000 in
set_option maxHeartbeats 4000000 in
theorem con_X7_put (l : Launch) (a1 : Int32) (a2 : Int32) (s0 : jM) : Con l (2) yX7_put cX7_put 4 (Option.some Jvm.ClassFile.FieldType.int) (eIM SH) SH [.ref 0, .int a1, .int a2] s0 (f_X7_put a1 a2 s0) := by
  refine Con_of (ls0 := [some (.ref 0), some (.int a1), some (.int a2), none]) (ini := false) (mc := 0) (ms := 0) (by decide +kernel) rfl (Nat.le_of_ble_eq_true rfl) (fun h => by cases h) (fun _ _ => rfl) ?_
  unfold f_X7_put
  refine J_join (P := fun j => ∀ (_ : Unit), J l RX7 cX7_put 4 (Option.some Jvm.ClassFile.FieldType.int) false (rmD (2) 0 0) noCx (eIM SH) SH 0 0 s0 40 [some (.ref 0), some (.int a1), some (.int a2), none] [] (j ())) ?_ (fun j1 hj1 => ?_)
  · intro _
    refine J_join (P := fun j => ∀ (_ : Unit), J l RX7 cX7_put 4 (Option.some Jvm.ClassFile.FieldType.int) false (rmD (2) 0 0) noCx (eIM SH) SH 0 0 s0 81 [some (.ref 0), none, none, none] [] (j ())) ?_ (fun j2 hj2 => ?_)
    · intro _
      refine J_aload_n (i := 0) dX7_put_81 rfl rfl ?_
      refine J_callVIM 0 [] dX7_put_82 ca_X7_refuseAsBad lk_RX7_86 vi_X7_refuseAsBad rc_0 rfl rfl ⟨by show _ ≤ _; simp only [rmD]; omega, by show _ ≤ _; simp only [rmD]; omega⟩ (Nat.le_of_ble_eq_true rfl) ⟨Nat.zero_le _, Nat.zero_le _⟩ (con_X7_refuseAsBad l _) (fun r3 _ => ?_)
      exact J_ireturn dX7_put_85 rfl rfl rfl
    refine J_iload_n (i := 1) dX7_put_40 rfl rfl ?_
    refine J_iconst (v := (1 : Int32)) dX7_put_41 (by decide) ?_
    refine J_icmp_ne (tgt := 81) dX7_put_42 (by decide) (fun c4 => ?_) (fun c4 => ?_)
    · refine J_sub (l1 := [some (.ref 0), none, none, none]) ⟨rfl, trivial⟩ ?_
      exact hj2 ()
    · refine J_iload_n (i := 2) dX7_put_45 rfl rfl ?_
      refine J_iconst (v := (0 : Int32)) dX7_put_46 (by decide) ?_
      refine J_bipush (v := (99 : Int32)) dX7_put_47 (by decide) ?_
      refine J_callSI [.int a2, .int (0 : Int32), .int (99 : Int32)] dX7_put_49 ca_X7_isWithin lk_RX7_82 st_X7_isWithin rfl rfl ⟨by show _ ≤ _; simp only [rmD]; omega, by show _ ≤ _; simp only [rmD]; omega⟩ (Nat.le_of_ble_eq_true rfl) ⟨Nat.zero_le _, Nat.zero_le _⟩ (con_X7_isWithin l _ _ _ _) (fun r5 _ => ?_)
      refine J_if_eq (tgt := 81) dX7_put_52 (by decide) (fun c6 => ?_) (fun c6 => ?_)
      · refine J_sub (l1 := [some (.ref 0), none, none, none]) ⟨rfl, trivial⟩ ?_
        exact hj2 ()
      · refine J_aload_n (i := 0) dX7_put_55 rfl rfl ?_
        refine J_getR dX7_put_56 fl_RX7_10 sh_0_0 ?_
        refine J_getI dX7_put_59 fl_RX7_111 sh_1_6 ?_
        refine J_istore_nN (i := 3) (LS := fun x7 => [some (.ref 0), some (.int a1), some (.int a2), some (.int x7)]) dX7_put_62 rfl (fun _ => rfl) (by decide) (fun x7 => ?_)
        refine J_aload_n (i := 0) dX7_put_63 rfl rfl ?_
        refine J_getR dX7_put_64 fl_RX7_10 sh_0_0 ?_
        refine J_iload_n (i := 2) dX7_put_67 rfl rfl ?_
        refine J_putI dX7_put_68 fp_RX7_111 (fun h => by first | rfl | cases h) sh_1_6 rfl rfl ?_
        refine J_letM rfl (fun s8 => ?_)
        refine J_aload_n (i := 0) dX7_put_71 rfl rfl ?_
        refine J_getR dX7_put_72 fl_RX7_56 sh_0_7 ?_
        refine J_iconst (v := (0 : Int32)) dX7_put_75 (by decide) ?_
        refine J_putI dX7_put_76 fp_RX7_114 (fun h => by first | rfl | cases h) sh_41_14 rfl rfl ?_
        refine J_letM rfl (fun s9 => ?_)
        refine J_iload_n (i := 3) dX7_put_79 rfl rfl ?_
        exact J_ireturn dX7_put_80 rfl rfl rfl
  refine J_iload_n (i := 1) dX7_put_0 rfl rfl ?_
  refine J_if_ne (tgt := 40) dX7_put_1 (by decide) (fun c10 => ?_) (fun c10 => ?_)
  · refine J_sub (l1 := [some (.ref 0), some (.int a1), some (.int a2), none]) ⟨rfl, ⟨rfl, ⟨rfl, trivial⟩⟩⟩ ?_
    exact hj1 ()
  · refine J_iload_n (i := 2) dX7_put_4 rfl rfl ?_
    refine J_iconst (v := (0 : Int32)) dX7_put_5 (by decide) ?_
    refine J_bipush (v := (19 : Int32)) dX7_put_6 (by decide) ?_
    refine J_callSI [.int a2, .int (0 : Int32), .int (19 : Int32)] dX7_put_8 ca_X7_isWithin lk_RX7_82 st_X7_isWithin rfl rfl ⟨by show _ ≤ _; simp only [rmD]; omega, by show _ ≤ _; simp only [rmD]; omega⟩ (Nat.le_of_ble_eq_true rfl) ⟨Nat.zero_le _, Nat.zero_le _⟩ (con_X7_isWithin l _ _ _ _) (fun r11 _ => ?_)
    refine J_if_eq (tgt := 40) dX7_put_11 (by decide) (fun c12 => ?_) (fun c12 => ?_)
    · refine J_sub (l1 := [some (.ref 0), some (.int a1), some (.int a2), none]) ⟨rfl, ⟨rfl, ⟨rfl, trivial⟩⟩⟩ ?_
      exact hj1 ()
    · refine J_aload_n (i := 0) dX7_put_14 rfl rfl ?_
      refine J_getR dX7_put_15 fl_RX7_10 sh_0_0 ?_
      refine J_getI dX7_put_18 fl_RX7_104 sh_1_5 ?_
      refine J_istore_nN (i := 3) (LS := fun x13 => [some (.ref 0), some (.int a1), some (.int a2), some (.int x13)]) dX7_put_21 rfl (fun _ => rfl) (by decide) (fun x13 => ?_)
      refine J_aload_n (i := 0) dX7_put_22 rfl rfl ?_
      refine J_getR dX7_put_23 fl_RX7_10 sh_0_0 ?_
      refine J_iload_n (i := 2) dX7_put_26 rfl rfl ?_
      refine J_putI dX7_put_27 fp_RX7_104 (fun h => by first | rfl | cases h) sh_1_5 rfl rfl ?_
      refine J_letM rfl (fun s14 => ?_)
      refine J_aload_n (i := 0) dX7_put_30 rfl rfl ?_
      refine J_getR dX7_put_31 fl_RX7_49 sh_0_6 ?_
      refine J_iconst (v := (0 : Int32)) dX7_put_34 (by decide) ?_
      refine J_putI dX7_put_35 fp_RX7_107 (fun h => by first | rfl | cases h) sh_37_8 rfl rfl ?_
      refine J_letM rfl (fun s15 => ?_)
      refine J_iload_n (i := 3) dX7_put_38 rfl rfl ?_
      exact J_ireturn dX7_put_39 rfl rfl rfl

def f_X5_addLetter (a1 : Int32) (s0 : jM) : Option jM := if (40 : Int32) ≤ (gI s0 1 8) then (some s0) else (gd (ib (gI s0 1 8) 40) <| lt_ (pI s0 6 (Int32.toNatClampNeg (gI s0 1 8)) a1) fun s2 => lt_ (pI s2 1 8 ((gI s2 1 8) + (1 : Int32))) fun s3 => some s3)
set_option maxRecDepth 100000 in
set_option maxHeartbeats 4000000 in
theorem con_X5_addLetter (l : Launch) (a1 : Int32) (s0 : jM) : Con l (1) yX5_addLetter cX5_addLetter 2 (Option.none : Option Jvm.ClassFile.FieldType) (eV SH) SH [.ref 1, .int a1] s0 (f_X5_addLetter a1 s0) := by
  refine Con_of (ls0 := [some (.ref 1), some (.int a1)]) (ini := false) (mc := 0) (ms := 0) (by decide +kernel) rfl (Nat.le_of_ble_eq_true rfl) (fun h => by cases h) (fun _ _ => rfl) ?_
  unfold f_X5_addLetter
  refine J_aload_n (i := 0) dX5_addLetter_0 rfl rfl ?_
  refine J_getI dX5_addLetter_1 fl_RX5_38 sh_1_8 ?_
  refine J_bipush (v := (40 : Int32)) dX5_addLetter_4 (by decide) ?_
  refine J_icmp_ge (tgt := 29) dX5_addLetter_6 (by decide) (fun c1 => ?_) (fun c1 => ?_)
  · exact J_return dX5_addLetter_29 rfl rfl
  · refine J_aload_n (i := 0) dX5_addLetter_9 rfl rfl ?_
    refine J_getR dX5_addLetter_10 fl_RX5_34 sh_1_7 ?_
    refine J_aload_n (i := 0) dX5_addLetter_13 rfl rfl ?_
    refine J_getI dX5_addLetter_14 fl_RX5_38 sh_1_8 ?_
    refine J_iload_n (i := 1) dX5_addLetter_17 rfl rfl ?_
    refine J_cast dX5_addLetter_18 sa_6 ?_
    refine J_letM rfl (fun s2 => ?_)
    refine J_aload_n (i := 0) dX5_addLetter_19 rfl rfl ?_
    refine J_dup dX5_addLetter_20 rfl ?_
    refine J_getI dX5_addLetter_21 fl_RX5_38 sh_1_8 ?_
    refine J_iconst (v := (1 : Int32)) dX5_addLetter_24 (by decide) ?_
    refine J_iadd dX5_addLetter_25 ?_
    refine J_putI dX5_addLetter_26 fp_RX5_38 (fun h => by first | rfl | cases h) sh_1_8 rfl rfl ?_
    refine J_letM rfl (fun s3 => ?_)
    exact J_return dX5_addLetter_29 rfl rfl

def f_X6_signAt (a1 : Int32) (s0 : jM) : Option Int32 := jn_ (fun (_ : Unit) => some (-1 : Int32)) fun j1 => if a1 < 0 then (j1 ()) else (if (gI s0 1 8) ≤ a1 then (j1 ()) else (if (40 : Int32) ≤ a1 then (j1 ()) else (gd (ib a1 40) <| some (gC s0 6 (Int32.toNatClampNeg a1)))))
set_option maxRecDepth 100000 in
set_option maxHeartbeats 4000000 in
theorem con_X6_signAt (l : Launch) (a1 : Int32) (s0 : jM) : Con l (1) yX6_signAt cX6_signAt 2 (Option.some Jvm.ClassFile.FieldType.int) (eI SH s0) SH [.ref 29, .int a1] s0 (f_X6_signAt a1 s0) := by
  refine Con_of (ls0 := [some (.ref 29), some (.int a1)]) (ini := false) (mc := 0) (ms := 0) (by decide +kernel) rfl (Nat.le_of_ble_eq_true rfl) (fun h => by cases h) (fun _ _ => rfl) ?_
  unfold f_X6_signAt
  refine J_join (P := fun j => ∀ (_ : Unit), J l RX6 cX6_signAt 2 (Option.some Jvm.ClassFile.FieldType.int) false (rmD (1) 0 0) noCx (eI SH s0) SH 0 0 s0 33 [none, none] [] (j ())) ?_ (fun j1 hj1 => ?_)
  · intro _
    refine J_iconst (v := (-1 : Int32)) dX6_signAt_33 (by decide) ?_
    exact J_ireturn dX6_signAt_34 rfl rfl rfl
  refine J_iload_n (i := 1) dX6_signAt_0 rfl rfl ?_
  refine J_if_lt (tgt := 33) dX6_signAt_1 (by decide) (fun c2 => ?_) (fun c2 => ?_)
  · refine J_sub (l1 := [none, none]) trivial ?_
    exact hj1 ()
  · refine J_iload_n (i := 1) dX6_signAt_4 rfl rfl ?_
    refine J_aload_n (i := 0) dX6_signAt_5 rfl rfl ?_
    refine J_getR dX6_signAt_6 fl_RX6_23 sh_29_0 ?_
    refine J_getI dX6_signAt_9 fl_RX6_122 sh_1_8 ?_
    refine J_icmp_ge (tgt := 33) dX6_signAt_12 (by decide) (fun c3 => ?_) (fun c3 => ?_)
    · refine J_sub (l1 := [none, none]) trivial ?_
      exact hj1 ()
    · refine J_iload_n (i := 1) dX6_signAt_15 rfl rfl ?_
      refine J_bipush (v := (40 : Int32)) dX6_signAt_16 (by decide) ?_
      refine J_icmp_ge (tgt := 33) dX6_signAt_18 (by decide) (fun c4 => ?_) (fun c4 => ?_)
      · refine J_sub (l1 := [none, none]) trivial ?_
        exact hj1 ()
      · refine J_aload_n (i := 0) dX6_signAt_21 rfl rfl ?_
        refine J_getR dX6_signAt_22 fl_RX6_23 sh_29_0 ?_
        refine J_getR dX6_signAt_25 fl_RX6_94 sh_1_7 ?_
        refine J_iload_n (i := 1) dX6_signAt_28 rfl rfl ?_
        refine J_cald dX6_signAt_29 sa_6 ?_
        refine J_goto (tgt := 34) dX6_signAt_30 (by decide) ?_
        exact J_ireturn dX6_signAt_34 rfl rfl rfl

def lp_X6_nextSign_10 (N : Nat) (k3 : jM → Option (Int32 × jM)) : Nat → jM → Option (Int32 × jM)
  | 0, _ => none
  | q + 1, s5 => if (40 : Int32) ≤ (gI s5 29 6) then (k3 s5) else (Option.bind (f_X6_signAt (gI s5 29 6) s5) fun r8 => if r8 = (32 : Int32) then (lt_ (pI s5 29 6 ((gI s5 29 6) + (1 : Int32))) fun s10 => lp_X6_nextSign_10 N k3 q s10) else (k3 s5))
def f_X6_nextSign (N : Nat)  (s0 : jM) : Option (Int32 × jM) := if (gI s0 29 7) = (-1 : Int32) then (jn_ (fun (s2 : jM) => Option.bind (f_X6_signAt (gI s2 29 6) s2) fun r4 => some (r4, s2)) fun k3 => lp_X6_nextSign_10 N k3 N s0) else (some ((-1 : Int32), s0))
set_option maxRecDepth 100000 in
set_option maxHeartbeats 4000000 in
theorem lp_X6_nextSign_10_ok (l : Launch) (N : Nat)  (k3 : jM → Option (Int32 × jM)) (hk3 : ∀ (s2 : jM), J l RX6 cX6_nextSign 1 (Option.some Jvm.ClassFile.FieldType.int) false (rmD (2) 0 0) noCx (eIM SH) SH 0 0 s2 45 [some (.ref 29)] [] (k3 s2)) : ∀ (q : Nat) (s5 : jM), J l RX6 cX6_nextSign 1 (Option.some Jvm.ClassFile.FieldType.int) false (rmD (2) 0 0) noCx (eIM SH) SH 0 0 s5 10 [some (.ref 29)] [] (lp_X6_nextSign_10 N k3 q s5) := by
  intro q
  induction q with
  | zero => intro s5; exact J_none
  | succ q hrec6 =>
    intro s5
    rw [lp_X6_nextSign_10]
    refine J_aload_n (i := 0) dX6_nextSign_10 rfl rfl ?_
    refine J_getI dX6_nextSign_11 fl_RX6_30 sh_29_6 ?_
    refine J_bipush (v := (40 : Int32)) dX6_nextSign_14 (by decide) ?_
    refine J_icmp_ge (tgt := 45) dX6_nextSign_16 (by decide) (fun c7 => ?_) (fun c7 => ?_)
    · refine J_sub (l1 := [some (.ref 29)]) ⟨rfl, trivial⟩ ?_
      exact hk3 s5
    · refine J_aload_n (i := 0) dX6_nextSign_19 rfl rfl ?_
      refine J_aload_n (i := 0) dX6_nextSign_20 rfl rfl ?_
      refine J_getI dX6_nextSign_21 fl_RX6_30 sh_29_6 ?_
      refine J_callVI 29 [.int (gI s5 29 6)] dX6_nextSign_24 ca_X6_signAt lk_RX6_117 vi_X6_signAt rc_29 rfl rfl ⟨by show _ ≤ _; simp only [rmD]; omega, by show _ ≤ _; simp only [rmD]; omega⟩ (Nat.le_of_ble_eq_true rfl) ⟨Nat.zero_le _, Nat.zero_le _⟩ (con_X6_signAt l _ _) (fun r8 _ => ?_)
      refine J_bipush (v := (32 : Int32)) dX6_nextSign_27 (by decide) ?_
      refine J_icmp_ne (tgt := 45) dX6_nextSign_29 (by decide) (fun c9 => ?_) (fun c9 => ?_)
      · refine J_sub (l1 := [some (.ref 29)]) ⟨rfl, trivial⟩ ?_
        exact hk3 s5
      · refine J_aload_n (i := 0) dX6_nextSign_32 rfl rfl ?_
        refine J_dup dX6_nextSign_33 rfl ?_
        refine J_getI dX6_nextSign_34 fl_RX6_30 sh_29_6 ?_
        refine J_iconst (v := (1 : Int32)) dX6_nextSign_37 (by decide) ?_
        refine J_iadd dX6_nextSign_38 ?_
        refine J_putI dX6_nextSign_39 fp_RX6_30 (fun h => by first | rfl | cases h) sh_29_6 rfl rfl ?_
        refine J_letM rfl (fun s10 => ?_)
        refine J_goto (tgt := 10) dX6_nextSign_42 (by decide) ?_
        refine J_sub (l1 := [some (.ref 29)]) ⟨rfl, trivial⟩ ?_
        exact hrec6 s10
set_option maxRecDepth 100000 in
set_option maxHeartbeats 4000000 in
theorem con_X6_nextSign (l : Launch) (N : Nat) (s0 : jM) : Con l (2) yX6_nextSign cX6_nextSign 1 (Option.some Jvm.ClassFile.FieldType.int) (eIM SH) SH [.ref 29] s0 (f_X6_nextSign N s0) := by
  refine Con_of (ls0 := [some (.ref 29)]) (ini := false) (mc := 0) (ms := 0) (by decide +kernel) rfl (Nat.le_of_ble_eq_true rfl) (fun h => by cases h) (fun _ _ => rfl) ?_
  unfold f_X6_nextSign
  refine J_aload_n (i := 0) dX6_nextSign_0 rfl rfl ?_
  refine J_getI dX6_nextSign_1 fl_RX6_37 sh_29_7 ?_
  refine J_iconst (v := (-1 : Int32)) dX6_nextSign_4 (by decide) ?_
  refine J_icmp_eq (tgt := 10) dX6_nextSign_5 (by decide) (fun c1 => ?_) (fun c1 => ?_)
  · refine J_join (P := fun j => ∀ (s2 : jM), J l RX6 cX6_nextSign 1 (Option.some Jvm.ClassFile.FieldType.int) false (rmD (2) 0 0) noCx (eIM SH) SH 0 0 s2 45 [some (.ref 29)] [] (j s2)) ?_ (fun k3 hk3 => ?_)
    · intro s2
      refine J_aload_n (i := 0) dX6_nextSign_45 rfl rfl ?_
      refine J_aload_n (i := 0) dX6_nextSign_46 rfl rfl ?_
      refine J_getI dX6_nextSign_47 fl_RX6_30 sh_29_6 ?_
      refine J_callVI 29 [.int (gI s2 29 6)] dX6_nextSign_50 ca_X6_signAt lk_RX6_117 vi_X6_signAt rc_29 rfl rfl ⟨by show _ ≤ _; simp only [rmD]; omega, by show _ ≤ _; simp only [rmD]; omega⟩ (Nat.le_of_ble_eq_true rfl) ⟨Nat.zero_le _, Nat.zero_le _⟩ (con_X6_signAt l _ _) (fun r4 _ => ?_)
      exact J_ireturn dX6_nextSign_53 rfl rfl rfl
    refine J_sub (l1 := [some (.ref 29)]) ⟨rfl, trivial⟩ ?_
    exact lp_X6_nextSign_10_ok l N  k3 hk3 N s0
  · refine J_iconst (v := (-1 : Int32)) dX6_nextSign_8 (by decide) ?_
    exact J_ireturn dX6_nextSign_9 rfl rfl rfl
