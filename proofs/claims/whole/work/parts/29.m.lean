def lp_X8_workDown_0 (N : Nat) (a1 : Int32) : Nat → jM → Option jM
  | 0, _ => none
  | q + 1, s1 => if (gI s1 53 11) ≤ 0 then (some s1) else (gd (ib ((gI s1 53 11) - (1 : Int32)) 128) <| if (1000 : Int32) ≤ (gI s1 59 (Int32.toNatClampNeg ((gI s1 53 11) - (1 : Int32)))) then (some s1) else (gd (ib ((gI s1 53 11) - (1 : Int32)) 128) <| Option.bind (f_X8_rank (gI s1 59 (Int32.toNatClampNeg ((gI s1 53 11) - (1 : Int32))))) fun r5 => if r5 < a1 then (some s1) else (Option.bind (f_X8_workOut s1) fun r7 => lp_X8_workDown_0 N a1 q r7)))
def f_X8_workDown (N : Nat) (a1 : Int32) (s0 : jM) : Option jM := lp_X8_workDown_0 N a1 N s0
set_option maxRecDepth 100000 in
set_option maxHeartbeats 4000000 in
theorem lp_X8_workDown_0_ok (l : Launch) (N : Nat)  (a1 : Int32)  : ∀ (q : Nat) (s1 : jM), J l RX8 cX8_workDown 2 (Option.none : Option Jvm.ClassFile.FieldType) false (rmD (2) 0 0) noCx (eV SH) SH 0 0 s1 0 [some (.ref 53), some (.int a1)] [] (lp_X8_workDown_0 N a1 q s1) := by
  intro q
  induction q with
  | zero => intro s1; exact J_none
  | succ q hrec2 =>
    intro s1
    rw [lp_X8_workDown_0]
    refine J_aload_n (i := 0) dX8_workDown_0 rfl rfl ?_
    refine J_getI dX8_workDown_1 fl_RX8_124 sh_53_11 ?_
    refine J_if_le (tgt := 49) dX8_workDown_4 (by decide) (fun c3 => ?_) (fun c3 => ?_)
    · exact J_return dX8_workDown_49 rfl rfl
    · refine J_aload_n (i := 0) dX8_workDown_7 rfl rfl ?_
      refine J_getR dX8_workDown_8 fl_RX8_31 sh_53_10 ?_
      refine J_aload_n (i := 0) dX8_workDown_11 rfl rfl ?_
      refine J_getI dX8_workDown_12 fl_RX8_124 sh_53_11 ?_
      refine J_iconst (v := (1 : Int32)) dX8_workDown_15 (by decide) ?_
      refine J_isub dX8_workDown_16 ?_
      refine J_iald dX8_workDown_17 sa_59 ?_
      refine J_sipush (v := (1000 : Int32)) dX8_workDown_18 (by decide) ?_
      refine J_icmp_ge (tgt := 49) dX8_workDown_21 (by decide) (fun c4 => ?_) (fun c4 => ?_)
      · exact J_return dX8_workDown_49 rfl rfl
      · refine J_aload_n (i := 0) dX8_workDown_24 rfl rfl ?_
        refine J_getR dX8_workDown_25 fl_RX8_31 sh_53_10 ?_
        refine J_aload_n (i := 0) dX8_workDown_28 rfl rfl ?_
        refine J_getI dX8_workDown_29 fl_RX8_124 sh_53_11 ?_
        refine J_iconst (v := (1 : Int32)) dX8_workDown_32 (by decide) ?_
        refine J_isub dX8_workDown_33 ?_
        refine J_iald dX8_workDown_34 sa_59 ?_
        refine J_callSI [.int (gI s1 59 (Int32.toNatClampNeg ((gI s1 53 11) - (1 : Int32))))] dX8_workDown_35 ca_X8_rank lk_RX8_130 st_X8_rank rfl rfl ⟨by show _ ≤ _; simp only [rmD]; omega, by show _ ≤ _; simp only [rmD]; omega⟩ (Nat.le_of_ble_eq_true rfl) ⟨Nat.zero_le _, Nat.zero_le _⟩ (con_X8_rank l _ _) (fun r5 _ => ?_)
        refine J_iload_n (i := 1) dX8_workDown_38 rfl rfl ?_
        refine J_icmp_lt (tgt := 49) dX8_workDown_39 (by decide) (fun c6 => ?_) (fun c6 => ?_)
        · exact J_return dX8_workDown_49 rfl rfl
        · refine J_aload_n (i := 0) dX8_workDown_42 rfl rfl ?_
          refine J_callVV 53 [] dX8_workDown_43 ca_X8_workOut lk_RX8_133 vi_X8_workOut rc_53 rfl rfl ⟨by show _ ≤ _; simp only [rmD]; omega, by show _ ≤ _; simp only [rmD]; omega⟩ (Nat.le_of_ble_eq_true rfl) ⟨Nat.zero_le _, Nat.zero_le _⟩ (con_X8_workOut l _) (fun r7 _ => ?_)
          refine J_goto (tgt := 0) dX8_workDown_46 (by decide) ?_
          refine J_sub (l1 := [some (.ref 53), some (.int a1)]) ⟨rfl, ⟨rfl, trivial⟩⟩ ?_
          exact hrec2 r7
set_option maxRecDepth 100000 in
set_option maxHeartbeats 4000000 in
theorem con_X8_workDown (l : Launch) (N : Nat) (a1 : Int32) (s0 : jM) : Con l (2) yX8_workDown cX8_workDown 2 (Option.none : Option Jvm.ClassFile.FieldType) (eV SH) SH [.ref 53, .int a1] s0 (f_X8_workDown N a1 s0) := by
  refine Con_of (ls0 := [some (.ref 53), some (.int a1)]) (ini := false) (mc := 0) (ms := 0) (by decide +kernel) rfl (Nat.le_of_ble_eq_true rfl) (fun h => by cases h) (fun _ _ => rfl) ?_
  unfold f_X8_workDown
  refine J_sub (l1 := [some (.ref 53), some (.int a1)]) ⟨rfl, ⟨rfl, trivial⟩⟩ ?_
  exact lp_X8_workDown_0_ok l N  a1  N s0

def lp_X8_stands_2 (N : Nat) (k3 : Int64 → jM → Option jM) : Nat → Int64 → jM → Option jM
  | 0, _, _ => none
  | q + 1, y6, s7 => if (gI s7 53 11) ≤ 0 then (k3 y6 s7) else (gd (ib ((gI s7 53 11) - (1 : Int32)) 128) <| if (gI s7 59 (Int32.toNatClampNeg ((gI s7 53 11) - (1 : Int32)))) ≤ (1000 : Int32) then (k3 y6 s7) else (jn_ (fun (y11 : Int64) => lt_ (pI s7 53 11 ((gI s7 53 11) - (1 : Int32))) fun s13 => lp_X8_stands_2 N k3 q y11 s13) fun j12 => gd (ib ((gI s7 53 11) - (1 : Int32)) 128) <| if (gI s7 59 (Int32.toNatClampNeg ((gI s7 53 11) - (1 : Int32)))) = (1001 : Int32) then (if y6 = (0 : Int64) then (j12 (1 : Int64)) else (j12 (0 : Int64))) else (j12 (-y6))))
def f_X8_stands (N : Nat) (a1 : Int64) (s0 : jM) : Option jM := jn_ (fun (y1 : Int64) (s2 : jM) => gd (ib (gI s2 53 9) 64) <| lt_ (pL s2 58 (Int32.toNatClampNeg (gI s2 53 9)) y1) fun s4 => lt_ (pI s4 53 9 ((gI s4 53 9) + (1 : Int32))) fun s5 => some s5) fun k3 => lp_X8_stands_2 N k3 N a1 s0
set_option maxRecDepth 100000 in
set_option maxHeartbeats 4000000 in
theorem lp_X8_stands_2_ok (l : Launch) (N : Nat)  (k3 : Int64 → jM → Option jM) (hk3 : ∀ (y1 : Int64) (s2 : jM), J l RX8 cX8_stands 5 (Option.none : Option Jvm.ClassFile.FieldType) false (rmD (1) 0 0) noCx (eV SH) SH 0 0 s2 73 [some (.ref 53), none, none, some (.long y1), none] [] (k3 y1 s2)) : ∀ (q : Nat) (y6 : Int64) (s7 : jM), J l RX8 cX8_stands 5 (Option.none : Option Jvm.ClassFile.FieldType) false (rmD (1) 0 0) noCx (eV SH) SH 0 0 s7 2 [some (.ref 53), none, none, some (.long y6), none] [] (lp_X8_stands_2 N k3 q y6 s7) := by
  intro q
  induction q with
  | zero => intro y6 s7; exact J_none
  | succ q hrec8 =>
    intro y6 s7
    rw [lp_X8_stands_2]
    refine J_aload_n (i := 0) dX8_stands_2 rfl rfl ?_
    refine J_getI dX8_stands_3 fl_RX8_124 sh_53_11 ?_
    refine J_if_le (tgt := 73) dX8_stands_6 (by decide) (fun c9 => ?_) (fun c9 => ?_)
    · refine J_sub (l1 := [some (.ref 53), none, none, some (.long y6), none]) ⟨rfl, ⟨rfl, trivial⟩⟩ ?_
      exact hk3 y6 s7
    · refine J_aload_n (i := 0) dX8_stands_9 rfl rfl ?_
      refine J_getR dX8_stands_10 fl_RX8_31 sh_53_10 ?_
      refine J_aload_n (i := 0) dX8_stands_13 rfl rfl ?_
      refine J_getI dX8_stands_14 fl_RX8_124 sh_53_11 ?_
      refine J_iconst (v := (1 : Int32)) dX8_stands_17 (by decide) ?_
      refine J_isub dX8_stands_18 ?_
      refine J_iald dX8_stands_19 sa_59 ?_
      refine J_sipush (v := (1000 : Int32)) dX8_stands_20 (by decide) ?_
      refine J_icmp_le (tgt := 73) dX8_stands_23 (by decide) (fun c10 => ?_) (fun c10 => ?_)
      · refine J_sub (l1 := [some (.ref 53), none, none, some (.long y6), none]) ⟨rfl, ⟨rfl, trivial⟩⟩ ?_
        exact hk3 y6 s7
      · refine J_join (P := fun j => ∀ (y11 : Int64), J l RX8 cX8_stands 5 (Option.none : Option Jvm.ClassFile.FieldType) false (rmD (1) 0 0) noCx (eV SH) SH 0 0 s7 59 [some (.ref 53), none, none, none, none] [.long y11] (j y11)) ?_ (fun j12 hj12 => ?_)
        · intro y11
          refine J_lstore_n (i := 3) (ls2 := [some (.ref 53), none, none, some (.long y11), none]) dX8_stands_59 rfl rfl (by decide) ?_
          refine J_aload_n (i := 0) dX8_stands_60 rfl rfl ?_
          refine J_dup dX8_stands_61 rfl ?_
          refine J_getI dX8_stands_62 fl_RX8_124 sh_53_11 ?_
          refine J_iconst (v := (1 : Int32)) dX8_stands_65 (by decide) ?_
          refine J_isub dX8_stands_66 ?_
          refine J_putI dX8_stands_67 fp_RX8_124 (fun h => by first | rfl | cases h) sh_53_11 rfl rfl ?_
          refine J_letM rfl (fun s13 => ?_)
          refine J_goto (tgt := 2) dX8_stands_70 (by decide) ?_
          refine J_sub (l1 := [some (.ref 53), none, none, some (.long y11), none]) ⟨rfl, ⟨rfl, trivial⟩⟩ ?_
          exact hrec8 y11 s13
        refine J_aload_n (i := 0) dX8_stands_26 rfl rfl ?_
        refine J_getR dX8_stands_27 fl_RX8_31 sh_53_10 ?_
        refine J_aload_n (i := 0) dX8_stands_30 rfl rfl ?_
        refine J_getI dX8_stands_31 fl_RX8_124 sh_53_11 ?_
        refine J_iconst (v := (1 : Int32)) dX8_stands_34 (by decide) ?_
        refine J_isub dX8_stands_35 ?_
        refine J_iald dX8_stands_36 sa_59 ?_
        refine J_sipush (v := (1001 : Int32)) dX8_stands_37 (by decide) ?_
        refine J_icmp_ne (tgt := 57) dX8_stands_40 (by decide) (fun c14 => ?_) (fun c14 => ?_)
        · refine J_lload_n (i := 3) dX8_stands_57 rfl rfl ?_
          refine J_lneg dX8_stands_58 ?_
          refine J_sub (l1 := [some (.ref 53), none, none, none, none]) ⟨rfl, trivial⟩ ?_
          exact hj12 (-y6)
        · refine J_lload_n (i := 3) dX8_stands_43 rfl rfl ?_
          refine J_lconst (v := (0 : Int64)) dX8_stands_44 (by decide) ?_
          refine J_lcmp_ne (tgt := 53) dX8_stands_45 dX8_stands_46 (by decide) (fun c15 => ?_) (fun c15 => ?_)
          · refine J_lconst (v := (0 : Int64)) dX8_stands_53 (by decide) ?_
            refine J_goto (tgt := 59) dX8_stands_54 (by decide) ?_
            refine J_sub (l1 := [some (.ref 53), none, none, none, none]) ⟨rfl, trivial⟩ ?_
            exact hj12 (0 : Int64)
          · refine J_lconst (v := (1 : Int64)) dX8_stands_49 (by decide) ?_
            refine J_goto (tgt := 59) dX8_stands_50 (by decide) ?_
            refine J_sub (l1 := [some (.ref 53), none, none, none, none]) ⟨rfl, trivial⟩ ?_
            exact hj12 (1 : Int64)
set_option maxRecDepth 100000 in
set_option maxHeartbeats 4000000 in
theorem con_X8_stands (l : Launch) (N : Nat) (a1 : Int64) (s0 : jM) : Con l (1) yX8_stands cX8_stands 5 (Option.none : Option Jvm.ClassFile.FieldType) (eV SH) SH [.ref 53, .long a1] s0 (f_X8_stands N a1 s0) := by
  refine Con_of (ls0 := [some (.ref 53), some (.long a1), none, none, none]) (ini := false) (mc := 0) (ms := 0) (by decide +kernel) rfl (Nat.le_of_ble_eq_true rfl) (fun h => by cases h) (fun _ _ => rfl) ?_
  unfold f_X8_stands
  refine J_lload_n (i := 1) dX8_stands_0 rfl rfl ?_
  refine J_lstore_n (i := 3) (ls2 := [some (.ref 53), some (.long a1), none, some (.long a1), none]) dX8_stands_1 rfl rfl (by decide) ?_
  refine J_join (P := fun j => ∀ (y1 : Int64) (s2 : jM), J l RX8 cX8_stands 5 (Option.none : Option Jvm.ClassFile.FieldType) false (rmD (1) 0 0) noCx (eV SH) SH 0 0 s2 73 [some (.ref 53), none, none, some (.long y1), none] [] (j y1 s2)) ?_ (fun k3 hk3 => ?_)
  · intro y1 s2
    refine J_aload_n (i := 0) dX8_stands_73 rfl rfl ?_
    refine J_getR dX8_stands_74 fl_RX8_27 sh_53_8 ?_
    refine J_aload_n (i := 0) dX8_stands_77 rfl rfl ?_
    refine J_getI dX8_stands_78 fl_RX8_127 sh_53_9 ?_
    refine J_lload_n (i := 3) dX8_stands_81 rfl rfl ?_
    refine J_last dX8_stands_82 sa_58 ?_
    refine J_letM rfl (fun s4 => ?_)
    refine J_aload_n (i := 0) dX8_stands_83 rfl rfl ?_
    refine J_dup dX8_stands_84 rfl ?_
    refine J_getI dX8_stands_85 fl_RX8_127 sh_53_9 ?_
    refine J_iconst (v := (1 : Int32)) dX8_stands_88 (by decide) ?_
    refine J_iadd dX8_stands_89 ?_
    refine J_putI dX8_stands_90 fp_RX8_127 (fun h => by first | rfl | cases h) sh_53_9 rfl rfl ?_
    refine J_letM rfl (fun s5 => ?_)
    exact J_return dX8_stands_93 rfl rfl
  refine J_sub (l1 := [some (.ref 53), none, none, some (.long a1), none]) ⟨rfl, ⟨rfl, trivial⟩⟩ ?_
  exact lp_X8_stands_2_ok l N  k3 hk3 N a1 s0

def f_X8_letterOf (a0 : Int32) : Option Int32 := if a0 = (112 : Int32) then (some (0 : Int32)) else (if a0 = (98 : Int32) then (some (1 : Int32)) else (if a0 = (117 : Int32) then (some (2 : Int32)) else (if a0 = (100 : Int32) then (some (3 : Int32)) else (if a0 = (108 : Int32) then (some (4 : Int32)) else (if a0 = (109 : Int32) then (some (5 : Int32)) else (some (-1 : Int32)))))))
set_option maxRecDepth 100000 in
set_option maxHeartbeats 4000000 in
theorem con_X8_letterOf (l : Launch) (a0 : Int32) (s0 : jM) : Con l (1) yX8_letterOf cX8_letterOf 1 (Option.some Jvm.ClassFile.FieldType.int) (eI SH s0) SH [.int a0] s0 (f_X8_letterOf a0) := by
  refine Con_of (ls0 := [some (.int a0)]) (ini := false) (mc := 0) (ms := 0) (by decide +kernel) rfl (Nat.le_of_ble_eq_true rfl) (fun h => by cases h) (fun _ _ => rfl) ?_
  unfold f_X8_letterOf
  refine J_iload_n (i := 0) dX8_letterOf_0 rfl rfl ?_
  refine J_bipush (v := (112 : Int32)) dX8_letterOf_1 (by decide) ?_
  refine J_icmp_ne (tgt := 10) dX8_letterOf_3 (by decide) (fun c1 => ?_) (fun c1 => ?_)
  · refine J_iload_n (i := 0) dX8_letterOf_10 rfl rfl ?_
    refine J_bipush (v := (98 : Int32)) dX8_letterOf_11 (by decide) ?_
    refine J_icmp_ne (tgt := 20) dX8_letterOf_13 (by decide) (fun c2 => ?_) (fun c2 => ?_)
    · refine J_iload_n (i := 0) dX8_letterOf_20 rfl rfl ?_
      refine J_bipush (v := (117 : Int32)) dX8_letterOf_21 (by decide) ?_
      refine J_icmp_ne (tgt := 30) dX8_letterOf_23 (by decide) (fun c3 => ?_) (fun c3 => ?_)
      · refine J_iload_n (i := 0) dX8_letterOf_30 rfl rfl ?_
        refine J_bipush (v := (100 : Int32)) dX8_letterOf_31 (by decide) ?_
        refine J_icmp_ne (tgt := 40) dX8_letterOf_33 (by decide) (fun c4 => ?_) (fun c4 => ?_)
        · refine J_iload_n (i := 0) dX8_letterOf_40 rfl rfl ?_
          refine J_bipush (v := (108 : Int32)) dX8_letterOf_41 (by decide) ?_
          refine J_icmp_ne (tgt := 50) dX8_letterOf_43 (by decide) (fun c5 => ?_) (fun c5 => ?_)
          · refine J_iload_n (i := 0) dX8_letterOf_50 rfl rfl ?_
            refine J_bipush (v := (109 : Int32)) dX8_letterOf_51 (by decide) ?_
            refine J_icmp_ne (tgt := 60) dX8_letterOf_53 (by decide) (fun c6 => ?_) (fun c6 => ?_)
            · refine J_iconst (v := (-1 : Int32)) dX8_letterOf_60 (by decide) ?_
              exact J_ireturn dX8_letterOf_61 rfl rfl rfl
            · refine J_iconst (v := (5 : Int32)) dX8_letterOf_56 (by decide) ?_
              refine J_goto (tgt := 61) dX8_letterOf_57 (by decide) ?_
              exact J_ireturn dX8_letterOf_61 rfl rfl rfl
          · refine J_iconst (v := (4 : Int32)) dX8_letterOf_46 (by decide) ?_
            refine J_goto (tgt := 61) dX8_letterOf_47 (by decide) ?_
            exact J_ireturn dX8_letterOf_61 rfl rfl rfl
        · refine J_iconst (v := (3 : Int32)) dX8_letterOf_36 (by decide) ?_
          refine J_goto (tgt := 61) dX8_letterOf_37 (by decide) ?_
          exact J_ireturn dX8_letterOf_61 rfl rfl rfl
      · refine J_iconst (v := (2 : Int32)) dX8_letterOf_26 (by decide) ?_
        refine J_goto (tgt := 61) dX8_letterOf_27 (by decide) ?_
        exact J_ireturn dX8_letterOf_61 rfl rfl rfl
    · refine J_iconst (v := (1 : Int32)) dX8_letterOf_16 (by decide) ?_
      refine J_goto (tgt := 61) dX8_letterOf_17 (by decide) ?_
      exact J_ireturn dX8_letterOf_61 rfl rfl rfl
  · refine J_iconst (v := (0 : Int32)) dX8_letterOf_6 (by decide) ?_
    refine J_goto (tgt := 61) dX8_letterOf_7 (by decide) ?_
    exact J_ireturn dX8_letterOf_61 rfl rfl rfl

def f_X8_isFigure (a0 : Int32) : Option Int32 := Option.bind (f_X8_in (Int32.toInt64 a0) (48 : Int64) (57 : Int64)) fun r1 => gd (zb r1) (some r1)
set_option maxRecDepth 100000 in
set_option maxHeartbeats 4000000 in
theorem con_X8_isFigure (l : Launch) (a0 : Int32) (s0 : jM) : Con l (2) yX8_isFigure cX8_isFigure 1 (Option.some Jvm.ClassFile.FieldType.boolean) (eI SH s0) SH [.int a0] s0 (f_X8_isFigure a0) := by
  refine Con_of (ls0 := [some (.int a0)]) (ini := false) (mc := 0) (ms := 0) (by decide +kernel) rfl (Nat.le_of_ble_eq_true rfl) (fun h => by cases h) (fun _ _ => rfl) ?_
  unfold f_X8_isFigure
  refine J_iload_n (i := 0) dX8_isFigure_0 rfl rfl ?_
  refine J_i2l dX8_isFigure_1 ?_
  refine J_ldc2 (v := (48 : Int64)) dX8_isFigure_2 kw_RX8_136 ?_
  refine J_ldc2 (v := (57 : Int64)) dX8_isFigure_5 kw_RX8_138 ?_
  refine J_callSI [.long (Int32.toInt64 a0), .long (48 : Int64), .long (57 : Int64)] dX8_isFigure_8 ca_X8_in lk_RX8_74 st_X8_in rfl rfl ⟨by show _ ≤ _; simp only [rmD]; omega, by show _ ≤ _; simp only [rmD]; omega⟩ (Nat.le_of_ble_eq_true rfl) ⟨Nat.zero_le _, Nat.zero_le _⟩ (con_X8_in l _ _ _ _) (fun r1 _ => ?_)
  exact J_gd (fun hz => J_ireturn dX8_isFigure_11 rfl (zb_nar hz) rfl)

def lp_X8_digits_7 (N : Nat) (x1 : Int32) (k4 : Int64 → jM → Option (Int64 × jM)) (k6 : jM → Option (Int64 × jM)) : Nat → Int64 → jM → Option (Int64 × jM)
  | 0, _, _ => none
  | q + 1, y8, s9 => Option.bind (f_X8_textLong s9) fun r11 => if r11 ≤ (gI s9 53 6) then (k4 y8 s9) else (Option.bind (f_X8_charAt (gI s9 53 6) s9) fun r13 => Option.bind (f_X8_isFigure r13) fun r14 => if r14 = 0 then (k4 y8 s9) else (if ((gI s9 53 6) - x1) = (6 : Int32) then (k6 s9) else (Option.bind (f_X8_charAt (gI s9 53 6) s9) fun r17 => lt_ ((((10 : Int64) * y8) + (Int32.toInt64 r17)) - (48 : Int64)) fun y18 => lt_ (pI s9 53 6 ((gI s9 53 6) + (1 : Int32))) fun s19 => lp_X8_digits_7 N x1 k4 k6 q y18 s19)))
def f_X8_digits (N : Nat)  (s0 : jM) : Option (Int64 × jM) := lt_ (gI s0 53 6) fun x1 => jn_ (fun (y2 : Int64) (s3 : jM) => some (y2, s3)) fun k4 => jn_ (fun (s5 : jM) => lt_ (pI s5 53 7 (((10 : Int32) * x1) + (2 : Int32))) fun s7 => some ((0 : Int64), s7)) fun k6 => lp_X8_digits_7 N x1 k4 k6 N (0 : Int64) s0
set_option maxRecDepth 100000 in
set_option maxHeartbeats 4000000 in
theorem lp_X8_digits_7_ok (l : Launch) (N : Nat)  (x1 : Int32) (k4 : Int64 → jM → Option (Int64 × jM)) (k6 : jM → Option (Int64 × jM)) (hk4 : ∀ (y2 : Int64) (s3 : jM), J l RX8 cX8_digits 4 (Option.some Jvm.ClassFile.FieldType.long) false (rmD (3) 0 0) noCx (eLM SH) SH 0 0 s3 88 [none, none, some (.long y2), none] [] (k4 y2 s3)) (hk6 : ∀ (s5 : jM), J l RX8 cX8_digits 4 (Option.some Jvm.ClassFile.FieldType.long) false (rmD (3) 0 0) noCx (eLM SH) SH 0 0 s5 43 [some (.ref 53), some (.int x1), none, none] [] (k6 s5)) : ∀ (q : Nat) (y8 : Int64) (s9 : jM), J l RX8 cX8_digits 4 (Option.some Jvm.ClassFile.FieldType.long) false (rmD (3) 0 0) noCx (eLM SH) SH 0 0 s9 7 [some (.ref 53), some (.int x1), some (.long y8), none] [] (lp_X8_digits_7 N x1 k4 k6 q y8 s9) := by
  intro q
  induction q with
  | zero => intro y8 s9; exact J_none
  | succ q hrec10 =>
    intro y8 s9
    rw [lp_X8_digits_7]
    refine J_aload_n (i := 0) dX8_digits_7 rfl rfl ?_
    refine J_getI dX8_digits_8 fl_RX8_114 sh_53_6 ?_
    refine J_aload_n (i := 0) dX8_digits_11 rfl rfl ?_
    refine J_callVI 53 [] dX8_digits_12 ca_X8_textLong lk_RX8_118 vi_X8_textLong rc_53 rfl rfl ⟨by show _ ≤ _; simp only [rmD]; omega, by show _ ≤ _; simp only [rmD]; omega⟩ (Nat.le_of_ble_eq_true rfl) ⟨Nat.zero_le _, Nat.zero_le _⟩ (con_X8_textLong l _) (fun r11 _ => ?_)
    refine J_icmp_ge (tgt := 88) dX8_digits_15 (by decide) (fun c12 => ?_) (fun c12 => ?_)
    · refine J_sub (l1 := [none, none, some (.long y8), none]) ⟨rfl, trivial⟩ ?_
      exact hk4 y8 s9
    · refine J_aload_n (i := 0) dX8_digits_18 rfl rfl ?_
      refine J_aload_n (i := 0) dX8_digits_19 rfl rfl ?_
      refine J_getI dX8_digits_20 fl_RX8_114 sh_53_6 ?_
      refine J_callVI 53 [.int (gI s9 53 6)] dX8_digits_23 ca_X8_charAt lk_RX8_121 vi_X8_charAt rc_53 rfl rfl ⟨by show _ ≤ _; simp only [rmD]; omega, by show _ ≤ _; simp only [rmD]; omega⟩ (Nat.le_of_ble_eq_true rfl) ⟨Nat.zero_le _, Nat.zero_le _⟩ (con_X8_charAt l _ _) (fun r13 _ => ?_)
      refine J_callSI [.int r13] dX8_digits_26 ca_X8_isFigure lk_RX8_140 st_X8_isFigure rfl rfl ⟨by show _ ≤ _; simp only [rmD]; omega, by show _ ≤ _; simp only [rmD]; omega⟩ (Nat.le_of_ble_eq_true rfl) ⟨Nat.zero_le _, Nat.zero_le _⟩ (con_X8_isFigure l _ _) (fun r14 _ => ?_)
      refine J_if_eq (tgt := 88) dX8_digits_29 (by decide) (fun c15 => ?_) (fun c15 => ?_)
      · refine J_sub (l1 := [none, none, some (.long y8), none]) ⟨rfl, trivial⟩ ?_
        exact hk4 y8 s9
      · refine J_aload_n (i := 0) dX8_digits_32 rfl rfl ?_
        refine J_getI dX8_digits_33 fl_RX8_114 sh_53_6 ?_
        refine J_iload_n (i := 1) dX8_digits_36 rfl rfl ?_
        refine J_isub dX8_digits_37 ?_
        refine J_bipush (v := (6 : Int32)) dX8_digits_38 (by decide) ?_
        refine J_icmp_ne (tgt := 55) dX8_digits_40 (by decide) (fun c16 => ?_) (fun c16 => ?_)
        · refine J_ldc2 (v := (10 : Int64)) dX8_digits_55 kw_RX8_146 ?_
          refine J_lload_n (i := 2) dX8_digits_58 rfl rfl ?_
          refine J_lmul dX8_digits_59 ?_
          refine J_aload_n (i := 0) dX8_digits_60 rfl rfl ?_
          refine J_aload_n (i := 0) dX8_digits_61 rfl rfl ?_
          refine J_getI dX8_digits_62 fl_RX8_114 sh_53_6 ?_
          refine J_callVI 53 [.int (gI s9 53 6)] dX8_digits_65 ca_X8_charAt lk_RX8_121 vi_X8_charAt rc_53 rfl rfl ⟨by show _ ≤ _; simp only [rmD]; omega, by show _ ≤ _; simp only [rmD]; omega⟩ (Nat.le_of_ble_eq_true rfl) ⟨Nat.zero_le _, Nat.zero_le _⟩ (con_X8_charAt l _ _) (fun r17 _ => ?_)
          refine J_i2l dX8_digits_68 ?_
          refine J_ladd dX8_digits_69 ?_
          refine J_ldc2 (v := (48 : Int64)) dX8_digits_70 kw_RX8_136 ?_
          refine J_lsub dX8_digits_73 ?_
          refine J_lstore_nN (i := 2) (LS := fun y18 => [some (.ref 53), some (.int x1), some (.long y18), none]) dX8_digits_74 rfl (fun _ => rfl) (by decide) (fun y18 => ?_)
          refine J_aload_n (i := 0) dX8_digits_75 rfl rfl ?_
          refine J_dup dX8_digits_76 rfl ?_
          refine J_getI dX8_digits_77 fl_RX8_114 sh_53_6 ?_
          refine J_iconst (v := (1 : Int32)) dX8_digits_80 (by decide) ?_
          refine J_iadd dX8_digits_81 ?_
          refine J_putI dX8_digits_82 fp_RX8_114 (fun h => by first | rfl | cases h) sh_53_6 rfl rfl ?_
          refine J_letM rfl (fun s19 => ?_)
          refine J_goto (tgt := 7) dX8_digits_85 (by decide) ?_
          refine J_sub (l1 := [some (.ref 53), some (.int x1), some (.long y18), none]) ⟨rfl, ⟨rfl, ⟨rfl, trivial⟩⟩⟩ ?_
          exact hrec10 y18 s19
        · refine J_sub (l1 := [some (.ref 53), some (.int x1), none, none]) ⟨rfl, ⟨rfl, trivial⟩⟩ ?_
          exact hk6 s9
set_option maxRecDepth 100000 in
set_option maxHeartbeats 4000000 in
theorem con_X8_digits (l : Launch) (N : Nat) (s0 : jM) : Con l (3) yX8_digits cX8_digits 4 (Option.some Jvm.ClassFile.FieldType.long) (eLM SH) SH [.ref 53] s0 (f_X8_digits N s0) := by
  refine Con_of (ls0 := [some (.ref 53), none, none, none]) (ini := false) (mc := 0) (ms := 0) (by decide +kernel) rfl (Nat.le_of_ble_eq_true rfl) (fun h => by cases h) (fun _ _ => rfl) ?_
  unfold f_X8_digits
  refine J_aload_n (i := 0) dX8_digits_0 rfl rfl ?_
  refine J_getI dX8_digits_1 fl_RX8_114 sh_53_6 ?_
  refine J_istore_nN (i := 1) (LS := fun x1 => [some (.ref 53), some (.int x1), none, none]) dX8_digits_4 rfl (fun _ => rfl) (by decide) (fun x1 => ?_)
  refine J_lconst (v := (0 : Int64)) dX8_digits_5 (by decide) ?_
  refine J_lstore_n (i := 2) (ls2 := [some (.ref 53), some (.int x1), some (.long (0 : Int64)), none]) dX8_digits_6 rfl rfl (by decide) ?_
  refine J_join (P := fun j => ∀ (y2 : Int64) (s3 : jM), J l RX8 cX8_digits 4 (Option.some Jvm.ClassFile.FieldType.long) false (rmD (3) 0 0) noCx (eLM SH) SH 0 0 s3 88 [none, none, some (.long y2), none] [] (j y2 s3)) ?_ (fun k4 hk4 => ?_)
  · intro y2 s3
    refine J_lload_n (i := 2) dX8_digits_88 rfl rfl ?_
    exact J_lreturn dX8_digits_89 rfl rfl
  refine J_join (P := fun j => ∀ (s5 : jM), J l RX8 cX8_digits 4 (Option.some Jvm.ClassFile.FieldType.long) false (rmD (3) 0 0) noCx (eLM SH) SH 0 0 s5 43 [some (.ref 53), some (.int x1), none, none] [] (j s5)) ?_ (fun k6 hk6 => ?_)
  · intro s5
    refine J_aload_n (i := 0) dX8_digits_43 rfl rfl ?_
    refine J_bipush (v := (10 : Int32)) dX8_digits_44 (by decide) ?_
    refine J_iload_n (i := 1) dX8_digits_46 rfl rfl ?_
    refine J_imul dX8_digits_47 ?_
    refine J_iconst (v := (2 : Int32)) dX8_digits_48 (by decide) ?_
    refine J_iadd dX8_digits_49 ?_
    refine J_putI dX8_digits_50 fp_RX8_143 (fun h => by first | rfl | cases h) sh_53_7 rfl rfl ?_
    refine J_letM rfl (fun s7 => ?_)
    refine J_lconst (v := (0 : Int64)) dX8_digits_53 (by decide) ?_
    exact J_lreturn dX8_digits_54 rfl rfl
  refine J_sub (l1 := [some (.ref 53), some (.int x1), some (.long (0 : Int64)), none]) ⟨rfl, ⟨rfl, ⟨rfl, trivial⟩⟩⟩ ?_
  exact lp_X8_digits_7_ok l N  x1 k4 k6 hk4 hk6 N (0 : Int64) s0

def lp_X8_reads_26 (N : Nat) (k6 : jM → Option (Int32 × jM)) : Nat → Int32 → Int32 → Int32 → jM → Option (Int32 × jM)
  | 0, _, _, _, _ => none
  | q + 1, x12, x13, x14, s15 => if x14 = 0 then (k6 s15) else (if (gI s15 53 7) = (-1 : Int32) then (jn_ (fun (x19 : Int32) (x20 : Int32) (x21 : Int32) (s22 : jM) => lp_X8_reads_26 N k6 q x19 x20 x21 s22) fun j23 => Option.bind (f_X8_ahead N s15) fun r24 => lt_ r24.1 fun x25 => if x13 = 0 then (jn_ (fun (_ : Unit) => Option.bind (f_X8_rank x25) fun r28 => if r28 ≤ 0 then (jn_ (fun (_ : Unit) => lt_ (pI r24.2 53 7 (((10 : Int32) * (gI r24.2 53 6)) + (1 : Int32))) fun s31 => j23 x12 x13 x14 s31) fun j30 => if x25 = (-1 : Int32) then (if x12 = 0 then (Option.bind (f_X8_workDown N (1 : Int32) r24.2) fun r34 => j23 x12 x13 (0 : Int32) r34) else (j30 ())) else (j30 ())) else (jn_ (fun (x35 : Int32) => jn_ (fun (s37 : jM) => lt_ (pI s37 53 6 ((gI s37 53 6) + (1 : Int32))) fun s39 => gd (ib (gI s39 53 11) 128) <| lt_ (pI s39 59 (Int32.toNatClampNeg (gI s39 53 11)) x25) fun s40 => lt_ (pI s40 53 11 ((gI s40 53 11) + (1 : Int32))) fun s41 => j23 x12 (1 : Int32) x14 s41) fun j38 => Option.bind (f_X8_workDown N x35 r24.2) fun r42 => Option.bind (f_X8_rank x25) fun r43 => if r43 = (3 : Int32) then (if (gI r42 53 11) ≤ 0 then (j38 r42) else (gd (ib ((gI r42 53 11) - (1 : Int32)) 128) <| if (1000 : Int32) ≤ (gI r42 59 (Int32.toNatClampNeg ((gI r42 53 11) - (1 : Int32)))) then (j38 r42) else (gd (ib ((gI r42 53 11) - (1 : Int32)) 128) <| Option.bind (f_X8_rank (gI r42 59 (Int32.toNatClampNeg ((gI r42 53 11) - (1 : Int32))))) fun r47 => if r47 = (3 : Int32) then (lt_ (pI r42 53 7 (((10 : Int32) * (gI r42 53 6)) + (1 : Int32))) fun s49 => j23 x12 x13 x14 s49) else (j38 r42)))) else (j38 r42)) fun j36 => Option.bind (f_X8_rank x25) fun r50 => if r50 = (3 : Int32) then (j36 (4 : Int32)) else (Option.bind (f_X8_rank x25) fun r52 => j36 r52))) fun j27 => if x25 = (41 : Int32) then (if x12 ≤ 0 then (j27 ()) else (lt_ (pI r24.2 53 6 ((gI r24.2 53 6) + (1 : Int32))) fun s55 => lt_ (x12 + (-1 : Int32)) fun x56 => Option.bind (f_X8_workDown N (1 : Int32) s55) fun r57 => lt_ (pI r57 53 11 ((gI r57 53 11) - (1 : Int32))) fun s58 => lt_ (pI s58 53 9 ((gI s58 53 9) - (1 : Int32))) fun s59 => gd (ib (gI s59 53 9) 64) <| Option.bind (f_X8_stands N (gL s59 58 (Int32.toNatClampNeg (gI s59 53 9))) s59) fun r60 => j23 x56 x13 x14 r60)) else (j27 ())) else (Option.bind (f_X8_isFigure x25) fun r61 => if r61 = 0 then (Option.bind (f_X8_letterOf x25) fun r63 => if r63 = (-1 : Int32) then (jn_ (fun (_ : Unit) => jn_ (fun (x66 : Int32) (x67 : Int32) (s68 : jM) => gd (ib x66 128) <| lt_ (pI s68 59 (Int32.toNatClampNeg x66) x67) fun s70 => lt_ (pI s70 53 11 ((gI s70 53 11) + (1 : Int32))) fun s71 => j23 x12 x13 x14 s71) fun j69 => lt_ (pI r24.2 53 6 ((gI r24.2 53 6) + (1 : Int32))) fun s72 => if x25 = (33 : Int32) then (j69 (gI s72 53 11) (1001 : Int32) s72) else (j69 (gI s72 53 11) (1002 : Int32) s72)) fun j65 => if x25 = (33 : Int32) then (j65 ()) else (if x25 = (45 : Int32) then (j65 ()) else (jn_ (fun (_ : Unit) => jn_ (fun (x77 : Int32) (x78 : Int32) => lt_ (pI r24.2 53 7 (x77 + x78)) fun s80 => j23 x12 x13 x14 s80) fun j79 => if x25 = (40 : Int32) then (j79 ((10 : Int32) * (gI r24.2 53 6)) (3 : Int32)) else (j79 ((10 : Int32) * (gI r24.2 53 6)) (1 : Int32))) fun j76 => if x25 = (40 : Int32) then (if (8 : Int32) ≤ x12 then (j76 ()) else (lt_ (pI r24.2 53 6 ((gI r24.2 53 6) + (1 : Int32))) fun s84 => lt_ (x12 + (1 : Int32)) fun x85 => gd (ib (gI s84 53 11) 128) <| lt_ (pI s84 59 (Int32.toNatClampNeg (gI s84 53 11)) (1000 : Int32)) fun s86 => lt_ (pI s86 53 11 ((gI s86 53 11) + (1 : Int32))) fun s87 => j23 x85 x13 x14 s87)) else (j76 ())))) else (lt_ (pI r24.2 53 6 ((gI r24.2 53 6) + (1 : Int32))) fun s88 => Option.bind (f_X8_letterOf x25) fun r89 => gd (ib r89 6) <| Option.bind (f_X8_stands N (gL s88 60 (Int32.toNatClampNeg r89)) s88) fun r90 => j23 x12 (0 : Int32) x14 r90)) else (Option.bind (f_X8_digits N r24.2) fun r91 => Option.bind (f_X8_stands N r91.1 r91.2) fun r92 => j23 x12 (0 : Int32) x14 r92))) else (k6 s15))
def f_X8_reads (N : Nat)  (s0 : jM) : Option (Int32 × jM) := lt_ (pI s0 53 6 (0 : Int32)) fun s1 => lt_ (pI s1 53 7 (-1 : Int32)) fun s2 => lt_ (pI s2 53 9 (0 : Int32)) fun s3 => lt_ (pI s3 53 11 (0 : Int32)) fun s4 => jn_ (fun (s5 : jM) => jn_ (fun (y7 : Int64) => lt_ (pL s5 53 13 y7) fun s9 => if (gI s9 53 7) = (-1 : Int32) then (some ((1 : Int32), s9)) else (some ((0 : Int32), s9))) fun j8 => if (gI s5 53 7) = (-1 : Int32) then (gd (ib (0 : Int32) 64) <| j8 (gL s5 58 (Int32.toNatClampNeg (0 : Int32)))) else (j8 (0 : Int64))) fun k6 => lp_X8_reads_26 N k6 N (0 : Int32) (1 : Int32) (1 : Int32) s4
set_option maxRecDepth 100000 in
set_option maxHeartbeats 4000000 in
theorem lp_X8_reads_26_ok (l : Launch) (N : Nat)  (k6 : jM → Option (Int32 × jM)) (hk6 : ∀ (s5 : jM), J l RX8 cX8_reads 5 (Option.some Jvm.ClassFile.FieldType.boolean) false (rmD (4) 0 0) noCx (eIM SH) SH 0 0 s5 481 [some (.ref 53), none, none, none, none] [] (k6 s5)) : ∀ (q : Nat) (x12 : Int32) (x13 : Int32) (x14 : Int32) (s15 : jM), J l RX8 cX8_reads 5 (Option.some Jvm.ClassFile.FieldType.boolean) false (rmD (4) 0 0) noCx (eIM SH) SH 0 0 s15 26 [some (.ref 53), some (.int x12), some (.int x13), some (.int x14), none] [] (lp_X8_reads_26 N k6 q x12 x13 x14 s15) := by
  intro q
  induction q with
  | zero => intro x12 x13 x14 s15; exact J_none
  | succ q hrec16 =>
    intro x12 x13 x14 s15
    rw [lp_X8_reads_26]
    refine J_iload_n (i := 3) dX8_reads_26 rfl rfl ?_
    refine J_if_eq (tgt := 481) dX8_reads_27 (by decide) (fun c17 => ?_) (fun c17 => ?_)
    · refine J_sub (l1 := [some (.ref 53), none, none, none, none]) ⟨rfl, trivial⟩ ?_
      exact hk6 s15
    · refine J_aload_n (i := 0) dX8_reads_30 rfl rfl ?_
      refine J_getI dX8_reads_31 fl_RX8_143 sh_53_7 ?_
      refine J_iconst (v := (-1 : Int32)) dX8_reads_34 (by decide) ?_
      refine J_icmp_ne (tgt := 481) dX8_reads_35 (by decide) (fun c18 => ?_) (fun c18 => ?_)
      · refine J_sub (l1 := [some (.ref 53), none, none, none, none]) ⟨rfl, trivial⟩ ?_
        exact hk6 s15
      · refine J_join (P := fun j => ∀ (x19 : Int32) (x20 : Int32) (x21 : Int32) (s22 : jM), J l RX8 cX8_reads 5 (Option.some Jvm.ClassFile.FieldType.boolean) false (rmD (4) 0 0) noCx (eIM SH) SH 0 0 s22 478 [some (.ref 53), some (.int x19), some (.int x20), some (.int x21), none] [] (j x19 x20 x21 s22)) ?_ (fun j23 hj23 => ?_)
        · intro x19 x20 x21 s22
          refine J_goto (tgt := 26) dX8_reads_478 (by decide) ?_
          refine J_sub (l1 := [some (.ref 53), some (.int x19), some (.int x20), some (.int x21), none]) ⟨rfl, ⟨rfl, ⟨rfl, ⟨rfl, trivial⟩⟩⟩⟩ ?_
          exact hrec16 x19 x20 x21 s22
        refine J_aload_n (i := 0) dX8_reads_38 rfl rfl ?_
        refine J_callVIM 53 [] dX8_reads_39 ca_X8_ahead lk_RX8_148 vi_X8_ahead rc_53 rfl rfl ⟨by show _ ≤ _; simp only [rmD]; omega, by show _ ≤ _; simp only [rmD]; omega⟩ (Nat.le_of_ble_eq_true rfl) ⟨Nat.zero_le _, Nat.zero_le _⟩ (con_X8_ahead l N _) (fun r24 _ => ?_)
        refine J_istoreN (i := 4) (LS := fun x25 => [some (.ref 53), some (.int x12), some (.int x13), some (.int x14), some (.int x25)]) dX8_reads_42 (fun _ => rfl) (by decide) (fun x25 => ?_)
        refine J_iload_n (i := 2) dX8_reads_44 rfl rfl ?_
        refine J_if_eq (tgt := 247) dX8_reads_45 (by decide) (fun c26 => ?_) (fun c26 => ?_)
        · refine J_join (P := fun j => ∀ (_ : Unit), J l RX8 cX8_reads 5 (Option.some Jvm.ClassFile.FieldType.boolean) false (rmD (4) 0 0) noCx (eIM SH) SH 0 0 r24.2 312 [some (.ref 53), some (.int x12), some (.int x13), some (.int x14), some (.int x25)] [] (j ())) ?_ (fun j27 hj27 => ?_)
          · intro _
            refine J_iload (i := 4) dX8_reads_312 rfl ?_
            refine J_callSI [.int x25] dX8_reads_314 ca_X8_rank lk_RX8_130 st_X8_rank rfl rfl ⟨by show _ ≤ _; simp only [rmD]; omega, by show _ ≤ _; simp only [rmD]; omega⟩ (Nat.le_of_ble_eq_true rfl) ⟨Nat.zero_le _, Nat.zero_le _⟩ (con_X8_rank l _ _) (fun r28 _ => ?_)
            refine J_if_le (tgt := 445) dX8_reads_317 (by decide) (fun c29 => ?_) (fun c29 => ?_)
            · refine J_join (P := fun j => ∀ (_ : Unit), J l RX8 cX8_reads 5 (Option.some Jvm.ClassFile.FieldType.boolean) false (rmD (4) 0 0) noCx (eIM SH) SH 0 0 r24.2 465 [some (.ref 53), some (.int x12), some (.int x13), some (.int x14), none] [] (j ())) ?_ (fun j30 hj30 => ?_)
              · intro _
                refine J_aload_n (i := 0) dX8_reads_465 rfl rfl ?_
                refine J_bipush (v := (10 : Int32)) dX8_reads_466 (by decide) ?_
                refine J_aload_n (i := 0) dX8_reads_468 rfl rfl ?_
                refine J_getI dX8_reads_469 fl_RX8_114 sh_53_6 ?_
                refine J_imul dX8_reads_472 ?_
                refine J_iconst (v := (1 : Int32)) dX8_reads_473 (by decide) ?_
                refine J_iadd dX8_reads_474 ?_
                refine J_putI dX8_reads_475 fp_RX8_143 (fun h => by first | rfl | cases h) sh_53_7 rfl rfl ?_
                refine J_letM rfl (fun s31 => ?_)
                refine J_sub (l1 := [some (.ref 53), some (.int x12), some (.int x13), some (.int x14), none]) ⟨rfl, ⟨rfl, ⟨rfl, ⟨rfl, trivial⟩⟩⟩⟩ ?_
                exact hj23 x12 x13 x14 s31
              refine J_iload (i := 4) dX8_reads_445 rfl ?_
              refine J_iconst (v := (-1 : Int32)) dX8_reads_447 (by decide) ?_
              refine J_icmp_ne (tgt := 465) dX8_reads_448 (by decide) (fun c32 => ?_) (fun c32 => ?_)
              · refine J_sub (l1 := [some (.ref 53), some (.int x12), some (.int x13), some (.int x14), none]) ⟨rfl, ⟨rfl, ⟨rfl, ⟨rfl, trivial⟩⟩⟩⟩ ?_
                exact hj30 ()
              · refine J_iload_n (i := 1) dX8_reads_451 rfl rfl ?_
                refine J_if_ne (tgt := 465) dX8_reads_452 (by decide) (fun c33 => ?_) (fun c33 => ?_)
                · refine J_sub (l1 := [some (.ref 53), some (.int x12), some (.int x13), some (.int x14), none]) ⟨rfl, ⟨rfl, ⟨rfl, ⟨rfl, trivial⟩⟩⟩⟩ ?_
                  exact hj30 ()
                · refine J_aload_n (i := 0) dX8_reads_455 rfl rfl ?_
                  refine J_iconst (v := (1 : Int32)) dX8_reads_456 (by decide) ?_
                  refine J_callVV 53 [.int (1 : Int32)] dX8_reads_457 ca_X8_workDown lk_RX8_162 vi_X8_workDown rc_53 rfl rfl ⟨by show _ ≤ _; simp only [rmD]; omega, by show _ ≤ _; simp only [rmD]; omega⟩ (Nat.le_of_ble_eq_true rfl) ⟨Nat.zero_le _, Nat.zero_le _⟩ (con_X8_workDown l N _ _) (fun r34 _ => ?_)
                  refine J_iconst (v := (0 : Int32)) dX8_reads_460 (by decide) ?_
                  refine J_istore_n (i := 3) (ls2 := [some (.ref 53), some (.int x12), some (.int x13), some (.int (0 : Int32)), some (.int x25)]) dX8_reads_461 rfl rfl (by decide) ?_
                  refine J_goto (tgt := 478) dX8_reads_462 (by decide) ?_
                  refine J_sub (l1 := [some (.ref 53), some (.int x12), some (.int x13), some (.int (0 : Int32)), none]) ⟨rfl, ⟨rfl, ⟨rfl, ⟨rfl, trivial⟩⟩⟩⟩ ?_
                  exact hj23 x12 x13 (0 : Int32) r34
            · refine J_join (P := fun j => ∀ (x35 : Int32), J l RX8 cX8_reads 5 (Option.some Jvm.ClassFile.FieldType.boolean) false (rmD (4) 0 0) noCx (eIM SH) SH 0 0 r24.2 339 [some (.ref 53), some (.int x12), some (.int x13), some (.int x14), some (.int x25)] [.int x35, .ref 53] (j x35)) ?_ (fun j36 hj36 => ?_)
              · intro x35
                refine J_join (P := fun j => ∀ (s37 : jM), J l RX8 cX8_reads 5 (Option.some Jvm.ClassFile.FieldType.boolean) false (rmD (4) 0 0) noCx (eIM SH) SH 0 0 s37 409 [some (.ref 53), some (.int x12), none, some (.int x14), some (.int x25)] [] (j s37)) ?_ (fun j38 hj38 => ?_)
                · intro s37
                  refine J_aload_n (i := 0) dX8_reads_409 rfl rfl ?_
                  refine J_dup dX8_reads_410 rfl ?_
                  refine J_getI dX8_reads_411 fl_RX8_114 sh_53_6 ?_
                  refine J_iconst (v := (1 : Int32)) dX8_reads_414 (by decide) ?_
                  refine J_iadd dX8_reads_415 ?_
                  refine J_putI dX8_reads_416 fp_RX8_114 (fun h => by first | rfl | cases h) sh_53_6 rfl rfl ?_
                  refine J_letM rfl (fun s39 => ?_)
                  refine J_aload_n (i := 0) dX8_reads_419 rfl rfl ?_
                  refine J_getR dX8_reads_420 fl_RX8_31 sh_53_10 ?_
                  refine J_aload_n (i := 0) dX8_reads_423 rfl rfl ?_
                  refine J_getI dX8_reads_424 fl_RX8_124 sh_53_11 ?_
                  refine J_iload (i := 4) dX8_reads_427 rfl ?_
                  refine J_iast dX8_reads_429 sa_59 ?_
                  refine J_letM rfl (fun s40 => ?_)
                  refine J_aload_n (i := 0) dX8_reads_430 rfl rfl ?_
                  refine J_dup dX8_reads_431 rfl ?_
                  refine J_getI dX8_reads_432 fl_RX8_124 sh_53_11 ?_
                  refine J_iconst (v := (1 : Int32)) dX8_reads_435 (by decide) ?_
                  refine J_iadd dX8_reads_436 ?_
                  refine J_putI dX8_reads_437 fp_RX8_124 (fun h => by first | rfl | cases h) sh_53_11 rfl rfl ?_
                  refine J_letM rfl (fun s41 => ?_)
                  refine J_iconst (v := (1 : Int32)) dX8_reads_440 (by decide) ?_
                  refine J_istore_n (i := 2) (ls2 := [some (.ref 53), some (.int x12), some (.int (1 : Int32)), some (.int x14), some (.int x25)]) dX8_reads_441 rfl rfl (by decide) ?_
                  refine J_goto (tgt := 478) dX8_reads_442 (by decide) ?_
                  refine J_sub (l1 := [some (.ref 53), some (.int x12), some (.int (1 : Int32)), some (.int x14), none]) ⟨rfl, ⟨rfl, ⟨rfl, ⟨rfl, trivial⟩⟩⟩⟩ ?_
                  exact hj23 x12 (1 : Int32) x14 s41
                refine J_callVV 53 [.int x35] dX8_reads_339 ca_X8_workDown lk_RX8_162 vi_X8_workDown rc_53 rfl rfl ⟨by show _ ≤ _; simp only [rmD]; omega, by show _ ≤ _; simp only [rmD]; omega⟩ (Nat.le_of_ble_eq_true rfl) ⟨Nat.zero_le _, Nat.zero_le _⟩ (con_X8_workDown l N _ _) (fun r42 _ => ?_)
                refine J_iload (i := 4) dX8_reads_342 rfl ?_
                refine J_callSI [.int x25] dX8_reads_344 ca_X8_rank lk_RX8_130 st_X8_rank rfl rfl ⟨by show _ ≤ _; simp only [rmD]; omega, by show _ ≤ _; simp only [rmD]; omega⟩ (Nat.le_of_ble_eq_true rfl) ⟨Nat.zero_le _, Nat.zero_le _⟩ (con_X8_rank l _ _) (fun r43 _ => ?_)
                refine J_iconst (v := (3 : Int32)) dX8_reads_347 (by decide) ?_
                refine J_icmp_ne (tgt := 409) dX8_reads_348 (by decide) (fun c44 => ?_) (fun c44 => ?_)
                · refine J_sub (l1 := [some (.ref 53), some (.int x12), none, some (.int x14), some (.int x25)]) ⟨rfl, ⟨rfl, ⟨rfl, ⟨rfl, trivial⟩⟩⟩⟩ ?_
                  exact hj38 r42
                · refine J_aload_n (i := 0) dX8_reads_351 rfl rfl ?_
                  refine J_getI dX8_reads_352 fl_RX8_124 sh_53_11 ?_
                  refine J_if_le (tgt := 409) dX8_reads_355 (by decide) (fun c45 => ?_) (fun c45 => ?_)
                  · refine J_sub (l1 := [some (.ref 53), some (.int x12), none, some (.int x14), some (.int x25)]) ⟨rfl, ⟨rfl, ⟨rfl, ⟨rfl, trivial⟩⟩⟩⟩ ?_
                    exact hj38 r42
                  · refine J_aload_n (i := 0) dX8_reads_358 rfl rfl ?_
                    refine J_getR dX8_reads_359 fl_RX8_31 sh_53_10 ?_
                    refine J_aload_n (i := 0) dX8_reads_362 rfl rfl ?_
                    refine J_getI dX8_reads_363 fl_RX8_124 sh_53_11 ?_
                    refine J_iconst (v := (1 : Int32)) dX8_reads_366 (by decide) ?_
                    refine J_isub dX8_reads_367 ?_
                    refine J_iald dX8_reads_368 sa_59 ?_
                    refine J_sipush (v := (1000 : Int32)) dX8_reads_369 (by decide) ?_
                    refine J_icmp_ge (tgt := 409) dX8_reads_372 (by decide) (fun c46 => ?_) (fun c46 => ?_)
                    · refine J_sub (l1 := [some (.ref 53), some (.int x12), none, some (.int x14), some (.int x25)]) ⟨rfl, ⟨rfl, ⟨rfl, ⟨rfl, trivial⟩⟩⟩⟩ ?_
                      exact hj38 r42
                    · refine J_aload_n (i := 0) dX8_reads_375 rfl rfl ?_
                      refine J_getR dX8_reads_376 fl_RX8_31 sh_53_10 ?_
                      refine J_aload_n (i := 0) dX8_reads_379 rfl rfl ?_
                      refine J_getI dX8_reads_380 fl_RX8_124 sh_53_11 ?_
                      refine J_iconst (v := (1 : Int32)) dX8_reads_383 (by decide) ?_
                      refine J_isub dX8_reads_384 ?_
                      refine J_iald dX8_reads_385 sa_59 ?_
                      refine J_callSI [.int (gI r42 59 (Int32.toNatClampNeg ((gI r42 53 11) - (1 : Int32))))] dX8_reads_386 ca_X8_rank lk_RX8_130 st_X8_rank rfl rfl ⟨by show _ ≤ _; simp only [rmD]; omega, by show _ ≤ _; simp only [rmD]; omega⟩ (Nat.le_of_ble_eq_true rfl) ⟨Nat.zero_le _, Nat.zero_le _⟩ (con_X8_rank l _ _) (fun r47 _ => ?_)
                      refine J_iconst (v := (3 : Int32)) dX8_reads_389 (by decide) ?_
                      refine J_icmp_ne (tgt := 409) dX8_reads_390 (by decide) (fun c48 => ?_) (fun c48 => ?_)
                      · refine J_sub (l1 := [some (.ref 53), some (.int x12), none, some (.int x14), some (.int x25)]) ⟨rfl, ⟨rfl, ⟨rfl, ⟨rfl, trivial⟩⟩⟩⟩ ?_
                        exact hj38 r42
                      · refine J_aload_n (i := 0) dX8_reads_393 rfl rfl ?_
                        refine J_bipush (v := (10 : Int32)) dX8_reads_394 (by decide) ?_
                        refine J_aload_n (i := 0) dX8_reads_396 rfl rfl ?_
                        refine J_getI dX8_reads_397 fl_RX8_114 sh_53_6 ?_
                        refine J_imul dX8_reads_400 ?_
                        refine J_iconst (v := (1 : Int32)) dX8_reads_401 (by decide) ?_
                        refine J_iadd dX8_reads_402 ?_
                        refine J_putI dX8_reads_403 fp_RX8_143 (fun h => by first | rfl | cases h) sh_53_7 rfl rfl ?_
                        refine J_letM rfl (fun s49 => ?_)
                        refine J_goto (tgt := 478) dX8_reads_406 (by decide) ?_
                        refine J_sub (l1 := [some (.ref 53), some (.int x12), some (.int x13), some (.int x14), none]) ⟨rfl, ⟨rfl, ⟨rfl, ⟨rfl, trivial⟩⟩⟩⟩ ?_
                        exact hj23 x12 x13 x14 s49
              refine J_aload_n (i := 0) dX8_reads_320 rfl rfl ?_
              refine J_iload (i := 4) dX8_reads_321 rfl ?_
              refine J_callSI [.int x25] dX8_reads_323 ca_X8_rank lk_RX8_130 st_X8_rank rfl rfl ⟨by show _ ≤ _; simp only [rmD]; omega, by show _ ≤ _; simp only [rmD]; omega⟩ (Nat.le_of_ble_eq_true rfl) ⟨Nat.zero_le _, Nat.zero_le _⟩ (con_X8_rank l _ _) (fun r50 _ => ?_)
              refine J_iconst (v := (3 : Int32)) dX8_reads_326 (by decide) ?_
              refine J_icmp_ne (tgt := 334) dX8_reads_327 (by decide) (fun c51 => ?_) (fun c51 => ?_)
              · refine J_iload (i := 4) dX8_reads_334 rfl ?_
                refine J_callSI [.int x25] dX8_reads_336 ca_X8_rank lk_RX8_130 st_X8_rank rfl rfl ⟨by show _ ≤ _; simp only [rmD]; omega, by show _ ≤ _; simp only [rmD]; omega⟩ (Nat.le_of_ble_eq_true rfl) ⟨Nat.zero_le _, Nat.zero_le _⟩ (con_X8_rank l _ _) (fun r52 _ => ?_)
                refine J_sub (l1 := [some (.ref 53), some (.int x12), some (.int x13), some (.int x14), some (.int x25)]) ⟨rfl, ⟨rfl, ⟨rfl, ⟨rfl, ⟨rfl, trivial⟩⟩⟩⟩⟩ ?_
                exact hj36 r52
              · refine J_iconst (v := (4 : Int32)) dX8_reads_330 (by decide) ?_
                refine J_goto (tgt := 339) dX8_reads_331 (by decide) ?_
                refine J_sub (l1 := [some (.ref 53), some (.int x12), some (.int x13), some (.int x14), some (.int x25)]) ⟨rfl, ⟨rfl, ⟨rfl, ⟨rfl, ⟨rfl, trivial⟩⟩⟩⟩⟩ ?_
                exact hj36 (4 : Int32)
          refine J_iload (i := 4) dX8_reads_247 rfl ?_
          refine J_bipush (v := (41 : Int32)) dX8_reads_249 (by decide) ?_
          refine J_icmp_ne (tgt := 312) dX8_reads_251 (by decide) (fun c53 => ?_) (fun c53 => ?_)
          · refine J_sub (l1 := [some (.ref 53), some (.int x12), some (.int x13), some (.int x14), some (.int x25)]) ⟨rfl, ⟨rfl, ⟨rfl, ⟨rfl, ⟨rfl, trivial⟩⟩⟩⟩⟩ ?_
            exact hj27 ()
          · refine J_iload_n (i := 1) dX8_reads_254 rfl rfl ?_
            refine J_if_le (tgt := 312) dX8_reads_255 (by decide) (fun c54 => ?_) (fun c54 => ?_)
            · refine J_sub (l1 := [some (.ref 53), some (.int x12), some (.int x13), some (.int x14), some (.int x25)]) ⟨rfl, ⟨rfl, ⟨rfl, ⟨rfl, ⟨rfl, trivial⟩⟩⟩⟩⟩ ?_
              exact hj27 ()
            · refine J_aload_n (i := 0) dX8_reads_258 rfl rfl ?_
              refine J_dup dX8_reads_259 rfl ?_
              refine J_getI dX8_reads_260 fl_RX8_114 sh_53_6 ?_
              refine J_iconst (v := (1 : Int32)) dX8_reads_263 (by decide) ?_
              refine J_iadd dX8_reads_264 ?_
              refine J_putI dX8_reads_265 fp_RX8_114 (fun h => by first | rfl | cases h) sh_53_6 rfl rfl ?_
              refine J_letM rfl (fun s55 => ?_)
              refine J_iincN (i := 1) (v := x12 + (-1 : Int32)) (LS := fun x56 => [some (.ref 53), some (.int x56), some (.int x13), some (.int x14), some (.int x25)]) dX8_reads_268 rfl (by first | rfl | decide) (fun _ => rfl) (by decide) (fun x56 => ?_)
              refine J_aload_n (i := 0) dX8_reads_271 rfl rfl ?_
              refine J_iconst (v := (1 : Int32)) dX8_reads_272 (by decide) ?_
              refine J_callVV 53 [.int (1 : Int32)] dX8_reads_273 ca_X8_workDown lk_RX8_162 vi_X8_workDown rc_53 rfl rfl ⟨by show _ ≤ _; simp only [rmD]; omega, by show _ ≤ _; simp only [rmD]; omega⟩ (Nat.le_of_ble_eq_true rfl) ⟨Nat.zero_le _, Nat.zero_le _⟩ (con_X8_workDown l N _ _) (fun r57 _ => ?_)
              refine J_aload_n (i := 0) dX8_reads_276 rfl rfl ?_
              refine J_dup dX8_reads_277 rfl ?_
              refine J_getI dX8_reads_278 fl_RX8_124 sh_53_11 ?_
              refine J_iconst (v := (1 : Int32)) dX8_reads_281 (by decide) ?_
              refine J_isub dX8_reads_282 ?_
              refine J_putI dX8_reads_283 fp_RX8_124 (fun h => by first | rfl | cases h) sh_53_11 rfl rfl ?_
              refine J_letM rfl (fun s58 => ?_)
              refine J_aload_n (i := 0) dX8_reads_286 rfl rfl ?_
              refine J_dup dX8_reads_287 rfl ?_
              refine J_getI dX8_reads_288 fl_RX8_127 sh_53_9 ?_
              refine J_iconst (v := (1 : Int32)) dX8_reads_291 (by decide) ?_
              refine J_isub dX8_reads_292 ?_
              refine J_putI dX8_reads_293 fp_RX8_127 (fun h => by first | rfl | cases h) sh_53_9 rfl rfl ?_
              refine J_letM rfl (fun s59 => ?_)
              refine J_aload_n (i := 0) dX8_reads_296 rfl rfl ?_
              refine J_aload_n (i := 0) dX8_reads_297 rfl rfl ?_
              refine J_getR dX8_reads_298 fl_RX8_27 sh_53_8 ?_
              refine J_aload_n (i := 0) dX8_reads_301 rfl rfl ?_
              refine J_getI dX8_reads_302 fl_RX8_127 sh_53_9 ?_
              refine J_lald dX8_reads_305 sa_58 ?_
              refine J_callVV 53 [.long (gL s59 58 (Int32.toNatClampNeg (gI s59 53 9)))] dX8_reads_306 ca_X8_stands lk_RX8_155 vi_X8_stands rc_53 rfl rfl ⟨by show _ ≤ _; simp only [rmD]; omega, by show _ ≤ _; simp only [rmD]; omega⟩ (Nat.le_of_ble_eq_true rfl) ⟨Nat.zero_le _, Nat.zero_le _⟩ (con_X8_stands l N _ _) (fun r60 _ => ?_)
              refine J_goto (tgt := 478) dX8_reads_309 (by decide) ?_
              refine J_sub (l1 := [some (.ref 53), some (.int x56), some (.int x13), some (.int x14), none]) ⟨rfl, ⟨rfl, ⟨rfl, ⟨rfl, trivial⟩⟩⟩⟩ ?_
              exact hj23 x56 x13 x14 r60
        · refine J_iload (i := 4) dX8_reads_48 rfl ?_
          refine J_callSI [.int x25] dX8_reads_50 ca_X8_isFigure lk_RX8_140 st_X8_isFigure rfl rfl ⟨by show _ ≤ _; simp only [rmD]; omega, by show _ ≤ _; simp only [rmD]; omega⟩ (Nat.le_of_ble_eq_true rfl) ⟨Nat.zero_le _, Nat.zero_le _⟩ (con_X8_isFigure l _ _) (fun r61 _ => ?_)
          refine J_if_eq (tgt := 69) dX8_reads_53 (by decide) (fun c62 => ?_) (fun c62 => ?_)
          · refine J_iload (i := 4) dX8_reads_69 rfl ?_
            refine J_callSI [.int x25] dX8_reads_71 ca_X8_letterOf lk_RX8_159 st_X8_letterOf rfl rfl ⟨by show _ ≤ _; simp only [rmD]; omega, by show _ ≤ _; simp only [rmD]; omega⟩ (Nat.le_of_ble_eq_true rfl) ⟨Nat.zero_le _, Nat.zero_le _⟩ (con_X8_letterOf l _ _) (fun r63 _ => ?_)
            refine J_iconst (v := (-1 : Int32)) dX8_reads_74 (by decide) ?_
            refine J_icmp_eq (tgt := 107) dX8_reads_75 (by decide) (fun c64 => ?_) (fun c64 => ?_)
            · refine J_join (P := fun j => ∀ (_ : Unit), J l RX8 cX8_reads 5 (Option.some Jvm.ClassFile.FieldType.boolean) false (rmD (4) 0 0) noCx (eIM SH) SH 0 0 r24.2 121 [some (.ref 53), some (.int x12), some (.int x13), some (.int x14), some (.int x25)] [] (j ())) ?_ (fun j65 hj65 => ?_)
              · intro _
                refine J_join (P := fun j => ∀ (x66 : Int32) (x67 : Int32) (s68 : jM), J l RX8 cX8_reads 5 (Option.some Jvm.ClassFile.FieldType.boolean) false (rmD (4) 0 0) noCx (eIM SH) SH 0 0 s68 155 [some (.ref 53), some (.int x12), some (.int x13), some (.int x14), none] [.int x67, .int x66, .ref 59] (j x66 x67 s68)) ?_ (fun j69 hj69 => ?_)
                · intro x66 x67 s68
                  refine J_iast dX8_reads_155 sa_59 ?_
                  refine J_letM rfl (fun s70 => ?_)
                  refine J_aload_n (i := 0) dX8_reads_156 rfl rfl ?_
                  refine J_dup dX8_reads_157 rfl ?_
                  refine J_getI dX8_reads_158 fl_RX8_124 sh_53_11 ?_
                  refine J_iconst (v := (1 : Int32)) dX8_reads_161 (by decide) ?_
                  refine J_iadd dX8_reads_162 ?_
                  refine J_putI dX8_reads_163 fp_RX8_124 (fun h => by first | rfl | cases h) sh_53_11 rfl rfl ?_
                  refine J_letM rfl (fun s71 => ?_)
                  refine J_goto (tgt := 478) dX8_reads_166 (by decide) ?_
                  refine J_sub (l1 := [some (.ref 53), some (.int x12), some (.int x13), some (.int x14), none]) ⟨rfl, ⟨rfl, ⟨rfl, ⟨rfl, trivial⟩⟩⟩⟩ ?_
                  exact hj23 x12 x13 x14 s71
                refine J_aload_n (i := 0) dX8_reads_121 rfl rfl ?_
                refine J_dup dX8_reads_122 rfl ?_
                refine J_getI dX8_reads_123 fl_RX8_114 sh_53_6 ?_
                refine J_iconst (v := (1 : Int32)) dX8_reads_126 (by decide) ?_
                refine J_iadd dX8_reads_127 ?_
                refine J_putI dX8_reads_128 fp_RX8_114 (fun h => by first | rfl | cases h) sh_53_6 rfl rfl ?_
                refine J_letM rfl (fun s72 => ?_)
                refine J_aload_n (i := 0) dX8_reads_131 rfl rfl ?_
                refine J_getR dX8_reads_132 fl_RX8_31 sh_53_10 ?_
                refine J_aload_n (i := 0) dX8_reads_135 rfl rfl ?_
                refine J_getI dX8_reads_136 fl_RX8_124 sh_53_11 ?_
                refine J_iload (i := 4) dX8_reads_139 rfl ?_
                refine J_bipush (v := (33 : Int32)) dX8_reads_141 (by decide) ?_
                refine J_icmp_ne (tgt := 152) dX8_reads_143 (by decide) (fun c73 => ?_) (fun c73 => ?_)
                · refine J_sipush (v := (1002 : Int32)) dX8_reads_152 (by decide) ?_
                  refine J_sub (l1 := [some (.ref 53), some (.int x12), some (.int x13), some (.int x14), none]) ⟨rfl, ⟨rfl, ⟨rfl, ⟨rfl, trivial⟩⟩⟩⟩ ?_
                  exact hj69 (gI s72 53 11) (1002 : Int32) s72
                · refine J_sipush (v := (1001 : Int32)) dX8_reads_146 (by decide) ?_
                  refine J_goto (tgt := 155) dX8_reads_149 (by decide) ?_
                  refine J_sub (l1 := [some (.ref 53), some (.int x12), some (.int x13), some (.int x14), none]) ⟨rfl, ⟨rfl, ⟨rfl, ⟨rfl, trivial⟩⟩⟩⟩ ?_
                  exact hj69 (gI s72 53 11) (1001 : Int32) s72
              refine J_iload (i := 4) dX8_reads_107 rfl ?_
              refine J_bipush (v := (33 : Int32)) dX8_reads_109 (by decide) ?_
              refine J_icmp_eq (tgt := 121) dX8_reads_111 (by decide) (fun c74 => ?_) (fun c74 => ?_)
              · refine J_sub (l1 := [some (.ref 53), some (.int x12), some (.int x13), some (.int x14), some (.int x25)]) ⟨rfl, ⟨rfl, ⟨rfl, ⟨rfl, ⟨rfl, trivial⟩⟩⟩⟩⟩ ?_
                exact hj65 ()
              · refine J_iload (i := 4) dX8_reads_114 rfl ?_
                refine J_bipush (v := (45 : Int32)) dX8_reads_116 (by decide) ?_
                refine J_icmp_ne (tgt := 169) dX8_reads_118 (by decide) (fun c75 => ?_) (fun c75 => ?_)
                · refine J_join (P := fun j => ∀ (_ : Unit), J l RX8 cX8_reads 5 (Option.some Jvm.ClassFile.FieldType.boolean) false (rmD (4) 0 0) noCx (eIM SH) SH 0 0 r24.2 220 [some (.ref 53), some (.int x12), some (.int x13), some (.int x14), some (.int x25)] [] (j ())) ?_ (fun j76 hj76 => ?_)
                  · intro _
                    refine J_join (P := fun j => ∀ (x77 : Int32) (x78 : Int32), J l RX8 cX8_reads 5 (Option.some Jvm.ClassFile.FieldType.boolean) false (rmD (4) 0 0) noCx (eIM SH) SH 0 0 r24.2 240 [some (.ref 53), some (.int x12), some (.int x13), some (.int x14), none] [.int x78, .int x77, .ref 53] (j x77 x78)) ?_ (fun j79 hj79 => ?_)
                    · intro x77 x78
                      refine J_iadd dX8_reads_240 ?_
                      refine J_putI dX8_reads_241 fp_RX8_143 (fun h => by first | rfl | cases h) sh_53_7 rfl rfl ?_
                      refine J_letM rfl (fun s80 => ?_)
                      refine J_goto (tgt := 478) dX8_reads_244 (by decide) ?_
                      refine J_sub (l1 := [some (.ref 53), some (.int x12), some (.int x13), some (.int x14), none]) ⟨rfl, ⟨rfl, ⟨rfl, ⟨rfl, trivial⟩⟩⟩⟩ ?_
                      exact hj23 x12 x13 x14 s80
                    refine J_aload_n (i := 0) dX8_reads_220 rfl rfl ?_
                    refine J_bipush (v := (10 : Int32)) dX8_reads_221 (by decide) ?_
                    refine J_aload_n (i := 0) dX8_reads_223 rfl rfl ?_
                    refine J_getI dX8_reads_224 fl_RX8_114 sh_53_6 ?_
                    refine J_imul dX8_reads_227 ?_
                    refine J_iload (i := 4) dX8_reads_228 rfl ?_
                    refine J_bipush (v := (40 : Int32)) dX8_reads_230 (by decide) ?_
                    refine J_icmp_ne (tgt := 239) dX8_reads_232 (by decide) (fun c81 => ?_) (fun c81 => ?_)
                    · refine J_iconst (v := (1 : Int32)) dX8_reads_239 (by decide) ?_
                      refine J_sub (l1 := [some (.ref 53), some (.int x12), some (.int x13), some (.int x14), none]) ⟨rfl, ⟨rfl, ⟨rfl, ⟨rfl, trivial⟩⟩⟩⟩ ?_
                      exact hj79 ((10 : Int32) * (gI r24.2 53 6)) (1 : Int32)
                    · refine J_iconst (v := (3 : Int32)) dX8_reads_235 (by decide) ?_
                      refine J_goto (tgt := 240) dX8_reads_236 (by decide) ?_
                      refine J_sub (l1 := [some (.ref 53), some (.int x12), some (.int x13), some (.int x14), none]) ⟨rfl, ⟨rfl, ⟨rfl, ⟨rfl, trivial⟩⟩⟩⟩ ?_
                      exact hj79 ((10 : Int32) * (gI r24.2 53 6)) (3 : Int32)
                  refine J_iload (i := 4) dX8_reads_169 rfl ?_
                  refine J_bipush (v := (40 : Int32)) dX8_reads_171 (by decide) ?_
                  refine J_icmp_ne (tgt := 220) dX8_reads_173 (by decide) (fun c82 => ?_) (fun c82 => ?_)
                  · refine J_sub (l1 := [some (.ref 53), some (.int x12), some (.int x13), some (.int x14), some (.int x25)]) ⟨rfl, ⟨rfl, ⟨rfl, ⟨rfl, ⟨rfl, trivial⟩⟩⟩⟩⟩ ?_
                    exact hj76 ()
                  · refine J_iload_n (i := 1) dX8_reads_176 rfl rfl ?_
                    refine J_bipush (v := (8 : Int32)) dX8_reads_177 (by decide) ?_
                    refine J_icmp_ge (tgt := 220) dX8_reads_179 (by decide) (fun c83 => ?_) (fun c83 => ?_)
                    · refine J_sub (l1 := [some (.ref 53), some (.int x12), some (.int x13), some (.int x14), some (.int x25)]) ⟨rfl, ⟨rfl, ⟨rfl, ⟨rfl, ⟨rfl, trivial⟩⟩⟩⟩⟩ ?_
                      exact hj76 ()
                    · refine J_aload_n (i := 0) dX8_reads_182 rfl rfl ?_
                      refine J_dup dX8_reads_183 rfl ?_
                      refine J_getI dX8_reads_184 fl_RX8_114 sh_53_6 ?_
                      refine J_iconst (v := (1 : Int32)) dX8_reads_187 (by decide) ?_
                      refine J_iadd dX8_reads_188 ?_
                      refine J_putI dX8_reads_189 fp_RX8_114 (fun h => by first | rfl | cases h) sh_53_6 rfl rfl ?_
                      refine J_letM rfl (fun s84 => ?_)
                      refine J_iincN (i := 1) (v := x12 + (1 : Int32)) (LS := fun x85 => [some (.ref 53), some (.int x85), some (.int x13), some (.int x14), some (.int x25)]) dX8_reads_192 rfl (by first | rfl | decide) (fun _ => rfl) (by decide) (fun x85 => ?_)
                      refine J_aload_n (i := 0) dX8_reads_195 rfl rfl ?_
                      refine J_getR dX8_reads_196 fl_RX8_31 sh_53_10 ?_
                      refine J_aload_n (i := 0) dX8_reads_199 rfl rfl ?_
                      refine J_getI dX8_reads_200 fl_RX8_124 sh_53_11 ?_
                      refine J_sipush (v := (1000 : Int32)) dX8_reads_203 (by decide) ?_
                      refine J_iast dX8_reads_206 sa_59 ?_
                      refine J_letM rfl (fun s86 => ?_)
                      refine J_aload_n (i := 0) dX8_reads_207 rfl rfl ?_
                      refine J_dup dX8_reads_208 rfl ?_
                      refine J_getI dX8_reads_209 fl_RX8_124 sh_53_11 ?_
                      refine J_iconst (v := (1 : Int32)) dX8_reads_212 (by decide) ?_
                      refine J_iadd dX8_reads_213 ?_
                      refine J_putI dX8_reads_214 fp_RX8_124 (fun h => by first | rfl | cases h) sh_53_11 rfl rfl ?_
                      refine J_letM rfl (fun s87 => ?_)
                      refine J_goto (tgt := 478) dX8_reads_217 (by decide) ?_
                      refine J_sub (l1 := [some (.ref 53), some (.int x85), some (.int x13), some (.int x14), none]) ⟨rfl, ⟨rfl, ⟨rfl, ⟨rfl, trivial⟩⟩⟩⟩ ?_
                      exact hj23 x85 x13 x14 s87
                · refine J_sub (l1 := [some (.ref 53), some (.int x12), some (.int x13), some (.int x14), some (.int x25)]) ⟨rfl, ⟨rfl, ⟨rfl, ⟨rfl, ⟨rfl, trivial⟩⟩⟩⟩⟩ ?_
                  exact hj65 ()
            · refine J_aload_n (i := 0) dX8_reads_78 rfl rfl ?_
              refine J_dup dX8_reads_79 rfl ?_
              refine J_getI dX8_reads_80 fl_RX8_114 sh_53_6 ?_
              refine J_iconst (v := (1 : Int32)) dX8_reads_83 (by decide) ?_
              refine J_iadd dX8_reads_84 ?_
              refine J_putI dX8_reads_85 fp_RX8_114 (fun h => by first | rfl | cases h) sh_53_6 rfl rfl ?_
              refine J_letM rfl (fun s88 => ?_)
              refine J_aload_n (i := 0) dX8_reads_88 rfl rfl ?_
              refine J_aload_n (i := 0) dX8_reads_89 rfl rfl ?_
              refine J_getR dX8_reads_90 fl_RX8_34 sh_53_12 ?_
              refine J_iload (i := 4) dX8_reads_93 rfl ?_
              refine J_callSI [.int x25] dX8_reads_95 ca_X8_letterOf lk_RX8_159 st_X8_letterOf rfl rfl ⟨by show _ ≤ _; simp only [rmD]; omega, by show _ ≤ _; simp only [rmD]; omega⟩ (Nat.le_of_ble_eq_true rfl) ⟨Nat.zero_le _, Nat.zero_le _⟩ (con_X8_letterOf l _ _) (fun r89 _ => ?_)
              refine J_lald dX8_reads_98 sa_60 ?_
              refine J_callVV 53 [.long (gL s88 60 (Int32.toNatClampNeg r89))] dX8_reads_99 ca_X8_stands lk_RX8_155 vi_X8_stands rc_53 rfl rfl ⟨by show _ ≤ _; simp only [rmD]; omega, by show _ ≤ _; simp only [rmD]; omega⟩ (Nat.le_of_ble_eq_true rfl) ⟨Nat.zero_le _, Nat.zero_le _⟩ (con_X8_stands l N _ _) (fun r90 _ => ?_)
              refine J_iconst (v := (0 : Int32)) dX8_reads_102 (by decide) ?_
              refine J_istore_n (i := 2) (ls2 := [some (.ref 53), some (.int x12), some (.int (0 : Int32)), some (.int x14), some (.int x25)]) dX8_reads_103 rfl rfl (by decide) ?_
              refine J_goto (tgt := 478) dX8_reads_104 (by decide) ?_
              refine J_sub (l1 := [some (.ref 53), some (.int x12), some (.int (0 : Int32)), some (.int x14), none]) ⟨rfl, ⟨rfl, ⟨rfl, ⟨rfl, trivial⟩⟩⟩⟩ ?_
              exact hj23 x12 (0 : Int32) x14 r90
          · refine J_aload_n (i := 0) dX8_reads_56 rfl rfl ?_
            refine J_aload_n (i := 0) dX8_reads_57 rfl rfl ?_
            refine J_callVLM 53 [] dX8_reads_58 ca_X8_digits lk_RX8_151 vi_X8_digits rc_53 rfl rfl ⟨by show _ ≤ _; simp only [rmD]; omega, by show _ ≤ _; simp only [rmD]; omega⟩ (Nat.le_of_ble_eq_true rfl) ⟨Nat.zero_le _, Nat.zero_le _⟩ (con_X8_digits l N _) (fun r91 _ => ?_)
            refine J_callVV 53 [.long r91.1] dX8_reads_61 ca_X8_stands lk_RX8_155 vi_X8_stands rc_53 rfl rfl ⟨by show _ ≤ _; simp only [rmD]; omega, by show _ ≤ _; simp only [rmD]; omega⟩ (Nat.le_of_ble_eq_true rfl) ⟨Nat.zero_le _, Nat.zero_le _⟩ (con_X8_stands l N _ _) (fun r92 _ => ?_)
            refine J_iconst (v := (0 : Int32)) dX8_reads_64 (by decide) ?_
            refine J_istore_n (i := 2) (ls2 := [some (.ref 53), some (.int x12), some (.int (0 : Int32)), some (.int x14), some (.int x25)]) dX8_reads_65 rfl rfl (by decide) ?_
            refine J_goto (tgt := 478) dX8_reads_66 (by decide) ?_
            refine J_sub (l1 := [some (.ref 53), some (.int x12), some (.int (0 : Int32)), some (.int x14), none]) ⟨rfl, ⟨rfl, ⟨rfl, ⟨rfl, trivial⟩⟩⟩⟩ ?_
            exact hj23 x12 (0 : Int32) x14 r92
set_option maxRecDepth 100000 in
set_option maxHeartbeats 4000000 in
theorem con_X8_reads (l : Launch) (N : Nat) (s0 : jM) : Con l (4) yX8_reads cX8_reads 5 (Option.some Jvm.ClassFile.FieldType.boolean) (eIM SH) SH [.ref 53] s0 (f_X8_reads N s0) := by
  refine Con_of (ls0 := [some (.ref 53), none, none, none, none]) (ini := false) (mc := 0) (ms := 0) (by decide +kernel) rfl (Nat.le_of_ble_eq_true rfl) (fun h => by cases h) (fun _ _ => rfl) ?_
  unfold f_X8_reads
  refine J_aload_n (i := 0) dX8_reads_0 rfl rfl ?_
  refine J_iconst (v := (0 : Int32)) dX8_reads_1 (by decide) ?_
  refine J_putI dX8_reads_2 fp_RX8_114 (fun h => by first | rfl | cases h) sh_53_6 rfl rfl ?_
  refine J_letM rfl (fun s1 => ?_)
  refine J_aload_n (i := 0) dX8_reads_5 rfl rfl ?_
  refine J_iconst (v := (-1 : Int32)) dX8_reads_6 (by decide) ?_
  refine J_putI dX8_reads_7 fp_RX8_143 (fun h => by first | rfl | cases h) sh_53_7 rfl rfl ?_
  refine J_letM rfl (fun s2 => ?_)
  refine J_aload_n (i := 0) dX8_reads_10 rfl rfl ?_
  refine J_iconst (v := (0 : Int32)) dX8_reads_11 (by decide) ?_
  refine J_putI dX8_reads_12 fp_RX8_127 (fun h => by first | rfl | cases h) sh_53_9 rfl rfl ?_
  refine J_letM rfl (fun s3 => ?_)
  refine J_aload_n (i := 0) dX8_reads_15 rfl rfl ?_
  refine J_iconst (v := (0 : Int32)) dX8_reads_16 (by decide) ?_
  refine J_putI dX8_reads_17 fp_RX8_124 (fun h => by first | rfl | cases h) sh_53_11 rfl rfl ?_
  refine J_letM rfl (fun s4 => ?_)
  refine J_iconst (v := (0 : Int32)) dX8_reads_20 (by decide) ?_
  refine J_istore_n (i := 1) (ls2 := [some (.ref 53), some (.int (0 : Int32)), none, none, none]) dX8_reads_21 rfl rfl (by decide) ?_
  refine J_iconst (v := (1 : Int32)) dX8_reads_22 (by decide) ?_
  refine J_istore_n (i := 2) (ls2 := [some (.ref 53), some (.int (0 : Int32)), some (.int (1 : Int32)), none, none]) dX8_reads_23 rfl rfl (by decide) ?_
  refine J_iconst (v := (1 : Int32)) dX8_reads_24 (by decide) ?_
  refine J_istore_n (i := 3) (ls2 := [some (.ref 53), some (.int (0 : Int32)), some (.int (1 : Int32)), some (.int (1 : Int32)), none]) dX8_reads_25 rfl rfl (by decide) ?_
  refine J_join (P := fun j => ∀ (s5 : jM), J l RX8 cX8_reads 5 (Option.some Jvm.ClassFile.FieldType.boolean) false (rmD (4) 0 0) noCx (eIM SH) SH 0 0 s5 481 [some (.ref 53), none, none, none, none] [] (j s5)) ?_ (fun k6 hk6 => ?_)
  · intro s5
    refine J_join (P := fun j => ∀ (y7 : Int64), J l RX8 cX8_reads 5 (Option.some Jvm.ClassFile.FieldType.boolean) false (rmD (4) 0 0) noCx (eIM SH) SH 0 0 s5 500 [some (.ref 53), none, none, none, none] [.long y7, .ref 53] (j y7)) ?_ (fun j8 hj8 => ?_)
    · intro y7
      refine J_putL dX8_reads_500 fp_RX8_166 (fun h => by first | rfl | cases h) sh_53_13 rfl rfl ?_
      refine J_letM rfl (fun s9 => ?_)
      refine J_aload_n (i := 0) dX8_reads_503 rfl rfl ?_
      refine J_getI dX8_reads_504 fl_RX8_143 sh_53_7 ?_
      refine J_iconst (v := (-1 : Int32)) dX8_reads_507 (by decide) ?_
      refine J_icmp_ne (tgt := 515) dX8_reads_508 (by decide) (fun c10 => ?_) (fun c10 => ?_)
      · refine J_iconst (v := (0 : Int32)) dX8_reads_515 (by decide) ?_
        exact J_ireturn dX8_reads_516 rfl rfl rfl
      · refine J_iconst (v := (1 : Int32)) dX8_reads_511 (by decide) ?_
        refine J_goto (tgt := 516) dX8_reads_512 (by decide) ?_
        exact J_ireturn dX8_reads_516 rfl rfl rfl
    refine J_aload_n (i := 0) dX8_reads_481 rfl rfl ?_
    refine J_aload_n (i := 0) dX8_reads_482 rfl rfl ?_
    refine J_getI dX8_reads_483 fl_RX8_143 sh_53_7 ?_
    refine J_iconst (v := (-1 : Int32)) dX8_reads_486 (by decide) ?_
    refine J_icmp_ne (tgt := 499) dX8_reads_487 (by decide) (fun c11 => ?_) (fun c11 => ?_)
    · refine J_lconst (v := (0 : Int64)) dX8_reads_499 (by decide) ?_
      refine J_sub (l1 := [some (.ref 53), none, none, none, none]) ⟨rfl, trivial⟩ ?_
      exact hj8 (0 : Int64)
    · refine J_aload_n (i := 0) dX8_reads_490 rfl rfl ?_
      refine J_getR dX8_reads_491 fl_RX8_27 sh_53_8 ?_
      refine J_iconst (v := (0 : Int32)) dX8_reads_494 (by decide) ?_
      refine J_lald dX8_reads_495 sa_58 ?_
      refine J_goto (tgt := 500) dX8_reads_496 (by decide) ?_
      refine J_sub (l1 := [some (.ref 53), none, none, none, none]) ⟨rfl, trivial⟩ ?_
      exact hj8 (gL s5 58 (Int32.toNatClampNeg (0 : Int32)))
  refine J_sub (l1 := [some (.ref 53), some (.int (0 : Int32)), some (.int (1 : Int32)), some (.int (1 : Int32)), none]) ⟨rfl, ⟨rfl, ⟨rfl, ⟨rfl, trivial⟩⟩⟩⟩ ?_
  exact lp_X8_reads_26_ok l N  k6 hk6 N (0 : Int32) (1 : Int32) (1 : Int32) s4
