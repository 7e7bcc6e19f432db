def f_X8_least (N : Nat) (a1 : Int32) (s0 : jM) : Option (Int32 × jM) := Option.bind (f_X8_in (Int32.toInt64 a1) (0 : Int64) (3 : Int64)) fun r1 => if r1 = 0 then (Option.bind (f_X8_bad (-2 : Int32) s0) fun r11 => some (r11.1, r11.2)) else (Option.bind (f_X8_layRow N s0) fun r3 => if r3.1 = 0 then (some ((-1 : Int32), r3.2)) else (if a1 = 0 then (Option.bind (f_X8_all r3.2) fun r10 => gd (ib r10 256) <| some ((gI r3.2 64 (Int32.toNatClampNeg r10)), r3.2)) else (if a1 = (1 : Int32) then (Option.bind (f_X8_all r3.2) fun r9 => gd (ib r9 256) <| some ((gI r3.2 65 (Int32.toNatClampNeg r9)), r3.2)) else (if a1 = (2 : Int32) then (some ((gI r3.2 53 23), r3.2)) else (Option.bind (f_X8_all r3.2) fun r8 => gd (ib r8 256) <| some ((gI r3.2 66 (Int32.toNatClampNeg r8)), r3.2))))))
set_option maxRecDepth 100000 in
set_option maxHeartbeats 4000000 in
theorem con_X8_least (l : Launch) (N : Nat) (a1 : Int32) (s0 : jM) : Con l (9) yX8_least cX8_least 2 (Option.some Jvm.ClassFile.FieldType.int) (eIM SH) SH [.ref 53, .int a1] s0 (f_X8_least N a1 s0) := by
  refine Con_of (ls0 := [some (.ref 53), some (.int a1)]) (ini := false) (mc := 0) (ms := 0) (by decide +kernel) rfl (Nat.le_of_ble_eq_true rfl) (fun h => by cases h) (fun _ _ => rfl) ?_
  unfold f_X8_least
  refine J_iload_n (i := 1) dX8_least_0 rfl rfl ?_
  refine J_i2l dX8_least_1 ?_
  refine J_lconst (v := (0 : Int64)) dX8_least_2 (by decide) ?_
  refine J_ldc2 (v := (3 : Int64)) dX8_least_3 kw_RX8_225 ?_
  refine J_callSI [.long (Int32.toInt64 a1), .long (0 : Int64), .long (3 : Int64)] dX8_least_6 ca_X8_in lk_RX8_74 st_X8_in rfl rfl ⟨by show _ ≤ _; simp only [rmD]; omega, by show _ ≤ _; simp only [rmD]; omega⟩ (Nat.le_of_ble_eq_true rfl) ⟨Nat.zero_le _, Nat.zero_le _⟩ (con_X8_in l _ _ _ _) (fun r1 _ => ?_)
  refine J_if_ne (tgt := 19) dX8_least_9 (by decide) (fun c2 => ?_) (fun c2 => ?_)
  · refine J_aload_n (i := 0) dX8_least_19 rfl rfl ?_
    refine J_callVIM 53 [] dX8_least_20 ca_X8_layRow lk_RX8_227 vi_X8_layRow rc_53 rfl rfl ⟨by show _ ≤ _; simp only [rmD]; omega, by show _ ≤ _; simp only [rmD]; omega⟩ (Nat.le_of_ble_eq_true rfl) ⟨Nat.zero_le _, Nat.zero_le _⟩ (con_X8_layRow l N _) (fun r3 _ => ?_)
    refine J_if_ne (tgt := 28) dX8_least_23 (by decide) (fun c4 => ?_) (fun c4 => ?_)
    · refine J_iload_n (i := 1) dX8_least_28 rfl rfl ?_
      refine J_if_ne (tgt := 44) dX8_least_29 (by decide) (fun c5 => ?_) (fun c5 => ?_)
      · refine J_iload_n (i := 1) dX8_least_44 rfl rfl ?_
        refine J_iconst (v := (1 : Int32)) dX8_least_45 (by decide) ?_
        refine J_icmp_ne (tgt := 61) dX8_least_46 (by decide) (fun c6 => ?_) (fun c6 => ?_)
        · refine J_iload_n (i := 1) dX8_least_61 rfl rfl ?_
          refine J_iconst (v := (2 : Int32)) dX8_least_62 (by decide) ?_
          refine J_icmp_ne (tgt := 73) dX8_least_63 (by decide) (fun c7 => ?_) (fun c7 => ?_)
          · refine J_aload_n (i := 0) dX8_least_73 rfl rfl ?_
            refine J_getR dX8_least_74 fl_RX8_52 sh_53_21 ?_
            refine J_aload_n (i := 0) dX8_least_77 rfl rfl ?_
            refine J_callVI 53 [] dX8_least_78 ca_X8_all lk_RX8_78 vi_X8_all rc_53 rfl rfl ⟨by show _ ≤ _; simp only [rmD]; omega, by show _ ≤ _; simp only [rmD]; omega⟩ (Nat.le_of_ble_eq_true rfl) ⟨Nat.zero_le _, Nat.zero_le _⟩ (con_X8_all l _) (fun r8 _ => ?_)
            refine J_iald dX8_least_81 sa_66 ?_
            exact J_ireturn dX8_least_82 rfl rfl rfl
          · refine J_aload_n (i := 0) dX8_least_66 rfl rfl ?_
            refine J_getI dX8_least_67 fl_RX8_219 sh_53_23 ?_
            refine J_goto (tgt := 82) dX8_least_70 (by decide) ?_
            exact J_ireturn dX8_least_82 rfl rfl rfl
        · refine J_aload_n (i := 0) dX8_least_49 rfl rfl ?_
          refine J_getR dX8_least_50 fl_RX8_49 sh_53_20 ?_
          refine J_aload_n (i := 0) dX8_least_53 rfl rfl ?_
          refine J_callVI 53 [] dX8_least_54 ca_X8_all lk_RX8_78 vi_X8_all rc_53 rfl rfl ⟨by show _ ≤ _; simp only [rmD]; omega, by show _ ≤ _; simp only [rmD]; omega⟩ (Nat.le_of_ble_eq_true rfl) ⟨Nat.zero_le _, Nat.zero_le _⟩ (con_X8_all l _) (fun r9 _ => ?_)
          refine J_iald dX8_least_57 sa_65 ?_
          refine J_goto (tgt := 82) dX8_least_58 (by decide) ?_
          exact J_ireturn dX8_least_82 rfl rfl rfl
      · refine J_aload_n (i := 0) dX8_least_32 rfl rfl ?_
        refine J_getR dX8_least_33 fl_RX8_46 sh_53_19 ?_
        refine J_aload_n (i := 0) dX8_least_36 rfl rfl ?_
        refine J_callVI 53 [] dX8_least_37 ca_X8_all lk_RX8_78 vi_X8_all rc_53 rfl rfl ⟨by show _ ≤ _; simp only [rmD]; omega, by show _ ≤ _; simp only [rmD]; omega⟩ (Nat.le_of_ble_eq_true rfl) ⟨Nat.zero_le _, Nat.zero_le _⟩ (con_X8_all l _) (fun r10 _ => ?_)
        refine J_iald dX8_least_40 sa_64 ?_
        refine J_goto (tgt := 82) dX8_least_41 (by decide) ?_
        exact J_ireturn dX8_least_82 rfl rfl rfl
    · refine J_iconst (v := (-1 : Int32)) dX8_least_26 (by decide) ?_
      exact J_ireturn dX8_least_27 rfl rfl rfl
  · refine J_aload_n (i := 0) dX8_least_12 rfl rfl ?_
    refine J_bipush (v := (-2 : Int32)) dX8_least_13 (by decide) ?_
    refine J_callVIM 53 [.int (-2 : Int32)] dX8_least_15 ca_X8_bad lk_RX8_87 vi_X8_bad rc_53 rfl rfl ⟨by show _ ≤ _; simp only [rmD]; omega, by show _ ≤ _; simp only [rmD]; omega⟩ (Nat.le_of_ble_eq_true rfl) ⟨Nat.zero_le _, Nat.zero_le _⟩ (con_X8_bad l _ _) (fun r11 _ => ?_)
    exact J_ireturn dX8_least_18 rfl rfl rfl

def f_X8_row (N : Nat) (a1 : Int32) (s0 : jM) : Option (Int32 × jM) := if 0 ≤ a1 then (Option.bind (f_X8_layRow N s0) fun r2 => if r2.1 = 0 then (some ((-5 : Int32), r2.2)) else (if a1 < (gI r2.2 53 23) then (jn_ (fun (x5 : Int32) (x6 : Int32) (s7 : jM) => some ((x5 + x6), s7)) fun j8 => gd (ib a1 8) <| gd (ib a1 8) <| Option.bind (f_X8_isWell N (gI r2.2 68 (Int32.toNatClampNeg a1)) (0 : Int32) (0 : Int32) r2.2) fun r9 => if r9.1 = 0 then (j8 (gI r2.2 68 (Int32.toNatClampNeg a1)) (256 : Int32) r9.2) else (j8 (gI r2.2 68 (Int32.toNatClampNeg a1)) (0 : Int32) r9.2)) else (some ((-5 : Int32), r2.2)))) else (Option.bind (f_X8_bad (-10 : Int32) s0) fun r11 => some (r11.1, r11.2))
set_option maxRecDepth 100000 in
set_option maxHeartbeats 4000000 in
theorem con_X8_row (l : Launch) (N : Nat) (a1 : Int32) (s0 : jM) : Con l (9) yX8_row cX8_row 2 (Option.some Jvm.ClassFile.FieldType.int) (eIM SH) SH [.ref 53, .int a1] s0 (f_X8_row N a1 s0) := by
  refine Con_of (ls0 := [some (.ref 53), some (.int a1)]) (ini := false) (mc := 0) (ms := 0) (by decide +kernel) rfl (Nat.le_of_ble_eq_true rfl) (fun h => by cases h) (fun _ _ => rfl) ?_
  unfold f_X8_row
  refine J_iload_n (i := 1) dX8_row_0 rfl rfl ?_
  refine J_if_ge (tgt := 11) dX8_row_1 (by decide) (fun c1 => ?_) (fun c1 => ?_)
  · refine J_aload_n (i := 0) dX8_row_11 rfl rfl ?_
    refine J_callVIM 53 [] dX8_row_12 ca_X8_layRow lk_RX8_227 vi_X8_layRow rc_53 rfl rfl ⟨by show _ ≤ _; simp only [rmD]; omega, by show _ ≤ _; simp only [rmD]; omega⟩ (Nat.le_of_ble_eq_true rfl) ⟨Nat.zero_le _, Nat.zero_le _⟩ (con_X8_layRow l N _) (fun r2 _ => ?_)
    refine J_if_eq (tgt := 26) dX8_row_15 (by decide) (fun c3 => ?_) (fun c3 => ?_)
    · refine J_bipush (v := (-5 : Int32)) dX8_row_26 (by decide) ?_
      exact J_ireturn dX8_row_28 rfl rfl rfl
    · refine J_iload_n (i := 1) dX8_row_18 rfl rfl ?_
      refine J_aload_n (i := 0) dX8_row_19 rfl rfl ?_
      refine J_getI dX8_row_20 fl_RX8_219 sh_53_23 ?_
      refine J_icmp_lt (tgt := 29) dX8_row_23 (by decide) (fun c4 => ?_) (fun c4 => ?_)
      · refine J_join (P := fun j => ∀ (x5 : Int32) (x6 : Int32) (s7 : jM), J l RX8 cX8_row 2 (Option.some Jvm.ClassFile.FieldType.int) false (rmD (9) 0 0) noCx (eIM SH) SH 0 0 s7 57 [none, none] [.int x6, .int x5] (j x5 x6 s7)) ?_ (fun j8 hj8 => ?_)
        · intro x5 x6 s7
          refine J_iadd dX8_row_57 ?_
          exact J_ireturn dX8_row_58 rfl rfl rfl
        refine J_aload_n (i := 0) dX8_row_29 rfl rfl ?_
        refine J_getR dX8_row_30 fl_RX8_58 sh_53_24 ?_
        refine J_iload_n (i := 1) dX8_row_33 rfl rfl ?_
        refine J_iald dX8_row_34 sa_68 ?_
        refine J_aload_n (i := 0) dX8_row_35 rfl rfl ?_
        refine J_aload_n (i := 0) dX8_row_36 rfl rfl ?_
        refine J_getR dX8_row_37 fl_RX8_58 sh_53_24 ?_
        refine J_iload_n (i := 1) dX8_row_40 rfl rfl ?_
        refine J_iald dX8_row_41 sa_68 ?_
        refine J_iconst (v := (0 : Int32)) dX8_row_42 (by decide) ?_
        refine J_iconst (v := (0 : Int32)) dX8_row_43 (by decide) ?_
        refine J_callVIM 53 [.int (gI r2.2 68 (Int32.toNatClampNeg a1)), .int (0 : Int32), .int (0 : Int32)] dX8_row_44 ca_X8_isWell lk_RX8_175 vi_X8_isWell rc_53 rfl rfl ⟨by show _ ≤ _; simp only [rmD]; omega, by show _ ≤ _; simp only [rmD]; omega⟩ (Nat.le_of_ble_eq_true rfl) ⟨Nat.zero_le _, Nat.zero_le _⟩ (con_X8_isWell l N _ _ _ _) (fun r9 _ => ?_)
        refine J_if_eq (tgt := 54) dX8_row_47 (by decide) (fun c10 => ?_) (fun c10 => ?_)
        · refine J_sipush (v := (256 : Int32)) dX8_row_54 (by decide) ?_
          refine J_sub (l1 := [none, none]) trivial ?_
          exact hj8 (gI r2.2 68 (Int32.toNatClampNeg a1)) (256 : Int32) r9.2
        · refine J_iconst (v := (0 : Int32)) dX8_row_50 (by decide) ?_
          refine J_goto (tgt := 57) dX8_row_51 (by decide) ?_
          refine J_sub (l1 := [none, none]) trivial ?_
          exact hj8 (gI r2.2 68 (Int32.toNatClampNeg a1)) (0 : Int32) r9.2
      · refine J_bipush (v := (-5 : Int32)) dX8_row_26 (by decide) ?_
        exact J_ireturn dX8_row_28 rfl rfl rfl
  · refine J_aload_n (i := 0) dX8_row_4 rfl rfl ?_
    refine J_bipush (v := (-10 : Int32)) dX8_row_5 (by decide) ?_
    refine J_callVIM 53 [.int (-10 : Int32)] dX8_row_7 ca_X8_bad lk_RX8_87 vi_X8_bad rc_53 rfl rfl ⟨by show _ ≤ _; simp only [rmD]; omega, by show _ ≤ _; simp only [rmD]; omega⟩ (Nat.le_of_ble_eq_true rfl) ⟨Nat.zero_le _, Nat.zero_le _⟩ (con_X8_bad l _ _) (fun r11 _ => ?_)
    exact J_ireturn dX8_row_10 rfl rfl rfl

def lp_X8_toll_70 (N : Nat) (a1 : Int32) (r7 : (Int32 × jM)) (x16 : Int32) (k20 : Int64 → Option (Int32 × jM)) : Nat → Int64 → Int32 → Option (Int32 × jM)
  | 0, _, _ => none
  | q + 1, y35, x36 => if (gI r7.2 53 23) ≤ x36 then (k20 y35) else (jn_ (fun (y39 : Int64) (y40 : Int64) => lt_ (y39 * y40) fun y42 => lt_ (x36 + (1 : Int32)) fun x43 => lp_X8_toll_70 N a1 r7 x16 k20 q y42 x43) fun j41 => if x16 ≤ x36 then (j41 y35 (Int32.toInt64 ((20 : Int32) - a1))) else (j41 y35 (Int32.toInt64 a1)))
def lp_X8_toll_54 (N : Nat) (a1 : Int32) (a2 : Int32) (r7 : (Int32 × jM)) (k11 : Int64 → Int64 → Option (Int32 × jM)) : Nat → Int64 → Int64 → Int64 → Int32 → Option (Int32 × jM)
  | 0, _, _, _, _ => none
  | q + 1, y13, y14, y15, x16 => if (gI r7.2 53 23) < x16 then (k11 y13 y15) else (jn_ (fun (y19 : Int64) => jn_ (fun (y21 : Int64) (y22 : Int64) => jn_ (fun (y24 : Int64) (y25 : Int64) (y26 : Int64) (y27 : Int64) => lt_ (y26 * y27) fun y29 => lt_ (x16 + (1 : Int32)) fun x30 => lp_X8_toll_54 N a1 a2 r7 k11 q y24 y25 y29 x30) fun j28 => lt_ (y21 + y22) fun y31 => gd (decide (¬ (Int32.toInt64 (x16 + (1 : Int32))) = 0)) <| lt_ ((y14 * (Int32.toInt64 ((gI r7.2 53 23) - x16))) / (Int32.toInt64 (x16 + (1 : Int32)))) fun y32 => if (gI r7.2 53 23) ≤ x16 then (j28 y31 y32 y15 (1 : Int64)) else (j28 y31 y32 y15 (20 : Int64))) fun j23 => if a2 < x16 then (j23 y13 (0 : Int64)) else (j23 y13 y19)) fun k20 => lp_X8_toll_70 N a1 r7 x16 k20 N y14 (0 : Int32))
def f_X8_toll (N : Nat) (a1 : Int32) (a2 : Int32) (s0 : jM) : Option (Int32 × jM) := jn_ (fun (_ : Unit) => Option.bind (f_X8_bad (-2 : Int32) s0) fun r2 => some (r2.1, r2.2)) fun j1 => Option.bind (f_X8_in (Int32.toInt64 a1) (0 : Int64) (20 : Int64)) fun r3 => if r3 = 0 then (j1 ()) else (Option.bind (f_X8_in (Int32.toInt64 a2) (0 : Int64) (8 : Int64)) fun r5 => if r5 = 0 then (j1 ()) else (Option.bind (f_X8_layRow N s0) fun r7 => if r7.1 = 0 then (Option.bind (f_X8_no r7.2) fun r45 => some (r45.1, r45.2)) else (jn_ (fun (y9 : Int64) (y10 : Int64) => Option.bind (f_X8_tells N y9 y10 r7.2) fun r12 => some (r12.1, r12.2)) fun k11 => lp_X8_toll_54 N a1 a2 r7 k11 N (0 : Int64) (1 : Int64) (1 : Int64) (0 : Int32))))
set_option maxRecDepth 100000 in
set_option maxHeartbeats 4000000 in
theorem lp_X8_toll_70_ok (l : Launch) (N : Nat)  (a1 : Int32) (r7 : (Int32 × jM)) (x16 : Int32) (k20 : Int64 → Option (Int32 × jM)) (a2 : Int32) (y13 : Int64) (y14 : Int64) (y15 : Int64) (hk20 : ∀ (y19 : Int64), J l RX8 cX8_toll 13 (Option.some Jvm.ClassFile.FieldType.int) false (rmD (9) 0 0) noCx (eIM SH) SH 0 0 r7.2 107 [some (.ref 53), some (.int a1), some (.int a2), some (.long y13), none, some (.long y14), none, some (.long y15), none, some (.int x16), some (.long y19), none, none] [] (k20 y19)) : ∀ (q : Nat) (y35 : Int64) (x36 : Int32), J l RX8 cX8_toll 13 (Option.some Jvm.ClassFile.FieldType.int) false (rmD (9) 0 0) noCx (eIM SH) SH 0 0 r7.2 70 [some (.ref 53), some (.int a1), some (.int a2), some (.long y13), none, some (.long y14), none, some (.long y15), none, some (.int x16), some (.long y35), none, some (.int x36)] [] (lp_X8_toll_70 N a1 r7 x16 k20 q y35 x36) := by
  intro q
  induction q with
  | zero => intro y35 x36; exact J_none
  | succ q hrec37 =>
    intro y35 x36
    rw [lp_X8_toll_70]
    refine J_iload (i := 12) dX8_toll_70 rfl ?_
    refine J_aload_n (i := 0) dX8_toll_72 rfl rfl ?_
    refine J_getI dX8_toll_73 fl_RX8_219 sh_53_23 ?_
    refine J_icmp_ge (tgt := 107) dX8_toll_76 (by decide) (fun c38 => ?_) (fun c38 => ?_)
    · refine J_sub (l1 := [some (.ref 53), some (.int a1), some (.int a2), some (.long y13), none, some (.long y14), none, some (.long y15), none, some (.int x16), some (.long y35), none, none]) ⟨rfl, ⟨rfl, ⟨rfl, ⟨rfl, ⟨rfl, ⟨rfl, ⟨rfl, ⟨rfl, trivial⟩⟩⟩⟩⟩⟩⟩⟩ ?_
      exact hk20 y35
    · refine J_join (P := fun j => ∀ (y39 : Int64) (y40 : Int64), J l RX8 cX8_toll 13 (Option.some Jvm.ClassFile.FieldType.int) false (rmD (9) 0 0) noCx (eIM SH) SH 0 0 r7.2 98 [some (.ref 53), some (.int a1), some (.int a2), some (.long y13), none, some (.long y14), none, some (.long y15), none, some (.int x16), none, none, some (.int x36)] [.long y40, .long y39] (j y39 y40)) ?_ (fun j41 hj41 => ?_)
      · intro y39 y40
        refine J_lmul dX8_toll_98 ?_
        refine J_lstoreN (i := 10) (LS := fun y42 => [some (.ref 53), some (.int a1), some (.int a2), some (.long y13), none, some (.long y14), none, some (.long y15), none, some (.int x16), some (.long y42), none, some (.int x36)]) dX8_toll_99 (fun _ => rfl) (by decide) (fun y42 => ?_)
        refine J_iincN (i := 12) (v := x36 + (1 : Int32)) (LS := fun x43 => [some (.ref 53), some (.int a1), some (.int a2), some (.long y13), none, some (.long y14), none, some (.long y15), none, some (.int x16), some (.long y42), none, some (.int x43)]) dX8_toll_101 rfl (by first | rfl | decide) (fun _ => rfl) (by decide) (fun x43 => ?_)
        refine J_goto (tgt := 70) dX8_toll_104 (by decide) ?_
        refine J_sub (l1 := [some (.ref 53), some (.int a1), some (.int a2), some (.long y13), none, some (.long y14), none, some (.long y15), none, some (.int x16), some (.long y42), none, some (.int x43)]) ⟨rfl, ⟨rfl, ⟨rfl, ⟨rfl, ⟨rfl, ⟨rfl, ⟨rfl, ⟨rfl, ⟨rfl, trivial⟩⟩⟩⟩⟩⟩⟩⟩⟩ ?_
        exact hrec37 y42 x43
      refine J_lload (i := 10) dX8_toll_79 rfl ?_
      refine J_iload (i := 12) dX8_toll_81 rfl ?_
      refine J_iload (i := 9) dX8_toll_83 rfl ?_
      refine J_icmp_ge (tgt := 93) dX8_toll_85 (by decide) (fun c44 => ?_) (fun c44 => ?_)
      · refine J_bipush (v := (20 : Int32)) dX8_toll_93 (by decide) ?_
        refine J_iload_n (i := 1) dX8_toll_95 rfl rfl ?_
        refine J_isub dX8_toll_96 ?_
        refine J_i2l dX8_toll_97 ?_
        refine J_sub (l1 := [some (.ref 53), some (.int a1), some (.int a2), some (.long y13), none, some (.long y14), none, some (.long y15), none, some (.int x16), none, none, some (.int x36)]) ⟨rfl, ⟨rfl, ⟨rfl, ⟨rfl, ⟨rfl, ⟨rfl, ⟨rfl, ⟨rfl, trivial⟩⟩⟩⟩⟩⟩⟩⟩ ?_
        exact hj41 y35 (Int32.toInt64 ((20 : Int32) - a1))
      · refine J_iload_n (i := 1) dX8_toll_88 rfl rfl ?_
        refine J_i2l dX8_toll_89 ?_
        refine J_goto (tgt := 98) dX8_toll_90 (by decide) ?_
        refine J_sub (l1 := [some (.ref 53), some (.int a1), some (.int a2), some (.long y13), none, some (.long y14), none, some (.long y15), none, some (.int x16), none, none, some (.int x36)]) ⟨rfl, ⟨rfl, ⟨rfl, ⟨rfl, ⟨rfl, ⟨rfl, ⟨rfl, ⟨rfl, trivial⟩⟩⟩⟩⟩⟩⟩⟩ ?_
        exact hj41 y35 (Int32.toInt64 a1)
set_option maxRecDepth 100000 in
set_option maxHeartbeats 4000000 in
theorem lp_X8_toll_54_ok (l : Launch) (N : Nat)  (a1 : Int32) (a2 : Int32) (r7 : (Int32 × jM)) (k11 : Int64 → Int64 → Option (Int32 × jM)) (hk11 : ∀ (y9 : Int64) (y10 : Int64), J l RX8 cX8_toll 13 (Option.some Jvm.ClassFile.FieldType.int) false (rmD (9) 0 0) noCx (eIM SH) SH 0 0 r7.2 168 [some (.ref 53), none, none, some (.long y9), none, none, none, some (.long y10), none, none, none, none, none] [] (k11 y9 y10)) : ∀ (q : Nat) (y13 : Int64) (y14 : Int64) (y15 : Int64) (x16 : Int32), J l RX8 cX8_toll 13 (Option.some Jvm.ClassFile.FieldType.int) false (rmD (9) 0 0) noCx (eIM SH) SH 0 0 r7.2 54 [some (.ref 53), some (.int a1), some (.int a2), some (.long y13), none, some (.long y14), none, some (.long y15), none, some (.int x16), none, none, none] [] (lp_X8_toll_54 N a1 a2 r7 k11 q y13 y14 y15 x16) := by
  intro q
  induction q with
  | zero => intro y13 y14 y15 x16; exact J_none
  | succ q hrec17 =>
    intro y13 y14 y15 x16
    rw [lp_X8_toll_54]
    refine J_iload (i := 9) dX8_toll_54 rfl ?_
    refine J_aload_n (i := 0) dX8_toll_56 rfl rfl ?_
    refine J_getI dX8_toll_57 fl_RX8_219 sh_53_23 ?_
    refine J_icmp_gt (tgt := 168) dX8_toll_60 (by decide) (fun c18 => ?_) (fun c18 => ?_)
    · refine J_sub (l1 := [some (.ref 53), none, none, some (.long y13), none, none, none, some (.long y15), none, none, none, none, none]) ⟨rfl, ⟨rfl, ⟨rfl, trivial⟩⟩⟩ ?_
      exact hk11 y13 y15
    · refine J_lload (i := 5) dX8_toll_63 rfl ?_
      refine J_lstore (i := 10) (ls2 := [some (.ref 53), some (.int a1), some (.int a2), some (.long y13), none, some (.long y14), none, some (.long y15), none, some (.int x16), some (.long y14), none, none]) dX8_toll_65 rfl (by decide) ?_
      refine J_iconst (v := (0 : Int32)) dX8_toll_67 (by decide) ?_
      refine J_istore (i := 12) (ls2 := [some (.ref 53), some (.int a1), some (.int a2), some (.long y13), none, some (.long y14), none, some (.long y15), none, some (.int x16), some (.long y14), none, some (.int (0 : Int32))]) dX8_toll_68 rfl (by decide) ?_
      refine J_join (P := fun j => ∀ (y19 : Int64), J l RX8 cX8_toll 13 (Option.some Jvm.ClassFile.FieldType.int) false (rmD (9) 0 0) noCx (eIM SH) SH 0 0 r7.2 107 [some (.ref 53), some (.int a1), some (.int a2), some (.long y13), none, some (.long y14), none, some (.long y15), none, some (.int x16), some (.long y19), none, none] [] (j y19)) ?_ (fun k20 hk20 => ?_)
      · intro y19
        refine J_join (P := fun j => ∀ (y21 : Int64) (y22 : Int64), J l RX8 cX8_toll 13 (Option.some Jvm.ClassFile.FieldType.int) false (rmD (9) 0 0) noCx (eIM SH) SH 0 0 r7.2 120 [some (.ref 53), some (.int a1), some (.int a2), none, none, some (.long y14), none, some (.long y15), none, some (.int x16), none, none, none] [.long y22, .long y21] (j y21 y22)) ?_ (fun j23 hj23 => ?_)
        · intro y21 y22
          refine J_join (P := fun j => ∀ (y24 : Int64) (y25 : Int64) (y26 : Int64) (y27 : Int64), J l RX8 cX8_toll 13 (Option.some Jvm.ClassFile.FieldType.int) false (rmD (9) 0 0) noCx (eIM SH) SH 0 0 r7.2 159 [some (.ref 53), some (.int a1), some (.int a2), some (.long y24), none, some (.long y25), none, none, none, some (.int x16), none, none, none] [.long y27, .long y26] (j y24 y25 y26 y27)) ?_ (fun j28 hj28 => ?_)
          · intro y24 y25 y26 y27
            refine J_lmul dX8_toll_159 ?_
            refine J_lstoreN (i := 7) (LS := fun y29 => [some (.ref 53), some (.int a1), some (.int a2), some (.long y24), none, some (.long y25), none, some (.long y29), none, some (.int x16), none, none, none]) dX8_toll_160 (fun _ => rfl) (by decide) (fun y29 => ?_)
            refine J_iincN (i := 9) (v := x16 + (1 : Int32)) (LS := fun x30 => [some (.ref 53), some (.int a1), some (.int a2), some (.long y24), none, some (.long y25), none, some (.long y29), none, some (.int x30), none, none, none]) dX8_toll_162 rfl (by first | rfl | decide) (fun _ => rfl) (by decide) (fun x30 => ?_)
            refine J_goto (tgt := 54) dX8_toll_165 (by decide) ?_
            refine J_sub (l1 := [some (.ref 53), some (.int a1), some (.int a2), some (.long y24), none, some (.long y25), none, some (.long y29), none, some (.int x30), none, none, none]) ⟨rfl, ⟨rfl, ⟨rfl, ⟨rfl, ⟨rfl, ⟨rfl, ⟨rfl, trivial⟩⟩⟩⟩⟩⟩⟩ ?_
            exact hrec17 y24 y25 y29 x30
          refine J_ladd dX8_toll_120 ?_
          refine J_lstore_nN (i := 3) (LS := fun y31 => [some (.ref 53), some (.int a1), some (.int a2), some (.long y31), none, some (.long y14), none, some (.long y15), none, some (.int x16), none, none, none]) dX8_toll_121 rfl (fun _ => rfl) (by decide) (fun y31 => ?_)
          refine J_lload (i := 5) dX8_toll_122 rfl ?_
          refine J_aload_n (i := 0) dX8_toll_124 rfl rfl ?_
          refine J_getI dX8_toll_125 fl_RX8_219 sh_53_23 ?_
          refine J_iload (i := 9) dX8_toll_128 rfl ?_
          refine J_isub dX8_toll_130 ?_
          refine J_i2l dX8_toll_131 ?_
          refine J_lmul dX8_toll_132 ?_
          refine J_iload (i := 9) dX8_toll_133 rfl ?_
          refine J_iconst (v := (1 : Int32)) dX8_toll_135 (by decide) ?_
          refine J_iadd dX8_toll_136 ?_
          refine J_i2l dX8_toll_137 ?_
          refine J_ldiv dX8_toll_138 ?_
          refine J_lstoreN (i := 5) (LS := fun y32 => [some (.ref 53), some (.int a1), some (.int a2), some (.long y31), none, some (.long y32), none, some (.long y15), none, some (.int x16), none, none, none]) dX8_toll_139 (fun _ => rfl) (by decide) (fun y32 => ?_)
          refine J_lload (i := 7) dX8_toll_141 rfl ?_
          refine J_iload (i := 9) dX8_toll_143 rfl ?_
          refine J_aload_n (i := 0) dX8_toll_145 rfl rfl ?_
          refine J_getI dX8_toll_146 fl_RX8_219 sh_53_23 ?_
          refine J_icmp_ge (tgt := 158) dX8_toll_149 (by decide) (fun c33 => ?_) (fun c33 => ?_)
          · refine J_lconst (v := (1 : Int64)) dX8_toll_158 (by decide) ?_
            refine J_sub (l1 := [some (.ref 53), some (.int a1), some (.int a2), some (.long y31), none, some (.long y32), none, none, none, some (.int x16), none, none, none]) ⟨rfl, ⟨rfl, ⟨rfl, ⟨rfl, ⟨rfl, ⟨rfl, trivial⟩⟩⟩⟩⟩⟩ ?_
            exact hj28 y31 y32 y15 (1 : Int64)
          · refine J_ldc2 (v := (20 : Int64)) dX8_toll_152 kw_RX8_83 ?_
            refine J_goto (tgt := 159) dX8_toll_155 (by decide) ?_
            refine J_sub (l1 := [some (.ref 53), some (.int a1), some (.int a2), some (.long y31), none, some (.long y32), none, none, none, some (.int x16), none, none, none]) ⟨rfl, ⟨rfl, ⟨rfl, ⟨rfl, ⟨rfl, ⟨rfl, trivial⟩⟩⟩⟩⟩⟩ ?_
            exact hj28 y31 y32 y15 (20 : Int64)
        refine J_lload_n (i := 3) dX8_toll_107 rfl rfl ?_
        refine J_iload (i := 9) dX8_toll_108 rfl ?_
        refine J_iload_n (i := 2) dX8_toll_110 rfl rfl ?_
        refine J_icmp_gt (tgt := 119) dX8_toll_111 (by decide) (fun c34 => ?_) (fun c34 => ?_)
        · refine J_lconst (v := (0 : Int64)) dX8_toll_119 (by decide) ?_
          refine J_sub (l1 := [some (.ref 53), some (.int a1), some (.int a2), none, none, some (.long y14), none, some (.long y15), none, some (.int x16), none, none, none]) ⟨rfl, ⟨rfl, ⟨rfl, ⟨rfl, ⟨rfl, ⟨rfl, trivial⟩⟩⟩⟩⟩⟩ ?_
          exact hj23 y13 (0 : Int64)
        · refine J_lload (i := 10) dX8_toll_114 rfl ?_
          refine J_goto (tgt := 120) dX8_toll_116 (by decide) ?_
          refine J_sub (l1 := [some (.ref 53), some (.int a1), some (.int a2), none, none, some (.long y14), none, some (.long y15), none, some (.int x16), none, none, none]) ⟨rfl, ⟨rfl, ⟨rfl, ⟨rfl, ⟨rfl, ⟨rfl, trivial⟩⟩⟩⟩⟩⟩ ?_
          exact hj23 y13 y19
      refine J_sub (l1 := [some (.ref 53), some (.int a1), some (.int a2), some (.long y13), none, some (.long y14), none, some (.long y15), none, some (.int x16), some (.long y14), none, some (.int (0 : Int32))]) ⟨rfl, ⟨rfl, ⟨rfl, ⟨rfl, ⟨rfl, ⟨rfl, ⟨rfl, ⟨rfl, ⟨rfl, trivial⟩⟩⟩⟩⟩⟩⟩⟩⟩ ?_
      exact lp_X8_toll_70_ok l N  a1 r7 x16 k20 a2 y13 y14 y15 hk20 N y14 (0 : Int32)
set_option maxRecDepth 100000 in
set_option maxHeartbeats 4000000 in
theorem con_X8_toll (l : Launch) (N : Nat) (a1 : Int32) (a2 : Int32) (s0 : jM) : Con l (9) yX8_toll cX8_toll 13 (Option.some Jvm.ClassFile.FieldType.int) (eIM SH) SH [.ref 53, .int a1, .int a2] s0 (f_X8_toll N a1 a2 s0) := by
  refine Con_of (ls0 := [some (.ref 53), some (.int a1), some (.int a2), none, none, none, none, none, none, none, none, none, none]) (ini := false) (mc := 0) (ms := 0) (by decide +kernel) rfl (Nat.le_of_ble_eq_true rfl) (fun h => by cases h) (fun _ _ => rfl) ?_
  unfold f_X8_toll
  refine J_join (P := fun j => ∀ (_ : Unit), J l RX8 cX8_toll 13 (Option.some Jvm.ClassFile.FieldType.int) false (rmD (9) 0 0) noCx (eIM SH) SH 0 0 s0 24 [some (.ref 53), none, none, none, none, none, none, none, none, none, none, none, none] [] (j ())) ?_ (fun j1 hj1 => ?_)
  · intro _
    refine J_aload_n (i := 0) dX8_toll_24 rfl rfl ?_
    refine J_bipush (v := (-2 : Int32)) dX8_toll_25 (by decide) ?_
    refine J_callVIM 53 [.int (-2 : Int32)] dX8_toll_27 ca_X8_bad lk_RX8_87 vi_X8_bad rc_53 rfl rfl ⟨by show _ ≤ _; simp only [rmD]; omega, by show _ ≤ _; simp only [rmD]; omega⟩ (Nat.le_of_ble_eq_true rfl) ⟨Nat.zero_le _, Nat.zero_le _⟩ (con_X8_bad l _ _) (fun r2 _ => ?_)
    exact J_ireturn dX8_toll_30 rfl rfl rfl
  refine J_iload_n (i := 1) dX8_toll_0 rfl rfl ?_
  refine J_i2l dX8_toll_1 ?_
  refine J_lconst (v := (0 : Int64)) dX8_toll_2 (by decide) ?_
  refine J_ldc2 (v := (20 : Int64)) dX8_toll_3 kw_RX8_83 ?_
  refine J_callSI [.long (Int32.toInt64 a1), .long (0 : Int64), .long (20 : Int64)] dX8_toll_6 ca_X8_in lk_RX8_74 st_X8_in rfl rfl ⟨by show _ ≤ _; simp only [rmD]; omega, by show _ ≤ _; simp only [rmD]; omega⟩ (Nat.le_of_ble_eq_true rfl) ⟨Nat.zero_le _, Nat.zero_le _⟩ (con_X8_in l _ _ _ _) (fun r3 _ => ?_)
  refine J_if_eq (tgt := 24) dX8_toll_9 (by decide) (fun c4 => ?_) (fun c4 => ?_)
  · refine J_sub (l1 := [some (.ref 53), none, none, none, none, none, none, none, none, none, none, none, none]) ⟨rfl, trivial⟩ ?_
    exact hj1 ()
  · refine J_iload_n (i := 2) dX8_toll_12 rfl rfl ?_
    refine J_i2l dX8_toll_13 ?_
    refine J_lconst (v := (0 : Int64)) dX8_toll_14 (by decide) ?_
    refine J_ldc2 (v := (8 : Int64)) dX8_toll_15 kw_RX8_230 ?_
    refine J_callSI [.long (Int32.toInt64 a2), .long (0 : Int64), .long (8 : Int64)] dX8_toll_18 ca_X8_in lk_RX8_74 st_X8_in rfl rfl ⟨by show _ ≤ _; simp only [rmD]; omega, by show _ ≤ _; simp only [rmD]; omega⟩ (Nat.le_of_ble_eq_true rfl) ⟨Nat.zero_le _, Nat.zero_le _⟩ (con_X8_in l _ _ _ _) (fun r5 _ => ?_)
    refine J_if_ne (tgt := 31) dX8_toll_21 (by decide) (fun c6 => ?_) (fun c6 => ?_)
    · refine J_aload_n (i := 0) dX8_toll_31 rfl rfl ?_
      refine J_callVIM 53 [] dX8_toll_32 ca_X8_layRow lk_RX8_227 vi_X8_layRow rc_53 rfl rfl ⟨by show _ ≤ _; simp only [rmD]; omega, by show _ ≤ _; simp only [rmD]; omega⟩ (Nat.le_of_ble_eq_true rfl) ⟨Nat.zero_le _, Nat.zero_le _⟩ (con_X8_layRow l N _) (fun r7 _ => ?_)
      refine J_if_ne (tgt := 43) dX8_toll_35 (by decide) (fun c8 => ?_) (fun c8 => ?_)
      · refine J_lconst (v := (0 : Int64)) dX8_toll_43 (by decide) ?_
        refine J_lstore_n (i := 3) (ls2 := [some (.ref 53), some (.int a1), some (.int a2), some (.long (0 : Int64)), none, none, none, none, none, none, none, none, none]) dX8_toll_44 rfl rfl (by decide) ?_
        refine J_lconst (v := (1 : Int64)) dX8_toll_45 (by decide) ?_
        refine J_lstore (i := 5) (ls2 := [some (.ref 53), some (.int a1), some (.int a2), some (.long (0 : Int64)), none, some (.long (1 : Int64)), none, none, none, none, none, none, none]) dX8_toll_46 rfl (by decide) ?_
        refine J_lconst (v := (1 : Int64)) dX8_toll_48 (by decide) ?_
        refine J_lstore (i := 7) (ls2 := [some (.ref 53), some (.int a1), some (.int a2), some (.long (0 : Int64)), none, some (.long (1 : Int64)), none, some (.long (1 : Int64)), none, none, none, none, none]) dX8_toll_49 rfl (by decide) ?_
        refine J_iconst (v := (0 : Int32)) dX8_toll_51 (by decide) ?_
        refine J_istore (i := 9) (ls2 := [some (.ref 53), some (.int a1), some (.int a2), some (.long (0 : Int64)), none, some (.long (1 : Int64)), none, some (.long (1 : Int64)), none, some (.int (0 : Int32)), none, none, none]) dX8_toll_52 rfl (by decide) ?_
        refine J_join (P := fun j => ∀ (y9 : Int64) (y10 : Int64), J l RX8 cX8_toll 13 (Option.some Jvm.ClassFile.FieldType.int) false (rmD (9) 0 0) noCx (eIM SH) SH 0 0 r7.2 168 [some (.ref 53), none, none, some (.long y9), none, none, none, some (.long y10), none, none, none, none, none] [] (j y9 y10)) ?_ (fun k11 hk11 => ?_)
        · intro y9 y10
          refine J_aload_n (i := 0) dX8_toll_168 rfl rfl ?_
          refine J_lload_n (i := 3) dX8_toll_169 rfl rfl ?_
          refine J_lload (i := 7) dX8_toll_170 rfl ?_
          refine J_callVIM 53 [.long y9, .long y10] dX8_toll_172 ca_X8_tells lk_RX8_235 vi_X8_tells rc_53 rfl rfl ⟨by show _ ≤ _; simp only [rmD]; omega, by show _ ≤ _; simp only [rmD]; omega⟩ (Nat.le_of_ble_eq_true rfl) ⟨Nat.zero_le _, Nat.zero_le _⟩ (con_X8_tells l N _ _ _) (fun r12 _ => ?_)
          exact J_ireturn dX8_toll_175 rfl rfl rfl
        refine J_sub (l1 := [some (.ref 53), some (.int a1), some (.int a2), some (.long (0 : Int64)), none, some (.long (1 : Int64)), none, some (.long (1 : Int64)), none, some (.int (0 : Int32)), none, none, none]) ⟨rfl, ⟨rfl, ⟨rfl, ⟨rfl, ⟨rfl, ⟨rfl, ⟨rfl, trivial⟩⟩⟩⟩⟩⟩⟩ ?_
        exact lp_X8_toll_54_ok l N  a1 a2 r7 k11 hk11 N (0 : Int64) (1 : Int64) (1 : Int64) (0 : Int32)
      · refine J_aload_n (i := 0) dX8_toll_38 rfl rfl ?_
        refine J_callVIM 53 [] dX8_toll_39 ca_X8_no lk_RX8_232 vi_X8_no rc_53 rfl rfl ⟨by show _ ≤ _; simp only [rmD]; omega, by show _ ≤ _; simp only [rmD]; omega⟩ (Nat.le_of_ble_eq_true rfl) ⟨Nat.zero_le _, Nat.zero_le _⟩ (con_X8_no l _) (fun r45 _ => ?_)
        exact J_ireturn dX8_toll_42 rfl rfl rfl
    · refine J_sub (l1 := [some (.ref 53), none, none, none, none, none, none, none, none, none, none, none, none]) ⟨rfl, trivial⟩ ?_
      exact hj1 ()

def f_X8_doubt (a1 : Int32) (a2 : Int32) (s0 : jM) : Option (Int32 × jM) := jn_ (fun (_ : Unit) => Option.bind (f_X8_bad (-2 : Int32) s0) fun r2 => some (r2.1, r2.2)) fun j1 => Option.bind (f_X8_isWalker a1 s0) fun r3 => if r3 = 0 then (j1 ()) else (Option.bind (f_X8_in (Int32.toInt64 a2) (0 : Int64) (10 : Int64)) fun r5 => if r5 = 0 then (j1 ()) else (Option.bind (f_X8_of a1 (3 : Int32) s0) fun r7 => gd (ib (((0 : Int32) + ((4 : Int32) * a1)) + (3 : Int32)) 101) <| lt_ (pI s0 54 (Int32.toNatClampNeg (((0 : Int32) + ((4 : Int32) * a1)) + (3 : Int32))) a2) fun s8 => some (r7, s8)))
set_option maxRecDepth 100000 in
set_option maxHeartbeats 4000000 in
theorem con_X8_doubt (l : Launch) (a1 : Int32) (a2 : Int32) (s0 : jM) : Con l (3) yX8_doubt cX8_doubt 4 (Option.some Jvm.ClassFile.FieldType.int) (eIM SH) SH [.ref 53, .int a1, .int a2] s0 (f_X8_doubt a1 a2 s0) := by
  refine Con_of (ls0 := [some (.ref 53), some (.int a1), some (.int a2), none]) (ini := false) (mc := 0) (ms := 0) (by decide +kernel) rfl (Nat.le_of_ble_eq_true rfl) (fun h => by cases h) (fun _ _ => rfl) ?_
  unfold f_X8_doubt
  refine J_join (P := fun j => ∀ (_ : Unit), J l RX8 cX8_doubt 4 (Option.some Jvm.ClassFile.FieldType.int) false (rmD (3) 0 0) noCx (eIM SH) SH 0 0 s0 20 [some (.ref 53), none, none, none] [] (j ())) ?_ (fun j1 hj1 => ?_)
  · intro _
    refine J_aload_n (i := 0) dX8_doubt_20 rfl rfl ?_
    refine J_bipush (v := (-2 : Int32)) dX8_doubt_21 (by decide) ?_
    refine J_callVIM 53 [.int (-2 : Int32)] dX8_doubt_23 ca_X8_bad lk_RX8_87 vi_X8_bad rc_53 rfl rfl ⟨by show _ ≤ _; simp only [rmD]; omega, by show _ ≤ _; simp only [rmD]; omega⟩ (Nat.le_of_ble_eq_true rfl) ⟨Nat.zero_le _, Nat.zero_le _⟩ (con_X8_bad l _ _) (fun r2 _ => ?_)
    exact J_ireturn dX8_doubt_26 rfl rfl rfl
  refine J_aload_n (i := 0) dX8_doubt_0 rfl rfl ?_
  refine J_iload_n (i := 1) dX8_doubt_1 rfl rfl ?_
  refine J_callVI 53 [.int a1] dX8_doubt_2 ca_X8_isWalker lk_RX8_203 vi_X8_isWalker rc_53 rfl rfl ⟨by show _ ≤ _; simp only [rmD]; omega, by show _ ≤ _; simp only [rmD]; omega⟩ (Nat.le_of_ble_eq_true rfl) ⟨Nat.zero_le _, Nat.zero_le _⟩ (con_X8_isWalker l _ _) (fun r3 _ => ?_)
  refine J_if_eq (tgt := 20) dX8_doubt_5 (by decide) (fun c4 => ?_) (fun c4 => ?_)
  · refine J_sub (l1 := [some (.ref 53), none, none, none]) ⟨rfl, trivial⟩ ?_
    exact hj1 ()
  · refine J_iload_n (i := 2) dX8_doubt_8 rfl rfl ?_
    refine J_i2l dX8_doubt_9 ?_
    refine J_lconst (v := (0 : Int64)) dX8_doubt_10 (by decide) ?_
    refine J_ldc2 (v := (10 : Int64)) dX8_doubt_11 kw_RX8_146 ?_
    refine J_callSI [.long (Int32.toInt64 a2), .long (0 : Int64), .long (10 : Int64)] dX8_doubt_14 ca_X8_in lk_RX8_74 st_X8_in rfl rfl ⟨by show _ ≤ _; simp only [rmD]; omega, by show _ ≤ _; simp only [rmD]; omega⟩ (Nat.le_of_ble_eq_true rfl) ⟨Nat.zero_le _, Nat.zero_le _⟩ (con_X8_in l _ _ _ _) (fun r5 _ => ?_)
    refine J_if_ne (tgt := 27) dX8_doubt_17 (by decide) (fun c6 => ?_) (fun c6 => ?_)
    · refine J_aload_n (i := 0) dX8_doubt_27 rfl rfl ?_
      refine J_iload_n (i := 1) dX8_doubt_28 rfl rfl ?_
      refine J_iconst (v := (3 : Int32)) dX8_doubt_29 (by decide) ?_
      refine J_callVI 53 [.int a1, .int (3 : Int32)] dX8_doubt_30 ca_X8_of lk_RX8_96 vi_X8_of rc_53 rfl rfl ⟨by show _ ≤ _; simp only [rmD]; omega, by show _ ≤ _; simp only [rmD]; omega⟩ (Nat.le_of_ble_eq_true rfl) ⟨Nat.zero_le _, Nat.zero_le _⟩ (con_X8_of l _ _ _) (fun r7 _ => ?_)
      refine J_istore_n (i := 3) (ls2 := [some (.ref 53), some (.int a1), some (.int a2), some (.int r7)]) dX8_doubt_33 rfl rfl (by decide) ?_
      refine J_aload_n (i := 0) dX8_doubt_34 rfl rfl ?_
      refine J_getR dX8_doubt_35 fl_RX8_7 sh_53_0 ?_
      refine J_iconst (v := (0 : Int32)) dX8_doubt_38 (by decide) ?_
      refine J_iconst (v := (4 : Int32)) dX8_doubt_39 (by decide) ?_
      refine J_iload_n (i := 1) dX8_doubt_40 rfl rfl ?_
      refine J_imul dX8_doubt_41 ?_
      refine J_iadd dX8_doubt_42 ?_
      refine J_iconst (v := (3 : Int32)) dX8_doubt_43 (by decide) ?_
      refine J_iadd dX8_doubt_44 ?_
      refine J_iload_n (i := 2) dX8_doubt_45 rfl rfl ?_
      refine J_iast dX8_doubt_46 sa_54 ?_
      refine J_letM rfl (fun s8 => ?_)
      refine J_iload_n (i := 3) dX8_doubt_47 rfl rfl ?_
      exact J_ireturn dX8_doubt_48 rfl rfl rfl
    · refine J_sub (l1 := [some (.ref 53), none, none, none]) ⟨rfl, trivial⟩ ?_
      exact hj1 ()

def lp_X8_odd_23 (N : Nat) (s0 : jM) (a1 : Int32) (k5 : Int64 → Int64 → Option (Int32 × jM)) : Nat → Int64 → Int64 → Int32 → Option (Int32 × jM)
  | 0, _, _, _ => none
  | q + 1, y7, y8, x9 => Option.bind (f_X8_walkers s0) fun r11 => if r11 ≤ x9 then (k5 y7 y8) else (jn_ (fun (y13 : Int64) (y14 : Int64) => lt_ (x9 + (1 : Int32)) fun x16 => lp_X8_odd_23 N s0 a1 k5 q y13 y14 x16) fun j15 => if ((a1 >>> (x9 &&& 31)) &&& (1 : Int32)) = (1 : Int32) then (Option.bind (f_X8_of x9 (3 : Int32) s0) fun r18 => lt_ ((y7 * (Int32.toInt64 ((10 : Int32) - r18))) + (y8 * (Int32.toInt64 r18))) fun y19 => lt_ ((y8 * (Int32.toInt64 ((10 : Int32) - r18))) + (y7 * (Int32.toInt64 r18))) fun y20 => j15 y19 y20) else (j15 y7 y8))
def f_X8_odd (N : Nat) (a1 : Int32) (s0 : jM) : Option (Int32 × jM) := Option.bind (f_X8_isSet a1 s0) fun r1 => if r1 = 0 then (Option.bind (f_X8_bad (-2 : Int32) s0) fun r21 => some (r21.1, r21.2)) else (jn_ (fun (y3 : Int64) (y4 : Int64) => Option.bind (f_X8_tells N y3 (y3 + y4) s0) fun r6 => some (r6.1, r6.2)) fun k5 => lp_X8_odd_23 N s0 a1 k5 N (0 : Int64) (1 : Int64) (0 : Int32))
set_option maxRecDepth 100000 in
set_option maxHeartbeats 4000000 in
theorem lp_X8_odd_23_ok (l : Launch) (N : Nat)  (s0 : jM) (a1 : Int32) (k5 : Int64 → Int64 → Option (Int32 × jM)) (hk5 : ∀ (y3 : Int64) (y4 : Int64), J l RX8 cX8_odd 10 (Option.some Jvm.ClassFile.FieldType.int) false (rmD (4) 0 0) noCx (eIM SH) SH 0 0 s0 94 [some (.ref 53), none, some (.long y3), none, some (.long y4), none, none, none, none, none] [] (k5 y3 y4)) : ∀ (q : Nat) (y7 : Int64) (y8 : Int64) (x9 : Int32), J l RX8 cX8_odd 10 (Option.some Jvm.ClassFile.FieldType.int) false (rmD (4) 0 0) noCx (eIM SH) SH 0 0 s0 23 [some (.ref 53), some (.int a1), some (.long y7), none, some (.long y8), none, some (.int x9), none, none, none] [] (lp_X8_odd_23 N s0 a1 k5 q y7 y8 x9) := by
  intro q
  induction q with
  | zero => intro y7 y8 x9; exact J_none
  | succ q hrec10 =>
    intro y7 y8 x9
    rw [lp_X8_odd_23]
    refine J_iload (i := 6) dX8_odd_23 rfl ?_
    refine J_aload_n (i := 0) dX8_odd_25 rfl rfl ?_
    refine J_callVI 53 [] dX8_odd_26 ca_X8_walkers lk_RX8_70 vi_X8_walkers rc_53 rfl rfl ⟨by show _ ≤ _; simp only [rmD]; omega, by show _ ≤ _; simp only [rmD]; omega⟩ (Nat.le_of_ble_eq_true rfl) ⟨Nat.zero_le _, Nat.zero_le _⟩ (con_X8_walkers l _) (fun r11 _ => ?_)
    refine J_icmp_ge (tgt := 94) dX8_odd_29 (by decide) (fun c12 => ?_) (fun c12 => ?_)
    · refine J_sub (l1 := [some (.ref 53), none, some (.long y7), none, some (.long y8), none, none, none, none, none]) ⟨rfl, ⟨rfl, ⟨rfl, trivial⟩⟩⟩ ?_
      exact hk5 y7 y8
    · refine J_join (P := fun j => ∀ (y13 : Int64) (y14 : Int64), J l RX8 cX8_odd 10 (Option.some Jvm.ClassFile.FieldType.int) false (rmD (4) 0 0) noCx (eIM SH) SH 0 0 s0 88 [some (.ref 53), some (.int a1), some (.long y13), none, some (.long y14), none, some (.int x9), none, none, none] [] (j y13 y14)) ?_ (fun j15 hj15 => ?_)
      · intro y13 y14
        refine J_iincN (i := 6) (v := x9 + (1 : Int32)) (LS := fun x16 => [some (.ref 53), some (.int a1), some (.long y13), none, some (.long y14), none, some (.int x16), none, none, none]) dX8_odd_88 rfl (by first | rfl | decide) (fun _ => rfl) (by decide) (fun x16 => ?_)
        refine J_goto (tgt := 23) dX8_odd_91 (by decide) ?_
        refine J_sub (l1 := [some (.ref 53), some (.int a1), some (.long y13), none, some (.long y14), none, some (.int x16), none, none, none]) ⟨rfl, ⟨rfl, ⟨rfl, ⟨rfl, ⟨rfl, trivial⟩⟩⟩⟩⟩ ?_
        exact hrec10 y13 y14 x16
      refine J_iload_n (i := 1) dX8_odd_32 rfl rfl ?_
      refine J_iload (i := 6) dX8_odd_33 rfl ?_
      refine J_ishr dX8_odd_35 ?_
      refine J_iconst (v := (1 : Int32)) dX8_odd_36 (by decide) ?_
      refine J_iand dX8_odd_37 ?_
      refine J_iconst (v := (1 : Int32)) dX8_odd_38 (by decide) ?_
      refine J_icmp_ne (tgt := 88) dX8_odd_39 (by decide) (fun c17 => ?_) (fun c17 => ?_)
      · refine J_sub (l1 := [some (.ref 53), some (.int a1), some (.long y7), none, some (.long y8), none, some (.int x9), none, none, none]) ⟨rfl, ⟨rfl, ⟨rfl, ⟨rfl, ⟨rfl, trivial⟩⟩⟩⟩⟩ ?_
        exact hj15 y7 y8
      · refine J_aload_n (i := 0) dX8_odd_42 rfl rfl ?_
        refine J_iload (i := 6) dX8_odd_43 rfl ?_
        refine J_iconst (v := (3 : Int32)) dX8_odd_45 (by decide) ?_
        refine J_callVI 53 [.int x9, .int (3 : Int32)] dX8_odd_46 ca_X8_of lk_RX8_96 vi_X8_of rc_53 rfl rfl ⟨by show _ ≤ _; simp only [rmD]; omega, by show _ ≤ _; simp only [rmD]; omega⟩ (Nat.le_of_ble_eq_true rfl) ⟨Nat.zero_le _, Nat.zero_le _⟩ (con_X8_of l _ _ _) (fun r18 _ => ?_)
        refine J_istore (i := 7) (ls2 := [some (.ref 53), some (.int a1), some (.long y7), none, some (.long y8), none, some (.int x9), some (.int r18), none, none]) dX8_odd_49 rfl (by decide) ?_
        refine J_lload_n (i := 2) dX8_odd_51 rfl rfl ?_
        refine J_bipush (v := (10 : Int32)) dX8_odd_52 (by decide) ?_
        refine J_iload (i := 7) dX8_odd_54 rfl ?_
        refine J_isub dX8_odd_56 ?_
        refine J_i2l dX8_odd_57 ?_
        refine J_lmul dX8_odd_58 ?_
        refine J_lload (i := 4) dX8_odd_59 rfl ?_
        refine J_iload (i := 7) dX8_odd_61 rfl ?_
        refine J_i2l dX8_odd_63 ?_
        refine J_lmul dX8_odd_64 ?_
        refine J_ladd dX8_odd_65 ?_
        refine J_lstoreN (i := 8) (LS := fun y19 => [some (.ref 53), some (.int a1), some (.long y7), none, some (.long y8), none, some (.int x9), some (.int r18), some (.long y19), none]) dX8_odd_66 (fun _ => rfl) (by decide) (fun y19 => ?_)
        refine J_lload (i := 4) dX8_odd_68 rfl ?_
        refine J_bipush (v := (10 : Int32)) dX8_odd_70 (by decide) ?_
        refine J_iload (i := 7) dX8_odd_72 rfl ?_
        refine J_isub dX8_odd_74 ?_
        refine J_i2l dX8_odd_75 ?_
        refine J_lmul dX8_odd_76 ?_
        refine J_lload_n (i := 2) dX8_odd_77 rfl rfl ?_
        refine J_iload (i := 7) dX8_odd_78 rfl ?_
        refine J_i2l dX8_odd_80 ?_
        refine J_lmul dX8_odd_81 ?_
        refine J_ladd dX8_odd_82 ?_
        refine J_lstoreN (i := 4) (LS := fun y20 => [some (.ref 53), some (.int a1), some (.long y7), none, some (.long y20), none, some (.int x9), some (.int r18), some (.long y19), none]) dX8_odd_83 (fun _ => rfl) (by decide) (fun y20 => ?_)
        refine J_lload (i := 8) dX8_odd_85 rfl ?_
        refine J_lstore_n (i := 2) (ls2 := [some (.ref 53), some (.int a1), some (.long y19), none, some (.long y20), none, some (.int x9), some (.int r18), some (.long y19), none]) dX8_odd_87 rfl rfl (by decide) ?_
        refine J_sub (l1 := [some (.ref 53), some (.int a1), some (.long y19), none, some (.long y20), none, some (.int x9), none, none, none]) ⟨rfl, ⟨rfl, ⟨rfl, ⟨rfl, ⟨rfl, trivial⟩⟩⟩⟩⟩ ?_
        exact hj15 y19 y20
set_option maxRecDepth 100000 in
set_option maxHeartbeats 4000000 in
theorem con_X8_odd (l : Launch) (N : Nat) (a1 : Int32) (s0 : jM) : Con l (4) yX8_odd cX8_odd 10 (Option.some Jvm.ClassFile.FieldType.int) (eIM SH) SH [.ref 53, .int a1] s0 (f_X8_odd N a1 s0) := by
  refine Con_of (ls0 := [some (.ref 53), some (.int a1), none, none, none, none, none, none, none, none]) (ini := false) (mc := 0) (ms := 0) (by decide +kernel) rfl (Nat.le_of_ble_eq_true rfl) (fun h => by cases h) (fun _ _ => rfl) ?_
  unfold f_X8_odd
  refine J_aload_n (i := 0) dX8_odd_0 rfl rfl ?_
  refine J_iload_n (i := 1) dX8_odd_1 rfl rfl ?_
  refine J_callVI 53 [.int a1] dX8_odd_2 ca_X8_isSet lk_RX8_103 vi_X8_isSet rc_53 rfl rfl ⟨by show _ ≤ _; simp only [rmD]; omega, by show _ ≤ _; simp only [rmD]; omega⟩ (Nat.le_of_ble_eq_true rfl) ⟨Nat.zero_le _, Nat.zero_le _⟩ (con_X8_isSet l _ _) (fun r1 _ => ?_)
  refine J_if_ne (tgt := 15) dX8_odd_5 (by decide) (fun c2 => ?_) (fun c2 => ?_)
  · refine J_lconst (v := (0 : Int64)) dX8_odd_15 (by decide) ?_
    refine J_lstore_n (i := 2) (ls2 := [some (.ref 53), some (.int a1), some (.long (0 : Int64)), none, none, none, none, none, none, none]) dX8_odd_16 rfl rfl (by decide) ?_
    refine J_lconst (v := (1 : Int64)) dX8_odd_17 (by decide) ?_
    refine J_lstore (i := 4) (ls2 := [some (.ref 53), some (.int a1), some (.long (0 : Int64)), none, some (.long (1 : Int64)), none, none, none, none, none]) dX8_odd_18 rfl (by decide) ?_
    refine J_iconst (v := (0 : Int32)) dX8_odd_20 (by decide) ?_
    refine J_istore (i := 6) (ls2 := [some (.ref 53), some (.int a1), some (.long (0 : Int64)), none, some (.long (1 : Int64)), none, some (.int (0 : Int32)), none, none, none]) dX8_odd_21 rfl (by decide) ?_
    refine J_join (P := fun j => ∀ (y3 : Int64) (y4 : Int64), J l RX8 cX8_odd 10 (Option.some Jvm.ClassFile.FieldType.int) false (rmD (4) 0 0) noCx (eIM SH) SH 0 0 s0 94 [some (.ref 53), none, some (.long y3), none, some (.long y4), none, none, none, none, none] [] (j y3 y4)) ?_ (fun k5 hk5 => ?_)
    · intro y3 y4
      refine J_aload_n (i := 0) dX8_odd_94 rfl rfl ?_
      refine J_lload_n (i := 2) dX8_odd_95 rfl rfl ?_
      refine J_lload_n (i := 2) dX8_odd_96 rfl rfl ?_
      refine J_lload (i := 4) dX8_odd_97 rfl ?_
      refine J_ladd dX8_odd_99 ?_
      refine J_callVIM 53 [.long y3, .long (y3 + y4)] dX8_odd_100 ca_X8_tells lk_RX8_235 vi_X8_tells rc_53 rfl rfl ⟨by show _ ≤ _; simp only [rmD]; omega, by show _ ≤ _; simp only [rmD]; omega⟩ (Nat.le_of_ble_eq_true rfl) ⟨Nat.zero_le _, Nat.zero_le _⟩ (con_X8_tells l N _ _ _) (fun r6 _ => ?_)
      exact J_ireturn dX8_odd_103 rfl rfl rfl
    refine J_sub (l1 := [some (.ref 53), some (.int a1), some (.long (0 : Int64)), none, some (.long (1 : Int64)), none, some (.int (0 : Int32)), none, none, none]) ⟨rfl, ⟨rfl, ⟨rfl, ⟨rfl, ⟨rfl, trivial⟩⟩⟩⟩⟩ ?_
    exact lp_X8_odd_23_ok l N  s0 a1 k5 hk5 N (0 : Int64) (1 : Int64) (0 : Int32)
  · refine J_aload_n (i := 0) dX8_odd_8 rfl rfl ?_
    refine J_bipush (v := (-2 : Int32)) dX8_odd_9 (by decide) ?_
    refine J_callVIM 53 [.int (-2 : Int32)] dX8_odd_11 ca_X8_bad lk_RX8_87 vi_X8_bad rc_53 rfl rfl ⟨by show _ ≤ _; simp only [rmD]; omega, by show _ ≤ _; simp only [rmD]; omega⟩ (Nat.le_of_ble_eq_true rfl) ⟨Nat.zero_le _, Nat.zero_le _⟩ (con_X8_bad l _ _) (fun r21 _ => ?_)
    exact J_ireturn dX8_odd_14 rfl rfl rfl

def lp_X8_home_105 (N : Nat) (x15 : Int32) (k20 : jM → Option (Int32 × jM)) : Nat → Int32 → jM → Option (Int32 × jM)
  | 0, _, _ => none
  | q + 1, x22, s23 => if (40 : Int32) ≤ x22 then (k20 s23) else (jn_ (fun (x26 : Int32) (x27 : Int32) (s28 : jM) => gd (ib x26 40) <| lt_ (pI s28 70 (Int32.toNatClampNeg x26) x27) fun s30 => lt_ (x22 + (1 : Int32)) fun x31 => lp_X8_home_105 N x15 k20 q x31 s30) fun j29 => gd (ib x22 40) <| gd (ib (x22 - x15) 40) <| gd (ib x22 40) <| lt_ (pI s23 69 (Int32.toNatClampNeg x22) ((gI s23 69 (Int32.toNatClampNeg x22)) + (gI s23 69 (Int32.toNatClampNeg (x22 - x15))))) fun s32 => gd (ib (x22 - x15) 40) <| gd (ib x22 40) <| if (gI s32 70 (Int32.toNatClampNeg x22)) ≤ ((gI s32 70 (Int32.toNatClampNeg (x22 - x15))) + (1 : Int32)) then (gd (ib x22 40) <| j29 x22 (gI s32 70 (Int32.toNatClampNeg x22)) s32) else (gd (ib (x22 - x15) 40) <| j29 x22 ((gI s32 70 (Int32.toNatClampNeg (x22 - x15))) + (1 : Int32)) s32))
def lp_X8_home_95 (N : Nat) (a2 : Int32) (k12 : jM → Option (Int32 × jM)) : Nat → Int32 → jM → Option (Int32 × jM)
  | 0, _, _ => none
  | q + 1, x15, s16 => if a2 < x15 then (k12 s16) else (jn_ (fun (s19 : jM) => lt_ (x15 + (2 : Int32)) fun x21 => lp_X8_home_95 N a2 k12 q x21 s19) fun k20 => lp_X8_home_105 N x15 k20 N x15 s16)
def lp_X8_home_44 (N : Nat) (k10 : jM → Option (Int32 × jM)) : Nat → Int32 → jM → Option (Int32 × jM)
  | 0, _, _ => none
  | q + 1, x34, s35 => if (40 : Int32) ≤ x34 then (k10 s35) else (jn_ (fun (x38 : Int32) (x39 : Int32) => jn_ (fun (x41 : Int32) (x42 : Int32) (s43 : jM) => gd (ib x41 40) <| lt_ (pI s43 70 (Int32.toNatClampNeg x41) x42) fun s45 => lt_ (x34 + (1 : Int32)) fun x46 => lp_X8_home_44 N k10 q x46 s45) fun j44 => gd (ib x38 40) <| lt_ (pI s35 69 (Int32.toNatClampNeg x38) x39) fun s47 => if x34 = 0 then (j44 x34 (0 : Int32) s47) else (j44 x34 (1000000 : Int32) s47)) fun j40 => if x34 = 0 then (j40 x34 (1 : Int32)) else (j40 x34 (0 : Int32)))
def f_X8_home (N : Nat) (a1 : Int32) (a2 : Int32) (a3 : Int32) (s0 : jM) : Option (Int32 × jM) := jn_ (fun (_ : Unit) => Option.bind (f_X8_bad (-2 : Int32) s0) fun r2 => some (r2.1, r2.2)) fun j1 => Option.bind (f_X8_in (Int32.toInt64 a1) (1 : Int64) (40 : Int64)) fun r3 => if r3 = 0 then (j1 ()) else (Option.bind (f_X8_in (Int32.toInt64 a2) (1 : Int64) (20 : Int64)) fun r5 => if r5 = 0 then (j1 ()) else (Option.bind (f_X8_in (Int32.toInt64 a3) (0 : Int64) (1 : Int64)) fun r7 => if r7 = 0 then (j1 ()) else (jn_ (fun (s9 : jM) => jn_ (fun (s11 : jM) => if a3 = 0 then (gd (ib (a1 - (1 : Int32)) 40) <| some ((gI s11 69 (Int32.toNatClampNeg (a1 - (1 : Int32)))), s11)) else (gd (ib (a1 - (1 : Int32)) 40) <| if (gI s11 70 (Int32.toNatClampNeg (a1 - (1 : Int32)))) < (1000000 : Int32) then (gd (ib (a1 - (1 : Int32)) 40) <| some ((gI s11 70 (Int32.toNatClampNeg (a1 - (1 : Int32)))), s11)) else (some ((-1 : Int32), s11)))) fun k12 => lp_X8_home_95 N a2 k12 N (1 : Int32) s9) fun k10 => lp_X8_home_44 N k10 N (0 : Int32) s0)))
set_option maxRecDepth 100000 in
set_option maxHeartbeats 4000000 in
theorem lp_X8_home_105_ok (l : Launch) (N : Nat)  (x15 : Int32) (k20 : jM → Option (Int32 × jM)) (a1 : Int32) (a2 : Int32) (a3 : Int32) (hk20 : ∀ (s19 : jM), J l RX8 cX8_home 6 (Option.some Jvm.ClassFile.FieldType.int) false (rmD (2) 0 0) noCx (eIM SH) SH 0 0 s19 189 [some (.ref 53), some (.int a1), some (.int a2), some (.int a3), some (.int x15), none] [] (k20 s19)) : ∀ (q : Nat) (x22 : Int32) (s23 : jM), J l RX8 cX8_home 6 (Option.some Jvm.ClassFile.FieldType.int) false (rmD (2) 0 0) noCx (eIM SH) SH 0 0 s23 105 [some (.ref 53), some (.int a1), some (.int a2), some (.int a3), some (.int x15), some (.int x22)] [] (lp_X8_home_105 N x15 k20 q x22 s23) := by
  intro q
  induction q with
  | zero => intro x22 s23; exact J_none
  | succ q hrec24 =>
    intro x22 s23
    rw [lp_X8_home_105]
    refine J_iload (i := 5) dX8_home_105 rfl ?_
    refine J_bipush (v := (40 : Int32)) dX8_home_107 (by decide) ?_
    refine J_icmp_ge (tgt := 189) dX8_home_109 (by decide) (fun c25 => ?_) (fun c25 => ?_)
    · refine J_sub (l1 := [some (.ref 53), some (.int a1), some (.int a2), some (.int a3), some (.int x15), none]) ⟨rfl, ⟨rfl, ⟨rfl, ⟨rfl, ⟨rfl, trivial⟩⟩⟩⟩⟩ ?_
      exact hk20 s23
    · refine J_join (P := fun j => ∀ (x26 : Int32) (x27 : Int32) (s28 : jM), J l RX8 cX8_home 6 (Option.some Jvm.ClassFile.FieldType.int) false (rmD (2) 0 0) noCx (eIM SH) SH 0 0 s28 182 [some (.ref 53), some (.int a1), some (.int a2), some (.int a3), some (.int x15), some (.int x22)] [.int x27, .int x26, .ref 70] (j x26 x27 s28)) ?_ (fun j29 hj29 => ?_)
      · intro x26 x27 s28
        refine J_iast dX8_home_182 sa_70 ?_
        refine J_letM rfl (fun s30 => ?_)
        refine J_iincN (i := 5) (v := x22 + (1 : Int32)) (LS := fun x31 => [some (.ref 53), some (.int a1), some (.int a2), some (.int a3), some (.int x15), some (.int x31)]) dX8_home_183 rfl (by first | rfl | decide) (fun _ => rfl) (by decide) (fun x31 => ?_)
        refine J_goto (tgt := 105) dX8_home_186 (by decide) ?_
        refine J_sub (l1 := [some (.ref 53), some (.int a1), some (.int a2), some (.int a3), some (.int x15), some (.int x31)]) ⟨rfl, ⟨rfl, ⟨rfl, ⟨rfl, ⟨rfl, ⟨rfl, trivial⟩⟩⟩⟩⟩⟩ ?_
        exact hrec24 x31 s30
      refine J_aload_n (i := 0) dX8_home_112 rfl rfl ?_
      refine J_getR dX8_home_113 fl_RX8_61 sh_53_25 ?_
      refine J_iload (i := 5) dX8_home_116 rfl ?_
      refine J_dup2_11 dX8_home_118 rfl rfl ?_
      refine J_iald dX8_home_119 sa_69 ?_
      refine J_aload_n (i := 0) dX8_home_120 rfl rfl ?_
      refine J_getR dX8_home_121 fl_RX8_61 sh_53_25 ?_
      refine J_iload (i := 5) dX8_home_124 rfl ?_
      refine J_iload (i := 4) dX8_home_126 rfl ?_
      refine J_isub dX8_home_128 ?_
      refine J_iald dX8_home_129 sa_69 ?_
      refine J_iadd dX8_home_130 ?_
      refine J_iast dX8_home_131 sa_69 ?_
      refine J_letM rfl (fun s32 => ?_)
      refine J_aload_n (i := 0) dX8_home_132 rfl rfl ?_
      refine J_getR dX8_home_133 fl_RX8_64 sh_53_26 ?_
      refine J_iload (i := 5) dX8_home_136 rfl ?_
      refine J_aload_n (i := 0) dX8_home_138 rfl rfl ?_
      refine J_getR dX8_home_139 fl_RX8_64 sh_53_26 ?_
      refine J_iload (i := 5) dX8_home_142 rfl ?_
      refine J_iload (i := 4) dX8_home_144 rfl ?_
      refine J_isub dX8_home_146 ?_
      refine J_iald dX8_home_147 sa_70 ?_
      refine J_iconst (v := (1 : Int32)) dX8_home_148 (by decide) ?_
      refine J_iadd dX8_home_149 ?_
      refine J_aload_n (i := 0) dX8_home_150 rfl rfl ?_
      refine J_getR dX8_home_151 fl_RX8_64 sh_53_26 ?_
      refine J_iload (i := 5) dX8_home_154 rfl ?_
      refine J_iald dX8_home_156 sa_70 ?_
      refine J_icmp_ge (tgt := 175) dX8_home_157 (by decide) (fun c33 => ?_) (fun c33 => ?_)
      · refine J_aload_n (i := 0) dX8_home_175 rfl rfl ?_
        refine J_getR dX8_home_176 fl_RX8_64 sh_53_26 ?_
        refine J_iload (i := 5) dX8_home_179 rfl ?_
        refine J_iald dX8_home_181 sa_70 ?_
        refine J_sub (l1 := [some (.ref 53), some (.int a1), some (.int a2), some (.int a3), some (.int x15), some (.int x22)]) ⟨rfl, ⟨rfl, ⟨rfl, ⟨rfl, ⟨rfl, ⟨rfl, trivial⟩⟩⟩⟩⟩⟩ ?_
        exact hj29 x22 (gI s32 70 (Int32.toNatClampNeg x22)) s32
      · refine J_aload_n (i := 0) dX8_home_160 rfl rfl ?_
        refine J_getR dX8_home_161 fl_RX8_64 sh_53_26 ?_
        refine J_iload (i := 5) dX8_home_164 rfl ?_
        refine J_iload (i := 4) dX8_home_166 rfl ?_
        refine J_isub dX8_home_168 ?_
        refine J_iald dX8_home_169 sa_70 ?_
        refine J_iconst (v := (1 : Int32)) dX8_home_170 (by decide) ?_
        refine J_iadd dX8_home_171 ?_
        refine J_goto (tgt := 182) dX8_home_172 (by decide) ?_
        refine J_sub (l1 := [some (.ref 53), some (.int a1), some (.int a2), some (.int a3), some (.int x15), some (.int x22)]) ⟨rfl, ⟨rfl, ⟨rfl, ⟨rfl, ⟨rfl, ⟨rfl, trivial⟩⟩⟩⟩⟩⟩ ?_
        exact hj29 x22 ((gI s32 70 (Int32.toNatClampNeg (x22 - x15))) + (1 : Int32)) s32
set_option maxRecDepth 100000 in
set_option maxHeartbeats 4000000 in
theorem lp_X8_home_95_ok (l : Launch) (N : Nat)  (a2 : Int32) (k12 : jM → Option (Int32 × jM)) (a1 : Int32) (a3 : Int32) (hk12 : ∀ (s11 : jM), J l RX8 cX8_home 6 (Option.some Jvm.ClassFile.FieldType.int) false (rmD (2) 0 0) noCx (eIM SH) SH 0 0 s11 195 [some (.ref 53), some (.int a1), none, some (.int a3), none, none] [] (k12 s11)) : ∀ (q : Nat) (x15 : Int32) (s16 : jM), J l RX8 cX8_home 6 (Option.some Jvm.ClassFile.FieldType.int) false (rmD (2) 0 0) noCx (eIM SH) SH 0 0 s16 95 [some (.ref 53), some (.int a1), some (.int a2), some (.int a3), some (.int x15), none] [] (lp_X8_home_95 N a2 k12 q x15 s16) := by
  intro q
  induction q with
  | zero => intro x15 s16; exact J_none
  | succ q hrec17 =>
    intro x15 s16
    rw [lp_X8_home_95]
    refine J_iload (i := 4) dX8_home_95 rfl ?_
    refine J_iload_n (i := 2) dX8_home_97 rfl rfl ?_
    refine J_icmp_gt (tgt := 195) dX8_home_98 (by decide) (fun c18 => ?_) (fun c18 => ?_)
    · refine J_sub (l1 := [some (.ref 53), some (.int a1), none, some (.int a3), none, none]) ⟨rfl, ⟨rfl, ⟨rfl, trivial⟩⟩⟩ ?_
      exact hk12 s16
    · refine J_iload (i := 4) dX8_home_101 rfl ?_
      refine J_istore (i := 5) (ls2 := [some (.ref 53), some (.int a1), some (.int a2), some (.int a3), some (.int x15), some (.int x15)]) dX8_home_103 rfl (by decide) ?_
      refine J_join (P := fun j => ∀ (s19 : jM), J l RX8 cX8_home 6 (Option.some Jvm.ClassFile.FieldType.int) false (rmD (2) 0 0) noCx (eIM SH) SH 0 0 s19 189 [some (.ref 53), some (.int a1), some (.int a2), some (.int a3), some (.int x15), none] [] (j s19)) ?_ (fun k20 hk20 => ?_)
      · intro s19
        refine J_iincN (i := 4) (v := x15 + (2 : Int32)) (LS := fun x21 => [some (.ref 53), some (.int a1), some (.int a2), some (.int a3), some (.int x21), none]) dX8_home_189 rfl (by first | rfl | decide) (fun _ => rfl) (by decide) (fun x21 => ?_)
        refine J_goto (tgt := 95) dX8_home_192 (by decide) ?_
        refine J_sub (l1 := [some (.ref 53), some (.int a1), some (.int a2), some (.int a3), some (.int x21), none]) ⟨rfl, ⟨rfl, ⟨rfl, ⟨rfl, ⟨rfl, trivial⟩⟩⟩⟩⟩ ?_
        exact hrec17 x21 s19
      refine J_sub (l1 := [some (.ref 53), some (.int a1), some (.int a2), some (.int a3), some (.int x15), some (.int x15)]) ⟨rfl, ⟨rfl, ⟨rfl, ⟨rfl, ⟨rfl, ⟨rfl, trivial⟩⟩⟩⟩⟩⟩ ?_
      exact lp_X8_home_105_ok l N  x15 k20 a1 a2 a3 hk20 N x15 s16
set_option maxRecDepth 100000 in
set_option maxHeartbeats 4000000 in
theorem lp_X8_home_44_ok (l : Launch) (N : Nat)  (k10 : jM → Option (Int32 × jM)) (a1 : Int32) (a2 : Int32) (a3 : Int32) (hk10 : ∀ (s9 : jM), J l RX8 cX8_home 6 (Option.some Jvm.ClassFile.FieldType.int) false (rmD (2) 0 0) noCx (eIM SH) SH 0 0 s9 92 [some (.ref 53), some (.int a1), some (.int a2), some (.int a3), none, none] [] (k10 s9)) : ∀ (q : Nat) (x34 : Int32) (s35 : jM), J l RX8 cX8_home 6 (Option.some Jvm.ClassFile.FieldType.int) false (rmD (2) 0 0) noCx (eIM SH) SH 0 0 s35 44 [some (.ref 53), some (.int a1), some (.int a2), some (.int a3), some (.int x34), none] [] (lp_X8_home_44 N k10 q x34 s35) := by
  intro q
  induction q with
  | zero => intro x34 s35; exact J_none
  | succ q hrec36 =>
    intro x34 s35
    rw [lp_X8_home_44]
    refine J_iload (i := 4) dX8_home_44 rfl ?_
    refine J_bipush (v := (40 : Int32)) dX8_home_46 (by decide) ?_
    refine J_icmp_ge (tgt := 92) dX8_home_48 (by decide) (fun c37 => ?_) (fun c37 => ?_)
    · refine J_sub (l1 := [some (.ref 53), some (.int a1), some (.int a2), some (.int a3), none, none]) ⟨rfl, ⟨rfl, ⟨rfl, ⟨rfl, trivial⟩⟩⟩⟩ ?_
      exact hk10 s35
    · refine J_join (P := fun j => ∀ (x38 : Int32) (x39 : Int32), J l RX8 cX8_home 6 (Option.some Jvm.ClassFile.FieldType.int) false (rmD (2) 0 0) noCx (eIM SH) SH 0 0 s35 67 [some (.ref 53), some (.int a1), some (.int a2), some (.int a3), some (.int x34), none] [.int x39, .int x38, .ref 69] (j x38 x39)) ?_ (fun j40 hj40 => ?_)
      · intro x38 x39
        refine J_join (P := fun j => ∀ (x41 : Int32) (x42 : Int32) (s43 : jM), J l RX8 cX8_home 6 (Option.some Jvm.ClassFile.FieldType.int) false (rmD (2) 0 0) noCx (eIM SH) SH 0 0 s43 85 [some (.ref 53), some (.int a1), some (.int a2), some (.int a3), some (.int x34), none] [.int x42, .int x41, .ref 70] (j x41 x42 s43)) ?_ (fun j44 hj44 => ?_)
        · intro x41 x42 s43
          refine J_iast dX8_home_85 sa_70 ?_
          refine J_letM rfl (fun s45 => ?_)
          refine J_iincN (i := 4) (v := x34 + (1 : Int32)) (LS := fun x46 => [some (.ref 53), some (.int a1), some (.int a2), some (.int a3), some (.int x46), none]) dX8_home_86 rfl (by first | rfl | decide) (fun _ => rfl) (by decide) (fun x46 => ?_)
          refine J_goto (tgt := 44) dX8_home_89 (by decide) ?_
          refine J_sub (l1 := [some (.ref 53), some (.int a1), some (.int a2), some (.int a3), some (.int x46), none]) ⟨rfl, ⟨rfl, ⟨rfl, ⟨rfl, ⟨rfl, trivial⟩⟩⟩⟩⟩ ?_
          exact hrec36 x46 s45
        refine J_iast dX8_home_67 sa_69 ?_
        refine J_letM rfl (fun s47 => ?_)
        refine J_aload_n (i := 0) dX8_home_68 rfl rfl ?_
        refine J_getR dX8_home_69 fl_RX8_64 sh_53_26 ?_
        refine J_iload (i := 4) dX8_home_72 rfl ?_
        refine J_iload (i := 4) dX8_home_74 rfl ?_
        refine J_if_ne (tgt := 83) dX8_home_76 (by decide) (fun c48 => ?_) (fun c48 => ?_)
        · refine J_ldcI (v := (1000000 : Int32)) dX8_home_83 kw_RX8_206 ?_
          refine J_sub (l1 := [some (.ref 53), some (.int a1), some (.int a2), some (.int a3), some (.int x34), none]) ⟨rfl, ⟨rfl, ⟨rfl, ⟨rfl, ⟨rfl, trivial⟩⟩⟩⟩⟩ ?_
          exact hj44 x34 (1000000 : Int32) s47
        · refine J_iconst (v := (0 : Int32)) dX8_home_79 (by decide) ?_
          refine J_goto (tgt := 85) dX8_home_80 (by decide) ?_
          refine J_sub (l1 := [some (.ref 53), some (.int a1), some (.int a2), some (.int a3), some (.int x34), none]) ⟨rfl, ⟨rfl, ⟨rfl, ⟨rfl, ⟨rfl, trivial⟩⟩⟩⟩⟩ ?_
          exact hj44 x34 (0 : Int32) s47
      refine J_aload_n (i := 0) dX8_home_51 rfl rfl ?_
      refine J_getR dX8_home_52 fl_RX8_61 sh_53_25 ?_
      refine J_iload (i := 4) dX8_home_55 rfl ?_
      refine J_iload (i := 4) dX8_home_57 rfl ?_
      refine J_if_ne (tgt := 66) dX8_home_59 (by decide) (fun c49 => ?_) (fun c49 => ?_)
      · refine J_iconst (v := (0 : Int32)) dX8_home_66 (by decide) ?_
        refine J_sub (l1 := [some (.ref 53), some (.int a1), some (.int a2), some (.int a3), some (.int x34), none]) ⟨rfl, ⟨rfl, ⟨rfl, ⟨rfl, ⟨rfl, trivial⟩⟩⟩⟩⟩ ?_
        exact hj40 x34 (0 : Int32)
      · refine J_iconst (v := (1 : Int32)) dX8_home_62 (by decide) ?_
        refine J_goto (tgt := 67) dX8_home_63 (by decide) ?_
        refine J_sub (l1 := [some (.ref 53), some (.int a1), some (.int a2), some (.int a3), some (.int x34), none]) ⟨rfl, ⟨rfl, ⟨rfl, ⟨rfl, ⟨rfl, trivial⟩⟩⟩⟩⟩ ?_
        exact hj40 x34 (1 : Int32)
set_option maxRecDepth 100000 in
set_option maxHeartbeats 4000000 in
theorem con_X8_home (l : Launch) (N : Nat) (a1 : Int32) (a2 : Int32) (a3 : Int32) (s0 : jM) : Con l (2) yX8_home cX8_home 6 (Option.some Jvm.ClassFile.FieldType.int) (eIM SH) SH [.ref 53, .int a1, .int a2, .int a3] s0 (f_X8_home N a1 a2 a3 s0) := by
  refine Con_of (ls0 := [some (.ref 53), some (.int a1), some (.int a2), some (.int a3), none, none]) (ini := false) (mc := 0) (ms := 0) (by decide +kernel) rfl (Nat.le_of_ble_eq_true rfl) (fun h => by cases h) (fun _ _ => rfl) ?_
  unfold f_X8_home
  refine J_join (P := fun j => ∀ (_ : Unit), J l RX8 cX8_home 6 (Option.some Jvm.ClassFile.FieldType.int) false (rmD (2) 0 0) noCx (eIM SH) SH 0 0 s0 34 [some (.ref 53), none, none, none, none, none] [] (j ())) ?_ (fun j1 hj1 => ?_)
  · intro _
    refine J_aload_n (i := 0) dX8_home_34 rfl rfl ?_
    refine J_bipush (v := (-2 : Int32)) dX8_home_35 (by decide) ?_
    refine J_callVIM 53 [.int (-2 : Int32)] dX8_home_37 ca_X8_bad lk_RX8_87 vi_X8_bad rc_53 rfl rfl ⟨by show _ ≤ _; simp only [rmD]; omega, by show _ ≤ _; simp only [rmD]; omega⟩ (Nat.le_of_ble_eq_true rfl) ⟨Nat.zero_le _, Nat.zero_le _⟩ (con_X8_bad l _ _) (fun r2 _ => ?_)
    exact J_ireturn dX8_home_40 rfl rfl rfl
  refine J_iload_n (i := 1) dX8_home_0 rfl rfl ?_
  refine J_i2l dX8_home_1 ?_
  refine J_lconst (v := (1 : Int64)) dX8_home_2 (by decide) ?_
  refine J_ldc2 (v := (40 : Int64)) dX8_home_3 kw_RX8_239 ?_
  refine J_callSI [.long (Int32.toInt64 a1), .long (1 : Int64), .long (40 : Int64)] dX8_home_6 ca_X8_in lk_RX8_74 st_X8_in rfl rfl ⟨by show _ ≤ _; simp only [rmD]; omega, by show _ ≤ _; simp only [rmD]; omega⟩ (Nat.le_of_ble_eq_true rfl) ⟨Nat.zero_le _, Nat.zero_le _⟩ (con_X8_in l _ _ _ _) (fun r3 _ => ?_)
  refine J_if_eq (tgt := 34) dX8_home_9 (by decide) (fun c4 => ?_) (fun c4 => ?_)
  · refine J_sub (l1 := [some (.ref 53), none, none, none, none, none]) ⟨rfl, trivial⟩ ?_
    exact hj1 ()
  · refine J_iload_n (i := 2) dX8_home_12 rfl rfl ?_
    refine J_i2l dX8_home_13 ?_
    refine J_lconst (v := (1 : Int64)) dX8_home_14 (by decide) ?_
    refine J_ldc2 (v := (20 : Int64)) dX8_home_15 kw_RX8_83 ?_
    refine J_callSI [.long (Int32.toInt64 a2), .long (1 : Int64), .long (20 : Int64)] dX8_home_18 ca_X8_in lk_RX8_74 st_X8_in rfl rfl ⟨by show _ ≤ _; simp only [rmD]; omega, by show _ ≤ _; simp only [rmD]; omega⟩ (Nat.le_of_ble_eq_true rfl) ⟨Nat.zero_le _, Nat.zero_le _⟩ (con_X8_in l _ _ _ _) (fun r5 _ => ?_)
    refine J_if_eq (tgt := 34) dX8_home_21 (by decide) (fun c6 => ?_) (fun c6 => ?_)
    · refine J_sub (l1 := [some (.ref 53), none, none, none, none, none]) ⟨rfl, trivial⟩ ?_
      exact hj1 ()
    · refine J_iload_n (i := 3) dX8_home_24 rfl rfl ?_
      refine J_i2l dX8_home_25 ?_
      refine J_lconst (v := (0 : Int64)) dX8_home_26 (by decide) ?_
      refine J_lconst (v := (1 : Int64)) dX8_home_27 (by decide) ?_
      refine J_callSI [.long (Int32.toInt64 a3), .long (0 : Int64), .long (1 : Int64)] dX8_home_28 ca_X8_in lk_RX8_74 st_X8_in rfl rfl ⟨by show _ ≤ _; simp only [rmD]; omega, by show _ ≤ _; simp only [rmD]; omega⟩ (Nat.le_of_ble_eq_true rfl) ⟨Nat.zero_le _, Nat.zero_le _⟩ (con_X8_in l _ _ _ _) (fun r7 _ => ?_)
      refine J_if_ne (tgt := 41) dX8_home_31 (by decide) (fun c8 => ?_) (fun c8 => ?_)
      · refine J_iconst (v := (0 : Int32)) dX8_home_41 (by decide) ?_
        refine J_istore (i := 4) (ls2 := [some (.ref 53), some (.int a1), some (.int a2), some (.int a3), some (.int (0 : Int32)), none]) dX8_home_42 rfl (by decide) ?_
        refine J_join (P := fun j => ∀ (s9 : jM), J l RX8 cX8_home 6 (Option.some Jvm.ClassFile.FieldType.int) false (rmD (2) 0 0) noCx (eIM SH) SH 0 0 s9 92 [some (.ref 53), some (.int a1), some (.int a2), some (.int a3), none, none] [] (j s9)) ?_ (fun k10 hk10 => ?_)
        · intro s9
          refine J_iconst (v := (1 : Int32)) dX8_home_92 (by decide) ?_
          refine J_istore (i := 4) (ls2 := [some (.ref 53), some (.int a1), some (.int a2), some (.int a3), some (.int (1 : Int32)), none]) dX8_home_93 rfl (by decide) ?_
          refine J_join (P := fun j => ∀ (s11 : jM), J l RX8 cX8_home 6 (Option.some Jvm.ClassFile.FieldType.int) false (rmD (2) 0 0) noCx (eIM SH) SH 0 0 s11 195 [some (.ref 53), some (.int a1), none, some (.int a3), none, none] [] (j s11)) ?_ (fun k12 hk12 => ?_)
          · intro s11
            refine J_iload_n (i := 3) dX8_home_195 rfl rfl ?_
            refine J_if_ne (tgt := 210) dX8_home_196 (by decide) (fun c13 => ?_) (fun c13 => ?_)
            · refine J_aload_n (i := 0) dX8_home_210 rfl rfl ?_
              refine J_getR dX8_home_211 fl_RX8_64 sh_53_26 ?_
              refine J_iload_n (i := 1) dX8_home_214 rfl rfl ?_
              refine J_iconst (v := (1 : Int32)) dX8_home_215 (by decide) ?_
              refine J_isub dX8_home_216 ?_
              refine J_iald dX8_home_217 sa_70 ?_
              refine J_ldcI (v := (1000000 : Int32)) dX8_home_218 kw_RX8_206 ?_
              refine J_icmp_lt (tgt := 227) dX8_home_220 (by decide) (fun c14 => ?_) (fun c14 => ?_)
              · refine J_aload_n (i := 0) dX8_home_227 rfl rfl ?_
                refine J_getR dX8_home_228 fl_RX8_64 sh_53_26 ?_
                refine J_iload_n (i := 1) dX8_home_231 rfl rfl ?_
                refine J_iconst (v := (1 : Int32)) dX8_home_232 (by decide) ?_
                refine J_isub dX8_home_233 ?_
                refine J_iald dX8_home_234 sa_70 ?_
                exact J_ireturn dX8_home_235 rfl rfl rfl
              · refine J_iconst (v := (-1 : Int32)) dX8_home_223 (by decide) ?_
                refine J_goto (tgt := 235) dX8_home_224 (by decide) ?_
                exact J_ireturn dX8_home_235 rfl rfl rfl
            · refine J_aload_n (i := 0) dX8_home_199 rfl rfl ?_
              refine J_getR dX8_home_200 fl_RX8_61 sh_53_25 ?_
              refine J_iload_n (i := 1) dX8_home_203 rfl rfl ?_
              refine J_iconst (v := (1 : Int32)) dX8_home_204 (by decide) ?_
              refine J_isub dX8_home_205 ?_
              refine J_iald dX8_home_206 sa_69 ?_
              refine J_goto (tgt := 235) dX8_home_207 (by decide) ?_
              exact J_ireturn dX8_home_235 rfl rfl rfl
          refine J_sub (l1 := [some (.ref 53), some (.int a1), some (.int a2), some (.int a3), some (.int (1 : Int32)), none]) ⟨rfl, ⟨rfl, ⟨rfl, ⟨rfl, ⟨rfl, trivial⟩⟩⟩⟩⟩ ?_
          exact lp_X8_home_95_ok l N  a2 k12 a1 a3 hk12 N (1 : Int32) s9
        refine J_sub (l1 := [some (.ref 53), some (.int a1), some (.int a2), some (.int a3), some (.int (0 : Int32)), none]) ⟨rfl, ⟨rfl, ⟨rfl, ⟨rfl, ⟨rfl, trivial⟩⟩⟩⟩⟩ ?_
        exact lp_X8_home_44_ok l N  k10 a1 a2 a3 hk10 N (0 : Int32) s0
      · refine J_sub (l1 := [some (.ref 53), none, none, none, none, none]) ⟨rfl, trivial⟩ ?_
        exact hj1 ()
