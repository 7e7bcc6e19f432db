def f_X8_fault (N : Nat)  (s0 : jM) : Option (Int32 × jM) := Option.bind (f_X8_reads N s0) fun r1 => lt_ r1.1 fun x2 => some ((gI r1.2 53 7), r1.2)
set_option maxRecDepth 100000 in
set_option maxHeartbeats 4000000 in
theorem con_X8_fault (l : Launch) (N : Nat) (s0 : jM) : Con l (5) yX8_fault cX8_fault 2 (Option.some Jvm.ClassFile.FieldType.int) (eIM SH) SH [.ref 53] s0 (f_X8_fault N s0) := by
  refine Con_of (ls0 := [some (.ref 53), none]) (ini := false) (mc := 0) (ms := 0) (by decide +kernel) rfl (Nat.le_of_ble_eq_true rfl) (fun h => by cases h) (fun _ _ => rfl) ?_
  unfold f_X8_fault
  refine J_aload_n (i := 0) dX8_fault_0 rfl rfl ?_
  refine J_callVIM 53 [] dX8_fault_1 ca_X8_reads lk_RX8_169 vi_X8_reads rc_53 rfl rfl ⟨by show _ ≤ _; simp only [rmD]; omega, by show _ ≤ _; simp only [rmD]; omega⟩ (Nat.le_of_ble_eq_true rfl) ⟨Nat.zero_le _, Nat.zero_le _⟩ (con_X8_reads l N _) (fun r1 _ => ?_)
  refine J_istore_nN (i := 1) (LS := fun x2 => [some (.ref 53), some (.int x2)]) dX8_fault_4 rfl (fun _ => rfl) (by decide) (fun x2 => ?_)
  refine J_aload_n (i := 0) dX8_fault_5 rfl rfl ?_
  refine J_getI dX8_fault_6 fl_RX8_143 sh_53_7 ?_
  exact J_ireturn dX8_fault_9 rfl rfl rfl

def lp_X8_isWell_13 (N : Nat) (a1 : Int32) (k3 : jM → Option (Int32 × jM)) : Nat → Int32 → jM → Option (Int32 × jM)
  | 0, _, _ => none
  | q + 1, x12, s13 => if (4 : Int32) < x12 then (k3 s13) else (Option.bind (f_X8_broughtBy N a1 x12 s13) fun r16 => gd (ib x12 6) <| lt_ (pL s13 60 (Int32.toNatClampNeg x12) (Int32.toInt64 r16)) fun s17 => lt_ (x12 + (1 : Int32)) fun x18 => lp_X8_isWell_13 N a1 k3 q x18 s17)
def f_X8_isWell (N : Nat) (a1 : Int32) (a2 : Int32) (a3 : Int32) (s0 : jM) : Option (Int32 × jM) := jn_ (fun (_ : Unit) => jn_ (fun (s2 : jM) => jn_ (fun (y4 : Int64) (s5 : jM) => if (y4 &&& (1 : Int64)) = (1 : Int64) then (some ((1 : Int32), s5)) else (some ((0 : Int32), s5))) fun j6 => gd (ib (0 : Int32) 6) <| gd (ib (0 : Int32) 6) <| lt_ (pL s2 60 (Int32.toNatClampNeg (0 : Int32)) ((gL s2 60 (Int32.toNatClampNeg (0 : Int32))) + (Int32.toInt64 a3))) fun s8 => gd (ib (5 : Int32) 6) <| lt_ (pL s8 60 (Int32.toNatClampNeg (5 : Int32)) (Int32.toInt64 a2)) fun s9 => Option.bind (f_X8_reads N s9) fun r10 => if r10.1 = 0 then (gd (ib (0 : Int32) 6) <| j6 (gL r10.2 60 (Int32.toNatClampNeg (0 : Int32))) r10.2) else (j6 (gL r10.2 53 13) r10.2)) fun k3 => lp_X8_isWell_13 N a1 k3 N (0 : Int32) s0) fun j1 => if a1 = 0 then (if a3 = 0 then (some ((1 : Int32), s0)) else (j1 ())) else (j1 ())
set_option maxRecDepth 100000 in
set_option maxHeartbeats 4000000 in
theorem lp_X8_isWell_13_ok (l : Launch) (N : Nat)  (a1 : Int32) (k3 : jM → Option (Int32 × jM)) (a2 : Int32) (a3 : Int32) (hk3 : ∀ (s2 : jM), J l RX8 cX8_isWell 6 (Option.some Jvm.ClassFile.FieldType.boolean) false (rmD (5) 0 0) noCx (eIM SH) SH 0 0 s2 40 [some (.ref 53), none, some (.int a2), some (.int a3), none, none] [] (k3 s2)) : ∀ (q : Nat) (x12 : Int32) (s13 : jM), J l RX8 cX8_isWell 6 (Option.some Jvm.ClassFile.FieldType.boolean) false (rmD (5) 0 0) noCx (eIM SH) SH 0 0 s13 13 [some (.ref 53), some (.int a1), some (.int a2), some (.int a3), some (.int x12), none] [] (lp_X8_isWell_13 N a1 k3 q x12 s13) := by
  intro q
  induction q with
  | zero => intro x12 s13; exact J_none
  | succ q hrec14 =>
    intro x12 s13
    rw [lp_X8_isWell_13]
    refine J_iload (i := 4) dX8_isWell_13 rfl ?_
    refine J_iconst (v := (4 : Int32)) dX8_isWell_15 (by decide) ?_
    refine J_icmp_gt (tgt := 40) dX8_isWell_16 (by decide) (fun c15 => ?_) (fun c15 => ?_)
    · refine J_sub (l1 := [some (.ref 53), none, some (.int a2), some (.int a3), none, none]) ⟨rfl, ⟨rfl, ⟨rfl, trivial⟩⟩⟩ ?_
      exact hk3 s13
    · refine J_aload_n (i := 0) dX8_isWell_19 rfl rfl ?_
      refine J_getR dX8_isWell_20 fl_RX8_34 sh_53_12 ?_
      refine J_iload (i := 4) dX8_isWell_23 rfl ?_
      refine J_aload_n (i := 0) dX8_isWell_25 rfl rfl ?_
      refine J_iload_n (i := 1) dX8_isWell_26 rfl rfl ?_
      refine J_iload (i := 4) dX8_isWell_27 rfl ?_
      refine J_callVI 53 [.int a1, .int x12] dX8_isWell_29 ca_X8_broughtBy lk_RX8_109 vi_X8_broughtBy rc_53 rfl rfl ⟨by show _ ≤ _; simp only [rmD]; omega, by show _ ≤ _; simp only [rmD]; omega⟩ (Nat.le_of_ble_eq_true rfl) ⟨Nat.zero_le _, Nat.zero_le _⟩ (con_X8_broughtBy l N _ _ _) (fun r16 _ => ?_)
      refine J_i2l dX8_isWell_32 ?_
      refine J_last dX8_isWell_33 sa_60 ?_
      refine J_letM rfl (fun s17 => ?_)
      refine J_iincN (i := 4) (v := x12 + (1 : Int32)) (LS := fun x18 => [some (.ref 53), some (.int a1), some (.int a2), some (.int a3), some (.int x18), none]) dX8_isWell_34 rfl (by first | rfl | decide) (fun _ => rfl) (by decide) (fun x18 => ?_)
      refine J_goto (tgt := 13) dX8_isWell_37 (by decide) ?_
      refine J_sub (l1 := [some (.ref 53), some (.int a1), some (.int a2), some (.int a3), some (.int x18), none]) ⟨rfl, ⟨rfl, ⟨rfl, ⟨rfl, ⟨rfl, trivial⟩⟩⟩⟩⟩ ?_
      exact hrec14 x18 s17
set_option maxRecDepth 100000 in
set_option maxHeartbeats 4000000 in
theorem con_X8_isWell (l : Launch) (N : Nat) (a1 : Int32) (a2 : Int32) (a3 : Int32) (s0 : jM) : Con l (5) yX8_isWell cX8_isWell 6 (Option.some Jvm.ClassFile.FieldType.boolean) (eIM SH) SH [.ref 53, .int a1, .int a2, .int a3] s0 (f_X8_isWell N a1 a2 a3 s0) := by
  refine Con_of (ls0 := [some (.ref 53), some (.int a1), some (.int a2), some (.int a3), none, none]) (ini := false) (mc := 0) (ms := 0) (by decide +kernel) rfl (Nat.le_of_ble_eq_true rfl) (fun h => by cases h) (fun _ _ => rfl) ?_
  unfold f_X8_isWell
  refine J_join (P := fun j => ∀ (_ : Unit), J l RX8 cX8_isWell 6 (Option.some Jvm.ClassFile.FieldType.boolean) false (rmD (5) 0 0) noCx (eIM SH) SH 0 0 s0 10 [some (.ref 53), some (.int a1), some (.int a2), some (.int a3), none, none] [] (j ())) ?_ (fun j1 hj1 => ?_)
  · intro _
    refine J_iconst (v := (0 : Int32)) dX8_isWell_10 (by decide) ?_
    refine J_istore (i := 4) (ls2 := [some (.ref 53), some (.int a1), some (.int a2), some (.int a3), some (.int (0 : Int32)), none]) dX8_isWell_11 rfl (by decide) ?_
    refine J_join (P := fun j => ∀ (s2 : jM), J l RX8 cX8_isWell 6 (Option.some Jvm.ClassFile.FieldType.boolean) false (rmD (5) 0 0) noCx (eIM SH) SH 0 0 s2 40 [some (.ref 53), none, some (.int a2), some (.int a3), none, none] [] (j s2)) ?_ (fun k3 hk3 => ?_)
    · intro s2
      refine J_join (P := fun j => ∀ (y4 : Int64) (s5 : jM), J l RX8 cX8_isWell 6 (Option.some Jvm.ClassFile.FieldType.boolean) false (rmD (5) 0 0) noCx (eIM SH) SH 0 0 s5 79 [none, none, none, none, none, none] [.long y4] (j y4 s5)) ?_ (fun j6 hj6 => ?_)
      · intro y4 s5
        refine J_lstore (i := 4) (ls2 := [none, none, none, none, some (.long y4), none]) dX8_isWell_79 rfl (by decide) ?_
        refine J_lload (i := 4) dX8_isWell_81 rfl ?_
        refine J_lconst (v := (1 : Int64)) dX8_isWell_83 (by decide) ?_
        refine J_land dX8_isWell_84 ?_
        refine J_lconst (v := (1 : Int64)) dX8_isWell_85 (by decide) ?_
        refine J_lcmp_ne (tgt := 94) dX8_isWell_86 dX8_isWell_87 (by decide) (fun c7 => ?_) (fun c7 => ?_)
        · refine J_iconst (v := (0 : Int32)) dX8_isWell_94 (by decide) ?_
          exact J_ireturn dX8_isWell_95 rfl rfl rfl
        · refine J_iconst (v := (1 : Int32)) dX8_isWell_90 (by decide) ?_
          refine J_goto (tgt := 95) dX8_isWell_91 (by decide) ?_
          exact J_ireturn dX8_isWell_95 rfl rfl rfl
      refine J_aload_n (i := 0) dX8_isWell_40 rfl rfl ?_
      refine J_getR dX8_isWell_41 fl_RX8_34 sh_53_12 ?_
      refine J_iconst (v := (0 : Int32)) dX8_isWell_44 (by decide) ?_
      refine J_dup2_11 dX8_isWell_45 rfl rfl ?_
      refine J_lald dX8_isWell_46 sa_60 ?_
      refine J_iload_n (i := 3) dX8_isWell_47 rfl rfl ?_
      refine J_i2l dX8_isWell_48 ?_
      refine J_ladd dX8_isWell_49 ?_
      refine J_last dX8_isWell_50 sa_60 ?_
      refine J_letM rfl (fun s8 => ?_)
      refine J_aload_n (i := 0) dX8_isWell_51 rfl rfl ?_
      refine J_getR dX8_isWell_52 fl_RX8_34 sh_53_12 ?_
      refine J_iconst (v := (5 : Int32)) dX8_isWell_55 (by decide) ?_
      refine J_iload_n (i := 2) dX8_isWell_56 rfl rfl ?_
      refine J_i2l dX8_isWell_57 ?_
      refine J_last dX8_isWell_58 sa_60 ?_
      refine J_letM rfl (fun s9 => ?_)
      refine J_aload_n (i := 0) dX8_isWell_59 rfl rfl ?_
      refine J_callVIM 53 [] dX8_isWell_60 ca_X8_reads lk_RX8_169 vi_X8_reads rc_53 rfl rfl ⟨by show _ ≤ _; simp only [rmD]; omega, by show _ ≤ _; simp only [rmD]; omega⟩ (Nat.le_of_ble_eq_true rfl) ⟨Nat.zero_le _, Nat.zero_le _⟩ (con_X8_reads l N _) (fun r10 _ => ?_)
      refine J_if_eq (tgt := 73) dX8_isWell_63 (by decide) (fun c11 => ?_) (fun c11 => ?_)
      · refine J_aload_n (i := 0) dX8_isWell_73 rfl rfl ?_
        refine J_getR dX8_isWell_74 fl_RX8_34 sh_53_12 ?_
        refine J_iconst (v := (0 : Int32)) dX8_isWell_77 (by decide) ?_
        refine J_lald dX8_isWell_78 sa_60 ?_
        refine J_sub (l1 := [none, none, none, none, none, none]) trivial ?_
        exact hj6 (gL r10.2 60 (Int32.toNatClampNeg (0 : Int32))) r10.2
      · refine J_aload_n (i := 0) dX8_isWell_66 rfl rfl ?_
        refine J_getL dX8_isWell_67 fl_RX8_166 sh_53_13 ?_
        refine J_goto (tgt := 79) dX8_isWell_70 (by decide) ?_
        refine J_sub (l1 := [none, none, none, none, none, none]) trivial ?_
        exact hj6 (gL r10.2 53 13) r10.2
    refine J_sub (l1 := [some (.ref 53), some (.int a1), some (.int a2), some (.int a3), some (.int (0 : Int32)), none]) ⟨rfl, ⟨rfl, ⟨rfl, ⟨rfl, ⟨rfl, trivial⟩⟩⟩⟩⟩ ?_
    exact lp_X8_isWell_13_ok l N  a1 k3 a2 a3 hk3 N (0 : Int32) s0
  refine J_iload_n (i := 1) dX8_isWell_0 rfl rfl ?_
  refine J_if_ne (tgt := 10) dX8_isWell_1 (by decide) (fun c19 => ?_) (fun c19 => ?_)
  · refine J_sub (l1 := [some (.ref 53), some (.int a1), some (.int a2), some (.int a3), none, none]) ⟨rfl, ⟨rfl, ⟨rfl, ⟨rfl, trivial⟩⟩⟩⟩ ?_
    exact hj1 ()
  · refine J_iload_n (i := 3) dX8_isWell_4 rfl rfl ?_
    refine J_if_ne (tgt := 10) dX8_isWell_5 (by decide) (fun c20 => ?_) (fun c20 => ?_)
    · refine J_sub (l1 := [some (.ref 53), some (.int a1), some (.int a2), some (.int a3), none, none]) ⟨rfl, ⟨rfl, ⟨rfl, ⟨rfl, trivial⟩⟩⟩⟩ ?_
      exact hj1 ()
    · refine J_iconst (v := (1 : Int32)) dX8_isWell_8 (by decide) ?_
      exact J_ireturn dX8_isWell_9 rfl rfl rfl

def f_X8_well (N : Nat) (a1 : Int32) (a2 : Int32) (s0 : jM) : Option (Int32 × jM) := jn_ (fun (_ : Unit) => Option.bind (f_X8_bad (-2 : Int32) s0) fun r2 => some (r2.1, r2.2)) fun j1 => Option.bind (f_X8_isSet a1 s0) fun r3 => if r3 = 0 then (j1 ()) else (Option.bind (f_X8_in (Int32.toInt64 a2) (0 : Int64) (199 : Int64)) fun r5 => if r5 = 0 then (j1 ()) else (Option.bind (f_X8_isWell N a1 a2 (0 : Int32) s0) fun r7 => if r7.1 = 0 then (some ((0 : Int32), r7.2)) else (some ((1 : Int32), r7.2))))
set_option maxRecDepth 100000 in
set_option maxHeartbeats 4000000 in
theorem con_X8_well (l : Launch) (N : Nat) (a1 : Int32) (a2 : Int32) (s0 : jM) : Con l (6) yX8_well cX8_well 3 (Option.some Jvm.ClassFile.FieldType.int) (eIM SH) SH [.ref 53, .int a1, .int a2] s0 (f_X8_well N a1 a2 s0) := by
  refine Con_of (ls0 := [some (.ref 53), some (.int a1), some (.int a2)]) (ini := false) (mc := 0) (ms := 0) (by decide +kernel) rfl (Nat.le_of_ble_eq_true rfl) (fun h => by cases h) (fun _ _ => rfl) ?_
  unfold f_X8_well
  refine J_join (P := fun j => ∀ (_ : Unit), J l RX8 cX8_well 3 (Option.some Jvm.ClassFile.FieldType.int) false (rmD (6) 0 0) noCx (eIM SH) SH 0 0 s0 20 [some (.ref 53), none, none] [] (j ())) ?_ (fun j1 hj1 => ?_)
  · intro _
    refine J_aload_n (i := 0) dX8_well_20 rfl rfl ?_
    refine J_bipush (v := (-2 : Int32)) dX8_well_21 (by decide) ?_
    refine J_callVIM 53 [.int (-2 : Int32)] dX8_well_23 ca_X8_bad lk_RX8_87 vi_X8_bad rc_53 rfl rfl ⟨by show _ ≤ _; simp only [rmD]; omega, by show _ ≤ _; simp only [rmD]; omega⟩ (Nat.le_of_ble_eq_true rfl) ⟨Nat.zero_le _, Nat.zero_le _⟩ (con_X8_bad l _ _) (fun r2 _ => ?_)
    exact J_ireturn dX8_well_26 rfl rfl rfl
  refine J_aload_n (i := 0) dX8_well_0 rfl rfl ?_
  refine J_iload_n (i := 1) dX8_well_1 rfl rfl ?_
  refine J_callVI 53 [.int a1] dX8_well_2 ca_X8_isSet lk_RX8_103 vi_X8_isSet rc_53 rfl rfl ⟨by show _ ≤ _; simp only [rmD]; omega, by show _ ≤ _; simp only [rmD]; omega⟩ (Nat.le_of_ble_eq_true rfl) ⟨Nat.zero_le _, Nat.zero_le _⟩ (con_X8_isSet l _ _) (fun r3 _ => ?_)
  refine J_if_eq (tgt := 20) dX8_well_5 (by decide) (fun c4 => ?_) (fun c4 => ?_)
  · refine J_sub (l1 := [some (.ref 53), none, none]) ⟨rfl, trivial⟩ ?_
    exact hj1 ()
  · refine J_iload_n (i := 2) dX8_well_8 rfl rfl ?_
    refine J_i2l dX8_well_9 ?_
    refine J_lconst (v := (0 : Int64)) dX8_well_10 (by decide) ?_
    refine J_ldc2 (v := (199 : Int64)) dX8_well_11 kw_RX8_173 ?_
    refine J_callSI [.long (Int32.toInt64 a2), .long (0 : Int64), .long (199 : Int64)] dX8_well_14 ca_X8_in lk_RX8_74 st_X8_in rfl rfl ⟨by show _ ≤ _; simp only [rmD]; omega, by show _ ≤ _; simp only [rmD]; omega⟩ (Nat.le_of_ble_eq_true rfl) ⟨Nat.zero_le _, Nat.zero_le _⟩ (con_X8_in l _ _ _ _) (fun r5 _ => ?_)
    refine J_if_ne (tgt := 27) dX8_well_17 (by decide) (fun c6 => ?_) (fun c6 => ?_)
    · refine J_aload_n (i := 0) dX8_well_27 rfl rfl ?_
      refine J_iload_n (i := 1) dX8_well_28 rfl rfl ?_
      refine J_iload_n (i := 2) dX8_well_29 rfl rfl ?_
      refine J_iconst (v := (0 : Int32)) dX8_well_30 (by decide) ?_
      refine J_callVIM 53 [.int a1, .int a2, .int (0 : Int32)] dX8_well_31 ca_X8_isWell lk_RX8_175 vi_X8_isWell rc_53 rfl rfl ⟨by show _ ≤ _; simp only [rmD]; omega, by show _ ≤ _; simp only [rmD]; omega⟩ (Nat.le_of_ble_eq_true rfl) ⟨Nat.zero_le _, Nat.zero_le _⟩ (con_X8_isWell l N _ _ _ _) (fun r7 _ => ?_)
      refine J_if_eq (tgt := 41) dX8_well_34 (by decide) (fun c8 => ?_) (fun c8 => ?_)
      · refine J_iconst (v := (0 : Int32)) dX8_well_41 (by decide) ?_
        exact J_ireturn dX8_well_42 rfl rfl rfl
      · refine J_iconst (v := (1 : Int32)) dX8_well_37 (by decide) ?_
        refine J_goto (tgt := 42) dX8_well_38 (by decide) ?_
        exact J_ireturn dX8_well_42 rfl rfl rfl
    · refine J_sub (l1 := [some (.ref 53), none, none]) ⟨rfl, trivial⟩ ?_
      exact hj1 ()

def lp_X8_manyIn_4 (N : Nat) (a0 : Int32) (k2 : Int32 → Option Int32) : Nat → Int32 → Int32 → Option Int32
  | 0, _, _ => none
  | q + 1, x3, x4 => if (8 : Int32) ≤ x4 then (k2 x3) else (lt_ (x3 + ((a0 >>> (x4 &&& 31)) &&& (1 : Int32))) fun x7 => lt_ (x4 + (1 : Int32)) fun x8 => lp_X8_manyIn_4 N a0 k2 q x7 x8)
def f_X8_manyIn (N : Nat) (a0 : Int32) : Option Int32 := jn_ (fun (x1 : Int32) => some x1) fun k2 => lp_X8_manyIn_4 N a0 k2 N (0 : Int32) (0 : Int32)
set_option maxRecDepth 100000 in
set_option maxHeartbeats 4000000 in
theorem lp_X8_manyIn_4_ok (l : Launch) (N : Nat)  (a0 : Int32) (k2 : Int32 → Option Int32) (s0 : jM) (hk2 : ∀ (x1 : Int32), J l RX8 cX8_manyIn 3 (Option.some Jvm.ClassFile.FieldType.int) false (rmD (1) 0 0) noCx (eI SH s0) SH 0 0 s0 24 [none, some (.int x1), none] [] (k2 x1)) : ∀ (q : Nat) (x3 : Int32) (x4 : Int32), J l RX8 cX8_manyIn 3 (Option.some Jvm.ClassFile.FieldType.int) false (rmD (1) 0 0) noCx (eI SH s0) SH 0 0 s0 4 [some (.int a0), some (.int x3), some (.int x4)] [] (lp_X8_manyIn_4 N a0 k2 q x3 x4) := by
  intro q
  induction q with
  | zero => intro x3 x4; exact J_none
  | succ q hrec5 =>
    intro x3 x4
    rw [lp_X8_manyIn_4]
    refine J_iload_n (i := 2) dX8_manyIn_4 rfl rfl ?_
    refine J_bipush (v := (8 : Int32)) dX8_manyIn_5 (by decide) ?_
    refine J_icmp_ge (tgt := 24) dX8_manyIn_7 (by decide) (fun c6 => ?_) (fun c6 => ?_)
    · refine J_sub (l1 := [none, some (.int x3), none]) ⟨rfl, trivial⟩ ?_
      exact hk2 x3
    · refine J_iload_n (i := 1) dX8_manyIn_10 rfl rfl ?_
      refine J_iload_n (i := 0) dX8_manyIn_11 rfl rfl ?_
      refine J_iload_n (i := 2) dX8_manyIn_12 rfl rfl ?_
      refine J_ishr dX8_manyIn_13 ?_
      refine J_iconst (v := (1 : Int32)) dX8_manyIn_14 (by decide) ?_
      refine J_iand dX8_manyIn_15 ?_
      refine J_iadd dX8_manyIn_16 ?_
      refine J_istore_nN (i := 1) (LS := fun x7 => [some (.int a0), some (.int x7), some (.int x4)]) dX8_manyIn_17 rfl (fun _ => rfl) (by decide) (fun x7 => ?_)
      refine J_iincN (i := 2) (v := x4 + (1 : Int32)) (LS := fun x8 => [some (.int a0), some (.int x7), some (.int x8)]) dX8_manyIn_18 rfl (by first | rfl | decide) (fun _ => rfl) (by decide) (fun x8 => ?_)
      refine J_goto (tgt := 4) dX8_manyIn_21 (by decide) ?_
      refine J_sub (l1 := [some (.int a0), some (.int x7), some (.int x8)]) ⟨rfl, ⟨rfl, ⟨rfl, trivial⟩⟩⟩ ?_
      exact hrec5 x7 x8
set_option maxRecDepth 100000 in
set_option maxHeartbeats 4000000 in
theorem con_X8_manyIn (l : Launch) (N : Nat) (a0 : Int32) (s0 : jM) : Con l (1) yX8_manyIn cX8_manyIn 3 (Option.some Jvm.ClassFile.FieldType.int) (eI SH s0) SH [.int a0] s0 (f_X8_manyIn N a0) := by
  refine Con_of (ls0 := [some (.int a0), none, none]) (ini := false) (mc := 0) (ms := 0) (by decide +kernel) rfl (Nat.le_of_ble_eq_true rfl) (fun h => by cases h) (fun _ _ => rfl) ?_
  unfold f_X8_manyIn
  refine J_iconst (v := (0 : Int32)) dX8_manyIn_0 (by decide) ?_
  refine J_istore_n (i := 1) (ls2 := [some (.int a0), some (.int (0 : Int32)), none]) dX8_manyIn_1 rfl rfl (by decide) ?_
  refine J_iconst (v := (0 : Int32)) dX8_manyIn_2 (by decide) ?_
  refine J_istore_n (i := 2) (ls2 := [some (.int a0), some (.int (0 : Int32)), some (.int (0 : Int32))]) dX8_manyIn_3 rfl rfl (by decide) ?_
  refine J_join (P := fun j => ∀ (x1 : Int32), J l RX8 cX8_manyIn 3 (Option.some Jvm.ClassFile.FieldType.int) false (rmD (1) 0 0) noCx (eI SH s0) SH 0 0 s0 24 [none, some (.int x1), none] [] (j x1)) ?_ (fun k2 hk2 => ?_)
  · intro x1
    refine J_iload_n (i := 1) dX8_manyIn_24 rfl rfl ?_
    exact J_ireturn dX8_manyIn_25 rfl rfl rfl
  refine J_sub (l1 := [some (.int a0), some (.int (0 : Int32)), some (.int (0 : Int32))]) ⟨rfl, ⟨rfl, ⟨rfl, trivial⟩⟩⟩ ?_
  exact lp_X8_manyIn_4_ok l N  a0 k2 s0 hk2 N (0 : Int32) (0 : Int32)

def lp_X8_onNow_4 (N : Nat) (s0 : jM) (k2 : Int32 → Option Int32) : Nat → Int32 → Int32 → Option Int32
  | 0, _, _ => none
  | q + 1, x3, x4 => Option.bind (f_X8_walkers s0) fun r6 => if r6 ≤ x4 then (k2 x3) else (jn_ (fun (x8 : Int32) (x9 : Int32) => lt_ (x8 ||| x9) fun x11 => lt_ (x4 + (1 : Int32)) fun x12 => lp_X8_onNow_4 N s0 k2 q x11 x12) fun j10 => jn_ (fun (x13 : Int32) => j10 x13 (0 : Int32)) fun j14 => gd (ib x4 8) <| if (gI s0 61 (Int32.toNatClampNeg x4)) = (-1 : Int32) then (j14 x3) else (gd (ib x4 8) <| if (gI s0 62 (Int32.toNatClampNeg x4)) = (-1 : Int32) then (j10 x3 ((1 : Int32) <<< (x4 &&& 31))) else (j14 x3)))
def f_X8_onNow (N : Nat)  (s0 : jM) : Option Int32 := jn_ (fun (x1 : Int32) => some x1) fun k2 => lp_X8_onNow_4 N s0 k2 N (0 : Int32) (0 : Int32)
set_option maxRecDepth 100000 in
set_option maxHeartbeats 4000000 in
theorem lp_X8_onNow_4_ok (l : Launch) (N : Nat)  (s0 : jM) (k2 : Int32 → Option Int32) (hk2 : ∀ (x1 : Int32), J l RX8 cX8_onNow 3 (Option.some Jvm.ClassFile.FieldType.int) false (rmD (2) 0 0) noCx (eI SH s0) SH 0 0 s0 48 [none, some (.int x1), none] [] (k2 x1)) : ∀ (q : Nat) (x3 : Int32) (x4 : Int32), J l RX8 cX8_onNow 3 (Option.some Jvm.ClassFile.FieldType.int) false (rmD (2) 0 0) noCx (eI SH s0) SH 0 0 s0 4 [some (.ref 53), some (.int x3), some (.int x4)] [] (lp_X8_onNow_4 N s0 k2 q x3 x4) := by
  intro q
  induction q with
  | zero => intro x3 x4; exact J_none
  | succ q hrec5 =>
    intro x3 x4
    rw [lp_X8_onNow_4]
    refine J_iload_n (i := 2) dX8_onNow_4 rfl rfl ?_
    refine J_aload_n (i := 0) dX8_onNow_5 rfl rfl ?_
    refine J_callVI 53 [] dX8_onNow_6 ca_X8_walkers lk_RX8_70 vi_X8_walkers rc_53 rfl rfl ⟨by show _ ≤ _; simp only [rmD]; omega, by show _ ≤ _; simp only [rmD]; omega⟩ (Nat.le_of_ble_eq_true rfl) ⟨Nat.zero_le _, Nat.zero_le _⟩ (con_X8_walkers l _) (fun r6 _ => ?_)
    refine J_icmp_ge (tgt := 48) dX8_onNow_9 (by decide) (fun c7 => ?_) (fun c7 => ?_)
    · refine J_sub (l1 := [none, some (.int x3), none]) ⟨rfl, trivial⟩ ?_
      exact hk2 x3
    · refine J_join (P := fun j => ∀ (x8 : Int32) (x9 : Int32), J l RX8 cX8_onNow 3 (Option.some Jvm.ClassFile.FieldType.int) false (rmD (2) 0 0) noCx (eI SH s0) SH 0 0 s0 40 [some (.ref 53), none, some (.int x4)] [.int x9, .int x8] (j x8 x9)) ?_ (fun j10 hj10 => ?_)
      · intro x8 x9
        refine J_ior dX8_onNow_40 ?_
        refine J_istore_nN (i := 1) (LS := fun x11 => [some (.ref 53), some (.int x11), some (.int x4)]) dX8_onNow_41 rfl (fun _ => rfl) (by decide) (fun x11 => ?_)
        refine J_iincN (i := 2) (v := x4 + (1 : Int32)) (LS := fun x12 => [some (.ref 53), some (.int x11), some (.int x12)]) dX8_onNow_42 rfl (by first | rfl | decide) (fun _ => rfl) (by decide) (fun x12 => ?_)
        refine J_goto (tgt := 4) dX8_onNow_45 (by decide) ?_
        refine J_sub (l1 := [some (.ref 53), some (.int x11), some (.int x12)]) ⟨rfl, ⟨rfl, ⟨rfl, trivial⟩⟩⟩ ?_
        exact hrec5 x11 x12
      refine J_join (P := fun j => ∀ (x13 : Int32), J l RX8 cX8_onNow 3 (Option.some Jvm.ClassFile.FieldType.int) false (rmD (2) 0 0) noCx (eI SH s0) SH 0 0 s0 39 [some (.ref 53), none, some (.int x4)] [.int x13] (j x13)) ?_ (fun j14 hj14 => ?_)
      · intro x13
        refine J_iconst (v := (0 : Int32)) dX8_onNow_39 (by decide) ?_
        refine J_sub (l1 := [some (.ref 53), none, some (.int x4)]) ⟨rfl, ⟨rfl, trivial⟩⟩ ?_
        exact hj10 x13 (0 : Int32)
      refine J_iload_n (i := 1) dX8_onNow_12 rfl rfl ?_
      refine J_aload_n (i := 0) dX8_onNow_13 rfl rfl ?_
      refine J_getR dX8_onNow_14 fl_RX8_37 sh_53_14 ?_
      refine J_iload_n (i := 2) dX8_onNow_17 rfl rfl ?_
      refine J_iald dX8_onNow_18 sa_61 ?_
      refine J_iconst (v := (-1 : Int32)) dX8_onNow_19 (by decide) ?_
      refine J_icmp_eq (tgt := 39) dX8_onNow_20 (by decide) (fun c15 => ?_) (fun c15 => ?_)
      · refine J_sub (l1 := [some (.ref 53), none, some (.int x4)]) ⟨rfl, ⟨rfl, trivial⟩⟩ ?_
        exact hj14 x3
      · refine J_aload_n (i := 0) dX8_onNow_23 rfl rfl ?_
        refine J_getR dX8_onNow_24 fl_RX8_40 sh_53_15 ?_
        refine J_iload_n (i := 2) dX8_onNow_27 rfl rfl ?_
        refine J_iald dX8_onNow_28 sa_62 ?_
        refine J_iconst (v := (-1 : Int32)) dX8_onNow_29 (by decide) ?_
        refine J_icmp_ne (tgt := 39) dX8_onNow_30 (by decide) (fun c16 => ?_) (fun c16 => ?_)
        · refine J_sub (l1 := [some (.ref 53), none, some (.int x4)]) ⟨rfl, ⟨rfl, trivial⟩⟩ ?_
          exact hj14 x3
        · refine J_iconst (v := (1 : Int32)) dX8_onNow_33 (by decide) ?_
          refine J_iload_n (i := 2) dX8_onNow_34 rfl rfl ?_
          refine J_ishl dX8_onNow_35 ?_
          refine J_goto (tgt := 40) dX8_onNow_36 (by decide) ?_
          refine J_sub (l1 := [some (.ref 53), none, some (.int x4)]) ⟨rfl, ⟨rfl, trivial⟩⟩ ?_
          exact hj10 x3 ((1 : Int32) <<< (x4 &&& 31))
set_option maxRecDepth 100000 in
set_option maxHeartbeats 4000000 in
theorem con_X8_onNow (l : Launch) (N : Nat) (s0 : jM) : Con l (2) yX8_onNow cX8_onNow 3 (Option.some Jvm.ClassFile.FieldType.int) (eI SH s0) SH [.ref 53] s0 (f_X8_onNow N s0) := by
  refine Con_of (ls0 := [some (.ref 53), none, none]) (ini := false) (mc := 0) (ms := 0) (by decide +kernel) rfl (Nat.le_of_ble_eq_true rfl) (fun h => by cases h) (fun _ _ => rfl) ?_
  unfold f_X8_onNow
  refine J_iconst (v := (0 : Int32)) dX8_onNow_0 (by decide) ?_
  refine J_istore_n (i := 1) (ls2 := [some (.ref 53), some (.int (0 : Int32)), none]) dX8_onNow_1 rfl rfl (by decide) ?_
  refine J_iconst (v := (0 : Int32)) dX8_onNow_2 (by decide) ?_
  refine J_istore_n (i := 2) (ls2 := [some (.ref 53), some (.int (0 : Int32)), some (.int (0 : Int32))]) dX8_onNow_3 rfl rfl (by decide) ?_
  refine J_join (P := fun j => ∀ (x1 : Int32), J l RX8 cX8_onNow 3 (Option.some Jvm.ClassFile.FieldType.int) false (rmD (2) 0 0) noCx (eI SH s0) SH 0 0 s0 48 [none, some (.int x1), none] [] (j x1)) ?_ (fun k2 hk2 => ?_)
  · intro x1
    refine J_iload_n (i := 1) dX8_onNow_48 rfl rfl ?_
    exact J_ireturn dX8_onNow_49 rfl rfl rfl
  refine J_sub (l1 := [some (.ref 53), some (.int (0 : Int32)), some (.int (0 : Int32))]) ⟨rfl, ⟨rfl, ⟨rfl, trivial⟩⟩⟩ ?_
  exact lp_X8_onNow_4_ok l N  s0 k2 hk2 N (0 : Int32) (0 : Int32)

def lp_X8_mayStep_4 (N : Nat) (s0 : jM) (a1 : Int32) (k2 : Int32 → Option Int32) : Nat → Int32 → Int32 → Option Int32
  | 0, _, _ => none
  | q + 1, x3, x4 => Option.bind (f_X8_walkers s0) fun r6 => if r6 ≤ x4 then (k2 x3) else (jn_ (fun (x8 : Int32) => jn_ (fun (x10 : Int32) (x11 : Int32) => lt_ (x10 ||| x11) fun x13 => lt_ (x4 + (1 : Int32)) fun x14 => lp_X8_mayStep_4 N s0 a1 k2 q x13 x14) fun j12 => jn_ (fun (x15 : Int32) => j12 x15 ((1 : Int32) <<< (x4 &&& 31))) fun j16 => if x8 = 0 then (jn_ (fun (x18 : Int32) => j12 x18 (0 : Int32)) fun j19 => gd (ib x4 8) <| if (gI s0 61 (Int32.toNatClampNeg x4)) = (-1 : Int32) then (Option.bind (f_X8_of x4 (2 : Int32) s0) fun r21 => if a1 < r21 then (j19 x3) else (j16 x3)) else (j19 x3)) else (j16 x3)) fun j9 => jn_ (fun (_ : Unit) => j9 (0 : Int32)) fun j23 => gd (ib x4 8) <| if (gI s0 61 (Int32.toNatClampNeg x4)) = (-1 : Int32) then (j23 ()) else (gd (ib x4 8) <| if (gI s0 62 (Int32.toNatClampNeg x4)) = (-1 : Int32) then (gd (ib x4 8) <| Option.bind (f_X8_of x4 (1 : Int32) s0) fun r26 => if (a1 - (gI s0 61 (Int32.toNatClampNeg x4))) < r26 then (j23 ()) else (j9 (1 : Int32))) else (j23 ())))
def f_X8_mayStep (N : Nat) (a1 : Int32) (s0 : jM) : Option Int32 := jn_ (fun (x1 : Int32) => some x1) fun k2 => lp_X8_mayStep_4 N s0 a1 k2 N (0 : Int32) (0 : Int32)
set_option maxRecDepth 100000 in
set_option maxHeartbeats 4000000 in
theorem lp_X8_mayStep_4_ok (l : Launch) (N : Nat)  (s0 : jM) (a1 : Int32) (k2 : Int32 → Option Int32) (hk2 : ∀ (x1 : Int32), J l RX8 cX8_mayStep 5 (Option.some Jvm.ClassFile.FieldType.int) false (rmD (2) 0 0) noCx (eI SH s0) SH 0 0 s0 97 [none, none, some (.int x1), none, none] [] (k2 x1)) : ∀ (q : Nat) (x3 : Int32) (x4 : Int32), J l RX8 cX8_mayStep 5 (Option.some Jvm.ClassFile.FieldType.int) false (rmD (2) 0 0) noCx (eI SH s0) SH 0 0 s0 4 [some (.ref 53), some (.int a1), some (.int x3), some (.int x4), none] [] (lp_X8_mayStep_4 N s0 a1 k2 q x3 x4) := by
  intro q
  induction q with
  | zero => intro x3 x4; exact J_none
  | succ q hrec5 =>
    intro x3 x4
    rw [lp_X8_mayStep_4]
    refine J_iload_n (i := 3) dX8_mayStep_4 rfl rfl ?_
    refine J_aload_n (i := 0) dX8_mayStep_5 rfl rfl ?_
    refine J_callVI 53 [] dX8_mayStep_6 ca_X8_walkers lk_RX8_70 vi_X8_walkers rc_53 rfl rfl ⟨by show _ ≤ _; simp only [rmD]; omega, by show _ ≤ _; simp only [rmD]; omega⟩ (Nat.le_of_ble_eq_true rfl) ⟨Nat.zero_le _, Nat.zero_le _⟩ (con_X8_walkers l _) (fun r6 _ => ?_)
    refine J_icmp_ge (tgt := 97) dX8_mayStep_9 (by decide) (fun c7 => ?_) (fun c7 => ?_)
    · refine J_sub (l1 := [none, none, some (.int x3), none, none]) ⟨rfl, trivial⟩ ?_
      exact hk2 x3
    · refine J_join (P := fun j => ∀ (x8 : Int32), J l RX8 cX8_mayStep 5 (Option.some Jvm.ClassFile.FieldType.int) false (rmD (2) 0 0) noCx (eI SH s0) SH 0 0 s0 54 [some (.ref 53), some (.int a1), some (.int x3), some (.int x4), none] [.int x8] (j x8)) ?_ (fun j9 hj9 => ?_)
      · intro x8
        refine J_join (P := fun j => ∀ (x10 : Int32) (x11 : Int32), J l RX8 cX8_mayStep 5 (Option.some Jvm.ClassFile.FieldType.int) false (rmD (2) 0 0) noCx (eI SH s0) SH 0 0 s0 89 [some (.ref 53), some (.int a1), none, some (.int x4), none] [.int x11, .int x10] (j x10 x11)) ?_ (fun j12 hj12 => ?_)
        · intro x10 x11
          refine J_ior dX8_mayStep_89 ?_
          refine J_istore_nN (i := 2) (LS := fun x13 => [some (.ref 53), some (.int a1), some (.int x13), some (.int x4), none]) dX8_mayStep_90 rfl (fun _ => rfl) (by decide) (fun x13 => ?_)
          refine J_iincN (i := 3) (v := x4 + (1 : Int32)) (LS := fun x14 => [some (.ref 53), some (.int a1), some (.int x13), some (.int x14), none]) dX8_mayStep_91 rfl (by first | rfl | decide) (fun _ => rfl) (by decide) (fun x14 => ?_)
          refine J_goto (tgt := 4) dX8_mayStep_94 (by decide) ?_
          refine J_sub (l1 := [some (.ref 53), some (.int a1), some (.int x13), some (.int x14), none]) ⟨rfl, ⟨rfl, ⟨rfl, ⟨rfl, trivial⟩⟩⟩⟩ ?_
          exact hrec5 x13 x14
        refine J_join (P := fun j => ∀ (x15 : Int32), J l RX8 cX8_mayStep 5 (Option.some Jvm.ClassFile.FieldType.int) false (rmD (2) 0 0) noCx (eI SH s0) SH 0 0 s0 82 [some (.ref 53), some (.int a1), none, some (.int x4), none] [.int x15] (j x15)) ?_ (fun j16 hj16 => ?_)
        · intro x15
          refine J_iconst (v := (1 : Int32)) dX8_mayStep_82 (by decide) ?_
          refine J_iload_n (i := 3) dX8_mayStep_83 rfl rfl ?_
          refine J_ishl dX8_mayStep_84 ?_
          refine J_goto (tgt := 89) dX8_mayStep_85 (by decide) ?_
          refine J_sub (l1 := [some (.ref 53), some (.int a1), none, some (.int x4), none]) ⟨rfl, ⟨rfl, ⟨rfl, trivial⟩⟩⟩ ?_
          exact hj12 x15 ((1 : Int32) <<< (x4 &&& 31))
        refine J_istore (i := 4) (ls2 := [some (.ref 53), some (.int a1), some (.int x3), some (.int x4), some (.int x8)]) dX8_mayStep_54 rfl (by decide) ?_
        refine J_iload_n (i := 2) dX8_mayStep_56 rfl rfl ?_
        refine J_iload (i := 4) dX8_mayStep_57 rfl ?_
        refine J_if_ne (tgt := 82) dX8_mayStep_59 (by decide) (fun c17 => ?_) (fun c17 => ?_)
        · refine J_sub (l1 := [some (.ref 53), some (.int a1), none, some (.int x4), none]) ⟨rfl, ⟨rfl, ⟨rfl, trivial⟩⟩⟩ ?_
          exact hj16 x3
        · refine J_join (P := fun j => ∀ (x18 : Int32), J l RX8 cX8_mayStep 5 (Option.some Jvm.ClassFile.FieldType.int) false (rmD (2) 0 0) noCx (eI SH s0) SH 0 0 s0 88 [some (.ref 53), some (.int a1), none, some (.int x4), none] [.int x18] (j x18)) ?_ (fun j19 hj19 => ?_)
          · intro x18
            refine J_iconst (v := (0 : Int32)) dX8_mayStep_88 (by decide) ?_
            refine J_sub (l1 := [some (.ref 53), some (.int a1), none, some (.int x4), none]) ⟨rfl, ⟨rfl, ⟨rfl, trivial⟩⟩⟩ ?_
            exact hj12 x18 (0 : Int32)
          refine J_aload_n (i := 0) dX8_mayStep_62 rfl rfl ?_
          refine J_getR dX8_mayStep_63 fl_RX8_37 sh_53_14 ?_
          refine J_iload_n (i := 3) dX8_mayStep_66 rfl rfl ?_
          refine J_iald dX8_mayStep_67 sa_61 ?_
          refine J_iconst (v := (-1 : Int32)) dX8_mayStep_68 (by decide) ?_
          refine J_icmp_ne (tgt := 88) dX8_mayStep_69 (by decide) (fun c20 => ?_) (fun c20 => ?_)
          · refine J_sub (l1 := [some (.ref 53), some (.int a1), none, some (.int x4), none]) ⟨rfl, ⟨rfl, ⟨rfl, trivial⟩⟩⟩ ?_
            exact hj19 x3
          · refine J_aload_n (i := 0) dX8_mayStep_72 rfl rfl ?_
            refine J_iload_n (i := 3) dX8_mayStep_73 rfl rfl ?_
            refine J_iconst (v := (2 : Int32)) dX8_mayStep_74 (by decide) ?_
            refine J_callVI 53 [.int x4, .int (2 : Int32)] dX8_mayStep_75 ca_X8_of lk_RX8_96 vi_X8_of rc_53 rfl rfl ⟨by show _ ≤ _; simp only [rmD]; omega, by show _ ≤ _; simp only [rmD]; omega⟩ (Nat.le_of_ble_eq_true rfl) ⟨Nat.zero_le _, Nat.zero_le _⟩ (con_X8_of l _ _ _) (fun r21 _ => ?_)
            refine J_iload_n (i := 1) dX8_mayStep_78 rfl rfl ?_
            refine J_icmp_gt (tgt := 88) dX8_mayStep_79 (by decide) (fun c22 => ?_) (fun c22 => ?_)
            · refine J_sub (l1 := [some (.ref 53), some (.int a1), none, some (.int x4), none]) ⟨rfl, ⟨rfl, ⟨rfl, trivial⟩⟩⟩ ?_
              exact hj19 x3
            · refine J_sub (l1 := [some (.ref 53), some (.int a1), none, some (.int x4), none]) ⟨rfl, ⟨rfl, ⟨rfl, trivial⟩⟩⟩ ?_
              exact hj16 x3
      refine J_join (P := fun j => ∀ (_ : Unit), J l RX8 cX8_mayStep 5 (Option.some Jvm.ClassFile.FieldType.int) false (rmD (2) 0 0) noCx (eI SH s0) SH 0 0 s0 53 [some (.ref 53), some (.int a1), some (.int x3), some (.int x4), none] [] (j ())) ?_ (fun j23 hj23 => ?_)
      · intro _
        refine J_iconst (v := (0 : Int32)) dX8_mayStep_53 (by decide) ?_
        refine J_sub (l1 := [some (.ref 53), some (.int a1), some (.int x3), some (.int x4), none]) ⟨rfl, ⟨rfl, ⟨rfl, ⟨rfl, trivial⟩⟩⟩⟩ ?_
        exact hj9 (0 : Int32)
      refine J_aload_n (i := 0) dX8_mayStep_12 rfl rfl ?_
      refine J_getR dX8_mayStep_13 fl_RX8_37 sh_53_14 ?_
      refine J_iload_n (i := 3) dX8_mayStep_16 rfl rfl ?_
      refine J_iald dX8_mayStep_17 sa_61 ?_
      refine J_iconst (v := (-1 : Int32)) dX8_mayStep_18 (by decide) ?_
      refine J_icmp_eq (tgt := 53) dX8_mayStep_19 (by decide) (fun c24 => ?_) (fun c24 => ?_)
      · refine J_sub (l1 := [some (.ref 53), some (.int a1), some (.int x3), some (.int x4), none]) ⟨rfl, ⟨rfl, ⟨rfl, ⟨rfl, trivial⟩⟩⟩⟩ ?_
        exact hj23 ()
      · refine J_aload_n (i := 0) dX8_mayStep_22 rfl rfl ?_
        refine J_getR dX8_mayStep_23 fl_RX8_40 sh_53_15 ?_
        refine J_iload_n (i := 3) dX8_mayStep_26 rfl rfl ?_
        refine J_iald dX8_mayStep_27 sa_62 ?_
        refine J_iconst (v := (-1 : Int32)) dX8_mayStep_28 (by decide) ?_
        refine J_icmp_ne (tgt := 53) dX8_mayStep_29 (by decide) (fun c25 => ?_) (fun c25 => ?_)
        · refine J_sub (l1 := [some (.ref 53), some (.int a1), some (.int x3), some (.int x4), none]) ⟨rfl, ⟨rfl, ⟨rfl, ⟨rfl, trivial⟩⟩⟩⟩ ?_
          exact hj23 ()
        · refine J_iload_n (i := 1) dX8_mayStep_32 rfl rfl ?_
          refine J_aload_n (i := 0) dX8_mayStep_33 rfl rfl ?_
          refine J_getR dX8_mayStep_34 fl_RX8_37 sh_53_14 ?_
          refine J_iload_n (i := 3) dX8_mayStep_37 rfl rfl ?_
          refine J_iald dX8_mayStep_38 sa_61 ?_
          refine J_isub dX8_mayStep_39 ?_
          refine J_aload_n (i := 0) dX8_mayStep_40 rfl rfl ?_
          refine J_iload_n (i := 3) dX8_mayStep_41 rfl rfl ?_
          refine J_iconst (v := (1 : Int32)) dX8_mayStep_42 (by decide) ?_
          refine J_callVI 53 [.int x4, .int (1 : Int32)] dX8_mayStep_43 ca_X8_of lk_RX8_96 vi_X8_of rc_53 rfl rfl ⟨by show _ ≤ _; simp only [rmD]; omega, by show _ ≤ _; simp only [rmD]; omega⟩ (Nat.le_of_ble_eq_true rfl) ⟨Nat.zero_le _, Nat.zero_le _⟩ (con_X8_of l _ _ _) (fun r26 _ => ?_)
          refine J_icmp_lt (tgt := 53) dX8_mayStep_46 (by decide) (fun c27 => ?_) (fun c27 => ?_)
          · refine J_sub (l1 := [some (.ref 53), some (.int a1), some (.int x3), some (.int x4), none]) ⟨rfl, ⟨rfl, ⟨rfl, ⟨rfl, trivial⟩⟩⟩⟩ ?_
            exact hj23 ()
          · refine J_iconst (v := (1 : Int32)) dX8_mayStep_49 (by decide) ?_
            refine J_goto (tgt := 54) dX8_mayStep_50 (by decide) ?_
            refine J_sub (l1 := [some (.ref 53), some (.int a1), some (.int x3), some (.int x4), none]) ⟨rfl, ⟨rfl, ⟨rfl, ⟨rfl, trivial⟩⟩⟩⟩ ?_
            exact hj9 (1 : Int32)
set_option maxRecDepth 100000 in
set_option maxHeartbeats 4000000 in
theorem con_X8_mayStep (l : Launch) (N : Nat) (a1 : Int32) (s0 : jM) : Con l (2) yX8_mayStep cX8_mayStep 5 (Option.some Jvm.ClassFile.FieldType.int) (eI SH s0) SH [.ref 53, .int a1] s0 (f_X8_mayStep N a1 s0) := by
  refine Con_of (ls0 := [some (.ref 53), some (.int a1), none, none, none]) (ini := false) (mc := 0) (ms := 0) (by decide +kernel) rfl (Nat.le_of_ble_eq_true rfl) (fun h => by cases h) (fun _ _ => rfl) ?_
  unfold f_X8_mayStep
  refine J_iconst (v := (0 : Int32)) dX8_mayStep_0 (by decide) ?_
  refine J_istore_n (i := 2) (ls2 := [some (.ref 53), some (.int a1), some (.int (0 : Int32)), none, none]) dX8_mayStep_1 rfl rfl (by decide) ?_
  refine J_iconst (v := (0 : Int32)) dX8_mayStep_2 (by decide) ?_
  refine J_istore_n (i := 3) (ls2 := [some (.ref 53), some (.int a1), some (.int (0 : Int32)), some (.int (0 : Int32)), none]) dX8_mayStep_3 rfl rfl (by decide) ?_
  refine J_join (P := fun j => ∀ (x1 : Int32), J l RX8 cX8_mayStep 5 (Option.some Jvm.ClassFile.FieldType.int) false (rmD (2) 0 0) noCx (eI SH s0) SH 0 0 s0 97 [none, none, some (.int x1), none, none] [] (j x1)) ?_ (fun k2 hk2 => ?_)
  · intro x1
    refine J_iload_n (i := 2) dX8_mayStep_97 rfl rfl ?_
    exact J_ireturn dX8_mayStep_98 rfl rfl rfl
  refine J_sub (l1 := [some (.ref 53), some (.int a1), some (.int (0 : Int32)), some (.int (0 : Int32)), none]) ⟨rfl, ⟨rfl, ⟨rfl, ⟨rfl, trivial⟩⟩⟩⟩ ?_
  exact lp_X8_mayStep_4_ok l N  s0 a1 k2 hk2 N (0 : Int32) (0 : Int32)

def lp_X8_ahead__5 (N : Nat) (s0 : jM) (a1 : Int32) (a2 : Int32) (k2 : Int32 → Option Int32) : Nat → Int32 → Int32 → Option Int32
  | 0, _, _ => none
  | q + 1, x3, x4 => Option.bind (f_X8_walkers s0) fun r6 => if r6 ≤ x4 then (k2 x3) else (jn_ (fun (x8 : Int32) => jn_ (fun (x10 : Int32) (x11 : Int32) => lt_ (x10 ||| x11) fun x13 => lt_ (x4 + (1 : Int32)) fun x14 => lp_X8_ahead__5 N s0 a1 a2 k2 q x13 x14) fun j12 => if x8 = 0 then (j12 x3 (0 : Int32)) else (j12 x3 ((1 : Int32) <<< (x4 &&& 31)))) fun j9 => jn_ (fun (_ : Unit) => j9 (0 : Int32)) fun j16 => if ((a1 >>> (x4 &&& 31)) &&& (1 : Int32)) = (1 : Int32) then (jn_ (fun (_ : Unit) => j9 (1 : Int32)) fun j18 => gd (ib x4 8) <| if (gI s0 61 (Int32.toNatClampNeg x4)) = (-1 : Int32) then (j18 ()) else (gd (ib x4 8) <| gd (ib (32 : Int32) 101) <| if (gI s0 54 (Int32.toNatClampNeg (32 : Int32))) ≤ (a2 - (gI s0 61 (Int32.toNatClampNeg x4))) then (j16 ()) else (j18 ()))) else (j16 ()))
def f_X8_ahead_ (N : Nat) (a1 : Int32) (a2 : Int32) (s0 : jM) : Option Int32 := jn_ (fun (x1 : Int32) => some x1) fun k2 => lp_X8_ahead__5 N s0 a1 a2 k2 N (0 : Int32) (0 : Int32)
set_option maxRecDepth 100000 in
set_option maxHeartbeats 4000000 in
theorem lp_X8_ahead__5_ok (l : Launch) (N : Nat)  (s0 : jM) (a1 : Int32) (a2 : Int32) (k2 : Int32 → Option Int32) (hk2 : ∀ (x1 : Int32), J l RX8 cX8_ahead_ 6 (Option.some Jvm.ClassFile.FieldType.int) false (rmD (2) 0 0) noCx (eI SH s0) SH 0 0 s0 83 [none, none, none, some (.int x1), none, none] [] (k2 x1)) : ∀ (q : Nat) (x3 : Int32) (x4 : Int32), J l RX8 cX8_ahead_ 6 (Option.some Jvm.ClassFile.FieldType.int) false (rmD (2) 0 0) noCx (eI SH s0) SH 0 0 s0 5 [some (.ref 53), some (.int a1), some (.int a2), some (.int x3), some (.int x4), none] [] (lp_X8_ahead__5 N s0 a1 a2 k2 q x3 x4) := by
  intro q
  induction q with
  | zero => intro x3 x4; exact J_none
  | succ q hrec5 =>
    intro x3 x4
    rw [lp_X8_ahead__5]
    refine J_iload (i := 4) dX8_ahead__5 rfl ?_
    refine J_aload_n (i := 0) dX8_ahead__7 rfl rfl ?_
    refine J_callVI 53 [] dX8_ahead__8 ca_X8_walkers lk_RX8_70 vi_X8_walkers rc_53 rfl rfl ⟨by show _ ≤ _; simp only [rmD]; omega, by show _ ≤ _; simp only [rmD]; omega⟩ (Nat.le_of_ble_eq_true rfl) ⟨Nat.zero_le _, Nat.zero_le _⟩ (con_X8_walkers l _) (fun r6 _ => ?_)
    refine J_icmp_ge (tgt := 83) dX8_ahead__11 (by decide) (fun c7 => ?_) (fun c7 => ?_)
    · refine J_sub (l1 := [none, none, none, some (.int x3), none, none]) ⟨rfl, trivial⟩ ?_
      exact hk2 x3
    · refine J_join (P := fun j => ∀ (x8 : Int32), J l RX8 cX8_ahead_ 6 (Option.some Jvm.ClassFile.FieldType.int) false (rmD (2) 0 0) noCx (eI SH s0) SH 0 0 s0 59 [some (.ref 53), some (.int a1), some (.int a2), some (.int x3), some (.int x4), none] [.int x8] (j x8)) ?_ (fun j9 hj9 => ?_)
      · intro x8
        refine J_join (P := fun j => ∀ (x10 : Int32) (x11 : Int32), J l RX8 cX8_ahead_ 6 (Option.some Jvm.ClassFile.FieldType.int) false (rmD (2) 0 0) noCx (eI SH s0) SH 0 0 s0 75 [some (.ref 53), some (.int a1), some (.int a2), none, some (.int x4), none] [.int x11, .int x10] (j x10 x11)) ?_ (fun j12 hj12 => ?_)
        · intro x10 x11
          refine J_ior dX8_ahead__75 ?_
          refine J_istore_nN (i := 3) (LS := fun x13 => [some (.ref 53), some (.int a1), some (.int a2), some (.int x13), some (.int x4), none]) dX8_ahead__76 rfl (fun _ => rfl) (by decide) (fun x13 => ?_)
          refine J_iincN (i := 4) (v := x4 + (1 : Int32)) (LS := fun x14 => [some (.ref 53), some (.int a1), some (.int a2), some (.int x13), some (.int x14), none]) dX8_ahead__77 rfl (by first | rfl | decide) (fun _ => rfl) (by decide) (fun x14 => ?_)
          refine J_goto (tgt := 5) dX8_ahead__80 (by decide) ?_
          refine J_sub (l1 := [some (.ref 53), some (.int a1), some (.int a2), some (.int x13), some (.int x14), none]) ⟨rfl, ⟨rfl, ⟨rfl, ⟨rfl, ⟨rfl, trivial⟩⟩⟩⟩⟩ ?_
          exact hrec5 x13 x14
        refine J_istore (i := 5) (ls2 := [some (.ref 53), some (.int a1), some (.int a2), some (.int x3), some (.int x4), some (.int x8)]) dX8_ahead__59 rfl (by decide) ?_
        refine J_iload_n (i := 3) dX8_ahead__61 rfl rfl ?_
        refine J_iload (i := 5) dX8_ahead__62 rfl ?_
        refine J_if_eq (tgt := 74) dX8_ahead__64 (by decide) (fun c15 => ?_) (fun c15 => ?_)
        · refine J_iconst (v := (0 : Int32)) dX8_ahead__74 (by decide) ?_
          refine J_sub (l1 := [some (.ref 53), some (.int a1), some (.int a2), none, some (.int x4), none]) ⟨rfl, ⟨rfl, ⟨rfl, ⟨rfl, trivial⟩⟩⟩⟩ ?_
          exact hj12 x3 (0 : Int32)
        · refine J_iconst (v := (1 : Int32)) dX8_ahead__67 (by decide) ?_
          refine J_iload (i := 4) dX8_ahead__68 rfl ?_
          refine J_ishl dX8_ahead__70 ?_
          refine J_goto (tgt := 75) dX8_ahead__71 (by decide) ?_
          refine J_sub (l1 := [some (.ref 53), some (.int a1), some (.int a2), none, some (.int x4), none]) ⟨rfl, ⟨rfl, ⟨rfl, ⟨rfl, trivial⟩⟩⟩⟩ ?_
          exact hj12 x3 ((1 : Int32) <<< (x4 &&& 31))
      refine J_join (P := fun j => ∀ (_ : Unit), J l RX8 cX8_ahead_ 6 (Option.some Jvm.ClassFile.FieldType.int) false (rmD (2) 0 0) noCx (eI SH s0) SH 0 0 s0 58 [some (.ref 53), some (.int a1), some (.int a2), some (.int x3), some (.int x4), none] [] (j ())) ?_ (fun j16 hj16 => ?_)
      · intro _
        refine J_iconst (v := (0 : Int32)) dX8_ahead__58 (by decide) ?_
        refine J_sub (l1 := [some (.ref 53), some (.int a1), some (.int a2), some (.int x3), some (.int x4), none]) ⟨rfl, ⟨rfl, ⟨rfl, ⟨rfl, ⟨rfl, trivial⟩⟩⟩⟩⟩ ?_
        exact hj9 (0 : Int32)
      refine J_iload_n (i := 1) dX8_ahead__14 rfl rfl ?_
      refine J_iload (i := 4) dX8_ahead__15 rfl ?_
      refine J_ishr dX8_ahead__17 ?_
      refine J_iconst (v := (1 : Int32)) dX8_ahead__18 (by decide) ?_
      refine J_iand dX8_ahead__19 ?_
      refine J_iconst (v := (1 : Int32)) dX8_ahead__20 (by decide) ?_
      refine J_icmp_ne (tgt := 58) dX8_ahead__21 (by decide) (fun c17 => ?_) (fun c17 => ?_)
      · refine J_sub (l1 := [some (.ref 53), some (.int a1), some (.int a2), some (.int x3), some (.int x4), none]) ⟨rfl, ⟨rfl, ⟨rfl, ⟨rfl, ⟨rfl, trivial⟩⟩⟩⟩⟩ ?_
        exact hj16 ()
      · refine J_join (P := fun j => ∀ (_ : Unit), J l RX8 cX8_ahead_ 6 (Option.some Jvm.ClassFile.FieldType.int) false (rmD (2) 0 0) noCx (eI SH s0) SH 0 0 s0 54 [some (.ref 53), some (.int a1), some (.int a2), some (.int x3), some (.int x4), none] [] (j ())) ?_ (fun j18 hj18 => ?_)
        · intro _
          refine J_iconst (v := (1 : Int32)) dX8_ahead__54 (by decide) ?_
          refine J_goto (tgt := 59) dX8_ahead__55 (by decide) ?_
          refine J_sub (l1 := [some (.ref 53), some (.int a1), some (.int a2), some (.int x3), some (.int x4), none]) ⟨rfl, ⟨rfl, ⟨rfl, ⟨rfl, ⟨rfl, trivial⟩⟩⟩⟩⟩ ?_
          exact hj9 (1 : Int32)
        refine J_aload_n (i := 0) dX8_ahead__24 rfl rfl ?_
        refine J_getR dX8_ahead__25 fl_RX8_37 sh_53_14 ?_
        refine J_iload (i := 4) dX8_ahead__28 rfl ?_
        refine J_iald dX8_ahead__30 sa_61 ?_
        refine J_iconst (v := (-1 : Int32)) dX8_ahead__31 (by decide) ?_
        refine J_icmp_eq (tgt := 54) dX8_ahead__32 (by decide) (fun c19 => ?_) (fun c19 => ?_)
        · refine J_sub (l1 := [some (.ref 53), some (.int a1), some (.int a2), some (.int x3), some (.int x4), none]) ⟨rfl, ⟨rfl, ⟨rfl, ⟨rfl, ⟨rfl, trivial⟩⟩⟩⟩⟩ ?_
          exact hj18 ()
        · refine J_iload_n (i := 2) dX8_ahead__35 rfl rfl ?_
          refine J_aload_n (i := 0) dX8_ahead__36 rfl rfl ?_
          refine J_getR dX8_ahead__37 fl_RX8_37 sh_53_14 ?_
          refine J_iload (i := 4) dX8_ahead__40 rfl ?_
          refine J_iald dX8_ahead__42 sa_61 ?_
          refine J_isub dX8_ahead__43 ?_
          refine J_aload_n (i := 0) dX8_ahead__44 rfl rfl ?_
          refine J_getR dX8_ahead__45 fl_RX8_7 sh_53_0 ?_
          refine J_bipush (v := (32 : Int32)) dX8_ahead__48 (by decide) ?_
          refine J_iald dX8_ahead__50 sa_54 ?_
          refine J_icmp_ge (tgt := 58) dX8_ahead__51 (by decide) (fun c20 => ?_) (fun c20 => ?_)
          · refine J_sub (l1 := [some (.ref 53), some (.int a1), some (.int a2), some (.int x3), some (.int x4), none]) ⟨rfl, ⟨rfl, ⟨rfl, ⟨rfl, ⟨rfl, trivial⟩⟩⟩⟩⟩ ?_
            exact hj16 ()
          · refine J_sub (l1 := [some (.ref 53), some (.int a1), some (.int a2), some (.int x3), some (.int x4), none]) ⟨rfl, ⟨rfl, ⟨rfl, ⟨rfl, ⟨rfl, trivial⟩⟩⟩⟩⟩ ?_
            exact hj18 ()
set_option maxRecDepth 100000 in
set_option maxHeartbeats 4000000 in
theorem con_X8_ahead_ (l : Launch) (N : Nat) (a1 : Int32) (a2 : Int32) (s0 : jM) : Con l (2) yX8_ahead_ cX8_ahead_ 6 (Option.some Jvm.ClassFile.FieldType.int) (eI SH s0) SH [.ref 53, .int a1, .int a2] s0 (f_X8_ahead_ N a1 a2 s0) := by
  refine Con_of (ls0 := [some (.ref 53), some (.int a1), some (.int a2), none, none, none]) (ini := false) (mc := 0) (ms := 0) (by decide +kernel) rfl (Nat.le_of_ble_eq_true rfl) (fun h => by cases h) (fun _ _ => rfl) ?_
  unfold f_X8_ahead_
  refine J_iconst (v := (0 : Int32)) dX8_ahead__0 (by decide) ?_
  refine J_istore_n (i := 3) (ls2 := [some (.ref 53), some (.int a1), some (.int a2), some (.int (0 : Int32)), none, none]) dX8_ahead__1 rfl rfl (by decide) ?_
  refine J_iconst (v := (0 : Int32)) dX8_ahead__2 (by decide) ?_
  refine J_istore (i := 4) (ls2 := [some (.ref 53), some (.int a1), some (.int a2), some (.int (0 : Int32)), some (.int (0 : Int32)), none]) dX8_ahead__3 rfl (by decide) ?_
  refine J_join (P := fun j => ∀ (x1 : Int32), J l RX8 cX8_ahead_ 6 (Option.some Jvm.ClassFile.FieldType.int) false (rmD (2) 0 0) noCx (eI SH s0) SH 0 0 s0 83 [none, none, none, some (.int x1), none, none] [] (j x1)) ?_ (fun k2 hk2 => ?_)
  · intro x1
    refine J_iload_n (i := 3) dX8_ahead__83 rfl rfl ?_
    exact J_ireturn dX8_ahead__84 rfl rfl rfl
  refine J_sub (l1 := [some (.ref 53), some (.int a1), some (.int a2), some (.int (0 : Int32)), some (.int (0 : Int32)), none]) ⟨rfl, ⟨rfl, ⟨rfl, ⟨rfl, ⟨rfl, trivial⟩⟩⟩⟩⟩ ?_
  exact lp_X8_ahead__5_ok l N  s0 a1 a2 k2 hk2 N (0 : Int32) (0 : Int32)

def f_X8_isWellOn (N : Nat) (a1 : Int32) (a2 : Int32) (s0 : jM) : Option (Int32 × jM) := gd (ib (32 : Int32) 101) <| if (gI s0 54 (Int32.toNatClampNeg (32 : Int32))) = 0 then (Option.bind (f_X8_isWell N a1 a2 (0 : Int32) s0) fun r9 => gd (zb r9.1) (some (r9.1, r9.2))) else (jn_ (fun (s2 : jM) => some ((0 : Int32), s2)) fun j3 => Option.bind (f_X8_ahead_ N a1 a2 s0) fun r4 => Option.bind (f_X8_isWell N r4 a2 (0 : Int32) s0) fun r5 => if r5.1 = 0 then (j3 r5.2) else (Option.bind (f_X8_isWell N (a1 &&& (r4 ^^^ (-1 : Int32))) a2 (0 : Int32) r5.2) fun r7 => if r7.1 = 0 then (j3 r7.2) else (some ((1 : Int32), r7.2))))
set_option maxRecDepth 100000 in
set_option maxHeartbeats 4000000 in
theorem con_X8_isWellOn (l : Launch) (N : Nat) (a1 : Int32) (a2 : Int32) (s0 : jM) : Con l (6) yX8_isWellOn cX8_isWellOn 4 (Option.some Jvm.ClassFile.FieldType.boolean) (eIM SH) SH [.ref 53, .int a1, .int a2] s0 (f_X8_isWellOn N a1 a2 s0) := by
  refine Con_of (ls0 := [some (.ref 53), some (.int a1), some (.int a2), none]) (ini := false) (mc := 0) (ms := 0) (by decide +kernel) rfl (Nat.le_of_ble_eq_true rfl) (fun h => by cases h) (fun _ _ => rfl) ?_
  unfold f_X8_isWellOn
  refine J_aload_n (i := 0) dX8_isWellOn_0 rfl rfl ?_
  refine J_getR dX8_isWellOn_1 fl_RX8_7 sh_53_0 ?_
  refine J_bipush (v := (32 : Int32)) dX8_isWellOn_4 (by decide) ?_
  refine J_iald dX8_isWellOn_6 sa_54 ?_
  refine J_if_ne (tgt := 18) dX8_isWellOn_7 (by decide) (fun c1 => ?_) (fun c1 => ?_)
  · refine J_join (P := fun j => ∀ (s2 : jM), J l RX8 cX8_isWellOn 4 (Option.some Jvm.ClassFile.FieldType.boolean) false (rmD (6) 0 0) noCx (eIM SH) SH 0 0 s2 53 [none, none, none, none] [] (j s2)) ?_ (fun j3 hj3 => ?_)
    · intro s2
      refine J_iconst (v := (0 : Int32)) dX8_isWellOn_53 (by decide) ?_
      exact J_ireturn dX8_isWellOn_54 rfl rfl rfl
    refine J_aload_n (i := 0) dX8_isWellOn_18 rfl rfl ?_
    refine J_iload_n (i := 1) dX8_isWellOn_19 rfl rfl ?_
    refine J_iload_n (i := 2) dX8_isWellOn_20 rfl rfl ?_
    refine J_callVI 53 [.int a1, .int a2] dX8_isWellOn_21 ca_X8_ahead_ lk_RX8_179 vi_X8_ahead_ rc_53 rfl rfl ⟨by show _ ≤ _; simp only [rmD]; omega, by show _ ≤ _; simp only [rmD]; omega⟩ (Nat.le_of_ble_eq_true rfl) ⟨Nat.zero_le _, Nat.zero_le _⟩ (con_X8_ahead_ l N _ _ _) (fun r4 _ => ?_)
    refine J_istore_n (i := 3) (ls2 := [some (.ref 53), some (.int a1), some (.int a2), some (.int r4)]) dX8_isWellOn_24 rfl rfl (by decide) ?_
    refine J_aload_n (i := 0) dX8_isWellOn_25 rfl rfl ?_
    refine J_iload_n (i := 3) dX8_isWellOn_26 rfl rfl ?_
    refine J_iload_n (i := 2) dX8_isWellOn_27 rfl rfl ?_
    refine J_iconst (v := (0 : Int32)) dX8_isWellOn_28 (by decide) ?_
    refine J_callVIM 53 [.int r4, .int a2, .int (0 : Int32)] dX8_isWellOn_29 ca_X8_isWell lk_RX8_175 vi_X8_isWell rc_53 rfl rfl ⟨by show _ ≤ _; simp only [rmD]; omega, by show _ ≤ _; simp only [rmD]; omega⟩ (Nat.le_of_ble_eq_true rfl) ⟨Nat.zero_le _, Nat.zero_le _⟩ (con_X8_isWell l N _ _ _ _) (fun r5 _ => ?_)
    refine J_if_eq (tgt := 53) dX8_isWellOn_32 (by decide) (fun c6 => ?_) (fun c6 => ?_)
    · refine J_sub (l1 := [none, none, none, none]) trivial ?_
      exact hj3 r5.2
    · refine J_aload_n (i := 0) dX8_isWellOn_35 rfl rfl ?_
      refine J_iload_n (i := 1) dX8_isWellOn_36 rfl rfl ?_
      refine J_iload_n (i := 3) dX8_isWellOn_37 rfl rfl ?_
      refine J_iconst (v := (-1 : Int32)) dX8_isWellOn_38 (by decide) ?_
      refine J_ixor dX8_isWellOn_39 ?_
      refine J_iand dX8_isWellOn_40 ?_
      refine J_iload_n (i := 2) dX8_isWellOn_41 rfl rfl ?_
      refine J_iconst (v := (0 : Int32)) dX8_isWellOn_42 (by decide) ?_
      refine J_callVIM 53 [.int (a1 &&& (r4 ^^^ (-1 : Int32))), .int a2, .int (0 : Int32)] dX8_isWellOn_43 ca_X8_isWell lk_RX8_175 vi_X8_isWell rc_53 rfl rfl ⟨by show _ ≤ _; simp only [rmD]; omega, by show _ ≤ _; simp only [rmD]; omega⟩ (Nat.le_of_ble_eq_true rfl) ⟨Nat.zero_le _, Nat.zero_le _⟩ (con_X8_isWell l N _ _ _ _) (fun r7 _ => ?_)
      refine J_if_eq (tgt := 53) dX8_isWellOn_46 (by decide) (fun c8 => ?_) (fun c8 => ?_)
      · refine J_sub (l1 := [none, none, none, none]) trivial ?_
        exact hj3 r7.2
      · refine J_iconst (v := (1 : Int32)) dX8_isWellOn_49 (by decide) ?_
        refine J_goto (tgt := 54) dX8_isWellOn_50 (by decide) ?_
        exact J_ireturn dX8_isWellOn_54 rfl rfl rfl
  · refine J_aload_n (i := 0) dX8_isWellOn_10 rfl rfl ?_
    refine J_iload_n (i := 1) dX8_isWellOn_11 rfl rfl ?_
    refine J_iload_n (i := 2) dX8_isWellOn_12 rfl rfl ?_
    refine J_iconst (v := (0 : Int32)) dX8_isWellOn_13 (by decide) ?_
    refine J_callVIM 53 [.int a1, .int a2, .int (0 : Int32)] dX8_isWellOn_14 ca_X8_isWell lk_RX8_175 vi_X8_isWell rc_53 rfl rfl ⟨by show _ ≤ _; simp only [rmD]; omega, by show _ ≤ _; simp only [rmD]; omega⟩ (Nat.le_of_ble_eq_true rfl) ⟨Nat.zero_le _, Nat.zero_le _⟩ (con_X8_isWell l N _ _ _ _) (fun r9 _ => ?_)
    exact J_gd (fun hz => J_ireturn dX8_isWellOn_17 rfl (zb_nar hz) rfl)

def lp_X8_celebrate_178 (N : Nat) (x5 : Int32) (r9 : Int32) (x14 : Int32) (k18 : jM → Option jM) : Nat → Int32 → jM → Option jM
  | 0, _, _ => none
  | q + 1, x21, s22 => Option.bind (f_X8_walkers s22) fun r24 => if r24 ≤ x21 then (k18 s22) else (jn_ (fun (s26 : jM) => lt_ (x21 + (1 : Int32)) fun x28 => lp_X8_celebrate_178 N x5 r9 x14 k18 q x28 s26) fun j27 => if ((x14 >>> (x21 &&& 31)) &&& (1 : Int32)) = (1 : Int32) then (jn_ (fun (x30 : Int32) (x31 : Int32) => jn_ (fun (x33 : Int32) (x34 : Int32) (s35 : jM) => gd (ib x33 8) <| lt_ (pI s35 61 (Int32.toNatClampNeg x33) x34) fun s37 => j27 s37) fun j36 => gd (ib x30 8) <| lt_ (pI s22 62 (Int32.toNatClampNeg x30) x31) fun s38 => if ((r9 >>> (x21 &&& 31)) &&& (1 : Int32)) = (1 : Int32) then (gd (ib x21 8) <| j36 x21 (gI s38 61 (Int32.toNatClampNeg x21)) s38) else (j36 x21 x5 s38)) fun j32 => if ((r9 >>> (x21 &&& 31)) &&& (1 : Int32)) = (1 : Int32) then (j32 x21 x5) else (gd (ib x21 8) <| j32 x21 (gI s22 62 (Int32.toNatClampNeg x21)))) else (j27 s22))
def lp_X8_celebrate_64 (N : Nat) (x5 : Int32) (r9 : Int32) (r10 : Int32) (k13 : Int32 → jM → Option jM) : Nat → Int32 → Int32 → jM → Option jM
  | 0, _, _, _ => none
  | q + 1, x47, x48, s49 => if r10 < x48 then (k13 x47 s49) else (jn_ (fun (x52 : Int32) => jn_ (fun (x54 : Int32) (s55 : jM) => lt_ (x48 + (1 : Int32)) fun x57 => lp_X8_celebrate_64 N x5 r9 r10 k13 q x54 x57 s55) fun j56 => jn_ (fun (s58 : jM) => j56 x47 s58) fun j59 => if x52 = 0 then (j59 s49) else (Option.bind (f_X8_isWellOn N (r9 ^^^ x48) x5 s49) fun r61 => if r61.1 = 0 then (j59 r61.2) else (j56 x48 r61.2))) fun j53 => jn_ (fun (_ : Unit) => j53 (0 : Int32)) fun j63 => if (x48 &&& (r10 ^^^ (-1 : Int32))) = 0 then (jn_ (fun (_ : Unit) => j53 (1 : Int32)) fun j65 => if x47 = (-1 : Int32) then (j65 ()) else (Option.bind (f_X8_manyIn N x48) fun r67 => Option.bind (f_X8_manyIn N x47) fun r68 => if r67 ≤ r68 then (j63 ()) else (j65 ()))) else (j63 ()))
def lp_X8_celebrate_40 (N : Nat)  : Nat → Int32 → jM → Option jM
  | 0, _, _ => none
  | q + 1, x5, s6 => if (200 : Int32) ≤ x5 then (some s6) else (Option.bind (f_X8_onNow N s6) fun r9 => Option.bind (f_X8_mayStep N x5 s6) fun r10 => jn_ (fun (x11 : Int32) (s12 : jM) => jn_ (fun (x14 : Int32) (s15 : jM) => jn_ (fun (s17 : jM) => gd (ib x5 200) <| lt_ (pI s17 63 (Int32.toNatClampNeg x5) (r9 ^^^ x14)) fun s19 => lt_ (x5 + (1 : Int32)) fun x20 => lp_X8_celebrate_40 N q x20 s19) fun k18 => lp_X8_celebrate_178 N x5 r9 x14 k18 N (0 : Int32) s15) fun j16 => if x11 = (-1 : Int32) then (jn_ (fun (x42 : Int32) => lt_ (pI s12 53 18 x42) fun s44 => lt_ (pI s44 53 17 ((gI s44 53 17) + (1 : Int32))) fun s45 => j16 (0 : Int32) s45) fun j43 => if (gI s12 53 17) = 0 then (j43 x5) else (j43 (gI s12 53 18))) else (j16 x11 s12)) fun k13 => lp_X8_celebrate_64 N x5 r9 r10 k13 N (-1 : Int32) (0 : Int32) s6)
def lp_X8_celebrate_2 (N : Nat) (k2 : jM → Option jM) : Nat → Int32 → jM → Option jM
  | 0, _, _ => none
  | q + 1, x70, s71 => if (8 : Int32) ≤ x70 then (k2 s71) else (gd (ib x70 8) <| lt_ (pI s71 61 (Int32.toNatClampNeg x70) (-1 : Int32)) fun s74 => gd (ib x70 8) <| lt_ (pI s74 62 (Int32.toNatClampNeg x70) (-1 : Int32)) fun s75 => lt_ (x70 + (1 : Int32)) fun x76 => lp_X8_celebrate_2 N k2 q x76 s75)
def f_X8_celebrate (N : Nat)  (s0 : jM) : Option jM := jn_ (fun (s1 : jM) => lt_ (pI s1 53 17 (0 : Int32)) fun s3 => lt_ (pI s3 53 18 (-1 : Int32)) fun s4 => lp_X8_celebrate_40 N N (0 : Int32) s4) fun k2 => lp_X8_celebrate_2 N k2 N (0 : Int32) s0
set_option maxRecDepth 100000 in
set_option maxHeartbeats 4000000 in
theorem lp_X8_celebrate_178_ok (l : Launch) (N : Nat)  (x5 : Int32) (r9 : Int32) (x14 : Int32) (k18 : jM → Option jM) (hk18 : ∀ (s17 : jM), J l RX8 cX8_celebrate 7 (Option.none : Option Jvm.ClassFile.FieldType) false (rmD (7) 0 0) noCx (eV SH) SH 0 0 s17 260 [some (.ref 53), some (.int x5), some (.int r9), none, some (.int x14), none, none] [] (k18 s17)) : ∀ (q : Nat) (x21 : Int32) (s22 : jM), J l RX8 cX8_celebrate 7 (Option.none : Option Jvm.ClassFile.FieldType) false (rmD (7) 0 0) noCx (eV SH) SH 0 0 s22 178 [some (.ref 53), some (.int x5), some (.int r9), none, some (.int x14), some (.int x21), none] [] (lp_X8_celebrate_178 N x5 r9 x14 k18 q x21 s22) := by
  intro q
  induction q with
  | zero => intro x21 s22; exact J_none
  | succ q hrec23 =>
    intro x21 s22
    rw [lp_X8_celebrate_178]
    refine J_iload (i := 5) dX8_celebrate_178 rfl ?_
    refine J_aload_n (i := 0) dX8_celebrate_180 rfl rfl ?_
    refine J_callVI 53 [] dX8_celebrate_181 ca_X8_walkers lk_RX8_70 vi_X8_walkers rc_53 rfl rfl ⟨by show _ ≤ _; simp only [rmD]; omega, by show _ ≤ _; simp only [rmD]; omega⟩ (Nat.le_of_ble_eq_true rfl) ⟨Nat.zero_le _, Nat.zero_le _⟩ (con_X8_walkers l _) (fun r24 _ => ?_)
    refine J_icmp_ge (tgt := 260) dX8_celebrate_184 (by decide) (fun c25 => ?_) (fun c25 => ?_)
    · refine J_sub (l1 := [some (.ref 53), some (.int x5), some (.int r9), none, some (.int x14), none, none]) ⟨rfl, ⟨rfl, ⟨rfl, ⟨rfl, trivial⟩⟩⟩⟩ ?_
      exact hk18 s22
    · refine J_join (P := fun j => ∀ (s26 : jM), J l RX8 cX8_celebrate 7 (Option.none : Option Jvm.ClassFile.FieldType) false (rmD (7) 0 0) noCx (eV SH) SH 0 0 s26 254 [some (.ref 53), some (.int x5), some (.int r9), none, some (.int x14), some (.int x21), none] [] (j s26)) ?_ (fun j27 hj27 => ?_)
      · intro s26
        refine J_iincN (i := 5) (v := x21 + (1 : Int32)) (LS := fun x28 => [some (.ref 53), some (.int x5), some (.int r9), none, some (.int x14), some (.int x28), none]) dX8_celebrate_254 rfl (by first | rfl | decide) (fun _ => rfl) (by decide) (fun x28 => ?_)
        refine J_goto (tgt := 178) dX8_celebrate_257 (by decide) ?_
        refine J_sub (l1 := [some (.ref 53), some (.int x5), some (.int r9), none, some (.int x14), some (.int x28), none]) ⟨rfl, ⟨rfl, ⟨rfl, ⟨rfl, ⟨rfl, trivial⟩⟩⟩⟩⟩ ?_
        exact hrec23 x28 s26
      refine J_iload (i := 4) dX8_celebrate_187 rfl ?_
      refine J_iload (i := 5) dX8_celebrate_189 rfl ?_
      refine J_ishr dX8_celebrate_191 ?_
      refine J_iconst (v := (1 : Int32)) dX8_celebrate_192 (by decide) ?_
      refine J_iand dX8_celebrate_193 ?_
      refine J_iconst (v := (1 : Int32)) dX8_celebrate_194 (by decide) ?_
      refine J_icmp_ne (tgt := 254) dX8_celebrate_195 (by decide) (fun c29 => ?_) (fun c29 => ?_)
      · refine J_sub (l1 := [some (.ref 53), some (.int x5), some (.int r9), none, some (.int x14), some (.int x21), none]) ⟨rfl, ⟨rfl, ⟨rfl, ⟨rfl, ⟨rfl, trivial⟩⟩⟩⟩⟩ ?_
        exact hj27 s22
      · refine J_join (P := fun j => ∀ (x30 : Int32) (x31 : Int32), J l RX8 cX8_celebrate 7 (Option.none : Option Jvm.ClassFile.FieldType) false (rmD (7) 0 0) noCx (eV SH) SH 0 0 s22 225 [some (.ref 53), some (.int x5), some (.int r9), none, some (.int x14), some (.int x21), none] [.int x31, .int x30, .ref 62] (j x30 x31)) ?_ (fun j32 hj32 => ?_)
        · intro x30 x31
          refine J_join (P := fun j => ∀ (x33 : Int32) (x34 : Int32) (s35 : jM), J l RX8 cX8_celebrate 7 (Option.none : Option Jvm.ClassFile.FieldType) false (rmD (7) 0 0) noCx (eV SH) SH 0 0 s35 253 [some (.ref 53), some (.int x5), some (.int r9), none, some (.int x14), some (.int x21), none] [.int x34, .int x33, .ref 61] (j x33 x34 s35)) ?_ (fun j36 hj36 => ?_)
          · intro x33 x34 s35
            refine J_iast dX8_celebrate_253 sa_61 ?_
            refine J_letM rfl (fun s37 => ?_)
            refine J_sub (l1 := [some (.ref 53), some (.int x5), some (.int r9), none, some (.int x14), some (.int x21), none]) ⟨rfl, ⟨rfl, ⟨rfl, ⟨rfl, ⟨rfl, trivial⟩⟩⟩⟩⟩ ?_
            exact hj27 s37
          refine J_iast dX8_celebrate_225 sa_62 ?_
          refine J_letM rfl (fun s38 => ?_)
          refine J_aload_n (i := 0) dX8_celebrate_226 rfl rfl ?_
          refine J_getR dX8_celebrate_227 fl_RX8_37 sh_53_14 ?_
          refine J_iload (i := 5) dX8_celebrate_230 rfl ?_
          refine J_iload_n (i := 2) dX8_celebrate_232 rfl rfl ?_
          refine J_iload (i := 5) dX8_celebrate_233 rfl ?_
          refine J_ishr dX8_celebrate_235 ?_
          refine J_iconst (v := (1 : Int32)) dX8_celebrate_236 (by decide) ?_
          refine J_iand dX8_celebrate_237 ?_
          refine J_iconst (v := (1 : Int32)) dX8_celebrate_238 (by decide) ?_
          refine J_icmp_ne (tgt := 252) dX8_celebrate_239 (by decide) (fun c39 => ?_) (fun c39 => ?_)
          · refine J_iload_n (i := 1) dX8_celebrate_252 rfl rfl ?_
            refine J_sub (l1 := [some (.ref 53), some (.int x5), some (.int r9), none, some (.int x14), some (.int x21), none]) ⟨rfl, ⟨rfl, ⟨rfl, ⟨rfl, ⟨rfl, trivial⟩⟩⟩⟩⟩ ?_
            exact hj36 x21 x5 s38
          · refine J_aload_n (i := 0) dX8_celebrate_242 rfl rfl ?_
            refine J_getR dX8_celebrate_243 fl_RX8_37 sh_53_14 ?_
            refine J_iload (i := 5) dX8_celebrate_246 rfl ?_
            refine J_iald dX8_celebrate_248 sa_61 ?_
            refine J_goto (tgt := 253) dX8_celebrate_249 (by decide) ?_
            refine J_sub (l1 := [some (.ref 53), some (.int x5), some (.int r9), none, some (.int x14), some (.int x21), none]) ⟨rfl, ⟨rfl, ⟨rfl, ⟨rfl, ⟨rfl, trivial⟩⟩⟩⟩⟩ ?_
            exact hj36 x21 (gI s38 61 (Int32.toNatClampNeg x21)) s38
        refine J_aload_n (i := 0) dX8_celebrate_198 rfl rfl ?_
        refine J_getR dX8_celebrate_199 fl_RX8_40 sh_53_15 ?_
        refine J_iload (i := 5) dX8_celebrate_202 rfl ?_
        refine J_iload_n (i := 2) dX8_celebrate_204 rfl rfl ?_
        refine J_iload (i := 5) dX8_celebrate_205 rfl ?_
        refine J_ishr dX8_celebrate_207 ?_
        refine J_iconst (v := (1 : Int32)) dX8_celebrate_208 (by decide) ?_
        refine J_iand dX8_celebrate_209 ?_
        refine J_iconst (v := (1 : Int32)) dX8_celebrate_210 (by decide) ?_
        refine J_icmp_ne (tgt := 218) dX8_celebrate_211 (by decide) (fun c40 => ?_) (fun c40 => ?_)
        · refine J_aload_n (i := 0) dX8_celebrate_218 rfl rfl ?_
          refine J_getR dX8_celebrate_219 fl_RX8_40 sh_53_15 ?_
          refine J_iload (i := 5) dX8_celebrate_222 rfl ?_
          refine J_iald dX8_celebrate_224 sa_62 ?_
          refine J_sub (l1 := [some (.ref 53), some (.int x5), some (.int r9), none, some (.int x14), some (.int x21), none]) ⟨rfl, ⟨rfl, ⟨rfl, ⟨rfl, ⟨rfl, trivial⟩⟩⟩⟩⟩ ?_
          exact hj32 x21 (gI s22 62 (Int32.toNatClampNeg x21))
        · refine J_iload_n (i := 1) dX8_celebrate_214 rfl rfl ?_
          refine J_goto (tgt := 225) dX8_celebrate_215 (by decide) ?_
          refine J_sub (l1 := [some (.ref 53), some (.int x5), some (.int r9), none, some (.int x14), some (.int x21), none]) ⟨rfl, ⟨rfl, ⟨rfl, ⟨rfl, ⟨rfl, trivial⟩⟩⟩⟩⟩ ?_
          exact hj32 x21 x5
set_option maxRecDepth 100000 in
set_option maxHeartbeats 4000000 in
theorem lp_X8_celebrate_64_ok (l : Launch) (N : Nat)  (x5 : Int32) (r9 : Int32) (r10 : Int32) (k13 : Int32 → jM → Option jM) (hk13 : ∀ (x11 : Int32) (s12 : jM), J l RX8 cX8_celebrate 7 (Option.none : Option Jvm.ClassFile.FieldType) false (rmD (7) 0 0) noCx (eV SH) SH 0 0 s12 137 [some (.ref 53), some (.int x5), some (.int r9), none, some (.int x11), none, none] [] (k13 x11 s12)) : ∀ (q : Nat) (x47 : Int32) (x48 : Int32) (s49 : jM), J l RX8 cX8_celebrate 7 (Option.none : Option Jvm.ClassFile.FieldType) false (rmD (7) 0 0) noCx (eV SH) SH 0 0 s49 64 [some (.ref 53), some (.int x5), some (.int r9), some (.int r10), some (.int x47), some (.int x48), none] [] (lp_X8_celebrate_64 N x5 r9 r10 k13 q x47 x48 s49) := by
  intro q
  induction q with
  | zero => intro x47 x48 s49; exact J_none
  | succ q hrec50 =>
    intro x47 x48 s49
    rw [lp_X8_celebrate_64]
    refine J_iload (i := 5) dX8_celebrate_64 rfl ?_
    refine J_iload_n (i := 3) dX8_celebrate_66 rfl rfl ?_
    refine J_icmp_gt (tgt := 137) dX8_celebrate_67 (by decide) (fun c51 => ?_) (fun c51 => ?_)
    · refine J_sub (l1 := [some (.ref 53), some (.int x5), some (.int r9), none, some (.int x47), none, none]) ⟨rfl, ⟨rfl, ⟨rfl, ⟨rfl, trivial⟩⟩⟩⟩ ?_
      exact hk13 x47 s49
    · refine J_join (P := fun j => ∀ (x52 : Int32), J l RX8 cX8_celebrate 7 (Option.none : Option Jvm.ClassFile.FieldType) false (rmD (7) 0 0) noCx (eV SH) SH 0 0 s49 103 [some (.ref 53), some (.int x5), some (.int r9), some (.int r10), some (.int x47), some (.int x48), none] [.int x52] (j x52)) ?_ (fun j53 hj53 => ?_)
      · intro x52
        refine J_join (P := fun j => ∀ (x54 : Int32) (s55 : jM), J l RX8 cX8_celebrate 7 (Option.none : Option Jvm.ClassFile.FieldType) false (rmD (7) 0 0) noCx (eV SH) SH 0 0 s55 129 [some (.ref 53), some (.int x5), some (.int r9), some (.int r10), none, some (.int x48), none] [.int x54] (j x54 s55)) ?_ (fun j56 hj56 => ?_)
        · intro x54 s55
          refine J_istore (i := 4) (ls2 := [some (.ref 53), some (.int x5), some (.int r9), some (.int r10), some (.int x54), some (.int x48), none]) dX8_celebrate_129 rfl (by decide) ?_
          refine J_iincN (i := 5) (v := x48 + (1 : Int32)) (LS := fun x57 => [some (.ref 53), some (.int x5), some (.int r9), some (.int r10), some (.int x54), some (.int x57), none]) dX8_celebrate_131 rfl (by first | rfl | decide) (fun _ => rfl) (by decide) (fun x57 => ?_)
          refine J_goto (tgt := 64) dX8_celebrate_134 (by decide) ?_
          refine J_sub (l1 := [some (.ref 53), some (.int x5), some (.int r9), some (.int r10), some (.int x54), some (.int x57), none]) ⟨rfl, ⟨rfl, ⟨rfl, ⟨rfl, ⟨rfl, ⟨rfl, trivial⟩⟩⟩⟩⟩⟩ ?_
          exact hrec50 x54 x57 s55
        refine J_join (P := fun j => ∀ (s58 : jM), J l RX8 cX8_celebrate 7 (Option.none : Option Jvm.ClassFile.FieldType) false (rmD (7) 0 0) noCx (eV SH) SH 0 0 s58 127 [some (.ref 53), some (.int x5), some (.int r9), some (.int r10), some (.int x47), some (.int x48), none] [] (j s58)) ?_ (fun j59 hj59 => ?_)
        · intro s58
          refine J_iload (i := 4) dX8_celebrate_127 rfl ?_
          refine J_sub (l1 := [some (.ref 53), some (.int x5), some (.int r9), some (.int r10), none, some (.int x48), none]) ⟨rfl, ⟨rfl, ⟨rfl, ⟨rfl, ⟨rfl, trivial⟩⟩⟩⟩⟩ ?_
          exact hj56 x47 s58
        refine J_istore (i := 6) (ls2 := [some (.ref 53), some (.int x5), some (.int r9), some (.int r10), some (.int x47), some (.int x48), some (.int x52)]) dX8_celebrate_103 rfl (by decide) ?_
        refine J_iload (i := 6) dX8_celebrate_105 rfl ?_
        refine J_if_eq (tgt := 127) dX8_celebrate_107 (by decide) (fun c60 => ?_) (fun c60 => ?_)
        · refine J_sub (l1 := [some (.ref 53), some (.int x5), some (.int r9), some (.int r10), some (.int x47), some (.int x48), none]) ⟨rfl, ⟨rfl, ⟨rfl, ⟨rfl, ⟨rfl, ⟨rfl, trivial⟩⟩⟩⟩⟩⟩ ?_
          exact hj59 s49
        · refine J_aload_n (i := 0) dX8_celebrate_110 rfl rfl ?_
          refine J_iload_n (i := 2) dX8_celebrate_111 rfl rfl ?_
          refine J_iload (i := 5) dX8_celebrate_112 rfl ?_
          refine J_ixor dX8_celebrate_114 ?_
          refine J_iload_n (i := 1) dX8_celebrate_115 rfl rfl ?_
          refine J_callVIM 53 [.int (r9 ^^^ x48), .int x5] dX8_celebrate_116 ca_X8_isWellOn lk_RX8_196 vi_X8_isWellOn rc_53 rfl rfl ⟨by show _ ≤ _; simp only [rmD]; omega, by show _ ≤ _; simp only [rmD]; omega⟩ (Nat.le_of_ble_eq_true rfl) ⟨Nat.zero_le _, Nat.zero_le _⟩ (con_X8_isWellOn l N _ _ _) (fun r61 _ => ?_)
          refine J_if_eq (tgt := 127) dX8_celebrate_119 (by decide) (fun c62 => ?_) (fun c62 => ?_)
          · refine J_sub (l1 := [some (.ref 53), some (.int x5), some (.int r9), some (.int r10), some (.int x47), some (.int x48), none]) ⟨rfl, ⟨rfl, ⟨rfl, ⟨rfl, ⟨rfl, ⟨rfl, trivial⟩⟩⟩⟩⟩⟩ ?_
            exact hj59 r61.2
          · refine J_iload (i := 5) dX8_celebrate_122 rfl ?_
            refine J_goto (tgt := 129) dX8_celebrate_124 (by decide) ?_
            refine J_sub (l1 := [some (.ref 53), some (.int x5), some (.int r9), some (.int r10), none, some (.int x48), none]) ⟨rfl, ⟨rfl, ⟨rfl, ⟨rfl, ⟨rfl, trivial⟩⟩⟩⟩⟩ ?_
            exact hj56 x48 r61.2
      refine J_join (P := fun j => ∀ (_ : Unit), J l RX8 cX8_celebrate 7 (Option.none : Option Jvm.ClassFile.FieldType) false (rmD (7) 0 0) noCx (eV SH) SH 0 0 s49 102 [some (.ref 53), some (.int x5), some (.int r9), some (.int r10), some (.int x47), some (.int x48), none] [] (j ())) ?_ (fun j63 hj63 => ?_)
      · intro _
        refine J_iconst (v := (0 : Int32)) dX8_celebrate_102 (by decide) ?_
        refine J_sub (l1 := [some (.ref 53), some (.int x5), some (.int r9), some (.int r10), some (.int x47), some (.int x48), none]) ⟨rfl, ⟨rfl, ⟨rfl, ⟨rfl, ⟨rfl, ⟨rfl, trivial⟩⟩⟩⟩⟩⟩ ?_
        exact hj53 (0 : Int32)
      refine J_iload (i := 5) dX8_celebrate_70 rfl ?_
      refine J_iload_n (i := 3) dX8_celebrate_72 rfl rfl ?_
      refine J_iconst (v := (-1 : Int32)) dX8_celebrate_73 (by decide) ?_
      refine J_ixor dX8_celebrate_74 ?_
      refine J_iand dX8_celebrate_75 ?_
      refine J_if_ne (tgt := 102) dX8_celebrate_76 (by decide) (fun c64 => ?_) (fun c64 => ?_)
      · refine J_sub (l1 := [some (.ref 53), some (.int x5), some (.int r9), some (.int r10), some (.int x47), some (.int x48), none]) ⟨rfl, ⟨rfl, ⟨rfl, ⟨rfl, ⟨rfl, ⟨rfl, trivial⟩⟩⟩⟩⟩⟩ ?_
        exact hj63 ()
      · refine J_join (P := fun j => ∀ (_ : Unit), J l RX8 cX8_celebrate 7 (Option.none : Option Jvm.ClassFile.FieldType) false (rmD (7) 0 0) noCx (eV SH) SH 0 0 s49 98 [some (.ref 53), some (.int x5), some (.int r9), some (.int r10), some (.int x47), some (.int x48), none] [] (j ())) ?_ (fun j65 hj65 => ?_)
        · intro _
          refine J_iconst (v := (1 : Int32)) dX8_celebrate_98 (by decide) ?_
          refine J_goto (tgt := 103) dX8_celebrate_99 (by decide) ?_
          refine J_sub (l1 := [some (.ref 53), some (.int x5), some (.int r9), some (.int r10), some (.int x47), some (.int x48), none]) ⟨rfl, ⟨rfl, ⟨rfl, ⟨rfl, ⟨rfl, ⟨rfl, trivial⟩⟩⟩⟩⟩⟩ ?_
          exact hj53 (1 : Int32)
        refine J_iload (i := 4) dX8_celebrate_79 rfl ?_
        refine J_iconst (v := (-1 : Int32)) dX8_celebrate_81 (by decide) ?_
        refine J_icmp_eq (tgt := 98) dX8_celebrate_82 (by decide) (fun c66 => ?_) (fun c66 => ?_)
        · refine J_sub (l1 := [some (.ref 53), some (.int x5), some (.int r9), some (.int r10), some (.int x47), some (.int x48), none]) ⟨rfl, ⟨rfl, ⟨rfl, ⟨rfl, ⟨rfl, ⟨rfl, trivial⟩⟩⟩⟩⟩⟩ ?_
          exact hj65 ()
        · refine J_iload (i := 5) dX8_celebrate_85 rfl ?_
          refine J_callSI [.int x48] dX8_celebrate_87 ca_X8_manyIn lk_RX8_193 st_X8_manyIn rfl rfl ⟨by show _ ≤ _; simp only [rmD]; omega, by show _ ≤ _; simp only [rmD]; omega⟩ (Nat.le_of_ble_eq_true rfl) ⟨Nat.zero_le _, Nat.zero_le _⟩ (con_X8_manyIn l N _ _) (fun r67 _ => ?_)
          refine J_iload (i := 4) dX8_celebrate_90 rfl ?_
          refine J_callSI [.int x47] dX8_celebrate_92 ca_X8_manyIn lk_RX8_193 st_X8_manyIn rfl rfl ⟨by show _ ≤ _; simp only [rmD]; omega, by show _ ≤ _; simp only [rmD]; omega⟩ (Nat.le_of_ble_eq_true rfl) ⟨Nat.zero_le _, Nat.zero_le _⟩ (con_X8_manyIn l N _ _) (fun r68 _ => ?_)
          refine J_icmp_le (tgt := 102) dX8_celebrate_95 (by decide) (fun c69 => ?_) (fun c69 => ?_)
          · refine J_sub (l1 := [some (.ref 53), some (.int x5), some (.int r9), some (.int r10), some (.int x47), some (.int x48), none]) ⟨rfl, ⟨rfl, ⟨rfl, ⟨rfl, ⟨rfl, ⟨rfl, trivial⟩⟩⟩⟩⟩⟩ ?_
            exact hj63 ()
          · refine J_sub (l1 := [some (.ref 53), some (.int x5), some (.int r9), some (.int r10), some (.int x47), some (.int x48), none]) ⟨rfl, ⟨rfl, ⟨rfl, ⟨rfl, ⟨rfl, ⟨rfl, trivial⟩⟩⟩⟩⟩⟩ ?_
            exact hj65 ()
set_option maxRecDepth 100000 in
set_option maxHeartbeats 4000000 in
theorem lp_X8_celebrate_40_ok (l : Launch) (N : Nat)    : ∀ (q : Nat) (x5 : Int32) (s6 : jM), J l RX8 cX8_celebrate 7 (Option.none : Option Jvm.ClassFile.FieldType) false (rmD (7) 0 0) noCx (eV SH) SH 0 0 s6 40 [some (.ref 53), some (.int x5), none, none, none, none, none] [] (lp_X8_celebrate_40 N q x5 s6) := by
  intro q
  induction q with
  | zero => intro x5 s6; exact J_none
  | succ q hrec7 =>
    intro x5 s6
    rw [lp_X8_celebrate_40]
    refine J_iload_n (i := 1) dX8_celebrate_40 rfl rfl ?_
    refine J_sipush (v := (200 : Int32)) dX8_celebrate_41 (by decide) ?_
    refine J_icmp_ge (tgt := 276) dX8_celebrate_44 (by decide) (fun c8 => ?_) (fun c8 => ?_)
    · exact J_return dX8_celebrate_276 rfl rfl
    · refine J_aload_n (i := 0) dX8_celebrate_47 rfl rfl ?_
      refine J_callVI 53 [] dX8_celebrate_48 ca_X8_onNow lk_RX8_187 vi_X8_onNow rc_53 rfl rfl ⟨by show _ ≤ _; simp only [rmD]; omega, by show _ ≤ _; simp only [rmD]; omega⟩ (Nat.le_of_ble_eq_true rfl) ⟨Nat.zero_le _, Nat.zero_le _⟩ (con_X8_onNow l N _) (fun r9 _ => ?_)
      refine J_istore_n (i := 2) (ls2 := [some (.ref 53), some (.int x5), some (.int r9), none, none, none, none]) dX8_celebrate_51 rfl rfl (by decide) ?_
      refine J_aload_n (i := 0) dX8_celebrate_52 rfl rfl ?_
      refine J_iload_n (i := 1) dX8_celebrate_53 rfl rfl ?_
      refine J_callVI 53 [.int x5] dX8_celebrate_54 ca_X8_mayStep lk_RX8_190 vi_X8_mayStep rc_53 rfl rfl ⟨by show _ ≤ _; simp only [rmD]; omega, by show _ ≤ _; simp only [rmD]; omega⟩ (Nat.le_of_ble_eq_true rfl) ⟨Nat.zero_le _, Nat.zero_le _⟩ (con_X8_mayStep l N _ _) (fun r10 _ => ?_)
      refine J_istore_n (i := 3) (ls2 := [some (.ref 53), some (.int x5), some (.int r9), some (.int r10), none, none, none]) dX8_celebrate_57 rfl rfl (by decide) ?_
      refine J_iconst (v := (-1 : Int32)) dX8_celebrate_58 (by decide) ?_
      refine J_istore (i := 4) (ls2 := [some (.ref 53), some (.int x5), some (.int r9), some (.int r10), some (.int (-1 : Int32)), none, none]) dX8_celebrate_59 rfl (by decide) ?_
      refine J_iconst (v := (0 : Int32)) dX8_celebrate_61 (by decide) ?_
      refine J_istore (i := 5) (ls2 := [some (.ref 53), some (.int x5), some (.int r9), some (.int r10), some (.int (-1 : Int32)), some (.int (0 : Int32)), none]) dX8_celebrate_62 rfl (by decide) ?_
      refine J_join (P := fun j => ∀ (x11 : Int32) (s12 : jM), J l RX8 cX8_celebrate 7 (Option.none : Option Jvm.ClassFile.FieldType) false (rmD (7) 0 0) noCx (eV SH) SH 0 0 s12 137 [some (.ref 53), some (.int x5), some (.int r9), none, some (.int x11), none, none] [] (j x11 s12)) ?_ (fun k13 hk13 => ?_)
      · intro x11 s12
        refine J_join (P := fun j => ∀ (x14 : Int32) (s15 : jM), J l RX8 cX8_celebrate 7 (Option.none : Option Jvm.ClassFile.FieldType) false (rmD (7) 0 0) noCx (eV SH) SH 0 0 s15 175 [some (.ref 53), some (.int x5), some (.int r9), none, some (.int x14), none, none] [] (j x14 s15)) ?_ (fun j16 hj16 => ?_)
        · intro x14 s15
          refine J_iconst (v := (0 : Int32)) dX8_celebrate_175 (by decide) ?_
          refine J_istore (i := 5) (ls2 := [some (.ref 53), some (.int x5), some (.int r9), none, some (.int x14), some (.int (0 : Int32)), none]) dX8_celebrate_176 rfl (by decide) ?_
          refine J_join (P := fun j => ∀ (s17 : jM), J l RX8 cX8_celebrate 7 (Option.none : Option Jvm.ClassFile.FieldType) false (rmD (7) 0 0) noCx (eV SH) SH 0 0 s17 260 [some (.ref 53), some (.int x5), some (.int r9), none, some (.int x14), none, none] [] (j s17)) ?_ (fun k18 hk18 => ?_)
          · intro s17
            refine J_aload_n (i := 0) dX8_celebrate_260 rfl rfl ?_
            refine J_getR dX8_celebrate_261 fl_RX8_43 sh_53_16 ?_
            refine J_iload_n (i := 1) dX8_celebrate_264 rfl rfl ?_
            refine J_iload_n (i := 2) dX8_celebrate_265 rfl rfl ?_
            refine J_iload (i := 4) dX8_celebrate_266 rfl ?_
            refine J_ixor dX8_celebrate_268 ?_
            refine J_iast dX8_celebrate_269 sa_63 ?_
            refine J_letM rfl (fun s19 => ?_)
            refine J_iincN (i := 1) (v := x5 + (1 : Int32)) (LS := fun x20 => [some (.ref 53), some (.int x20), some (.int r9), none, some (.int x14), none, none]) dX8_celebrate_270 rfl (by first | rfl | decide) (fun _ => rfl) (by decide) (fun x20 => ?_)
            refine J_goto (tgt := 40) dX8_celebrate_273 (by decide) ?_
            refine J_sub (l1 := [some (.ref 53), some (.int x20), none, none, none, none, none]) ⟨rfl, ⟨rfl, trivial⟩⟩ ?_
            exact hrec7 x20 s19
          refine J_sub (l1 := [some (.ref 53), some (.int x5), some (.int r9), none, some (.int x14), some (.int (0 : Int32)), none]) ⟨rfl, ⟨rfl, ⟨rfl, ⟨rfl, ⟨rfl, trivial⟩⟩⟩⟩⟩ ?_
          exact lp_X8_celebrate_178_ok l N  x5 r9 x14 k18 hk18 N (0 : Int32) s15
        refine J_iload (i := 4) dX8_celebrate_137 rfl ?_
        refine J_iconst (v := (-1 : Int32)) dX8_celebrate_139 (by decide) ?_
        refine J_icmp_ne (tgt := 175) dX8_celebrate_140 (by decide) (fun c41 => ?_) (fun c41 => ?_)
        · refine J_sub (l1 := [some (.ref 53), some (.int x5), some (.int r9), none, some (.int x11), none, none]) ⟨rfl, ⟨rfl, ⟨rfl, ⟨rfl, trivial⟩⟩⟩⟩ ?_
          exact hj16 x11 s12
        · refine J_join (P := fun j => ∀ (x42 : Int32), J l RX8 cX8_celebrate 7 (Option.none : Option Jvm.ClassFile.FieldType) false (rmD (7) 0 0) noCx (eV SH) SH 0 0 s12 159 [some (.ref 53), some (.int x5), some (.int r9), none, none, none, none] [.int x42, .ref 53] (j x42)) ?_ (fun j43 hj43 => ?_)
          · intro x42
            refine J_putI dX8_celebrate_159 fp_RX8_184 (fun h => by first | rfl | cases h) sh_53_18 rfl rfl ?_
            refine J_letM rfl (fun s44 => ?_)
            refine J_aload_n (i := 0) dX8_celebrate_162 rfl rfl ?_
            refine J_dup dX8_celebrate_163 rfl ?_
            refine J_getI dX8_celebrate_164 fl_RX8_181 sh_53_17 ?_
            refine J_iconst (v := (1 : Int32)) dX8_celebrate_167 (by decide) ?_
            refine J_iadd dX8_celebrate_168 ?_
            refine J_putI dX8_celebrate_169 fp_RX8_181 (fun h => by first | rfl | cases h) sh_53_17 rfl rfl ?_
            refine J_letM rfl (fun s45 => ?_)
            refine J_iconst (v := (0 : Int32)) dX8_celebrate_172 (by decide) ?_
            refine J_istore (i := 4) (ls2 := [some (.ref 53), some (.int x5), some (.int r9), none, some (.int (0 : Int32)), none, none]) dX8_celebrate_173 rfl (by decide) ?_
            refine J_sub (l1 := [some (.ref 53), some (.int x5), some (.int r9), none, some (.int (0 : Int32)), none, none]) ⟨rfl, ⟨rfl, ⟨rfl, ⟨rfl, trivial⟩⟩⟩⟩ ?_
            exact hj16 (0 : Int32) s45
          refine J_aload_n (i := 0) dX8_celebrate_143 rfl rfl ?_
          refine J_aload_n (i := 0) dX8_celebrate_144 rfl rfl ?_
          refine J_getI dX8_celebrate_145 fl_RX8_181 sh_53_17 ?_
          refine J_if_ne (tgt := 155) dX8_celebrate_148 (by decide) (fun c46 => ?_) (fun c46 => ?_)
          · refine J_aload_n (i := 0) dX8_celebrate_155 rfl rfl ?_
            refine J_getI dX8_celebrate_156 fl_RX8_184 sh_53_18 ?_
            refine J_sub (l1 := [some (.ref 53), some (.int x5), some (.int r9), none, none, none, none]) ⟨rfl, ⟨rfl, ⟨rfl, trivial⟩⟩⟩ ?_
            exact hj43 (gI s12 53 18)
          · refine J_iload_n (i := 1) dX8_celebrate_151 rfl rfl ?_
            refine J_goto (tgt := 159) dX8_celebrate_152 (by decide) ?_
            refine J_sub (l1 := [some (.ref 53), some (.int x5), some (.int r9), none, none, none, none]) ⟨rfl, ⟨rfl, ⟨rfl, trivial⟩⟩⟩ ?_
            exact hj43 x5
      refine J_sub (l1 := [some (.ref 53), some (.int x5), some (.int r9), some (.int r10), some (.int (-1 : Int32)), some (.int (0 : Int32)), none]) ⟨rfl, ⟨rfl, ⟨rfl, ⟨rfl, ⟨rfl, ⟨rfl, trivial⟩⟩⟩⟩⟩⟩ ?_
      exact lp_X8_celebrate_64_ok l N  x5 r9 r10 k13 hk13 N (-1 : Int32) (0 : Int32) s6
set_option maxRecDepth 100000 in
set_option maxHeartbeats 4000000 in
theorem lp_X8_celebrate_2_ok (l : Launch) (N : Nat)  (k2 : jM → Option jM) (hk2 : ∀ (s1 : jM), J l RX8 cX8_celebrate 7 (Option.none : Option Jvm.ClassFile.FieldType) false (rmD (7) 0 0) noCx (eV SH) SH 0 0 s1 28 [some (.ref 53), none, none, none, none, none, none] [] (k2 s1)) : ∀ (q : Nat) (x70 : Int32) (s71 : jM), J l RX8 cX8_celebrate 7 (Option.none : Option Jvm.ClassFile.FieldType) false (rmD (7) 0 0) noCx (eV SH) SH 0 0 s71 2 [some (.ref 53), some (.int x70), none, none, none, none, none] [] (lp_X8_celebrate_2 N k2 q x70 s71) := by
  intro q
  induction q with
  | zero => intro x70 s71; exact J_none
  | succ q hrec72 =>
    intro x70 s71
    rw [lp_X8_celebrate_2]
    refine J_iload_n (i := 1) dX8_celebrate_2 rfl rfl ?_
    refine J_bipush (v := (8 : Int32)) dX8_celebrate_3 (by decide) ?_
    refine J_icmp_ge (tgt := 28) dX8_celebrate_5 (by decide) (fun c73 => ?_) (fun c73 => ?_)
    · refine J_sub (l1 := [some (.ref 53), none, none, none, none, none, none]) ⟨rfl, trivial⟩ ?_
      exact hk2 s71
    · refine J_aload_n (i := 0) dX8_celebrate_8 rfl rfl ?_
      refine J_getR dX8_celebrate_9 fl_RX8_37 sh_53_14 ?_
      refine J_iload_n (i := 1) dX8_celebrate_12 rfl rfl ?_
      refine J_iconst (v := (-1 : Int32)) dX8_celebrate_13 (by decide) ?_
      refine J_iast dX8_celebrate_14 sa_61 ?_
      refine J_letM rfl (fun s74 => ?_)
      refine J_aload_n (i := 0) dX8_celebrate_15 rfl rfl ?_
      refine J_getR dX8_celebrate_16 fl_RX8_40 sh_53_15 ?_
      refine J_iload_n (i := 1) dX8_celebrate_19 rfl rfl ?_
      refine J_iconst (v := (-1 : Int32)) dX8_celebrate_20 (by decide) ?_
      refine J_iast dX8_celebrate_21 sa_62 ?_
      refine J_letM rfl (fun s75 => ?_)
      refine J_iincN (i := 1) (v := x70 + (1 : Int32)) (LS := fun x76 => [some (.ref 53), some (.int x76), none, none, none, none, none]) dX8_celebrate_22 rfl (by first | rfl | decide) (fun _ => rfl) (by decide) (fun x76 => ?_)
      refine J_goto (tgt := 2) dX8_celebrate_25 (by decide) ?_
      refine J_sub (l1 := [some (.ref 53), some (.int x76), none, none, none, none, none]) ⟨rfl, ⟨rfl, trivial⟩⟩ ?_
      exact hrec72 x76 s75
set_option maxRecDepth 100000 in
set_option maxHeartbeats 4000000 in
theorem con_X8_celebrate (l : Launch) (N : Nat) (s0 : jM) : Con l (7) yX8_celebrate cX8_celebrate 7 (Option.none : Option Jvm.ClassFile.FieldType) (eV SH) SH [.ref 53] s0 (f_X8_celebrate N s0) := by
  refine Con_of (ls0 := [some (.ref 53), none, none, none, none, none, none]) (ini := false) (mc := 0) (ms := 0) (by decide +kernel) rfl (Nat.le_of_ble_eq_true rfl) (fun h => by cases h) (fun _ _ => rfl) ?_
  unfold f_X8_celebrate
  refine J_iconst (v := (0 : Int32)) dX8_celebrate_0 (by decide) ?_
  refine J_istore_n (i := 1) (ls2 := [some (.ref 53), some (.int (0 : Int32)), none, none, none, none, none]) dX8_celebrate_1 rfl rfl (by decide) ?_
  refine J_join (P := fun j => ∀ (s1 : jM), J l RX8 cX8_celebrate 7 (Option.none : Option Jvm.ClassFile.FieldType) false (rmD (7) 0 0) noCx (eV SH) SH 0 0 s1 28 [some (.ref 53), none, none, none, none, none, none] [] (j s1)) ?_ (fun k2 hk2 => ?_)
  · intro s1
    refine J_aload_n (i := 0) dX8_celebrate_28 rfl rfl ?_
    refine J_iconst (v := (0 : Int32)) dX8_celebrate_29 (by decide) ?_
    refine J_putI dX8_celebrate_30 fp_RX8_181 (fun h => by first | rfl | cases h) sh_53_17 rfl rfl ?_
    refine J_letM rfl (fun s3 => ?_)
    refine J_aload_n (i := 0) dX8_celebrate_33 rfl rfl ?_
    refine J_iconst (v := (-1 : Int32)) dX8_celebrate_34 (by decide) ?_
    refine J_putI dX8_celebrate_35 fp_RX8_184 (fun h => by first | rfl | cases h) sh_53_18 rfl rfl ?_
    refine J_letM rfl (fun s4 => ?_)
    refine J_iconst (v := (0 : Int32)) dX8_celebrate_38 (by decide) ?_
    refine J_istore_n (i := 1) (ls2 := [some (.ref 53), some (.int (0 : Int32)), none, none, none, none, none]) dX8_celebrate_39 rfl rfl (by decide) ?_
    refine J_sub (l1 := [some (.ref 53), some (.int (0 : Int32)), none, none, none, none, none]) ⟨rfl, ⟨rfl, trivial⟩⟩ ?_
    exact lp_X8_celebrate_40_ok l N    N (0 : Int32) s4
  refine J_sub (l1 := [some (.ref 53), some (.int (0 : Int32)), none, none, none, none, none]) ⟨rfl, ⟨rfl, trivial⟩⟩ ?_
  exact lp_X8_celebrate_2_ok l N  k2 hk2 N (0 : Int32) s0
