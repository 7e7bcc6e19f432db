def f_X8_on (N : Nat) (a1 : Int32) (s0 : jM) : Option (Int32 × jM) := Option.bind (f_X8_in (Int32.toInt64 a1) (0 : Int64) (199 : Int64)) fun r1 => if r1 = 0 then (Option.bind (f_X8_bad (-2 : Int32) s0) fun r4 => some (r4.1, r4.2)) else (Option.bind (f_X8_celebrate N s0) fun r3 => gd (ib a1 200) <| some ((gI r3 63 (Int32.toNatClampNeg a1)), r3))
set_option maxRecDepth 100000 in
set_option maxHeartbeats 4000000 in
theorem con_X8_on (l : Launch) (N : Nat) (a1 : Int32) (s0 : jM) : Con l (8) yX8_on cX8_on 2 (Option.some Jvm.ClassFile.FieldType.int) (eIM SH) SH [.ref 53, .int a1] s0 (f_X8_on N a1 s0) := by
  refine Con_of (ls0 := [some (.ref 53), some (.int a1)]) (ini := false) (mc := 0) (ms := 0) (by decide +kernel) rfl (Nat.le_of_ble_eq_true rfl) (fun h => by cases h) (fun _ _ => rfl) ?_
  unfold f_X8_on
  refine J_iload_n (i := 1) dX8_on_0 rfl rfl ?_
  refine J_i2l dX8_on_1 ?_
  refine J_lconst (v := (0 : Int64)) dX8_on_2 (by decide) ?_
  refine J_ldc2 (v := (199 : Int64)) dX8_on_3 kw_RX8_173 ?_
  refine J_callSI [.long (Int32.toInt64 a1), .long (0 : Int64), .long (199 : Int64)] dX8_on_6 ca_X8_in lk_RX8_74 st_X8_in rfl rfl ⟨by show _ ≤ _; simp only [rmD]; omega, by show _ ≤ _; simp only [rmD]; omega⟩ (Nat.le_of_ble_eq_true rfl) ⟨Nat.zero_le _, Nat.zero_le _⟩ (con_X8_in l _ _ _ _) (fun r1 _ => ?_)
  refine J_if_ne (tgt := 19) dX8_on_9 (by decide) (fun c2 => ?_) (fun c2 => ?_)
  · refine J_aload_n (i := 0) dX8_on_19 rfl rfl ?_
    refine J_callVV 53 [] dX8_on_20 ca_X8_celebrate lk_RX8_200 vi_X8_celebrate rc_53 rfl rfl ⟨by show _ ≤ _; simp only [rmD]; omega, by show _ ≤ _; simp only [rmD]; omega⟩ (Nat.le_of_ble_eq_true rfl) ⟨Nat.zero_le _, Nat.zero_le _⟩ (con_X8_celebrate l N _) (fun r3 _ => ?_)
    refine J_aload_n (i := 0) dX8_on_23 rfl rfl ?_
    refine J_getR dX8_on_24 fl_RX8_43 sh_53_16 ?_
    refine J_iload_n (i := 1) dX8_on_27 rfl rfl ?_
    refine J_iald dX8_on_28 sa_63 ?_
    exact J_ireturn dX8_on_29 rfl rfl rfl
  · refine J_aload_n (i := 0) dX8_on_12 rfl rfl ?_
    refine J_bipush (v := (-2 : Int32)) dX8_on_13 (by decide) ?_
    refine J_callVIM 53 [.int (-2 : Int32)] dX8_on_15 ca_X8_bad lk_RX8_87 vi_X8_bad rc_53 rfl rfl ⟨by show _ ≤ _; simp only [rmD]; omega, by show _ ≤ _; simp only [rmD]; omega⟩ (Nat.le_of_ble_eq_true rfl) ⟨Nat.zero_le _, Nat.zero_le _⟩ (con_X8_bad l _ _) (fun r4 _ => ?_)
    exact J_ireturn dX8_on_18 rfl rfl rfl

def f_X8_stepped (N : Nat) (a1 : Int32) (a2 : Int32) (s0 : jM) : Option (Int32 × jM) := jn_ (fun (_ : Unit) => Option.bind (f_X8_bad (-2 : Int32) s0) fun r2 => some (r2.1, r2.2)) fun j1 => Option.bind (f_X8_isWalker a1 s0) fun r3 => if r3 = 0 then (j1 ()) else (Option.bind (f_X8_in (Int32.toInt64 a2) (0 : Int64) (1 : Int64)) fun r5 => if r5 = 0 then (j1 ()) else (Option.bind (f_X8_celebrate N s0) fun r7 => if a2 = 0 then (gd (ib a1 8) <| some ((gI r7 61 (Int32.toNatClampNeg a1)), r7)) else (gd (ib a1 8) <| some ((gI r7 62 (Int32.toNatClampNeg a1)), r7))))
set_option maxRecDepth 100000 in
set_option maxHeartbeats 4000000 in
theorem con_X8_stepped (l : Launch) (N : Nat) (a1 : Int32) (a2 : Int32) (s0 : jM) : Con l (8) yX8_stepped cX8_stepped 3 (Option.some Jvm.ClassFile.FieldType.int) (eIM SH) SH [.ref 53, .int a1, .int a2] s0 (f_X8_stepped N a1 a2 s0) := by
  refine Con_of (ls0 := [some (.ref 53), some (.int a1), some (.int a2)]) (ini := false) (mc := 0) (ms := 0) (by decide +kernel) rfl (Nat.le_of_ble_eq_true rfl) (fun h => by cases h) (fun _ _ => rfl) ?_
  unfold f_X8_stepped
  refine J_join (P := fun j => ∀ (_ : Unit), J l RX8 cX8_stepped 3 (Option.some Jvm.ClassFile.FieldType.int) false (rmD (8) 0 0) noCx (eIM SH) SH 0 0 s0 18 [some (.ref 53), none, none] [] (j ())) ?_ (fun j1 hj1 => ?_)
  · intro _
    refine J_aload_n (i := 0) dX8_stepped_18 rfl rfl ?_
    refine J_bipush (v := (-2 : Int32)) dX8_stepped_19 (by decide) ?_
    refine J_callVIM 53 [.int (-2 : Int32)] dX8_stepped_21 ca_X8_bad lk_RX8_87 vi_X8_bad rc_53 rfl rfl ⟨by show _ ≤ _; simp only [rmD]; omega, by show _ ≤ _; simp only [rmD]; omega⟩ (Nat.le_of_ble_eq_true rfl) ⟨Nat.zero_le _, Nat.zero_le _⟩ (con_X8_bad l _ _) (fun r2 _ => ?_)
    exact J_ireturn dX8_stepped_24 rfl rfl rfl
  refine J_aload_n (i := 0) dX8_stepped_0 rfl rfl ?_
  refine J_iload_n (i := 1) dX8_stepped_1 rfl rfl ?_
  refine J_callVI 53 [.int a1] dX8_stepped_2 ca_X8_isWalker lk_RX8_203 vi_X8_isWalker rc_53 rfl rfl ⟨by show _ ≤ _; simp only [rmD]; omega, by show _ ≤ _; simp only [rmD]; omega⟩ (Nat.le_of_ble_eq_true rfl) ⟨Nat.zero_le _, Nat.zero_le _⟩ (con_X8_isWalker l _ _) (fun r3 _ => ?_)
  refine J_if_eq (tgt := 18) dX8_stepped_5 (by decide) (fun c4 => ?_) (fun c4 => ?_)
  · refine J_sub (l1 := [some (.ref 53), none, none]) ⟨rfl, trivial⟩ ?_
    exact hj1 ()
  · refine J_iload_n (i := 2) dX8_stepped_8 rfl rfl ?_
    refine J_i2l dX8_stepped_9 ?_
    refine J_lconst (v := (0 : Int64)) dX8_stepped_10 (by decide) ?_
    refine J_lconst (v := (1 : Int64)) dX8_stepped_11 (by decide) ?_
    refine J_callSI [.long (Int32.toInt64 a2), .long (0 : Int64), .long (1 : Int64)] dX8_stepped_12 ca_X8_in lk_RX8_74 st_X8_in rfl rfl ⟨by show _ ≤ _; simp only [rmD]; omega, by show _ ≤ _; simp only [rmD]; omega⟩ (Nat.le_of_ble_eq_true rfl) ⟨Nat.zero_le _, Nat.zero_le _⟩ (con_X8_in l _ _ _ _) (fun r5 _ => ?_)
    refine J_if_ne (tgt := 25) dX8_stepped_15 (by decide) (fun c6 => ?_) (fun c6 => ?_)
    · refine J_aload_n (i := 0) dX8_stepped_25 rfl rfl ?_
      refine J_callVV 53 [] dX8_stepped_26 ca_X8_celebrate lk_RX8_200 vi_X8_celebrate rc_53 rfl rfl ⟨by show _ ≤ _; simp only [rmD]; omega, by show _ ≤ _; simp only [rmD]; omega⟩ (Nat.le_of_ble_eq_true rfl) ⟨Nat.zero_le _, Nat.zero_le _⟩ (con_X8_celebrate l N _) (fun r7 _ => ?_)
      refine J_iload_n (i := 2) dX8_stepped_29 rfl rfl ?_
      refine J_if_ne (tgt := 42) dX8_stepped_30 (by decide) (fun c8 => ?_) (fun c8 => ?_)
      · refine J_aload_n (i := 0) dX8_stepped_42 rfl rfl ?_
        refine J_getR dX8_stepped_43 fl_RX8_40 sh_53_15 ?_
        refine J_iload_n (i := 1) dX8_stepped_46 rfl rfl ?_
        refine J_iald dX8_stepped_47 sa_62 ?_
        exact J_ireturn dX8_stepped_48 rfl rfl rfl
      · refine J_aload_n (i := 0) dX8_stepped_33 rfl rfl ?_
        refine J_getR dX8_stepped_34 fl_RX8_37 sh_53_14 ?_
        refine J_iload_n (i := 1) dX8_stepped_37 rfl rfl ?_
        refine J_iald dX8_stepped_38 sa_61 ?_
        refine J_goto (tgt := 48) dX8_stepped_39 (by decide) ?_
        exact J_ireturn dX8_stepped_48 rfl rfl rfl
    · refine J_sub (l1 := [some (.ref 53), none, none]) ⟨rfl, trivial⟩ ?_
      exact hj1 ()

def f_X8_faulty (N : Nat) (a1 : Int32) (s0 : jM) : Option (Int32 × jM) := Option.bind (f_X8_in (Int32.toInt64 a1) (0 : Int64) (1 : Int64)) fun r1 => if r1 = 0 then (Option.bind (f_X8_bad (-2 : Int32) s0) fun r5 => some (r5.1, r5.2)) else (Option.bind (f_X8_celebrate N s0) fun r3 => if a1 = 0 then (some ((gI r3 53 17), r3)) else (some ((gI r3 53 18), r3)))
set_option maxRecDepth 100000 in
set_option maxHeartbeats 4000000 in
theorem con_X8_faulty (l : Launch) (N : Nat) (a1 : Int32) (s0 : jM) : Con l (8) yX8_faulty cX8_faulty 2 (Option.some Jvm.ClassFile.FieldType.int) (eIM SH) SH [.ref 53, .int a1] s0 (f_X8_faulty N a1 s0) := by
  refine Con_of (ls0 := [some (.ref 53), some (.int a1)]) (ini := false) (mc := 0) (ms := 0) (by decide +kernel) rfl (Nat.le_of_ble_eq_true rfl) (fun h => by cases h) (fun _ _ => rfl) ?_
  unfold f_X8_faulty
  refine J_iload_n (i := 1) dX8_faulty_0 rfl rfl ?_
  refine J_i2l dX8_faulty_1 ?_
  refine J_lconst (v := (0 : Int64)) dX8_faulty_2 (by decide) ?_
  refine J_lconst (v := (1 : Int64)) dX8_faulty_3 (by decide) ?_
  refine J_callSI [.long (Int32.toInt64 a1), .long (0 : Int64), .long (1 : Int64)] dX8_faulty_4 ca_X8_in lk_RX8_74 st_X8_in rfl rfl ⟨by show _ ≤ _; simp only [rmD]; omega, by show _ ≤ _; simp only [rmD]; omega⟩ (Nat.le_of_ble_eq_true rfl) ⟨Nat.zero_le _, Nat.zero_le _⟩ (con_X8_in l _ _ _ _) (fun r1 _ => ?_)
  refine J_if_ne (tgt := 17) dX8_faulty_7 (by decide) (fun c2 => ?_) (fun c2 => ?_)
  · refine J_aload_n (i := 0) dX8_faulty_17 rfl rfl ?_
    refine J_callVV 53 [] dX8_faulty_18 ca_X8_celebrate lk_RX8_200 vi_X8_celebrate rc_53 rfl rfl ⟨by show _ ≤ _; simp only [rmD]; omega, by show _ ≤ _; simp only [rmD]; omega⟩ (Nat.le_of_ble_eq_true rfl) ⟨Nat.zero_le _, Nat.zero_le _⟩ (con_X8_celebrate l N _) (fun r3 _ => ?_)
    refine J_iload_n (i := 1) dX8_faulty_21 rfl rfl ?_
    refine J_if_ne (tgt := 32) dX8_faulty_22 (by decide) (fun c4 => ?_) (fun c4 => ?_)
    · refine J_aload_n (i := 0) dX8_faulty_32 rfl rfl ?_
      refine J_getI dX8_faulty_33 fl_RX8_184 sh_53_18 ?_
      exact J_ireturn dX8_faulty_36 rfl rfl rfl
    · refine J_aload_n (i := 0) dX8_faulty_25 rfl rfl ?_
      refine J_getI dX8_faulty_26 fl_RX8_181 sh_53_17 ?_
      refine J_goto (tgt := 36) dX8_faulty_29 (by decide) ?_
      exact J_ireturn dX8_faulty_36 rfl rfl rfl
  · refine J_aload_n (i := 0) dX8_faulty_10 rfl rfl ?_
    refine J_bipush (v := (-2 : Int32)) dX8_faulty_11 (by decide) ?_
    refine J_callVIM 53 [.int (-2 : Int32)] dX8_faulty_13 ca_X8_bad lk_RX8_87 vi_X8_bad rc_53 rfl rfl ⟨by show _ ≤ _; simp only [rmD]; omega, by show _ ≤ _; simp only [rmD]; omega⟩ (Nat.le_of_ble_eq_true rfl) ⟨Nat.zero_le _, Nat.zero_le _⟩ (con_X8_bad l _ _) (fun r5 _ => ?_)
    exact J_ireturn dX8_faulty_16 rfl rfl rfl

def lp_X8_timeOf_4 (N : Nat) (s0 : jM) (a1 : Int32) (k2 : Int32 → Option Int32) : Nat → Int32 → Int32 → Option Int32
  | 0, _, _ => none
  | q + 1, x3, x4 => Option.bind (f_X8_walkers s0) fun r6 => if r6 ≤ x4 then (k2 x3) else (jn_ (fun (x8 : Int32) => lt_ (x4 + (1 : Int32)) fun x10 => lp_X8_timeOf_4 N s0 a1 k2 q x8 x10) fun j9 => jn_ (fun (_ : Unit) => j9 x3) fun j11 => if ((a1 >>> (x4 &&& 31)) &&& (1 : Int32)) = (1 : Int32) then (Option.bind (f_X8_of x4 (1 : Int32) s0) fun r13 => if r13 ≤ x3 then (j11 ()) else (Option.bind (f_X8_of x4 (1 : Int32) s0) fun r15 => j9 r15)) else (j11 ()))
def f_X8_timeOf (N : Nat) (a1 : Int32) (s0 : jM) : Option Int32 := jn_ (fun (x1 : Int32) => some x1) fun k2 => lp_X8_timeOf_4 N s0 a1 k2 N (0 : Int32) (0 : Int32)
set_option maxRecDepth 100000 in
set_option maxHeartbeats 4000000 in
theorem lp_X8_timeOf_4_ok (l : Launch) (N : Nat)  (s0 : jM) (a1 : Int32) (k2 : Int32 → Option Int32) (hk2 : ∀ (x1 : Int32), J l RX8 cX8_timeOf 4 (Option.some Jvm.ClassFile.FieldType.int) false (rmD (2) 0 0) noCx (eI SH s0) SH 0 0 s0 48 [none, none, some (.int x1), none] [] (k2 x1)) : ∀ (q : Nat) (x3 : Int32) (x4 : Int32), J l RX8 cX8_timeOf 4 (Option.some Jvm.ClassFile.FieldType.int) false (rmD (2) 0 0) noCx (eI SH s0) SH 0 0 s0 4 [some (.ref 53), some (.int a1), some (.int x3), some (.int x4)] [] (lp_X8_timeOf_4 N s0 a1 k2 q x3 x4) := by
  intro q
  induction q with
  | zero => intro x3 x4; exact J_none
  | succ q hrec5 =>
    intro x3 x4
    rw [lp_X8_timeOf_4]
    refine J_iload_n (i := 3) dX8_timeOf_4 rfl rfl ?_
    refine J_aload_n (i := 0) dX8_timeOf_5 rfl rfl ?_
    refine J_callVI 53 [] dX8_timeOf_6 ca_X8_walkers lk_RX8_70 vi_X8_walkers rc_53 rfl rfl ⟨by show _ ≤ _; simp only [rmD]; omega, by show _ ≤ _; simp only [rmD]; omega⟩ (Nat.le_of_ble_eq_true rfl) ⟨Nat.zero_le _, Nat.zero_le _⟩ (con_X8_walkers l _) (fun r6 _ => ?_)
    refine J_icmp_ge (tgt := 48) dX8_timeOf_9 (by decide) (fun c7 => ?_) (fun c7 => ?_)
    · refine J_sub (l1 := [none, none, some (.int x3), none]) ⟨rfl, trivial⟩ ?_
      exact hk2 x3
    · refine J_join (P := fun j => ∀ (x8 : Int32), J l RX8 cX8_timeOf 4 (Option.some Jvm.ClassFile.FieldType.int) false (rmD (2) 0 0) noCx (eI SH s0) SH 0 0 s0 41 [some (.ref 53), some (.int a1), none, some (.int x4)] [.int x8] (j x8)) ?_ (fun j9 hj9 => ?_)
      · intro x8
        refine J_istore_n (i := 2) (ls2 := [some (.ref 53), some (.int a1), some (.int x8), some (.int x4)]) dX8_timeOf_41 rfl rfl (by decide) ?_
        refine J_iincN (i := 3) (v := x4 + (1 : Int32)) (LS := fun x10 => [some (.ref 53), some (.int a1), some (.int x8), some (.int x10)]) dX8_timeOf_42 rfl (by first | rfl | decide) (fun _ => rfl) (by decide) (fun x10 => ?_)
        refine J_goto (tgt := 4) dX8_timeOf_45 (by decide) ?_
        refine J_sub (l1 := [some (.ref 53), some (.int a1), some (.int x8), some (.int x10)]) ⟨rfl, ⟨rfl, ⟨rfl, ⟨rfl, trivial⟩⟩⟩⟩ ?_
        exact hrec5 x8 x10
      refine J_join (P := fun j => ∀ (_ : Unit), J l RX8 cX8_timeOf 4 (Option.some Jvm.ClassFile.FieldType.int) false (rmD (2) 0 0) noCx (eI SH s0) SH 0 0 s0 40 [some (.ref 53), some (.int a1), some (.int x3), some (.int x4)] [] (j ())) ?_ (fun j11 hj11 => ?_)
      · intro _
        refine J_iload_n (i := 2) dX8_timeOf_40 rfl rfl ?_
        refine J_sub (l1 := [some (.ref 53), some (.int a1), none, some (.int x4)]) ⟨rfl, ⟨rfl, ⟨rfl, trivial⟩⟩⟩ ?_
        exact hj9 x3
      refine J_iload_n (i := 1) dX8_timeOf_12 rfl rfl ?_
      refine J_iload_n (i := 3) dX8_timeOf_13 rfl rfl ?_
      refine J_ishr dX8_timeOf_14 ?_
      refine J_iconst (v := (1 : Int32)) dX8_timeOf_15 (by decide) ?_
      refine J_iand dX8_timeOf_16 ?_
      refine J_iconst (v := (1 : Int32)) dX8_timeOf_17 (by decide) ?_
      refine J_icmp_ne (tgt := 40) dX8_timeOf_18 (by decide) (fun c12 => ?_) (fun c12 => ?_)
      · refine J_sub (l1 := [some (.ref 53), some (.int a1), some (.int x3), some (.int x4)]) ⟨rfl, ⟨rfl, ⟨rfl, ⟨rfl, trivial⟩⟩⟩⟩ ?_
        exact hj11 ()
      · refine J_aload_n (i := 0) dX8_timeOf_21 rfl rfl ?_
        refine J_iload_n (i := 3) dX8_timeOf_22 rfl rfl ?_
        refine J_iconst (v := (1 : Int32)) dX8_timeOf_23 (by decide) ?_
        refine J_callVI 53 [.int x4, .int (1 : Int32)] dX8_timeOf_24 ca_X8_of lk_RX8_96 vi_X8_of rc_53 rfl rfl ⟨by show _ ≤ _; simp only [rmD]; omega, by show _ ≤ _; simp only [rmD]; omega⟩ (Nat.le_of_ble_eq_true rfl) ⟨Nat.zero_le _, Nat.zero_le _⟩ (con_X8_of l _ _ _) (fun r13 _ => ?_)
        refine J_iload_n (i := 2) dX8_timeOf_27 rfl rfl ?_
        refine J_icmp_le (tgt := 40) dX8_timeOf_28 (by decide) (fun c14 => ?_) (fun c14 => ?_)
        · refine J_sub (l1 := [some (.ref 53), some (.int a1), some (.int x3), some (.int x4)]) ⟨rfl, ⟨rfl, ⟨rfl, ⟨rfl, trivial⟩⟩⟩⟩ ?_
          exact hj11 ()
        · refine J_aload_n (i := 0) dX8_timeOf_31 rfl rfl ?_
          refine J_iload_n (i := 3) dX8_timeOf_32 rfl rfl ?_
          refine J_iconst (v := (1 : Int32)) dX8_timeOf_33 (by decide) ?_
          refine J_callVI 53 [.int x4, .int (1 : Int32)] dX8_timeOf_34 ca_X8_of lk_RX8_96 vi_X8_of rc_53 rfl rfl ⟨by show _ ≤ _; simp only [rmD]; omega, by show _ ≤ _; simp only [rmD]; omega⟩ (Nat.le_of_ble_eq_true rfl) ⟨Nat.zero_le _, Nat.zero_le _⟩ (con_X8_of l _ _ _) (fun r15 _ => ?_)
          refine J_goto (tgt := 41) dX8_timeOf_37 (by decide) ?_
          refine J_sub (l1 := [some (.ref 53), some (.int a1), none, some (.int x4)]) ⟨rfl, ⟨rfl, ⟨rfl, trivial⟩⟩⟩ ?_
          exact hj9 r15
set_option maxRecDepth 100000 in
set_option maxHeartbeats 4000000 in
theorem con_X8_timeOf (l : Launch) (N : Nat) (a1 : Int32) (s0 : jM) : Con l (2) yX8_timeOf cX8_timeOf 4 (Option.some Jvm.ClassFile.FieldType.int) (eI SH s0) SH [.ref 53, .int a1] s0 (f_X8_timeOf N a1 s0) := by
  refine Con_of (ls0 := [some (.ref 53), some (.int a1), none, none]) (ini := false) (mc := 0) (ms := 0) (by decide +kernel) rfl (Nat.le_of_ble_eq_true rfl) (fun h => by cases h) (fun _ _ => rfl) ?_
  unfold f_X8_timeOf
  refine J_iconst (v := (0 : Int32)) dX8_timeOf_0 (by decide) ?_
  refine J_istore_n (i := 2) (ls2 := [some (.ref 53), some (.int a1), some (.int (0 : Int32)), none]) dX8_timeOf_1 rfl rfl (by decide) ?_
  refine J_iconst (v := (0 : Int32)) dX8_timeOf_2 (by decide) ?_
  refine J_istore_n (i := 3) (ls2 := [some (.ref 53), some (.int a1), some (.int (0 : Int32)), some (.int (0 : Int32))]) dX8_timeOf_3 rfl rfl (by decide) ?_
  refine J_join (P := fun j => ∀ (x1 : Int32), J l RX8 cX8_timeOf 4 (Option.some Jvm.ClassFile.FieldType.int) false (rmD (2) 0 0) noCx (eI SH s0) SH 0 0 s0 48 [none, none, some (.int x1), none] [] (j x1)) ?_ (fun k2 hk2 => ?_)
  · intro x1
    refine J_iload_n (i := 2) dX8_timeOf_48 rfl rfl ?_
    exact J_ireturn dX8_timeOf_49 rfl rfl rfl
  refine J_sub (l1 := [some (.ref 53), some (.int a1), some (.int (0 : Int32)), some (.int (0 : Int32))]) ⟨rfl, ⟨rfl, ⟨rfl, ⟨rfl, trivial⟩⟩⟩⟩ ?_
  exact lp_X8_timeOf_4_ok l N  s0 a1 k2 hk2 N (0 : Int32) (0 : Int32)

def lp_X8_findPrices_2 (N : Nat)  : Nat → Int32 → jM → Option jM
  | 0, _, _ => none
  | q + 1, x1, s2 => Option.bind (f_X8_all s2) fun r4 => if r4 < x1 then (some s2) else (jn_ (fun (x6 : Int32) (x7 : Int32) (s8 : jM) => gd (ib x6 256) <| lt_ (pI s8 67 (Int32.toNatClampNeg x6) x7) fun s10 => lt_ (x1 + (1 : Int32)) fun x11 => lp_X8_findPrices_2 N q x11 s10) fun j9 => Option.bind (f_X8_isWell N x1 (0 : Int32) (0 : Int32) s2) fun r12 => if r12.1 = 0 then (Option.bind (f_X8_isWell N x1 (0 : Int32) (1 : Int32) r12.2) fun r14 => if r14.1 = 0 then (j9 x1 (1000000 : Int32) r14.2) else (gd (ib (33 : Int32) 101) <| j9 x1 (gI r14.2 54 (Int32.toNatClampNeg (33 : Int32))) r14.2)) else (j9 x1 (0 : Int32) r12.2))
def f_X8_findPrices (N : Nat)  (s0 : jM) : Option jM := lp_X8_findPrices_2 N N (1 : Int32) s0
set_option maxRecDepth 100000 in
set_option maxHeartbeats 4000000 in
theorem lp_X8_findPrices_2_ok (l : Launch) (N : Nat)    : ∀ (q : Nat) (x1 : Int32) (s2 : jM), J l RX8 cX8_findPrices 2 (Option.none : Option Jvm.ClassFile.FieldType) false (rmD (6) 0 0) noCx (eV SH) SH 0 0 s2 2 [some (.ref 53), some (.int x1)] [] (lp_X8_findPrices_2 N q x1 s2) := by
  intro q
  induction q with
  | zero => intro x1 s2; exact J_none
  | succ q hrec3 =>
    intro x1 s2
    rw [lp_X8_findPrices_2]
    refine J_iload_n (i := 1) dX8_findPrices_2 rfl rfl ?_
    refine J_aload_n (i := 0) dX8_findPrices_3 rfl rfl ?_
    refine J_callVI 53 [] dX8_findPrices_4 ca_X8_all lk_RX8_78 vi_X8_all rc_53 rfl rfl ⟨by show _ ≤ _; simp only [rmD]; omega, by show _ ≤ _; simp only [rmD]; omega⟩ (Nat.le_of_ble_eq_true rfl) ⟨Nat.zero_le _, Nat.zero_le _⟩ (con_X8_all l _) (fun r4 _ => ?_)
    refine J_icmp_gt (tgt := 58) dX8_findPrices_7 (by decide) (fun c5 => ?_) (fun c5 => ?_)
    · exact J_return dX8_findPrices_58 rfl rfl
    · refine J_join (P := fun j => ∀ (x6 : Int32) (x7 : Int32) (s8 : jM), J l RX8 cX8_findPrices 2 (Option.none : Option Jvm.ClassFile.FieldType) false (rmD (6) 0 0) noCx (eV SH) SH 0 0 s8 51 [some (.ref 53), some (.int x1)] [.int x7, .int x6, .ref 67] (j x6 x7 s8)) ?_ (fun j9 hj9 => ?_)
      · intro x6 x7 s8
        refine J_iast dX8_findPrices_51 sa_67 ?_
        refine J_letM rfl (fun s10 => ?_)
        refine J_iincN (i := 1) (v := x1 + (1 : Int32)) (LS := fun x11 => [some (.ref 53), some (.int x11)]) dX8_findPrices_52 rfl (by first | rfl | decide) (fun _ => rfl) (by decide) (fun x11 => ?_)
        refine J_goto (tgt := 2) dX8_findPrices_55 (by decide) ?_
        refine J_sub (l1 := [some (.ref 53), some (.int x11)]) ⟨rfl, ⟨rfl, trivial⟩⟩ ?_
        exact hrec3 x11 s10
      refine J_aload_n (i := 0) dX8_findPrices_10 rfl rfl ?_
      refine J_getR dX8_findPrices_11 fl_RX8_55 sh_53_22 ?_
      refine J_iload_n (i := 1) dX8_findPrices_14 rfl rfl ?_
      refine J_aload_n (i := 0) dX8_findPrices_15 rfl rfl ?_
      refine J_iload_n (i := 1) dX8_findPrices_16 rfl rfl ?_
      refine J_iconst (v := (0 : Int32)) dX8_findPrices_17 (by decide) ?_
      refine J_iconst (v := (0 : Int32)) dX8_findPrices_18 (by decide) ?_
      refine J_callVIM 53 [.int x1, .int (0 : Int32), .int (0 : Int32)] dX8_findPrices_19 ca_X8_isWell lk_RX8_175 vi_X8_isWell rc_53 rfl rfl ⟨by show _ ≤ _; simp only [rmD]; omega, by show _ ≤ _; simp only [rmD]; omega⟩ (Nat.le_of_ble_eq_true rfl) ⟨Nat.zero_le _, Nat.zero_le _⟩ (con_X8_isWell l N _ _ _ _) (fun r12 _ => ?_)
      refine J_if_eq (tgt := 29) dX8_findPrices_22 (by decide) (fun c13 => ?_) (fun c13 => ?_)
      · refine J_aload_n (i := 0) dX8_findPrices_29 rfl rfl ?_
        refine J_iload_n (i := 1) dX8_findPrices_30 rfl rfl ?_
        refine J_iconst (v := (0 : Int32)) dX8_findPrices_31 (by decide) ?_
        refine J_iconst (v := (1 : Int32)) dX8_findPrices_32 (by decide) ?_
        refine J_callVIM 53 [.int x1, .int (0 : Int32), .int (1 : Int32)] dX8_findPrices_33 ca_X8_isWell lk_RX8_175 vi_X8_isWell rc_53 rfl rfl ⟨by show _ ≤ _; simp only [rmD]; omega, by show _ ≤ _; simp only [rmD]; omega⟩ (Nat.le_of_ble_eq_true rfl) ⟨Nat.zero_le _, Nat.zero_le _⟩ (con_X8_isWell l N _ _ _ _) (fun r14 _ => ?_)
        refine J_if_eq (tgt := 49) dX8_findPrices_36 (by decide) (fun c15 => ?_) (fun c15 => ?_)
        · refine J_ldcI (v := (1000000 : Int32)) dX8_findPrices_49 kw_RX8_206 ?_
          refine J_sub (l1 := [some (.ref 53), some (.int x1)]) ⟨rfl, ⟨rfl, trivial⟩⟩ ?_
          exact hj9 x1 (1000000 : Int32) r14.2
        · refine J_aload_n (i := 0) dX8_findPrices_39 rfl rfl ?_
          refine J_getR dX8_findPrices_40 fl_RX8_7 sh_53_0 ?_
          refine J_bipush (v := (33 : Int32)) dX8_findPrices_43 (by decide) ?_
          refine J_iald dX8_findPrices_45 sa_54 ?_
          refine J_goto (tgt := 51) dX8_findPrices_46 (by decide) ?_
          refine J_sub (l1 := [some (.ref 53), some (.int x1)]) ⟨rfl, ⟨rfl, trivial⟩⟩ ?_
          exact hj9 x1 (gI r14.2 54 (Int32.toNatClampNeg (33 : Int32))) r14.2
      · refine J_iconst (v := (0 : Int32)) dX8_findPrices_25 (by decide) ?_
        refine J_goto (tgt := 51) dX8_findPrices_26 (by decide) ?_
        refine J_sub (l1 := [some (.ref 53), some (.int x1)]) ⟨rfl, ⟨rfl, trivial⟩⟩ ?_
        exact hj9 x1 (0 : Int32) r12.2
set_option maxRecDepth 100000 in
set_option maxHeartbeats 4000000 in
theorem con_X8_findPrices (l : Launch) (N : Nat) (s0 : jM) : Con l (6) yX8_findPrices cX8_findPrices 2 (Option.none : Option Jvm.ClassFile.FieldType) (eV SH) SH [.ref 53] s0 (f_X8_findPrices N s0) := by
  refine Con_of (ls0 := [some (.ref 53), none]) (ini := false) (mc := 0) (ms := 0) (by decide +kernel) rfl (Nat.le_of_ble_eq_true rfl) (fun h => by cases h) (fun _ _ => rfl) ?_
  unfold f_X8_findPrices
  refine J_iconst (v := (1 : Int32)) dX8_findPrices_0 (by decide) ?_
  refine J_istore_n (i := 1) (ls2 := [some (.ref 53), some (.int (1 : Int32))]) dX8_findPrices_1 rfl rfl (by decide) ?_
  refine J_sub (l1 := [some (.ref 53), some (.int (1 : Int32))]) ⟨rfl, ⟨rfl, trivial⟩⟩ ?_
  exact lp_X8_findPrices_2_ok l N    N (1 : Int32) s0

def f_X8_mayGo (a1 : Int32) (a2 : Int32) (s0 : jM) : Option Int32 := jn_ (fun (_ : Unit) => some (0 : Int32)) fun j1 => if (a1 &&& (a2 ^^^ (-1 : Int32))) = 0 then (if ((a1 &&& a2) &&& (-a2)) = 0 then (j1 ()) else (gd (ib a1 256) <| if (1000000 : Int32) ≤ (gI s0 67 (Int32.toNatClampNeg a1)) then (j1 ()) else (some (1 : Int32)))) else (j1 ())
set_option maxRecDepth 100000 in
set_option maxHeartbeats 4000000 in
theorem con_X8_mayGo (l : Launch) (a1 : Int32) (a2 : Int32) (s0 : jM) : Con l (1) yX8_mayGo cX8_mayGo 3 (Option.some Jvm.ClassFile.FieldType.boolean) (eI SH s0) SH [.ref 53, .int a1, .int a2] s0 (f_X8_mayGo a1 a2 s0) := by
  refine Con_of (ls0 := [some (.ref 53), some (.int a1), some (.int a2)]) (ini := false) (mc := 0) (ms := 0) (by decide +kernel) rfl (Nat.le_of_ble_eq_true rfl) (fun h => by cases h) (fun _ _ => rfl) ?_
  unfold f_X8_mayGo
  refine J_join (P := fun j => ∀ (_ : Unit), J l RX8 cX8_mayGo 3 (Option.some Jvm.ClassFile.FieldType.boolean) false (rmD (1) 0 0) noCx (eI SH s0) SH 0 0 s0 32 [none, none, none] [] (j ())) ?_ (fun j1 hj1 => ?_)
  · intro _
    refine J_iconst (v := (0 : Int32)) dX8_mayGo_32 (by decide) ?_
    exact J_ireturn dX8_mayGo_33 rfl rfl rfl
  refine J_iload_n (i := 1) dX8_mayGo_0 rfl rfl ?_
  refine J_iload_n (i := 2) dX8_mayGo_1 rfl rfl ?_
  refine J_iconst (v := (-1 : Int32)) dX8_mayGo_2 (by decide) ?_
  refine J_ixor dX8_mayGo_3 ?_
  refine J_iand dX8_mayGo_4 ?_
  refine J_if_ne (tgt := 32) dX8_mayGo_5 (by decide) (fun c2 => ?_) (fun c2 => ?_)
  · refine J_sub (l1 := [none, none, none]) trivial ?_
    exact hj1 ()
  · refine J_iload_n (i := 1) dX8_mayGo_8 rfl rfl ?_
    refine J_iload_n (i := 2) dX8_mayGo_9 rfl rfl ?_
    refine J_iand dX8_mayGo_10 ?_
    refine J_iload_n (i := 2) dX8_mayGo_11 rfl rfl ?_
    refine J_ineg dX8_mayGo_12 ?_
    refine J_iand dX8_mayGo_13 ?_
    refine J_if_eq (tgt := 32) dX8_mayGo_14 (by decide) (fun c3 => ?_) (fun c3 => ?_)
    · refine J_sub (l1 := [none, none, none]) trivial ?_
      exact hj1 ()
    · refine J_aload_n (i := 0) dX8_mayGo_17 rfl rfl ?_
      refine J_getR dX8_mayGo_18 fl_RX8_55 sh_53_22 ?_
      refine J_iload_n (i := 1) dX8_mayGo_21 rfl rfl ?_
      refine J_iald dX8_mayGo_22 sa_67 ?_
      refine J_ldcI (v := (1000000 : Int32)) dX8_mayGo_23 kw_RX8_206 ?_
      refine J_icmp_ge (tgt := 32) dX8_mayGo_25 (by decide) (fun c4 => ?_) (fun c4 => ?_)
      · refine J_sub (l1 := [none, none, none]) trivial ?_
        exact hj1 ()
      · refine J_iconst (v := (1 : Int32)) dX8_mayGo_28 (by decide) ?_
        refine J_goto (tgt := 33) dX8_mayGo_29 (by decide) ?_
        exact J_ireturn dX8_mayGo_33 rfl rfl rfl

def lp_X8_findLeast_61 (N : Nat) (x5 : Int32) (k14 : jM → Option jM) : Nat → Int32 → jM → Option jM
  | 0, _, _ => none
  | q + 1, x16, s17 => if x5 < x16 then (k14 s17) else (jn_ (fun (s20 : jM) => lt_ (x16 + (1 : Int32)) fun x22 => lp_X8_findLeast_61 N x5 k14 q x22 s20) fun j21 => lt_ (x5 &&& (x16 ^^^ (-1 : Int32))) fun x23 => Option.bind (f_X8_mayGo x16 x5 s17) fun r24 => if r24 = 0 then (j21 s17) else (gd (ib x23 256) <| if (1000000 : Int32) ≤ (gI s17 64 (Int32.toNatClampNeg x23)) then (j21 s17) else (jn_ (fun (x27 : Int32) (x28 : Int32) (x29 : Int32) => jn_ (fun (x31 : Int32) (x32 : Int32) (x33 : Int32) => jn_ (fun (x35 : Int32) (x36 : Int32) (s37 : jM) => jn_ (fun (x39 : Int32) (x40 : Int32) (s41 : jM) => gd (ib x39 256) <| lt_ (pI s41 66 (Int32.toNatClampNeg x39) x40) fun s43 => j21 s43) fun j42 => gd (ib x35 256) <| lt_ (pI s37 65 (Int32.toNatClampNeg x35) x36) fun s44 => gd (ib x16 256) <| gd (ib x23 256) <| lt_ ((gI s44 67 (Int32.toNatClampNeg x16)) + (gI s44 66 (Int32.toNatClampNeg x23))) fun x45 => gd (ib x5 256) <| if (gI s44 66 (Int32.toNatClampNeg x5)) ≤ x45 then (gd (ib x5 256) <| j42 x5 (gI s44 66 (Int32.toNatClampNeg x5)) s44) else (j42 x5 x45 s44)) fun j38 => gd (ib x32 256) <| lt_ (pI s17 64 (Int32.toNatClampNeg x32) x33) fun s47 => if x31 = 0 then (gd (ib x5 256) <| j38 x5 (gI s47 65 (Int32.toNatClampNeg x5)) s47) else (j38 x5 x28 s47)) fun j34 => if x29 = 0 then (gd (ib x5 256) <| j34 x29 x5 (gI s17 64 (Int32.toNatClampNeg x5))) else (j34 x29 x5 x27)) fun j30 => jn_ (fun (x50 : Int32) (x51 : Int32) => j30 x50 x51 (1 : Int32)) fun j52 => Option.bind (f_X8_timeOf N x16 s17) fun r53 => gd (ib x23 256) <| lt_ (r53 + (gI s17 64 (Int32.toNatClampNeg x23))) fun x54 => gd (ib x16 256) <| gd (ib x23 256) <| lt_ ((gI s17 67 (Int32.toNatClampNeg x16)) + (gI s17 65 (Int32.toNatClampNeg x23))) fun x55 => gd (ib x5 256) <| if x54 < (gI s17 64 (Int32.toNatClampNeg x5)) then (j52 x54 x55) else (jn_ (fun (_ : Unit) => j30 x54 x55 (0 : Int32)) fun j57 => gd (ib x5 256) <| if x54 = (gI s17 64 (Int32.toNatClampNeg x5)) then (gd (ib x5 256) <| if (gI s17 65 (Int32.toNatClampNeg x5)) ≤ x55 then (j57 ()) else (j52 x54 x55)) else (j57 ())))))
def lp_X8_findLeast_27 (N : Nat)  : Nat → Int32 → jM → Option jM
  | 0, _, _ => none
  | q + 1, x5, s6 => Option.bind (f_X8_all s6) fun r8 => if r8 < x5 then (some s6) else (gd (ib x5 256) <| lt_ (pI s6 64 (Int32.toNatClampNeg x5) (1000000 : Int32)) fun s10 => gd (ib x5 256) <| lt_ (pI s10 65 (Int32.toNatClampNeg x5) (1000000 : Int32)) fun s11 => gd (ib x5 256) <| lt_ (pI s11 66 (Int32.toNatClampNeg x5) (1000000 : Int32)) fun s12 => jn_ (fun (s13 : jM) => lt_ (x5 + (1 : Int32)) fun x15 => lp_X8_findLeast_27 N q x15 s13) fun k14 => lp_X8_findLeast_61 N x5 k14 N (1 : Int32) s12)
def f_X8_findLeast (N : Nat)  (s0 : jM) : Option jM := Option.bind (f_X8_findPrices N s0) fun r1 => gd (ib (0 : Int32) 256) <| lt_ (pI r1 64 (Int32.toNatClampNeg (0 : Int32)) (0 : Int32)) fun s2 => gd (ib (0 : Int32) 256) <| lt_ (pI s2 65 (Int32.toNatClampNeg (0 : Int32)) (0 : Int32)) fun s3 => gd (ib (0 : Int32) 256) <| lt_ (pI s3 66 (Int32.toNatClampNeg (0 : Int32)) (0 : Int32)) fun s4 => lp_X8_findLeast_27 N N (1 : Int32) s4
set_option maxRecDepth 100000 in
set_option maxHeartbeats 4000000 in
theorem lp_X8_findLeast_61_ok (l : Launch) (N : Nat)  (x5 : Int32) (k14 : jM → Option jM) (hk14 : ∀ (s13 : jM), J l RX8 cX8_findLeast 8 (Option.none : Option Jvm.ClassFile.FieldType) false (rmD (7) 0 0) noCx (eV SH) SH 0 0 s13 254 [some (.ref 53), some (.int x5), none, none, none, none, none, none] [] (k14 s13)) : ∀ (q : Nat) (x16 : Int32) (s17 : jM), J l RX8 cX8_findLeast 8 (Option.none : Option Jvm.ClassFile.FieldType) false (rmD (7) 0 0) noCx (eV SH) SH 0 0 s17 61 [some (.ref 53), some (.int x5), some (.int x16), none, none, none, none, none] [] (lp_X8_findLeast_61 N x5 k14 q x16 s17) := by
  intro q
  induction q with
  | zero => intro x16 s17; exact J_none
  | succ q hrec18 =>
    intro x16 s17
    rw [lp_X8_findLeast_61]
    refine J_iload_n (i := 2) dX8_findLeast_61 rfl rfl ?_
    refine J_iload_n (i := 1) dX8_findLeast_62 rfl rfl ?_
    refine J_icmp_gt (tgt := 254) dX8_findLeast_63 (by decide) (fun c19 => ?_) (fun c19 => ?_)
    · refine J_sub (l1 := [some (.ref 53), some (.int x5), none, none, none, none, none, none]) ⟨rfl, ⟨rfl, trivial⟩⟩ ?_
      exact hk14 s17
    · refine J_join (P := fun j => ∀ (s20 : jM), J l RX8 cX8_findLeast 8 (Option.none : Option Jvm.ClassFile.FieldType) false (rmD (7) 0 0) noCx (eV SH) SH 0 0 s20 248 [some (.ref 53), some (.int x5), some (.int x16), none, none, none, none, none] [] (j s20)) ?_ (fun j21 hj21 => ?_)
      · intro s20
        refine J_iincN (i := 2) (v := x16 + (1 : Int32)) (LS := fun x22 => [some (.ref 53), some (.int x5), some (.int x22), none, none, none, none, none]) dX8_findLeast_248 rfl (by first | rfl | decide) (fun _ => rfl) (by decide) (fun x22 => ?_)
        refine J_goto (tgt := 61) dX8_findLeast_251 (by decide) ?_
        refine J_sub (l1 := [some (.ref 53), some (.int x5), some (.int x22), none, none, none, none, none]) ⟨rfl, ⟨rfl, ⟨rfl, trivial⟩⟩⟩ ?_
        exact hrec18 x22 s20
      refine J_iload_n (i := 1) dX8_findLeast_66 rfl rfl ?_
      refine J_iload_n (i := 2) dX8_findLeast_67 rfl rfl ?_
      refine J_iconst (v := (-1 : Int32)) dX8_findLeast_68 (by decide) ?_
      refine J_ixor dX8_findLeast_69 ?_
      refine J_iand dX8_findLeast_70 ?_
      refine J_istore_nN (i := 3) (LS := fun x23 => [some (.ref 53), some (.int x5), some (.int x16), some (.int x23), none, none, none, none]) dX8_findLeast_71 rfl (fun _ => rfl) (by decide) (fun x23 => ?_)
      refine J_aload_n (i := 0) dX8_findLeast_72 rfl rfl ?_
      refine J_iload_n (i := 2) dX8_findLeast_73 rfl rfl ?_
      refine J_iload_n (i := 1) dX8_findLeast_74 rfl rfl ?_
      refine J_callVI 53 [.int x16, .int x5] dX8_findLeast_75 ca_X8_mayGo lk_RX8_210 vi_X8_mayGo rc_53 rfl rfl ⟨by show _ ≤ _; simp only [rmD]; omega, by show _ ≤ _; simp only [rmD]; omega⟩ (Nat.le_of_ble_eq_true rfl) ⟨Nat.zero_le _, Nat.zero_le _⟩ (con_X8_mayGo l _ _ _) (fun r24 _ => ?_)
      refine J_if_eq (tgt := 248) dX8_findLeast_78 (by decide) (fun c25 => ?_) (fun c25 => ?_)
      · refine J_sub (l1 := [some (.ref 53), some (.int x5), some (.int x16), none, none, none, none, none]) ⟨rfl, ⟨rfl, ⟨rfl, trivial⟩⟩⟩ ?_
        exact hj21 s17
      · refine J_aload_n (i := 0) dX8_findLeast_81 rfl rfl ?_
        refine J_getR dX8_findLeast_82 fl_RX8_46 sh_53_19 ?_
        refine J_iload_n (i := 3) dX8_findLeast_85 rfl rfl ?_
        refine J_iald dX8_findLeast_86 sa_64 ?_
        refine J_ldcI (v := (1000000 : Int32)) dX8_findLeast_87 kw_RX8_206 ?_
        refine J_icmp_ge (tgt := 248) dX8_findLeast_89 (by decide) (fun c26 => ?_) (fun c26 => ?_)
        · refine J_sub (l1 := [some (.ref 53), some (.int x5), some (.int x16), none, none, none, none, none]) ⟨rfl, ⟨rfl, ⟨rfl, trivial⟩⟩⟩ ?_
          exact hj21 s17
        · refine J_join (P := fun j => ∀ (x27 : Int32) (x28 : Int32) (x29 : Int32), J l RX8 cX8_findLeast 8 (Option.none : Option Jvm.ClassFile.FieldType) false (rmD (7) 0 0) noCx (eV SH) SH 0 0 s17 159 [some (.ref 53), some (.int x5), some (.int x16), some (.int x23), some (.int x27), some (.int x28), none, none] [.int x29] (j x27 x28 x29)) ?_ (fun j30 hj30 => ?_)
          · intro x27 x28 x29
            refine J_join (P := fun j => ∀ (x31 : Int32) (x32 : Int32) (x33 : Int32), J l RX8 cX8_findLeast 8 (Option.none : Option Jvm.ClassFile.FieldType) false (rmD (7) 0 0) noCx (eV SH) SH 0 0 s17 182 [some (.ref 53), some (.int x5), some (.int x16), some (.int x23), none, some (.int x28), some (.int x31), none] [.int x33, .int x32, .ref 64] (j x31 x32 x33)) ?_ (fun j34 hj34 => ?_)
            · intro x31 x32 x33
              refine J_join (P := fun j => ∀ (x35 : Int32) (x36 : Int32) (s37 : jM), J l RX8 cX8_findLeast 8 (Option.none : Option Jvm.ClassFile.FieldType) false (rmD (7) 0 0) noCx (eV SH) SH 0 0 s37 204 [some (.ref 53), some (.int x5), some (.int x16), some (.int x23), none, none, none, none] [.int x36, .int x35, .ref 65] (j x35 x36 s37)) ?_ (fun j38 hj38 => ?_)
              · intro x35 x36 s37
                refine J_join (P := fun j => ∀ (x39 : Int32) (x40 : Int32) (s41 : jM), J l RX8 cX8_findLeast 8 (Option.none : Option Jvm.ClassFile.FieldType) false (rmD (7) 0 0) noCx (eV SH) SH 0 0 s41 247 [some (.ref 53), some (.int x5), some (.int x16), none, none, none, none, none] [.int x40, .int x39, .ref 66] (j x39 x40 s41)) ?_ (fun j42 hj42 => ?_)
                · intro x39 x40 s41
                  refine J_iast dX8_findLeast_247 sa_66 ?_
                  refine J_letM rfl (fun s43 => ?_)
                  refine J_sub (l1 := [some (.ref 53), some (.int x5), some (.int x16), none, none, none, none, none]) ⟨rfl, ⟨rfl, ⟨rfl, trivial⟩⟩⟩ ?_
                  exact hj21 s43
                refine J_iast dX8_findLeast_204 sa_65 ?_
                refine J_letM rfl (fun s44 => ?_)
                refine J_aload_n (i := 0) dX8_findLeast_205 rfl rfl ?_
                refine J_getR dX8_findLeast_206 fl_RX8_55 sh_53_22 ?_
                refine J_iload_n (i := 2) dX8_findLeast_209 rfl rfl ?_
                refine J_iald dX8_findLeast_210 sa_67 ?_
                refine J_aload_n (i := 0) dX8_findLeast_211 rfl rfl ?_
                refine J_getR dX8_findLeast_212 fl_RX8_52 sh_53_21 ?_
                refine J_iload_n (i := 3) dX8_findLeast_215 rfl rfl ?_
                refine J_iald dX8_findLeast_216 sa_66 ?_
                refine J_iadd dX8_findLeast_217 ?_
                refine J_istoreN (i := 7) (LS := fun x45 => [some (.ref 53), some (.int x5), some (.int x16), some (.int x23), none, none, none, some (.int x45)]) dX8_findLeast_218 (fun _ => rfl) (by decide) (fun x45 => ?_)
                refine J_aload_n (i := 0) dX8_findLeast_220 rfl rfl ?_
                refine J_getR dX8_findLeast_221 fl_RX8_52 sh_53_21 ?_
                refine J_iload_n (i := 1) dX8_findLeast_224 rfl rfl ?_
                refine J_iload (i := 7) dX8_findLeast_225 rfl ?_
                refine J_aload_n (i := 0) dX8_findLeast_227 rfl rfl ?_
                refine J_getR dX8_findLeast_228 fl_RX8_52 sh_53_21 ?_
                refine J_iload_n (i := 1) dX8_findLeast_231 rfl rfl ?_
                refine J_iald dX8_findLeast_232 sa_66 ?_
                refine J_icmp_ge (tgt := 241) dX8_findLeast_233 (by decide) (fun c46 => ?_) (fun c46 => ?_)
                · refine J_aload_n (i := 0) dX8_findLeast_241 rfl rfl ?_
                  refine J_getR dX8_findLeast_242 fl_RX8_52 sh_53_21 ?_
                  refine J_iload_n (i := 1) dX8_findLeast_245 rfl rfl ?_
                  refine J_iald dX8_findLeast_246 sa_66 ?_
                  refine J_sub (l1 := [some (.ref 53), some (.int x5), some (.int x16), none, none, none, none, none]) ⟨rfl, ⟨rfl, ⟨rfl, trivial⟩⟩⟩ ?_
                  exact hj42 x5 (gI s44 66 (Int32.toNatClampNeg x5)) s44
                · refine J_iload (i := 7) dX8_findLeast_236 rfl ?_
                  refine J_goto (tgt := 247) dX8_findLeast_238 (by decide) ?_
                  refine J_sub (l1 := [some (.ref 53), some (.int x5), some (.int x16), none, none, none, none, none]) ⟨rfl, ⟨rfl, ⟨rfl, trivial⟩⟩⟩ ?_
                  exact hj42 x5 x45 s44
              refine J_iast dX8_findLeast_182 sa_64 ?_
              refine J_letM rfl (fun s47 => ?_)
              refine J_aload_n (i := 0) dX8_findLeast_183 rfl rfl ?_
              refine J_getR dX8_findLeast_184 fl_RX8_49 sh_53_20 ?_
              refine J_iload_n (i := 1) dX8_findLeast_187 rfl rfl ?_
              refine J_iload (i := 6) dX8_findLeast_188 rfl ?_
              refine J_if_eq (tgt := 198) dX8_findLeast_190 (by decide) (fun c48 => ?_) (fun c48 => ?_)
              · refine J_aload_n (i := 0) dX8_findLeast_198 rfl rfl ?_
                refine J_getR dX8_findLeast_199 fl_RX8_49 sh_53_20 ?_
                refine J_iload_n (i := 1) dX8_findLeast_202 rfl rfl ?_
                refine J_iald dX8_findLeast_203 sa_65 ?_
                refine J_sub (l1 := [some (.ref 53), some (.int x5), some (.int x16), some (.int x23), none, none, none, none]) ⟨rfl, ⟨rfl, ⟨rfl, ⟨rfl, trivial⟩⟩⟩⟩ ?_
                exact hj38 x5 (gI s47 65 (Int32.toNatClampNeg x5)) s47
              · refine J_iload (i := 5) dX8_findLeast_193 rfl ?_
                refine J_goto (tgt := 204) dX8_findLeast_195 (by decide) ?_
                refine J_sub (l1 := [some (.ref 53), some (.int x5), some (.int x16), some (.int x23), none, none, none, none]) ⟨rfl, ⟨rfl, ⟨rfl, ⟨rfl, trivial⟩⟩⟩⟩ ?_
                exact hj38 x5 x28 s47
            refine J_istore (i := 6) (ls2 := [some (.ref 53), some (.int x5), some (.int x16), some (.int x23), some (.int x27), some (.int x28), some (.int x29), none]) dX8_findLeast_159 rfl (by decide) ?_
            refine J_aload_n (i := 0) dX8_findLeast_161 rfl rfl ?_
            refine J_getR dX8_findLeast_162 fl_RX8_46 sh_53_19 ?_
            refine J_iload_n (i := 1) dX8_findLeast_165 rfl rfl ?_
            refine J_iload (i := 6) dX8_findLeast_166 rfl ?_
            refine J_if_eq (tgt := 176) dX8_findLeast_168 (by decide) (fun c49 => ?_) (fun c49 => ?_)
            · refine J_aload_n (i := 0) dX8_findLeast_176 rfl rfl ?_
              refine J_getR dX8_findLeast_177 fl_RX8_46 sh_53_19 ?_
              refine J_iload_n (i := 1) dX8_findLeast_180 rfl rfl ?_
              refine J_iald dX8_findLeast_181 sa_64 ?_
              refine J_sub (l1 := [some (.ref 53), some (.int x5), some (.int x16), some (.int x23), none, some (.int x28), some (.int x29), none]) ⟨rfl, ⟨rfl, ⟨rfl, ⟨rfl, ⟨rfl, ⟨rfl, trivial⟩⟩⟩⟩⟩⟩ ?_
              exact hj34 x29 x5 (gI s17 64 (Int32.toNatClampNeg x5))
            · refine J_iload (i := 4) dX8_findLeast_171 rfl ?_
              refine J_goto (tgt := 182) dX8_findLeast_173 (by decide) ?_
              refine J_sub (l1 := [some (.ref 53), some (.int x5), some (.int x16), some (.int x23), none, some (.int x28), some (.int x29), none]) ⟨rfl, ⟨rfl, ⟨rfl, ⟨rfl, ⟨rfl, ⟨rfl, trivial⟩⟩⟩⟩⟩⟩ ?_
              exact hj34 x29 x5 x27
          refine J_join (P := fun j => ∀ (x50 : Int32) (x51 : Int32), J l RX8 cX8_findLeast 8 (Option.none : Option Jvm.ClassFile.FieldType) false (rmD (7) 0 0) noCx (eV SH) SH 0 0 s17 154 [some (.ref 53), some (.int x5), some (.int x16), some (.int x23), some (.int x50), some (.int x51), none, none] [] (j x50 x51)) ?_ (fun j52 hj52 => ?_)
          · intro x50 x51
            refine J_iconst (v := (1 : Int32)) dX8_findLeast_154 (by decide) ?_
            refine J_goto (tgt := 159) dX8_findLeast_155 (by decide) ?_
            refine J_sub (l1 := [some (.ref 53), some (.int x5), some (.int x16), some (.int x23), some (.int x50), some (.int x51), none, none]) ⟨rfl, ⟨rfl, ⟨rfl, ⟨rfl, ⟨rfl, ⟨rfl, trivial⟩⟩⟩⟩⟩⟩ ?_
            exact hj30 x50 x51 (1 : Int32)
          refine J_aload_n (i := 0) dX8_findLeast_92 rfl rfl ?_
          refine J_iload_n (i := 2) dX8_findLeast_93 rfl rfl ?_
          refine J_callVI 53 [.int x16] dX8_findLeast_94 ca_X8_timeOf lk_RX8_213 vi_X8_timeOf rc_53 rfl rfl ⟨by show _ ≤ _; simp only [rmD]; omega, by show _ ≤ _; simp only [rmD]; omega⟩ (Nat.le_of_ble_eq_true rfl) ⟨Nat.zero_le _, Nat.zero_le _⟩ (con_X8_timeOf l N _ _) (fun r53 _ => ?_)
          refine J_aload_n (i := 0) dX8_findLeast_97 rfl rfl ?_
          refine J_getR dX8_findLeast_98 fl_RX8_46 sh_53_19 ?_
          refine J_iload_n (i := 3) dX8_findLeast_101 rfl rfl ?_
          refine J_iald dX8_findLeast_102 sa_64 ?_
          refine J_iadd dX8_findLeast_103 ?_
          refine J_istoreN (i := 4) (LS := fun x54 => [some (.ref 53), some (.int x5), some (.int x16), some (.int x23), some (.int x54), none, none, none]) dX8_findLeast_104 (fun _ => rfl) (by decide) (fun x54 => ?_)
          refine J_aload_n (i := 0) dX8_findLeast_106 rfl rfl ?_
          refine J_getR dX8_findLeast_107 fl_RX8_55 sh_53_22 ?_
          refine J_iload_n (i := 2) dX8_findLeast_110 rfl rfl ?_
          refine J_iald dX8_findLeast_111 sa_67 ?_
          refine J_aload_n (i := 0) dX8_findLeast_112 rfl rfl ?_
          refine J_getR dX8_findLeast_113 fl_RX8_49 sh_53_20 ?_
          refine J_iload_n (i := 3) dX8_findLeast_116 rfl rfl ?_
          refine J_iald dX8_findLeast_117 sa_65 ?_
          refine J_iadd dX8_findLeast_118 ?_
          refine J_istoreN (i := 5) (LS := fun x55 => [some (.ref 53), some (.int x5), some (.int x16), some (.int x23), some (.int x54), some (.int x55), none, none]) dX8_findLeast_119 (fun _ => rfl) (by decide) (fun x55 => ?_)
          refine J_iload (i := 4) dX8_findLeast_121 rfl ?_
          refine J_aload_n (i := 0) dX8_findLeast_123 rfl rfl ?_
          refine J_getR dX8_findLeast_124 fl_RX8_46 sh_53_19 ?_
          refine J_iload_n (i := 1) dX8_findLeast_127 rfl rfl ?_
          refine J_iald dX8_findLeast_128 sa_64 ?_
          refine J_icmp_lt (tgt := 154) dX8_findLeast_129 (by decide) (fun c56 => ?_) (fun c56 => ?_)
          · refine J_sub (l1 := [some (.ref 53), some (.int x5), some (.int x16), some (.int x23), some (.int x54), some (.int x55), none, none]) ⟨rfl, ⟨rfl, ⟨rfl, ⟨rfl, ⟨rfl, ⟨rfl, trivial⟩⟩⟩⟩⟩⟩ ?_
            exact hj52 x54 x55
          · refine J_join (P := fun j => ∀ (_ : Unit), J l RX8 cX8_findLeast 8 (Option.none : Option Jvm.ClassFile.FieldType) false (rmD (7) 0 0) noCx (eV SH) SH 0 0 s17 158 [some (.ref 53), some (.int x5), some (.int x16), some (.int x23), some (.int x54), some (.int x55), none, none] [] (j ())) ?_ (fun j57 hj57 => ?_)
            · intro _
              refine J_iconst (v := (0 : Int32)) dX8_findLeast_158 (by decide) ?_
              refine J_sub (l1 := [some (.ref 53), some (.int x5), some (.int x16), some (.int x23), some (.int x54), some (.int x55), none, none]) ⟨rfl, ⟨rfl, ⟨rfl, ⟨rfl, ⟨rfl, ⟨rfl, trivial⟩⟩⟩⟩⟩⟩ ?_
              exact hj30 x54 x55 (0 : Int32)
            refine J_iload (i := 4) dX8_findLeast_132 rfl ?_
            refine J_aload_n (i := 0) dX8_findLeast_134 rfl rfl ?_
            refine J_getR dX8_findLeast_135 fl_RX8_46 sh_53_19 ?_
            refine J_iload_n (i := 1) dX8_findLeast_138 rfl rfl ?_
            refine J_iald dX8_findLeast_139 sa_64 ?_
            refine J_icmp_ne (tgt := 158) dX8_findLeast_140 (by decide) (fun c58 => ?_) (fun c58 => ?_)
            · refine J_sub (l1 := [some (.ref 53), some (.int x5), some (.int x16), some (.int x23), some (.int x54), some (.int x55), none, none]) ⟨rfl, ⟨rfl, ⟨rfl, ⟨rfl, ⟨rfl, ⟨rfl, trivial⟩⟩⟩⟩⟩⟩ ?_
              exact hj57 ()
            · refine J_iload (i := 5) dX8_findLeast_143 rfl ?_
              refine J_aload_n (i := 0) dX8_findLeast_145 rfl rfl ?_
              refine J_getR dX8_findLeast_146 fl_RX8_49 sh_53_20 ?_
              refine J_iload_n (i := 1) dX8_findLeast_149 rfl rfl ?_
              refine J_iald dX8_findLeast_150 sa_65 ?_
              refine J_icmp_ge (tgt := 158) dX8_findLeast_151 (by decide) (fun c59 => ?_) (fun c59 => ?_)
              · refine J_sub (l1 := [some (.ref 53), some (.int x5), some (.int x16), some (.int x23), some (.int x54), some (.int x55), none, none]) ⟨rfl, ⟨rfl, ⟨rfl, ⟨rfl, ⟨rfl, ⟨rfl, trivial⟩⟩⟩⟩⟩⟩ ?_
                exact hj57 ()
              · refine J_sub (l1 := [some (.ref 53), some (.int x5), some (.int x16), some (.int x23), some (.int x54), some (.int x55), none, none]) ⟨rfl, ⟨rfl, ⟨rfl, ⟨rfl, ⟨rfl, ⟨rfl, trivial⟩⟩⟩⟩⟩⟩ ?_
                exact hj52 x54 x55
set_option maxRecDepth 100000 in
set_option maxHeartbeats 4000000 in
theorem lp_X8_findLeast_27_ok (l : Launch) (N : Nat)    : ∀ (q : Nat) (x5 : Int32) (s6 : jM), J l RX8 cX8_findLeast 8 (Option.none : Option Jvm.ClassFile.FieldType) false (rmD (7) 0 0) noCx (eV SH) SH 0 0 s6 27 [some (.ref 53), some (.int x5), none, none, none, none, none, none] [] (lp_X8_findLeast_27 N q x5 s6) := by
  intro q
  induction q with
  | zero => intro x5 s6; exact J_none
  | succ q hrec7 =>
    intro x5 s6
    rw [lp_X8_findLeast_27]
    refine J_iload_n (i := 1) dX8_findLeast_27 rfl rfl ?_
    refine J_aload_n (i := 0) dX8_findLeast_28 rfl rfl ?_
    refine J_callVI 53 [] dX8_findLeast_29 ca_X8_all lk_RX8_78 vi_X8_all rc_53 rfl rfl ⟨by show _ ≤ _; simp only [rmD]; omega, by show _ ≤ _; simp only [rmD]; omega⟩ (Nat.le_of_ble_eq_true rfl) ⟨Nat.zero_le _, Nat.zero_le _⟩ (con_X8_all l _) (fun r8 _ => ?_)
    refine J_icmp_gt (tgt := 260) dX8_findLeast_32 (by decide) (fun c9 => ?_) (fun c9 => ?_)
    · exact J_return dX8_findLeast_260 rfl rfl
    · refine J_aload_n (i := 0) dX8_findLeast_35 rfl rfl ?_
      refine J_getR dX8_findLeast_36 fl_RX8_46 sh_53_19 ?_
      refine J_iload_n (i := 1) dX8_findLeast_39 rfl rfl ?_
      refine J_ldcI (v := (1000000 : Int32)) dX8_findLeast_40 kw_RX8_206 ?_
      refine J_iast dX8_findLeast_42 sa_64 ?_
      refine J_letM rfl (fun s10 => ?_)
      refine J_aload_n (i := 0) dX8_findLeast_43 rfl rfl ?_
      refine J_getR dX8_findLeast_44 fl_RX8_49 sh_53_20 ?_
      refine J_iload_n (i := 1) dX8_findLeast_47 rfl rfl ?_
      refine J_ldcI (v := (1000000 : Int32)) dX8_findLeast_48 kw_RX8_206 ?_
      refine J_iast dX8_findLeast_50 sa_65 ?_
      refine J_letM rfl (fun s11 => ?_)
      refine J_aload_n (i := 0) dX8_findLeast_51 rfl rfl ?_
      refine J_getR dX8_findLeast_52 fl_RX8_52 sh_53_21 ?_
      refine J_iload_n (i := 1) dX8_findLeast_55 rfl rfl ?_
      refine J_ldcI (v := (1000000 : Int32)) dX8_findLeast_56 kw_RX8_206 ?_
      refine J_iast dX8_findLeast_58 sa_66 ?_
      refine J_letM rfl (fun s12 => ?_)
      refine J_iconst (v := (1 : Int32)) dX8_findLeast_59 (by decide) ?_
      refine J_istore_n (i := 2) (ls2 := [some (.ref 53), some (.int x5), some (.int (1 : Int32)), none, none, none, none, none]) dX8_findLeast_60 rfl rfl (by decide) ?_
      refine J_join (P := fun j => ∀ (s13 : jM), J l RX8 cX8_findLeast 8 (Option.none : Option Jvm.ClassFile.FieldType) false (rmD (7) 0 0) noCx (eV SH) SH 0 0 s13 254 [some (.ref 53), some (.int x5), none, none, none, none, none, none] [] (j s13)) ?_ (fun k14 hk14 => ?_)
      · intro s13
        refine J_iincN (i := 1) (v := x5 + (1 : Int32)) (LS := fun x15 => [some (.ref 53), some (.int x15), none, none, none, none, none, none]) dX8_findLeast_254 rfl (by first | rfl | decide) (fun _ => rfl) (by decide) (fun x15 => ?_)
        refine J_goto (tgt := 27) dX8_findLeast_257 (by decide) ?_
        refine J_sub (l1 := [some (.ref 53), some (.int x15), none, none, none, none, none, none]) ⟨rfl, ⟨rfl, trivial⟩⟩ ?_
        exact hrec7 x15 s13
      refine J_sub (l1 := [some (.ref 53), some (.int x5), some (.int (1 : Int32)), none, none, none, none, none]) ⟨rfl, ⟨rfl, ⟨rfl, trivial⟩⟩⟩ ?_
      exact lp_X8_findLeast_61_ok l N  x5 k14 hk14 N (1 : Int32) s12
set_option maxRecDepth 100000 in
set_option maxHeartbeats 4000000 in
theorem con_X8_findLeast (l : Launch) (N : Nat) (s0 : jM) : Con l (7) yX8_findLeast cX8_findLeast 8 (Option.none : Option Jvm.ClassFile.FieldType) (eV SH) SH [.ref 53] s0 (f_X8_findLeast N s0) := by
  refine Con_of (ls0 := [some (.ref 53), none, none, none, none, none, none, none]) (ini := false) (mc := 0) (ms := 0) (by decide +kernel) rfl (Nat.le_of_ble_eq_true rfl) (fun h => by cases h) (fun _ _ => rfl) ?_
  unfold f_X8_findLeast
  refine J_aload_n (i := 0) dX8_findLeast_0 rfl rfl ?_
  refine J_callVV 53 [] dX8_findLeast_1 ca_X8_findPrices lk_RX8_207 vi_X8_findPrices rc_53 rfl rfl ⟨by show _ ≤ _; simp only [rmD]; omega, by show _ ≤ _; simp only [rmD]; omega⟩ (Nat.le_of_ble_eq_true rfl) ⟨Nat.zero_le _, Nat.zero_le _⟩ (con_X8_findPrices l N _) (fun r1 _ => ?_)
  refine J_aload_n (i := 0) dX8_findLeast_4 rfl rfl ?_
  refine J_getR dX8_findLeast_5 fl_RX8_46 sh_53_19 ?_
  refine J_iconst (v := (0 : Int32)) dX8_findLeast_8 (by decide) ?_
  refine J_iconst (v := (0 : Int32)) dX8_findLeast_9 (by decide) ?_
  refine J_iast dX8_findLeast_10 sa_64 ?_
  refine J_letM rfl (fun s2 => ?_)
  refine J_aload_n (i := 0) dX8_findLeast_11 rfl rfl ?_
  refine J_getR dX8_findLeast_12 fl_RX8_49 sh_53_20 ?_
  refine J_iconst (v := (0 : Int32)) dX8_findLeast_15 (by decide) ?_
  refine J_iconst (v := (0 : Int32)) dX8_findLeast_16 (by decide) ?_
  refine J_iast dX8_findLeast_17 sa_65 ?_
  refine J_letM rfl (fun s3 => ?_)
  refine J_aload_n (i := 0) dX8_findLeast_18 rfl rfl ?_
  refine J_getR dX8_findLeast_19 fl_RX8_52 sh_53_21 ?_
  refine J_iconst (v := (0 : Int32)) dX8_findLeast_22 (by decide) ?_
  refine J_iconst (v := (0 : Int32)) dX8_findLeast_23 (by decide) ?_
  refine J_iast dX8_findLeast_24 sa_66 ?_
  refine J_letM rfl (fun s4 => ?_)
  refine J_iconst (v := (1 : Int32)) dX8_findLeast_25 (by decide) ?_
  refine J_istore_n (i := 1) (ls2 := [some (.ref 53), some (.int (1 : Int32)), none, none, none, none, none, none]) dX8_findLeast_26 rfl rfl (by decide) ?_
  refine J_sub (l1 := [some (.ref 53), some (.int (1 : Int32)), none, none, none, none, none, none]) ⟨rfl, ⟨rfl, trivial⟩⟩ ?_
  exact lp_X8_findLeast_27_ok l N    N (1 : Int32) s4

def f_X8_isNext (N : Nat) (a1 : Int32) (a2 : Int32) (s0 : jM) : Option Int32 := jn_ (fun (_ : Unit) => some (0 : Int32)) fun j1 => lt_ (a2 &&& (a1 ^^^ (-1 : Int32))) fun x2 => Option.bind (f_X8_mayGo a1 a2 s0) fun r3 => if r3 = 0 then (j1 ()) else (Option.bind (f_X8_timeOf N a1 s0) fun r5 => gd (ib x2 256) <| gd (ib a2 256) <| if (r5 + (gI s0 64 (Int32.toNatClampNeg x2))) = (gI s0 64 (Int32.toNatClampNeg a2)) then (gd (ib a1 256) <| gd (ib x2 256) <| gd (ib a2 256) <| if ((gI s0 67 (Int32.toNatClampNeg a1)) + (gI s0 65 (Int32.toNatClampNeg x2))) = (gI s0 65 (Int32.toNatClampNeg a2)) then (some (1 : Int32)) else (j1 ())) else (j1 ()))
set_option maxRecDepth 100000 in
set_option maxHeartbeats 4000000 in
theorem con_X8_isNext (l : Launch) (N : Nat) (a1 : Int32) (a2 : Int32) (s0 : jM) : Con l (3) yX8_isNext cX8_isNext 4 (Option.some Jvm.ClassFile.FieldType.boolean) (eI SH s0) SH [.ref 53, .int a1, .int a2] s0 (f_X8_isNext N a1 a2 s0) := by
  refine Con_of (ls0 := [some (.ref 53), some (.int a1), some (.int a2), none]) (ini := false) (mc := 0) (ms := 0) (by decide +kernel) rfl (Nat.le_of_ble_eq_true rfl) (fun h => by cases h) (fun _ _ => rfl) ?_
  unfold f_X8_isNext
  refine J_join (P := fun j => ∀ (_ : Unit), J l RX8 cX8_isNext 4 (Option.some Jvm.ClassFile.FieldType.boolean) false (rmD (3) 0 0) noCx (eI SH s0) SH 0 0 s0 62 [none, none, none, none] [] (j ())) ?_ (fun j1 hj1 => ?_)
  · intro _
    refine J_iconst (v := (0 : Int32)) dX8_isNext_62 (by decide) ?_
    exact J_ireturn dX8_isNext_63 rfl rfl rfl
  refine J_iload_n (i := 2) dX8_isNext_0 rfl rfl ?_
  refine J_iload_n (i := 1) dX8_isNext_1 rfl rfl ?_
  refine J_iconst (v := (-1 : Int32)) dX8_isNext_2 (by decide) ?_
  refine J_ixor dX8_isNext_3 ?_
  refine J_iand dX8_isNext_4 ?_
  refine J_istore_nN (i := 3) (LS := fun x2 => [some (.ref 53), some (.int a1), some (.int a2), some (.int x2)]) dX8_isNext_5 rfl (fun _ => rfl) (by decide) (fun x2 => ?_)
  refine J_aload_n (i := 0) dX8_isNext_6 rfl rfl ?_
  refine J_iload_n (i := 1) dX8_isNext_7 rfl rfl ?_
  refine J_iload_n (i := 2) dX8_isNext_8 rfl rfl ?_
  refine J_callVI 53 [.int a1, .int a2] dX8_isNext_9 ca_X8_mayGo lk_RX8_210 vi_X8_mayGo rc_53 rfl rfl ⟨by show _ ≤ _; simp only [rmD]; omega, by show _ ≤ _; simp only [rmD]; omega⟩ (Nat.le_of_ble_eq_true rfl) ⟨Nat.zero_le _, Nat.zero_le _⟩ (con_X8_mayGo l _ _ _) (fun r3 _ => ?_)
  refine J_if_eq (tgt := 62) dX8_isNext_12 (by decide) (fun c4 => ?_) (fun c4 => ?_)
  · refine J_sub (l1 := [none, none, none, none]) trivial ?_
    exact hj1 ()
  · refine J_aload_n (i := 0) dX8_isNext_15 rfl rfl ?_
    refine J_iload_n (i := 1) dX8_isNext_16 rfl rfl ?_
    refine J_callVI 53 [.int a1] dX8_isNext_17 ca_X8_timeOf lk_RX8_213 vi_X8_timeOf rc_53 rfl rfl ⟨by show _ ≤ _; simp only [rmD]; omega, by show _ ≤ _; simp only [rmD]; omega⟩ (Nat.le_of_ble_eq_true rfl) ⟨Nat.zero_le _, Nat.zero_le _⟩ (con_X8_timeOf l N _ _) (fun r5 _ => ?_)
    refine J_aload_n (i := 0) dX8_isNext_20 rfl rfl ?_
    refine J_getR dX8_isNext_21 fl_RX8_46 sh_53_19 ?_
    refine J_iload_n (i := 3) dX8_isNext_24 rfl rfl ?_
    refine J_iald dX8_isNext_25 sa_64 ?_
    refine J_iadd dX8_isNext_26 ?_
    refine J_aload_n (i := 0) dX8_isNext_27 rfl rfl ?_
    refine J_getR dX8_isNext_28 fl_RX8_46 sh_53_19 ?_
    refine J_iload_n (i := 2) dX8_isNext_31 rfl rfl ?_
    refine J_iald dX8_isNext_32 sa_64 ?_
    refine J_icmp_ne (tgt := 62) dX8_isNext_33 (by decide) (fun c6 => ?_) (fun c6 => ?_)
    · refine J_sub (l1 := [none, none, none, none]) trivial ?_
      exact hj1 ()
    · refine J_aload_n (i := 0) dX8_isNext_36 rfl rfl ?_
      refine J_getR dX8_isNext_37 fl_RX8_55 sh_53_22 ?_
      refine J_iload_n (i := 1) dX8_isNext_40 rfl rfl ?_
      refine J_iald dX8_isNext_41 sa_67 ?_
      refine J_aload_n (i := 0) dX8_isNext_42 rfl rfl ?_
      refine J_getR dX8_isNext_43 fl_RX8_49 sh_53_20 ?_
      refine J_iload_n (i := 3) dX8_isNext_46 rfl rfl ?_
      refine J_iald dX8_isNext_47 sa_65 ?_
      refine J_iadd dX8_isNext_48 ?_
      refine J_aload_n (i := 0) dX8_isNext_49 rfl rfl ?_
      refine J_getR dX8_isNext_50 fl_RX8_49 sh_53_20 ?_
      refine J_iload_n (i := 2) dX8_isNext_53 rfl rfl ?_
      refine J_iald dX8_isNext_54 sa_65 ?_
      refine J_icmp_ne (tgt := 62) dX8_isNext_55 (by decide) (fun c7 => ?_) (fun c7 => ?_)
      · refine J_sub (l1 := [none, none, none, none]) trivial ?_
        exact hj1 ()
      · refine J_iconst (v := (1 : Int32)) dX8_isNext_58 (by decide) ?_
        refine J_goto (tgt := 63) dX8_isNext_59 (by decide) ?_
        exact J_ireturn dX8_isNext_63 rfl rfl rfl

def lp_X8_layRow_33 (N : Nat) (x5 : Int32) (s6 : jM) (k10 : Int32 → Option (Int32 × jM)) : Nat → Int32 → Option (Int32 × jM)
  | 0, _ => none
  | q + 1, x14 => Option.bind (f_X8_isNext N x14 x5 s6) fun r16 => if r16 = 0 then (lt_ (x14 + (1 : Int32)) fun x18 => lp_X8_layRow_33 N x5 s6 k10 q x18) else (k10 x14)
def lp_X8_layRow_27 (N : Nat)  : Nat → Int32 → jM → Option (Int32 × jM)
  | 0, _, _ => none
  | q + 1, x5, s6 => if x5 = 0 then (some ((1 : Int32), s6)) else (jn_ (fun (x9 : Int32) => gd (ib (gI s6 53 23) 8) <| lt_ (pI s6 68 (Int32.toNatClampNeg (gI s6 53 23)) x9) fun s11 => lt_ (pI s11 53 23 ((gI s11 53 23) + (1 : Int32))) fun s12 => lt_ (x5 &&& (x9 ^^^ (-1 : Int32))) fun x13 => lp_X8_layRow_27 N q x13 s12) fun k10 => lp_X8_layRow_33 N x5 s6 k10 N (1 : Int32))
def f_X8_layRow (N : Nat)  (s0 : jM) : Option (Int32 × jM) := Option.bind (f_X8_findLeast N s0) fun r1 => lt_ (pI r1 53 23 (0 : Int32)) fun s2 => Option.bind (f_X8_all s2) fun r3 => gd (ib r3 256) <| if (gI s2 64 (Int32.toNatClampNeg r3)) = (1000000 : Int32) then (some ((0 : Int32), s2)) else (lp_X8_layRow_27 N N r3 s2)
set_option maxRecDepth 100000 in
set_option maxHeartbeats 4000000 in
theorem lp_X8_layRow_33_ok (l : Launch) (N : Nat)  (x5 : Int32) (s6 : jM) (k10 : Int32 → Option (Int32 × jM)) (hk10 : ∀ (x9 : Int32), J l RX8 cX8_layRow 3 (Option.some Jvm.ClassFile.FieldType.boolean) false (rmD (8) 0 0) noCx (eIM SH) SH 0 0 s6 48 [some (.ref 53), some (.int x5), some (.int x9)] [] (k10 x9)) : ∀ (q : Nat) (x14 : Int32), J l RX8 cX8_layRow 3 (Option.some Jvm.ClassFile.FieldType.boolean) false (rmD (8) 0 0) noCx (eIM SH) SH 0 0 s6 33 [some (.ref 53), some (.int x5), some (.int x14)] [] (lp_X8_layRow_33 N x5 s6 k10 q x14) := by
  intro q
  induction q with
  | zero => intro x14; exact J_none
  | succ q hrec15 =>
    intro x14
    rw [lp_X8_layRow_33]
    refine J_aload_n (i := 0) dX8_layRow_33 rfl rfl ?_
    refine J_iload_n (i := 2) dX8_layRow_34 rfl rfl ?_
    refine J_iload_n (i := 1) dX8_layRow_35 rfl rfl ?_
    refine J_callVI 53 [.int x14, .int x5] dX8_layRow_36 ca_X8_isNext lk_RX8_222 vi_X8_isNext rc_53 rfl rfl ⟨by show _ ≤ _; simp only [rmD]; omega, by show _ ≤ _; simp only [rmD]; omega⟩ (Nat.le_of_ble_eq_true rfl) ⟨Nat.zero_le _, Nat.zero_le _⟩ (con_X8_isNext l N _ _ _) (fun r16 _ => ?_)
    refine J_if_ne (tgt := 48) dX8_layRow_39 (by decide) (fun c17 => ?_) (fun c17 => ?_)
    · refine J_sub (l1 := [some (.ref 53), some (.int x5), some (.int x14)]) ⟨rfl, ⟨rfl, ⟨rfl, trivial⟩⟩⟩ ?_
      exact hk10 x14
    · refine J_iincN (i := 2) (v := x14 + (1 : Int32)) (LS := fun x18 => [some (.ref 53), some (.int x5), some (.int x18)]) dX8_layRow_42 rfl (by first | rfl | decide) (fun _ => rfl) (by decide) (fun x18 => ?_)
      refine J_goto (tgt := 33) dX8_layRow_45 (by decide) ?_
      refine J_sub (l1 := [some (.ref 53), some (.int x5), some (.int x18)]) ⟨rfl, ⟨rfl, ⟨rfl, trivial⟩⟩⟩ ?_
      exact hrec15 x18
set_option maxRecDepth 100000 in
set_option maxHeartbeats 4000000 in
theorem lp_X8_layRow_27_ok (l : Launch) (N : Nat)    : ∀ (q : Nat) (x5 : Int32) (s6 : jM), J l RX8 cX8_layRow 3 (Option.some Jvm.ClassFile.FieldType.boolean) false (rmD (8) 0 0) noCx (eIM SH) SH 0 0 s6 27 [some (.ref 53), some (.int x5), none] [] (lp_X8_layRow_27 N q x5 s6) := by
  intro q
  induction q with
  | zero => intro x5 s6; exact J_none
  | succ q hrec7 =>
    intro x5 s6
    rw [lp_X8_layRow_27]
    refine J_iload_n (i := 1) dX8_layRow_27 rfl rfl ?_
    refine J_if_eq (tgt := 77) dX8_layRow_28 (by decide) (fun c8 => ?_) (fun c8 => ?_)
    · refine J_iconst (v := (1 : Int32)) dX8_layRow_77 (by decide) ?_
      exact J_ireturn dX8_layRow_78 rfl rfl rfl
    · refine J_iconst (v := (1 : Int32)) dX8_layRow_31 (by decide) ?_
      refine J_istore_n (i := 2) (ls2 := [some (.ref 53), some (.int x5), some (.int (1 : Int32))]) dX8_layRow_32 rfl rfl (by decide) ?_
      refine J_join (P := fun j => ∀ (x9 : Int32), J l RX8 cX8_layRow 3 (Option.some Jvm.ClassFile.FieldType.boolean) false (rmD (8) 0 0) noCx (eIM SH) SH 0 0 s6 48 [some (.ref 53), some (.int x5), some (.int x9)] [] (j x9)) ?_ (fun k10 hk10 => ?_)
      · intro x9
        refine J_aload_n (i := 0) dX8_layRow_48 rfl rfl ?_
        refine J_getR dX8_layRow_49 fl_RX8_58 sh_53_24 ?_
        refine J_aload_n (i := 0) dX8_layRow_52 rfl rfl ?_
        refine J_getI dX8_layRow_53 fl_RX8_219 sh_53_23 ?_
        refine J_iload_n (i := 2) dX8_layRow_56 rfl rfl ?_
        refine J_iast dX8_layRow_57 sa_68 ?_
        refine J_letM rfl (fun s11 => ?_)
        refine J_aload_n (i := 0) dX8_layRow_58 rfl rfl ?_
        refine J_dup dX8_layRow_59 rfl ?_
        refine J_getI dX8_layRow_60 fl_RX8_219 sh_53_23 ?_
        refine J_iconst (v := (1 : Int32)) dX8_layRow_63 (by decide) ?_
        refine J_iadd dX8_layRow_64 ?_
        refine J_putI dX8_layRow_65 fp_RX8_219 (fun h => by first | rfl | cases h) sh_53_23 rfl rfl ?_
        refine J_letM rfl (fun s12 => ?_)
        refine J_iload_n (i := 1) dX8_layRow_68 rfl rfl ?_
        refine J_iload_n (i := 2) dX8_layRow_69 rfl rfl ?_
        refine J_iconst (v := (-1 : Int32)) dX8_layRow_70 (by decide) ?_
        refine J_ixor dX8_layRow_71 ?_
        refine J_iand dX8_layRow_72 ?_
        refine J_istore_nN (i := 1) (LS := fun x13 => [some (.ref 53), some (.int x13), some (.int x9)]) dX8_layRow_73 rfl (fun _ => rfl) (by decide) (fun x13 => ?_)
        refine J_goto (tgt := 27) dX8_layRow_74 (by decide) ?_
        refine J_sub (l1 := [some (.ref 53), some (.int x13), none]) ⟨rfl, ⟨rfl, trivial⟩⟩ ?_
        exact hrec7 x13 s12
      refine J_sub (l1 := [some (.ref 53), some (.int x5), some (.int (1 : Int32))]) ⟨rfl, ⟨rfl, ⟨rfl, trivial⟩⟩⟩ ?_
      exact lp_X8_layRow_33_ok l N  x5 s6 k10 hk10 N (1 : Int32)
set_option maxRecDepth 100000 in
set_option maxHeartbeats 4000000 in
theorem con_X8_layRow (l : Launch) (N : Nat) (s0 : jM) : Con l (8) yX8_layRow cX8_layRow 3 (Option.some Jvm.ClassFile.FieldType.boolean) (eIM SH) SH [.ref 53] s0 (f_X8_layRow N s0) := by
  refine Con_of (ls0 := [some (.ref 53), none, none]) (ini := false) (mc := 0) (ms := 0) (by decide +kernel) rfl (Nat.le_of_ble_eq_true rfl) (fun h => by cases h) (fun _ _ => rfl) ?_
  unfold f_X8_layRow
  refine J_aload_n (i := 0) dX8_layRow_0 rfl rfl ?_
  refine J_callVV 53 [] dX8_layRow_1 ca_X8_findLeast lk_RX8_216 vi_X8_findLeast rc_53 rfl rfl ⟨by show _ ≤ _; simp only [rmD]; omega, by show _ ≤ _; simp only [rmD]; omega⟩ (Nat.le_of_ble_eq_true rfl) ⟨Nat.zero_le _, Nat.zero_le _⟩ (con_X8_findLeast l N _) (fun r1 _ => ?_)
  refine J_aload_n (i := 0) dX8_layRow_4 rfl rfl ?_
  refine J_iconst (v := (0 : Int32)) dX8_layRow_5 (by decide) ?_
  refine J_putI dX8_layRow_6 fp_RX8_219 (fun h => by first | rfl | cases h) sh_53_23 rfl rfl ?_
  refine J_letM rfl (fun s2 => ?_)
  refine J_aload_n (i := 0) dX8_layRow_9 rfl rfl ?_
  refine J_callVI 53 [] dX8_layRow_10 ca_X8_all lk_RX8_78 vi_X8_all rc_53 rfl rfl ⟨by show _ ≤ _; simp only [rmD]; omega, by show _ ≤ _; simp only [rmD]; omega⟩ (Nat.le_of_ble_eq_true rfl) ⟨Nat.zero_le _, Nat.zero_le _⟩ (con_X8_all l _) (fun r3 _ => ?_)
  refine J_istore_n (i := 1) (ls2 := [some (.ref 53), some (.int r3), none]) dX8_layRow_13 rfl rfl (by decide) ?_
  refine J_aload_n (i := 0) dX8_layRow_14 rfl rfl ?_
  refine J_getR dX8_layRow_15 fl_RX8_46 sh_53_19 ?_
  refine J_iload_n (i := 1) dX8_layRow_18 rfl rfl ?_
  refine J_iald dX8_layRow_19 sa_64 ?_
  refine J_ldcI (v := (1000000 : Int32)) dX8_layRow_20 kw_RX8_206 ?_
  refine J_icmp_ne (tgt := 27) dX8_layRow_22 (by decide) (fun c4 => ?_) (fun c4 => ?_)
  · refine J_sub (l1 := [some (.ref 53), some (.int r3), none]) ⟨rfl, ⟨rfl, trivial⟩⟩ ?_
    exact lp_X8_layRow_27_ok l N    N r3 s2
  · refine J_iconst (v := (0 : Int32)) dX8_layRow_25 (by decide) ?_
    exact J_ireturn dX8_layRow_26 rfl rfl rfl
