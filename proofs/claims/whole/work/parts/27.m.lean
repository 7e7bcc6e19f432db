def lp_X3_fewestLiars_14 (N : Nat) (k4 : Int32 → jM → Option (Int32 × jM)) : Nat → Int32 → Int32 → jM → Option (Int32 × jM)
  | 0, _, _, _ => none
  | q + 1, x5, x6, s7 => if ((1 : Int32) <<< ((gI s7 1 12) &&& 31)) ≤ x6 then (k4 x5 s7) else (if (256 : Int32) ≤ x6 then (k4 x5 s7) else (jn_ (fun (x11 : Int32) (s12 : jM) => lt_ (x6 + (1 : Int32)) fun x14 => lp_X3_fewestLiars_14 N k4 q x11 x14 s12) fun j13 => Option.bind (f_J6_bitCount_0f7a4 x6) fun r15 => Option.bind (f_J6_bitCount_0f7a4 x5) fun r16 => if r16 ≤ r15 then (j13 x5 s7) else (Option.bind (f_X3_allWellBut N x6 s7) fun r18 => if r18.1 = 0 then (j13 x5 r18.2) else (j13 x6 r18.2))))
def f_X3_fewestLiars (N : Nat)  (s0 : jM) : Option (Int32 × jM) := lt_ (((1 : Int32) <<< ((gI s0 1 12) &&& 31)) - (1 : Int32)) fun x1 => jn_ (fun (x2 : Int32) (s3 : jM) => some (x2, s3)) fun k4 => lp_X3_fewestLiars_14 N k4 N x1 (0 : Int32) s0
set_option maxRecDepth 100000 in
set_option maxHeartbeats 4000000 in
theorem lp_X3_fewestLiars_14_ok (l : Launch) (N : Nat)  (k4 : Int32 → jM → Option (Int32 × jM)) (hk4 : ∀ (x2 : Int32) (s3 : jM), J l RX3 cX3_fewestLiars 3 (Option.some Jvm.ClassFile.FieldType.int) false (rmD (9) 0 0) noCx (eIM SH) SH 0 0 s3 61 [none, some (.int x2), none] [] (k4 x2 s3)) : ∀ (q : Nat) (x5 : Int32) (x6 : Int32) (s7 : jM), J l RX3 cX3_fewestLiars 3 (Option.some Jvm.ClassFile.FieldType.int) false (rmD (9) 0 0) noCx (eIM SH) SH 0 0 s7 14 [some (.ref 49), some (.int x5), some (.int x6)] [] (lp_X3_fewestLiars_14 N k4 q x5 x6 s7) := by
  intro q
  induction q with
  | zero => intro x5 x6 s7; exact J_none
  | succ q hrec8 =>
    intro x5 x6 s7
    rw [lp_X3_fewestLiars_14]
    refine J_iload_n (i := 2) dX3_fewestLiars_14 rfl rfl ?_
    refine J_iconst (v := (1 : Int32)) dX3_fewestLiars_15 (by decide) ?_
    refine J_aload_n (i := 0) dX3_fewestLiars_16 rfl rfl ?_
    refine J_getR dX3_fewestLiars_17 fl_RX3_9 sh_49_0 ?_
    refine J_getI dX3_fewestLiars_20 fl_RX3_19 sh_1_12 ?_
    refine J_ishl dX3_fewestLiars_23 ?_
    refine J_icmp_ge (tgt := 61) dX3_fewestLiars_24 (by decide) (fun c9 => ?_) (fun c9 => ?_)
    · refine J_sub (l1 := [none, some (.int x5), none]) ⟨rfl, trivial⟩ ?_
      exact hk4 x5 s7
    · refine J_iload_n (i := 2) dX3_fewestLiars_27 rfl rfl ?_
      refine J_sipush (v := (256 : Int32)) dX3_fewestLiars_28 (by decide) ?_
      refine J_icmp_ge (tgt := 61) dX3_fewestLiars_31 (by decide) (fun c10 => ?_) (fun c10 => ?_)
      · refine J_sub (l1 := [none, some (.int x5), none]) ⟨rfl, trivial⟩ ?_
        exact hk4 x5 s7
      · refine J_join (P := fun j => ∀ (x11 : Int32) (s12 : jM), J l RX3 cX3_fewestLiars 3 (Option.some Jvm.ClassFile.FieldType.int) false (rmD (9) 0 0) noCx (eIM SH) SH 0 0 s12 55 [some (.ref 49), some (.int x11), some (.int x6)] [] (j x11 s12)) ?_ (fun j13 hj13 => ?_)
        · intro x11 s12
          refine J_iincN (i := 2) (v := x6 + (1 : Int32)) (LS := fun x14 => [some (.ref 49), some (.int x11), some (.int x14)]) dX3_fewestLiars_55 rfl (by first | rfl | decide) (fun _ => rfl) (by decide) (fun x14 => ?_)
          refine J_goto (tgt := 14) dX3_fewestLiars_58 (by decide) ?_
          refine J_sub (l1 := [some (.ref 49), some (.int x11), some (.int x14)]) ⟨rfl, ⟨rfl, ⟨rfl, trivial⟩⟩⟩ ?_
          exact hrec8 x11 x14 s12
        refine J_iload_n (i := 2) dX3_fewestLiars_34 rfl rfl ?_
        refine J_callSI [.int x6] dX3_fewestLiars_35 ca_J6_bitCount_0f7a4 lk_RX3_52 st_J6_bitCount_0f7a4 rfl rfl ⟨by show _ ≤ _; simp only [rmD]; omega, by show _ ≤ _; simp only [rmD]; omega⟩ (Nat.le_of_ble_eq_true rfl) ⟨Nat.zero_le _, Nat.zero_le _⟩ (con_J6_bitCount_0f7a4 l _ _) (fun r15 _ => ?_)
        refine J_iload_n (i := 1) dX3_fewestLiars_38 rfl rfl ?_
        refine J_callSI [.int x5] dX3_fewestLiars_39 ca_J6_bitCount_0f7a4 lk_RX3_52 st_J6_bitCount_0f7a4 rfl rfl ⟨by show _ ≤ _; simp only [rmD]; omega, by show _ ≤ _; simp only [rmD]; omega⟩ (Nat.le_of_ble_eq_true rfl) ⟨Nat.zero_le _, Nat.zero_le _⟩ (con_J6_bitCount_0f7a4 l _ _) (fun r16 _ => ?_)
        refine J_icmp_ge (tgt := 55) dX3_fewestLiars_42 (by decide) (fun c17 => ?_) (fun c17 => ?_)
        · refine J_sub (l1 := [some (.ref 49), some (.int x5), some (.int x6)]) ⟨rfl, ⟨rfl, ⟨rfl, trivial⟩⟩⟩ ?_
          exact hj13 x5 s7
        · refine J_aload_n (i := 0) dX3_fewestLiars_45 rfl rfl ?_
          refine J_iload_n (i := 2) dX3_fewestLiars_46 rfl rfl ?_
          refine J_callVIM 49 [.int x6] dX3_fewestLiars_47 ca_X3_allWellBut lk_RX3_48 vi_X3_allWellBut rc_49 rfl rfl ⟨by show _ ≤ _; simp only [rmD]; omega, by show _ ≤ _; simp only [rmD]; omega⟩ (Nat.le_of_ble_eq_true rfl) ⟨Nat.zero_le _, Nat.zero_le _⟩ (con_X3_allWellBut l N _ _) (fun r18 _ => ?_)
          refine J_if_eq (tgt := 55) dX3_fewestLiars_50 (by decide) (fun c19 => ?_) (fun c19 => ?_)
          · refine J_sub (l1 := [some (.ref 49), some (.int x5), some (.int x6)]) ⟨rfl, ⟨rfl, ⟨rfl, trivial⟩⟩⟩ ?_
            exact hj13 x5 r18.2
          · refine J_iload_n (i := 2) dX3_fewestLiars_53 rfl rfl ?_
            refine J_istore_n (i := 1) (ls2 := [some (.ref 49), some (.int x6), some (.int x6)]) dX3_fewestLiars_54 rfl rfl (by decide) ?_
            refine J_sub (l1 := [some (.ref 49), some (.int x6), some (.int x6)]) ⟨rfl, ⟨rfl, ⟨rfl, trivial⟩⟩⟩ ?_
            exact hj13 x6 r18.2
set_option maxRecDepth 100000 in
set_option maxHeartbeats 4000000 in
theorem con_X3_fewestLiars (l : Launch) (N : Nat) (s0 : jM) : Con l (9) yX3_fewestLiars cX3_fewestLiars 3 (Option.some Jvm.ClassFile.FieldType.int) (eIM SH) SH [.ref 49] s0 (f_X3_fewestLiars N s0) := by
  refine Con_of (ls0 := [some (.ref 49), none, none]) (ini := false) (mc := 0) (ms := 0) (by decide +kernel) rfl (Nat.le_of_ble_eq_true rfl) (fun h => by cases h) (fun _ _ => rfl) ?_
  unfold f_X3_fewestLiars
  refine J_iconst (v := (1 : Int32)) dX3_fewestLiars_0 (by decide) ?_
  refine J_aload_n (i := 0) dX3_fewestLiars_1 rfl rfl ?_
  refine J_getR dX3_fewestLiars_2 fl_RX3_9 sh_49_0 ?_
  refine J_getI dX3_fewestLiars_5 fl_RX3_19 sh_1_12 ?_
  refine J_ishl dX3_fewestLiars_8 ?_
  refine J_iconst (v := (1 : Int32)) dX3_fewestLiars_9 (by decide) ?_
  refine J_isub dX3_fewestLiars_10 ?_
  refine J_istore_nN (i := 1) (LS := fun x1 => [some (.ref 49), some (.int x1), none]) dX3_fewestLiars_11 rfl (fun _ => rfl) (by decide) (fun x1 => ?_)
  refine J_iconst (v := (0 : Int32)) dX3_fewestLiars_12 (by decide) ?_
  refine J_istore_n (i := 2) (ls2 := [some (.ref 49), some (.int x1), some (.int (0 : Int32))]) dX3_fewestLiars_13 rfl rfl (by decide) ?_
  refine J_join (P := fun j => ∀ (x2 : Int32) (s3 : jM), J l RX3 cX3_fewestLiars 3 (Option.some Jvm.ClassFile.FieldType.int) false (rmD (9) 0 0) noCx (eIM SH) SH 0 0 s3 61 [none, some (.int x2), none] [] (j x2 s3)) ?_ (fun k4 hk4 => ?_)
  · intro x2 s3
    refine J_iload_n (i := 1) dX3_fewestLiars_61 rfl rfl ?_
    exact J_ireturn dX3_fewestLiars_62 rfl rfl rfl
  refine J_sub (l1 := [some (.ref 49), some (.int x1), some (.int (0 : Int32))]) ⟨rfl, ⟨rfl, ⟨rfl, trivial⟩⟩⟩ ?_
  exact lp_X3_fewestLiars_14_ok l N  k4 hk4 N x1 (0 : Int32) s0

def lp_X3_eachAlone_4 (N : Nat) (k3 : Int32 → jM → Option (Int32 × jM)) : Nat → Int32 → Int32 → jM → Option (Int32 × jM)
  | 0, _, _, _ => none
  | q + 1, x4, x5, s6 => if (gI s6 1 12) ≤ x5 then (k3 x4 s6) else (if (8 : Int32) ≤ x5 then (k3 x4 s6) else (jn_ (fun (x10 : Int32) (s11 : jM) => lt_ (x5 + (1 : Int32)) fun x13 => lp_X3_eachAlone_4 N k3 q x10 x13 s11) fun j12 => Option.bind (f_X3_allWellBut N ((1 : Int32) <<< (x5 &&& 31)) s6) fun r14 => if r14.1 = 0 then (j12 x4 r14.2) else (lt_ (x4 ||| ((1 : Int32) <<< (x5 &&& 31))) fun x16 => j12 x16 r14.2)))
def f_X3_eachAlone (N : Nat)  (s0 : jM) : Option (Int32 × jM) := jn_ (fun (x1 : Int32) (s2 : jM) => some (x1, s2)) fun k3 => lp_X3_eachAlone_4 N k3 N (0 : Int32) (0 : Int32) s0
set_option maxRecDepth 100000 in
set_option maxHeartbeats 4000000 in
theorem lp_X3_eachAlone_4_ok (l : Launch) (N : Nat)  (k3 : Int32 → jM → Option (Int32 × jM)) (hk3 : ∀ (x1 : Int32) (s2 : jM), J l RX3 cX3_eachAlone 3 (Option.some Jvm.ClassFile.FieldType.int) false (rmD (9) 0 0) noCx (eIM SH) SH 0 0 s2 43 [none, some (.int x1), none] [] (k3 x1 s2)) : ∀ (q : Nat) (x4 : Int32) (x5 : Int32) (s6 : jM), J l RX3 cX3_eachAlone 3 (Option.some Jvm.ClassFile.FieldType.int) false (rmD (9) 0 0) noCx (eIM SH) SH 0 0 s6 4 [some (.ref 49), some (.int x4), some (.int x5)] [] (lp_X3_eachAlone_4 N k3 q x4 x5 s6) := by
  intro q
  induction q with
  | zero => intro x4 x5 s6; exact J_none
  | succ q hrec7 =>
    intro x4 x5 s6
    rw [lp_X3_eachAlone_4]
    refine J_iload_n (i := 2) dX3_eachAlone_4 rfl rfl ?_
    refine J_aload_n (i := 0) dX3_eachAlone_5 rfl rfl ?_
    refine J_getR dX3_eachAlone_6 fl_RX3_9 sh_49_0 ?_
    refine J_getI dX3_eachAlone_9 fl_RX3_19 sh_1_12 ?_
    refine J_icmp_ge (tgt := 43) dX3_eachAlone_12 (by decide) (fun c8 => ?_) (fun c8 => ?_)
    · refine J_sub (l1 := [none, some (.int x4), none]) ⟨rfl, trivial⟩ ?_
      exact hk3 x4 s6
    · refine J_iload_n (i := 2) dX3_eachAlone_15 rfl rfl ?_
      refine J_bipush (v := (8 : Int32)) dX3_eachAlone_16 (by decide) ?_
      refine J_icmp_ge (tgt := 43) dX3_eachAlone_18 (by decide) (fun c9 => ?_) (fun c9 => ?_)
      · refine J_sub (l1 := [none, some (.int x4), none]) ⟨rfl, trivial⟩ ?_
        exact hk3 x4 s6
      · refine J_join (P := fun j => ∀ (x10 : Int32) (s11 : jM), J l RX3 cX3_eachAlone 3 (Option.some Jvm.ClassFile.FieldType.int) false (rmD (9) 0 0) noCx (eIM SH) SH 0 0 s11 37 [some (.ref 49), some (.int x10), some (.int x5)] [] (j x10 s11)) ?_ (fun j12 hj12 => ?_)
        · intro x10 s11
          refine J_iincN (i := 2) (v := x5 + (1 : Int32)) (LS := fun x13 => [some (.ref 49), some (.int x10), some (.int x13)]) dX3_eachAlone_37 rfl (by first | rfl | decide) (fun _ => rfl) (by decide) (fun x13 => ?_)
          refine J_goto (tgt := 4) dX3_eachAlone_40 (by decide) ?_
          refine J_sub (l1 := [some (.ref 49), some (.int x10), some (.int x13)]) ⟨rfl, ⟨rfl, ⟨rfl, trivial⟩⟩⟩ ?_
          exact hrec7 x10 x13 s11
        refine J_aload_n (i := 0) dX3_eachAlone_21 rfl rfl ?_
        refine J_iconst (v := (1 : Int32)) dX3_eachAlone_22 (by decide) ?_
        refine J_iload_n (i := 2) dX3_eachAlone_23 rfl rfl ?_
        refine J_ishl dX3_eachAlone_24 ?_
        refine J_callVIM 49 [.int ((1 : Int32) <<< (x5 &&& 31))] dX3_eachAlone_25 ca_X3_allWellBut lk_RX3_48 vi_X3_allWellBut rc_49 rfl rfl ⟨by show _ ≤ _; simp only [rmD]; omega, by show _ ≤ _; simp only [rmD]; omega⟩ (Nat.le_of_ble_eq_true rfl) ⟨Nat.zero_le _, Nat.zero_le _⟩ (con_X3_allWellBut l N _ _) (fun r14 _ => ?_)
        refine J_if_eq (tgt := 37) dX3_eachAlone_28 (by decide) (fun c15 => ?_) (fun c15 => ?_)
        · refine J_sub (l1 := [some (.ref 49), some (.int x4), some (.int x5)]) ⟨rfl, ⟨rfl, ⟨rfl, trivial⟩⟩⟩ ?_
          exact hj12 x4 r14.2
        · refine J_iload_n (i := 1) dX3_eachAlone_31 rfl rfl ?_
          refine J_iconst (v := (1 : Int32)) dX3_eachAlone_32 (by decide) ?_
          refine J_iload_n (i := 2) dX3_eachAlone_33 rfl rfl ?_
          refine J_ishl dX3_eachAlone_34 ?_
          refine J_ior dX3_eachAlone_35 ?_
          refine J_istore_nN (i := 1) (LS := fun x16 => [some (.ref 49), some (.int x16), some (.int x5)]) dX3_eachAlone_36 rfl (fun _ => rfl) (by decide) (fun x16 => ?_)
          refine J_sub (l1 := [some (.ref 49), some (.int x16), some (.int x5)]) ⟨rfl, ⟨rfl, ⟨rfl, trivial⟩⟩⟩ ?_
          exact hj12 x16 r14.2
set_option maxRecDepth 100000 in
set_option maxHeartbeats 4000000 in
theorem con_X3_eachAlone (l : Launch) (N : Nat) (s0 : jM) : Con l (9) yX3_eachAlone cX3_eachAlone 3 (Option.some Jvm.ClassFile.FieldType.int) (eIM SH) SH [.ref 49] s0 (f_X3_eachAlone N s0) := by
  refine Con_of (ls0 := [some (.ref 49), none, none]) (ini := false) (mc := 0) (ms := 0) (by decide +kernel) rfl (Nat.le_of_ble_eq_true rfl) (fun h => by cases h) (fun _ _ => rfl) ?_
  unfold f_X3_eachAlone
  refine J_iconst (v := (0 : Int32)) dX3_eachAlone_0 (by decide) ?_
  refine J_istore_n (i := 1) (ls2 := [some (.ref 49), some (.int (0 : Int32)), none]) dX3_eachAlone_1 rfl rfl (by decide) ?_
  refine J_iconst (v := (0 : Int32)) dX3_eachAlone_2 (by decide) ?_
  refine J_istore_n (i := 2) (ls2 := [some (.ref 49), some (.int (0 : Int32)), some (.int (0 : Int32))]) dX3_eachAlone_3 rfl rfl (by decide) ?_
  refine J_join (P := fun j => ∀ (x1 : Int32) (s2 : jM), J l RX3 cX3_eachAlone 3 (Option.some Jvm.ClassFile.FieldType.int) false (rmD (9) 0 0) noCx (eIM SH) SH 0 0 s2 43 [none, some (.int x1), none] [] (j x1 s2)) ?_ (fun k3 hk3 => ?_)
  · intro x1 s2
    refine J_iload_n (i := 1) dX3_eachAlone_43 rfl rfl ?_
    exact J_ireturn dX3_eachAlone_44 rfl rfl rfl
  refine J_sub (l1 := [some (.ref 49), some (.int (0 : Int32)), some (.int (0 : Int32))]) ⟨rfl, ⟨rfl, ⟨rfl, trivial⟩⟩⟩ ?_
  exact lp_X3_eachAlone_4_ok l N  k3 hk3 N (0 : Int32) (0 : Int32) s0

def f_X7_lied (N : Nat) (a1 : Int32) (s0 : jM) : Option (Int32 × jM) := Option.bind (f_X7_isWithin a1 (0 : Int32) (1 : Int32)) fun r1 => if r1 = 0 then (Option.bind (f_X7_refuseAsBad s0) fun r6 => some (r6.1, r6.2)) else (if a1 = 0 then (Option.bind (f_X3_eachAlone N s0) fun r5 => some (r5.1, r5.2)) else (Option.bind (f_X3_fewestLiars N s0) fun r4 => some (r4.1, r4.2)))
set_option maxRecDepth 100000 in
set_option maxHeartbeats 4000000 in
theorem con_X7_lied (l : Launch) (N : Nat) (a1 : Int32) (s0 : jM) : Con l (10) yX7_lied cX7_lied 2 (Option.some Jvm.ClassFile.FieldType.int) (eIM SH) SH [.ref 0, .int a1] s0 (f_X7_lied N a1 s0) := by
  refine Con_of (ls0 := [some (.ref 0), some (.int a1)]) (ini := false) (mc := 0) (ms := 0) (by decide +kernel) rfl (Nat.le_of_ble_eq_true rfl) (fun h => by cases h) (fun _ _ => rfl) ?_
  unfold f_X7_lied
  refine J_iload_n (i := 1) dX7_lied_0 rfl rfl ?_
  refine J_iconst (v := (0 : Int32)) dX7_lied_1 (by decide) ?_
  refine J_iconst (v := (1 : Int32)) dX7_lied_2 (by decide) ?_
  refine J_callSI [.int a1, .int (0 : Int32), .int (1 : Int32)] dX7_lied_3 ca_X7_isWithin lk_RX7_82 st_X7_isWithin rfl rfl ⟨by show _ ≤ _; simp only [rmD]; omega, by show _ ≤ _; simp only [rmD]; omega⟩ (Nat.le_of_ble_eq_true rfl) ⟨Nat.zero_le _, Nat.zero_le _⟩ (con_X7_isWithin l _ _ _ _) (fun r1 _ => ?_)
  refine J_if_ne (tgt := 14) dX7_lied_6 (by decide) (fun c2 => ?_) (fun c2 => ?_)
  · refine J_iload_n (i := 1) dX7_lied_14 rfl rfl ?_
    refine J_if_ne (tgt := 28) dX7_lied_15 (by decide) (fun c3 => ?_) (fun c3 => ?_)
    · refine J_aload_n (i := 0) dX7_lied_28 rfl rfl ?_
      refine J_getR dX7_lied_29 fl_RX7_63 sh_0_8 ?_
      refine J_callVIM 49 [] dX7_lied_32 ca_X3_fewestLiars lk_RX7_223 vi_X3_fewestLiars rc_49 rfl rfl ⟨by show _ ≤ _; simp only [rmD]; omega, by show _ ≤ _; simp only [rmD]; omega⟩ (Nat.le_of_ble_eq_true rfl) ⟨Nat.zero_le _, Nat.zero_le _⟩ (con_X3_fewestLiars l N _) (fun r4 _ => ?_)
      exact J_ireturn dX7_lied_35 rfl rfl rfl
    · refine J_aload_n (i := 0) dX7_lied_18 rfl rfl ?_
      refine J_getR dX7_lied_19 fl_RX7_63 sh_0_8 ?_
      refine J_callVIM 49 [] dX7_lied_22 ca_X3_eachAlone lk_RX7_220 vi_X3_eachAlone rc_49 rfl rfl ⟨by show _ ≤ _; simp only [rmD]; omega, by show _ ≤ _; simp only [rmD]; omega⟩ (Nat.le_of_ble_eq_true rfl) ⟨Nat.zero_le _, Nat.zero_le _⟩ (con_X3_eachAlone l N _) (fun r5 _ => ?_)
      refine J_goto (tgt := 35) dX7_lied_25 (by decide) ?_
      exact J_ireturn dX7_lied_35 rfl rfl rfl
  · refine J_aload_n (i := 0) dX7_lied_9 rfl rfl ?_
    refine J_callVIM 0 [] dX7_lied_10 ca_X7_refuseAsBad lk_RX7_86 vi_X7_refuseAsBad rc_0 rfl rfl ⟨by show _ ≤ _; simp only [rmD]; omega, by show _ ≤ _; simp only [rmD]; omega⟩ (Nat.le_of_ble_eq_true rfl) ⟨Nat.zero_le _, Nat.zero_le _⟩ (con_X7_refuseAsBad l _) (fun r6 _ => ?_)
    exact J_ireturn dX7_lied_13 rfl rfl rfl

def f_X7_part (a1 : Int32) (s0 : jM) : Option (Int64 × jM) := Option.bind (f_X7_isWithin a1 (0 : Int32) (1 : Int32)) fun r1 => if r1 = 0 then (Option.bind (f_X7_refuseAsBad s0) fun r4 => some ((Int32.toInt64 r4.1), r4.2)) else (if a1 = 0 then (some ((gL s0 50 0), s0)) else (some ((gL s0 50 1), s0)))
set_option maxRecDepth 100000 in
set_option maxHeartbeats 4000000 in
theorem con_X7_part (l : Launch) (a1 : Int32) (s0 : jM) : Con l (2) yX7_part cX7_part 2 (Option.some Jvm.ClassFile.FieldType.long) (eLM SH) SH [.ref 0, .int a1] s0 (f_X7_part a1 s0) := by
  refine Con_of (ls0 := [some (.ref 0), some (.int a1)]) (ini := false) (mc := 0) (ms := 0) (by decide +kernel) rfl (Nat.le_of_ble_eq_true rfl) (fun h => by cases h) (fun _ _ => rfl) ?_
  unfold f_X7_part
  refine J_iload_n (i := 1) dX7_part_0 rfl rfl ?_
  refine J_iconst (v := (0 : Int32)) dX7_part_1 (by decide) ?_
  refine J_iconst (v := (1 : Int32)) dX7_part_2 (by decide) ?_
  refine J_callSI [.int a1, .int (0 : Int32), .int (1 : Int32)] dX7_part_3 ca_X7_isWithin lk_RX7_82 st_X7_isWithin rfl rfl ⟨by show _ ≤ _; simp only [rmD]; omega, by show _ ≤ _; simp only [rmD]; omega⟩ (Nat.le_of_ble_eq_true rfl) ⟨Nat.zero_le _, Nat.zero_le _⟩ (con_X7_isWithin l _ _ _ _) (fun r1 _ => ?_)
  refine J_if_ne (tgt := 15) dX7_part_6 (by decide) (fun c2 => ?_) (fun c2 => ?_)
  · refine J_iload_n (i := 1) dX7_part_15 rfl rfl ?_
    refine J_if_ne (tgt := 29) dX7_part_16 (by decide) (fun c3 => ?_) (fun c3 => ?_)
    · refine J_aload_n (i := 0) dX7_part_29 rfl rfl ?_
      refine J_getR dX7_part_30 fl_RX7_70 sh_0_9 ?_
      refine J_getL dX7_part_33 fl_RX7_230 sh_50_1 ?_
      exact J_lreturn dX7_part_36 rfl rfl
    · refine J_aload_n (i := 0) dX7_part_19 rfl rfl ?_
      refine J_getR dX7_part_20 fl_RX7_70 sh_0_9 ?_
      refine J_getL dX7_part_23 fl_RX7_226 sh_50_0 ?_
      refine J_goto (tgt := 36) dX7_part_26 (by decide) ?_
      exact J_lreturn dX7_part_36 rfl rfl
  · refine J_aload_n (i := 0) dX7_part_9 rfl rfl ?_
    refine J_callVIM 0 [] dX7_part_10 ca_X7_refuseAsBad lk_RX7_86 vi_X7_refuseAsBad rc_0 rfl rfl ⟨by show _ ≤ _; simp only [rmD]; omega, by show _ ≤ _; simp only [rmD]; omega⟩ (Nat.le_of_ble_eq_true rfl) ⟨Nat.zero_le _, Nat.zero_le _⟩ (con_X7_refuseAsBad l _) (fun r4 _ => ?_)
    refine J_i2l dX7_part_13 ?_
    exact J_lreturn dX7_part_14 rfl rfl

def f_X7_imageAt (a1 : Int32) : Option Nat := if a1 = 0 then (some 10) else (some 19)
set_option maxRecDepth 100000 in
set_option maxHeartbeats 4000000 in
theorem con_X7_imageAt (l : Launch) (a1 : Int32) (s0 : jM) : Con l (1) yX7_imageAt cX7_imageAt 2 (Option.some (Jvm.ClassFile.FieldType.object "OddBridge$Scene")) (eR SH s0) SH [.ref 0, .int a1] s0 (f_X7_imageAt a1) := by
  refine Con_of (ls0 := [some (.ref 0), some (.int a1)]) (ini := false) (mc := 0) (ms := 0) (by decide +kernel) rfl (Nat.le_of_ble_eq_true rfl) (fun h => by cases h) (fun _ _ => rfl) ?_
  unfold f_X7_imageAt
  refine J_iload_n (i := 1) dX7_imageAt_0 rfl rfl ?_
  refine J_if_ne (tgt := 11) dX7_imageAt_1 (by decide) (fun c1 => ?_) (fun c1 => ?_)
  · refine J_aload_n (i := 0) dX7_imageAt_11 rfl rfl ?_
    refine J_getR dX7_imageAt_12 fl_RX7_19 sh_0_2 ?_
    exact J_areturn dX7_imageAt_15 rfl rfl
  · refine J_aload_n (i := 0) dX7_imageAt_4 rfl rfl ?_
    refine J_getR dX7_imageAt_5 fl_RX7_16 sh_0_1 ?_
    refine J_goto (tgt := 15) dX7_imageAt_8 (by decide) ?_
    exact J_areturn dX7_imageAt_15 rfl rfl

def f_X7_image (a1 : Int32) (s0 : jM) : Option (Int32 × jM) := Option.bind (f_X7_isWithin a1 (0 : Int32) (1 : Int32)) fun r1 => if r1 = 0 then (Option.bind (f_X7_refuseAsBad s0) fun r10 => some (r10.1, r10.2)) else (Option.bind (f_X7_imageAt a1) fun r3 => if r3 = 10 then (Option.bind (f_X5_become_10_1 s0) fun r5 => gd (ib a1 2) <| lt_ (pI r5 28 (Int32.toNatClampNeg a1) (vp_nar .boolean (1 : Int32))) fun s6 => some ((1 : Int32), s6)) else if r3 = 19 then (Option.bind (f_X5_become_19_1 s0) fun r8 => gd (ib a1 2) <| lt_ (pI r8 28 (Int32.toNatClampNeg a1) (vp_nar .boolean (1 : Int32))) fun s9 => some ((1 : Int32), s9)) else none)
set_option maxRecDepth 100000 in
set_option maxHeartbeats 4000000 in
theorem con_X7_image (l : Launch) (a1 : Int32) (s0 : jM) : Con l (2) yX7_image cX7_image 2 (Option.some Jvm.ClassFile.FieldType.int) (eIM SH) SH [.ref 0, .int a1] s0 (f_X7_image a1 s0) := by
  refine Con_of (ls0 := [some (.ref 0), some (.int a1)]) (ini := false) (mc := 0) (ms := 0) (by decide +kernel) rfl (Nat.le_of_ble_eq_true rfl) (fun h => by cases h) (fun _ _ => rfl) ?_
  unfold f_X7_image
  refine J_iload_n (i := 1) dX7_image_0 rfl rfl ?_
  refine J_iconst (v := (0 : Int32)) dX7_image_1 (by decide) ?_
  refine J_iconst (v := (1 : Int32)) dX7_image_2 (by decide) ?_
  refine J_callSI [.int a1, .int (0 : Int32), .int (1 : Int32)] dX7_image_3 ca_X7_isWithin lk_RX7_82 st_X7_isWithin rfl rfl ⟨by show _ ≤ _; simp only [rmD]; omega, by show _ ≤ _; simp only [rmD]; omega⟩ (Nat.le_of_ble_eq_true rfl) ⟨Nat.zero_le _, Nat.zero_le _⟩ (con_X7_isWithin l _ _ _ _) (fun r1 _ => ?_)
  refine J_if_ne (tgt := 14) dX7_image_6 (by decide) (fun c2 => ?_) (fun c2 => ?_)
  · refine J_aload_n (i := 0) dX7_image_14 rfl rfl ?_
    refine J_iload_n (i := 1) dX7_image_15 rfl rfl ?_
    refine J_callVR 0 [.int a1] dX7_image_16 ca_X7_imageAt lk_RX7_233 vi_X7_imageAt rc_0 rfl rfl ⟨by show _ ≤ _; simp only [rmD]; omega, by show _ ≤ _; simp only [rmD]; omega⟩ (Nat.le_of_ble_eq_true rfl) ⟨Nat.zero_le _, Nat.zero_le _⟩ (con_X7_imageAt l _ _) (fun r3 _ => ?_)
    refine J_if (fun c4 => ?_) (fun c4 => ?_)
    · subst c4
      refine J_aload_n (i := 0) dX7_image_19 rfl rfl ?_
      refine J_getR dX7_image_20 fl_RX7_10 sh_0_0 ?_
      refine J_callVV 10 [.ref 1] dX7_image_23 ca_X5_become lk_RX7_237 vi_X5_become rc_10 rfl rfl ⟨by show _ ≤ _; simp only [rmD]; omega, by show _ ≤ _; simp only [rmD]; omega⟩ (Nat.le_of_ble_eq_true rfl) ⟨Nat.zero_le _, Nat.zero_le _⟩ (con_X5_become_10_1 l _) (fun r5 _ => ?_)
      refine J_aload_n (i := 0) dX7_image_26 rfl rfl ?_
      refine J_getR dX7_image_27 fl_RX7_22 sh_0_3 ?_
      refine J_iload_n (i := 1) dX7_image_30 rfl rfl ?_
      refine J_iconst (v := (1 : Int32)) dX7_image_31 (by decide) ?_
      refine J_zast dX7_image_32 sa_28 ?_
      refine J_letM rfl (fun s6 => ?_)
      refine J_iconst (v := (1 : Int32)) dX7_image_33 (by decide) ?_
      exact J_ireturn dX7_image_34 rfl rfl rfl
    refine J_if (fun c7 => ?_) (fun c7 => ?_)
    · subst c7
      refine J_aload_n (i := 0) dX7_image_19 rfl rfl ?_
      refine J_getR dX7_image_20 fl_RX7_10 sh_0_0 ?_
      refine J_callVV 19 [.ref 1] dX7_image_23 ca_X5_become lk_RX7_237 vi_X5_become rc_19 rfl rfl ⟨by show _ ≤ _; simp only [rmD]; omega, by show _ ≤ _; simp only [rmD]; omega⟩ (Nat.le_of_ble_eq_true rfl) ⟨Nat.zero_le _, Nat.zero_le _⟩ (con_X5_become_19_1 l _) (fun r8 _ => ?_)
      refine J_aload_n (i := 0) dX7_image_26 rfl rfl ?_
      refine J_getR dX7_image_27 fl_RX7_22 sh_0_3 ?_
      refine J_iload_n (i := 1) dX7_image_30 rfl rfl ?_
      refine J_iconst (v := (1 : Int32)) dX7_image_31 (by decide) ?_
      refine J_zast dX7_image_32 sa_28 ?_
      refine J_letM rfl (fun s9 => ?_)
      refine J_iconst (v := (1 : Int32)) dX7_image_33 (by decide) ?_
      exact J_ireturn dX7_image_34 rfl rfl rfl
    exact J_none
  · refine J_aload_n (i := 0) dX7_image_9 rfl rfl ?_
    refine J_callVIM 0 [] dX7_image_10 ca_X7_refuseAsBad lk_RX7_86 vi_X7_refuseAsBad rc_0 rfl rfl ⟨by show _ ≤ _; simp only [rmD]; omega, by show _ ≤ _; simp only [rmD]; omega⟩ (Nat.le_of_ble_eq_true rfl) ⟨Nat.zero_le _, Nat.zero_le _⟩ (con_X7_refuseAsBad l _) (fun r10 _ => ?_)
    exact J_ireturn dX7_image_13 rfl rfl rfl

def f_X7_from (N : Nat) (a1 : Int32) (s0 : jM) : Option (Int32 × jM) := Option.bind (f_X7_isWithin a1 (0 : Int32) (1 : Int32)) fun r1 => if r1 = 0 then (Option.bind (f_X7_refuseAsBad s0) fun r14 => some (r14.1, r14.2)) else (gd (ib a1 2) <| if (gI s0 28 (Int32.toNatClampNeg a1)) = 0 then (Option.bind (f_X7_refuseAsNo s0) fun r13 => some (r13.1, r13.2)) else (Option.bind (f_X7_imageAt a1) fun r4 => if r4 = 10 then (Option.bind (f_X5_become_1_10 s0) fun r6 => Option.bind (f_X6_read N r6) fun r7 => Option.bind (f_X7_forgetWhatFollows r7) fun r8 => some ((1 : Int32), r8)) else if r4 = 19 then (Option.bind (f_X5_become_1_19 s0) fun r10 => Option.bind (f_X6_read N r10) fun r11 => Option.bind (f_X7_forgetWhatFollows r11) fun r12 => some ((1 : Int32), r12)) else none))
set_option maxRecDepth 100000 in
set_option maxHeartbeats 4000000 in
theorem con_X7_from (l : Launch) (N : Nat) (a1 : Int32) (s0 : jM) : Con l (111) yX7_from cX7_from 2 (Option.some Jvm.ClassFile.FieldType.int) (eIM SH) SH [.ref 0, .int a1] s0 (f_X7_from N a1 s0) := by
  refine Con_of (ls0 := [some (.ref 0), some (.int a1)]) (ini := false) (mc := 0) (ms := 0) (by decide +kernel) rfl (Nat.le_of_ble_eq_true rfl) (fun h => by cases h) (fun _ _ => rfl) ?_
  unfold f_X7_from
  refine J_iload_n (i := 1) dX7_from_0 rfl rfl ?_
  refine J_iconst (v := (0 : Int32)) dX7_from_1 (by decide) ?_
  refine J_iconst (v := (1 : Int32)) dX7_from_2 (by decide) ?_
  refine J_callSI [.int a1, .int (0 : Int32), .int (1 : Int32)] dX7_from_3 ca_X7_isWithin lk_RX7_82 st_X7_isWithin rfl rfl ⟨by show _ ≤ _; simp only [rmD]; omega, by show _ ≤ _; simp only [rmD]; omega⟩ (Nat.le_of_ble_eq_true rfl) ⟨Nat.zero_le _, Nat.zero_le _⟩ (con_X7_isWithin l _ _ _ _) (fun r1 _ => ?_)
  refine J_if_ne (tgt := 14) dX7_from_6 (by decide) (fun c2 => ?_) (fun c2 => ?_)
  · refine J_aload_n (i := 0) dX7_from_14 rfl rfl ?_
    refine J_getR dX7_from_15 fl_RX7_22 sh_0_3 ?_
    refine J_iload_n (i := 1) dX7_from_18 rfl rfl ?_
    refine J_zald dX7_from_19 sa_28 ?_
    refine J_if_ne (tgt := 28) dX7_from_20 (by decide) (fun c3 => ?_) (fun c3 => ?_)
    · refine J_aload_n (i := 0) dX7_from_28 rfl rfl ?_
      refine J_getR dX7_from_29 fl_RX7_10 sh_0_0 ?_
      refine J_aload_n (i := 0) dX7_from_32 rfl rfl ?_
      refine J_iload_n (i := 1) dX7_from_33 rfl rfl ?_
      refine J_callVR 0 [.int a1] dX7_from_34 ca_X7_imageAt lk_RX7_233 vi_X7_imageAt rc_0 rfl rfl ⟨by show _ ≤ _; simp only [rmD]; omega, by show _ ≤ _; simp only [rmD]; omega⟩ (Nat.le_of_ble_eq_true rfl) ⟨Nat.zero_le _, Nat.zero_le _⟩ (con_X7_imageAt l _ _) (fun r4 _ => ?_)
      refine J_if (fun c5 => ?_) (fun c5 => ?_)
      · subst c5
        refine J_callVV 1 [.ref 10] dX7_from_37 ca_X5_become lk_RX7_237 vi_X5_become rc_1 rfl rfl ⟨by show _ ≤ _; simp only [rmD]; omega, by show _ ≤ _; simp only [rmD]; omega⟩ (Nat.le_of_ble_eq_true rfl) ⟨Nat.zero_le _, Nat.zero_le _⟩ (con_X5_become_1_10 l _) (fun r6 _ => ?_)
        refine J_aload_n (i := 0) dX7_from_40 rfl rfl ?_
        refine J_getR dX7_from_41 fl_RX7_31 sh_0_4 ?_
        refine J_callVV 29 [] dX7_from_44 ca_X6_read lk_RX7_122 vi_X6_read rc_29 rfl rfl ⟨by show _ ≤ _; simp only [rmD]; omega, by show _ ≤ _; simp only [rmD]; omega⟩ (Nat.le_of_ble_eq_true rfl) ⟨Nat.zero_le _, Nat.zero_le _⟩ (con_X6_read l N _) (fun r7 _ => ?_)
        refine J_aload_n (i := 0) dX7_from_47 rfl rfl ?_
        refine J_callVV 0 [] dX7_from_48 ca_X7_forgetWhatFollows lk_RX7_101 vi_X7_forgetWhatFollows rc_0 rfl rfl ⟨by show _ ≤ _; simp only [rmD]; omega, by show _ ≤ _; simp only [rmD]; omega⟩ (Nat.le_of_ble_eq_true rfl) ⟨Nat.zero_le _, Nat.zero_le _⟩ (con_X7_forgetWhatFollows l _) (fun r8 _ => ?_)
        refine J_iconst (v := (1 : Int32)) dX7_from_51 (by decide) ?_
        exact J_ireturn dX7_from_52 rfl rfl rfl
      refine J_if (fun c9 => ?_) (fun c9 => ?_)
      · subst c9
        refine J_callVV 1 [.ref 19] dX7_from_37 ca_X5_become lk_RX7_237 vi_X5_become rc_1 rfl rfl ⟨by show _ ≤ _; simp only [rmD]; omega, by show _ ≤ _; simp only [rmD]; omega⟩ (Nat.le_of_ble_eq_true rfl) ⟨Nat.zero_le _, Nat.zero_le _⟩ (con_X5_become_1_19 l _) (fun r10 _ => ?_)
        refine J_aload_n (i := 0) dX7_from_40 rfl rfl ?_
        refine J_getR dX7_from_41 fl_RX7_31 sh_0_4 ?_
        refine J_callVV 29 [] dX7_from_44 ca_X6_read lk_RX7_122 vi_X6_read rc_29 rfl rfl ⟨by show _ ≤ _; simp only [rmD]; omega, by show _ ≤ _; simp only [rmD]; omega⟩ (Nat.le_of_ble_eq_true rfl) ⟨Nat.zero_le _, Nat.zero_le _⟩ (con_X6_read l N _) (fun r11 _ => ?_)
        refine J_aload_n (i := 0) dX7_from_47 rfl rfl ?_
        refine J_callVV 0 [] dX7_from_48 ca_X7_forgetWhatFollows lk_RX7_101 vi_X7_forgetWhatFollows rc_0 rfl rfl ⟨by show _ ≤ _; simp only [rmD]; omega, by show _ ≤ _; simp only [rmD]; omega⟩ (Nat.le_of_ble_eq_true rfl) ⟨Nat.zero_le _, Nat.zero_le _⟩ (con_X7_forgetWhatFollows l _) (fun r12 _ => ?_)
        refine J_iconst (v := (1 : Int32)) dX7_from_51 (by decide) ?_
        exact J_ireturn dX7_from_52 rfl rfl rfl
      exact J_none
    · refine J_aload_n (i := 0) dX7_from_23 rfl rfl ?_
      refine J_callVIM 0 [] dX7_from_24 ca_X7_refuseAsNo lk_RX7_185 vi_X7_refuseAsNo rc_0 rfl rfl ⟨by show _ ≤ _; simp only [rmD]; omega, by show _ ≤ _; simp only [rmD]; omega⟩ (Nat.le_of_ble_eq_true rfl) ⟨Nat.zero_le _, Nat.zero_le _⟩ (con_X7_refuseAsNo l _) (fun r13 _ => ?_)
      exact J_ireturn dX7_from_27 rfl rfl rfl
  · refine J_aload_n (i := 0) dX7_from_9 rfl rfl ?_
    refine J_callVIM 0 [] dX7_from_10 ca_X7_refuseAsBad lk_RX7_86 vi_X7_refuseAsBad rc_0 rfl rfl ⟨by show _ ≤ _; simp only [rmD]; omega, by show _ ≤ _; simp only [rmD]; omega⟩ (Nat.le_of_ble_eq_true rfl) ⟨Nat.zero_le _, Nat.zero_le _⟩ (con_X7_refuseAsBad l _) (fun r14 _ => ?_)
    exact J_ireturn dX7_from_13 rfl rfl rfl

def f_X7_status (a1 : Int32) (s0 : jM) : Option (Int32 × jM) := if a1 = (0 : Int32) then (some ((gI s0 0 12), s0)) else if a1 = (1 : Int32) then (some ((gI s0 0 13), s0)) else if a1 = (2 : Int32) then (some ((gI s0 0 14), s0)) else (lt_ (pI s0 0 12 ((gI s0 0 12) + (1 : Int32))) fun s4 => some ((-1 : Int32), s4))
set_option maxRecDepth 100000 in
set_option maxHeartbeats 4000000 in
theorem con_X7_status (l : Launch) (a1 : Int32) (s0 : jM) : Con l (1) yX7_status cX7_status 2 (Option.some Jvm.ClassFile.FieldType.int) (eIM SH) SH [.ref 0, .int a1] s0 (f_X7_status a1 s0) := by
  refine Con_of (ls0 := [some (.ref 0), some (.int a1)]) (ini := false) (mc := 0) (ms := 0) (by decide +kernel) rfl (Nat.le_of_ble_eq_true rfl) (fun h => by cases h) (fun _ _ => rfl) ?_
  unfold f_X7_status
  refine J_iload_n (i := 1) dX7_status_0 rfl rfl ?_
  refine J_if (fun c1 => ?_) (fun c1 => ?_)
  · refine J_tswIn (tgt := 28) (0) dX7_status_1 (by rw [c1] <;> rfl) (by decide) (by decide) rfl (by decide) ?_
    refine J_aload_n (i := 0) dX7_status_28 rfl rfl ?_
    refine J_getI dX7_status_29 fl_RX7_179 sh_0_12 ?_
    exact J_ireturn dX7_status_32 rfl rfl rfl
  refine J_if (fun c2 => ?_) (fun c2 => ?_)
  · refine J_tswIn (tgt := 33) (1) dX7_status_1 (by rw [c2] <;> rfl) (by decide) (by decide) rfl (by decide) ?_
    refine J_aload_n (i := 0) dX7_status_33 rfl rfl ?_
    refine J_getI dX7_status_34 fl_RX7_239 sh_0_13 ?_
    exact J_ireturn dX7_status_37 rfl rfl rfl
  refine J_if (fun c3 => ?_) (fun c3 => ?_)
  · refine J_tswIn (tgt := 38) (2) dX7_status_1 (by rw [c3] <;> rfl) (by decide) (by decide) rfl (by decide) ?_
    refine J_aload_n (i := 0) dX7_status_38 rfl rfl ?_
    refine J_getI dX7_status_39 fl_RX7_242 sh_0_14 ?_
    exact J_ireturn dX7_status_42 rfl rfl rfl
  refine J_tswOut (tgt := 43) dX7_status_1 (by have c1 : ¬ (a1).toInt = 0 := toI_ne c1; have c2 : ¬ (a1).toInt = 1 := toI_ne c2; have c3 : ¬ (a1).toInt = 2 := toI_ne c3; omega) (by decide) ?_
  refine J_aload_n (i := 0) dX7_status_43 rfl rfl ?_
  refine J_dup dX7_status_44 rfl ?_
  refine J_getI dX7_status_45 fl_RX7_179 sh_0_12 ?_
  refine J_iconst (v := (1 : Int32)) dX7_status_48 (by decide) ?_
  refine J_iadd dX7_status_49 ?_
  refine J_putI dX7_status_50 fp_RX7_179 (fun h => by first | rfl | cases h) sh_0_12 rfl rfl ?_
  refine J_letM rfl (fun s4 => ?_)
  refine J_iconst (v := (-1 : Int32)) dX7_status_53 (by decide) ?_
  exact J_ireturn dX7_status_54 rfl rfl rfl

def f_X7_count (a1 : Int32) (s0 : jM) : Option (Int32 × jM) := if a1 = (0 : Int32) then (some ((gI s0 1 4), s0)) else if a1 = (1 : Int32) then (some ((gI s0 1 8), s0)) else if a1 = (2 : Int32) then (some ((gI s0 1 12), s0)) else (Option.bind (f_X7_refuseAsBad s0) fun r4 => some (r4.1, r4.2))
set_option maxRecDepth 100000 in
set_option maxHeartbeats 4000000 in
theorem con_X7_count (l : Launch) (a1 : Int32) (s0 : jM) : Con l (2) yX7_count cX7_count 2 (Option.some Jvm.ClassFile.FieldType.int) (eIM SH) SH [.ref 0, .int a1] s0 (f_X7_count a1 s0) := by
  refine Con_of (ls0 := [some (.ref 0), some (.int a1)]) (ini := false) (mc := 0) (ms := 0) (by decide +kernel) rfl (Nat.le_of_ble_eq_true rfl) (fun h => by cases h) (fun _ _ => rfl) ?_
  unfold f_X7_count
  refine J_iload_n (i := 1) dX7_count_0 rfl rfl ?_
  refine J_if (fun c1 => ?_) (fun c1 => ?_)
  · refine J_tswIn (tgt := 28) (0) dX7_count_1 (by rw [c1] <;> rfl) (by decide) (by decide) rfl (by decide) ?_
    refine J_aload_n (i := 0) dX7_count_28 rfl rfl ?_
    refine J_getR dX7_count_29 fl_RX7_10 sh_0_0 ?_
    refine J_getI dX7_count_32 fl_RX7_90 sh_1_4 ?_
    exact J_ireturn dX7_count_35 rfl rfl rfl
  refine J_if (fun c2 => ?_) (fun c2 => ?_)
  · refine J_tswIn (tgt := 36) (1) dX7_count_1 (by rw [c2] <;> rfl) (by decide) (by decide) rfl (by decide) ?_
    refine J_aload_n (i := 0) dX7_count_36 rfl rfl ?_
    refine J_getR dX7_count_37 fl_RX7_10 sh_0_0 ?_
    refine J_getI dX7_count_40 fl_RX7_115 sh_1_8 ?_
    exact J_ireturn dX7_count_43 rfl rfl rfl
  refine J_if (fun c3 => ?_) (fun c3 => ?_)
  · refine J_tswIn (tgt := 44) (2) dX7_count_1 (by rw [c3] <;> rfl) (by decide) (by decide) rfl (by decide) ?_
    refine J_aload_n (i := 0) dX7_count_44 rfl rfl ?_
    refine J_getR dX7_count_45 fl_RX7_10 sh_0_0 ?_
    refine J_getI dX7_count_48 fl_RX7_210 sh_1_12 ?_
    exact J_ireturn dX7_count_51 rfl rfl rfl
  refine J_tswOut (tgt := 52) dX7_count_1 (by have c1 : ¬ (a1).toInt = 0 := toI_ne c1; have c2 : ¬ (a1).toInt = 1 := toI_ne c2; have c3 : ¬ (a1).toInt = 2 := toI_ne c3; omega) (by decide) ?_
  refine J_aload_n (i := 0) dX7_count_52 rfl rfl ?_
  refine J_callVIM 0 [] dX7_count_53 ca_X7_refuseAsBad lk_RX7_86 vi_X7_refuseAsBad rc_0 rfl rfl ⟨by show _ ≤ _; simp only [rmD]; omega, by show _ ≤ _; simp only [rmD]; omega⟩ (Nat.le_of_ble_eq_true rfl) ⟨Nat.zero_le _, Nat.zero_le _⟩ (con_X7_refuseAsBad l _) (fun r4 _ => ?_)
  exact J_ireturn dX7_count_56 rfl rfl rfl

def lp_X5_addedTo_188 (N : Nat) (s0 : jM) (k11 : Int64 → Option Int64) : Nat → Int64 → Int32 → Option Int64
  | 0, _, _ => none
  | q + 1, y12, x13 => if (gI s0 1 12) ≤ x13 then (k11 y12) else (if (8 : Int32) ≤ x13 then (k11 y12) else (gd (ib x13 8) <| lt_ (((31 : Int64) * y12) + (Int32.toInt64 (gI s0 7 (Int32.toNatClampNeg x13)))) fun y17 => gd (ib x13 8) <| lt_ (((31 : Int64) * y17) + (Int32.toInt64 (gI s0 8 (Int32.toNatClampNeg x13)))) fun y18 => gd (ib x13 8) <| lt_ (((31 : Int64) * y18) + (Int32.toInt64 (gI s0 9 (Int32.toNatClampNeg x13)))) fun y19 => lt_ (x13 + (1 : Int32)) fun x20 => lp_X5_addedTo_188 N s0 k11 q y19 x20))
def lp_X5_addedTo_148 (N : Nat) (s0 : jM) (k9 : Int64 → Option Int64) : Nat → Int64 → Int32 → Option Int64
  | 0, _, _ => none
  | q + 1, y21, x22 => if (gI s0 1 8) ≤ x22 then (k9 y21) else (if (40 : Int32) ≤ x22 then (k9 y21) else (gd (ib x22 40) <| lt_ (((31 : Int64) * y21) + (Int32.toInt64 (gC s0 6 (Int32.toNatClampNeg x22)))) fun y26 => lt_ (x22 + (1 : Int32)) fun x27 => lp_X5_addedTo_148 N s0 k9 q y26 x27))
def lp_X5_addedTo_39 (N : Nat) (s0 : jM) (k5 : Int64 → Option Int64) : Nat → Int64 → Int32 → Option Int64
  | 0, _, _ => none
  | q + 1, y28, x29 => if (gI s0 1 4) ≤ x29 then (k5 y28) else (if (8 : Int32) ≤ x29 then (k5 y28) else (gd (ib x29 8) <| lt_ (((31 : Int64) * y28) + (Int32.toInt64 (gI s0 2 (Int32.toNatClampNeg x29)))) fun y33 => gd (ib x29 8) <| lt_ (((31 : Int64) * y33) + (Int32.toInt64 (gI s0 3 (Int32.toNatClampNeg x29)))) fun y34 => gd (ib x29 8) <| lt_ (((31 : Int64) * y34) + (Int32.toInt64 (gI s0 4 (Int32.toNatClampNeg x29)))) fun y35 => gd (ib x29 8) <| lt_ (((31 : Int64) * y35) + (Int32.toInt64 (gI s0 5 (Int32.toNatClampNeg x29)))) fun y36 => lt_ (x29 + (1 : Int32)) fun x37 => lp_X5_addedTo_39 N s0 k5 q y36 x37))
def f_X5_addedTo (N : Nat) (a1 : Int64) (s0 : jM) : Option Int64 := lt_ (((31 : Int64) * a1) + (Int32.toInt64 (gI s0 1 4))) fun y1 => lt_ (((31 : Int64) * y1) + (Int32.toInt64 (gI s0 1 8))) fun y2 => lt_ (((31 : Int64) * y2) + (Int32.toInt64 (gI s0 1 12))) fun y3 => jn_ (fun (y4 : Int64) => lt_ (((31 : Int64) * y4) + (Int32.toInt64 (gI s0 1 5))) fun y6 => lt_ (((31 : Int64) * y6) + (Int32.toInt64 (gI s0 1 6))) fun y7 => jn_ (fun (y8 : Int64) => jn_ (fun (y10 : Int64) => some y10) fun k11 => lp_X5_addedTo_188 N s0 k11 N y8 (0 : Int32)) fun k9 => lp_X5_addedTo_148 N s0 k9 N y7 (0 : Int32)) fun k5 => lp_X5_addedTo_39 N s0 k5 N y3 (0 : Int32)
set_option maxRecDepth 100000 in
set_option maxHeartbeats 4000000 in
theorem lp_X5_addedTo_188_ok (l : Launch) (N : Nat)  (s0 : jM) (k11 : Int64 → Option Int64) (hk11 : ∀ (y10 : Int64), J l RX5 cX5_addedTo 6 (Option.some Jvm.ClassFile.FieldType.long) false (rmD (1) 0 0) noCx (eL SH s0) SH 0 0 s0 255 [none, none, none, some (.long y10), none, none] [] (k11 y10)) : ∀ (q : Nat) (y12 : Int64) (x13 : Int32), J l RX5 cX5_addedTo 6 (Option.some Jvm.ClassFile.FieldType.long) false (rmD (1) 0 0) noCx (eL SH s0) SH 0 0 s0 188 [some (.ref 1), none, none, some (.long y12), none, some (.int x13)] [] (lp_X5_addedTo_188 N s0 k11 q y12 x13) := by
  intro q
  induction q with
  | zero => intro y12 x13; exact J_none
  | succ q hrec14 =>
    intro y12 x13
    rw [lp_X5_addedTo_188]
    refine J_iload (i := 5) dX5_addedTo_188 rfl ?_
    refine J_aload_n (i := 0) dX5_addedTo_190 rfl rfl ?_
    refine J_getI dX5_addedTo_191 fl_RX5_50 sh_1_12 ?_
    refine J_icmp_ge (tgt := 255) dX5_addedTo_194 (by decide) (fun c15 => ?_) (fun c15 => ?_)
    · refine J_sub (l1 := [none, none, none, some (.long y12), none, none]) ⟨rfl, trivial⟩ ?_
      exact hk11 y12
    · refine J_iload (i := 5) dX5_addedTo_197 rfl ?_
      refine J_bipush (v := (8 : Int32)) dX5_addedTo_199 (by decide) ?_
      refine J_icmp_ge (tgt := 255) dX5_addedTo_201 (by decide) (fun c16 => ?_) (fun c16 => ?_)
      · refine J_sub (l1 := [none, none, none, some (.long y12), none, none]) ⟨rfl, trivial⟩ ?_
        exact hk11 y12
      · refine J_ldc2 (v := (31 : Int64)) dX5_addedTo_204 kw_RX5_66 ?_
        refine J_lload_n (i := 3) dX5_addedTo_207 rfl rfl ?_
        refine J_lmul dX5_addedTo_208 ?_
        refine J_aload_n (i := 0) dX5_addedTo_209 rfl rfl ?_
        refine J_getR dX5_addedTo_210 fl_RX5_41 sh_1_9 ?_
        refine J_iload (i := 5) dX5_addedTo_213 rfl ?_
        refine J_iald dX5_addedTo_215 sa_7 ?_
        refine J_i2l dX5_addedTo_216 ?_
        refine J_ladd dX5_addedTo_217 ?_
        refine J_lstore_nN (i := 3) (LS := fun y17 => [some (.ref 1), none, none, some (.long y17), none, some (.int x13)]) dX5_addedTo_218 rfl (fun _ => rfl) (by decide) (fun y17 => ?_)
        refine J_ldc2 (v := (31 : Int64)) dX5_addedTo_219 kw_RX5_66 ?_
        refine J_lload_n (i := 3) dX5_addedTo_222 rfl rfl ?_
        refine J_lmul dX5_addedTo_223 ?_
        refine J_aload_n (i := 0) dX5_addedTo_224 rfl rfl ?_
        refine J_getR dX5_addedTo_225 fl_RX5_44 sh_1_10 ?_
        refine J_iload (i := 5) dX5_addedTo_228 rfl ?_
        refine J_iald dX5_addedTo_230 sa_8 ?_
        refine J_i2l dX5_addedTo_231 ?_
        refine J_ladd dX5_addedTo_232 ?_
        refine J_lstore_nN (i := 3) (LS := fun y18 => [some (.ref 1), none, none, some (.long y18), none, some (.int x13)]) dX5_addedTo_233 rfl (fun _ => rfl) (by decide) (fun y18 => ?_)
        refine J_ldc2 (v := (31 : Int64)) dX5_addedTo_234 kw_RX5_66 ?_
        refine J_lload_n (i := 3) dX5_addedTo_237 rfl rfl ?_
        refine J_lmul dX5_addedTo_238 ?_
        refine J_aload_n (i := 0) dX5_addedTo_239 rfl rfl ?_
        refine J_getR dX5_addedTo_240 fl_RX5_47 sh_1_11 ?_
        refine J_iload (i := 5) dX5_addedTo_243 rfl ?_
        refine J_iald dX5_addedTo_245 sa_9 ?_
        refine J_i2l dX5_addedTo_246 ?_
        refine J_ladd dX5_addedTo_247 ?_
        refine J_lstore_nN (i := 3) (LS := fun y19 => [some (.ref 1), none, none, some (.long y19), none, some (.int x13)]) dX5_addedTo_248 rfl (fun _ => rfl) (by decide) (fun y19 => ?_)
        refine J_iincN (i := 5) (v := x13 + (1 : Int32)) (LS := fun x20 => [some (.ref 1), none, none, some (.long y19), none, some (.int x20)]) dX5_addedTo_249 rfl (by first | rfl | decide) (fun _ => rfl) (by decide) (fun x20 => ?_)
        refine J_goto (tgt := 188) dX5_addedTo_252 (by decide) ?_
        refine J_sub (l1 := [some (.ref 1), none, none, some (.long y19), none, some (.int x20)]) ⟨rfl, ⟨rfl, ⟨rfl, trivial⟩⟩⟩ ?_
        exact hrec14 y19 x20
set_option maxRecDepth 100000 in
set_option maxHeartbeats 4000000 in
theorem lp_X5_addedTo_148_ok (l : Launch) (N : Nat)  (s0 : jM) (k9 : Int64 → Option Int64) (hk9 : ∀ (y8 : Int64), J l RX5 cX5_addedTo 6 (Option.some Jvm.ClassFile.FieldType.long) false (rmD (1) 0 0) noCx (eL SH s0) SH 0 0 s0 185 [some (.ref 1), none, none, some (.long y8), none, none] [] (k9 y8)) : ∀ (q : Nat) (y21 : Int64) (x22 : Int32), J l RX5 cX5_addedTo 6 (Option.some Jvm.ClassFile.FieldType.long) false (rmD (1) 0 0) noCx (eL SH s0) SH 0 0 s0 148 [some (.ref 1), none, none, some (.long y21), none, some (.int x22)] [] (lp_X5_addedTo_148 N s0 k9 q y21 x22) := by
  intro q
  induction q with
  | zero => intro y21 x22; exact J_none
  | succ q hrec23 =>
    intro y21 x22
    rw [lp_X5_addedTo_148]
    refine J_iload (i := 5) dX5_addedTo_148 rfl ?_
    refine J_aload_n (i := 0) dX5_addedTo_150 rfl rfl ?_
    refine J_getI dX5_addedTo_151 fl_RX5_38 sh_1_8 ?_
    refine J_icmp_ge (tgt := 185) dX5_addedTo_154 (by decide) (fun c24 => ?_) (fun c24 => ?_)
    · refine J_sub (l1 := [some (.ref 1), none, none, some (.long y21), none, none]) ⟨rfl, ⟨rfl, trivial⟩⟩ ?_
      exact hk9 y21
    · refine J_iload (i := 5) dX5_addedTo_157 rfl ?_
      refine J_bipush (v := (40 : Int32)) dX5_addedTo_159 (by decide) ?_
      refine J_icmp_ge (tgt := 185) dX5_addedTo_161 (by decide) (fun c25 => ?_) (fun c25 => ?_)
      · refine J_sub (l1 := [some (.ref 1), none, none, some (.long y21), none, none]) ⟨rfl, ⟨rfl, trivial⟩⟩ ?_
        exact hk9 y21
      · refine J_ldc2 (v := (31 : Int64)) dX5_addedTo_164 kw_RX5_66 ?_
        refine J_lload_n (i := 3) dX5_addedTo_167 rfl rfl ?_
        refine J_lmul dX5_addedTo_168 ?_
        refine J_aload_n (i := 0) dX5_addedTo_169 rfl rfl ?_
        refine J_getR dX5_addedTo_170 fl_RX5_34 sh_1_7 ?_
        refine J_iload (i := 5) dX5_addedTo_173 rfl ?_
        refine J_cald dX5_addedTo_175 sa_6 ?_
        refine J_i2l dX5_addedTo_176 ?_
        refine J_ladd dX5_addedTo_177 ?_
        refine J_lstore_nN (i := 3) (LS := fun y26 => [some (.ref 1), none, none, some (.long y26), none, some (.int x22)]) dX5_addedTo_178 rfl (fun _ => rfl) (by decide) (fun y26 => ?_)
        refine J_iincN (i := 5) (v := x22 + (1 : Int32)) (LS := fun x27 => [some (.ref 1), none, none, some (.long y26), none, some (.int x27)]) dX5_addedTo_179 rfl (by first | rfl | decide) (fun _ => rfl) (by decide) (fun x27 => ?_)
        refine J_goto (tgt := 148) dX5_addedTo_182 (by decide) ?_
        refine J_sub (l1 := [some (.ref 1), none, none, some (.long y26), none, some (.int x27)]) ⟨rfl, ⟨rfl, ⟨rfl, trivial⟩⟩⟩ ?_
        exact hrec23 y26 x27
set_option maxRecDepth 100000 in
set_option maxHeartbeats 4000000 in
theorem lp_X5_addedTo_39_ok (l : Launch) (N : Nat)  (s0 : jM) (k5 : Int64 → Option Int64) (hk5 : ∀ (y4 : Int64), J l RX5 cX5_addedTo 6 (Option.some Jvm.ClassFile.FieldType.long) false (rmD (1) 0 0) noCx (eL SH s0) SH 0 0 s0 121 [some (.ref 1), none, none, some (.long y4), none, none] [] (k5 y4)) : ∀ (q : Nat) (y28 : Int64) (x29 : Int32), J l RX5 cX5_addedTo 6 (Option.some Jvm.ClassFile.FieldType.long) false (rmD (1) 0 0) noCx (eL SH s0) SH 0 0 s0 39 [some (.ref 1), none, none, some (.long y28), none, some (.int x29)] [] (lp_X5_addedTo_39 N s0 k5 q y28 x29) := by
  intro q
  induction q with
  | zero => intro y28 x29; exact J_none
  | succ q hrec30 =>
    intro y28 x29
    rw [lp_X5_addedTo_39]
    refine J_iload (i := 5) dX5_addedTo_39 rfl ?_
    refine J_aload_n (i := 0) dX5_addedTo_41 rfl rfl ?_
    refine J_getI dX5_addedTo_42 fl_RX5_24 sh_1_4 ?_
    refine J_icmp_ge (tgt := 121) dX5_addedTo_45 (by decide) (fun c31 => ?_) (fun c31 => ?_)
    · refine J_sub (l1 := [some (.ref 1), none, none, some (.long y28), none, none]) ⟨rfl, ⟨rfl, trivial⟩⟩ ?_
      exact hk5 y28
    · refine J_iload (i := 5) dX5_addedTo_48 rfl ?_
      refine J_bipush (v := (8 : Int32)) dX5_addedTo_50 (by decide) ?_
      refine J_icmp_ge (tgt := 121) dX5_addedTo_52 (by decide) (fun c32 => ?_) (fun c32 => ?_)
      · refine J_sub (l1 := [some (.ref 1), none, none, some (.long y28), none, none]) ⟨rfl, ⟨rfl, trivial⟩⟩ ?_
        exact hk5 y28
      · refine J_ldc2 (v := (31 : Int64)) dX5_addedTo_55 kw_RX5_66 ?_
        refine J_lload_n (i := 3) dX5_addedTo_58 rfl rfl ?_
        refine J_lmul dX5_addedTo_59 ?_
        refine J_aload_n (i := 0) dX5_addedTo_60 rfl rfl ?_
        refine J_getR dX5_addedTo_61 fl_RX5_9 sh_1_0 ?_
        refine J_iload (i := 5) dX5_addedTo_64 rfl ?_
        refine J_iald dX5_addedTo_66 sa_2 ?_
        refine J_i2l dX5_addedTo_67 ?_
        refine J_ladd dX5_addedTo_68 ?_
        refine J_lstore_nN (i := 3) (LS := fun y33 => [some (.ref 1), none, none, some (.long y33), none, some (.int x29)]) dX5_addedTo_69 rfl (fun _ => rfl) (by decide) (fun y33 => ?_)
        refine J_ldc2 (v := (31 : Int64)) dX5_addedTo_70 kw_RX5_66 ?_
        refine J_lload_n (i := 3) dX5_addedTo_73 rfl rfl ?_
        refine J_lmul dX5_addedTo_74 ?_
        refine J_aload_n (i := 0) dX5_addedTo_75 rfl rfl ?_
        refine J_getR dX5_addedTo_76 fl_RX5_15 sh_1_1 ?_
        refine J_iload (i := 5) dX5_addedTo_79 rfl ?_
        refine J_iald dX5_addedTo_81 sa_3 ?_
        refine J_i2l dX5_addedTo_82 ?_
        refine J_ladd dX5_addedTo_83 ?_
        refine J_lstore_nN (i := 3) (LS := fun y34 => [some (.ref 1), none, none, some (.long y34), none, some (.int x29)]) dX5_addedTo_84 rfl (fun _ => rfl) (by decide) (fun y34 => ?_)
        refine J_ldc2 (v := (31 : Int64)) dX5_addedTo_85 kw_RX5_66 ?_
        refine J_lload_n (i := 3) dX5_addedTo_88 rfl rfl ?_
        refine J_lmul dX5_addedTo_89 ?_
        refine J_aload_n (i := 0) dX5_addedTo_90 rfl rfl ?_
        refine J_getR dX5_addedTo_91 fl_RX5_18 sh_1_2 ?_
        refine J_iload (i := 5) dX5_addedTo_94 rfl ?_
        refine J_iald dX5_addedTo_96 sa_4 ?_
        refine J_i2l dX5_addedTo_97 ?_
        refine J_ladd dX5_addedTo_98 ?_
        refine J_lstore_nN (i := 3) (LS := fun y35 => [some (.ref 1), none, none, some (.long y35), none, some (.int x29)]) dX5_addedTo_99 rfl (fun _ => rfl) (by decide) (fun y35 => ?_)
        refine J_ldc2 (v := (31 : Int64)) dX5_addedTo_100 kw_RX5_66 ?_
        refine J_lload_n (i := 3) dX5_addedTo_103 rfl rfl ?_
        refine J_lmul dX5_addedTo_104 ?_
        refine J_aload_n (i := 0) dX5_addedTo_105 rfl rfl ?_
        refine J_getR dX5_addedTo_106 fl_RX5_21 sh_1_3 ?_
        refine J_iload (i := 5) dX5_addedTo_109 rfl ?_
        refine J_iald dX5_addedTo_111 sa_5 ?_
        refine J_i2l dX5_addedTo_112 ?_
        refine J_ladd dX5_addedTo_113 ?_
        refine J_lstore_nN (i := 3) (LS := fun y36 => [some (.ref 1), none, none, some (.long y36), none, some (.int x29)]) dX5_addedTo_114 rfl (fun _ => rfl) (by decide) (fun y36 => ?_)
        refine J_iincN (i := 5) (v := x29 + (1 : Int32)) (LS := fun x37 => [some (.ref 1), none, none, some (.long y36), none, some (.int x37)]) dX5_addedTo_115 rfl (by first | rfl | decide) (fun _ => rfl) (by decide) (fun x37 => ?_)
        refine J_goto (tgt := 39) dX5_addedTo_118 (by decide) ?_
        refine J_sub (l1 := [some (.ref 1), none, none, some (.long y36), none, some (.int x37)]) ⟨rfl, ⟨rfl, ⟨rfl, trivial⟩⟩⟩ ?_
        exact hrec30 y36 x37
set_option maxRecDepth 100000 in
set_option maxHeartbeats 4000000 in
theorem con_X5_addedTo (l : Launch) (N : Nat) (a1 : Int64) (s0 : jM) : Con l (1) yX5_addedTo cX5_addedTo 6 (Option.some Jvm.ClassFile.FieldType.long) (eL SH s0) SH [.ref 1, .long a1] s0 (f_X5_addedTo N a1 s0) := by
  refine Con_of (ls0 := [some (.ref 1), some (.long a1), none, none, none, none]) (ini := false) (mc := 0) (ms := 0) (by decide +kernel) rfl (Nat.le_of_ble_eq_true rfl) (fun h => by cases h) (fun _ _ => rfl) ?_
  unfold f_X5_addedTo
  refine J_ldc2 (v := (31 : Int64)) dX5_addedTo_0 kw_RX5_66 ?_
  refine J_lload_n (i := 1) dX5_addedTo_3 rfl rfl ?_
  refine J_lmul dX5_addedTo_4 ?_
  refine J_aload_n (i := 0) dX5_addedTo_5 rfl rfl ?_
  refine J_getI dX5_addedTo_6 fl_RX5_24 sh_1_4 ?_
  refine J_i2l dX5_addedTo_9 ?_
  refine J_ladd dX5_addedTo_10 ?_
  refine J_lstore_nN (i := 3) (LS := fun y1 => [some (.ref 1), some (.long a1), none, some (.long y1), none, none]) dX5_addedTo_11 rfl (fun _ => rfl) (by decide) (fun y1 => ?_)
  refine J_ldc2 (v := (31 : Int64)) dX5_addedTo_12 kw_RX5_66 ?_
  refine J_lload_n (i := 3) dX5_addedTo_15 rfl rfl ?_
  refine J_lmul dX5_addedTo_16 ?_
  refine J_aload_n (i := 0) dX5_addedTo_17 rfl rfl ?_
  refine J_getI dX5_addedTo_18 fl_RX5_38 sh_1_8 ?_
  refine J_i2l dX5_addedTo_21 ?_
  refine J_ladd dX5_addedTo_22 ?_
  refine J_lstore_nN (i := 3) (LS := fun y2 => [some (.ref 1), some (.long a1), none, some (.long y2), none, none]) dX5_addedTo_23 rfl (fun _ => rfl) (by decide) (fun y2 => ?_)
  refine J_ldc2 (v := (31 : Int64)) dX5_addedTo_24 kw_RX5_66 ?_
  refine J_lload_n (i := 3) dX5_addedTo_27 rfl rfl ?_
  refine J_lmul dX5_addedTo_28 ?_
  refine J_aload_n (i := 0) dX5_addedTo_29 rfl rfl ?_
  refine J_getI dX5_addedTo_30 fl_RX5_50 sh_1_12 ?_
  refine J_i2l dX5_addedTo_33 ?_
  refine J_ladd dX5_addedTo_34 ?_
  refine J_lstore_nN (i := 3) (LS := fun y3 => [some (.ref 1), some (.long a1), none, some (.long y3), none, none]) dX5_addedTo_35 rfl (fun _ => rfl) (by decide) (fun y3 => ?_)
  refine J_iconst (v := (0 : Int32)) dX5_addedTo_36 (by decide) ?_
  refine J_istore (i := 5) (ls2 := [some (.ref 1), some (.long a1), none, some (.long y3), none, some (.int (0 : Int32))]) dX5_addedTo_37 rfl (by decide) ?_
  refine J_join (P := fun j => ∀ (y4 : Int64), J l RX5 cX5_addedTo 6 (Option.some Jvm.ClassFile.FieldType.long) false (rmD (1) 0 0) noCx (eL SH s0) SH 0 0 s0 121 [some (.ref 1), none, none, some (.long y4), none, none] [] (j y4)) ?_ (fun k5 hk5 => ?_)
  · intro y4
    refine J_ldc2 (v := (31 : Int64)) dX5_addedTo_121 kw_RX5_66 ?_
    refine J_lload_n (i := 3) dX5_addedTo_124 rfl rfl ?_
    refine J_lmul dX5_addedTo_125 ?_
    refine J_aload_n (i := 0) dX5_addedTo_126 rfl rfl ?_
    refine J_getI dX5_addedTo_127 fl_RX5_28 sh_1_5 ?_
    refine J_i2l dX5_addedTo_130 ?_
    refine J_ladd dX5_addedTo_131 ?_
    refine J_lstore_nN (i := 3) (LS := fun y6 => [some (.ref 1), none, none, some (.long y6), none, none]) dX5_addedTo_132 rfl (fun _ => rfl) (by decide) (fun y6 => ?_)
    refine J_ldc2 (v := (31 : Int64)) dX5_addedTo_133 kw_RX5_66 ?_
    refine J_lload_n (i := 3) dX5_addedTo_136 rfl rfl ?_
    refine J_lmul dX5_addedTo_137 ?_
    refine J_aload_n (i := 0) dX5_addedTo_138 rfl rfl ?_
    refine J_getI dX5_addedTo_139 fl_RX5_31 sh_1_6 ?_
    refine J_i2l dX5_addedTo_142 ?_
    refine J_ladd dX5_addedTo_143 ?_
    refine J_lstore_nN (i := 3) (LS := fun y7 => [some (.ref 1), none, none, some (.long y7), none, none]) dX5_addedTo_144 rfl (fun _ => rfl) (by decide) (fun y7 => ?_)
    refine J_iconst (v := (0 : Int32)) dX5_addedTo_145 (by decide) ?_
    refine J_istore (i := 5) (ls2 := [some (.ref 1), none, none, some (.long y7), none, some (.int (0 : Int32))]) dX5_addedTo_146 rfl (by decide) ?_
    refine J_join (P := fun j => ∀ (y8 : Int64), J l RX5 cX5_addedTo 6 (Option.some Jvm.ClassFile.FieldType.long) false (rmD (1) 0 0) noCx (eL SH s0) SH 0 0 s0 185 [some (.ref 1), none, none, some (.long y8), none, none] [] (j y8)) ?_ (fun k9 hk9 => ?_)
    · intro y8
      refine J_iconst (v := (0 : Int32)) dX5_addedTo_185 (by decide) ?_
      refine J_istore (i := 5) (ls2 := [some (.ref 1), none, none, some (.long y8), none, some (.int (0 : Int32))]) dX5_addedTo_186 rfl (by decide) ?_
      refine J_join (P := fun j => ∀ (y10 : Int64), J l RX5 cX5_addedTo 6 (Option.some Jvm.ClassFile.FieldType.long) false (rmD (1) 0 0) noCx (eL SH s0) SH 0 0 s0 255 [none, none, none, some (.long y10), none, none] [] (j y10)) ?_ (fun k11 hk11 => ?_)
      · intro y10
        refine J_lload_n (i := 3) dX5_addedTo_255 rfl rfl ?_
        exact J_lreturn dX5_addedTo_256 rfl rfl
      refine J_sub (l1 := [some (.ref 1), none, none, some (.long y8), none, some (.int (0 : Int32))]) ⟨rfl, ⟨rfl, ⟨rfl, trivial⟩⟩⟩ ?_
      exact lp_X5_addedTo_188_ok l N  s0 k11 hk11 N y8 (0 : Int32)
    refine J_sub (l1 := [some (.ref 1), none, none, some (.long y7), none, some (.int (0 : Int32))]) ⟨rfl, ⟨rfl, ⟨rfl, trivial⟩⟩⟩ ?_
    exact lp_X5_addedTo_148_ok l N  s0 k9 hk9 N y7 (0 : Int32)
  refine J_sub (l1 := [some (.ref 1), none, none, some (.long y3), none, some (.int (0 : Int32))]) ⟨rfl, ⟨rfl, ⟨rfl, trivial⟩⟩⟩ ?_
  exact lp_X5_addedTo_39_ok l N  s0 k5 hk5 N y3 (0 : Int32)

def f_X7_digest (N : Nat)  (s0 : jM) : Option Int64 := Option.bind (f_X5_addedTo N (643 : Int64) s0) fun r1 => lt_ (((31 : Int64) * r1) + (gL s0 50 0)) fun y2 => some (((31 : Int64) * y2) + (gL s0 50 1))
set_option maxRecDepth 100000 in
set_option maxHeartbeats 4000000 in
theorem con_X7_digest (l : Launch) (N : Nat) (s0 : jM) : Con l (2) yX7_digest cX7_digest 3 (Option.some Jvm.ClassFile.FieldType.long) (eL SH s0) SH [.ref 0] s0 (f_X7_digest N s0) := by
  refine Con_of (ls0 := [some (.ref 0), none, none]) (ini := false) (mc := 0) (ms := 0) (by decide +kernel) rfl (Nat.le_of_ble_eq_true rfl) (fun h => by cases h) (fun _ _ => rfl) ?_
  unfold f_X7_digest
  refine J_aload_n (i := 0) dX7_digest_0 rfl rfl ?_
  refine J_getR dX7_digest_1 fl_RX7_10 sh_0_0 ?_
  refine J_ldc2 (v := (643 : Int64)) dX7_digest_4 kw_RX7_245 ?_
  refine J_callVL 1 [.long (643 : Int64)] dX7_digest_7 ca_X5_addedTo lk_RX7_247 vi_X5_addedTo rc_1 rfl rfl ⟨by show _ ≤ _; simp only [rmD]; omega, by show _ ≤ _; simp only [rmD]; omega⟩ (Nat.le_of_ble_eq_true rfl) ⟨Nat.zero_le _, Nat.zero_le _⟩ (con_X5_addedTo l N _ _) (fun r1 _ => ?_)
  refine J_lstore_n (i := 1) (ls2 := [some (.ref 0), some (.long r1), none]) dX7_digest_10 rfl rfl (by decide) ?_
  refine J_ldc2 (v := (31 : Int64)) dX7_digest_11 kw_RX7_251 ?_
  refine J_lload_n (i := 1) dX7_digest_14 rfl rfl ?_
  refine J_lmul dX7_digest_15 ?_
  refine J_aload_n (i := 0) dX7_digest_16 rfl rfl ?_
  refine J_getR dX7_digest_17 fl_RX7_70 sh_0_9 ?_
  refine J_getL dX7_digest_20 fl_RX7_226 sh_50_0 ?_
  refine J_ladd dX7_digest_23 ?_
  refine J_lstore_nN (i := 1) (LS := fun y2 => [some (.ref 0), some (.long y2), none]) dX7_digest_24 rfl (fun _ => rfl) (by decide) (fun y2 => ?_)
  refine J_ldc2 (v := (31 : Int64)) dX7_digest_25 kw_RX7_251 ?_
  refine J_lload_n (i := 1) dX7_digest_28 rfl rfl ?_
  refine J_lmul dX7_digest_29 ?_
  refine J_aload_n (i := 0) dX7_digest_30 rfl rfl ?_
  refine J_getR dX7_digest_31 fl_RX7_70 sh_0_9 ?_
  refine J_getL dX7_digest_34 fl_RX7_230 sh_50_1 ?_
  refine J_ladd dX7_digest_37 ?_
  exact J_lreturn dX7_digest_38 rfl rfl

def f_X8_in (a0 : Int64) (a1 : Int64) (a2 : Int64) : Option Int32 := jn_ (fun (_ : Unit) => some (0 : Int32)) fun j1 => if a0 < a1 then (j1 ()) else (if a2 < a0 then (j1 ()) else (some (1 : Int32)))
set_option maxRecDepth 100000 in
set_option maxHeartbeats 4000000 in
theorem con_X8_in (l : Launch) (a0 : Int64) (a1 : Int64) (a2 : Int64) (s0 : jM) : Con l (1) yX8_in cX8_in 6 (Option.some Jvm.ClassFile.FieldType.boolean) (eI SH s0) SH [.long a0, .long a1, .long a2] s0 (f_X8_in a0 a1 a2) := by
  refine Con_of (ls0 := [some (.long a0), none, some (.long a1), none, some (.long a2), none]) (ini := false) (mc := 0) (ms := 0) (by decide +kernel) rfl (Nat.le_of_ble_eq_true rfl) (fun h => by cases h) (fun _ _ => rfl) ?_
  unfold f_X8_in
  refine J_join (P := fun j => ∀ (_ : Unit), J l RX8 cX8_in 6 (Option.some Jvm.ClassFile.FieldType.boolean) false (rmD (1) 0 0) noCx (eI SH s0) SH 0 0 s0 17 [none, none, none, none, none, none] [] (j ())) ?_ (fun j1 hj1 => ?_)
  · intro _
    refine J_iconst (v := (0 : Int32)) dX8_in_17 (by decide) ?_
    exact J_ireturn dX8_in_18 rfl rfl rfl
  refine J_lload_n (i := 0) dX8_in_0 rfl rfl ?_
  refine J_lload_n (i := 2) dX8_in_1 rfl rfl ?_
  refine J_lcmp_lt (tgt := 17) dX8_in_2 dX8_in_3 (by decide) (fun c2 => ?_) (fun c2 => ?_)
  · refine J_sub (l1 := [none, none, none, none, none, none]) trivial ?_
    exact hj1 ()
  · refine J_lload_n (i := 0) dX8_in_6 rfl rfl ?_
    refine J_lload (i := 4) dX8_in_7 rfl ?_
    refine J_lcmp_gt (tgt := 17) dX8_in_9 dX8_in_10 (by decide) (fun c3 => ?_) (fun c3 => ?_)
    · refine J_sub (l1 := [none, none, none, none, none, none]) trivial ?_
      exact hj1 ()
    · refine J_iconst (v := (1 : Int32)) dX8_in_13 (by decide) ?_
      refine J_goto (tgt := 18) dX8_in_14 (by decide) ?_
      exact J_ireturn dX8_in_18 rfl rfl rfl

def f_X8_bad (a1 : Int32) (s0 : jM) : Option (Int32 × jM) := gd (ib (0 : Int32) 3) <| gd (ib (0 : Int32) 3) <| lt_ (pI s0 57 (Int32.toNatClampNeg (0 : Int32)) ((gI s0 57 (Int32.toNatClampNeg (0 : Int32))) + (1 : Int32))) fun s1 => some (a1, s1)
set_option maxRecDepth 100000 in
set_option maxHeartbeats 4000000 in
theorem con_X8_bad (l : Launch) (a1 : Int32) (s0 : jM) : Con l (1) yX8_bad cX8_bad 2 (Option.some Jvm.ClassFile.FieldType.int) (eIM SH) SH [.ref 53, .int a1] s0 (f_X8_bad a1 s0) := by
  refine Con_of (ls0 := [some (.ref 53), some (.int a1)]) (ini := false) (mc := 0) (ms := 0) (by decide +kernel) rfl (Nat.le_of_ble_eq_true rfl) (fun h => by cases h) (fun _ _ => rfl) ?_
  unfold f_X8_bad
  refine J_aload_n (i := 0) dX8_bad_0 rfl rfl ?_
  refine J_getR dX8_bad_1 fl_RX8_20 sh_53_3 ?_
  refine J_iconst (v := (0 : Int32)) dX8_bad_4 (by decide) ?_
  refine J_dup2_11 dX8_bad_5 rfl rfl ?_
  refine J_iald dX8_bad_6 sa_57 ?_
  refine J_iconst (v := (1 : Int32)) dX8_bad_7 (by decide) ?_
  refine J_iadd dX8_bad_8 ?_
  refine J_iast dX8_bad_9 sa_57 ?_
  refine J_letM rfl (fun s1 => ?_)
  refine J_iload_n (i := 1) dX8_bad_10 rfl rfl ?_
  exact J_ireturn dX8_bad_11 rfl rfl rfl

def f_X8_no  (s0 : jM) : Option (Int32 × jM) := gd (ib (1 : Int32) 3) <| gd (ib (1 : Int32) 3) <| lt_ (pI s0 57 (Int32.toNatClampNeg (1 : Int32)) ((gI s0 57 (Int32.toNatClampNeg (1 : Int32))) + (1 : Int32))) fun s1 => some ((-3 : Int32), s1)
set_option maxRecDepth 100000 in
set_option maxHeartbeats 4000000 in
theorem con_X8_no (l : Launch) (s0 : jM) : Con l (1) yX8_no cX8_no 1 (Option.some Jvm.ClassFile.FieldType.int) (eIM SH) SH [.ref 53] s0 (f_X8_no s0) := by
  refine Con_of (ls0 := [some (.ref 53)]) (ini := false) (mc := 0) (ms := 0) (by decide +kernel) rfl (Nat.le_of_ble_eq_true rfl) (fun h => by cases h) (fun _ _ => rfl) ?_
  unfold f_X8_no
  refine J_aload_n (i := 0) dX8_no_0 rfl rfl ?_
  refine J_getR dX8_no_1 fl_RX8_20 sh_53_3 ?_
  refine J_iconst (v := (1 : Int32)) dX8_no_4 (by decide) ?_
  refine J_dup2_11 dX8_no_5 rfl rfl ?_
  refine J_iald dX8_no_6 sa_57 ?_
  refine J_iconst (v := (1 : Int32)) dX8_no_7 (by decide) ?_
  refine J_iadd dX8_no_8 ?_
  refine J_iast dX8_no_9 sa_57 ?_
  refine J_letM rfl (fun s1 => ?_)
  refine J_bipush (v := (-3 : Int32)) dX8_no_10 (by decide) ?_
  exact J_ireturn dX8_no_12 rfl rfl rfl

def f_X8_full  (s0 : jM) : Option (Int32 × jM) := gd (ib (2 : Int32) 3) <| gd (ib (2 : Int32) 3) <| lt_ (pI s0 57 (Int32.toNatClampNeg (2 : Int32)) ((gI s0 57 (Int32.toNatClampNeg (2 : Int32))) + (1 : Int32))) fun s1 => some ((-4 : Int32), s1)
set_option maxRecDepth 100000 in
set_option maxHeartbeats 4000000 in
theorem con_X8_full (l : Launch) (s0 : jM) : Con l (1) yX8_full cX8_full 1 (Option.some Jvm.ClassFile.FieldType.int) (eIM SH) SH [.ref 53] s0 (f_X8_full s0) := by
  refine Con_of (ls0 := [some (.ref 53)]) (ini := false) (mc := 0) (ms := 0) (by decide +kernel) rfl (Nat.le_of_ble_eq_true rfl) (fun h => by cases h) (fun _ _ => rfl) ?_
  unfold f_X8_full
  refine J_aload_n (i := 0) dX8_full_0 rfl rfl ?_
  refine J_getR dX8_full_1 fl_RX8_20 sh_53_3 ?_
  refine J_iconst (v := (2 : Int32)) dX8_full_4 (by decide) ?_
  refine J_dup2_11 dX8_full_5 rfl rfl ?_
  refine J_iald dX8_full_6 sa_57 ?_
  refine J_iconst (v := (1 : Int32)) dX8_full_7 (by decide) ?_
  refine J_iadd dX8_full_8 ?_
  refine J_iast dX8_full_9 sa_57 ?_
  refine J_letM rfl (fun s1 => ?_)
  refine J_bipush (v := (-4 : Int32)) dX8_full_10 (by decide) ?_
  exact J_ireturn dX8_full_12 rfl rfl rfl
