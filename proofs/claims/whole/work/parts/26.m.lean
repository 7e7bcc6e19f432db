def f_X7_doubt (a1 : Int32) (a2 : Int32) (s0 : jM) : Option (Int32 × jM) := jn_ (fun (_ : Unit) => Option.bind (f_X7_refuseAsBad s0) fun r2 => some (r2.1, r2.2)) fun j1 => Option.bind (f_X7_isWalker a1 s0) fun r3 => if r3 = 0 then (j1 ()) else (Option.bind (f_X7_isWithin a2 (0 : Int32) (10 : Int32)) fun r5 => if r5 = 0 then (j1 ()) else (gd (ib a1 8) <| lt_ (gI s0 5 (Int32.toNatClampNeg a1)) fun x7 => gd (ib a1 8) <| lt_ (pI s0 5 (Int32.toNatClampNeg a1) a2) fun s8 => some (x7, s8)))
set_option maxRecDepth 100000 in
set_option maxHeartbeats 4000000 in
theorem con_X7_doubt (l : Launch) (a1 : Int32) (a2 : Int32) (s0 : jM) : Con l (2) yX7_doubt cX7_doubt 4 (Option.some Jvm.ClassFile.FieldType.int) (eIM SH) SH [.ref 0, .int a1, .int a2] s0 (f_X7_doubt a1 a2 s0) := by
  refine Con_of (ls0 := [some (.ref 0), some (.int a1), some (.int a2), none]) (ini := false) (mc := 0) (ms := 0) (by decide +kernel) rfl (Nat.le_of_ble_eq_true rfl) (fun h => by cases h) (fun _ _ => rfl) ?_
  unfold f_X7_doubt
  refine J_join (P := fun j => ∀ (_ : Unit), J l RX7 cX7_doubt 4 (Option.some Jvm.ClassFile.FieldType.int) false (rmD (2) 0 0) noCx (eIM SH) SH 0 0 s0 18 [some (.ref 0), none, none, none] [] (j ())) ?_ (fun j1 hj1 => ?_)
  · intro _
    refine J_aload_n (i := 0) dX7_doubt_18 rfl rfl ?_
    refine J_callVIM 0 [] dX7_doubt_19 ca_X7_refuseAsBad lk_RX7_86 vi_X7_refuseAsBad rc_0 rfl rfl ⟨by show _ ≤ _; simp only [rmD]; omega, by show _ ≤ _; simp only [rmD]; omega⟩ (Nat.le_of_ble_eq_true rfl) ⟨Nat.zero_le _, Nat.zero_le _⟩ (con_X7_refuseAsBad l _) (fun r2 _ => ?_)
    exact J_ireturn dX7_doubt_22 rfl rfl rfl
  refine J_aload_n (i := 0) dX7_doubt_0 rfl rfl ?_
  refine J_iload_n (i := 1) dX7_doubt_1 rfl rfl ?_
  refine J_callVI 0 [.int a1] dX7_doubt_2 ca_X7_isWalker lk_RX7_145 vi_X7_isWalker rc_0 rfl rfl ⟨by show _ ≤ _; simp only [rmD]; omega, by show _ ≤ _; simp only [rmD]; omega⟩ (Nat.le_of_ble_eq_true rfl) ⟨Nat.zero_le _, Nat.zero_le _⟩ (con_X7_isWalker l _ _) (fun r3 _ => ?_)
  refine J_if_eq (tgt := 18) dX7_doubt_5 (by decide) (fun c4 => ?_) (fun c4 => ?_)
  · refine J_sub (l1 := [some (.ref 0), none, none, none]) ⟨rfl, trivial⟩ ?_
    exact hj1 ()
  · refine J_iload_n (i := 2) dX7_doubt_8 rfl rfl ?_
    refine J_iconst (v := (0 : Int32)) dX7_doubt_9 (by decide) ?_
    refine J_bipush (v := (10 : Int32)) dX7_doubt_10 (by decide) ?_
    refine J_callSI [.int a2, .int (0 : Int32), .int (10 : Int32)] dX7_doubt_12 ca_X7_isWithin lk_RX7_82 st_X7_isWithin rfl rfl ⟨by show _ ≤ _; simp only [rmD]; omega, by show _ ≤ _; simp only [rmD]; omega⟩ (Nat.le_of_ble_eq_true rfl) ⟨Nat.zero_le _, Nat.zero_le _⟩ (con_X7_isWithin l _ _ _ _) (fun r5 _ => ?_)
    refine J_if_ne (tgt := 23) dX7_doubt_15 (by decide) (fun c6 => ?_) (fun c6 => ?_)
    · refine J_aload_n (i := 0) dX7_doubt_23 rfl rfl ?_
      refine J_getR dX7_doubt_24 fl_RX7_10 sh_0_0 ?_
      refine J_getR dX7_doubt_27 fl_RX7_196 sh_1_3 ?_
      refine J_iload_n (i := 1) dX7_doubt_30 rfl rfl ?_
      refine J_iald dX7_doubt_31 sa_5 ?_
      refine J_istore_nN (i := 3) (LS := fun x7 => [some (.ref 0), some (.int a1), some (.int a2), some (.int x7)]) dX7_doubt_32 rfl (fun _ => rfl) (by decide) (fun x7 => ?_)
      refine J_aload_n (i := 0) dX7_doubt_33 rfl rfl ?_
      refine J_getR dX7_doubt_34 fl_RX7_10 sh_0_0 ?_
      refine J_getR dX7_doubt_37 fl_RX7_196 sh_1_3 ?_
      refine J_iload_n (i := 1) dX7_doubt_40 rfl rfl ?_
      refine J_iload_n (i := 2) dX7_doubt_41 rfl rfl ?_
      refine J_iast dX7_doubt_42 sa_5 ?_
      refine J_letM rfl (fun s8 => ?_)
      refine J_iload_n (i := 3) dX7_doubt_43 rfl rfl ?_
      exact J_ireturn dX7_doubt_44 rfl rfl rfl
    · refine J_sub (l1 := [some (.ref 0), none, none, none]) ⟨rfl, trivial⟩ ?_
      exact hj1 ()

def lp_X7_odd_27 (N : Nat) (s0 : jM) (a1 : Int32) (k5 : Int64 → Int64 → Option (Int32 × jM)) : Nat → Int64 → Int64 → Int32 → Option (Int32 × jM)
  | 0, _, _, _ => none
  | q + 1, y7, y8, x9 => if (8 : Int32) ≤ x9 then (k5 y7 y8) else (jn_ (fun (y12 : Int64) (y13 : Int64) => lt_ (x9 + (1 : Int32)) fun x15 => lp_X7_odd_27 N s0 a1 k5 q y12 y13 x15) fun j14 => Option.bind (f_X7_holds a1 x9) fun r16 => if r16 = 0 then (j14 y7 y8) else (gd (ib x9 8) <| lt_ (Int32.toInt64 (gI s0 5 (Int32.toNatClampNeg x9))) fun y18 => lt_ ((10 : Int64) - y18) fun y19 => lt_ ((y7 * y19) + (y8 * y18)) fun y20 => lt_ ((y8 * y19) + (y7 * y18)) fun y21 => j14 y20 y21))
def f_X7_odd (N : Nat) (a1 : Int32) (s0 : jM) : Option (Int32 × jM) := Option.bind (f_X7_isSetOf a1 (gI s0 1 4)) fun r1 => if r1 = 0 then (Option.bind (f_X7_refuseAsBad s0) fun r22 => some (r22.1, r22.2)) else (jn_ (fun (y3 : Int64) (y4 : Int64) => Option.bind (f_X2_become N y3 (y3 + y4) s0) fun r6 => some ((1 : Int32), r6)) fun k5 => lp_X7_odd_27 N s0 a1 k5 N (0 : Int64) (1 : Int64) (0 : Int32))
set_option maxRecDepth 100000 in
set_option maxHeartbeats 4000000 in
theorem lp_X7_odd_27_ok (l : Launch) (N : Nat)  (s0 : jM) (a1 : Int32) (k5 : Int64 → Int64 → Option (Int32 × jM)) (hk5 : ∀ (y3 : Int64) (y4 : Int64), J l RX7 cX7_odd 13 (Option.some Jvm.ClassFile.FieldType.int) false (rmD (3) 0 0) noCx (eIM SH) SH 0 0 s0 97 [some (.ref 0), none, some (.long y3), none, some (.long y4), none, none, none, none, none, none, none, none] [] (k5 y3 y4)) : ∀ (q : Nat) (y7 : Int64) (y8 : Int64) (x9 : Int32), J l RX7 cX7_odd 13 (Option.some Jvm.ClassFile.FieldType.int) false (rmD (3) 0 0) noCx (eIM SH) SH 0 0 s0 27 [some (.ref 0), some (.int a1), some (.long y7), none, some (.long y8), none, some (.int x9), none, none, none, none, none, none] [] (lp_X7_odd_27 N s0 a1 k5 q y7 y8 x9) := by
  intro q
  induction q with
  | zero => intro y7 y8 x9; exact J_none
  | succ q hrec10 =>
    intro y7 y8 x9
    rw [lp_X7_odd_27]
    refine J_iload (i := 6) dX7_odd_27 rfl ?_
    refine J_bipush (v := (8 : Int32)) dX7_odd_29 (by decide) ?_
    refine J_icmp_ge (tgt := 97) dX7_odd_31 (by decide) (fun c11 => ?_) (fun c11 => ?_)
    · refine J_sub (l1 := [some (.ref 0), none, some (.long y7), none, some (.long y8), none, none, none, none, none, none, none, none]) ⟨rfl, ⟨rfl, ⟨rfl, trivial⟩⟩⟩ ?_
      exact hk5 y7 y8
    · refine J_join (P := fun j => ∀ (y12 : Int64) (y13 : Int64), J l RX7 cX7_odd 13 (Option.some Jvm.ClassFile.FieldType.int) false (rmD (3) 0 0) noCx (eIM SH) SH 0 0 s0 91 [some (.ref 0), some (.int a1), some (.long y12), none, some (.long y13), none, some (.int x9), none, none, none, none, none, none] [] (j y12 y13)) ?_ (fun j14 hj14 => ?_)
      · intro y12 y13
        refine J_iincN (i := 6) (v := x9 + (1 : Int32)) (LS := fun x15 => [some (.ref 0), some (.int a1), some (.long y12), none, some (.long y13), none, some (.int x15), none, none, none, none, none, none]) dX7_odd_91 rfl (by first | rfl | decide) (fun _ => rfl) (by decide) (fun x15 => ?_)
        refine J_goto (tgt := 27) dX7_odd_94 (by decide) ?_
        refine J_sub (l1 := [some (.ref 0), some (.int a1), some (.long y12), none, some (.long y13), none, some (.int x15), none, none, none, none, none, none]) ⟨rfl, ⟨rfl, ⟨rfl, ⟨rfl, ⟨rfl, trivial⟩⟩⟩⟩⟩ ?_
        exact hrec10 y12 y13 x15
      refine J_iload_n (i := 1) dX7_odd_34 rfl rfl ?_
      refine J_iload (i := 6) dX7_odd_35 rfl ?_
      refine J_callSI [.int a1, .int x9] dX7_odd_37 ca_X7_holds lk_RX7_199 st_X7_holds rfl rfl ⟨by show _ ≤ _; simp only [rmD]; omega, by show _ ≤ _; simp only [rmD]; omega⟩ (Nat.le_of_ble_eq_true rfl) ⟨Nat.zero_le _, Nat.zero_le _⟩ (con_X7_holds l _ _ _) (fun r16 _ => ?_)
      refine J_if_eq (tgt := 91) dX7_odd_40 (by decide) (fun c17 => ?_) (fun c17 => ?_)
      · refine J_sub (l1 := [some (.ref 0), some (.int a1), some (.long y7), none, some (.long y8), none, some (.int x9), none, none, none, none, none, none]) ⟨rfl, ⟨rfl, ⟨rfl, ⟨rfl, ⟨rfl, trivial⟩⟩⟩⟩⟩ ?_
        exact hj14 y7 y8
      · refine J_aload_n (i := 0) dX7_odd_43 rfl rfl ?_
        refine J_getR dX7_odd_44 fl_RX7_10 sh_0_0 ?_
        refine J_getR dX7_odd_47 fl_RX7_196 sh_1_3 ?_
        refine J_iload (i := 6) dX7_odd_50 rfl ?_
        refine J_iald dX7_odd_52 sa_5 ?_
        refine J_i2l dX7_odd_53 ?_
        refine J_lstoreN (i := 7) (LS := fun y18 => [some (.ref 0), some (.int a1), some (.long y7), none, some (.long y8), none, some (.int x9), some (.long y18), none, none, none, none, none]) dX7_odd_54 (fun _ => rfl) (by decide) (fun y18 => ?_)
        refine J_ldc2 (v := (10 : Int64)) dX7_odd_56 kw_RX7_202 ?_
        refine J_lload (i := 7) dX7_odd_59 rfl ?_
        refine J_lsub dX7_odd_61 ?_
        refine J_lstoreN (i := 9) (LS := fun y19 => [some (.ref 0), some (.int a1), some (.long y7), none, some (.long y8), none, some (.int x9), some (.long y18), none, some (.long y19), none, none, none]) dX7_odd_62 (fun _ => rfl) (by decide) (fun y19 => ?_)
        refine J_lload_n (i := 2) dX7_odd_64 rfl rfl ?_
        refine J_lload (i := 9) dX7_odd_65 rfl ?_
        refine J_lmul dX7_odd_67 ?_
        refine J_lload (i := 4) dX7_odd_68 rfl ?_
        refine J_lload (i := 7) dX7_odd_70 rfl ?_
        refine J_lmul dX7_odd_72 ?_
        refine J_ladd dX7_odd_73 ?_
        refine J_lstoreN (i := 11) (LS := fun y20 => [some (.ref 0), some (.int a1), some (.long y7), none, some (.long y8), none, some (.int x9), some (.long y18), none, some (.long y19), none, some (.long y20), none]) dX7_odd_74 (fun _ => rfl) (by decide) (fun y20 => ?_)
        refine J_lload (i := 4) dX7_odd_76 rfl ?_
        refine J_lload (i := 9) dX7_odd_78 rfl ?_
        refine J_lmul dX7_odd_80 ?_
        refine J_lload_n (i := 2) dX7_odd_81 rfl rfl ?_
        refine J_lload (i := 7) dX7_odd_82 rfl ?_
        refine J_lmul dX7_odd_84 ?_
        refine J_ladd dX7_odd_85 ?_
        refine J_lstoreN (i := 4) (LS := fun y21 => [some (.ref 0), some (.int a1), some (.long y7), none, some (.long y21), none, some (.int x9), some (.long y18), none, some (.long y19), none, some (.long y20), none]) dX7_odd_86 (fun _ => rfl) (by decide) (fun y21 => ?_)
        refine J_lload (i := 11) dX7_odd_88 rfl ?_
        refine J_lstore_n (i := 2) (ls2 := [some (.ref 0), some (.int a1), some (.long y20), none, some (.long y21), none, some (.int x9), some (.long y18), none, some (.long y19), none, some (.long y20), none]) dX7_odd_90 rfl rfl (by decide) ?_
        refine J_sub (l1 := [some (.ref 0), some (.int a1), some (.long y20), none, some (.long y21), none, some (.int x9), none, none, none, none, none, none]) ⟨rfl, ⟨rfl, ⟨rfl, ⟨rfl, ⟨rfl, trivial⟩⟩⟩⟩⟩ ?_
        exact hj14 y20 y21
set_option maxRecDepth 100000 in
set_option maxHeartbeats 4000000 in
theorem con_X7_odd (l : Launch) (N : Nat) (a1 : Int32) (s0 : jM) : Con l (3) yX7_odd cX7_odd 13 (Option.some Jvm.ClassFile.FieldType.int) (eIM SH) SH [.ref 0, .int a1] s0 (f_X7_odd N a1 s0) := by
  refine Con_of (ls0 := [some (.ref 0), some (.int a1), none, none, none, none, none, none, none, none, none, none, none]) (ini := false) (mc := 0) (ms := 0) (by decide +kernel) rfl (Nat.le_of_ble_eq_true rfl) (fun h => by cases h) (fun _ _ => rfl) ?_
  unfold f_X7_odd
  refine J_iload_n (i := 1) dX7_odd_0 rfl rfl ?_
  refine J_aload_n (i := 0) dX7_odd_1 rfl rfl ?_
  refine J_getR dX7_odd_2 fl_RX7_10 sh_0_0 ?_
  refine J_getI dX7_odd_5 fl_RX7_90 sh_1_4 ?_
  refine J_callSI [.int a1, .int (gI s0 1 4)] dX7_odd_8 ca_X7_isSetOf lk_RX7_128 st_X7_isSetOf rfl rfl ⟨by show _ ≤ _; simp only [rmD]; omega, by show _ ≤ _; simp only [rmD]; omega⟩ (Nat.le_of_ble_eq_true rfl) ⟨Nat.zero_le _, Nat.zero_le _⟩ (con_X7_isSetOf l _ _ _) (fun r1 _ => ?_)
  refine J_if_ne (tgt := 19) dX7_odd_11 (by decide) (fun c2 => ?_) (fun c2 => ?_)
  · refine J_lconst (v := (0 : Int64)) dX7_odd_19 (by decide) ?_
    refine J_lstore_n (i := 2) (ls2 := [some (.ref 0), some (.int a1), some (.long (0 : Int64)), none, none, none, none, none, none, none, none, none, none]) dX7_odd_20 rfl rfl (by decide) ?_
    refine J_lconst (v := (1 : Int64)) dX7_odd_21 (by decide) ?_
    refine J_lstore (i := 4) (ls2 := [some (.ref 0), some (.int a1), some (.long (0 : Int64)), none, some (.long (1 : Int64)), none, none, none, none, none, none, none, none]) dX7_odd_22 rfl (by decide) ?_
    refine J_iconst (v := (0 : Int32)) dX7_odd_24 (by decide) ?_
    refine J_istore (i := 6) (ls2 := [some (.ref 0), some (.int a1), some (.long (0 : Int64)), none, some (.long (1 : Int64)), none, some (.int (0 : Int32)), none, none, none, none, none, none]) dX7_odd_25 rfl (by decide) ?_
    refine J_join (P := fun j => ∀ (y3 : Int64) (y4 : Int64), J l RX7 cX7_odd 13 (Option.some Jvm.ClassFile.FieldType.int) false (rmD (3) 0 0) noCx (eIM SH) SH 0 0 s0 97 [some (.ref 0), none, some (.long y3), none, some (.long y4), none, none, none, none, none, none, none, none] [] (j y3 y4)) ?_ (fun k5 hk5 => ?_)
    · intro y3 y4
      refine J_aload_n (i := 0) dX7_odd_97 rfl rfl ?_
      refine J_getR dX7_odd_98 fl_RX7_70 sh_0_9 ?_
      refine J_lload_n (i := 2) dX7_odd_101 rfl rfl ?_
      refine J_lload_n (i := 2) dX7_odd_102 rfl rfl ?_
      refine J_lload (i := 4) dX7_odd_103 rfl ?_
      refine J_ladd dX7_odd_105 ?_
      refine J_callVV 50 [.long y3, .long (y3 + y4)] dX7_odd_106 ca_X2_become lk_RX7_192 vi_X2_become rc_50 rfl rfl ⟨by show _ ≤ _; simp only [rmD]; omega, by show _ ≤ _; simp only [rmD]; omega⟩ (Nat.le_of_ble_eq_true rfl) ⟨Nat.zero_le _, Nat.zero_le _⟩ (con_X2_become l N _ _ _) (fun r6 _ => ?_)
      refine J_iconst (v := (1 : Int32)) dX7_odd_109 (by decide) ?_
      exact J_ireturn dX7_odd_110 rfl rfl rfl
    refine J_sub (l1 := [some (.ref 0), some (.int a1), some (.long (0 : Int64)), none, some (.long (1 : Int64)), none, some (.int (0 : Int32)), none, none, none, none, none, none]) ⟨rfl, ⟨rfl, ⟨rfl, ⟨rfl, ⟨rfl, trivial⟩⟩⟩⟩⟩ ?_
    exact lp_X7_odd_27_ok l N  s0 a1 k5 hk5 N (0 : Int64) (1 : Int64) (0 : Int32)
  · refine J_aload_n (i := 0) dX7_odd_14 rfl rfl ?_
    refine J_callVIM 0 [] dX7_odd_15 ca_X7_refuseAsBad lk_RX7_86 vi_X7_refuseAsBad rc_0 rfl rfl ⟨by show _ ≤ _; simp only [rmD]; omega, by show _ ≤ _; simp only [rmD]; omega⟩ (Nat.le_of_ble_eq_true rfl) ⟨Nat.zero_le _, Nat.zero_le _⟩ (con_X7_refuseAsBad l _) (fun r22 _ => ?_)
    exact J_ireturn dX7_odd_18 rfl rfl rfl

def lp_X7_fewestHome_16 (N : Nat) (a0 : Int32) (x1 : Int32) (k4 : Int32 → Option Int32) : Nat → Int32 → Option Int32
  | 0, _ => none
  | q + 1, x5 => if a0 < x5 then (some (-1 : Int32)) else (jn_ (fun (_ : Unit) => lt_ (x5 + (1 : Int32)) fun x9 => lp_X7_fewestHome_16 N a0 x1 k4 q x9) fun j8 => if (x5 * x1) < a0 then (j8 ()) else (gd (decide (¬ (2 : Int32) = 0)) <| if ((a0 - x5) - (a0 - x5) / (2 : Int32) * (2 : Int32)) = 0 then (k4 x5) else (j8 ())))
def f_X7_fewestHome (N : Nat) (a0 : Int32) (a1 : Int32) : Option Int32 := jn_ (fun (x1 : Int32) => jn_ (fun (x3 : Int32) => some x3) fun k4 => lp_X7_fewestHome_16 N a0 x1 k4 N (0 : Int32)) fun j2 => gd (decide (¬ (2 : Int32) = 0)) <| if (a1 - a1 / (2 : Int32) * (2 : Int32)) = 0 then (j2 (a1 - (1 : Int32))) else (j2 a1)
set_option maxRecDepth 100000 in
set_option maxHeartbeats 4000000 in
theorem lp_X7_fewestHome_16_ok (l : Launch) (N : Nat)  (a0 : Int32) (x1 : Int32) (k4 : Int32 → Option Int32) (s0 : jM) (hk4 : ∀ (x3 : Int32), J l RX7 cX7_fewestHome 4 (Option.some Jvm.ClassFile.FieldType.int) false (rmD (1) 0 0) noCx (eI SH s0) SH 0 0 s0 36 [none, none, none, some (.int x3)] [] (k4 x3)) : ∀ (q : Nat) (x5 : Int32), J l RX7 cX7_fewestHome 4 (Option.some Jvm.ClassFile.FieldType.int) false (rmD (1) 0 0) noCx (eI SH s0) SH 0 0 s0 16 [some (.int a0), none, some (.int x1), some (.int x5)] [] (lp_X7_fewestHome_16 N a0 x1 k4 q x5) := by
  intro q
  induction q with
  | zero => intro x5; exact J_none
  | succ q hrec6 =>
    intro x5
    rw [lp_X7_fewestHome_16]
    refine J_iload_n (i := 3) dX7_fewestHome_16 rfl rfl ?_
    refine J_iload_n (i := 0) dX7_fewestHome_17 rfl rfl ?_
    refine J_icmp_gt (tgt := 44) dX7_fewestHome_18 (by decide) (fun c7 => ?_) (fun c7 => ?_)
    · refine J_iconst (v := (-1 : Int32)) dX7_fewestHome_44 (by decide) ?_
      exact J_ireturn dX7_fewestHome_45 rfl rfl rfl
    · refine J_join (P := fun j => ∀ (_ : Unit), J l RX7 cX7_fewestHome 4 (Option.some Jvm.ClassFile.FieldType.int) false (rmD (1) 0 0) noCx (eI SH s0) SH 0 0 s0 38 [some (.int a0), none, some (.int x1), some (.int x5)] [] (j ())) ?_ (fun j8 hj8 => ?_)
      · intro _
        refine J_iincN (i := 3) (v := x5 + (1 : Int32)) (LS := fun x9 => [some (.int a0), none, some (.int x1), some (.int x9)]) dX7_fewestHome_38 rfl (by first | rfl | decide) (fun _ => rfl) (by decide) (fun x9 => ?_)
        refine J_goto (tgt := 16) dX7_fewestHome_41 (by decide) ?_
        refine J_sub (l1 := [some (.int a0), none, some (.int x1), some (.int x9)]) ⟨rfl, ⟨rfl, ⟨rfl, trivial⟩⟩⟩ ?_
        exact hrec6 x9
      refine J_iload_n (i := 3) dX7_fewestHome_21 rfl rfl ?_
      refine J_iload_n (i := 2) dX7_fewestHome_22 rfl rfl ?_
      refine J_imul dX7_fewestHome_23 ?_
      refine J_iload_n (i := 0) dX7_fewestHome_24 rfl rfl ?_
      refine J_icmp_lt (tgt := 38) dX7_fewestHome_25 (by decide) (fun c10 => ?_) (fun c10 => ?_)
      · refine J_sub (l1 := [some (.int a0), none, some (.int x1), some (.int x5)]) ⟨rfl, ⟨rfl, ⟨rfl, trivial⟩⟩⟩ ?_
        exact hj8 ()
      · refine J_iload_n (i := 0) dX7_fewestHome_28 rfl rfl ?_
        refine J_iload_n (i := 3) dX7_fewestHome_29 rfl rfl ?_
        refine J_isub dX7_fewestHome_30 ?_
        refine J_iconst (v := (2 : Int32)) dX7_fewestHome_31 (by decide) ?_
        refine J_irem dX7_fewestHome_32 ?_
        refine J_if_ne (tgt := 38) dX7_fewestHome_33 (by decide) (fun c11 => ?_) (fun c11 => ?_)
        · refine J_sub (l1 := [some (.int a0), none, some (.int x1), some (.int x5)]) ⟨rfl, ⟨rfl, ⟨rfl, trivial⟩⟩⟩ ?_
          exact hj8 ()
        · refine J_sub (l1 := [none, none, none, some (.int x5)]) ⟨rfl, trivial⟩ ?_
          exact hk4 x5
set_option maxRecDepth 100000 in
set_option maxHeartbeats 4000000 in
theorem con_X7_fewestHome (l : Launch) (N : Nat) (a0 : Int32) (a1 : Int32) (s0 : jM) : Con l (1) yX7_fewestHome cX7_fewestHome 4 (Option.some Jvm.ClassFile.FieldType.int) (eI SH s0) SH [.int a0, .int a1] s0 (f_X7_fewestHome N a0 a1) := by
  refine Con_of (ls0 := [some (.int a0), some (.int a1), none, none]) (ini := false) (mc := 0) (ms := 0) (by decide +kernel) rfl (Nat.le_of_ble_eq_true rfl) (fun h => by cases h) (fun _ _ => rfl) ?_
  unfold f_X7_fewestHome
  refine J_join (P := fun j => ∀ (x1 : Int32), J l RX7 cX7_fewestHome 4 (Option.some Jvm.ClassFile.FieldType.int) false (rmD (1) 0 0) noCx (eI SH s0) SH 0 0 s0 13 [some (.int a0), none, none, none] [.int x1] (j x1)) ?_ (fun j2 hj2 => ?_)
  · intro x1
    refine J_istore_n (i := 2) (ls2 := [some (.int a0), none, some (.int x1), none]) dX7_fewestHome_13 rfl rfl (by decide) ?_
    refine J_iconst (v := (0 : Int32)) dX7_fewestHome_14 (by decide) ?_
    refine J_istore_n (i := 3) (ls2 := [some (.int a0), none, some (.int x1), some (.int (0 : Int32))]) dX7_fewestHome_15 rfl rfl (by decide) ?_
    refine J_join (P := fun j => ∀ (x3 : Int32), J l RX7 cX7_fewestHome 4 (Option.some Jvm.ClassFile.FieldType.int) false (rmD (1) 0 0) noCx (eI SH s0) SH 0 0 s0 36 [none, none, none, some (.int x3)] [] (j x3)) ?_ (fun k4 hk4 => ?_)
    · intro x3
      refine J_iload_n (i := 3) dX7_fewestHome_36 rfl rfl ?_
      exact J_ireturn dX7_fewestHome_37 rfl rfl rfl
    refine J_sub (l1 := [some (.int a0), none, some (.int x1), some (.int (0 : Int32))]) ⟨rfl, ⟨rfl, ⟨rfl, trivial⟩⟩⟩ ?_
    exact lp_X7_fewestHome_16_ok l N  a0 x1 k4 s0 hk4 N (0 : Int32)
  refine J_iload_n (i := 1) dX7_fewestHome_0 rfl rfl ?_
  refine J_iconst (v := (2 : Int32)) dX7_fewestHome_1 (by decide) ?_
  refine J_irem dX7_fewestHome_2 ?_
  refine J_if_ne (tgt := 12) dX7_fewestHome_3 (by decide) (fun c12 => ?_) (fun c12 => ?_)
  · refine J_iload_n (i := 1) dX7_fewestHome_12 rfl rfl ?_
    refine J_sub (l1 := [some (.int a0), none, none, none]) ⟨rfl, trivial⟩ ?_
    exact hj2 a1
  · refine J_iload_n (i := 1) dX7_fewestHome_6 rfl rfl ?_
    refine J_iconst (v := (1 : Int32)) dX7_fewestHome_7 (by decide) ?_
    refine J_isub dX7_fewestHome_8 ?_
    refine J_goto (tgt := 13) dX7_fewestHome_9 (by decide) ?_
    refine J_sub (l1 := [some (.int a0), none, none, none]) ⟨rfl, trivial⟩ ?_
    exact hj2 (a1 - (1 : Int32))

def lp_X7_waysHome_25 (N : Nat) (a1 : Int32) (x5 : Int32) (k10 : jM → Option (Int32 × jM)) : Nat → Int32 → jM → Option (Int32 × jM)
  | 0, _, _ => none
  | q + 1, x12, s13 => if a1 < x12 then (k10 s13) else (gd (ib x12 40) <| gd (ib (x12 - x5) 40) <| gd (ib x12 40) <| lt_ (pI s13 52 (Int32.toNatClampNeg x12) ((gI s13 52 (Int32.toNatClampNeg x12)) + (gI s13 52 (Int32.toNatClampNeg (x12 - x5))))) fun s16 => lt_ (x12 + (1 : Int32)) fun x17 => lp_X7_waysHome_25 N a1 x5 k10 q x17 s16)
def lp_X7_waysHome_17 (N : Nat) (a1 : Int32) (a2 : Int32) (k4 : jM → Option (Int32 × jM)) : Nat → Int32 → jM → Option (Int32 × jM)
  | 0, _, _ => none
  | q + 1, x5, s6 => if a2 < x5 then (k4 s6) else (jn_ (fun (s9 : jM) => lt_ (x5 + (2 : Int32)) fun x11 => lp_X7_waysHome_17 N a1 a2 k4 q x11 s9) fun k10 => lp_X7_waysHome_25 N a1 x5 k10 N x5 s6)
def f_X7_waysHome (N : Nat) (a1 : Int32) (a2 : Int32) (s0 : jM) : Option (Int32 × jM) := Option.bind (f_J7_fill_53178 N 52 40 (0 : Int32) s0) fun r1 => gd (ib (0 : Int32) 40) <| lt_ (pI r1 52 (Int32.toNatClampNeg (0 : Int32)) (1 : Int32)) fun s2 => jn_ (fun (s3 : jM) => gd (ib a1 40) <| some ((gI s3 52 (Int32.toNatClampNeg a1)), s3)) fun k4 => lp_X7_waysHome_17 N a1 a2 k4 N (1 : Int32) s2
set_option maxRecDepth 100000 in
set_option maxHeartbeats 4000000 in
theorem lp_X7_waysHome_25_ok (l : Launch) (N : Nat)  (a1 : Int32) (x5 : Int32) (k10 : jM → Option (Int32 × jM)) (a2 : Int32) (hk10 : ∀ (s9 : jM), J l RX7 cX7_waysHome 5 (Option.some Jvm.ClassFile.FieldType.int) false (rmD (2) 0 0) noCx (eIM SH) SH 0 0 s9 56 [some (.ref 0), some (.int a1), some (.int a2), some (.int x5), none] [] (k10 s9)) : ∀ (q : Nat) (x12 : Int32) (s13 : jM), J l RX7 cX7_waysHome 5 (Option.some Jvm.ClassFile.FieldType.int) false (rmD (2) 0 0) noCx (eIM SH) SH 0 0 s13 25 [some (.ref 0), some (.int a1), some (.int a2), some (.int x5), some (.int x12)] [] (lp_X7_waysHome_25 N a1 x5 k10 q x12 s13) := by
  intro q
  induction q with
  | zero => intro x12 s13; exact J_none
  | succ q hrec14 =>
    intro x12 s13
    rw [lp_X7_waysHome_25]
    refine J_iload (i := 4) dX7_waysHome_25 rfl ?_
    refine J_iload_n (i := 1) dX7_waysHome_27 rfl rfl ?_
    refine J_icmp_gt (tgt := 56) dX7_waysHome_28 (by decide) (fun c15 => ?_) (fun c15 => ?_)
    · refine J_sub (l1 := [some (.ref 0), some (.int a1), some (.int a2), some (.int x5), none]) ⟨rfl, ⟨rfl, ⟨rfl, ⟨rfl, trivial⟩⟩⟩⟩ ?_
      exact hk10 s13
    · refine J_aload_n (i := 0) dX7_waysHome_31 rfl rfl ?_
      refine J_getR dX7_waysHome_32 fl_RX7_78 sh_0_11 ?_
      refine J_iload (i := 4) dX7_waysHome_35 rfl ?_
      refine J_dup2_11 dX7_waysHome_37 rfl rfl ?_
      refine J_iald dX7_waysHome_38 sa_52 ?_
      refine J_aload_n (i := 0) dX7_waysHome_39 rfl rfl ?_
      refine J_getR dX7_waysHome_40 fl_RX7_78 sh_0_11 ?_
      refine J_iload (i := 4) dX7_waysHome_43 rfl ?_
      refine J_iload_n (i := 3) dX7_waysHome_45 rfl rfl ?_
      refine J_isub dX7_waysHome_46 ?_
      refine J_iald dX7_waysHome_47 sa_52 ?_
      refine J_iadd dX7_waysHome_48 ?_
      refine J_iast dX7_waysHome_49 sa_52 ?_
      refine J_letM rfl (fun s16 => ?_)
      refine J_iincN (i := 4) (v := x12 + (1 : Int32)) (LS := fun x17 => [some (.ref 0), some (.int a1), some (.int a2), some (.int x5), some (.int x17)]) dX7_waysHome_50 rfl (by first | rfl | decide) (fun _ => rfl) (by decide) (fun x17 => ?_)
      refine J_goto (tgt := 25) dX7_waysHome_53 (by decide) ?_
      refine J_sub (l1 := [some (.ref 0), some (.int a1), some (.int a2), some (.int x5), some (.int x17)]) ⟨rfl, ⟨rfl, ⟨rfl, ⟨rfl, ⟨rfl, trivial⟩⟩⟩⟩⟩ ?_
      exact hrec14 x17 s16
set_option maxRecDepth 100000 in
set_option maxHeartbeats 4000000 in
theorem lp_X7_waysHome_17_ok (l : Launch) (N : Nat)  (a1 : Int32) (a2 : Int32) (k4 : jM → Option (Int32 × jM)) (hk4 : ∀ (s3 : jM), J l RX7 cX7_waysHome 5 (Option.some Jvm.ClassFile.FieldType.int) false (rmD (2) 0 0) noCx (eIM SH) SH 0 0 s3 62 [some (.ref 0), some (.int a1), none, none, none] [] (k4 s3)) : ∀ (q : Nat) (x5 : Int32) (s6 : jM), J l RX7 cX7_waysHome 5 (Option.some Jvm.ClassFile.FieldType.int) false (rmD (2) 0 0) noCx (eIM SH) SH 0 0 s6 17 [some (.ref 0), some (.int a1), some (.int a2), some (.int x5), none] [] (lp_X7_waysHome_17 N a1 a2 k4 q x5 s6) := by
  intro q
  induction q with
  | zero => intro x5 s6; exact J_none
  | succ q hrec7 =>
    intro x5 s6
    rw [lp_X7_waysHome_17]
    refine J_iload_n (i := 3) dX7_waysHome_17 rfl rfl ?_
    refine J_iload_n (i := 2) dX7_waysHome_18 rfl rfl ?_
    refine J_icmp_gt (tgt := 62) dX7_waysHome_19 (by decide) (fun c8 => ?_) (fun c8 => ?_)
    · refine J_sub (l1 := [some (.ref 0), some (.int a1), none, none, none]) ⟨rfl, ⟨rfl, trivial⟩⟩ ?_
      exact hk4 s6
    · refine J_iload_n (i := 3) dX7_waysHome_22 rfl rfl ?_
      refine J_istore (i := 4) (ls2 := [some (.ref 0), some (.int a1), some (.int a2), some (.int x5), some (.int x5)]) dX7_waysHome_23 rfl (by decide) ?_
      refine J_join (P := fun j => ∀ (s9 : jM), J l RX7 cX7_waysHome 5 (Option.some Jvm.ClassFile.FieldType.int) false (rmD (2) 0 0) noCx (eIM SH) SH 0 0 s9 56 [some (.ref 0), some (.int a1), some (.int a2), some (.int x5), none] [] (j s9)) ?_ (fun k10 hk10 => ?_)
      · intro s9
        refine J_iincN (i := 3) (v := x5 + (2 : Int32)) (LS := fun x11 => [some (.ref 0), some (.int a1), some (.int a2), some (.int x11), none]) dX7_waysHome_56 rfl (by first | rfl | decide) (fun _ => rfl) (by decide) (fun x11 => ?_)
        refine J_goto (tgt := 17) dX7_waysHome_59 (by decide) ?_
        refine J_sub (l1 := [some (.ref 0), some (.int a1), some (.int a2), some (.int x11), none]) ⟨rfl, ⟨rfl, ⟨rfl, ⟨rfl, trivial⟩⟩⟩⟩ ?_
        exact hrec7 x11 s9
      refine J_sub (l1 := [some (.ref 0), some (.int a1), some (.int a2), some (.int x5), some (.int x5)]) ⟨rfl, ⟨rfl, ⟨rfl, ⟨rfl, ⟨rfl, trivial⟩⟩⟩⟩⟩ ?_
      exact lp_X7_waysHome_25_ok l N  a1 x5 k10 a2 hk10 N x5 s6
set_option maxRecDepth 100000 in
set_option maxHeartbeats 4000000 in
theorem con_X7_waysHome (l : Launch) (N : Nat) (a1 : Int32) (a2 : Int32) (s0 : jM) : Con l (2) yX7_waysHome cX7_waysHome 5 (Option.some Jvm.ClassFile.FieldType.int) (eIM SH) SH [.ref 0, .int a1, .int a2] s0 (f_X7_waysHome N a1 a2 s0) := by
  refine Con_of (ls0 := [some (.ref 0), some (.int a1), some (.int a2), none, none]) (ini := false) (mc := 0) (ms := 0) (by decide +kernel) rfl (Nat.le_of_ble_eq_true rfl) (fun h => by cases h) (fun _ _ => rfl) ?_
  unfold f_X7_waysHome
  refine J_aload_n (i := 0) dX7_waysHome_0 rfl rfl ?_
  refine J_getR dX7_waysHome_1 fl_RX7_78 sh_0_11 ?_
  refine J_iconst (v := (0 : Int32)) dX7_waysHome_4 (by decide) ?_
  refine J_callSV [.ref 52, .int (0 : Int32)] dX7_waysHome_5 ca_J7_fill_53178 lk_RX7_264 st_J7_fill_53178 rfl rfl ⟨by show _ ≤ _; simp only [rmD]; omega, by show _ ≤ _; simp only [rmD]; omega⟩ (Nat.le_of_ble_eq_true rfl) ⟨Nat.zero_le _, Nat.zero_le _⟩ (con_J7_fill_53178 l N 52 40 sa_52 _ _) (fun r1 _ => ?_)
  refine J_aload_n (i := 0) dX7_waysHome_8 rfl rfl ?_
  refine J_getR dX7_waysHome_9 fl_RX7_78 sh_0_11 ?_
  refine J_iconst (v := (0 : Int32)) dX7_waysHome_12 (by decide) ?_
  refine J_iconst (v := (1 : Int32)) dX7_waysHome_13 (by decide) ?_
  refine J_iast dX7_waysHome_14 sa_52 ?_
  refine J_letM rfl (fun s2 => ?_)
  refine J_iconst (v := (1 : Int32)) dX7_waysHome_15 (by decide) ?_
  refine J_istore_n (i := 3) (ls2 := [some (.ref 0), some (.int a1), some (.int a2), some (.int (1 : Int32)), none]) dX7_waysHome_16 rfl rfl (by decide) ?_
  refine J_join (P := fun j => ∀ (s3 : jM), J l RX7 cX7_waysHome 5 (Option.some Jvm.ClassFile.FieldType.int) false (rmD (2) 0 0) noCx (eIM SH) SH 0 0 s3 62 [some (.ref 0), some (.int a1), none, none, none] [] (j s3)) ?_ (fun k4 hk4 => ?_)
  · intro s3
    refine J_aload_n (i := 0) dX7_waysHome_62 rfl rfl ?_
    refine J_getR dX7_waysHome_63 fl_RX7_78 sh_0_11 ?_
    refine J_iload_n (i := 1) dX7_waysHome_66 rfl rfl ?_
    refine J_iald dX7_waysHome_67 sa_52 ?_
    exact J_ireturn dX7_waysHome_68 rfl rfl rfl
  refine J_sub (l1 := [some (.ref 0), some (.int a1), some (.int a2), some (.int (1 : Int32)), none]) ⟨rfl, ⟨rfl, ⟨rfl, ⟨rfl, trivial⟩⟩⟩⟩ ?_
  exact lp_X7_waysHome_17_ok l N  a1 a2 k4 hk4 N (1 : Int32) s2

def f_X7_home (N : Nat) (a1 : Int32) (a2 : Int32) (a3 : Int32) (s0 : jM) : Option (Int32 × jM) := jn_ (fun (_ : Unit) => Option.bind (f_X7_refuseAsBad s0) fun r2 => some (r2.1, r2.2)) fun j1 => Option.bind (f_X7_isWithin a1 (1 : Int32) (40 : Int32)) fun r3 => if r3 = 0 then (j1 ()) else (Option.bind (f_X7_isWithin a2 (1 : Int32) (20 : Int32)) fun r5 => if r5 = 0 then (j1 ()) else (Option.bind (f_X7_isWithin a3 (0 : Int32) (1 : Int32)) fun r7 => if r7 = 0 then (j1 ()) else (if a3 = 0 then (Option.bind (f_X7_waysHome N (a1 - (1 : Int32)) a2 s0) fun r11 => some (r11.1, r11.2)) else (Option.bind (f_X7_fewestHome N (a1 - (1 : Int32)) a2) fun r10 => some (r10, s0)))))
set_option maxRecDepth 100000 in
set_option maxHeartbeats 4000000 in
theorem con_X7_home (l : Launch) (N : Nat) (a1 : Int32) (a2 : Int32) (a3 : Int32) (s0 : jM) : Con l (3) yX7_home cX7_home 4 (Option.some Jvm.ClassFile.FieldType.int) (eIM SH) SH [.ref 0, .int a1, .int a2, .int a3] s0 (f_X7_home N a1 a2 a3 s0) := by
  refine Con_of (ls0 := [some (.ref 0), some (.int a1), some (.int a2), some (.int a3)]) (ini := false) (mc := 0) (ms := 0) (by decide +kernel) rfl (Nat.le_of_ble_eq_true rfl) (fun h => by cases h) (fun _ _ => rfl) ?_
  unfold f_X7_home
  refine J_join (P := fun j => ∀ (_ : Unit), J l RX7 cX7_home 4 (Option.some Jvm.ClassFile.FieldType.int) false (rmD (3) 0 0) noCx (eIM SH) SH 0 0 s0 29 [some (.ref 0), none, none, none] [] (j ())) ?_ (fun j1 hj1 => ?_)
  · intro _
    refine J_aload_n (i := 0) dX7_home_29 rfl rfl ?_
    refine J_callVIM 0 [] dX7_home_30 ca_X7_refuseAsBad lk_RX7_86 vi_X7_refuseAsBad rc_0 rfl rfl ⟨by show _ ≤ _; simp only [rmD]; omega, by show _ ≤ _; simp only [rmD]; omega⟩ (Nat.le_of_ble_eq_true rfl) ⟨Nat.zero_le _, Nat.zero_le _⟩ (con_X7_refuseAsBad l _) (fun r2 _ => ?_)
    exact J_ireturn dX7_home_33 rfl rfl rfl
  refine J_iload_n (i := 1) dX7_home_0 rfl rfl ?_
  refine J_iconst (v := (1 : Int32)) dX7_home_1 (by decide) ?_
  refine J_bipush (v := (40 : Int32)) dX7_home_2 (by decide) ?_
  refine J_callSI [.int a1, .int (1 : Int32), .int (40 : Int32)] dX7_home_4 ca_X7_isWithin lk_RX7_82 st_X7_isWithin rfl rfl ⟨by show _ ≤ _; simp only [rmD]; omega, by show _ ≤ _; simp only [rmD]; omega⟩ (Nat.le_of_ble_eq_true rfl) ⟨Nat.zero_le _, Nat.zero_le _⟩ (con_X7_isWithin l _ _ _ _) (fun r3 _ => ?_)
  refine J_if_eq (tgt := 29) dX7_home_7 (by decide) (fun c4 => ?_) (fun c4 => ?_)
  · refine J_sub (l1 := [some (.ref 0), none, none, none]) ⟨rfl, trivial⟩ ?_
    exact hj1 ()
  · refine J_iload_n (i := 2) dX7_home_10 rfl rfl ?_
    refine J_iconst (v := (1 : Int32)) dX7_home_11 (by decide) ?_
    refine J_bipush (v := (20 : Int32)) dX7_home_12 (by decide) ?_
    refine J_callSI [.int a2, .int (1 : Int32), .int (20 : Int32)] dX7_home_14 ca_X7_isWithin lk_RX7_82 st_X7_isWithin rfl rfl ⟨by show _ ≤ _; simp only [rmD]; omega, by show _ ≤ _; simp only [rmD]; omega⟩ (Nat.le_of_ble_eq_true rfl) ⟨Nat.zero_le _, Nat.zero_le _⟩ (con_X7_isWithin l _ _ _ _) (fun r5 _ => ?_)
    refine J_if_eq (tgt := 29) dX7_home_17 (by decide) (fun c6 => ?_) (fun c6 => ?_)
    · refine J_sub (l1 := [some (.ref 0), none, none, none]) ⟨rfl, trivial⟩ ?_
      exact hj1 ()
    · refine J_iload_n (i := 3) dX7_home_20 rfl rfl ?_
      refine J_iconst (v := (0 : Int32)) dX7_home_21 (by decide) ?_
      refine J_iconst (v := (1 : Int32)) dX7_home_22 (by decide) ?_
      refine J_callSI [.int a3, .int (0 : Int32), .int (1 : Int32)] dX7_home_23 ca_X7_isWithin lk_RX7_82 st_X7_isWithin rfl rfl ⟨by show _ ≤ _; simp only [rmD]; omega, by show _ ≤ _; simp only [rmD]; omega⟩ (Nat.le_of_ble_eq_true rfl) ⟨Nat.zero_le _, Nat.zero_le _⟩ (con_X7_isWithin l _ _ _ _) (fun r7 _ => ?_)
      refine J_if_ne (tgt := 34) dX7_home_26 (by decide) (fun c8 => ?_) (fun c8 => ?_)
      · refine J_iload_n (i := 3) dX7_home_34 rfl rfl ?_
        refine J_if_ne (tgt := 49) dX7_home_35 (by decide) (fun c9 => ?_) (fun c9 => ?_)
        · refine J_iload_n (i := 1) dX7_home_49 rfl rfl ?_
          refine J_iconst (v := (1 : Int32)) dX7_home_50 (by decide) ?_
          refine J_isub dX7_home_51 ?_
          refine J_iload_n (i := 2) dX7_home_52 rfl rfl ?_
          refine J_callSI [.int (a1 - (1 : Int32)), .int a2] dX7_home_53 ca_X7_fewestHome lk_RX7_207 st_X7_fewestHome rfl rfl ⟨by show _ ≤ _; simp only [rmD]; omega, by show _ ≤ _; simp only [rmD]; omega⟩ (Nat.le_of_ble_eq_true rfl) ⟨Nat.zero_le _, Nat.zero_le _⟩ (con_X7_fewestHome l N _ _ _) (fun r10 _ => ?_)
          exact J_ireturn dX7_home_56 rfl rfl rfl
        · refine J_aload_n (i := 0) dX7_home_38 rfl rfl ?_
          refine J_iload_n (i := 1) dX7_home_39 rfl rfl ?_
          refine J_iconst (v := (1 : Int32)) dX7_home_40 (by decide) ?_
          refine J_isub dX7_home_41 ?_
          refine J_iload_n (i := 2) dX7_home_42 rfl rfl ?_
          refine J_callVIM 0 [.int (a1 - (1 : Int32)), .int a2] dX7_home_43 ca_X7_waysHome lk_RX7_204 vi_X7_waysHome rc_0 rfl rfl ⟨by show _ ≤ _; simp only [rmD]; omega, by show _ ≤ _; simp only [rmD]; omega⟩ (Nat.le_of_ble_eq_true rfl) ⟨Nat.zero_le _, Nat.zero_le _⟩ (con_X7_waysHome l N _ _ _) (fun r11 _ => ?_)
          refine J_goto (tgt := 56) dX7_home_46 (by decide) ?_
          exact J_ireturn dX7_home_56 rfl rfl rfl
      · refine J_sub (l1 := [some (.ref 0), none, none, none]) ⟨rfl, trivial⟩ ?_
        exact hj1 ()

def f_X5_addSaid (a1 : Int32) (a2 : Int32) (a3 : Int32) (s0 : jM) : Option jM := if (8 : Int32) ≤ (gI s0 1 12) then (some s0) else (gd (ib (gI s0 1 12) 8) <| lt_ (pI s0 7 (Int32.toNatClampNeg (gI s0 1 12)) a1) fun s2 => gd (ib (gI s2 1 12) 8) <| lt_ (pI s2 8 (Int32.toNatClampNeg (gI s2 1 12)) a2) fun s3 => gd (ib (gI s3 1 12) 8) <| lt_ (pI s3 9 (Int32.toNatClampNeg (gI s3 1 12)) a3) fun s4 => lt_ (pI s4 1 12 ((gI s4 1 12) + (1 : Int32))) fun s5 => some s5)
set_option maxRecDepth 100000 in
set_option maxHeartbeats 4000000 in
theorem con_X5_addSaid (l : Launch) (a1 : Int32) (a2 : Int32) (a3 : Int32) (s0 : jM) : Con l (1) yX5_addSaid cX5_addSaid 4 (Option.none : Option Jvm.ClassFile.FieldType) (eV SH) SH [.ref 1, .int a1, .int a2, .int a3] s0 (f_X5_addSaid a1 a2 a3 s0) := by
  refine Con_of (ls0 := [some (.ref 1), some (.int a1), some (.int a2), some (.int a3)]) (ini := false) (mc := 0) (ms := 0) (by decide +kernel) rfl (Nat.le_of_ble_eq_true rfl) (fun h => by cases h) (fun _ _ => rfl) ?_
  unfold f_X5_addSaid
  refine J_aload_n (i := 0) dX5_addSaid_0 rfl rfl ?_
  refine J_getI dX5_addSaid_1 fl_RX5_50 sh_1_12 ?_
  refine J_bipush (v := (8 : Int32)) dX5_addSaid_4 (by decide) ?_
  refine J_icmp_ge (tgt := 49) dX5_addSaid_6 (by decide) (fun c1 => ?_) (fun c1 => ?_)
  · exact J_return dX5_addSaid_49 rfl rfl
  · refine J_aload_n (i := 0) dX5_addSaid_9 rfl rfl ?_
    refine J_getR dX5_addSaid_10 fl_RX5_41 sh_1_9 ?_
    refine J_aload_n (i := 0) dX5_addSaid_13 rfl rfl ?_
    refine J_getI dX5_addSaid_14 fl_RX5_50 sh_1_12 ?_
    refine J_iload_n (i := 1) dX5_addSaid_17 rfl rfl ?_
    refine J_iast dX5_addSaid_18 sa_7 ?_
    refine J_letM rfl (fun s2 => ?_)
    refine J_aload_n (i := 0) dX5_addSaid_19 rfl rfl ?_
    refine J_getR dX5_addSaid_20 fl_RX5_44 sh_1_10 ?_
    refine J_aload_n (i := 0) dX5_addSaid_23 rfl rfl ?_
    refine J_getI dX5_addSaid_24 fl_RX5_50 sh_1_12 ?_
    refine J_iload_n (i := 2) dX5_addSaid_27 rfl rfl ?_
    refine J_iast dX5_addSaid_28 sa_8 ?_
    refine J_letM rfl (fun s3 => ?_)
    refine J_aload_n (i := 0) dX5_addSaid_29 rfl rfl ?_
    refine J_getR dX5_addSaid_30 fl_RX5_47 sh_1_11 ?_
    refine J_aload_n (i := 0) dX5_addSaid_33 rfl rfl ?_
    refine J_getI dX5_addSaid_34 fl_RX5_50 sh_1_12 ?_
    refine J_iload_n (i := 3) dX5_addSaid_37 rfl rfl ?_
    refine J_iast dX5_addSaid_38 sa_9 ?_
    refine J_letM rfl (fun s4 => ?_)
    refine J_aload_n (i := 0) dX5_addSaid_39 rfl rfl ?_
    refine J_dup dX5_addSaid_40 rfl ?_
    refine J_getI dX5_addSaid_41 fl_RX5_50 sh_1_12 ?_
    refine J_iconst (v := (1 : Int32)) dX5_addSaid_44 (by decide) ?_
    refine J_iadd dX5_addSaid_45 ?_
    refine J_putI dX5_addSaid_46 fp_RX5_50 (fun h => by first | rfl | cases h) sh_1_12 rfl rfl ?_
    refine J_letM rfl (fun s5 => ?_)
    exact J_return dX5_addSaid_49 rfl rfl

def f_X7_say (a1 : Int32) (a2 : Int32) (a3 : Int32) (s0 : jM) : Option (Int32 × jM) := jn_ (fun (_ : Unit) => Option.bind (f_X7_refuseAsBad s0) fun r2 => some (r2.1, r2.2)) fun j1 => Option.bind (f_X7_isWalker a1 s0) fun r3 => if r3 = 0 then (j1 ()) else (Option.bind (f_X7_isWithin a2 (0 : Int32) (62 : Int32)) fun r5 => if r5 = 0 then (j1 ()) else (Option.bind (f_X7_isWithin a3 a2 (62 : Int32)) fun r7 => if r7 = 0 then (j1 ()) else (if (gI s0 1 12) < (8 : Int32) then (lt_ (gI s0 1 12) fun x10 => Option.bind (f_X5_addSaid a1 a2 a3 s0) fun r11 => some (x10, r11)) else (Option.bind (f_X7_refuseAsFull s0) fun r12 => some (r12.1, r12.2)))))
set_option maxRecDepth 100000 in
set_option maxHeartbeats 4000000 in
theorem con_X7_say (l : Launch) (a1 : Int32) (a2 : Int32) (a3 : Int32) (s0 : jM) : Con l (2) yX7_say cX7_say 5 (Option.some Jvm.ClassFile.FieldType.int) (eIM SH) SH [.ref 0, .int a1, .int a2, .int a3] s0 (f_X7_say a1 a2 a3 s0) := by
  refine Con_of (ls0 := [some (.ref 0), some (.int a1), some (.int a2), some (.int a3), none]) (ini := false) (mc := 0) (ms := 0) (by decide +kernel) rfl (Nat.le_of_ble_eq_true rfl) (fun h => by cases h) (fun _ _ => rfl) ?_
  unfold f_X7_say
  refine J_join (P := fun j => ∀ (_ : Unit), J l RX7 cX7_say 5 (Option.some Jvm.ClassFile.FieldType.int) false (rmD (2) 0 0) noCx (eIM SH) SH 0 0 s0 28 [some (.ref 0), none, none, none, none] [] (j ())) ?_ (fun j1 hj1 => ?_)
  · intro _
    refine J_aload_n (i := 0) dX7_say_28 rfl rfl ?_
    refine J_callVIM 0 [] dX7_say_29 ca_X7_refuseAsBad lk_RX7_86 vi_X7_refuseAsBad rc_0 rfl rfl ⟨by show _ ≤ _; simp only [rmD]; omega, by show _ ≤ _; simp only [rmD]; omega⟩ (Nat.le_of_ble_eq_true rfl) ⟨Nat.zero_le _, Nat.zero_le _⟩ (con_X7_refuseAsBad l _) (fun r2 _ => ?_)
    exact J_ireturn dX7_say_32 rfl rfl rfl
  refine J_aload_n (i := 0) dX7_say_0 rfl rfl ?_
  refine J_iload_n (i := 1) dX7_say_1 rfl rfl ?_
  refine J_callVI 0 [.int a1] dX7_say_2 ca_X7_isWalker lk_RX7_145 vi_X7_isWalker rc_0 rfl rfl ⟨by show _ ≤ _; simp only [rmD]; omega, by show _ ≤ _; simp only [rmD]; omega⟩ (Nat.le_of_ble_eq_true rfl) ⟨Nat.zero_le _, Nat.zero_le _⟩ (con_X7_isWalker l _ _) (fun r3 _ => ?_)
  refine J_if_eq (tgt := 28) dX7_say_5 (by decide) (fun c4 => ?_) (fun c4 => ?_)
  · refine J_sub (l1 := [some (.ref 0), none, none, none, none]) ⟨rfl, trivial⟩ ?_
    exact hj1 ()
  · refine J_iload_n (i := 2) dX7_say_8 rfl rfl ?_
    refine J_iconst (v := (0 : Int32)) dX7_say_9 (by decide) ?_
    refine J_bipush (v := (62 : Int32)) dX7_say_10 (by decide) ?_
    refine J_callSI [.int a2, .int (0 : Int32), .int (62 : Int32)] dX7_say_12 ca_X7_isWithin lk_RX7_82 st_X7_isWithin rfl rfl ⟨by show _ ≤ _; simp only [rmD]; omega, by show _ ≤ _; simp only [rmD]; omega⟩ (Nat.le_of_ble_eq_true rfl) ⟨Nat.zero_le _, Nat.zero_le _⟩ (con_X7_isWithin l _ _ _ _) (fun r5 _ => ?_)
    refine J_if_eq (tgt := 28) dX7_say_15 (by decide) (fun c6 => ?_) (fun c6 => ?_)
    · refine J_sub (l1 := [some (.ref 0), none, none, none, none]) ⟨rfl, trivial⟩ ?_
      exact hj1 ()
    · refine J_iload_n (i := 3) dX7_say_18 rfl rfl ?_
      refine J_iload_n (i := 2) dX7_say_19 rfl rfl ?_
      refine J_bipush (v := (62 : Int32)) dX7_say_20 (by decide) ?_
      refine J_callSI [.int a3, .int a2, .int (62 : Int32)] dX7_say_22 ca_X7_isWithin lk_RX7_82 st_X7_isWithin rfl rfl ⟨by show _ ≤ _; simp only [rmD]; omega, by show _ ≤ _; simp only [rmD]; omega⟩ (Nat.le_of_ble_eq_true rfl) ⟨Nat.zero_le _, Nat.zero_le _⟩ (con_X7_isWithin l _ _ _ _) (fun r7 _ => ?_)
      refine J_if_ne (tgt := 33) dX7_say_25 (by decide) (fun c8 => ?_) (fun c8 => ?_)
      · refine J_aload_n (i := 0) dX7_say_33 rfl rfl ?_
        refine J_getR dX7_say_34 fl_RX7_10 sh_0_0 ?_
        refine J_getI dX7_say_37 fl_RX7_210 sh_1_12 ?_
        refine J_bipush (v := (8 : Int32)) dX7_say_40 (by decide) ?_
        refine J_icmp_lt (tgt := 50) dX7_say_42 (by decide) (fun c9 => ?_) (fun c9 => ?_)
        · refine J_aload_n (i := 0) dX7_say_50 rfl rfl ?_
          refine J_getR dX7_say_51 fl_RX7_10 sh_0_0 ?_
          refine J_getI dX7_say_54 fl_RX7_210 sh_1_12 ?_
          refine J_istoreN (i := 4) (LS := fun x10 => [some (.ref 0), some (.int a1), some (.int a2), some (.int a3), some (.int x10)]) dX7_say_57 (fun _ => rfl) (by decide) (fun x10 => ?_)
          refine J_aload_n (i := 0) dX7_say_59 rfl rfl ?_
          refine J_getR dX7_say_60 fl_RX7_10 sh_0_0 ?_
          refine J_iload_n (i := 1) dX7_say_63 rfl rfl ?_
          refine J_iload_n (i := 2) dX7_say_64 rfl rfl ?_
          refine J_iload_n (i := 3) dX7_say_65 rfl rfl ?_
          refine J_callVV 1 [.int a1, .int a2, .int a3] dX7_say_66 ca_X5_addSaid lk_RX7_213 vi_X5_addSaid rc_1 rfl rfl ⟨by show _ ≤ _; simp only [rmD]; omega, by show _ ≤ _; simp only [rmD]; omega⟩ (Nat.le_of_ble_eq_true rfl) ⟨Nat.zero_le _, Nat.zero_le _⟩ (con_X5_addSaid l _ _ _ _) (fun r11 _ => ?_)
          refine J_iload (i := 4) dX7_say_69 rfl ?_
          exact J_ireturn dX7_say_71 rfl rfl rfl
        · refine J_aload_n (i := 0) dX7_say_45 rfl rfl ?_
          refine J_callVIM 0 [] dX7_say_46 ca_X7_refuseAsFull lk_RX7_94 vi_X7_refuseAsFull rc_0 rfl rfl ⟨by show _ ≤ _; simp only [rmD]; omega, by show _ ≤ _; simp only [rmD]; omega⟩ (Nat.le_of_ble_eq_true rfl) ⟨Nat.zero_le _, Nat.zero_le _⟩ (con_X7_refuseAsFull l _) (fun r12 _ => ?_)
          exact J_ireturn dX7_say_49 rfl rfl rfl
      · refine J_sub (l1 := [some (.ref 0), none, none, none, none]) ⟨rfl, trivial⟩ ?_
        exact hj1 ()

def f_X7_hush  (s0 : jM) : Option (Int32 × jM) := lt_ (gI s0 1 12) fun x1 => lt_ (pI s0 1 12 (0 : Int32)) fun s2 => some (x1, s2)
set_option maxRecDepth 100000 in
set_option maxHeartbeats 4000000 in
theorem con_X7_hush (l : Launch) (s0 : jM) : Con l (1) yX7_hush cX7_hush 2 (Option.some Jvm.ClassFile.FieldType.int) (eIM SH) SH [.ref 0] s0 (f_X7_hush s0) := by
  refine Con_of (ls0 := [some (.ref 0), none]) (ini := false) (mc := 0) (ms := 0) (by decide +kernel) rfl (Nat.le_of_ble_eq_true rfl) (fun h => by cases h) (fun _ _ => rfl) ?_
  unfold f_X7_hush
  refine J_aload_n (i := 0) dX7_hush_0 rfl rfl ?_
  refine J_getR dX7_hush_1 fl_RX7_10 sh_0_0 ?_
  refine J_getI dX7_hush_4 fl_RX7_210 sh_1_12 ?_
  refine J_istore_nN (i := 1) (LS := fun x1 => [some (.ref 0), some (.int x1)]) dX7_hush_7 rfl (fun _ => rfl) (by decide) (fun x1 => ?_)
  refine J_aload_n (i := 0) dX7_hush_8 rfl rfl ?_
  refine J_getR dX7_hush_9 fl_RX7_10 sh_0_0 ?_
  refine J_iconst (v := (0 : Int32)) dX7_hush_12 (by decide) ?_
  refine J_putI dX7_hush_13 fp_RX7_210 (fun h => by first | rfl | cases h) sh_1_12 rfl rfl ?_
  refine J_letM rfl (fun s2 => ?_)
  refine J_iload_n (i := 1) dX7_hush_16 rfl rfl ?_
  exact J_ireturn dX7_hush_17 rfl rfl rfl

def lp_X3_onBut_5 (N : Nat) (s0 : jM) (a1 : Int32) (a2 : Int32) (k2 : Int32 → Option Int32) : Nat → Int32 → Int32 → Option Int32
  | 0, _, _ => none
  | q + 1, x3, x4 => if (gI s0 1 12) ≤ x4 then (k2 x3) else (if (8 : Int32) ≤ x4 then (k2 x3) else (jn_ (fun (x8 : Int32) => lt_ (x4 + (1 : Int32)) fun x10 => lp_X3_onBut_5 N s0 a1 a2 k2 q x8 x10) fun j9 => Option.bind (f_X7_holds a1 x4) fun r11 => if r11 = 0 then (gd (ib x4 8) <| if a2 < (gI s0 8 (Int32.toNatClampNeg x4)) then (j9 x3) else (gd (ib x4 8) <| if (gI s0 9 (Int32.toNatClampNeg x4)) < a2 then (j9 x3) else (gd (ib x4 8) <| lt_ (x3 ||| ((1 : Int32) <<< ((gI s0 7 (Int32.toNatClampNeg x4)) &&& 31))) fun x15 => j9 x15))) else (j9 x3)))
def f_X3_onBut (N : Nat) (a1 : Int32) (a2 : Int32) (s0 : jM) : Option Int32 := jn_ (fun (x1 : Int32) => some x1) fun k2 => lp_X3_onBut_5 N s0 a1 a2 k2 N (0 : Int32) (0 : Int32)
set_option maxRecDepth 100000 in
set_option maxHeartbeats 4000000 in
theorem lp_X3_onBut_5_ok (l : Launch) (N : Nat)  (s0 : jM) (a1 : Int32) (a2 : Int32) (k2 : Int32 → Option Int32) (hk2 : ∀ (x1 : Int32), J l RX3 cX3_onBut 5 (Option.some Jvm.ClassFile.FieldType.int) false (rmD (2) 0 0) noCx (eI SH s0) SH 0 0 s0 82 [none, none, none, some (.int x1), none] [] (k2 x1)) : ∀ (q : Nat) (x3 : Int32) (x4 : Int32), J l RX3 cX3_onBut 5 (Option.some Jvm.ClassFile.FieldType.int) false (rmD (2) 0 0) noCx (eI SH s0) SH 0 0 s0 5 [some (.ref 49), some (.int a1), some (.int a2), some (.int x3), some (.int x4)] [] (lp_X3_onBut_5 N s0 a1 a2 k2 q x3 x4) := by
  intro q
  induction q with
  | zero => intro x3 x4; exact J_none
  | succ q hrec5 =>
    intro x3 x4
    rw [lp_X3_onBut_5]
    refine J_iload (i := 4) dX3_onBut_5 rfl ?_
    refine J_aload_n (i := 0) dX3_onBut_7 rfl rfl ?_
    refine J_getR dX3_onBut_8 fl_RX3_9 sh_49_0 ?_
    refine J_getI dX3_onBut_11 fl_RX3_19 sh_1_12 ?_
    refine J_icmp_ge (tgt := 82) dX3_onBut_14 (by decide) (fun c6 => ?_) (fun c6 => ?_)
    · refine J_sub (l1 := [none, none, none, some (.int x3), none]) ⟨rfl, trivial⟩ ?_
      exact hk2 x3
    · refine J_iload (i := 4) dX3_onBut_17 rfl ?_
      refine J_bipush (v := (8 : Int32)) dX3_onBut_19 (by decide) ?_
      refine J_icmp_ge (tgt := 82) dX3_onBut_21 (by decide) (fun c7 => ?_) (fun c7 => ?_)
      · refine J_sub (l1 := [none, none, none, some (.int x3), none]) ⟨rfl, trivial⟩ ?_
        exact hk2 x3
      · refine J_join (P := fun j => ∀ (x8 : Int32), J l RX3 cX3_onBut 5 (Option.some Jvm.ClassFile.FieldType.int) false (rmD (2) 0 0) noCx (eI SH s0) SH 0 0 s0 76 [some (.ref 49), some (.int a1), some (.int a2), some (.int x8), some (.int x4)] [] (j x8)) ?_ (fun j9 hj9 => ?_)
        · intro x8
          refine J_iincN (i := 4) (v := x4 + (1 : Int32)) (LS := fun x10 => [some (.ref 49), some (.int a1), some (.int a2), some (.int x8), some (.int x10)]) dX3_onBut_76 rfl (by first | rfl | decide) (fun _ => rfl) (by decide) (fun x10 => ?_)
          refine J_goto (tgt := 5) dX3_onBut_79 (by decide) ?_
          refine J_sub (l1 := [some (.ref 49), some (.int a1), some (.int a2), some (.int x8), some (.int x10)]) ⟨rfl, ⟨rfl, ⟨rfl, ⟨rfl, ⟨rfl, trivial⟩⟩⟩⟩⟩ ?_
          exact hrec5 x8 x10
        refine J_iload_n (i := 1) dX3_onBut_24 rfl rfl ?_
        refine J_iload (i := 4) dX3_onBut_25 rfl ?_
        refine J_callSI [.int a1, .int x4] dX3_onBut_27 ca_X7_holds lk_RX3_25 st_X7_holds rfl rfl ⟨by show _ ≤ _; simp only [rmD]; omega, by show _ ≤ _; simp only [rmD]; omega⟩ (Nat.le_of_ble_eq_true rfl) ⟨Nat.zero_le _, Nat.zero_le _⟩ (con_X7_holds l _ _ _) (fun r11 _ => ?_)
        refine J_if_ne (tgt := 76) dX3_onBut_30 (by decide) (fun c12 => ?_) (fun c12 => ?_)
        · refine J_sub (l1 := [some (.ref 49), some (.int a1), some (.int a2), some (.int x3), some (.int x4)]) ⟨rfl, ⟨rfl, ⟨rfl, ⟨rfl, ⟨rfl, trivial⟩⟩⟩⟩⟩ ?_
          exact hj9 x3
        · refine J_aload_n (i := 0) dX3_onBut_33 rfl rfl ?_
          refine J_getR dX3_onBut_34 fl_RX3_9 sh_49_0 ?_
          refine J_getR dX3_onBut_37 fl_RX3_29 sh_1_10 ?_
          refine J_iload (i := 4) dX3_onBut_40 rfl ?_
          refine J_iald dX3_onBut_42 sa_8 ?_
          refine J_iload_n (i := 2) dX3_onBut_43 rfl rfl ?_
          refine J_icmp_gt (tgt := 76) dX3_onBut_44 (by decide) (fun c13 => ?_) (fun c13 => ?_)
          · refine J_sub (l1 := [some (.ref 49), some (.int a1), some (.int a2), some (.int x3), some (.int x4)]) ⟨rfl, ⟨rfl, ⟨rfl, ⟨rfl, ⟨rfl, trivial⟩⟩⟩⟩⟩ ?_
            exact hj9 x3
          · refine J_iload_n (i := 2) dX3_onBut_47 rfl rfl ?_
            refine J_aload_n (i := 0) dX3_onBut_48 rfl rfl ?_
            refine J_getR dX3_onBut_49 fl_RX3_9 sh_49_0 ?_
            refine J_getR dX3_onBut_52 fl_RX3_33 sh_1_11 ?_
            refine J_iload (i := 4) dX3_onBut_55 rfl ?_
            refine J_iald dX3_onBut_57 sa_9 ?_
            refine J_icmp_gt (tgt := 76) dX3_onBut_58 (by decide) (fun c14 => ?_) (fun c14 => ?_)
            · refine J_sub (l1 := [some (.ref 49), some (.int a1), some (.int a2), some (.int x3), some (.int x4)]) ⟨rfl, ⟨rfl, ⟨rfl, ⟨rfl, ⟨rfl, trivial⟩⟩⟩⟩⟩ ?_
              exact hj9 x3
            · refine J_iload_n (i := 3) dX3_onBut_61 rfl rfl ?_
              refine J_iconst (v := (1 : Int32)) dX3_onBut_62 (by decide) ?_
              refine J_aload_n (i := 0) dX3_onBut_63 rfl rfl ?_
              refine J_getR dX3_onBut_64 fl_RX3_9 sh_49_0 ?_
              refine J_getR dX3_onBut_67 fl_RX3_36 sh_1_9 ?_
              refine J_iload (i := 4) dX3_onBut_70 rfl ?_
              refine J_iald dX3_onBut_72 sa_7 ?_
              refine J_ishl dX3_onBut_73 ?_
              refine J_ior dX3_onBut_74 ?_
              refine J_istore_nN (i := 3) (LS := fun x15 => [some (.ref 49), some (.int a1), some (.int a2), some (.int x15), some (.int x4)]) dX3_onBut_75 rfl (fun _ => rfl) (by decide) (fun x15 => ?_)
              refine J_sub (l1 := [some (.ref 49), some (.int a1), some (.int a2), some (.int x15), some (.int x4)]) ⟨rfl, ⟨rfl, ⟨rfl, ⟨rfl, ⟨rfl, trivial⟩⟩⟩⟩⟩ ?_
              exact hj9 x15
set_option maxRecDepth 100000 in
set_option maxHeartbeats 4000000 in
theorem con_X3_onBut (l : Launch) (N : Nat) (a1 : Int32) (a2 : Int32) (s0 : jM) : Con l (2) yX3_onBut cX3_onBut 5 (Option.some Jvm.ClassFile.FieldType.int) (eI SH s0) SH [.ref 49, .int a1, .int a2] s0 (f_X3_onBut N a1 a2 s0) := by
  refine Con_of (ls0 := [some (.ref 49), some (.int a1), some (.int a2), none, none]) (ini := false) (mc := 0) (ms := 0) (by decide +kernel) rfl (Nat.le_of_ble_eq_true rfl) (fun h => by cases h) (fun _ _ => rfl) ?_
  unfold f_X3_onBut
  refine J_iconst (v := (0 : Int32)) dX3_onBut_0 (by decide) ?_
  refine J_istore_n (i := 3) (ls2 := [some (.ref 49), some (.int a1), some (.int a2), some (.int (0 : Int32)), none]) dX3_onBut_1 rfl rfl (by decide) ?_
  refine J_iconst (v := (0 : Int32)) dX3_onBut_2 (by decide) ?_
  refine J_istore (i := 4) (ls2 := [some (.ref 49), some (.int a1), some (.int a2), some (.int (0 : Int32)), some (.int (0 : Int32))]) dX3_onBut_3 rfl (by decide) ?_
  refine J_join (P := fun j => ∀ (x1 : Int32), J l RX3 cX3_onBut 5 (Option.some Jvm.ClassFile.FieldType.int) false (rmD (2) 0 0) noCx (eI SH s0) SH 0 0 s0 82 [none, none, none, some (.int x1), none] [] (j x1)) ?_ (fun k2 hk2 => ?_)
  · intro x1
    refine J_iload_n (i := 3) dX3_onBut_82 rfl rfl ?_
    exact J_ireturn dX3_onBut_83 rfl rfl rfl
  refine J_sub (l1 := [some (.ref 49), some (.int a1), some (.int a2), some (.int (0 : Int32)), some (.int (0 : Int32))]) ⟨rfl, ⟨rfl, ⟨rfl, ⟨rfl, ⟨rfl, trivial⟩⟩⟩⟩⟩ ?_
  exact lp_X3_onBut_5_ok l N  s0 a1 a2 k2 hk2 N (0 : Int32) (0 : Int32)

def lp_X3_minutesUnwell_5 (N : Nat) (a1 : Int32) (k3 : Int64 → jM → Option (Int64 × jM)) : Nat → Int64 → Int32 → jM → Option (Int64 × jM)
  | 0, _, _, _ => none
  | q + 1, y4, x5, s6 => if (63 : Int32) ≤ x5 then (k3 y4 s6) else (jn_ (fun (y9 : Int64) (s10 : jM) => lt_ (x5 + (1 : Int32)) fun x12 => lp_X3_minutesUnwell_5 N a1 k3 q y9 x12 s10) fun j11 => Option.bind (f_X3_onBut N a1 x5 s6) fun r13 => Option.bind (f_X4_isWell N r13 x5 s6) fun r14 => if r14.1 = 0 then (lt_ (y4 ||| ((1 : Int64) <<< (Int32.toInt64 x5 &&& 63))) fun y16 => j11 y16 r14.2) else (j11 y4 r14.2))
def f_X3_minutesUnwell (N : Nat) (a1 : Int32) (s0 : jM) : Option (Int64 × jM) := jn_ (fun (y1 : Int64) (s2 : jM) => some (y1, s2)) fun k3 => lp_X3_minutesUnwell_5 N a1 k3 N (0 : Int64) (0 : Int32) s0
set_option maxRecDepth 100000 in
set_option maxHeartbeats 4000000 in
theorem lp_X3_minutesUnwell_5_ok (l : Launch) (N : Nat)  (a1 : Int32) (k3 : Int64 → jM → Option (Int64 × jM)) (hk3 : ∀ (y1 : Int64) (s2 : jM), J l RX3 cX3_minutesUnwell 5 (Option.some Jvm.ClassFile.FieldType.long) false (rmD (8) 0 0) noCx (eLM SH) SH 0 0 s2 44 [none, none, some (.long y1), none, none] [] (k3 y1 s2)) : ∀ (q : Nat) (y4 : Int64) (x5 : Int32) (s6 : jM), J l RX3 cX3_minutesUnwell 5 (Option.some Jvm.ClassFile.FieldType.long) false (rmD (8) 0 0) noCx (eLM SH) SH 0 0 s6 5 [some (.ref 49), some (.int a1), some (.long y4), none, some (.int x5)] [] (lp_X3_minutesUnwell_5 N a1 k3 q y4 x5 s6) := by
  intro q
  induction q with
  | zero => intro y4 x5 s6; exact J_none
  | succ q hrec7 =>
    intro y4 x5 s6
    rw [lp_X3_minutesUnwell_5]
    refine J_iload (i := 4) dX3_minutesUnwell_5 rfl ?_
    refine J_bipush (v := (63 : Int32)) dX3_minutesUnwell_7 (by decide) ?_
    refine J_icmp_ge (tgt := 44) dX3_minutesUnwell_9 (by decide) (fun c8 => ?_) (fun c8 => ?_)
    · refine J_sub (l1 := [none, none, some (.long y4), none, none]) ⟨rfl, trivial⟩ ?_
      exact hk3 y4 s6
    · refine J_join (P := fun j => ∀ (y9 : Int64) (s10 : jM), J l RX3 cX3_minutesUnwell 5 (Option.some Jvm.ClassFile.FieldType.long) false (rmD (8) 0 0) noCx (eLM SH) SH 0 0 s10 38 [some (.ref 49), some (.int a1), some (.long y9), none, some (.int x5)] [] (j y9 s10)) ?_ (fun j11 hj11 => ?_)
      · intro y9 s10
        refine J_iincN (i := 4) (v := x5 + (1 : Int32)) (LS := fun x12 => [some (.ref 49), some (.int a1), some (.long y9), none, some (.int x12)]) dX3_minutesUnwell_38 rfl (by first | rfl | decide) (fun _ => rfl) (by decide) (fun x12 => ?_)
        refine J_goto (tgt := 5) dX3_minutesUnwell_41 (by decide) ?_
        refine J_sub (l1 := [some (.ref 49), some (.int a1), some (.long y9), none, some (.int x12)]) ⟨rfl, ⟨rfl, ⟨rfl, ⟨rfl, trivial⟩⟩⟩⟩ ?_
        exact hrec7 y9 x12 s10
      refine J_aload_n (i := 0) dX3_minutesUnwell_12 rfl rfl ?_
      refine J_getR dX3_minutesUnwell_13 fl_RX3_15 sh_49_1 ?_
      refine J_aload_n (i := 0) dX3_minutesUnwell_16 rfl rfl ?_
      refine J_iload_n (i := 1) dX3_minutesUnwell_17 rfl rfl ?_
      refine J_iload (i := 4) dX3_minutesUnwell_18 rfl ?_
      refine J_callVI 49 [.int a1, .int x5] dX3_minutesUnwell_20 ca_X3_onBut lk_RX3_39 vi_X3_onBut rc_49 rfl rfl ⟨by show _ ≤ _; simp only [rmD]; omega, by show _ ≤ _; simp only [rmD]; omega⟩ (Nat.le_of_ble_eq_true rfl) ⟨Nat.zero_le _, Nat.zero_le _⟩ (con_X3_onBut l N _ _ _) (fun r13 _ => ?_)
      refine J_iload (i := 4) dX3_minutesUnwell_23 rfl ?_
      refine J_callVIM 33 [.int r13, .int x5] dX3_minutesUnwell_25 ca_X4_isWell lk_RX3_43 vi_X4_isWell rc_33 rfl rfl ⟨by show _ ≤ _; simp only [rmD]; omega, by show _ ≤ _; simp only [rmD]; omega⟩ (Nat.le_of_ble_eq_true rfl) ⟨Nat.zero_le _, Nat.zero_le _⟩ (con_X4_isWell l N _ _ _) (fun r14 _ => ?_)
      refine J_if_ne (tgt := 38) dX3_minutesUnwell_28 (by decide) (fun c15 => ?_) (fun c15 => ?_)
      · refine J_sub (l1 := [some (.ref 49), some (.int a1), some (.long y4), none, some (.int x5)]) ⟨rfl, ⟨rfl, ⟨rfl, ⟨rfl, trivial⟩⟩⟩⟩ ?_
        exact hj11 y4 r14.2
      · refine J_lload_n (i := 2) dX3_minutesUnwell_31 rfl rfl ?_
        refine J_lconst (v := (1 : Int64)) dX3_minutesUnwell_32 (by decide) ?_
        refine J_iload (i := 4) dX3_minutesUnwell_33 rfl ?_
        refine J_lshl dX3_minutesUnwell_35 ?_
        refine J_lor dX3_minutesUnwell_36 ?_
        refine J_lstore_nN (i := 2) (LS := fun y16 => [some (.ref 49), some (.int a1), some (.long y16), none, some (.int x5)]) dX3_minutesUnwell_37 rfl (fun _ => rfl) (by decide) (fun y16 => ?_)
        refine J_sub (l1 := [some (.ref 49), some (.int a1), some (.long y16), none, some (.int x5)]) ⟨rfl, ⟨rfl, ⟨rfl, ⟨rfl, trivial⟩⟩⟩⟩ ?_
        exact hj11 y16 r14.2
set_option maxRecDepth 100000 in
set_option maxHeartbeats 4000000 in
theorem con_X3_minutesUnwell (l : Launch) (N : Nat) (a1 : Int32) (s0 : jM) : Con l (8) yX3_minutesUnwell cX3_minutesUnwell 5 (Option.some Jvm.ClassFile.FieldType.long) (eLM SH) SH [.ref 49, .int a1] s0 (f_X3_minutesUnwell N a1 s0) := by
  refine Con_of (ls0 := [some (.ref 49), some (.int a1), none, none, none]) (ini := false) (mc := 0) (ms := 0) (by decide +kernel) rfl (Nat.le_of_ble_eq_true rfl) (fun h => by cases h) (fun _ _ => rfl) ?_
  unfold f_X3_minutesUnwell
  refine J_lconst (v := (0 : Int64)) dX3_minutesUnwell_0 (by decide) ?_
  refine J_lstore_n (i := 2) (ls2 := [some (.ref 49), some (.int a1), some (.long (0 : Int64)), none, none]) dX3_minutesUnwell_1 rfl rfl (by decide) ?_
  refine J_iconst (v := (0 : Int32)) dX3_minutesUnwell_2 (by decide) ?_
  refine J_istore (i := 4) (ls2 := [some (.ref 49), some (.int a1), some (.long (0 : Int64)), none, some (.int (0 : Int32))]) dX3_minutesUnwell_3 rfl (by decide) ?_
  refine J_join (P := fun j => ∀ (y1 : Int64) (s2 : jM), J l RX3 cX3_minutesUnwell 5 (Option.some Jvm.ClassFile.FieldType.long) false (rmD (8) 0 0) noCx (eLM SH) SH 0 0 s2 44 [none, none, some (.long y1), none, none] [] (j y1 s2)) ?_ (fun k3 hk3 => ?_)
  · intro y1 s2
    refine J_lload_n (i := 2) dX3_minutesUnwell_44 rfl rfl ?_
    exact J_lreturn dX3_minutesUnwell_45 rfl rfl
  refine J_sub (l1 := [some (.ref 49), some (.int a1), some (.long (0 : Int64)), none, some (.int (0 : Int32))]) ⟨rfl, ⟨rfl, ⟨rfl, ⟨rfl, trivial⟩⟩⟩⟩ ?_
  exact lp_X3_minutesUnwell_5_ok l N  a1 k3 hk3 N (0 : Int64) (0 : Int32) s0

def f_X7_dispute (N : Nat) (a1 : Int32) (s0 : jM) : Option (Int64 × jM) := Option.bind (f_X7_isSetOf a1 (gI s0 1 12)) fun r1 => if r1 = 0 then (Option.bind (f_X7_refuseAsBad s0) fun r4 => some ((Int32.toInt64 r4.1), r4.2)) else (Option.bind (f_X3_minutesUnwell N a1 s0) fun r3 => some (r3.1, r3.2))
set_option maxRecDepth 100000 in
set_option maxHeartbeats 4000000 in
theorem con_X7_dispute (l : Launch) (N : Nat) (a1 : Int32) (s0 : jM) : Con l (9) yX7_dispute cX7_dispute 2 (Option.some Jvm.ClassFile.FieldType.long) (eLM SH) SH [.ref 0, .int a1] s0 (f_X7_dispute N a1 s0) := by
  refine Con_of (ls0 := [some (.ref 0), some (.int a1)]) (ini := false) (mc := 0) (ms := 0) (by decide +kernel) rfl (Nat.le_of_ble_eq_true rfl) (fun h => by cases h) (fun _ _ => rfl) ?_
  unfold f_X7_dispute
  refine J_iload_n (i := 1) dX7_dispute_0 rfl rfl ?_
  refine J_aload_n (i := 0) dX7_dispute_1 rfl rfl ?_
  refine J_getR dX7_dispute_2 fl_RX7_10 sh_0_0 ?_
  refine J_getI dX7_dispute_5 fl_RX7_210 sh_1_12 ?_
  refine J_callSI [.int a1, .int (gI s0 1 12)] dX7_dispute_8 ca_X7_isSetOf lk_RX7_128 st_X7_isSetOf rfl rfl ⟨by show _ ≤ _; simp only [rmD]; omega, by show _ ≤ _; simp only [rmD]; omega⟩ (Nat.le_of_ble_eq_true rfl) ⟨Nat.zero_le _, Nat.zero_le _⟩ (con_X7_isSetOf l _ _ _) (fun r1 _ => ?_)
  refine J_if_ne (tgt := 20) dX7_dispute_11 (by decide) (fun c2 => ?_) (fun c2 => ?_)
  · refine J_aload_n (i := 0) dX7_dispute_20 rfl rfl ?_
    refine J_getR dX7_dispute_21 fl_RX7_63 sh_0_8 ?_
    refine J_iload_n (i := 1) dX7_dispute_24 rfl rfl ?_
    refine J_callVLM 49 [.int a1] dX7_dispute_25 ca_X3_minutesUnwell lk_RX7_216 vi_X3_minutesUnwell rc_49 rfl rfl ⟨by show _ ≤ _; simp only [rmD]; omega, by show _ ≤ _; simp only [rmD]; omega⟩ (Nat.le_of_ble_eq_true rfl) ⟨Nat.zero_le _, Nat.zero_le _⟩ (con_X3_minutesUnwell l N _ _) (fun r3 _ => ?_)
    exact J_lreturn dX7_dispute_28 rfl rfl
  · refine J_aload_n (i := 0) dX7_dispute_14 rfl rfl ?_
    refine J_callVIM 0 [] dX7_dispute_15 ca_X7_refuseAsBad lk_RX7_86 vi_X7_refuseAsBad rc_0 rfl rfl ⟨by show _ ≤ _; simp only [rmD]; omega, by show _ ≤ _; simp only [rmD]; omega⟩ (Nat.le_of_ble_eq_true rfl) ⟨Nat.zero_le _, Nat.zero_le _⟩ (con_X7_refuseAsBad l _) (fun r4 _ => ?_)
    refine J_i2l dX7_dispute_18 ?_
    exact J_lreturn dX7_dispute_19 rfl rfl

def lp_X3_allWellBut_2 (N : Nat) (a1 : Int32) : Nat → Int32 → jM → Option (Int32 × jM)
  | 0, _, _ => none
  | q + 1, x1, s2 => if (63 : Int32) ≤ x1 then (some ((1 : Int32), s2)) else (Option.bind (f_X3_onBut N a1 x1 s2) fun r5 => Option.bind (f_X4_isWell N r5 x1 s2) fun r6 => if r6.1 = 0 then (some ((0 : Int32), r6.2)) else (lt_ (x1 + (1 : Int32)) fun x8 => lp_X3_allWellBut_2 N a1 q x8 r6.2))
def f_X3_allWellBut (N : Nat) (a1 : Int32) (s0 : jM) : Option (Int32 × jM) := lp_X3_allWellBut_2 N a1 N (0 : Int32) s0
set_option maxRecDepth 100000 in
set_option maxHeartbeats 4000000 in
theorem lp_X3_allWellBut_2_ok (l : Launch) (N : Nat)  (a1 : Int32)  : ∀ (q : Nat) (x1 : Int32) (s2 : jM), J l RX3 cX3_allWellBut 3 (Option.some Jvm.ClassFile.FieldType.boolean) false (rmD (8) 0 0) noCx (eIM SH) SH 0 0 s2 2 [some (.ref 49), some (.int a1), some (.int x1)] [] (lp_X3_allWellBut_2 N a1 q x1 s2) := by
  intro q
  induction q with
  | zero => intro x1 s2; exact J_none
  | succ q hrec3 =>
    intro x1 s2
    rw [lp_X3_allWellBut_2]
    refine J_iload_n (i := 2) dX3_allWellBut_2 rfl rfl ?_
    refine J_bipush (v := (63 : Int32)) dX3_allWellBut_3 (by decide) ?_
    refine J_icmp_ge (tgt := 33) dX3_allWellBut_5 (by decide) (fun c4 => ?_) (fun c4 => ?_)
    · refine J_iconst (v := (1 : Int32)) dX3_allWellBut_33 (by decide) ?_
      exact J_ireturn dX3_allWellBut_34 rfl rfl rfl
    · refine J_aload_n (i := 0) dX3_allWellBut_8 rfl rfl ?_
      refine J_getR dX3_allWellBut_9 fl_RX3_15 sh_49_1 ?_
      refine J_aload_n (i := 0) dX3_allWellBut_12 rfl rfl ?_
      refine J_iload_n (i := 1) dX3_allWellBut_13 rfl rfl ?_
      refine J_iload_n (i := 2) dX3_allWellBut_14 rfl rfl ?_
      refine J_callVI 49 [.int a1, .int x1] dX3_allWellBut_15 ca_X3_onBut lk_RX3_39 vi_X3_onBut rc_49 rfl rfl ⟨by show _ ≤ _; simp only [rmD]; omega, by show _ ≤ _; simp only [rmD]; omega⟩ (Nat.le_of_ble_eq_true rfl) ⟨Nat.zero_le _, Nat.zero_le _⟩ (con_X3_onBut l N _ _ _) (fun r5 _ => ?_)
      refine J_iload_n (i := 2) dX3_allWellBut_18 rfl rfl ?_
      refine J_callVIM 33 [.int r5, .int x1] dX3_allWellBut_19 ca_X4_isWell lk_RX3_43 vi_X4_isWell rc_33 rfl rfl ⟨by show _ ≤ _; simp only [rmD]; omega, by show _ ≤ _; simp only [rmD]; omega⟩ (Nat.le_of_ble_eq_true rfl) ⟨Nat.zero_le _, Nat.zero_le _⟩ (con_X4_isWell l N _ _ _) (fun r6 _ => ?_)
      refine J_if_ne (tgt := 27) dX3_allWellBut_22 (by decide) (fun c7 => ?_) (fun c7 => ?_)
      · refine J_iincN (i := 2) (v := x1 + (1 : Int32)) (LS := fun x8 => [some (.ref 49), some (.int a1), some (.int x8)]) dX3_allWellBut_27 rfl (by first | rfl | decide) (fun _ => rfl) (by decide) (fun x8 => ?_)
        refine J_goto (tgt := 2) dX3_allWellBut_30 (by decide) ?_
        refine J_sub (l1 := [some (.ref 49), some (.int a1), some (.int x8)]) ⟨rfl, ⟨rfl, ⟨rfl, trivial⟩⟩⟩ ?_
        exact hrec3 x8 r6.2
      · refine J_iconst (v := (0 : Int32)) dX3_allWellBut_25 (by decide) ?_
        exact J_ireturn dX3_allWellBut_26 rfl rfl rfl
set_option maxRecDepth 100000 in
set_option maxHeartbeats 4000000 in
theorem con_X3_allWellBut (l : Launch) (N : Nat) (a1 : Int32) (s0 : jM) : Con l (8) yX3_allWellBut cX3_allWellBut 3 (Option.some Jvm.ClassFile.FieldType.boolean) (eIM SH) SH [.ref 49, .int a1] s0 (f_X3_allWellBut N a1 s0) := by
  refine Con_of (ls0 := [some (.ref 49), some (.int a1), none]) (ini := false) (mc := 0) (ms := 0) (by decide +kernel) rfl (Nat.le_of_ble_eq_true rfl) (fun h => by cases h) (fun _ _ => rfl) ?_
  unfold f_X3_allWellBut
  refine J_iconst (v := (0 : Int32)) dX3_allWellBut_0 (by decide) ?_
  refine J_istore_n (i := 2) (ls2 := [some (.ref 49), some (.int a1), some (.int (0 : Int32))]) dX3_allWellBut_1 rfl rfl (by decide) ?_
  refine J_sub (l1 := [some (.ref 49), some (.int a1), some (.int (0 : Int32))]) ⟨rfl, ⟨rfl, ⟨rfl, trivial⟩⟩⟩ ?_
  exact lp_X3_allWellBut_2_ok l N  a1  N (0 : Int32) s0
