def lp_X0_lookAtLeft_28 (N : Nat) (a1 : Int32) (x1 : Int32) : Nat → Int32 → jM → Option jM
  | 0, _, _ => none
  | q + 1, x5, s6 => if a1 < x5 then (some s6) else (jn_ (fun (x9 : Int32) => jn_ (fun (s11 : jM) => lt_ (x5 + (1 : Int32)) fun x13 => lp_X0_lookAtLeft_28 N a1 x1 q x13 s11) fun j12 => if x9 = 0 then (j12 s6) else (gd (ib x5 256) <| if (gI s6 42 (Int32.toNatClampNeg x5)) = (-1 : Int32) then (j12 s6) else (gd (ib (a1 &&& (x5 ^^^ (-1 : Int32))) 256) <| if (gI s6 44 (Int32.toNatClampNeg (a1 &&& (x5 ^^^ (-1 : Int32))))) = (-1 : Int32) then (j12 s6) else (Option.bind (f_X0_tryFirst x5 a1 s6) fun r17 => j12 r17)))) fun j10 => jn_ (fun (_ : Unit) => j10 (0 : Int32)) fun j18 => if (x5 &&& (a1 ^^^ (-1 : Int32))) = 0 then (if (x5 &&& x1) = 0 then (j18 ()) else (j10 (1 : Int32))) else (j18 ()))
def f_X0_lookAtLeft (N : Nat) (a1 : Int32) (s0 : jM) : Option jM := lt_ (a1 &&& (-a1)) fun x1 => gd (ib a1 256) <| lt_ (pI s0 44 (Int32.toNatClampNeg a1) (-1 : Int32)) fun s2 => gd (ib a1 256) <| lt_ (pI s2 45 (Int32.toNatClampNeg a1) (-1 : Int32)) fun s3 => gd (ib a1 256) <| lt_ (pI s3 47 (Int32.toNatClampNeg a1) (-1 : Int32)) fun s4 => lp_X0_lookAtLeft_28 N a1 x1 N x1 s4
set_option maxRecDepth 100000 in
set_option maxHeartbeats 4000000 in
theorem lp_X0_lookAtLeft_28_ok (l : Launch) (N : Nat)  (a1 : Int32) (x1 : Int32)  : ∀ (q : Nat) (x5 : Int32) (s6 : jM), J l RX0 cX0_lookAtLeft 5 (Option.none : Option Jvm.ClassFile.FieldType) false (rmD (2) 0 0) noCx (eV SH) SH 0 0 s6 28 [some (.ref 41), some (.int a1), some (.int x1), some (.int x5), none] [] (lp_X0_lookAtLeft_28 N a1 x1 q x5 s6) := by
  intro q
  induction q with
  | zero => intro x5 s6; exact J_none
  | succ q hrec7 =>
    intro x5 s6
    rw [lp_X0_lookAtLeft_28]
    refine J_iload_n (i := 3) dX0_lookAtLeft_28 rfl rfl ?_
    refine J_iload_n (i := 1) dX0_lookAtLeft_29 rfl rfl ?_
    refine J_icmp_gt (tgt := 95) dX0_lookAtLeft_30 (by decide) (fun c8 => ?_) (fun c8 => ?_)
    · exact J_return dX0_lookAtLeft_95 rfl rfl
    · refine J_join (P := fun j => ∀ (x9 : Int32), J l RX0 cX0_lookAtLeft 5 (Option.none : Option Jvm.ClassFile.FieldType) false (rmD (2) 0 0) noCx (eV SH) SH 0 0 s6 52 [some (.ref 41), some (.int a1), some (.int x1), some (.int x5), none] [.int x9] (j x9)) ?_ (fun j10 hj10 => ?_)
      · intro x9
        refine J_join (P := fun j => ∀ (s11 : jM), J l RX0 cX0_lookAtLeft 5 (Option.none : Option Jvm.ClassFile.FieldType) false (rmD (2) 0 0) noCx (eV SH) SH 0 0 s11 89 [some (.ref 41), some (.int a1), some (.int x1), some (.int x5), none] [] (j s11)) ?_ (fun j12 hj12 => ?_)
        · intro s11
          refine J_iincN (i := 3) (v := x5 + (1 : Int32)) (LS := fun x13 => [some (.ref 41), some (.int a1), some (.int x1), some (.int x13), none]) dX0_lookAtLeft_89 rfl (by first | rfl | decide) (fun _ => rfl) (by decide) (fun x13 => ?_)
          refine J_goto (tgt := 28) dX0_lookAtLeft_92 (by decide) ?_
          refine J_sub (l1 := [some (.ref 41), some (.int a1), some (.int x1), some (.int x13), none]) ⟨rfl, ⟨rfl, ⟨rfl, ⟨rfl, trivial⟩⟩⟩⟩ ?_
          exact hrec7 x13 s11
        refine J_istore (i := 4) (ls2 := [some (.ref 41), some (.int a1), some (.int x1), some (.int x5), some (.int x9)]) dX0_lookAtLeft_52 rfl (by decide) ?_
        refine J_iload (i := 4) dX0_lookAtLeft_54 rfl ?_
        refine J_if_eq (tgt := 89) dX0_lookAtLeft_56 (by decide) (fun c14 => ?_) (fun c14 => ?_)
        · refine J_sub (l1 := [some (.ref 41), some (.int a1), some (.int x1), some (.int x5), none]) ⟨rfl, ⟨rfl, ⟨rfl, ⟨rfl, trivial⟩⟩⟩⟩ ?_
          exact hj12 s6
        · refine J_aload_n (i := 0) dX0_lookAtLeft_59 rfl rfl ?_
          refine J_getR dX0_lookAtLeft_60 fl_RX0_9 sh_41_2 ?_
          refine J_iload_n (i := 3) dX0_lookAtLeft_63 rfl rfl ?_
          refine J_iald dX0_lookAtLeft_64 sa_42 ?_
          refine J_iconst (v := (-1 : Int32)) dX0_lookAtLeft_65 (by decide) ?_
          refine J_icmp_eq (tgt := 89) dX0_lookAtLeft_66 (by decide) (fun c15 => ?_) (fun c15 => ?_)
          · refine J_sub (l1 := [some (.ref 41), some (.int a1), some (.int x1), some (.int x5), none]) ⟨rfl, ⟨rfl, ⟨rfl, ⟨rfl, trivial⟩⟩⟩⟩ ?_
            exact hj12 s6
          · refine J_aload_n (i := 0) dX0_lookAtLeft_69 rfl rfl ?_
            refine J_getR dX0_lookAtLeft_70 fl_RX0_18 sh_41_4 ?_
            refine J_iload_n (i := 1) dX0_lookAtLeft_73 rfl rfl ?_
            refine J_iload_n (i := 3) dX0_lookAtLeft_74 rfl rfl ?_
            refine J_iconst (v := (-1 : Int32)) dX0_lookAtLeft_75 (by decide) ?_
            refine J_ixor dX0_lookAtLeft_76 ?_
            refine J_iand dX0_lookAtLeft_77 ?_
            refine J_iald dX0_lookAtLeft_78 sa_44 ?_
            refine J_iconst (v := (-1 : Int32)) dX0_lookAtLeft_79 (by decide) ?_
            refine J_icmp_eq (tgt := 89) dX0_lookAtLeft_80 (by decide) (fun c16 => ?_) (fun c16 => ?_)
            · refine J_sub (l1 := [some (.ref 41), some (.int a1), some (.int x1), some (.int x5), none]) ⟨rfl, ⟨rfl, ⟨rfl, ⟨rfl, trivial⟩⟩⟩⟩ ?_
              exact hj12 s6
            · refine J_aload_n (i := 0) dX0_lookAtLeft_83 rfl rfl ?_
              refine J_iload_n (i := 3) dX0_lookAtLeft_84 rfl rfl ?_
              refine J_iload_n (i := 1) dX0_lookAtLeft_85 rfl rfl ?_
              refine J_callVV 41 [.int x5, .int a1] dX0_lookAtLeft_86 ca_X0_tryFirst lk_RX0_98 vi_X0_tryFirst rc_41 rfl rfl ⟨by show _ ≤ _; simp only [rmD]; omega, by show _ ≤ _; simp only [rmD]; omega⟩ (Nat.le_of_ble_eq_true rfl) ⟨Nat.zero_le _, Nat.zero_le _⟩ (con_X0_tryFirst l _ _ _) (fun r17 _ => ?_)
              refine J_sub (l1 := [some (.ref 41), some (.int a1), some (.int x1), some (.int x5), none]) ⟨rfl, ⟨rfl, ⟨rfl, ⟨rfl, trivial⟩⟩⟩⟩ ?_
              exact hj12 r17
      refine J_join (P := fun j => ∀ (_ : Unit), J l RX0 cX0_lookAtLeft 5 (Option.none : Option Jvm.ClassFile.FieldType) false (rmD (2) 0 0) noCx (eV SH) SH 0 0 s6 51 [some (.ref 41), some (.int a1), some (.int x1), some (.int x5), none] [] (j ())) ?_ (fun j18 hj18 => ?_)
      · intro _
        refine J_iconst (v := (0 : Int32)) dX0_lookAtLeft_51 (by decide) ?_
        refine J_sub (l1 := [some (.ref 41), some (.int a1), some (.int x1), some (.int x5), none]) ⟨rfl, ⟨rfl, ⟨rfl, ⟨rfl, trivial⟩⟩⟩⟩ ?_
        exact hj10 (0 : Int32)
      refine J_iload_n (i := 3) dX0_lookAtLeft_33 rfl rfl ?_
      refine J_iload_n (i := 1) dX0_lookAtLeft_34 rfl rfl ?_
      refine J_iconst (v := (-1 : Int32)) dX0_lookAtLeft_35 (by decide) ?_
      refine J_ixor dX0_lookAtLeft_36 ?_
      refine J_iand dX0_lookAtLeft_37 ?_
      refine J_if_ne (tgt := 51) dX0_lookAtLeft_38 (by decide) (fun c19 => ?_) (fun c19 => ?_)
      · refine J_sub (l1 := [some (.ref 41), some (.int a1), some (.int x1), some (.int x5), none]) ⟨rfl, ⟨rfl, ⟨rfl, ⟨rfl, trivial⟩⟩⟩⟩ ?_
        exact hj18 ()
      · refine J_iload_n (i := 3) dX0_lookAtLeft_41 rfl rfl ?_
        refine J_iload_n (i := 2) dX0_lookAtLeft_42 rfl rfl ?_
        refine J_iand dX0_lookAtLeft_43 ?_
        refine J_if_eq (tgt := 51) dX0_lookAtLeft_44 (by decide) (fun c20 => ?_) (fun c20 => ?_)
        · refine J_sub (l1 := [some (.ref 41), some (.int a1), some (.int x1), some (.int x5), none]) ⟨rfl, ⟨rfl, ⟨rfl, ⟨rfl, trivial⟩⟩⟩⟩ ?_
          exact hj18 ()
        · refine J_iconst (v := (1 : Int32)) dX0_lookAtLeft_47 (by decide) ?_
          refine J_goto (tgt := 52) dX0_lookAtLeft_48 (by decide) ?_
          refine J_sub (l1 := [some (.ref 41), some (.int a1), some (.int x1), some (.int x5), none]) ⟨rfl, ⟨rfl, ⟨rfl, ⟨rfl, trivial⟩⟩⟩⟩ ?_
          exact hj10 (1 : Int32)
set_option maxRecDepth 100000 in
set_option maxHeartbeats 4000000 in
theorem con_X0_lookAtLeft (l : Launch) (N : Nat) (a1 : Int32) (s0 : jM) : Con l (2) yX0_lookAtLeft cX0_lookAtLeft 5 (Option.none : Option Jvm.ClassFile.FieldType) (eV SH) SH [.ref 41, .int a1] s0 (f_X0_lookAtLeft N a1 s0) := by
  refine Con_of (ls0 := [some (.ref 41), some (.int a1), none, none, none]) (ini := false) (mc := 0) (ms := 0) (by decide +kernel) rfl (Nat.le_of_ble_eq_true rfl) (fun h => by cases h) (fun _ _ => rfl) ?_
  unfold f_X0_lookAtLeft
  refine J_iload_n (i := 1) dX0_lookAtLeft_0 rfl rfl ?_
  refine J_iload_n (i := 1) dX0_lookAtLeft_1 rfl rfl ?_
  refine J_ineg dX0_lookAtLeft_2 ?_
  refine J_iand dX0_lookAtLeft_3 ?_
  refine J_istore_nN (i := 2) (LS := fun x1 => [some (.ref 41), some (.int a1), some (.int x1), none, none]) dX0_lookAtLeft_4 rfl (fun _ => rfl) (by decide) (fun x1 => ?_)
  refine J_aload_n (i := 0) dX0_lookAtLeft_5 rfl rfl ?_
  refine J_getR dX0_lookAtLeft_6 fl_RX0_18 sh_41_4 ?_
  refine J_iload_n (i := 1) dX0_lookAtLeft_9 rfl rfl ?_
  refine J_iconst (v := (-1 : Int32)) dX0_lookAtLeft_10 (by decide) ?_
  refine J_iast dX0_lookAtLeft_11 sa_44 ?_
  refine J_letM rfl (fun s2 => ?_)
  refine J_aload_n (i := 0) dX0_lookAtLeft_12 rfl rfl ?_
  refine J_getR dX0_lookAtLeft_13 fl_RX0_21 sh_41_5 ?_
  refine J_iload_n (i := 1) dX0_lookAtLeft_16 rfl rfl ?_
  refine J_iconst (v := (-1 : Int32)) dX0_lookAtLeft_17 (by decide) ?_
  refine J_iast dX0_lookAtLeft_18 sa_45 ?_
  refine J_letM rfl (fun s3 => ?_)
  refine J_aload_n (i := 0) dX0_lookAtLeft_19 rfl rfl ?_
  refine J_getR dX0_lookAtLeft_20 fl_RX0_27 sh_41_7 ?_
  refine J_iload_n (i := 1) dX0_lookAtLeft_23 rfl rfl ?_
  refine J_iconst (v := (-1 : Int32)) dX0_lookAtLeft_24 (by decide) ?_
  refine J_iast dX0_lookAtLeft_25 sa_47 ?_
  refine J_letM rfl (fun s4 => ?_)
  refine J_iload_n (i := 2) dX0_lookAtLeft_26 rfl rfl ?_
  refine J_istore_n (i := 3) (ls2 := [some (.ref 41), some (.int a1), some (.int x1), some (.int x1), none]) dX0_lookAtLeft_27 rfl rfl (by decide) ?_
  refine J_sub (l1 := [some (.ref 41), some (.int a1), some (.int x1), some (.int x1), none]) ⟨rfl, ⟨rfl, ⟨rfl, ⟨rfl, trivial⟩⟩⟩⟩ ?_
  exact lp_X0_lookAtLeft_28_ok l N  a1 x1  N x1 s4

def lp_X0_lineUp_4 (N : Nat)  : Nat → Int32 → Int32 → jM → Option jM
  | 0, _, _, _ => none
  | q + 1, x1, x2, s3 => if (8 : Int32) ≤ x2 then (some s3) else (if x1 ≤ 0 then (some s3) else (if (256 : Int32) ≤ x1 then (some s3) else (jn_ (fun (x8 : Int32) (x9 : Int32) (x10 : Int32) => gd (ib x9 8) <| lt_ (pI s3 48 (Int32.toNatClampNeg x9) x10) fun s12 => lt_ (x1 &&& (x8 ^^^ (-1 : Int32))) fun x13 => lt_ (pI s12 41 9 ((gI s12 41 9) + (1 : Int32))) fun s14 => lt_ (x2 + (1 : Int32)) fun x15 => lp_X0_lineUp_4 N q x13 x15 s14) fun j11 => gd (ib x1 256) <| lt_ ((gI s3 46 (Int32.toNatClampNeg x1)) &&& (255 : Int32)) fun x16 => gd (ib x16 256) <| if (gI s3 42 (Int32.toNatClampNeg x16)) = (1 : Int32) then (j11 x16 x2 (x16 + (256 : Int32))) else (j11 x16 x2 x16))))
def f_X0_lineUp (N : Nat) (a1 : Int32) (s0 : jM) : Option jM := lp_X0_lineUp_4 N N a1 (0 : Int32) s0
set_option maxRecDepth 100000 in
set_option maxHeartbeats 4000000 in
theorem lp_X0_lineUp_4_ok (l : Launch) (N : Nat)    : ∀ (q : Nat) (x1 : Int32) (x2 : Int32) (s3 : jM), J l RX0 cX0_lineUp 5 (Option.none : Option Jvm.ClassFile.FieldType) false (rmD (1) 0 0) noCx (eV SH) SH 0 0 s3 4 [some (.ref 41), none, some (.int x1), some (.int x2), none] [] (lp_X0_lineUp_4 N q x1 x2 s3) := by
  intro q
  induction q with
  | zero => intro x1 x2 s3; exact J_none
  | succ q hrec4 =>
    intro x1 x2 s3
    rw [lp_X0_lineUp_4]
    refine J_iload_n (i := 3) dX0_lineUp_4 rfl rfl ?_
    refine J_bipush (v := (8 : Int32)) dX0_lineUp_5 (by decide) ?_
    refine J_icmp_ge (tgt := 84) dX0_lineUp_7 (by decide) (fun c5 => ?_) (fun c5 => ?_)
    · exact J_return dX0_lineUp_84 rfl rfl
    · refine J_iload_n (i := 2) dX0_lineUp_10 rfl rfl ?_
      refine J_if_le (tgt := 84) dX0_lineUp_11 (by decide) (fun c6 => ?_) (fun c6 => ?_)
      · exact J_return dX0_lineUp_84 rfl rfl
      · refine J_iload_n (i := 2) dX0_lineUp_14 rfl rfl ?_
        refine J_sipush (v := (256 : Int32)) dX0_lineUp_15 (by decide) ?_
        refine J_icmp_ge (tgt := 84) dX0_lineUp_18 (by decide) (fun c7 => ?_) (fun c7 => ?_)
        · exact J_return dX0_lineUp_84 rfl rfl
        · refine J_join (P := fun j => ∀ (x8 : Int32) (x9 : Int32) (x10 : Int32), J l RX0 cX0_lineUp 5 (Option.none : Option Jvm.ClassFile.FieldType) false (rmD (1) 0 0) noCx (eV SH) SH 0 0 s3 60 [some (.ref 41), none, some (.int x1), some (.int x2), some (.int x8)] [.int x10, .int x9, .ref 48] (j x8 x9 x10)) ?_ (fun j11 hj11 => ?_)
          · intro x8 x9 x10
            refine J_iast dX0_lineUp_60 sa_48 ?_
            refine J_letM rfl (fun s12 => ?_)
            refine J_iload_n (i := 2) dX0_lineUp_61 rfl rfl ?_
            refine J_iload (i := 4) dX0_lineUp_62 rfl ?_
            refine J_iconst (v := (-1 : Int32)) dX0_lineUp_64 (by decide) ?_
            refine J_ixor dX0_lineUp_65 ?_
            refine J_iand dX0_lineUp_66 ?_
            refine J_istore_nN (i := 2) (LS := fun x13 => [some (.ref 41), none, some (.int x13), some (.int x2), some (.int x8)]) dX0_lineUp_67 rfl (fun _ => rfl) (by decide) (fun x13 => ?_)
            refine J_aload_n (i := 0) dX0_lineUp_68 rfl rfl ?_
            refine J_dup dX0_lineUp_69 rfl ?_
            refine J_getI dX0_lineUp_70 fl_RX0_70 sh_41_9 ?_
            refine J_iconst (v := (1 : Int32)) dX0_lineUp_73 (by decide) ?_
            refine J_iadd dX0_lineUp_74 ?_
            refine J_putI dX0_lineUp_75 fp_RX0_70 (fun h => by first | rfl | cases h) sh_41_9 rfl rfl ?_
            refine J_letM rfl (fun s14 => ?_)
            refine J_iincN (i := 3) (v := x2 + (1 : Int32)) (LS := fun x15 => [some (.ref 41), none, some (.int x13), some (.int x15), some (.int x8)]) dX0_lineUp_78 rfl (by first | rfl | decide) (fun _ => rfl) (by decide) (fun x15 => ?_)
            refine J_goto (tgt := 4) dX0_lineUp_81 (by decide) ?_
            refine J_sub (l1 := [some (.ref 41), none, some (.int x13), some (.int x15), none]) ⟨rfl, ⟨rfl, ⟨rfl, trivial⟩⟩⟩ ?_
            exact hrec4 x13 x15 s14
          refine J_aload_n (i := 0) dX0_lineUp_21 rfl rfl ?_
          refine J_getR dX0_lineUp_22 fl_RX0_24 sh_41_6 ?_
          refine J_iload_n (i := 2) dX0_lineUp_25 rfl rfl ?_
          refine J_iald dX0_lineUp_26 sa_46 ?_
          refine J_sipush (v := (255 : Int32)) dX0_lineUp_27 (by decide) ?_
          refine J_iand dX0_lineUp_30 ?_
          refine J_istoreN (i := 4) (LS := fun x16 => [some (.ref 41), none, some (.int x1), some (.int x2), some (.int x16)]) dX0_lineUp_31 (fun _ => rfl) (by decide) (fun x16 => ?_)
          refine J_aload_n (i := 0) dX0_lineUp_33 rfl rfl ?_
          refine J_getR dX0_lineUp_34 fl_RX0_30 sh_41_8 ?_
          refine J_iload_n (i := 3) dX0_lineUp_37 rfl rfl ?_
          refine J_aload_n (i := 0) dX0_lineUp_38 rfl rfl ?_
          refine J_getR dX0_lineUp_39 fl_RX0_9 sh_41_2 ?_
          refine J_iload (i := 4) dX0_lineUp_42 rfl ?_
          refine J_iald dX0_lineUp_44 sa_42 ?_
          refine J_iconst (v := (1 : Int32)) dX0_lineUp_45 (by decide) ?_
          refine J_icmp_ne (tgt := 58) dX0_lineUp_46 (by decide) (fun c17 => ?_) (fun c17 => ?_)
          · refine J_iload (i := 4) dX0_lineUp_58 rfl ?_
            refine J_sub (l1 := [some (.ref 41), none, some (.int x1), some (.int x2), some (.int x16)]) ⟨rfl, ⟨rfl, ⟨rfl, ⟨rfl, trivial⟩⟩⟩⟩ ?_
            exact hj11 x16 x2 x16
          · refine J_iload (i := 4) dX0_lineUp_49 rfl ?_
            refine J_sipush (v := (256 : Int32)) dX0_lineUp_51 (by decide) ?_
            refine J_iadd dX0_lineUp_54 ?_
            refine J_goto (tgt := 60) dX0_lineUp_55 (by decide) ?_
            refine J_sub (l1 := [some (.ref 41), none, some (.int x1), some (.int x2), some (.int x16)]) ⟨rfl, ⟨rfl, ⟨rfl, ⟨rfl, trivial⟩⟩⟩⟩ ?_
            exact hj11 x16 x2 (x16 + (256 : Int32))
set_option maxRecDepth 100000 in
set_option maxHeartbeats 4000000 in
theorem con_X0_lineUp (l : Launch) (N : Nat) (a1 : Int32) (s0 : jM) : Con l (1) yX0_lineUp cX0_lineUp 5 (Option.none : Option Jvm.ClassFile.FieldType) (eV SH) SH [.ref 41, .int a1] s0 (f_X0_lineUp N a1 s0) := by
  refine Con_of (ls0 := [some (.ref 41), some (.int a1), none, none, none]) (ini := false) (mc := 0) (ms := 0) (by decide +kernel) rfl (Nat.le_of_ble_eq_true rfl) (fun h => by cases h) (fun _ _ => rfl) ?_
  unfold f_X0_lineUp
  refine J_iload_n (i := 1) dX0_lineUp_0 rfl rfl ?_
  refine J_istore_n (i := 2) (ls2 := [some (.ref 41), some (.int a1), some (.int a1), none, none]) dX0_lineUp_1 rfl rfl (by decide) ?_
  refine J_iconst (v := (0 : Int32)) dX0_lineUp_2 (by decide) ?_
  refine J_istore_n (i := 3) (ls2 := [some (.ref 41), some (.int a1), some (.int a1), some (.int (0 : Int32)), none]) dX0_lineUp_3 rfl rfl (by decide) ?_
  refine J_sub (l1 := [some (.ref 41), none, some (.int a1), some (.int (0 : Int32)), none]) ⟨rfl, ⟨rfl, ⟨rfl, trivial⟩⟩⟩ ?_
  exact lp_X0_lineUp_4_ok l N    N a1 (0 : Int32) s0

def lp_X0_plan_31 (N : Nat) (x3 : Int32) (k5 : jM → Option jM) : Nat → Int32 → jM → Option jM
  | 0, _, _ => none
  | q + 1, x16, s17 => if x3 < x16 then (k5 s17) else (Option.bind (f_X0_lookAtCompany N x16 s17) fun r20 => Option.bind (f_X0_lookAtLeft N x16 r20) fun r21 => lt_ (x16 + (1 : Int32)) fun x22 => lp_X0_plan_31 N x3 k5 q x22 r21)
def f_X0_plan (N : Nat)  (s0 : jM) : Option jM := if (gI s0 41 14) = 0 then (lt_ (pI s0 41 14 (1 : Int32)) fun s2 => lt_ ((((1 : Int32) <<< ((gI s2 1 4) &&& 31)) - (1 : Int32)) &&& (255 : Int32)) fun x3 => jn_ (fun (s4 : jM) => jn_ (fun (x6 : Int32) => gd (zb x6) <| lt_ (pI s4 41 10 x6) fun s8 => gd (ib x3 256) <| lt_ (pI s8 41 11 (gI s8 44 (Int32.toNatClampNeg x3))) fun s9 => gd (ib x3 256) <| lt_ (pI s9 41 12 (gI s9 45 (Int32.toNatClampNeg x3))) fun s10 => gd (ib x3 256) <| lt_ (pI s10 41 13 (gI s10 47 (Int32.toNatClampNeg x3))) fun s11 => lt_ (pI s11 41 9 (0 : Int32)) fun s12 => if (gI s12 41 10) = 0 then (some s12) else (Option.bind (f_X0_lineUp N x3 s12) fun r14 => some r14)) fun j7 => gd (ib x3 256) <| if (gI s4 44 (Int32.toNatClampNeg x3)) = (-1 : Int32) then (j7 (0 : Int32)) else (j7 (1 : Int32))) fun k5 => lp_X0_plan_31 N x3 k5 N (1 : Int32) s2) else (some s0)
set_option maxRecDepth 100000 in
set_option maxHeartbeats 4000000 in
theorem lp_X0_plan_31_ok (l : Launch) (N : Nat)  (x3 : Int32) (k5 : jM → Option jM) (hk5 : ∀ (s4 : jM), J l RX0 cX0_plan 3 (Option.none : Option Jvm.ClassFile.FieldType) false (rmD (9) 0 0) noCx (eV SH) SH 0 0 s4 52 [some (.ref 41), some (.int x3), none] [] (k5 s4)) : ∀ (q : Nat) (x16 : Int32) (s17 : jM), J l RX0 cX0_plan 3 (Option.none : Option Jvm.ClassFile.FieldType) false (rmD (9) 0 0) noCx (eV SH) SH 0 0 s17 31 [some (.ref 41), some (.int x3), some (.int x16)] [] (lp_X0_plan_31 N x3 k5 q x16 s17) := by
  intro q
  induction q with
  | zero => intro x16 s17; exact J_none
  | succ q hrec18 =>
    intro x16 s17
    rw [lp_X0_plan_31]
    refine J_iload_n (i := 2) dX0_plan_31 rfl rfl ?_
    refine J_iload_n (i := 1) dX0_plan_32 rfl rfl ?_
    refine J_icmp_gt (tgt := 52) dX0_plan_33 (by decide) (fun c19 => ?_) (fun c19 => ?_)
    · refine J_sub (l1 := [some (.ref 41), some (.int x3), none]) ⟨rfl, ⟨rfl, trivial⟩⟩ ?_
      exact hk5 s17
    · refine J_aload_n (i := 0) dX0_plan_36 rfl rfl ?_
      refine J_iload_n (i := 2) dX0_plan_37 rfl rfl ?_
      refine J_callVV 41 [.int x16] dX0_plan_38 ca_X0_lookAtCompany lk_RX0_51 vi_X0_lookAtCompany rc_41 rfl rfl ⟨by show _ ≤ _; simp only [rmD]; omega, by show _ ≤ _; simp only [rmD]; omega⟩ (Nat.le_of_ble_eq_true rfl) ⟨Nat.zero_le _, Nat.zero_le _⟩ (con_X0_lookAtCompany l N _ _) (fun r20 _ => ?_)
      refine J_aload_n (i := 0) dX0_plan_41 rfl rfl ?_
      refine J_iload_n (i := 2) dX0_plan_42 rfl rfl ?_
      refine J_callVV 41 [.int x16] dX0_plan_43 ca_X0_lookAtLeft lk_RX0_55 vi_X0_lookAtLeft rc_41 rfl rfl ⟨by show _ ≤ _; simp only [rmD]; omega, by show _ ≤ _; simp only [rmD]; omega⟩ (Nat.le_of_ble_eq_true rfl) ⟨Nat.zero_le _, Nat.zero_le _⟩ (con_X0_lookAtLeft l N _ _) (fun r21 _ => ?_)
      refine J_iincN (i := 2) (v := x16 + (1 : Int32)) (LS := fun x22 => [some (.ref 41), some (.int x3), some (.int x22)]) dX0_plan_46 rfl (by first | rfl | decide) (fun _ => rfl) (by decide) (fun x22 => ?_)
      refine J_goto (tgt := 31) dX0_plan_49 (by decide) ?_
      refine J_sub (l1 := [some (.ref 41), some (.int x3), some (.int x22)]) ⟨rfl, ⟨rfl, ⟨rfl, trivial⟩⟩⟩ ?_
      exact hrec18 x22 r21
set_option maxRecDepth 100000 in
set_option maxHeartbeats 4000000 in
theorem con_X0_plan (l : Launch) (N : Nat) (s0 : jM) : Con l (9) yX0_plan cX0_plan 3 (Option.none : Option Jvm.ClassFile.FieldType) (eV SH) SH [.ref 41] s0 (f_X0_plan N s0) := by
  refine Con_of (ls0 := [some (.ref 41), none, none]) (ini := false) (mc := 0) (ms := 0) (by decide +kernel) rfl (Nat.le_of_ble_eq_true rfl) (fun h => by cases h) (fun _ _ => rfl) ?_
  unfold f_X0_plan
  refine J_aload_n (i := 0) dX0_plan_0 rfl rfl ?_
  refine J_getI dX0_plan_1 fl_RX0_33 sh_41_14 ?_
  refine J_if_eq (tgt := 8) dX0_plan_4 (by decide) (fun c1 => ?_) (fun c1 => ?_)
  · refine J_aload_n (i := 0) dX0_plan_8 rfl rfl ?_
    refine J_iconst (v := (1 : Int32)) dX0_plan_9 (by decide) ?_
    refine J_putI dX0_plan_10 fp_RX0_33 (fun h => by first | rfl | cases h) sh_41_14 rfl rfl ?_
    refine J_letM rfl (fun s2 => ?_)
    refine J_iconst (v := (1 : Int32)) dX0_plan_13 (by decide) ?_
    refine J_aload_n (i := 0) dX0_plan_14 rfl rfl ?_
    refine J_getR dX0_plan_15 fl_RX0_37 sh_41_0 ?_
    refine J_getI dX0_plan_18 fl_RX0_45 sh_1_4 ?_
    refine J_ishl dX0_plan_21 ?_
    refine J_iconst (v := (1 : Int32)) dX0_plan_22 (by decide) ?_
    refine J_isub dX0_plan_23 ?_
    refine J_sipush (v := (255 : Int32)) dX0_plan_24 (by decide) ?_
    refine J_iand dX0_plan_27 ?_
    refine J_istore_nN (i := 1) (LS := fun x3 => [some (.ref 41), some (.int x3), none]) dX0_plan_28 rfl (fun _ => rfl) (by decide) (fun x3 => ?_)
    refine J_iconst (v := (1 : Int32)) dX0_plan_29 (by decide) ?_
    refine J_istore_n (i := 2) (ls2 := [some (.ref 41), some (.int x3), some (.int (1 : Int32))]) dX0_plan_30 rfl rfl (by decide) ?_
    refine J_join (P := fun j => ∀ (s4 : jM), J l RX0 cX0_plan 3 (Option.none : Option Jvm.ClassFile.FieldType) false (rmD (9) 0 0) noCx (eV SH) SH 0 0 s4 52 [some (.ref 41), some (.int x3), none] [] (j s4)) ?_ (fun k5 hk5 => ?_)
    · intro s4
      refine J_join (P := fun j => ∀ (x6 : Int32), J l RX0 cX0_plan 3 (Option.none : Option Jvm.ClassFile.FieldType) false (rmD (9) 0 0) noCx (eV SH) SH 0 0 s4 68 [some (.ref 41), some (.int x3), none] [.int x6, .ref 41] (j x6)) ?_ (fun j7 hj7 => ?_)
      · intro x6
        refine J_gd (fun hz => ?_)
        refine J_putI dX0_plan_68 fp_RX0_58 (fun h => by first | rfl | cases h) sh_41_10 (zb_nar hz) (zb_fit hz) ?_
        refine J_letM rfl (fun s8 => ?_)
        refine J_aload_n (i := 0) dX0_plan_71 rfl rfl ?_
        refine J_aload_n (i := 0) dX0_plan_72 rfl rfl ?_
        refine J_getR dX0_plan_73 fl_RX0_18 sh_41_4 ?_
        refine J_iload_n (i := 1) dX0_plan_76 rfl rfl ?_
        refine J_iald dX0_plan_77 sa_44 ?_
        refine J_putI dX0_plan_78 fp_RX0_61 (fun h => by first | rfl | cases h) sh_41_11 rfl rfl ?_
        refine J_letM rfl (fun s9 => ?_)
        refine J_aload_n (i := 0) dX0_plan_81 rfl rfl ?_
        refine J_aload_n (i := 0) dX0_plan_82 rfl rfl ?_
        refine J_getR dX0_plan_83 fl_RX0_21 sh_41_5 ?_
        refine J_iload_n (i := 1) dX0_plan_86 rfl rfl ?_
        refine J_iald dX0_plan_87 sa_45 ?_
        refine J_putI dX0_plan_88 fp_RX0_64 (fun h => by first | rfl | cases h) sh_41_12 rfl rfl ?_
        refine J_letM rfl (fun s10 => ?_)
        refine J_aload_n (i := 0) dX0_plan_91 rfl rfl ?_
        refine J_aload_n (i := 0) dX0_plan_92 rfl rfl ?_
        refine J_getR dX0_plan_93 fl_RX0_27 sh_41_7 ?_
        refine J_iload_n (i := 1) dX0_plan_96 rfl rfl ?_
        refine J_iald dX0_plan_97 sa_47 ?_
        refine J_putI dX0_plan_98 fp_RX0_67 (fun h => by first | rfl | cases h) sh_41_13 rfl rfl ?_
        refine J_letM rfl (fun s11 => ?_)
        refine J_aload_n (i := 0) dX0_plan_101 rfl rfl ?_
        refine J_iconst (v := (0 : Int32)) dX0_plan_102 (by decide) ?_
        refine J_putI dX0_plan_103 fp_RX0_70 (fun h => by first | rfl | cases h) sh_41_9 rfl rfl ?_
        refine J_letM rfl (fun s12 => ?_)
        refine J_aload_n (i := 0) dX0_plan_106 rfl rfl ?_
        refine J_getI dX0_plan_107 fl_RX0_58 sh_41_10 ?_
        refine J_if_eq (tgt := 118) dX0_plan_110 (by decide) (fun c13 => ?_) (fun c13 => ?_)
        · exact J_return dX0_plan_118 rfl rfl
        · refine J_aload_n (i := 0) dX0_plan_113 rfl rfl ?_
          refine J_iload_n (i := 1) dX0_plan_114 rfl rfl ?_
          refine J_callVV 41 [.int x3] dX0_plan_115 ca_X0_lineUp lk_RX0_73 vi_X0_lineUp rc_41 rfl rfl ⟨by show _ ≤ _; simp only [rmD]; omega, by show _ ≤ _; simp only [rmD]; omega⟩ (Nat.le_of_ble_eq_true rfl) ⟨Nat.zero_le _, Nat.zero_le _⟩ (con_X0_lineUp l N _ _) (fun r14 _ => ?_)
          exact J_return dX0_plan_118 rfl rfl
      refine J_aload_n (i := 0) dX0_plan_52 rfl rfl ?_
      refine J_aload_n (i := 0) dX0_plan_53 rfl rfl ?_
      refine J_getR dX0_plan_54 fl_RX0_18 sh_41_4 ?_
      refine J_iload_n (i := 1) dX0_plan_57 rfl rfl ?_
      refine J_iald dX0_plan_58 sa_44 ?_
      refine J_iconst (v := (-1 : Int32)) dX0_plan_59 (by decide) ?_
      refine J_icmp_eq (tgt := 67) dX0_plan_60 (by decide) (fun c15 => ?_) (fun c15 => ?_)
      · refine J_iconst (v := (0 : Int32)) dX0_plan_67 (by decide) ?_
        refine J_sub (l1 := [some (.ref 41), some (.int x3), none]) ⟨rfl, ⟨rfl, trivial⟩⟩ ?_
        exact hj7 (0 : Int32)
      · refine J_iconst (v := (1 : Int32)) dX0_plan_63 (by decide) ?_
        refine J_goto (tgt := 68) dX0_plan_64 (by decide) ?_
        refine J_sub (l1 := [some (.ref 41), some (.int x3), none]) ⟨rfl, ⟨rfl, trivial⟩⟩ ?_
        exact hj7 (1 : Int32)
    refine J_sub (l1 := [some (.ref 41), some (.int x3), some (.int (1 : Int32))]) ⟨rfl, ⟨rfl, ⟨rfl, trivial⟩⟩⟩ ?_
    exact lp_X0_plan_31_ok l N  x3 k5 hk5 N (1 : Int32) s2
  · exact J_return dX0_plan_7 rfl rfl

def f_X7_least (N : Nat) (a1 : Int32) (s0 : jM) : Option (Int32 × jM) := Option.bind (f_X7_isWithin a1 (0 : Int32) (3 : Int32)) fun r1 => if r1 = 0 then (Option.bind (f_X7_refuseAsBad s0) fun r8 => some (r8.1, r8.2)) else (Option.bind (f_X0_plan N s0) fun r3 => if a1 = (0 : Int32) then (some ((gI r3 41 11), r3)) else if a1 = (1 : Int32) then (some ((gI r3 41 12), r3)) else if a1 = (2 : Int32) then (if (gI r3 41 10) = 0 then (some ((-1 : Int32), r3)) else (some ((gI r3 41 9), r3))) else (some ((gI r3 41 13), r3)))
set_option maxRecDepth 100000 in
set_option maxHeartbeats 4000000 in
theorem con_X7_least (l : Launch) (N : Nat) (a1 : Int32) (s0 : jM) : Con l (10) yX7_least cX7_least 2 (Option.some Jvm.ClassFile.FieldType.int) (eIM SH) SH [.ref 0, .int a1] s0 (f_X7_least N a1 s0) := by
  refine Con_of (ls0 := [some (.ref 0), some (.int a1)]) (ini := false) (mc := 0) (ms := 0) (by decide +kernel) rfl (Nat.le_of_ble_eq_true rfl) (fun h => by cases h) (fun _ _ => rfl) ?_
  unfold f_X7_least
  refine J_iload_n (i := 1) dX7_least_0 rfl rfl ?_
  refine J_iconst (v := (0 : Int32)) dX7_least_1 (by decide) ?_
  refine J_iconst (v := (3 : Int32)) dX7_least_2 (by decide) ?_
  refine J_callSI [.int a1, .int (0 : Int32), .int (3 : Int32)] dX7_least_3 ca_X7_isWithin lk_RX7_82 st_X7_isWithin rfl rfl ⟨by show _ ≤ _; simp only [rmD]; omega, by show _ ≤ _; simp only [rmD]; omega⟩ (Nat.le_of_ble_eq_true rfl) ⟨Nat.zero_le _, Nat.zero_le _⟩ (con_X7_isWithin l _ _ _ _) (fun r1 _ => ?_)
  refine J_if_ne (tgt := 14) dX7_least_6 (by decide) (fun c2 => ?_) (fun c2 => ?_)
  · refine J_aload_n (i := 0) dX7_least_14 rfl rfl ?_
    refine J_getR dX7_least_15 fl_RX7_56 sh_0_7 ?_
    refine J_callVV 41 [] dX7_least_18 ca_X0_plan lk_RX7_161 vi_X0_plan rc_41 rfl rfl ⟨by show _ ≤ _; simp only [rmD]; omega, by show _ ≤ _; simp only [rmD]; omega⟩ (Nat.le_of_ble_eq_true rfl) ⟨Nat.zero_le _, Nat.zero_le _⟩ (con_X0_plan l N _) (fun r3 _ => ?_)
    refine J_iload_n (i := 1) dX7_least_21 rfl rfl ?_
    refine J_if (fun c4 => ?_) (fun c4 => ?_)
    · refine J_tswIn (tgt := 48) (0) dX7_least_22 (by rw [c4] <;> rfl) (by decide) (by decide) rfl (by decide) ?_
      refine J_aload_n (i := 0) dX7_least_48 rfl rfl ?_
      refine J_getR dX7_least_49 fl_RX7_56 sh_0_7 ?_
      refine J_getI dX7_least_52 fl_RX7_164 sh_41_11 ?_
      exact J_ireturn dX7_least_55 rfl rfl rfl
    refine J_if (fun c5 => ?_) (fun c5 => ?_)
    · refine J_tswIn (tgt := 56) (1) dX7_least_22 (by rw [c5] <;> rfl) (by decide) (by decide) rfl (by decide) ?_
      refine J_aload_n (i := 0) dX7_least_56 rfl rfl ?_
      refine J_getR dX7_least_57 fl_RX7_56 sh_0_7 ?_
      refine J_getI dX7_least_60 fl_RX7_167 sh_41_12 ?_
      exact J_ireturn dX7_least_63 rfl rfl rfl
    refine J_if (fun c6 => ?_) (fun c6 => ?_)
    · refine J_tswIn (tgt := 64) (2) dX7_least_22 (by rw [c6] <;> rfl) (by decide) (by decide) rfl (by decide) ?_
      refine J_aload_n (i := 0) dX7_least_64 rfl rfl ?_
      refine J_getR dX7_least_65 fl_RX7_56 sh_0_7 ?_
      refine J_getI dX7_least_68 fl_RX7_170 sh_41_10 ?_
      refine J_if_eq (tgt := 84) dX7_least_71 (by decide) (fun c7 => ?_) (fun c7 => ?_)
      · refine J_iconst (v := (-1 : Int32)) dX7_least_84 (by decide) ?_
        exact J_ireturn dX7_least_85 rfl rfl rfl
      · refine J_aload_n (i := 0) dX7_least_74 rfl rfl ?_
        refine J_getR dX7_least_75 fl_RX7_56 sh_0_7 ?_
        refine J_getI dX7_least_78 fl_RX7_173 sh_41_9 ?_
        refine J_goto (tgt := 85) dX7_least_81 (by decide) ?_
        exact J_ireturn dX7_least_85 rfl rfl rfl
    refine J_tswOut (tgt := 86) dX7_least_22 (by have c4 : ¬ (a1).toInt = 0 := toI_ne c4; have c5 : ¬ (a1).toInt = 1 := toI_ne c5; have c6 : ¬ (a1).toInt = 2 := toI_ne c6; omega) (by decide) ?_
    refine J_aload_n (i := 0) dX7_least_86 rfl rfl ?_
    refine J_getR dX7_least_87 fl_RX7_56 sh_0_7 ?_
    refine J_getI dX7_least_90 fl_RX7_176 sh_41_13 ?_
    exact J_ireturn dX7_least_93 rfl rfl rfl
  · refine J_aload_n (i := 0) dX7_least_9 rfl rfl ?_
    refine J_callVIM 0 [] dX7_least_10 ca_X7_refuseAsBad lk_RX7_86 vi_X7_refuseAsBad rc_0 rfl rfl ⟨by show _ ≤ _; simp only [rmD]; omega, by show _ ≤ _; simp only [rmD]; omega⟩ (Nat.le_of_ble_eq_true rfl) ⟨Nat.zero_le _, Nat.zero_le _⟩ (con_X7_refuseAsBad l _) (fun r8 _ => ?_)
    exact J_ireturn dX7_least_13 rfl rfl rfl

def f_X7_row (N : Nat) (a1 : Int32) (s0 : jM) : Option (Int32 × jM) := if 0 ≤ a1 then (jn_ (fun (s2 : jM) => some ((-5 : Int32), s2)) fun j3 => Option.bind (f_X0_plan N s0) fun r4 => if (gI r4 41 9) ≤ a1 then (j3 r4) else (if (8 : Int32) ≤ a1 then (j3 r4) else (gd (ib a1 8) <| some ((gI r4 48 (Int32.toNatClampNeg a1)), r4)))) else (lt_ (pI s0 0 12 ((gI s0 0 12) + (1 : Int32))) fun s7 => some ((-10 : Int32), s7))
set_option maxRecDepth 100000 in
set_option maxHeartbeats 4000000 in
theorem con_X7_row (l : Launch) (N : Nat) (a1 : Int32) (s0 : jM) : Con l (10) yX7_row cX7_row 2 (Option.some Jvm.ClassFile.FieldType.int) (eIM SH) SH [.ref 0, .int a1] s0 (f_X7_row N a1 s0) := by
  refine Con_of (ls0 := [some (.ref 0), some (.int a1)]) (ini := false) (mc := 0) (ms := 0) (by decide +kernel) rfl (Nat.le_of_ble_eq_true rfl) (fun h => by cases h) (fun _ _ => rfl) ?_
  unfold f_X7_row
  refine J_iload_n (i := 1) dX7_row_0 rfl rfl ?_
  refine J_if_ge (tgt := 17) dX7_row_1 (by decide) (fun c1 => ?_) (fun c1 => ?_)
  · refine J_join (P := fun j => ∀ (s2 : jM), J l RX7 cX7_row 2 (Option.some Jvm.ClassFile.FieldType.int) false (rmD (10) 0 0) noCx (eIM SH) SH 0 0 s2 53 [none, none] [] (j s2)) ?_ (fun j3 hj3 => ?_)
    · intro s2
      refine J_bipush (v := (-5 : Int32)) dX7_row_53 (by decide) ?_
      exact J_ireturn dX7_row_55 rfl rfl rfl
    refine J_aload_n (i := 0) dX7_row_17 rfl rfl ?_
    refine J_getR dX7_row_18 fl_RX7_56 sh_0_7 ?_
    refine J_callVV 41 [] dX7_row_21 ca_X0_plan lk_RX7_161 vi_X0_plan rc_41 rfl rfl ⟨by show _ ≤ _; simp only [rmD]; omega, by show _ ≤ _; simp only [rmD]; omega⟩ (Nat.le_of_ble_eq_true rfl) ⟨Nat.zero_le _, Nat.zero_le _⟩ (con_X0_plan l N _) (fun r4 _ => ?_)
    refine J_iload_n (i := 1) dX7_row_24 rfl rfl ?_
    refine J_aload_n (i := 0) dX7_row_25 rfl rfl ?_
    refine J_getR dX7_row_26 fl_RX7_56 sh_0_7 ?_
    refine J_getI dX7_row_29 fl_RX7_173 sh_41_9 ?_
    refine J_icmp_ge (tgt := 53) dX7_row_32 (by decide) (fun c5 => ?_) (fun c5 => ?_)
    · refine J_sub (l1 := [none, none]) trivial ?_
      exact hj3 r4
    · refine J_iload_n (i := 1) dX7_row_35 rfl rfl ?_
      refine J_bipush (v := (8 : Int32)) dX7_row_36 (by decide) ?_
      refine J_icmp_ge (tgt := 53) dX7_row_38 (by decide) (fun c6 => ?_) (fun c6 => ?_)
      · refine J_sub (l1 := [none, none]) trivial ?_
        exact hj3 r4
      · refine J_aload_n (i := 0) dX7_row_41 rfl rfl ?_
        refine J_getR dX7_row_42 fl_RX7_56 sh_0_7 ?_
        refine J_getR dX7_row_45 fl_RX7_182 sh_41_8 ?_
        refine J_iload_n (i := 1) dX7_row_48 rfl rfl ?_
        refine J_iald dX7_row_49 sa_48 ?_
        refine J_goto (tgt := 55) dX7_row_50 (by decide) ?_
        exact J_ireturn dX7_row_55 rfl rfl rfl
  · refine J_aload_n (i := 0) dX7_row_4 rfl rfl ?_
    refine J_dup dX7_row_5 rfl ?_
    refine J_getI dX7_row_6 fl_RX7_179 sh_0_12 ?_
    refine J_iconst (v := (1 : Int32)) dX7_row_9 (by decide) ?_
    refine J_iadd dX7_row_10 ?_
    refine J_putI dX7_row_11 fp_RX7_179 (fun h => by first | rfl | cases h) sh_0_12 rfl rfl ?_
    refine J_letM rfl (fun s7 => ?_)
    refine J_bipush (v := (-10 : Int32)) dX7_row_14 (by decide) ?_
    exact J_ireturn dX7_row_16 rfl rfl rfl

def lp_X7_spreadStops_30 (N : Nat) (a1 : Int32) (k12 : jM → Option (Int64 × jM)) : Nat → Int32 → jM → Option (Int64 × jM)
  | 0, _, _ => none
  | q + 1, x16, s17 => if x16 ≤ 0 then (k12 s17) else (gd (ib x16 9) <| gd (ib (x16 - (1 : Int32)) 9) <| gd (ib x16 9) <| lt_ (pL s17 51 (Int32.toNatClampNeg x16) (((gL s17 51 (Int32.toNatClampNeg x16)) * (Int32.toInt64 ((20 : Int32) - a1))) + ((gL s17 51 (Int32.toNatClampNeg (x16 - (1 : Int32)))) * (Int32.toInt64 a1)))) fun s20 => lt_ (x16 + (-1 : Int32)) fun x21 => lp_X7_spreadStops_30 N a1 k12 q x21 s20)
def lp_X7_spreadStops_20 (N : Nat) (a1 : Int32) (a2 : Int32) (k5 : Int64 → jM → Option (Int64 × jM)) : Nat → Int64 → Int32 → jM → Option (Int64 × jM)
  | 0, _, _, _ => none
  | q + 1, y6, x7, s8 => if a2 ≤ x7 then (k5 y6 s8) else (jn_ (fun (s11 : jM) => gd (ib (0 : Int32) 9) <| gd (ib (0 : Int32) 9) <| lt_ (pL s11 51 (Int32.toNatClampNeg (0 : Int32)) ((gL s11 51 (Int32.toNatClampNeg (0 : Int32))) * (Int32.toInt64 ((20 : Int32) - a1)))) fun s13 => lt_ (y6 * (20 : Int64)) fun y14 => lt_ (x7 + (1 : Int32)) fun x15 => lp_X7_spreadStops_20 N a1 a2 k5 q y14 x15 s13) fun k12 => lp_X7_spreadStops_30 N a1 k12 N (8 : Int32) s8)
def f_X7_spreadStops (N : Nat) (a1 : Int32) (a2 : Int32) (s0 : jM) : Option (Int64 × jM) := Option.bind (f_J7_fill_d0a16 N 51 9 (0 : Int64) s0) fun r1 => gd (ib (0 : Int32) 9) <| lt_ (pL r1 51 (Int32.toNatClampNeg (0 : Int32)) (1 : Int64)) fun s2 => jn_ (fun (y3 : Int64) (s4 : jM) => some (y3, s4)) fun k5 => lp_X7_spreadStops_20 N a1 a2 k5 N (1 : Int64) (0 : Int32) s2
set_option maxRecDepth 100000 in
set_option maxHeartbeats 4000000 in
theorem lp_X7_spreadStops_30_ok (l : Launch) (N : Nat)  (a1 : Int32) (k12 : jM → Option (Int64 × jM)) (a2 : Int32) (y6 : Int64) (x7 : Int32) (hk12 : ∀ (s11 : jM), J l RX7 cX7_spreadStops 7 (Option.some Jvm.ClassFile.FieldType.long) false (rmD (2) 0 0) noCx (eLM SH) SH 0 0 s11 74 [some (.ref 0), some (.int a1), some (.int a2), some (.long y6), none, some (.int x7), none] [] (k12 s11)) : ∀ (q : Nat) (x16 : Int32) (s17 : jM), J l RX7 cX7_spreadStops 7 (Option.some Jvm.ClassFile.FieldType.long) false (rmD (2) 0 0) noCx (eLM SH) SH 0 0 s17 30 [some (.ref 0), some (.int a1), some (.int a2), some (.long y6), none, some (.int x7), some (.int x16)] [] (lp_X7_spreadStops_30 N a1 k12 q x16 s17) := by
  intro q
  induction q with
  | zero => intro x16 s17; exact J_none
  | succ q hrec18 =>
    intro x16 s17
    rw [lp_X7_spreadStops_30]
    refine J_iload (i := 6) dX7_spreadStops_30 rfl ?_
    refine J_if_le (tgt := 74) dX7_spreadStops_32 (by decide) (fun c19 => ?_) (fun c19 => ?_)
    · refine J_sub (l1 := [some (.ref 0), some (.int a1), some (.int a2), some (.long y6), none, some (.int x7), none]) ⟨rfl, ⟨rfl, ⟨rfl, ⟨rfl, ⟨rfl, trivial⟩⟩⟩⟩⟩ ?_
      exact hk12 s17
    · refine J_aload_n (i := 0) dX7_spreadStops_35 rfl rfl ?_
      refine J_getR dX7_spreadStops_36 fl_RX7_74 sh_0_10 ?_
      refine J_iload (i := 6) dX7_spreadStops_39 rfl ?_
      refine J_aload_n (i := 0) dX7_spreadStops_41 rfl rfl ?_
      refine J_getR dX7_spreadStops_42 fl_RX7_74 sh_0_10 ?_
      refine J_iload (i := 6) dX7_spreadStops_45 rfl ?_
      refine J_lald dX7_spreadStops_47 sa_51 ?_
      refine J_bipush (v := (20 : Int32)) dX7_spreadStops_48 (by decide) ?_
      refine J_iload_n (i := 1) dX7_spreadStops_50 rfl rfl ?_
      refine J_isub dX7_spreadStops_51 ?_
      refine J_i2l dX7_spreadStops_52 ?_
      refine J_lmul dX7_spreadStops_53 ?_
      refine J_aload_n (i := 0) dX7_spreadStops_54 rfl rfl ?_
      refine J_getR dX7_spreadStops_55 fl_RX7_74 sh_0_10 ?_
      refine J_iload (i := 6) dX7_spreadStops_58 rfl ?_
      refine J_iconst (v := (1 : Int32)) dX7_spreadStops_60 (by decide) ?_
      refine J_isub dX7_spreadStops_61 ?_
      refine J_lald dX7_spreadStops_62 sa_51 ?_
      refine J_iload_n (i := 1) dX7_spreadStops_63 rfl rfl ?_
      refine J_i2l dX7_spreadStops_64 ?_
      refine J_lmul dX7_spreadStops_65 ?_
      refine J_ladd dX7_spreadStops_66 ?_
      refine J_last dX7_spreadStops_67 sa_51 ?_
      refine J_letM rfl (fun s20 => ?_)
      refine J_iincN (i := 6) (v := x16 + (-1 : Int32)) (LS := fun x21 => [some (.ref 0), some (.int a1), some (.int a2), some (.long y6), none, some (.int x7), some (.int x21)]) dX7_spreadStops_68 rfl (by first | rfl | decide) (fun _ => rfl) (by decide) (fun x21 => ?_)
      refine J_goto (tgt := 30) dX7_spreadStops_71 (by decide) ?_
      refine J_sub (l1 := [some (.ref 0), some (.int a1), some (.int a2), some (.long y6), none, some (.int x7), some (.int x21)]) ⟨rfl, ⟨rfl, ⟨rfl, ⟨rfl, ⟨rfl, ⟨rfl, trivial⟩⟩⟩⟩⟩⟩ ?_
      exact hrec18 x21 s20
set_option maxRecDepth 100000 in
set_option maxHeartbeats 4000000 in
theorem lp_X7_spreadStops_20_ok (l : Launch) (N : Nat)  (a1 : Int32) (a2 : Int32) (k5 : Int64 → jM → Option (Int64 × jM)) (hk5 : ∀ (y3 : Int64) (s4 : jM), J l RX7 cX7_spreadStops 7 (Option.some Jvm.ClassFile.FieldType.long) false (rmD (2) 0 0) noCx (eLM SH) SH 0 0 s4 100 [none, none, none, some (.long y3), none, none, none] [] (k5 y3 s4)) : ∀ (q : Nat) (y6 : Int64) (x7 : Int32) (s8 : jM), J l RX7 cX7_spreadStops 7 (Option.some Jvm.ClassFile.FieldType.long) false (rmD (2) 0 0) noCx (eLM SH) SH 0 0 s8 20 [some (.ref 0), some (.int a1), some (.int a2), some (.long y6), none, some (.int x7), none] [] (lp_X7_spreadStops_20 N a1 a2 k5 q y6 x7 s8) := by
  intro q
  induction q with
  | zero => intro y6 x7 s8; exact J_none
  | succ q hrec9 =>
    intro y6 x7 s8
    rw [lp_X7_spreadStops_20]
    refine J_iload (i := 5) dX7_spreadStops_20 rfl ?_
    refine J_iload_n (i := 2) dX7_spreadStops_22 rfl rfl ?_
    refine J_icmp_ge (tgt := 100) dX7_spreadStops_23 (by decide) (fun c10 => ?_) (fun c10 => ?_)
    · refine J_sub (l1 := [none, none, none, some (.long y6), none, none, none]) ⟨rfl, trivial⟩ ?_
      exact hk5 y6 s8
    · refine J_bipush (v := (8 : Int32)) dX7_spreadStops_26 (by decide) ?_
      refine J_istore (i := 6) (ls2 := [some (.ref 0), some (.int a1), some (.int a2), some (.long y6), none, some (.int x7), some (.int (8 : Int32))]) dX7_spreadStops_28 rfl (by decide) ?_
      refine J_join (P := fun j => ∀ (s11 : jM), J l RX7 cX7_spreadStops 7 (Option.some Jvm.ClassFile.FieldType.long) false (rmD (2) 0 0) noCx (eLM SH) SH 0 0 s11 74 [some (.ref 0), some (.int a1), some (.int a2), some (.long y6), none, some (.int x7), none] [] (j s11)) ?_ (fun k12 hk12 => ?_)
      · intro s11
        refine J_aload_n (i := 0) dX7_spreadStops_74 rfl rfl ?_
        refine J_getR dX7_spreadStops_75 fl_RX7_74 sh_0_10 ?_
        refine J_iconst (v := (0 : Int32)) dX7_spreadStops_78 (by decide) ?_
        refine J_dup2_11 dX7_spreadStops_79 rfl rfl ?_
        refine J_lald dX7_spreadStops_80 sa_51 ?_
        refine J_bipush (v := (20 : Int32)) dX7_spreadStops_81 (by decide) ?_
        refine J_iload_n (i := 1) dX7_spreadStops_83 rfl rfl ?_
        refine J_isub dX7_spreadStops_84 ?_
        refine J_i2l dX7_spreadStops_85 ?_
        refine J_lmul dX7_spreadStops_86 ?_
        refine J_last dX7_spreadStops_87 sa_51 ?_
        refine J_letM rfl (fun s13 => ?_)
        refine J_lload_n (i := 3) dX7_spreadStops_88 rfl rfl ?_
        refine J_ldc2 (v := (20 : Int64)) dX7_spreadStops_89 kw_RX7_262 ?_
        refine J_lmul dX7_spreadStops_92 ?_
        refine J_lstore_nN (i := 3) (LS := fun y14 => [some (.ref 0), some (.int a1), some (.int a2), some (.long y14), none, some (.int x7), none]) dX7_spreadStops_93 rfl (fun _ => rfl) (by decide) (fun y14 => ?_)
        refine J_iincN (i := 5) (v := x7 + (1 : Int32)) (LS := fun x15 => [some (.ref 0), some (.int a1), some (.int a2), some (.long y14), none, some (.int x15), none]) dX7_spreadStops_94 rfl (by first | rfl | decide) (fun _ => rfl) (by decide) (fun x15 => ?_)
        refine J_goto (tgt := 20) dX7_spreadStops_97 (by decide) ?_
        refine J_sub (l1 := [some (.ref 0), some (.int a1), some (.int a2), some (.long y14), none, some (.int x15), none]) ⟨rfl, ⟨rfl, ⟨rfl, ⟨rfl, ⟨rfl, trivial⟩⟩⟩⟩⟩ ?_
        exact hrec9 y14 x15 s13
      refine J_sub (l1 := [some (.ref 0), some (.int a1), some (.int a2), some (.long y6), none, some (.int x7), some (.int (8 : Int32))]) ⟨rfl, ⟨rfl, ⟨rfl, ⟨rfl, ⟨rfl, ⟨rfl, trivial⟩⟩⟩⟩⟩⟩ ?_
      exact lp_X7_spreadStops_30_ok l N  a1 k12 a2 y6 x7 hk12 N (8 : Int32) s8
set_option maxRecDepth 100000 in
set_option maxHeartbeats 4000000 in
theorem con_X7_spreadStops (l : Launch) (N : Nat) (a1 : Int32) (a2 : Int32) (s0 : jM) : Con l (2) yX7_spreadStops cX7_spreadStops 7 (Option.some Jvm.ClassFile.FieldType.long) (eLM SH) SH [.ref 0, .int a1, .int a2] s0 (f_X7_spreadStops N a1 a2 s0) := by
  refine Con_of (ls0 := [some (.ref 0), some (.int a1), some (.int a2), none, none, none, none]) (ini := false) (mc := 0) (ms := 0) (by decide +kernel) rfl (Nat.le_of_ble_eq_true rfl) (fun h => by cases h) (fun _ _ => rfl) ?_
  unfold f_X7_spreadStops
  refine J_aload_n (i := 0) dX7_spreadStops_0 rfl rfl ?_
  refine J_getR dX7_spreadStops_1 fl_RX7_74 sh_0_10 ?_
  refine J_lconst (v := (0 : Int64)) dX7_spreadStops_4 (by decide) ?_
  refine J_callSV [.ref 51, .long (0 : Int64)] dX7_spreadStops_5 ca_J7_fill_d0a16 lk_RX7_256 st_J7_fill_d0a16 rfl rfl ⟨by show _ ≤ _; simp only [rmD]; omega, by show _ ≤ _; simp only [rmD]; omega⟩ (Nat.le_of_ble_eq_true rfl) ⟨Nat.zero_le _, Nat.zero_le _⟩ (con_J7_fill_d0a16 l N 51 9 sa_51 _ _) (fun r1 _ => ?_)
  refine J_aload_n (i := 0) dX7_spreadStops_8 rfl rfl ?_
  refine J_getR dX7_spreadStops_9 fl_RX7_74 sh_0_10 ?_
  refine J_iconst (v := (0 : Int32)) dX7_spreadStops_12 (by decide) ?_
  refine J_lconst (v := (1 : Int64)) dX7_spreadStops_13 (by decide) ?_
  refine J_last dX7_spreadStops_14 sa_51 ?_
  refine J_letM rfl (fun s2 => ?_)
  refine J_lconst (v := (1 : Int64)) dX7_spreadStops_15 (by decide) ?_
  refine J_lstore_n (i := 3) (ls2 := [some (.ref 0), some (.int a1), some (.int a2), some (.long (1 : Int64)), none, none, none]) dX7_spreadStops_16 rfl rfl (by decide) ?_
  refine J_iconst (v := (0 : Int32)) dX7_spreadStops_17 (by decide) ?_
  refine J_istore (i := 5) (ls2 := [some (.ref 0), some (.int a1), some (.int a2), some (.long (1 : Int64)), none, some (.int (0 : Int32)), none]) dX7_spreadStops_18 rfl (by decide) ?_
  refine J_join (P := fun j => ∀ (y3 : Int64) (s4 : jM), J l RX7 cX7_spreadStops 7 (Option.some Jvm.ClassFile.FieldType.long) false (rmD (2) 0 0) noCx (eLM SH) SH 0 0 s4 100 [none, none, none, some (.long y3), none, none, none] [] (j y3 s4)) ?_ (fun k5 hk5 => ?_)
  · intro y3 s4
    refine J_lload_n (i := 3) dX7_spreadStops_100 rfl rfl ?_
    exact J_lreturn dX7_spreadStops_101 rfl rfl
  refine J_sub (l1 := [some (.ref 0), some (.int a1), some (.int a2), some (.long (1 : Int64)), none, some (.int (0 : Int32)), none]) ⟨rfl, ⟨rfl, ⟨rfl, ⟨rfl, ⟨rfl, trivial⟩⟩⟩⟩⟩ ?_
  exact lp_X7_spreadStops_20_ok l N  a1 a2 k5 hk5 N (1 : Int64) (0 : Int32) s2

def f_X7_refuseAsNo  (s0 : jM) : Option (Int32 × jM) := lt_ (pI s0 0 13 ((gI s0 0 13) + (1 : Int32))) fun s1 => some ((-3 : Int32), s1)
set_option maxRecDepth 100000 in
set_option maxHeartbeats 4000000 in
theorem con_X7_refuseAsNo (l : Launch) (s0 : jM) : Con l (1) yX7_refuseAsNo cX7_refuseAsNo 1 (Option.some Jvm.ClassFile.FieldType.int) (eIM SH) SH [.ref 0] s0 (f_X7_refuseAsNo s0) := by
  refine Con_of (ls0 := [some (.ref 0)]) (ini := false) (mc := 0) (ms := 0) (by decide +kernel) rfl (Nat.le_of_ble_eq_true rfl) (fun h => by cases h) (fun _ _ => rfl) ?_
  unfold f_X7_refuseAsNo
  refine J_aload_n (i := 0) dX7_refuseAsNo_0 rfl rfl ?_
  refine J_dup dX7_refuseAsNo_1 rfl ?_
  refine J_getI dX7_refuseAsNo_2 fl_RX7_239 sh_0_13 ?_
  refine J_iconst (v := (1 : Int32)) dX7_refuseAsNo_5 (by decide) ?_
  refine J_iadd dX7_refuseAsNo_6 ?_
  refine J_putI dX7_refuseAsNo_7 fp_RX7_239 (fun h => by first | rfl | cases h) sh_0_13 rfl rfl ?_
  refine J_letM rfl (fun s1 => ?_)
  refine J_bipush (v := (-3 : Int32)) dX7_refuseAsNo_10 (by decide) ?_
  exact J_ireturn dX7_refuseAsNo_12 rfl rfl rfl

def lp_X2_commonDivisor_9 (N : Nat) (k2 : Int64 → Option Int64) : Nat → Int64 → Int64 → Int32 → Option Int64
  | 0, _, _, _ => none
  | q + 1, y3, y4, x5 => if (100 : Int32) ≤ x5 then (k2 y3) else (if y4 = (0 : Int64) then (k2 y3) else (gd (decide (¬ y4 = 0)) <| lt_ (y3 - y3 / y4 * y4) fun y9 => lt_ (x5 + (1 : Int32)) fun x10 => lp_X2_commonDivisor_9 N k2 q y4 y9 x10))
def f_X2_commonDivisor (N : Nat) (a0 : Int64) (a1 : Int64) : Option Int64 := jn_ (fun (y1 : Int64) => some y1) fun k2 => lp_X2_commonDivisor_9 N k2 N a0 a1 (0 : Int32)
set_option maxRecDepth 100000 in
set_option maxHeartbeats 4000000 in
theorem lp_X2_commonDivisor_9_ok (l : Launch) (N : Nat)  (k2 : Int64 → Option Int64) (s0 : jM) (hk2 : ∀ (y1 : Int64), J l RX2 cX2_commonDivisor 11 (Option.some Jvm.ClassFile.FieldType.long) false (rmD (1) 0 0) noCx (eL SH s0) SH 0 0 s0 44 [none, none, none, none, some (.long y1), none, none, none, none, none, none] [] (k2 y1)) : ∀ (q : Nat) (y3 : Int64) (y4 : Int64) (x5 : Int32), J l RX2 cX2_commonDivisor 11 (Option.some Jvm.ClassFile.FieldType.long) false (rmD (1) 0 0) noCx (eL SH s0) SH 0 0 s0 9 [none, none, none, none, some (.long y3), none, some (.long y4), none, some (.int x5), none, none] [] (lp_X2_commonDivisor_9 N k2 q y3 y4 x5) := by
  intro q
  induction q with
  | zero => intro y3 y4 x5; exact J_none
  | succ q hrec6 =>
    intro y3 y4 x5
    rw [lp_X2_commonDivisor_9]
    refine J_iload (i := 8) dX2_commonDivisor_9 rfl ?_
    refine J_bipush (v := (100 : Int32)) dX2_commonDivisor_11 (by decide) ?_
    refine J_icmp_ge (tgt := 44) dX2_commonDivisor_13 (by decide) (fun c7 => ?_) (fun c7 => ?_)
    · refine J_sub (l1 := [none, none, none, none, some (.long y3), none, none, none, none, none, none]) ⟨rfl, trivial⟩ ?_
      exact hk2 y3
    · refine J_lload (i := 6) dX2_commonDivisor_16 rfl ?_
      refine J_lconst (v := (0 : Int64)) dX2_commonDivisor_18 (by decide) ?_
      refine J_lcmp_eq (tgt := 44) dX2_commonDivisor_19 dX2_commonDivisor_20 (by decide) (fun c8 => ?_) (fun c8 => ?_)
      · refine J_sub (l1 := [none, none, none, none, some (.long y3), none, none, none, none, none, none]) ⟨rfl, trivial⟩ ?_
        exact hk2 y3
      · refine J_lload (i := 4) dX2_commonDivisor_23 rfl ?_
        refine J_lload (i := 6) dX2_commonDivisor_25 rfl ?_
        refine J_lrem dX2_commonDivisor_27 ?_
        refine J_lstoreN (i := 9) (LS := fun y9 => [none, none, none, none, some (.long y3), none, some (.long y4), none, some (.int x5), some (.long y9), none]) dX2_commonDivisor_28 (fun _ => rfl) (by decide) (fun y9 => ?_)
        refine J_lload (i := 6) dX2_commonDivisor_30 rfl ?_
        refine J_lstore (i := 4) (ls2 := [none, none, none, none, some (.long y4), none, some (.long y4), none, some (.int x5), some (.long y9), none]) dX2_commonDivisor_32 rfl (by decide) ?_
        refine J_lload (i := 9) dX2_commonDivisor_34 rfl ?_
        refine J_lstore (i := 6) (ls2 := [none, none, none, none, some (.long y4), none, some (.long y9), none, some (.int x5), some (.long y9), none]) dX2_commonDivisor_36 rfl (by decide) ?_
        refine J_iincN (i := 8) (v := x5 + (1 : Int32)) (LS := fun x10 => [none, none, none, none, some (.long y4), none, some (.long y9), none, some (.int x10), some (.long y9), none]) dX2_commonDivisor_38 rfl (by first | rfl | decide) (fun _ => rfl) (by decide) (fun x10 => ?_)
        refine J_goto (tgt := 9) dX2_commonDivisor_41 (by decide) ?_
        refine J_sub (l1 := [none, none, none, none, some (.long y4), none, some (.long y9), none, some (.int x10), none, none]) ⟨rfl, ⟨rfl, ⟨rfl, trivial⟩⟩⟩ ?_
        exact hrec6 y4 y9 x10
set_option maxRecDepth 100000 in
set_option maxHeartbeats 4000000 in
theorem con_X2_commonDivisor (l : Launch) (N : Nat) (a0 : Int64) (a1 : Int64) (s0 : jM) : Con l (1) yX2_commonDivisor cX2_commonDivisor 11 (Option.some Jvm.ClassFile.FieldType.long) (eL SH s0) SH [.long a0, .long a1] s0 (f_X2_commonDivisor N a0 a1) := by
  refine Con_of (ls0 := [some (.long a0), none, some (.long a1), none, none, none, none, none, none, none, none]) (ini := false) (mc := 0) (ms := 0) (by decide +kernel) rfl (Nat.le_of_ble_eq_true rfl) (fun h => by cases h) (fun _ _ => rfl) ?_
  unfold f_X2_commonDivisor
  refine J_lload_n (i := 0) dX2_commonDivisor_0 rfl rfl ?_
  refine J_lstore (i := 4) (ls2 := [some (.long a0), none, some (.long a1), none, some (.long a0), none, none, none, none, none, none]) dX2_commonDivisor_1 rfl (by decide) ?_
  refine J_lload_n (i := 2) dX2_commonDivisor_3 rfl rfl ?_
  refine J_lstore (i := 6) (ls2 := [some (.long a0), none, some (.long a1), none, some (.long a0), none, some (.long a1), none, none, none, none]) dX2_commonDivisor_4 rfl (by decide) ?_
  refine J_iconst (v := (0 : Int32)) dX2_commonDivisor_6 (by decide) ?_
  refine J_istore (i := 8) (ls2 := [some (.long a0), none, some (.long a1), none, some (.long a0), none, some (.long a1), none, some (.int (0 : Int32)), none, none]) dX2_commonDivisor_7 rfl (by decide) ?_
  refine J_join (P := fun j => ∀ (y1 : Int64), J l RX2 cX2_commonDivisor 11 (Option.some Jvm.ClassFile.FieldType.long) false (rmD (1) 0 0) noCx (eL SH s0) SH 0 0 s0 44 [none, none, none, none, some (.long y1), none, none, none, none, none, none] [] (j y1)) ?_ (fun k2 hk2 => ?_)
  · intro y1
    refine J_lload (i := 4) dX2_commonDivisor_44 rfl ?_
    exact J_lreturn dX2_commonDivisor_46 rfl rfl
  refine J_sub (l1 := [none, none, none, none, some (.long a0), none, some (.long a1), none, some (.int (0 : Int32)), none, none]) ⟨rfl, ⟨rfl, ⟨rfl, trivial⟩⟩⟩ ?_
  exact lp_X2_commonDivisor_9_ok l N  k2 s0 hk2 N a0 a1 (0 : Int32)

def f_X2_become (N : Nat) (a1 : Int64) (a2 : Int64) (s0 : jM) : Option jM := Option.bind (f_X2_commonDivisor N a1 a2) fun r1 => if r1 ≤ (0 : Int64) then (some s0) else (gd (decide (¬ r1 = 0)) <| lt_ (pL s0 50 0 (a1 / r1)) fun s3 => gd (decide (¬ r1 = 0)) <| lt_ (pL s3 50 1 (a2 / r1)) fun s4 => some s4)
set_option maxRecDepth 100000 in
set_option maxHeartbeats 4000000 in
theorem con_X2_become (l : Launch) (N : Nat) (a1 : Int64) (a2 : Int64) (s0 : jM) : Con l (2) yX2_become cX2_become 7 (Option.none : Option Jvm.ClassFile.FieldType) (eV SH) SH [.ref 50, .long a1, .long a2] s0 (f_X2_become N a1 a2 s0) := by
  refine Con_of (ls0 := [some (.ref 50), some (.long a1), none, some (.long a2), none, none, none]) (ini := false) (mc := 0) (ms := 0) (by decide +kernel) rfl (Nat.le_of_ble_eq_true rfl) (fun h => by cases h) (fun _ _ => rfl) ?_
  unfold f_X2_become
  refine J_lload_n (i := 1) dX2_become_0 rfl rfl ?_
  refine J_lload_n (i := 3) dX2_become_1 rfl rfl ?_
  refine J_callSL [.long a1, .long a2] dX2_become_2 ca_X2_commonDivisor lk_RX2_16 st_X2_commonDivisor rfl rfl ⟨by show _ ≤ _; simp only [rmD]; omega, by show _ ≤ _; simp only [rmD]; omega⟩ (Nat.le_of_ble_eq_true rfl) ⟨Nat.zero_le _, Nat.zero_le _⟩ (con_X2_commonDivisor l N _ _ _) (fun r1 _ => ?_)
  refine J_lstore (i := 5) (ls2 := [some (.ref 50), some (.long a1), none, some (.long a2), none, some (.long r1), none]) dX2_become_5 rfl (by decide) ?_
  refine J_lload (i := 5) dX2_become_7 rfl ?_
  refine J_lconst (v := (0 : Int64)) dX2_become_9 (by decide) ?_
  refine J_lcmp_le (tgt := 30) dX2_become_10 dX2_become_11 (by decide) (fun c2 => ?_) (fun c2 => ?_)
  · exact J_return dX2_become_30 rfl rfl
  · refine J_aload_n (i := 0) dX2_become_14 rfl rfl ?_
    refine J_lload_n (i := 1) dX2_become_15 rfl rfl ?_
    refine J_lload (i := 5) dX2_become_16 rfl ?_
    refine J_ldiv dX2_become_18 ?_
    refine J_putL dX2_become_19 fp_RX2_7 (fun h => by first | rfl | cases h) sh_50_0 rfl rfl ?_
    refine J_letM rfl (fun s3 => ?_)
    refine J_aload_n (i := 0) dX2_become_22 rfl rfl ?_
    refine J_lload_n (i := 3) dX2_become_23 rfl rfl ?_
    refine J_lload (i := 5) dX2_become_24 rfl ?_
    refine J_ldiv dX2_become_26 ?_
    refine J_putL dX2_become_27 fp_RX2_13 (fun h => by first | rfl | cases h) sh_50_1 rfl rfl ?_
    refine J_letM rfl (fun s4 => ?_)
    exact J_return dX2_become_30 rfl rfl

def lp_X7_toll_66 (N : Nat) (a2 : Int32) (r9 : (Int64 × jM)) (k12 : Int64 → Option (Int32 × jM)) : Nat → Int64 → Int32 → Option (Int32 × jM)
  | 0, _, _ => none
  | q + 1, y14, x15 => if a2 < x15 then (k12 y14) else (gd (ib x15 9) <| lt_ (y14 + (gL r9.2 51 (Int32.toNatClampNeg x15))) fun y18 => lt_ (x15 + (1 : Int32)) fun x19 => lp_X7_toll_66 N a2 r9 k12 q y18 x19)
def f_X7_toll (N : Nat) (a1 : Int32) (a2 : Int32) (s0 : jM) : Option (Int32 × jM) := jn_ (fun (_ : Unit) => Option.bind (f_X7_refuseAsBad s0) fun r2 => some (r2.1, r2.2)) fun j1 => Option.bind (f_X7_isWithin a1 (0 : Int32) (20 : Int32)) fun r3 => if r3 = 0 then (j1 ()) else (Option.bind (f_X7_isWithin a2 (0 : Int32) (8 : Int32)) fun r5 => if r5 = 0 then (j1 ()) else (Option.bind (f_X0_plan N s0) fun r7 => if (gI r7 41 10) = 0 then (Option.bind (f_X7_refuseAsNo r7) fun r20 => some (r20.1, r20.2)) else (Option.bind (f_X7_spreadStops N a1 (gI r7 41 9) r7) fun r9 => lt_ r9.1 fun y10 => jn_ (fun (y11 : Int64) => Option.bind (f_X2_become N y11 y10 r9.2) fun r13 => some ((1 : Int32), r13)) fun k12 => lp_X7_toll_66 N a2 r9 k12 N (0 : Int64) (0 : Int32))))
set_option maxRecDepth 100000 in
set_option maxHeartbeats 4000000 in
theorem lp_X7_toll_66_ok (l : Launch) (N : Nat)  (a2 : Int32) (r9 : (Int64 × jM)) (k12 : Int64 → Option (Int32 × jM)) (y10 : Int64) (hk12 : ∀ (y11 : Int64), J l RX7 cX7_toll 8 (Option.some Jvm.ClassFile.FieldType.int) false (rmD (10) 0 0) noCx (eIM SH) SH 0 0 r9.2 90 [some (.ref 0), none, none, some (.long y10), none, some (.long y11), none, none] [] (k12 y11)) : ∀ (q : Nat) (y14 : Int64) (x15 : Int32), J l RX7 cX7_toll 8 (Option.some Jvm.ClassFile.FieldType.int) false (rmD (10) 0 0) noCx (eIM SH) SH 0 0 r9.2 66 [some (.ref 0), none, some (.int a2), some (.long y10), none, some (.long y14), none, some (.int x15)] [] (lp_X7_toll_66 N a2 r9 k12 q y14 x15) := by
  intro q
  induction q with
  | zero => intro y14 x15; exact J_none
  | succ q hrec16 =>
    intro y14 x15
    rw [lp_X7_toll_66]
    refine J_iload (i := 7) dX7_toll_66 rfl ?_
    refine J_iload_n (i := 2) dX7_toll_68 rfl rfl ?_
    refine J_icmp_gt (tgt := 90) dX7_toll_69 (by decide) (fun c17 => ?_) (fun c17 => ?_)
    · refine J_sub (l1 := [some (.ref 0), none, none, some (.long y10), none, some (.long y14), none, none]) ⟨rfl, ⟨rfl, ⟨rfl, trivial⟩⟩⟩ ?_
      exact hk12 y14
    · refine J_lload (i := 5) dX7_toll_72 rfl ?_
      refine J_aload_n (i := 0) dX7_toll_74 rfl rfl ?_
      refine J_getR dX7_toll_75 fl_RX7_74 sh_0_10 ?_
      refine J_iload (i := 7) dX7_toll_78 rfl ?_
      refine J_lald dX7_toll_80 sa_51 ?_
      refine J_ladd dX7_toll_81 ?_
      refine J_lstoreN (i := 5) (LS := fun y18 => [some (.ref 0), none, some (.int a2), some (.long y10), none, some (.long y18), none, some (.int x15)]) dX7_toll_82 (fun _ => rfl) (by decide) (fun y18 => ?_)
      refine J_iincN (i := 7) (v := x15 + (1 : Int32)) (LS := fun x19 => [some (.ref 0), none, some (.int a2), some (.long y10), none, some (.long y18), none, some (.int x19)]) dX7_toll_84 rfl (by first | rfl | decide) (fun _ => rfl) (by decide) (fun x19 => ?_)
      refine J_goto (tgt := 66) dX7_toll_87 (by decide) ?_
      refine J_sub (l1 := [some (.ref 0), none, some (.int a2), some (.long y10), none, some (.long y18), none, some (.int x19)]) ⟨rfl, ⟨rfl, ⟨rfl, ⟨rfl, ⟨rfl, trivial⟩⟩⟩⟩⟩ ?_
      exact hrec16 y18 x19
set_option maxRecDepth 100000 in
set_option maxHeartbeats 4000000 in
theorem con_X7_toll (l : Launch) (N : Nat) (a1 : Int32) (a2 : Int32) (s0 : jM) : Con l (10) yX7_toll cX7_toll 8 (Option.some Jvm.ClassFile.FieldType.int) (eIM SH) SH [.ref 0, .int a1, .int a2] s0 (f_X7_toll N a1 a2 s0) := by
  refine Con_of (ls0 := [some (.ref 0), some (.int a1), some (.int a2), none, none, none, none, none]) (ini := false) (mc := 0) (ms := 0) (by decide +kernel) rfl (Nat.le_of_ble_eq_true rfl) (fun h => by cases h) (fun _ _ => rfl) ?_
  unfold f_X7_toll
  refine J_join (P := fun j => ∀ (_ : Unit), J l RX7 cX7_toll 8 (Option.some Jvm.ClassFile.FieldType.int) false (rmD (10) 0 0) noCx (eIM SH) SH 0 0 s0 20 [some (.ref 0), none, none, none, none, none, none, none] [] (j ())) ?_ (fun j1 hj1 => ?_)
  · intro _
    refine J_aload_n (i := 0) dX7_toll_20 rfl rfl ?_
    refine J_callVIM 0 [] dX7_toll_21 ca_X7_refuseAsBad lk_RX7_86 vi_X7_refuseAsBad rc_0 rfl rfl ⟨by show _ ≤ _; simp only [rmD]; omega, by show _ ≤ _; simp only [rmD]; omega⟩ (Nat.le_of_ble_eq_true rfl) ⟨Nat.zero_le _, Nat.zero_le _⟩ (con_X7_refuseAsBad l _) (fun r2 _ => ?_)
    exact J_ireturn dX7_toll_24 rfl rfl rfl
  refine J_iload_n (i := 1) dX7_toll_0 rfl rfl ?_
  refine J_iconst (v := (0 : Int32)) dX7_toll_1 (by decide) ?_
  refine J_bipush (v := (20 : Int32)) dX7_toll_2 (by decide) ?_
  refine J_callSI [.int a1, .int (0 : Int32), .int (20 : Int32)] dX7_toll_4 ca_X7_isWithin lk_RX7_82 st_X7_isWithin rfl rfl ⟨by show _ ≤ _; simp only [rmD]; omega, by show _ ≤ _; simp only [rmD]; omega⟩ (Nat.le_of_ble_eq_true rfl) ⟨Nat.zero_le _, Nat.zero_le _⟩ (con_X7_isWithin l _ _ _ _) (fun r3 _ => ?_)
  refine J_if_eq (tgt := 20) dX7_toll_7 (by decide) (fun c4 => ?_) (fun c4 => ?_)
  · refine J_sub (l1 := [some (.ref 0), none, none, none, none, none, none, none]) ⟨rfl, trivial⟩ ?_
    exact hj1 ()
  · refine J_iload_n (i := 2) dX7_toll_10 rfl rfl ?_
    refine J_iconst (v := (0 : Int32)) dX7_toll_11 (by decide) ?_
    refine J_bipush (v := (8 : Int32)) dX7_toll_12 (by decide) ?_
    refine J_callSI [.int a2, .int (0 : Int32), .int (8 : Int32)] dX7_toll_14 ca_X7_isWithin lk_RX7_82 st_X7_isWithin rfl rfl ⟨by show _ ≤ _; simp only [rmD]; omega, by show _ ≤ _; simp only [rmD]; omega⟩ (Nat.le_of_ble_eq_true rfl) ⟨Nat.zero_le _, Nat.zero_le _⟩ (con_X7_isWithin l _ _ _ _) (fun r5 _ => ?_)
    refine J_if_ne (tgt := 25) dX7_toll_17 (by decide) (fun c6 => ?_) (fun c6 => ?_)
    · refine J_aload_n (i := 0) dX7_toll_25 rfl rfl ?_
      refine J_getR dX7_toll_26 fl_RX7_56 sh_0_7 ?_
      refine J_callVV 41 [] dX7_toll_29 ca_X0_plan lk_RX7_161 vi_X0_plan rc_41 rfl rfl ⟨by show _ ≤ _; simp only [rmD]; omega, by show _ ≤ _; simp only [rmD]; omega⟩ (Nat.le_of_ble_eq_true rfl) ⟨Nat.zero_le _, Nat.zero_le _⟩ (con_X0_plan l N _) (fun r7 _ => ?_)
      refine J_aload_n (i := 0) dX7_toll_32 rfl rfl ?_
      refine J_getR dX7_toll_33 fl_RX7_56 sh_0_7 ?_
      refine J_getI dX7_toll_36 fl_RX7_170 sh_41_10 ?_
      refine J_if_ne (tgt := 47) dX7_toll_39 (by decide) (fun c8 => ?_) (fun c8 => ?_)
      · refine J_aload_n (i := 0) dX7_toll_47 rfl rfl ?_
        refine J_iload_n (i := 1) dX7_toll_48 rfl rfl ?_
        refine J_aload_n (i := 0) dX7_toll_49 rfl rfl ?_
        refine J_getR dX7_toll_50 fl_RX7_56 sh_0_7 ?_
        refine J_getI dX7_toll_53 fl_RX7_173 sh_41_9 ?_
        refine J_callVLM 0 [.int a1, .int (gI r7 41 9)] dX7_toll_56 ca_X7_spreadStops lk_RX7_188 vi_X7_spreadStops rc_0 rfl rfl ⟨by show _ ≤ _; simp only [rmD]; omega, by show _ ≤ _; simp only [rmD]; omega⟩ (Nat.le_of_ble_eq_true rfl) ⟨Nat.zero_le _, Nat.zero_le _⟩ (con_X7_spreadStops l N _ _ _) (fun r9 _ => ?_)
        refine J_lstore_nN (i := 3) (LS := fun y10 => [some (.ref 0), some (.int a1), some (.int a2), some (.long y10), none, none, none, none]) dX7_toll_59 rfl (fun _ => rfl) (by decide) (fun y10 => ?_)
        refine J_lconst (v := (0 : Int64)) dX7_toll_60 (by decide) ?_
        refine J_lstore (i := 5) (ls2 := [some (.ref 0), some (.int a1), some (.int a2), some (.long y10), none, some (.long (0 : Int64)), none, none]) dX7_toll_61 rfl (by decide) ?_
        refine J_iconst (v := (0 : Int32)) dX7_toll_63 (by decide) ?_
        refine J_istore (i := 7) (ls2 := [some (.ref 0), some (.int a1), some (.int a2), some (.long y10), none, some (.long (0 : Int64)), none, some (.int (0 : Int32))]) dX7_toll_64 rfl (by decide) ?_
        refine J_join (P := fun j => ∀ (y11 : Int64), J l RX7 cX7_toll 8 (Option.some Jvm.ClassFile.FieldType.int) false (rmD (10) 0 0) noCx (eIM SH) SH 0 0 r9.2 90 [some (.ref 0), none, none, some (.long y10), none, some (.long y11), none, none] [] (j y11)) ?_ (fun k12 hk12 => ?_)
        · intro y11
          refine J_aload_n (i := 0) dX7_toll_90 rfl rfl ?_
          refine J_getR dX7_toll_91 fl_RX7_70 sh_0_9 ?_
          refine J_lload (i := 5) dX7_toll_94 rfl ?_
          refine J_lload_n (i := 3) dX7_toll_96 rfl rfl ?_
          refine J_callVV 50 [.long y11, .long y10] dX7_toll_97 ca_X2_become lk_RX7_192 vi_X2_become rc_50 rfl rfl ⟨by show _ ≤ _; simp only [rmD]; omega, by show _ ≤ _; simp only [rmD]; omega⟩ (Nat.le_of_ble_eq_true rfl) ⟨Nat.zero_le _, Nat.zero_le _⟩ (con_X2_become l N _ _ _) (fun r13 _ => ?_)
          refine J_iconst (v := (1 : Int32)) dX7_toll_100 (by decide) ?_
          exact J_ireturn dX7_toll_101 rfl rfl rfl
        refine J_sub (l1 := [some (.ref 0), none, some (.int a2), some (.long y10), none, some (.long (0 : Int64)), none, some (.int (0 : Int32))]) ⟨rfl, ⟨rfl, ⟨rfl, ⟨rfl, ⟨rfl, trivial⟩⟩⟩⟩⟩ ?_
        exact lp_X7_toll_66_ok l N  a2 r9 k12 y10 hk12 N (0 : Int64) (0 : Int32)
      · refine J_aload_n (i := 0) dX7_toll_42 rfl rfl ?_
        refine J_callVIM 0 [] dX7_toll_43 ca_X7_refuseAsNo lk_RX7_185 vi_X7_refuseAsNo rc_0 rfl rfl ⟨by show _ ≤ _; simp only [rmD]; omega, by show _ ≤ _; simp only [rmD]; omega⟩ (Nat.le_of_ble_eq_true rfl) ⟨Nat.zero_le _, Nat.zero_le _⟩ (con_X7_refuseAsNo l _) (fun r20 _ => ?_)
        exact J_ireturn dX7_toll_46 rfl rfl rfl
    · refine J_sub (l1 := [some (.ref 0), none, none, none, none, none, none, none]) ⟨rfl, trivial⟩ ?_
      exact hj1 ()
