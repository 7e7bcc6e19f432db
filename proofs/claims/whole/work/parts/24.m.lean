def f_J6_bitCount_0f7a4 (a0 : Int32) : Option Int32 := lt_ (a0 - (((Int32.toUInt32 a0 >>> (Int32.toUInt32 (1 : Int32) &&& Int32.toUInt32 31)).toInt32) &&& (1431655765 : Int32))) fun x1 => lt_ ((x1 &&& (858993459 : Int32)) + (((Int32.toUInt32 x1 >>> (Int32.toUInt32 (2 : Int32) &&& Int32.toUInt32 31)).toInt32) &&& (858993459 : Int32))) fun x2 => lt_ ((x2 + ((Int32.toUInt32 x2 >>> (Int32.toUInt32 (4 : Int32) &&& Int32.toUInt32 31)).toInt32)) &&& (252645135 : Int32)) fun x3 => lt_ (x3 + ((Int32.toUInt32 x3 >>> (Int32.toUInt32 (8 : Int32) &&& Int32.toUInt32 31)).toInt32)) fun x4 => lt_ (x4 + ((Int32.toUInt32 x4 >>> (Int32.toUInt32 (16 : Int32) &&& Int32.toUInt32 31)).toInt32)) fun x5 => some (x5 &&& (63 : Int32))
set_option maxRecDepth 100000 in
set_option maxHeartbeats 4000000 in
theorem con_J6_bitCount_0f7a4 (l : Launch) (a0 : Int32) (s0 : jM) : Con l (1) yJ6_bitCount_0f7a4 cJ6_bitCount_0f7a4 1 (Option.some Jvm.ClassFile.FieldType.int) (eI SH s0) SH [.int a0] s0 (f_J6_bitCount_0f7a4 a0) := by
  refine Con_of (ls0 := [some (.int a0)]) (ini := false) (mc := 0) (ms := 0) (by decide +kernel) rfl (Nat.le_of_ble_eq_true rfl) (fun h => by cases h) (fun _ _ => rfl) ?_
  unfold f_J6_bitCount_0f7a4
  refine J_iload_n (i := 0) dJ6_bitCount_0f7a4_0 rfl rfl ?_
  refine J_iload_n (i := 0) dJ6_bitCount_0f7a4_1 rfl rfl ?_
  refine J_iconst (v := (1 : Int32)) dJ6_bitCount_0f7a4_2 (by decide) ?_
  refine J_iushr dJ6_bitCount_0f7a4_3 ?_
  refine J_ldcw (v := (1431655765 : Int32)) dJ6_bitCount_0f7a4_4 kw_RJ6_265 ?_
  refine J_iand dJ6_bitCount_0f7a4_7 ?_
  refine J_isub dJ6_bitCount_0f7a4_8 ?_
  refine J_istore_nN (i := 0) (LS := fun x1 => [some (.int x1)]) dJ6_bitCount_0f7a4_9 rfl (fun _ => rfl) (by decide) (fun x1 => ?_)
  refine J_iload_n (i := 0) dJ6_bitCount_0f7a4_10 rfl rfl ?_
  refine J_ldcw (v := (858993459 : Int32)) dJ6_bitCount_0f7a4_11 kw_RJ6_266 ?_
  refine J_iand dJ6_bitCount_0f7a4_14 ?_
  refine J_iload_n (i := 0) dJ6_bitCount_0f7a4_15 rfl rfl ?_
  refine J_iconst (v := (2 : Int32)) dJ6_bitCount_0f7a4_16 (by decide) ?_
  refine J_iushr dJ6_bitCount_0f7a4_17 ?_
  refine J_ldcw (v := (858993459 : Int32)) dJ6_bitCount_0f7a4_18 kw_RJ6_266 ?_
  refine J_iand dJ6_bitCount_0f7a4_21 ?_
  refine J_iadd dJ6_bitCount_0f7a4_22 ?_
  refine J_istore_nN (i := 0) (LS := fun x2 => [some (.int x2)]) dJ6_bitCount_0f7a4_23 rfl (fun _ => rfl) (by decide) (fun x2 => ?_)
  refine J_iload_n (i := 0) dJ6_bitCount_0f7a4_24 rfl rfl ?_
  refine J_iload_n (i := 0) dJ6_bitCount_0f7a4_25 rfl rfl ?_
  refine J_iconst (v := (4 : Int32)) dJ6_bitCount_0f7a4_26 (by decide) ?_
  refine J_iushr dJ6_bitCount_0f7a4_27 ?_
  refine J_iadd dJ6_bitCount_0f7a4_28 ?_
  refine J_ldcw (v := (252645135 : Int32)) dJ6_bitCount_0f7a4_29 kw_RJ6_267 ?_
  refine J_iand dJ6_bitCount_0f7a4_32 ?_
  refine J_istore_nN (i := 0) (LS := fun x3 => [some (.int x3)]) dJ6_bitCount_0f7a4_33 rfl (fun _ => rfl) (by decide) (fun x3 => ?_)
  refine J_iload_n (i := 0) dJ6_bitCount_0f7a4_34 rfl rfl ?_
  refine J_iload_n (i := 0) dJ6_bitCount_0f7a4_35 rfl rfl ?_
  refine J_bipush (v := (8 : Int32)) dJ6_bitCount_0f7a4_36 (by decide) ?_
  refine J_iushr dJ6_bitCount_0f7a4_38 ?_
  refine J_iadd dJ6_bitCount_0f7a4_39 ?_
  refine J_istore_nN (i := 0) (LS := fun x4 => [some (.int x4)]) dJ6_bitCount_0f7a4_40 rfl (fun _ => rfl) (by decide) (fun x4 => ?_)
  refine J_iload_n (i := 0) dJ6_bitCount_0f7a4_41 rfl rfl ?_
  refine J_iload_n (i := 0) dJ6_bitCount_0f7a4_42 rfl rfl ?_
  refine J_bipush (v := (16 : Int32)) dJ6_bitCount_0f7a4_43 (by decide) ?_
  refine J_iushr dJ6_bitCount_0f7a4_45 ?_
  refine J_iadd dJ6_bitCount_0f7a4_46 ?_
  refine J_istore_nN (i := 0) (LS := fun x5 => [some (.int x5)]) dJ6_bitCount_0f7a4_47 rfl (fun _ => rfl) (by decide) (fun x5 => ?_)
  refine J_iload_n (i := 0) dJ6_bitCount_0f7a4_48 rfl rfl ?_
  refine J_bipush (v := (63 : Int32)) dJ6_bitCount_0f7a4_49 (by decide) ?_
  refine J_iand dJ6_bitCount_0f7a4_51 ?_
  exact J_ireturn dJ6_bitCount_0f7a4_52 rfl rfl rfl

def lp_X1_bestSteps_18 (N : Nat) (a1 : Int32) (r1 : Int32) (r2 : Int32) (k5 : Int32 → jM → Option (Int32 × jM)) : Nat → Int32 → Int32 → jM → Option (Int32 × jM)
  | 0, _, _, _ => none
  | q + 1, x6, x7, s8 => if r1 < x7 then (k5 x6 s8) else (jn_ (fun (x11 : Int32) => jn_ (fun (x13 : Int32) (s14 : jM) => lt_ (x7 + (1 : Int32)) fun x16 => lp_X1_bestSteps_18 N a1 r1 r2 k5 q x13 x16 s14) fun j15 => if x11 = 0 then (j15 x6 s8) else (if (x7 &&& (r1 ^^^ (-1 : Int32))) = 0 then (jn_ (fun (x19 : Int32) (s20 : jM) => j15 x19 s20) fun j21 => jn_ (fun (s22 : jM) => j21 x6 s22) fun j23 => lt_ (((gI s8 37 5) ^^^ x7) &&& r2) fun x24 => lt_ (((gI s8 37 5) ^^^ x7) &&& (r2 ^^^ (-1 : Int32))) fun x25 => Option.bind (f_X4_isWell N x24 a1 s8) fun r26 => if r26.1 = 0 then (j23 r26.2) else (Option.bind (f_X4_isWell N x25 a1 r26.2) fun r28 => if r28.1 = 0 then (j23 r28.2) else (j21 x7 r28.2))) else (j15 x6 s8))) fun j12 => jn_ (fun (_ : Unit) => j12 (1 : Int32)) fun j30 => if x6 = (-1 : Int32) then (j30 ()) else (Option.bind (f_J6_bitCount_0f7a4 x7) fun r32 => Option.bind (f_J6_bitCount_0f7a4 x6) fun r33 => if r32 ≤ r33 then (j12 (0 : Int32)) else (j30 ())))
def f_X1_bestSteps (N : Nat) (a1 : Int32) (s0 : jM) : Option (Int32 × jM) := Option.bind (f_X1_mayStep N a1 s0) fun r1 => Option.bind (f_X1_aheadOfWall N a1 s0) fun r2 => jn_ (fun (x3 : Int32) (s4 : jM) => some (x3, s4)) fun k5 => lp_X1_bestSteps_18 N a1 r1 r2 k5 N (-1 : Int32) (0 : Int32) s0
set_option maxRecDepth 100000 in
set_option maxHeartbeats 4000000 in
theorem lp_X1_bestSteps_18_ok (l : Launch) (N : Nat)  (a1 : Int32) (r1 : Int32) (r2 : Int32) (k5 : Int32 → jM → Option (Int32 × jM)) (hk5 : ∀ (x3 : Int32) (s4 : jM), J l RX1 cX1_bestSteps 9 (Option.some Jvm.ClassFile.FieldType.int) false (rmD (8) 0 0) noCx (eIM SH) SH 0 0 s4 129 [none, none, none, none, some (.int x3), none, none, none, none] [] (k5 x3 s4)) : ∀ (q : Nat) (x6 : Int32) (x7 : Int32) (s8 : jM), J l RX1 cX1_bestSteps 9 (Option.some Jvm.ClassFile.FieldType.int) false (rmD (8) 0 0) noCx (eIM SH) SH 0 0 s8 18 [some (.ref 37), some (.int a1), some (.int r1), some (.int r2), some (.int x6), some (.int x7), none, none, none] [] (lp_X1_bestSteps_18 N a1 r1 r2 k5 q x6 x7 s8) := by
  intro q
  induction q with
  | zero => intro x6 x7 s8; exact J_none
  | succ q hrec9 =>
    intro x6 x7 s8
    rw [lp_X1_bestSteps_18]
    refine J_iload (i := 5) dX1_bestSteps_18 rfl ?_
    refine J_iload_n (i := 2) dX1_bestSteps_20 rfl rfl ?_
    refine J_icmp_gt (tgt := 129) dX1_bestSteps_21 (by decide) (fun c10 => ?_) (fun c10 => ?_)
    · refine J_sub (l1 := [none, none, none, none, some (.int x6), none, none, none, none]) ⟨rfl, trivial⟩ ?_
      exact hk5 x6 s8
    · refine J_join (P := fun j => ∀ (x11 : Int32), J l RX1 cX1_bestSteps 9 (Option.some Jvm.ClassFile.FieldType.int) false (rmD (8) 0 0) noCx (eIM SH) SH 0 0 s8 48 [some (.ref 37), some (.int a1), some (.int r1), some (.int r2), some (.int x6), some (.int x7), none, none, none] [.int x11] (j x11)) ?_ (fun j12 hj12 => ?_)
      · intro x11
        refine J_join (P := fun j => ∀ (x13 : Int32) (s14 : jM), J l RX1 cX1_bestSteps 9 (Option.some Jvm.ClassFile.FieldType.int) false (rmD (8) 0 0) noCx (eIM SH) SH 0 0 s14 123 [some (.ref 37), some (.int a1), some (.int r1), some (.int r2), some (.int x13), some (.int x7), none, none, none] [] (j x13 s14)) ?_ (fun j15 hj15 => ?_)
        · intro x13 s14
          refine J_iincN (i := 5) (v := x7 + (1 : Int32)) (LS := fun x16 => [some (.ref 37), some (.int a1), some (.int r1), some (.int r2), some (.int x13), some (.int x16), none, none, none]) dX1_bestSteps_123 rfl (by first | rfl | decide) (fun _ => rfl) (by decide) (fun x16 => ?_)
          refine J_goto (tgt := 18) dX1_bestSteps_126 (by decide) ?_
          refine J_sub (l1 := [some (.ref 37), some (.int a1), some (.int r1), some (.int r2), some (.int x13), some (.int x16), none, none, none]) ⟨rfl, ⟨rfl, ⟨rfl, ⟨rfl, ⟨rfl, ⟨rfl, trivial⟩⟩⟩⟩⟩⟩ ?_
          exact hrec9 x13 x16 s14
        refine J_istore (i := 6) (ls2 := [some (.ref 37), some (.int a1), some (.int r1), some (.int r2), some (.int x6), some (.int x7), some (.int x11), none, none]) dX1_bestSteps_48 rfl (by decide) ?_
        refine J_iload (i := 6) dX1_bestSteps_50 rfl ?_
        refine J_if_eq (tgt := 123) dX1_bestSteps_52 (by decide) (fun c17 => ?_) (fun c17 => ?_)
        · refine J_sub (l1 := [some (.ref 37), some (.int a1), some (.int r1), some (.int r2), some (.int x6), some (.int x7), none, none, none]) ⟨rfl, ⟨rfl, ⟨rfl, ⟨rfl, ⟨rfl, ⟨rfl, trivial⟩⟩⟩⟩⟩⟩ ?_
          exact hj15 x6 s8
        · refine J_iload (i := 5) dX1_bestSteps_55 rfl ?_
          refine J_iload_n (i := 2) dX1_bestSteps_57 rfl rfl ?_
          refine J_iconst (v := (-1 : Int32)) dX1_bestSteps_58 (by decide) ?_
          refine J_ixor dX1_bestSteps_59 ?_
          refine J_iand dX1_bestSteps_60 ?_
          refine J_if_ne (tgt := 123) dX1_bestSteps_61 (by decide) (fun c18 => ?_) (fun c18 => ?_)
          · refine J_sub (l1 := [some (.ref 37), some (.int a1), some (.int r1), some (.int r2), some (.int x6), some (.int x7), none, none, none]) ⟨rfl, ⟨rfl, ⟨rfl, ⟨rfl, ⟨rfl, ⟨rfl, trivial⟩⟩⟩⟩⟩⟩ ?_
            exact hj15 x6 s8
          · refine J_join (P := fun j => ∀ (x19 : Int32) (s20 : jM), J l RX1 cX1_bestSteps 9 (Option.some Jvm.ClassFile.FieldType.int) false (rmD (8) 0 0) noCx (eIM SH) SH 0 0 s20 121 [some (.ref 37), some (.int a1), some (.int r1), some (.int r2), none, some (.int x7), none, none, none] [.int x19] (j x19 s20)) ?_ (fun j21 hj21 => ?_)
            · intro x19 s20
              refine J_istore (i := 4) (ls2 := [some (.ref 37), some (.int a1), some (.int r1), some (.int r2), some (.int x19), some (.int x7), none, none, none]) dX1_bestSteps_121 rfl (by decide) ?_
              refine J_sub (l1 := [some (.ref 37), some (.int a1), some (.int r1), some (.int r2), some (.int x19), some (.int x7), none, none, none]) ⟨rfl, ⟨rfl, ⟨rfl, ⟨rfl, ⟨rfl, ⟨rfl, trivial⟩⟩⟩⟩⟩⟩ ?_
              exact hj15 x19 s20
            refine J_join (P := fun j => ∀ (s22 : jM), J l RX1 cX1_bestSteps 9 (Option.some Jvm.ClassFile.FieldType.int) false (rmD (8) 0 0) noCx (eIM SH) SH 0 0 s22 119 [some (.ref 37), some (.int a1), some (.int r1), some (.int r2), some (.int x6), some (.int x7), none, none, none] [] (j s22)) ?_ (fun j23 hj23 => ?_)
            · intro s22
              refine J_iload (i := 4) dX1_bestSteps_119 rfl ?_
              refine J_sub (l1 := [some (.ref 37), some (.int a1), some (.int r1), some (.int r2), none, some (.int x7), none, none, none]) ⟨rfl, ⟨rfl, ⟨rfl, ⟨rfl, ⟨rfl, trivial⟩⟩⟩⟩⟩ ?_
              exact hj21 x6 s22
            refine J_aload_n (i := 0) dX1_bestSteps_64 rfl rfl ?_
            refine J_getI dX1_bestSteps_65 fl_RX1_33 sh_37_5 ?_
            refine J_iload (i := 5) dX1_bestSteps_68 rfl ?_
            refine J_ixor dX1_bestSteps_70 ?_
            refine J_iload_n (i := 3) dX1_bestSteps_71 rfl rfl ?_
            refine J_iand dX1_bestSteps_72 ?_
            refine J_istoreN (i := 7) (LS := fun x24 => [some (.ref 37), some (.int a1), some (.int r1), some (.int r2), some (.int x6), some (.int x7), some (.int x11), some (.int x24), none]) dX1_bestSteps_73 (fun _ => rfl) (by decide) (fun x24 => ?_)
            refine J_aload_n (i := 0) dX1_bestSteps_75 rfl rfl ?_
            refine J_getI dX1_bestSteps_76 fl_RX1_33 sh_37_5 ?_
            refine J_iload (i := 5) dX1_bestSteps_79 rfl ?_
            refine J_ixor dX1_bestSteps_81 ?_
            refine J_iload_n (i := 3) dX1_bestSteps_82 rfl rfl ?_
            refine J_iconst (v := (-1 : Int32)) dX1_bestSteps_83 (by decide) ?_
            refine J_ixor dX1_bestSteps_84 ?_
            refine J_iand dX1_bestSteps_85 ?_
            refine J_istoreN (i := 8) (LS := fun x25 => [some (.ref 37), some (.int a1), some (.int r1), some (.int r2), some (.int x6), some (.int x7), some (.int x11), some (.int x24), some (.int x25)]) dX1_bestSteps_86 (fun _ => rfl) (by decide) (fun x25 => ?_)
            refine J_aload_n (i := 0) dX1_bestSteps_88 rfl rfl ?_
            refine J_getR dX1_bestSteps_89 fl_RX1_29 sh_37_1 ?_
            refine J_iload (i := 7) dX1_bestSteps_92 rfl ?_
            refine J_iload_n (i := 1) dX1_bestSteps_94 rfl rfl ?_
            refine J_callVIM 33 [.int x24, .int a1] dX1_bestSteps_95 ca_X4_isWell lk_RX1_68 vi_X4_isWell rc_33 rfl rfl ⟨by show _ ≤ _; simp only [rmD]; omega, by show _ ≤ _; simp only [rmD]; omega⟩ (Nat.le_of_ble_eq_true rfl) ⟨Nat.zero_le _, Nat.zero_le _⟩ (con_X4_isWell l N _ _ _) (fun r26 _ => ?_)
            refine J_if_eq (tgt := 119) dX1_bestSteps_98 (by decide) (fun c27 => ?_) (fun c27 => ?_)
            · refine J_sub (l1 := [some (.ref 37), some (.int a1), some (.int r1), some (.int r2), some (.int x6), some (.int x7), none, none, none]) ⟨rfl, ⟨rfl, ⟨rfl, ⟨rfl, ⟨rfl, ⟨rfl, trivial⟩⟩⟩⟩⟩⟩ ?_
              exact hj23 r26.2
            · refine J_aload_n (i := 0) dX1_bestSteps_101 rfl rfl ?_
              refine J_getR dX1_bestSteps_102 fl_RX1_29 sh_37_1 ?_
              refine J_iload (i := 8) dX1_bestSteps_105 rfl ?_
              refine J_iload_n (i := 1) dX1_bestSteps_107 rfl rfl ?_
              refine J_callVIM 33 [.int x25, .int a1] dX1_bestSteps_108 ca_X4_isWell lk_RX1_68 vi_X4_isWell rc_33 rfl rfl ⟨by show _ ≤ _; simp only [rmD]; omega, by show _ ≤ _; simp only [rmD]; omega⟩ (Nat.le_of_ble_eq_true rfl) ⟨Nat.zero_le _, Nat.zero_le _⟩ (con_X4_isWell l N _ _ _) (fun r28 _ => ?_)
              refine J_if_eq (tgt := 119) dX1_bestSteps_111 (by decide) (fun c29 => ?_) (fun c29 => ?_)
              · refine J_sub (l1 := [some (.ref 37), some (.int a1), some (.int r1), some (.int r2), some (.int x6), some (.int x7), none, none, none]) ⟨rfl, ⟨rfl, ⟨rfl, ⟨rfl, ⟨rfl, ⟨rfl, trivial⟩⟩⟩⟩⟩⟩ ?_
                exact hj23 r28.2
              · refine J_iload (i := 5) dX1_bestSteps_114 rfl ?_
                refine J_goto (tgt := 121) dX1_bestSteps_116 (by decide) ?_
                refine J_sub (l1 := [some (.ref 37), some (.int a1), some (.int r1), some (.int r2), none, some (.int x7), none, none, none]) ⟨rfl, ⟨rfl, ⟨rfl, ⟨rfl, ⟨rfl, trivial⟩⟩⟩⟩⟩ ?_
                exact hj21 x7 r28.2
      refine J_join (P := fun j => ∀ (_ : Unit), J l RX1 cX1_bestSteps 9 (Option.some Jvm.ClassFile.FieldType.int) false (rmD (8) 0 0) noCx (eIM SH) SH 0 0 s8 43 [some (.ref 37), some (.int a1), some (.int r1), some (.int r2), some (.int x6), some (.int x7), none, none, none] [] (j ())) ?_ (fun j30 hj30 => ?_)
      · intro _
        refine J_iconst (v := (1 : Int32)) dX1_bestSteps_43 (by decide) ?_
        refine J_goto (tgt := 48) dX1_bestSteps_44 (by decide) ?_
        refine J_sub (l1 := [some (.ref 37), some (.int a1), some (.int r1), some (.int r2), some (.int x6), some (.int x7), none, none, none]) ⟨rfl, ⟨rfl, ⟨rfl, ⟨rfl, ⟨rfl, ⟨rfl, trivial⟩⟩⟩⟩⟩⟩ ?_
        exact hj12 (1 : Int32)
      refine J_iload (i := 4) dX1_bestSteps_24 rfl ?_
      refine J_iconst (v := (-1 : Int32)) dX1_bestSteps_26 (by decide) ?_
      refine J_icmp_eq (tgt := 43) dX1_bestSteps_27 (by decide) (fun c31 => ?_) (fun c31 => ?_)
      · refine J_sub (l1 := [some (.ref 37), some (.int a1), some (.int r1), some (.int r2), some (.int x6), some (.int x7), none, none, none]) ⟨rfl, ⟨rfl, ⟨rfl, ⟨rfl, ⟨rfl, ⟨rfl, trivial⟩⟩⟩⟩⟩⟩ ?_
        exact hj30 ()
      · refine J_iload (i := 5) dX1_bestSteps_30 rfl ?_
        refine J_callSI [.int x7] dX1_bestSteps_32 ca_J6_bitCount_0f7a4 lk_RX1_63 st_J6_bitCount_0f7a4 rfl rfl ⟨by show _ ≤ _; simp only [rmD]; omega, by show _ ≤ _; simp only [rmD]; omega⟩ (Nat.le_of_ble_eq_true rfl) ⟨Nat.zero_le _, Nat.zero_le _⟩ (con_J6_bitCount_0f7a4 l _ _) (fun r32 _ => ?_)
        refine J_iload (i := 4) dX1_bestSteps_35 rfl ?_
        refine J_callSI [.int x6] dX1_bestSteps_37 ca_J6_bitCount_0f7a4 lk_RX1_63 st_J6_bitCount_0f7a4 rfl rfl ⟨by show _ ≤ _; simp only [rmD]; omega, by show _ ≤ _; simp only [rmD]; omega⟩ (Nat.le_of_ble_eq_true rfl) ⟨Nat.zero_le _, Nat.zero_le _⟩ (con_J6_bitCount_0f7a4 l _ _) (fun r33 _ => ?_)
        refine J_icmp_le (tgt := 47) dX1_bestSteps_40 (by decide) (fun c34 => ?_) (fun c34 => ?_)
        · refine J_iconst (v := (0 : Int32)) dX1_bestSteps_47 (by decide) ?_
          refine J_sub (l1 := [some (.ref 37), some (.int a1), some (.int r1), some (.int r2), some (.int x6), some (.int x7), none, none, none]) ⟨rfl, ⟨rfl, ⟨rfl, ⟨rfl, ⟨rfl, ⟨rfl, trivial⟩⟩⟩⟩⟩⟩ ?_
          exact hj12 (0 : Int32)
        · refine J_sub (l1 := [some (.ref 37), some (.int a1), some (.int r1), some (.int r2), some (.int x6), some (.int x7), none, none, none]) ⟨rfl, ⟨rfl, ⟨rfl, ⟨rfl, ⟨rfl, ⟨rfl, trivial⟩⟩⟩⟩⟩⟩ ?_
          exact hj30 ()
set_option maxRecDepth 100000 in
set_option maxHeartbeats 4000000 in
theorem con_X1_bestSteps (l : Launch) (N : Nat) (a1 : Int32) (s0 : jM) : Con l (8) yX1_bestSteps cX1_bestSteps 9 (Option.some Jvm.ClassFile.FieldType.int) (eIM SH) SH [.ref 37, .int a1] s0 (f_X1_bestSteps N a1 s0) := by
  refine Con_of (ls0 := [some (.ref 37), some (.int a1), none, none, none, none, none, none, none]) (ini := false) (mc := 0) (ms := 0) (by decide +kernel) rfl (Nat.le_of_ble_eq_true rfl) (fun h => by cases h) (fun _ _ => rfl) ?_
  unfold f_X1_bestSteps
  refine J_aload_n (i := 0) dX1_bestSteps_0 rfl rfl ?_
  refine J_iload_n (i := 1) dX1_bestSteps_1 rfl rfl ?_
  refine J_callVI 37 [.int a1] dX1_bestSteps_2 ca_X1_mayStep lk_RX1_57 vi_X1_mayStep rc_37 rfl rfl ⟨by show _ ≤ _; simp only [rmD]; omega, by show _ ≤ _; simp only [rmD]; omega⟩ (Nat.le_of_ble_eq_true rfl) ⟨Nat.zero_le _, Nat.zero_le _⟩ (con_X1_mayStep l N _ _) (fun r1 _ => ?_)
  refine J_istore_n (i := 2) (ls2 := [some (.ref 37), some (.int a1), some (.int r1), none, none, none, none, none, none]) dX1_bestSteps_5 rfl rfl (by decide) ?_
  refine J_aload_n (i := 0) dX1_bestSteps_6 rfl rfl ?_
  refine J_iload_n (i := 1) dX1_bestSteps_7 rfl rfl ?_
  refine J_callVI 37 [.int a1] dX1_bestSteps_8 ca_X1_aheadOfWall lk_RX1_60 vi_X1_aheadOfWall rc_37 rfl rfl ⟨by show _ ≤ _; simp only [rmD]; omega, by show _ ≤ _; simp only [rmD]; omega⟩ (Nat.le_of_ble_eq_true rfl) ⟨Nat.zero_le _, Nat.zero_le _⟩ (con_X1_aheadOfWall l N _ _) (fun r2 _ => ?_)
  refine J_istore_n (i := 3) (ls2 := [some (.ref 37), some (.int a1), some (.int r1), some (.int r2), none, none, none, none, none]) dX1_bestSteps_11 rfl rfl (by decide) ?_
  refine J_iconst (v := (-1 : Int32)) dX1_bestSteps_12 (by decide) ?_
  refine J_istore (i := 4) (ls2 := [some (.ref 37), some (.int a1), some (.int r1), some (.int r2), some (.int (-1 : Int32)), none, none, none, none]) dX1_bestSteps_13 rfl (by decide) ?_
  refine J_iconst (v := (0 : Int32)) dX1_bestSteps_15 (by decide) ?_
  refine J_istore (i := 5) (ls2 := [some (.ref 37), some (.int a1), some (.int r1), some (.int r2), some (.int (-1 : Int32)), some (.int (0 : Int32)), none, none, none]) dX1_bestSteps_16 rfl (by decide) ?_
  refine J_join (P := fun j => ∀ (x3 : Int32) (s4 : jM), J l RX1 cX1_bestSteps 9 (Option.some Jvm.ClassFile.FieldType.int) false (rmD (8) 0 0) noCx (eIM SH) SH 0 0 s4 129 [none, none, none, none, some (.int x3), none, none, none, none] [] (j x3 s4)) ?_ (fun k5 hk5 => ?_)
  · intro x3 s4
    refine J_iload (i := 4) dX1_bestSteps_129 rfl ?_
    exact J_ireturn dX1_bestSteps_131 rfl rfl rfl
  refine J_sub (l1 := [some (.ref 37), some (.int a1), some (.int r1), some (.int r2), some (.int (-1 : Int32)), some (.int (0 : Int32)), none, none, none]) ⟨rfl, ⟨rfl, ⟨rfl, ⟨rfl, ⟨rfl, ⟨rfl, trivial⟩⟩⟩⟩⟩⟩ ?_
  exact lp_X1_bestSteps_18_ok l N  a1 r1 r2 k5 hk5 N (-1 : Int32) (0 : Int32) s0

def lp_X1_step_2 (N : Nat) (a1 : Int32) (a2 : Int32) (k2 : jM → Option jM) : Nat → Int32 → jM → Option jM
  | 0, _, _ => none
  | q + 1, x4, s5 => if (8 : Int32) ≤ x4 then (k2 s5) else (jn_ (fun (s8 : jM) => lt_ (x4 + (1 : Int32)) fun x10 => lp_X1_step_2 N a1 a2 k2 q x10 s8) fun j9 => jn_ (fun (_ : Unit) => Option.bind (f_X7_holds a1 x4) fun r12 => if r12 = 0 then (j9 s5) else (gd (ib x4 8) <| lt_ (pI s5 39 (Int32.toNatClampNeg x4) a2) fun s14 => j9 s14)) fun j11 => Option.bind (f_X7_holds a1 x4) fun r15 => if r15 = 0 then (j11 ()) else (Option.bind (f_X7_holds (gI s5 37 5) x4) fun r17 => if r17 = 0 then (j11 ()) else (gd (ib x4 8) <| lt_ (pI s5 40 (Int32.toNatClampNeg x4) a2) fun s19 => j9 s19)))
def f_X1_step (N : Nat) (a1 : Int32) (a2 : Int32) (s0 : jM) : Option jM := jn_ (fun (s1 : jM) => lt_ (pI s1 37 5 ((gI s1 37 5) ^^^ a1)) fun s3 => some s3) fun k2 => lp_X1_step_2 N a1 a2 k2 N (0 : Int32) s0
set_option maxRecDepth 100000 in
set_option maxHeartbeats 4000000 in
theorem lp_X1_step_2_ok (l : Launch) (N : Nat)  (a1 : Int32) (a2 : Int32) (k2 : jM → Option jM) (hk2 : ∀ (s1 : jM), J l RX1 cX1_step 4 (Option.none : Option Jvm.ClassFile.FieldType) false (rmD (2) 0 0) noCx (eV SH) SH 0 0 s1 58 [some (.ref 37), some (.int a1), none, none] [] (k2 s1)) : ∀ (q : Nat) (x4 : Int32) (s5 : jM), J l RX1 cX1_step 4 (Option.none : Option Jvm.ClassFile.FieldType) false (rmD (2) 0 0) noCx (eV SH) SH 0 0 s5 2 [some (.ref 37), some (.int a1), some (.int a2), some (.int x4)] [] (lp_X1_step_2 N a1 a2 k2 q x4 s5) := by
  intro q
  induction q with
  | zero => intro x4 s5; exact J_none
  | succ q hrec6 =>
    intro x4 s5
    rw [lp_X1_step_2]
    refine J_iload_n (i := 3) dX1_step_2 rfl rfl ?_
    refine J_bipush (v := (8 : Int32)) dX1_step_3 (by decide) ?_
    refine J_icmp_ge (tgt := 58) dX1_step_5 (by decide) (fun c7 => ?_) (fun c7 => ?_)
    · refine J_sub (l1 := [some (.ref 37), some (.int a1), none, none]) ⟨rfl, ⟨rfl, trivial⟩⟩ ?_
      exact hk2 s5
    · refine J_join (P := fun j => ∀ (s8 : jM), J l RX1 cX1_step 4 (Option.none : Option Jvm.ClassFile.FieldType) false (rmD (2) 0 0) noCx (eV SH) SH 0 0 s8 52 [some (.ref 37), some (.int a1), some (.int a2), some (.int x4)] [] (j s8)) ?_ (fun j9 hj9 => ?_)
      · intro s8
        refine J_iincN (i := 3) (v := x4 + (1 : Int32)) (LS := fun x10 => [some (.ref 37), some (.int a1), some (.int a2), some (.int x10)]) dX1_step_52 rfl (by first | rfl | decide) (fun _ => rfl) (by decide) (fun x10 => ?_)
        refine J_goto (tgt := 2) dX1_step_55 (by decide) ?_
        refine J_sub (l1 := [some (.ref 37), some (.int a1), some (.int a2), some (.int x10)]) ⟨rfl, ⟨rfl, ⟨rfl, ⟨rfl, trivial⟩⟩⟩⟩ ?_
        exact hrec6 x10 s8
      refine J_join (P := fun j => ∀ (_ : Unit), J l RX1 cX1_step 4 (Option.none : Option Jvm.ClassFile.FieldType) false (rmD (2) 0 0) noCx (eV SH) SH 0 0 s5 37 [some (.ref 37), some (.int a1), some (.int a2), some (.int x4)] [] (j ())) ?_ (fun j11 hj11 => ?_)
      · intro _
        refine J_iload_n (i := 1) dX1_step_37 rfl rfl ?_
        refine J_iload_n (i := 3) dX1_step_38 rfl rfl ?_
        refine J_callSI [.int a1, .int x4] dX1_step_39 ca_X7_holds lk_RX1_79 st_X7_holds rfl rfl ⟨by show _ ≤ _; simp only [rmD]; omega, by show _ ≤ _; simp only [rmD]; omega⟩ (Nat.le_of_ble_eq_true rfl) ⟨Nat.zero_le _, Nat.zero_le _⟩ (con_X7_holds l _ _ _) (fun r12 _ => ?_)
        refine J_if_eq (tgt := 52) dX1_step_42 (by decide) (fun c13 => ?_) (fun c13 => ?_)
        · refine J_sub (l1 := [some (.ref 37), some (.int a1), some (.int a2), some (.int x4)]) ⟨rfl, ⟨rfl, ⟨rfl, ⟨rfl, trivial⟩⟩⟩⟩ ?_
          exact hj9 s5
        · refine J_aload_n (i := 0) dX1_step_45 rfl rfl ?_
          refine J_getR dX1_step_46 fl_RX1_15 sh_37_3 ?_
          refine J_iload_n (i := 3) dX1_step_49 rfl rfl ?_
          refine J_iload_n (i := 2) dX1_step_50 rfl rfl ?_
          refine J_iast dX1_step_51 sa_39 ?_
          refine J_letM rfl (fun s14 => ?_)
          refine J_sub (l1 := [some (.ref 37), some (.int a1), some (.int a2), some (.int x4)]) ⟨rfl, ⟨rfl, ⟨rfl, ⟨rfl, trivial⟩⟩⟩⟩ ?_
          exact hj9 s14
      refine J_iload_n (i := 1) dX1_step_8 rfl rfl ?_
      refine J_iload_n (i := 3) dX1_step_9 rfl rfl ?_
      refine J_callSI [.int a1, .int x4] dX1_step_10 ca_X7_holds lk_RX1_79 st_X7_holds rfl rfl ⟨by show _ ≤ _; simp only [rmD]; omega, by show _ ≤ _; simp only [rmD]; omega⟩ (Nat.le_of_ble_eq_true rfl) ⟨Nat.zero_le _, Nat.zero_le _⟩ (con_X7_holds l _ _ _) (fun r15 _ => ?_)
      refine J_if_eq (tgt := 37) dX1_step_13 (by decide) (fun c16 => ?_) (fun c16 => ?_)
      · refine J_sub (l1 := [some (.ref 37), some (.int a1), some (.int a2), some (.int x4)]) ⟨rfl, ⟨rfl, ⟨rfl, ⟨rfl, trivial⟩⟩⟩⟩ ?_
        exact hj11 ()
      · refine J_aload_n (i := 0) dX1_step_16 rfl rfl ?_
        refine J_getI dX1_step_17 fl_RX1_33 sh_37_5 ?_
        refine J_iload_n (i := 3) dX1_step_20 rfl rfl ?_
        refine J_callSI [.int (gI s5 37 5), .int x4] dX1_step_21 ca_X7_holds lk_RX1_79 st_X7_holds rfl rfl ⟨by show _ ≤ _; simp only [rmD]; omega, by show _ ≤ _; simp only [rmD]; omega⟩ (Nat.le_of_ble_eq_true rfl) ⟨Nat.zero_le _, Nat.zero_le _⟩ (con_X7_holds l _ _ _) (fun r17 _ => ?_)
        refine J_if_eq (tgt := 37) dX1_step_24 (by decide) (fun c18 => ?_) (fun c18 => ?_)
        · refine J_sub (l1 := [some (.ref 37), some (.int a1), some (.int a2), some (.int x4)]) ⟨rfl, ⟨rfl, ⟨rfl, ⟨rfl, trivial⟩⟩⟩⟩ ?_
          exact hj11 ()
        · refine J_aload_n (i := 0) dX1_step_27 rfl rfl ?_
          refine J_getR dX1_step_28 fl_RX1_18 sh_37_4 ?_
          refine J_iload_n (i := 3) dX1_step_31 rfl rfl ?_
          refine J_iload_n (i := 2) dX1_step_32 rfl rfl ?_
          refine J_iast dX1_step_33 sa_40 ?_
          refine J_letM rfl (fun s19 => ?_)
          refine J_goto (tgt := 52) dX1_step_34 (by decide) ?_
          refine J_sub (l1 := [some (.ref 37), some (.int a1), some (.int a2), some (.int x4)]) ⟨rfl, ⟨rfl, ⟨rfl, ⟨rfl, trivial⟩⟩⟩⟩ ?_
          exact hj9 s19
set_option maxRecDepth 100000 in
set_option maxHeartbeats 4000000 in
theorem con_X1_step (l : Launch) (N : Nat) (a1 : Int32) (a2 : Int32) (s0 : jM) : Con l (2) yX1_step cX1_step 4 (Option.none : Option Jvm.ClassFile.FieldType) (eV SH) SH [.ref 37, .int a1, .int a2] s0 (f_X1_step N a1 a2 s0) := by
  refine Con_of (ls0 := [some (.ref 37), some (.int a1), some (.int a2), none]) (ini := false) (mc := 0) (ms := 0) (by decide +kernel) rfl (Nat.le_of_ble_eq_true rfl) (fun h => by cases h) (fun _ _ => rfl) ?_
  unfold f_X1_step
  refine J_iconst (v := (0 : Int32)) dX1_step_0 (by decide) ?_
  refine J_istore_n (i := 3) (ls2 := [some (.ref 37), some (.int a1), some (.int a2), some (.int (0 : Int32))]) dX1_step_1 rfl rfl (by decide) ?_
  refine J_join (P := fun j => ∀ (s1 : jM), J l RX1 cX1_step 4 (Option.none : Option Jvm.ClassFile.FieldType) false (rmD (2) 0 0) noCx (eV SH) SH 0 0 s1 58 [some (.ref 37), some (.int a1), none, none] [] (j s1)) ?_ (fun k2 hk2 => ?_)
  · intro s1
    refine J_aload_n (i := 0) dX1_step_58 rfl rfl ?_
    refine J_dup dX1_step_59 rfl ?_
    refine J_getI dX1_step_60 fl_RX1_33 sh_37_5 ?_
    refine J_iload_n (i := 1) dX1_step_63 rfl rfl ?_
    refine J_ixor dX1_step_64 ?_
    refine J_putI dX1_step_65 fp_RX1_33 (fun h => by first | rfl | cases h) sh_37_5 rfl rfl ?_
    refine J_letM rfl (fun s3 => ?_)
    exact J_return dX1_step_68 rfl rfl
  refine J_sub (l1 := [some (.ref 37), some (.int a1), some (.int a2), some (.int (0 : Int32))]) ⟨rfl, ⟨rfl, ⟨rfl, ⟨rfl, trivial⟩⟩⟩⟩ ?_
  exact lp_X1_step_2_ok l N  a1 a2 k2 hk2 N (0 : Int32) s0

def lp_X1_goThrough_46 (N : Nat)  : Nat → Int32 → jM → Option jM
  | 0, _, _ => none
  | q + 1, x8, s9 => if (200 : Int32) ≤ x8 then (some s9) else (jn_ (fun (s12 : jM) => gd (ib x8 200) <| lt_ (pI s12 38 (Int32.toNatClampNeg x8) (gI s12 37 5)) fun s14 => lt_ (x8 + (1 : Int32)) fun x15 => lp_X1_goThrough_46 N q x15 s14) fun j13 => Option.bind (f_X1_bestSteps N x8 s9) fun r16 => lt_ r16.1 fun x17 => if x17 = (-1 : Int32) then (jn_ (fun (x20 : Int32) => lt_ (pI r16.2 37 7 x20) fun s22 => lt_ (pI s22 37 6 ((gI s22 37 6) + (1 : Int32))) fun s23 => j13 s23) fun j21 => if (gI r16.2 37 6) = 0 then (j21 x8) else (j21 (gI r16.2 37 7))) else (Option.bind (f_X1_step N x17 x8 r16.2) fun r19 => j13 r19))
def f_X1_goThrough (N : Nat)  (s0 : jM) : Option jM := if (gI s0 37 8) = 0 then (lt_ (pI s0 37 8 (1 : Int32)) fun s2 => lt_ (pI s2 37 5 (0 : Int32)) fun s3 => lt_ (pI s3 37 6 (0 : Int32)) fun s4 => lt_ (pI s4 37 7 (-1 : Int32)) fun s5 => Option.bind (f_J7_fill_53178 N 39 8 (-1 : Int32) s5) fun r6 => Option.bind (f_J7_fill_53178 N 40 8 (-1 : Int32) r6) fun r7 => lp_X1_goThrough_46 N N (0 : Int32) r7) else (some s0)
set_option maxRecDepth 100000 in
set_option maxHeartbeats 4000000 in
theorem lp_X1_goThrough_46_ok (l : Launch) (N : Nat)    : ∀ (q : Nat) (x8 : Int32) (s9 : jM), J l RX1 cX1_goThrough 3 (Option.none : Option Jvm.ClassFile.FieldType) false (rmD (9) 0 0) noCx (eV SH) SH 0 0 s9 46 [some (.ref 37), some (.int x8), none] [] (lp_X1_goThrough_46 N q x8 s9) := by
  intro q
  induction q with
  | zero => intro x8 s9; exact J_none
  | succ q hrec10 =>
    intro x8 s9
    rw [lp_X1_goThrough_46]
    refine J_iload_n (i := 1) dX1_goThrough_46 rfl rfl ?_
    refine J_sipush (v := (200 : Int32)) dX1_goThrough_47 (by decide) ?_
    refine J_icmp_ge (tgt := 118) dX1_goThrough_50 (by decide) (fun c11 => ?_) (fun c11 => ?_)
    · exact J_return dX1_goThrough_118 rfl rfl
    · refine J_join (P := fun j => ∀ (s12 : jM), J l RX1 cX1_goThrough 3 (Option.none : Option Jvm.ClassFile.FieldType) false (rmD (9) 0 0) noCx (eV SH) SH 0 0 s12 102 [some (.ref 37), some (.int x8), none] [] (j s12)) ?_ (fun j13 hj13 => ?_)
      · intro s12
        refine J_aload_n (i := 0) dX1_goThrough_102 rfl rfl ?_
        refine J_getR dX1_goThrough_103 fl_RX1_9 sh_37_2 ?_
        refine J_iload_n (i := 1) dX1_goThrough_106 rfl rfl ?_
        refine J_aload_n (i := 0) dX1_goThrough_107 rfl rfl ?_
        refine J_getI dX1_goThrough_108 fl_RX1_33 sh_37_5 ?_
        refine J_iast dX1_goThrough_111 sa_38 ?_
        refine J_letM rfl (fun s14 => ?_)
        refine J_iincN (i := 1) (v := x8 + (1 : Int32)) (LS := fun x15 => [some (.ref 37), some (.int x15), none]) dX1_goThrough_112 rfl (by first | rfl | decide) (fun _ => rfl) (by decide) (fun x15 => ?_)
        refine J_goto (tgt := 46) dX1_goThrough_115 (by decide) ?_
        refine J_sub (l1 := [some (.ref 37), some (.int x15), none]) ⟨rfl, ⟨rfl, trivial⟩⟩ ?_
        exact hrec10 x15 s14
      refine J_aload_n (i := 0) dX1_goThrough_53 rfl rfl ?_
      refine J_iload_n (i := 1) dX1_goThrough_54 rfl rfl ?_
      refine J_callVIM 37 [.int x8] dX1_goThrough_55 ca_X1_bestSteps lk_RX1_49 vi_X1_bestSteps rc_37 rfl rfl ⟨by show _ ≤ _; simp only [rmD]; omega, by show _ ≤ _; simp only [rmD]; omega⟩ (Nat.le_of_ble_eq_true rfl) ⟨Nat.zero_le _, Nat.zero_le _⟩ (con_X1_bestSteps l N _ _) (fun r16 _ => ?_)
      refine J_istore_nN (i := 2) (LS := fun x17 => [some (.ref 37), some (.int x8), some (.int x17)]) dX1_goThrough_58 rfl (fun _ => rfl) (by decide) (fun x17 => ?_)
      refine J_iload_n (i := 2) dX1_goThrough_59 rfl rfl ?_
      refine J_iconst (v := (-1 : Int32)) dX1_goThrough_60 (by decide) ?_
      refine J_icmp_ne (tgt := 96) dX1_goThrough_61 (by decide) (fun c18 => ?_) (fun c18 => ?_)
      · refine J_aload_n (i := 0) dX1_goThrough_96 rfl rfl ?_
        refine J_iload_n (i := 2) dX1_goThrough_97 rfl rfl ?_
        refine J_iload_n (i := 1) dX1_goThrough_98 rfl rfl ?_
        refine J_callVV 37 [.int x17, .int x8] dX1_goThrough_99 ca_X1_step lk_RX1_53 vi_X1_step rc_37 rfl rfl ⟨by show _ ≤ _; simp only [rmD]; omega, by show _ ≤ _; simp only [rmD]; omega⟩ (Nat.le_of_ble_eq_true rfl) ⟨Nat.zero_le _, Nat.zero_le _⟩ (con_X1_step l N _ _ _) (fun r19 _ => ?_)
        refine J_sub (l1 := [some (.ref 37), some (.int x8), none]) ⟨rfl, ⟨rfl, trivial⟩⟩ ?_
        exact hj13 r19
      · refine J_join (P := fun j => ∀ (x20 : Int32), J l RX1 cX1_goThrough 3 (Option.none : Option Jvm.ClassFile.FieldType) false (rmD (9) 0 0) noCx (eV SH) SH 0 0 r16.2 80 [some (.ref 37), some (.int x8), none] [.int x20, .ref 37] (j x20)) ?_ (fun j21 hj21 => ?_)
        · intro x20
          refine J_putI dX1_goThrough_80 fp_RX1_40 (fun h => by first | rfl | cases h) sh_37_7 rfl rfl ?_
          refine J_letM rfl (fun s22 => ?_)
          refine J_aload_n (i := 0) dX1_goThrough_83 rfl rfl ?_
          refine J_dup dX1_goThrough_84 rfl ?_
          refine J_getI dX1_goThrough_85 fl_RX1_37 sh_37_6 ?_
          refine J_iconst (v := (1 : Int32)) dX1_goThrough_88 (by decide) ?_
          refine J_iadd dX1_goThrough_89 ?_
          refine J_putI dX1_goThrough_90 fp_RX1_37 (fun h => by first | rfl | cases h) sh_37_6 rfl rfl ?_
          refine J_letM rfl (fun s23 => ?_)
          refine J_goto (tgt := 102) dX1_goThrough_93 (by decide) ?_
          refine J_sub (l1 := [some (.ref 37), some (.int x8), none]) ⟨rfl, ⟨rfl, trivial⟩⟩ ?_
          exact hj13 s23
        refine J_aload_n (i := 0) dX1_goThrough_64 rfl rfl ?_
        refine J_aload_n (i := 0) dX1_goThrough_65 rfl rfl ?_
        refine J_getI dX1_goThrough_66 fl_RX1_37 sh_37_6 ?_
        refine J_if_ne (tgt := 76) dX1_goThrough_69 (by decide) (fun c24 => ?_) (fun c24 => ?_)
        · refine J_aload_n (i := 0) dX1_goThrough_76 rfl rfl ?_
          refine J_getI dX1_goThrough_77 fl_RX1_40 sh_37_7 ?_
          refine J_sub (l1 := [some (.ref 37), some (.int x8), none]) ⟨rfl, ⟨rfl, trivial⟩⟩ ?_
          exact hj21 (gI r16.2 37 7)
        · refine J_iload_n (i := 1) dX1_goThrough_72 rfl rfl ?_
          refine J_goto (tgt := 80) dX1_goThrough_73 (by decide) ?_
          refine J_sub (l1 := [some (.ref 37), some (.int x8), none]) ⟨rfl, ⟨rfl, trivial⟩⟩ ?_
          exact hj21 x8
set_option maxRecDepth 100000 in
set_option maxHeartbeats 4000000 in
theorem con_X1_goThrough (l : Launch) (N : Nat) (s0 : jM) : Con l (9) yX1_goThrough cX1_goThrough 3 (Option.none : Option Jvm.ClassFile.FieldType) (eV SH) SH [.ref 37] s0 (f_X1_goThrough N s0) := by
  refine Con_of (ls0 := [some (.ref 37), none, none]) (ini := false) (mc := 0) (ms := 0) (by decide +kernel) rfl (Nat.le_of_ble_eq_true rfl) (fun h => by cases h) (fun _ _ => rfl) ?_
  unfold f_X1_goThrough
  refine J_aload_n (i := 0) dX1_goThrough_0 rfl rfl ?_
  refine J_getI dX1_goThrough_1 fl_RX1_21 sh_37_8 ?_
  refine J_if_eq (tgt := 8) dX1_goThrough_4 (by decide) (fun c1 => ?_) (fun c1 => ?_)
  · refine J_aload_n (i := 0) dX1_goThrough_8 rfl rfl ?_
    refine J_iconst (v := (1 : Int32)) dX1_goThrough_9 (by decide) ?_
    refine J_putI dX1_goThrough_10 fp_RX1_21 (fun h => by first | rfl | cases h) sh_37_8 rfl rfl ?_
    refine J_letM rfl (fun s2 => ?_)
    refine J_aload_n (i := 0) dX1_goThrough_13 rfl rfl ?_
    refine J_iconst (v := (0 : Int32)) dX1_goThrough_14 (by decide) ?_
    refine J_putI dX1_goThrough_15 fp_RX1_33 (fun h => by first | rfl | cases h) sh_37_5 rfl rfl ?_
    refine J_letM rfl (fun s3 => ?_)
    refine J_aload_n (i := 0) dX1_goThrough_18 rfl rfl ?_
    refine J_iconst (v := (0 : Int32)) dX1_goThrough_19 (by decide) ?_
    refine J_putI dX1_goThrough_20 fp_RX1_37 (fun h => by first | rfl | cases h) sh_37_6 rfl rfl ?_
    refine J_letM rfl (fun s4 => ?_)
    refine J_aload_n (i := 0) dX1_goThrough_23 rfl rfl ?_
    refine J_iconst (v := (-1 : Int32)) dX1_goThrough_24 (by decide) ?_
    refine J_putI dX1_goThrough_25 fp_RX1_40 (fun h => by first | rfl | cases h) sh_37_7 rfl rfl ?_
    refine J_letM rfl (fun s5 => ?_)
    refine J_aload_n (i := 0) dX1_goThrough_28 rfl rfl ?_
    refine J_getR dX1_goThrough_29 fl_RX1_15 sh_37_3 ?_
    refine J_iconst (v := (-1 : Int32)) dX1_goThrough_32 (by decide) ?_
    refine J_callSV [.ref 39, .int (-1 : Int32)] dX1_goThrough_33 ca_J7_fill_53178 lk_RX1_43 st_J7_fill_53178 rfl rfl ⟨by show _ ≤ _; simp only [rmD]; omega, by show _ ≤ _; simp only [rmD]; omega⟩ (Nat.le_of_ble_eq_true rfl) ⟨Nat.zero_le _, Nat.zero_le _⟩ (con_J7_fill_53178 l N 39 8 sa_39 _ _) (fun r6 _ => ?_)
    refine J_aload_n (i := 0) dX1_goThrough_36 rfl rfl ?_
    refine J_getR dX1_goThrough_37 fl_RX1_18 sh_37_4 ?_
    refine J_iconst (v := (-1 : Int32)) dX1_goThrough_40 (by decide) ?_
    refine J_callSV [.ref 40, .int (-1 : Int32)] dX1_goThrough_41 ca_J7_fill_53178 lk_RX1_43 st_J7_fill_53178 rfl rfl ⟨by show _ ≤ _; simp only [rmD]; omega, by show _ ≤ _; simp only [rmD]; omega⟩ (Nat.le_of_ble_eq_true rfl) ⟨Nat.zero_le _, Nat.zero_le _⟩ (con_J7_fill_53178 l N 40 8 sa_40 _ _) (fun r7 _ => ?_)
    refine J_iconst (v := (0 : Int32)) dX1_goThrough_44 (by decide) ?_
    refine J_istore_n (i := 1) (ls2 := [some (.ref 37), some (.int (0 : Int32)), none]) dX1_goThrough_45 rfl rfl (by decide) ?_
    refine J_sub (l1 := [some (.ref 37), some (.int (0 : Int32)), none]) ⟨rfl, ⟨rfl, trivial⟩⟩ ?_
    exact lp_X1_goThrough_46_ok l N    N (0 : Int32) r7
  · exact J_return dX1_goThrough_7 rfl rfl

def f_X7_on (N : Nat) (a1 : Int32) (s0 : jM) : Option (Int32 × jM) := Option.bind (f_X7_isWithin a1 (0 : Int32) (199 : Int32)) fun r1 => if r1 = 0 then (Option.bind (f_X7_refuseAsBad s0) fun r4 => some (r4.1, r4.2)) else (Option.bind (f_X1_goThrough N s0) fun r3 => gd (ib a1 200) <| some ((gI r3 38 (Int32.toNatClampNeg a1)), r3))
set_option maxRecDepth 100000 in
set_option maxHeartbeats 4000000 in
theorem con_X7_on (l : Launch) (N : Nat) (a1 : Int32) (s0 : jM) : Con l (10) yX7_on cX7_on 2 (Option.some Jvm.ClassFile.FieldType.int) (eIM SH) SH [.ref 0, .int a1] s0 (f_X7_on N a1 s0) := by
  refine Con_of (ls0 := [some (.ref 0), some (.int a1)]) (ini := false) (mc := 0) (ms := 0) (by decide +kernel) rfl (Nat.le_of_ble_eq_true rfl) (fun h => by cases h) (fun _ _ => rfl) ?_
  unfold f_X7_on
  refine J_iload_n (i := 1) dX7_on_0 rfl rfl ?_
  refine J_iconst (v := (0 : Int32)) dX7_on_1 (by decide) ?_
  refine J_sipush (v := (199 : Int32)) dX7_on_2 (by decide) ?_
  refine J_callSI [.int a1, .int (0 : Int32), .int (199 : Int32)] dX7_on_5 ca_X7_isWithin lk_RX7_82 st_X7_isWithin rfl rfl ⟨by show _ ≤ _; simp only [rmD]; omega, by show _ ≤ _; simp only [rmD]; omega⟩ (Nat.le_of_ble_eq_true rfl) ⟨Nat.zero_le _, Nat.zero_le _⟩ (con_X7_isWithin l _ _ _ _) (fun r1 _ => ?_)
  refine J_if_ne (tgt := 16) dX7_on_8 (by decide) (fun c2 => ?_) (fun c2 => ?_)
  · refine J_aload_n (i := 0) dX7_on_16 rfl rfl ?_
    refine J_getR dX7_on_17 fl_RX7_49 sh_0_6 ?_
    refine J_callVV 37 [] dX7_on_20 ca_X1_goThrough lk_RX7_139 vi_X1_goThrough rc_37 rfl rfl ⟨by show _ ≤ _; simp only [rmD]; omega, by show _ ≤ _; simp only [rmD]; omega⟩ (Nat.le_of_ble_eq_true rfl) ⟨Nat.zero_le _, Nat.zero_le _⟩ (con_X1_goThrough l N _) (fun r3 _ => ?_)
    refine J_aload_n (i := 0) dX7_on_23 rfl rfl ?_
    refine J_getR dX7_on_24 fl_RX7_49 sh_0_6 ?_
    refine J_getR dX7_on_27 fl_RX7_142 sh_37_2 ?_
    refine J_iload_n (i := 1) dX7_on_30 rfl rfl ?_
    refine J_iald dX7_on_31 sa_38 ?_
    exact J_ireturn dX7_on_32 rfl rfl rfl
  · refine J_aload_n (i := 0) dX7_on_11 rfl rfl ?_
    refine J_callVIM 0 [] dX7_on_12 ca_X7_refuseAsBad lk_RX7_86 vi_X7_refuseAsBad rc_0 rfl rfl ⟨by show _ ≤ _; simp only [rmD]; omega, by show _ ≤ _; simp only [rmD]; omega⟩ (Nat.le_of_ble_eq_true rfl) ⟨Nat.zero_le _, Nat.zero_le _⟩ (con_X7_refuseAsBad l _) (fun r4 _ => ?_)
    exact J_ireturn dX7_on_15 rfl rfl rfl

def f_X7_isWalker (a1 : Int32) (s0 : jM) : Option Int32 := jn_ (fun (_ : Unit) => some (0 : Int32)) fun j1 => if a1 < 0 then (j1 ()) else (if (gI s0 1 4) ≤ a1 then (j1 ()) else (if (8 : Int32) ≤ a1 then (j1 ()) else (some (1 : Int32))))
set_option maxRecDepth 100000 in
set_option maxHeartbeats 4000000 in
theorem con_X7_isWalker (l : Launch) (a1 : Int32) (s0 : jM) : Con l (1) yX7_isWalker cX7_isWalker 2 (Option.some Jvm.ClassFile.FieldType.boolean) (eI SH s0) SH [.ref 0, .int a1] s0 (f_X7_isWalker a1 s0) := by
  refine Con_of (ls0 := [some (.ref 0), some (.int a1)]) (ini := false) (mc := 0) (ms := 0) (by decide +kernel) rfl (Nat.le_of_ble_eq_true rfl) (fun h => by cases h) (fun _ _ => rfl) ?_
  unfold f_X7_isWalker
  refine J_join (P := fun j => ∀ (_ : Unit), J l RX7 cX7_isWalker 2 (Option.some Jvm.ClassFile.FieldType.boolean) false (rmD (1) 0 0) noCx (eI SH s0) SH 0 0 s0 25 [none, none] [] (j ())) ?_ (fun j1 hj1 => ?_)
  · intro _
    refine J_iconst (v := (0 : Int32)) dX7_isWalker_25 (by decide) ?_
    exact J_ireturn dX7_isWalker_26 rfl rfl rfl
  refine J_iload_n (i := 1) dX7_isWalker_0 rfl rfl ?_
  refine J_if_lt (tgt := 25) dX7_isWalker_1 (by decide) (fun c2 => ?_) (fun c2 => ?_)
  · refine J_sub (l1 := [none, none]) trivial ?_
    exact hj1 ()
  · refine J_iload_n (i := 1) dX7_isWalker_4 rfl rfl ?_
    refine J_aload_n (i := 0) dX7_isWalker_5 rfl rfl ?_
    refine J_getR dX7_isWalker_6 fl_RX7_10 sh_0_0 ?_
    refine J_getI dX7_isWalker_9 fl_RX7_90 sh_1_4 ?_
    refine J_icmp_ge (tgt := 25) dX7_isWalker_12 (by decide) (fun c3 => ?_) (fun c3 => ?_)
    · refine J_sub (l1 := [none, none]) trivial ?_
      exact hj1 ()
    · refine J_iload_n (i := 1) dX7_isWalker_15 rfl rfl ?_
      refine J_bipush (v := (8 : Int32)) dX7_isWalker_16 (by decide) ?_
      refine J_icmp_ge (tgt := 25) dX7_isWalker_18 (by decide) (fun c4 => ?_) (fun c4 => ?_)
      · refine J_sub (l1 := [none, none]) trivial ?_
        exact hj1 ()
      · refine J_iconst (v := (1 : Int32)) dX7_isWalker_21 (by decide) ?_
        refine J_goto (tgt := 26) dX7_isWalker_22 (by decide) ?_
        exact J_ireturn dX7_isWalker_26 rfl rfl rfl

def f_X7_stepped (N : Nat) (a1 : Int32) (a2 : Int32) (s0 : jM) : Option (Int32 × jM) := jn_ (fun (_ : Unit) => Option.bind (f_X7_refuseAsBad s0) fun r2 => some (r2.1, r2.2)) fun j1 => Option.bind (f_X7_isWalker a1 s0) fun r3 => if r3 = 0 then (j1 ()) else (Option.bind (f_X7_isWithin a2 (0 : Int32) (1 : Int32)) fun r5 => if r5 = 0 then (j1 ()) else (Option.bind (f_X1_goThrough N s0) fun r7 => if a2 = 0 then (gd (ib a1 8) <| some ((gI r7 39 (Int32.toNatClampNeg a1)), r7)) else (gd (ib a1 8) <| some ((gI r7 40 (Int32.toNatClampNeg a1)), r7))))
set_option maxRecDepth 100000 in
set_option maxHeartbeats 4000000 in
theorem con_X7_stepped (l : Launch) (N : Nat) (a1 : Int32) (a2 : Int32) (s0 : jM) : Con l (10) yX7_stepped cX7_stepped 3 (Option.some Jvm.ClassFile.FieldType.int) (eIM SH) SH [.ref 0, .int a1, .int a2] s0 (f_X7_stepped N a1 a2 s0) := by
  refine Con_of (ls0 := [some (.ref 0), some (.int a1), some (.int a2)]) (ini := false) (mc := 0) (ms := 0) (by decide +kernel) rfl (Nat.le_of_ble_eq_true rfl) (fun h => by cases h) (fun _ _ => rfl) ?_
  unfold f_X7_stepped
  refine J_join (P := fun j => ∀ (_ : Unit), J l RX7 cX7_stepped 3 (Option.some Jvm.ClassFile.FieldType.int) false (rmD (10) 0 0) noCx (eIM SH) SH 0 0 s0 17 [some (.ref 0), none, none] [] (j ())) ?_ (fun j1 hj1 => ?_)
  · intro _
    refine J_aload_n (i := 0) dX7_stepped_17 rfl rfl ?_
    refine J_callVIM 0 [] dX7_stepped_18 ca_X7_refuseAsBad lk_RX7_86 vi_X7_refuseAsBad rc_0 rfl rfl ⟨by show _ ≤ _; simp only [rmD]; omega, by show _ ≤ _; simp only [rmD]; omega⟩ (Nat.le_of_ble_eq_true rfl) ⟨Nat.zero_le _, Nat.zero_le _⟩ (con_X7_refuseAsBad l _) (fun r2 _ => ?_)
    exact J_ireturn dX7_stepped_21 rfl rfl rfl
  refine J_aload_n (i := 0) dX7_stepped_0 rfl rfl ?_
  refine J_iload_n (i := 1) dX7_stepped_1 rfl rfl ?_
  refine J_callVI 0 [.int a1] dX7_stepped_2 ca_X7_isWalker lk_RX7_145 vi_X7_isWalker rc_0 rfl rfl ⟨by show _ ≤ _; simp only [rmD]; omega, by show _ ≤ _; simp only [rmD]; omega⟩ (Nat.le_of_ble_eq_true rfl) ⟨Nat.zero_le _, Nat.zero_le _⟩ (con_X7_isWalker l _ _) (fun r3 _ => ?_)
  refine J_if_eq (tgt := 17) dX7_stepped_5 (by decide) (fun c4 => ?_) (fun c4 => ?_)
  · refine J_sub (l1 := [some (.ref 0), none, none]) ⟨rfl, trivial⟩ ?_
    exact hj1 ()
  · refine J_iload_n (i := 2) dX7_stepped_8 rfl rfl ?_
    refine J_iconst (v := (0 : Int32)) dX7_stepped_9 (by decide) ?_
    refine J_iconst (v := (1 : Int32)) dX7_stepped_10 (by decide) ?_
    refine J_callSI [.int a2, .int (0 : Int32), .int (1 : Int32)] dX7_stepped_11 ca_X7_isWithin lk_RX7_82 st_X7_isWithin rfl rfl ⟨by show _ ≤ _; simp only [rmD]; omega, by show _ ≤ _; simp only [rmD]; omega⟩ (Nat.le_of_ble_eq_true rfl) ⟨Nat.zero_le _, Nat.zero_le _⟩ (con_X7_isWithin l _ _ _ _) (fun r5 _ => ?_)
    refine J_if_ne (tgt := 22) dX7_stepped_14 (by decide) (fun c6 => ?_) (fun c6 => ?_)
    · refine J_aload_n (i := 0) dX7_stepped_22 rfl rfl ?_
      refine J_getR dX7_stepped_23 fl_RX7_49 sh_0_6 ?_
      refine J_callVV 37 [] dX7_stepped_26 ca_X1_goThrough lk_RX7_139 vi_X1_goThrough rc_37 rfl rfl ⟨by show _ ≤ _; simp only [rmD]; omega, by show _ ≤ _; simp only [rmD]; omega⟩ (Nat.le_of_ble_eq_true rfl) ⟨Nat.zero_le _, Nat.zero_le _⟩ (con_X1_goThrough l N _) (fun r7 _ => ?_)
      refine J_iload_n (i := 2) dX7_stepped_29 rfl rfl ?_
      refine J_if_ne (tgt := 45) dX7_stepped_30 (by decide) (fun c8 => ?_) (fun c8 => ?_)
      · refine J_aload_n (i := 0) dX7_stepped_45 rfl rfl ?_
        refine J_getR dX7_stepped_46 fl_RX7_49 sh_0_6 ?_
        refine J_getR dX7_stepped_49 fl_RX7_152 sh_37_4 ?_
        refine J_iload_n (i := 1) dX7_stepped_52 rfl rfl ?_
        refine J_iald dX7_stepped_53 sa_40 ?_
        exact J_ireturn dX7_stepped_54 rfl rfl rfl
      · refine J_aload_n (i := 0) dX7_stepped_33 rfl rfl ?_
        refine J_getR dX7_stepped_34 fl_RX7_49 sh_0_6 ?_
        refine J_getR dX7_stepped_37 fl_RX7_149 sh_37_3 ?_
        refine J_iload_n (i := 1) dX7_stepped_40 rfl rfl ?_
        refine J_iald dX7_stepped_41 sa_39 ?_
        refine J_goto (tgt := 54) dX7_stepped_42 (by decide) ?_
        exact J_ireturn dX7_stepped_54 rfl rfl rfl
    · refine J_sub (l1 := [some (.ref 0), none, none]) ⟨rfl, trivial⟩ ?_
      exact hj1 ()

def f_X7_faulty (N : Nat) (a1 : Int32) (s0 : jM) : Option (Int32 × jM) := Option.bind (f_X7_isWithin a1 (0 : Int32) (1 : Int32)) fun r1 => if r1 = 0 then (Option.bind (f_X7_refuseAsBad s0) fun r5 => some (r5.1, r5.2)) else (Option.bind (f_X1_goThrough N s0) fun r3 => if a1 = 0 then (some ((gI r3 37 6), r3)) else (some ((gI r3 37 7), r3)))
set_option maxRecDepth 100000 in
set_option maxHeartbeats 4000000 in
theorem con_X7_faulty (l : Launch) (N : Nat) (a1 : Int32) (s0 : jM) : Con l (10) yX7_faulty cX7_faulty 2 (Option.some Jvm.ClassFile.FieldType.int) (eIM SH) SH [.ref 0, .int a1] s0 (f_X7_faulty N a1 s0) := by
  refine Con_of (ls0 := [some (.ref 0), some (.int a1)]) (ini := false) (mc := 0) (ms := 0) (by decide +kernel) rfl (Nat.le_of_ble_eq_true rfl) (fun h => by cases h) (fun _ _ => rfl) ?_
  unfold f_X7_faulty
  refine J_iload_n (i := 1) dX7_faulty_0 rfl rfl ?_
  refine J_iconst (v := (0 : Int32)) dX7_faulty_1 (by decide) ?_
  refine J_iconst (v := (1 : Int32)) dX7_faulty_2 (by decide) ?_
  refine J_callSI [.int a1, .int (0 : Int32), .int (1 : Int32)] dX7_faulty_3 ca_X7_isWithin lk_RX7_82 st_X7_isWithin rfl rfl ⟨by show _ ≤ _; simp only [rmD]; omega, by show _ ≤ _; simp only [rmD]; omega⟩ (Nat.le_of_ble_eq_true rfl) ⟨Nat.zero_le _, Nat.zero_le _⟩ (con_X7_isWithin l _ _ _ _) (fun r1 _ => ?_)
  refine J_if_ne (tgt := 14) dX7_faulty_6 (by decide) (fun c2 => ?_) (fun c2 => ?_)
  · refine J_aload_n (i := 0) dX7_faulty_14 rfl rfl ?_
    refine J_getR dX7_faulty_15 fl_RX7_49 sh_0_6 ?_
    refine J_callVV 37 [] dX7_faulty_18 ca_X1_goThrough lk_RX7_139 vi_X1_goThrough rc_37 rfl rfl ⟨by show _ ≤ _; simp only [rmD]; omega, by show _ ≤ _; simp only [rmD]; omega⟩ (Nat.le_of_ble_eq_true rfl) ⟨Nat.zero_le _, Nat.zero_le _⟩ (con_X1_goThrough l N _) (fun r3 _ => ?_)
    refine J_iload_n (i := 1) dX7_faulty_21 rfl rfl ?_
    refine J_if_ne (tgt := 35) dX7_faulty_22 (by decide) (fun c4 => ?_) (fun c4 => ?_)
    · refine J_aload_n (i := 0) dX7_faulty_35 rfl rfl ?_
      refine J_getR dX7_faulty_36 fl_RX7_49 sh_0_6 ?_
      refine J_getI dX7_faulty_39 fl_RX7_158 sh_37_7 ?_
      exact J_ireturn dX7_faulty_42 rfl rfl rfl
    · refine J_aload_n (i := 0) dX7_faulty_25 rfl rfl ?_
      refine J_getR dX7_faulty_26 fl_RX7_49 sh_0_6 ?_
      refine J_getI dX7_faulty_29 fl_RX7_155 sh_37_6 ?_
      refine J_goto (tgt := 42) dX7_faulty_32 (by decide) ?_
      exact J_ireturn dX7_faulty_42 rfl rfl rfl
  · refine J_aload_n (i := 0) dX7_faulty_9 rfl rfl ?_
    refine J_callVIM 0 [] dX7_faulty_10 ca_X7_refuseAsBad lk_RX7_86 vi_X7_refuseAsBad rc_0 rfl rfl ⟨by show _ ≤ _; simp only [rmD]; omega, by show _ ≤ _; simp only [rmD]; omega⟩ (Nat.le_of_ble_eq_true rfl) ⟨Nat.zero_le _, Nat.zero_le _⟩ (con_X7_refuseAsBad l _) (fun r5 _ => ?_)
    exact J_ireturn dX7_faulty_13 rfl rfl rfl

def lp_X0_lookAtCompany_58 (N : Nat) (a1 : Int32) : Nat → Int32 → jM → Option jM
  | 0, _, _ => none
  | q + 1, x4, s5 => if (8 : Int32) ≤ x4 then (some s5) else (jn_ (fun (s8 : jM) => lt_ (x4 + (1 : Int32)) fun x10 => lp_X0_lookAtCompany_58 N a1 q x10 s8) fun j9 => Option.bind (f_X7_holds a1 x4) fun r11 => if r11 = 0 then (j9 s5) else (gd (ib a1 256) <| gd (ib x4 8) <| gd (ib a1 256) <| lt_ (pI s5 43 (Int32.toNatClampNeg a1) (if (gI s5 43 (Int32.toNatClampNeg a1)) < (gI s5 3 (Int32.toNatClampNeg x4)) then (gI s5 3 (Int32.toNatClampNeg x4)) else (gI s5 43 (Int32.toNatClampNeg a1)))) fun s13 => j9 s13))
def f_X0_lookAtCompany (N : Nat) (a1 : Int32) (s0 : jM) : Option jM := jn_ (fun (s1 : jM) => gd (ib a1 256) <| lt_ (pI s1 43 (Int32.toNatClampNeg a1) (0 : Int32)) fun s3 => lp_X0_lookAtCompany_58 N a1 N (0 : Int32) s3) fun j2 => gd (ib a1 256) <| lt_ (pI s0 42 (Int32.toNatClampNeg a1) (-1 : Int32)) fun s14 => Option.bind (f_X4_isWell N a1 (0 : Int32) s14) fun r15 => if r15.1 = 0 then (Option.bind (f_X4_isOdd N a1 (1 : Int32) (0 : Int32) r15.2) fun r17 => if r17.1 = 0 then (j2 r17.2) else (gd (ib a1 256) <| lt_ (pI r17.2 42 (Int32.toNatClampNeg a1) (1 : Int32)) fun s19 => j2 s19)) else (gd (ib a1 256) <| lt_ (pI r15.2 42 (Int32.toNatClampNeg a1) (0 : Int32)) fun s20 => j2 s20)
set_option maxRecDepth 100000 in
set_option maxHeartbeats 4000000 in
theorem lp_X0_lookAtCompany_58_ok (l : Launch) (N : Nat)  (a1 : Int32)  : ∀ (q : Nat) (x4 : Int32) (s5 : jM), J l RX0 cX0_lookAtCompany 3 (Option.none : Option Jvm.ClassFile.FieldType) false (rmD (8) 0 0) noCx (eV SH) SH 0 0 s5 58 [some (.ref 41), some (.int a1), some (.int x4)] [] (lp_X0_lookAtCompany_58 N a1 q x4 s5) := by
  intro q
  induction q with
  | zero => intro x4 s5; exact J_none
  | succ q hrec6 =>
    intro x4 s5
    rw [lp_X0_lookAtCompany_58]
    refine J_iload_n (i := 2) dX0_lookAtCompany_58 rfl rfl ?_
    refine J_bipush (v := (8 : Int32)) dX0_lookAtCompany_59 (by decide) ?_
    refine J_icmp_ge (tgt := 102) dX0_lookAtCompany_61 (by decide) (fun c7 => ?_) (fun c7 => ?_)
    · exact J_return dX0_lookAtCompany_102 rfl rfl
    · refine J_join (P := fun j => ∀ (s8 : jM), J l RX0 cX0_lookAtCompany 3 (Option.none : Option Jvm.ClassFile.FieldType) false (rmD (8) 0 0) noCx (eV SH) SH 0 0 s8 96 [some (.ref 41), some (.int a1), some (.int x4)] [] (j s8)) ?_ (fun j9 hj9 => ?_)
      · intro s8
        refine J_iincN (i := 2) (v := x4 + (1 : Int32)) (LS := fun x10 => [some (.ref 41), some (.int a1), some (.int x10)]) dX0_lookAtCompany_96 rfl (by first | rfl | decide) (fun _ => rfl) (by decide) (fun x10 => ?_)
        refine J_goto (tgt := 58) dX0_lookAtCompany_99 (by decide) ?_
        refine J_sub (l1 := [some (.ref 41), some (.int a1), some (.int x10)]) ⟨rfl, ⟨rfl, ⟨rfl, trivial⟩⟩⟩ ?_
        exact hrec6 x10 s8
      refine J_iload_n (i := 1) dX0_lookAtCompany_64 rfl rfl ?_
      refine J_iload_n (i := 2) dX0_lookAtCompany_65 rfl rfl ?_
      refine J_callSI [.int a1, .int x4] dX0_lookAtCompany_66 ca_X7_holds lk_RX0_86 st_X7_holds rfl rfl ⟨by show _ ≤ _; simp only [rmD]; omega, by show _ ≤ _; simp only [rmD]; omega⟩ (Nat.le_of_ble_eq_true rfl) ⟨Nat.zero_le _, Nat.zero_le _⟩ (con_X7_holds l _ _ _) (fun r11 _ => ?_)
      refine J_if_eq (tgt := 96) dX0_lookAtCompany_69 (by decide) (fun c12 => ?_) (fun c12 => ?_)
      · refine J_sub (l1 := [some (.ref 41), some (.int a1), some (.int x4)]) ⟨rfl, ⟨rfl, ⟨rfl, trivial⟩⟩⟩ ?_
        exact hj9 s5
      · refine J_aload_n (i := 0) dX0_lookAtCompany_72 rfl rfl ?_
        refine J_getR dX0_lookAtCompany_73 fl_RX0_15 sh_41_3 ?_
        refine J_iload_n (i := 1) dX0_lookAtCompany_76 rfl rfl ?_
        refine J_aload_n (i := 0) dX0_lookAtCompany_77 rfl rfl ?_
        refine J_getR dX0_lookAtCompany_78 fl_RX0_15 sh_41_3 ?_
        refine J_iload_n (i := 1) dX0_lookAtCompany_81 rfl rfl ?_
        refine J_iald dX0_lookAtCompany_82 sa_43 ?_
        refine J_aload_n (i := 0) dX0_lookAtCompany_83 rfl rfl ?_
        refine J_getR dX0_lookAtCompany_84 fl_RX0_37 sh_41_0 ?_
        refine J_getR dX0_lookAtCompany_87 fl_RX0_89 sh_1_1 ?_
        refine J_iload_n (i := 2) dX0_lookAtCompany_90 rfl rfl ?_
        refine J_iald dX0_lookAtCompany_91 sa_3 ?_
        refine J_mmax dX0_lookAtCompany_92 (mTB 727 (by decide +kernel) rfl) ⟨by simp only [rmD]; omega, by simp only [rmD, List.map_nil, List.map_cons, List.sum_nil, List.sum_cons, Value.category]; omega⟩ ⟨Nat.zero_le _, Nat.zero_le _⟩ ?_
        refine J_iast dX0_lookAtCompany_95 sa_43 ?_
        refine J_letM rfl (fun s13 => ?_)
        refine J_sub (l1 := [some (.ref 41), some (.int a1), some (.int x4)]) ⟨rfl, ⟨rfl, ⟨rfl, trivial⟩⟩⟩ ?_
        exact hj9 s13
set_option maxRecDepth 100000 in
set_option maxHeartbeats 4000000 in
theorem con_X0_lookAtCompany (l : Launch) (N : Nat) (a1 : Int32) (s0 : jM) : Con l (8) yX0_lookAtCompany cX0_lookAtCompany 3 (Option.none : Option Jvm.ClassFile.FieldType) (eV SH) SH [.ref 41, .int a1] s0 (f_X0_lookAtCompany N a1 s0) := by
  refine Con_of (ls0 := [some (.ref 41), some (.int a1), none]) (ini := false) (mc := 0) (ms := 0) (by decide +kernel) rfl (Nat.le_of_ble_eq_true rfl) (fun h => by cases h) (fun _ _ => rfl) ?_
  unfold f_X0_lookAtCompany
  refine J_join (P := fun j => ∀ (s1 : jM), J l RX0 cX0_lookAtCompany 3 (Option.none : Option Jvm.ClassFile.FieldType) false (rmD (8) 0 0) noCx (eV SH) SH 0 0 s1 49 [some (.ref 41), some (.int a1), none] [] (j s1)) ?_ (fun j2 hj2 => ?_)
  · intro s1
    refine J_aload_n (i := 0) dX0_lookAtCompany_49 rfl rfl ?_
    refine J_getR dX0_lookAtCompany_50 fl_RX0_15 sh_41_3 ?_
    refine J_iload_n (i := 1) dX0_lookAtCompany_53 rfl rfl ?_
    refine J_iconst (v := (0 : Int32)) dX0_lookAtCompany_54 (by decide) ?_
    refine J_iast dX0_lookAtCompany_55 sa_43 ?_
    refine J_letM rfl (fun s3 => ?_)
    refine J_iconst (v := (0 : Int32)) dX0_lookAtCompany_56 (by decide) ?_
    refine J_istore_n (i := 2) (ls2 := [some (.ref 41), some (.int a1), some (.int (0 : Int32))]) dX0_lookAtCompany_57 rfl rfl (by decide) ?_
    refine J_sub (l1 := [some (.ref 41), some (.int a1), some (.int (0 : Int32))]) ⟨rfl, ⟨rfl, ⟨rfl, trivial⟩⟩⟩ ?_
    exact lp_X0_lookAtCompany_58_ok l N  a1  N (0 : Int32) s3
  refine J_aload_n (i := 0) dX0_lookAtCompany_0 rfl rfl ?_
  refine J_getR dX0_lookAtCompany_1 fl_RX0_9 sh_41_2 ?_
  refine J_iload_n (i := 1) dX0_lookAtCompany_4 rfl rfl ?_
  refine J_iconst (v := (-1 : Int32)) dX0_lookAtCompany_5 (by decide) ?_
  refine J_iast dX0_lookAtCompany_6 sa_42 ?_
  refine J_letM rfl (fun s14 => ?_)
  refine J_aload_n (i := 0) dX0_lookAtCompany_7 rfl rfl ?_
  refine J_getR dX0_lookAtCompany_8 fl_RX0_41 sh_41_1 ?_
  refine J_iload_n (i := 1) dX0_lookAtCompany_11 rfl rfl ?_
  refine J_iconst (v := (0 : Int32)) dX0_lookAtCompany_12 (by decide) ?_
  refine J_callVIM 33 [.int a1, .int (0 : Int32)] dX0_lookAtCompany_13 ca_X4_isWell lk_RX0_76 vi_X4_isWell rc_33 rfl rfl ⟨by show _ ≤ _; simp only [rmD]; omega, by show _ ≤ _; simp only [rmD]; omega⟩ (Nat.le_of_ble_eq_true rfl) ⟨Nat.zero_le _, Nat.zero_le _⟩ (con_X4_isWell l N _ _ _) (fun r15 _ => ?_)
  refine J_if_eq (tgt := 29) dX0_lookAtCompany_16 (by decide) (fun c16 => ?_) (fun c16 => ?_)
  · refine J_aload_n (i := 0) dX0_lookAtCompany_29 rfl rfl ?_
    refine J_getR dX0_lookAtCompany_30 fl_RX0_41 sh_41_1 ?_
    refine J_iload_n (i := 1) dX0_lookAtCompany_33 rfl rfl ?_
    refine J_iconst (v := (1 : Int32)) dX0_lookAtCompany_34 (by decide) ?_
    refine J_iconst (v := (0 : Int32)) dX0_lookAtCompany_35 (by decide) ?_
    refine J_callVIM 33 [.int a1, .int (1 : Int32), .int (0 : Int32)] dX0_lookAtCompany_36 ca_X4_isOdd lk_RX0_82 vi_X4_isOdd rc_33 rfl rfl ⟨by show _ ≤ _; simp only [rmD]; omega, by show _ ≤ _; simp only [rmD]; omega⟩ (Nat.le_of_ble_eq_true rfl) ⟨Nat.zero_le _, Nat.zero_le _⟩ (con_X4_isOdd l N _ _ _ _) (fun r17 _ => ?_)
    refine J_if_eq (tgt := 49) dX0_lookAtCompany_39 (by decide) (fun c18 => ?_) (fun c18 => ?_)
    · refine J_sub (l1 := [some (.ref 41), some (.int a1), none]) ⟨rfl, ⟨rfl, trivial⟩⟩ ?_
      exact hj2 r17.2
    · refine J_aload_n (i := 0) dX0_lookAtCompany_42 rfl rfl ?_
      refine J_getR dX0_lookAtCompany_43 fl_RX0_9 sh_41_2 ?_
      refine J_iload_n (i := 1) dX0_lookAtCompany_46 rfl rfl ?_
      refine J_iconst (v := (1 : Int32)) dX0_lookAtCompany_47 (by decide) ?_
      refine J_iast dX0_lookAtCompany_48 sa_42 ?_
      refine J_letM rfl (fun s19 => ?_)
      refine J_sub (l1 := [some (.ref 41), some (.int a1), none]) ⟨rfl, ⟨rfl, trivial⟩⟩ ?_
      exact hj2 s19
  · refine J_aload_n (i := 0) dX0_lookAtCompany_19 rfl rfl ?_
    refine J_getR dX0_lookAtCompany_20 fl_RX0_9 sh_41_2 ?_
    refine J_iload_n (i := 1) dX0_lookAtCompany_23 rfl rfl ?_
    refine J_iconst (v := (0 : Int32)) dX0_lookAtCompany_24 (by decide) ?_
    refine J_iast dX0_lookAtCompany_25 sa_42 ?_
    refine J_letM rfl (fun s20 => ?_)
    refine J_goto (tgt := 49) dX0_lookAtCompany_26 (by decide) ?_
    refine J_sub (l1 := [some (.ref 41), some (.int a1), none]) ⟨rfl, ⟨rfl, trivial⟩⟩ ?_
    exact hj2 s20

def f_X0_tryFirst (a1 : Int32) (a2 : Int32) (s0 : jM) : Option jM := jn_ (fun (x1 : Int32) (x2 : Int32) (x3 : Int32) (x4 : Int32) (x5 : Int32) => jn_ (fun (s7 : jM) => jn_ (fun (_ : Unit) => gd (ib x1 256) <| gd (ib a2 256) <| lt_ (pI s7 47 (Int32.toNatClampNeg a2) (x2 + (gI s7 47 (Int32.toNatClampNeg x1)))) fun s10 => some s10) fun j9 => gd (ib a2 256) <| if (gI s7 47 (Int32.toNatClampNeg a2)) = (-1 : Int32) then (j9 ()) else (gd (ib x1 256) <| gd (ib a2 256) <| if (gI s7 47 (Int32.toNatClampNeg a2)) ≤ (x2 + (gI s7 47 (Int32.toNatClampNeg x1))) then (some s7) else (j9 ()))) fun j8 => jn_ (fun (_ : Unit) => gd (ib a2 256) <| lt_ (pI s0 44 (Int32.toNatClampNeg a2) x3) fun s14 => gd (ib a2 256) <| lt_ (pI s14 45 (Int32.toNatClampNeg a2) x4) fun s15 => gd (ib a2 256) <| lt_ (pI s15 46 (Int32.toNatClampNeg a2) a1) fun s16 => j8 s16) fun j13 => if x5 = 0 then (gd (ib a2 256) <| if x3 = (gI s0 44 (Int32.toNatClampNeg a2)) then (gd (ib a2 256) <| if (gI s0 45 (Int32.toNatClampNeg a2)) ≤ x4 then (j8 s0) else (j13 ())) else (j8 s0)) else (j13 ())) fun j6 => jn_ (fun (x20 : Int32) (x21 : Int32) (x22 : Int32) (x23 : Int32) => j6 x20 x21 x22 x23 (1 : Int32)) fun j24 => lt_ (a2 &&& (a1 ^^^ (-1 : Int32))) fun x25 => gd (ib a1 256) <| lt_ ((gI s0 42 (Int32.toNatClampNeg a1)) * (gI s0 1 6)) fun x26 => gd (ib a1 256) <| gd (ib x25 256) <| lt_ ((gI s0 43 (Int32.toNatClampNeg a1)) + (gI s0 44 (Int32.toNatClampNeg x25))) fun x27 => gd (ib x25 256) <| lt_ (x26 + (gI s0 45 (Int32.toNatClampNeg x25))) fun x28 => gd (ib a2 256) <| if (gI s0 44 (Int32.toNatClampNeg a2)) = (-1 : Int32) then (j24 x25 x26 x27 x28) else (gd (ib a2 256) <| if (gI s0 44 (Int32.toNatClampNeg a2)) ≤ x27 then (j6 x25 x26 x27 x28 (0 : Int32)) else (j24 x25 x26 x27 x28))
set_option maxRecDepth 100000 in
set_option maxHeartbeats 4000000 in
theorem con_X0_tryFirst (l : Launch) (a1 : Int32) (a2 : Int32) (s0 : jM) : Con l (1) yX0_tryFirst cX0_tryFirst 8 (Option.none : Option Jvm.ClassFile.FieldType) (eV SH) SH [.ref 41, .int a1, .int a2] s0 (f_X0_tryFirst a1 a2 s0) := by
  refine Con_of (ls0 := [some (.ref 41), some (.int a1), some (.int a2), none, none, none, none, none]) (ini := false) (mc := 0) (ms := 0) (by decide +kernel) rfl (Nat.le_of_ble_eq_true rfl) (fun h => by cases h) (fun _ _ => rfl) ?_
  unfold f_X0_tryFirst
  refine J_join (P := fun j => ∀ (x1 : Int32) (x2 : Int32) (x3 : Int32) (x4 : Int32) (x5 : Int32), J l RX0 cX0_tryFirst 8 (Option.none : Option Jvm.ClassFile.FieldType) false (rmD (1) 0 0) noCx (eV SH) SH 0 0 s0 74 [some (.ref 41), some (.int a1), some (.int a2), some (.int x1), some (.int x2), some (.int x3), some (.int x4), none] [.int x5] (j x1 x2 x3 x4 x5)) ?_ (fun j6 hj6 => ?_)
  · intro x1 x2 x3 x4 x5
    refine J_join (P := fun j => ∀ (s7 : jM), J l RX0 cX0_tryFirst 8 (Option.none : Option Jvm.ClassFile.FieldType) false (rmD (1) 0 0) noCx (eV SH) SH 0 0 s7 126 [some (.ref 41), none, some (.int a2), some (.int x1), some (.int x2), none, none, none] [] (j s7)) ?_ (fun j8 hj8 => ?_)
    · intro s7
      refine J_join (P := fun j => ∀ (_ : Unit), J l RX0 cX0_tryFirst 8 (Option.none : Option Jvm.ClassFile.FieldType) false (rmD (1) 0 0) noCx (eV SH) SH 0 0 s7 154 [some (.ref 41), none, some (.int a2), some (.int x1), some (.int x2), none, none, none] [] (j ())) ?_ (fun j9 hj9 => ?_)
      · intro _
        refine J_aload_n (i := 0) dX0_tryFirst_154 rfl rfl ?_
        refine J_getR dX0_tryFirst_155 fl_RX0_27 sh_41_7 ?_
        refine J_iload_n (i := 2) dX0_tryFirst_158 rfl rfl ?_
        refine J_iload (i := 4) dX0_tryFirst_159 rfl ?_
        refine J_aload_n (i := 0) dX0_tryFirst_161 rfl rfl ?_
        refine J_getR dX0_tryFirst_162 fl_RX0_27 sh_41_7 ?_
        refine J_iload_n (i := 3) dX0_tryFirst_165 rfl rfl ?_
        refine J_iald dX0_tryFirst_166 sa_47 ?_
        refine J_iadd dX0_tryFirst_167 ?_
        refine J_iast dX0_tryFirst_168 sa_47 ?_
        refine J_letM rfl (fun s10 => ?_)
        exact J_return dX0_tryFirst_169 rfl rfl
      refine J_aload_n (i := 0) dX0_tryFirst_126 rfl rfl ?_
      refine J_getR dX0_tryFirst_127 fl_RX0_27 sh_41_7 ?_
      refine J_iload_n (i := 2) dX0_tryFirst_130 rfl rfl ?_
      refine J_iald dX0_tryFirst_131 sa_47 ?_
      refine J_iconst (v := (-1 : Int32)) dX0_tryFirst_132 (by decide) ?_
      refine J_icmp_eq (tgt := 154) dX0_tryFirst_133 (by decide) (fun c11 => ?_) (fun c11 => ?_)
      · refine J_sub (l1 := [some (.ref 41), none, some (.int a2), some (.int x1), some (.int x2), none, none, none]) ⟨rfl, ⟨rfl, ⟨rfl, ⟨rfl, trivial⟩⟩⟩⟩ ?_
        exact hj9 ()
      · refine J_iload (i := 4) dX0_tryFirst_136 rfl ?_
        refine J_aload_n (i := 0) dX0_tryFirst_138 rfl rfl ?_
        refine J_getR dX0_tryFirst_139 fl_RX0_27 sh_41_7 ?_
        refine J_iload_n (i := 3) dX0_tryFirst_142 rfl rfl ?_
        refine J_iald dX0_tryFirst_143 sa_47 ?_
        refine J_iadd dX0_tryFirst_144 ?_
        refine J_aload_n (i := 0) dX0_tryFirst_145 rfl rfl ?_
        refine J_getR dX0_tryFirst_146 fl_RX0_27 sh_41_7 ?_
        refine J_iload_n (i := 2) dX0_tryFirst_149 rfl rfl ?_
        refine J_iald dX0_tryFirst_150 sa_47 ?_
        refine J_icmp_ge (tgt := 169) dX0_tryFirst_151 (by decide) (fun c12 => ?_) (fun c12 => ?_)
        · exact J_return dX0_tryFirst_169 rfl rfl
        · refine J_sub (l1 := [some (.ref 41), none, some (.int a2), some (.int x1), some (.int x2), none, none, none]) ⟨rfl, ⟨rfl, ⟨rfl, ⟨rfl, trivial⟩⟩⟩⟩ ?_
          exact hj9 ()
    refine J_join (P := fun j => ∀ (_ : Unit), J l RX0 cX0_tryFirst 8 (Option.none : Option Jvm.ClassFile.FieldType) false (rmD (1) 0 0) noCx (eV SH) SH 0 0 s0 103 [some (.ref 41), some (.int a1), some (.int a2), some (.int x1), some (.int x2), some (.int x3), some (.int x4), none] [] (j ())) ?_ (fun j13 hj13 => ?_)
    · intro _
      refine J_aload_n (i := 0) dX0_tryFirst_103 rfl rfl ?_
      refine J_getR dX0_tryFirst_104 fl_RX0_18 sh_41_4 ?_
      refine J_iload_n (i := 2) dX0_tryFirst_107 rfl rfl ?_
      refine J_iload (i := 5) dX0_tryFirst_108 rfl ?_
      refine J_iast dX0_tryFirst_110 sa_44 ?_
      refine J_letM rfl (fun s14 => ?_)
      refine J_aload_n (i := 0) dX0_tryFirst_111 rfl rfl ?_
      refine J_getR dX0_tryFirst_112 fl_RX0_21 sh_41_5 ?_
      refine J_iload_n (i := 2) dX0_tryFirst_115 rfl rfl ?_
      refine J_iload (i := 6) dX0_tryFirst_116 rfl ?_
      refine J_iast dX0_tryFirst_118 sa_45 ?_
      refine J_letM rfl (fun s15 => ?_)
      refine J_aload_n (i := 0) dX0_tryFirst_119 rfl rfl ?_
      refine J_getR dX0_tryFirst_120 fl_RX0_24 sh_41_6 ?_
      refine J_iload_n (i := 2) dX0_tryFirst_123 rfl rfl ?_
      refine J_iload_n (i := 1) dX0_tryFirst_124 rfl rfl ?_
      refine J_iast dX0_tryFirst_125 sa_46 ?_
      refine J_letM rfl (fun s16 => ?_)
      refine J_sub (l1 := [some (.ref 41), none, some (.int a2), some (.int x1), some (.int x2), none, none, none]) ⟨rfl, ⟨rfl, ⟨rfl, ⟨rfl, trivial⟩⟩⟩⟩ ?_
      exact hj8 s16
    refine J_istore (i := 7) (ls2 := [some (.ref 41), some (.int a1), some (.int a2), some (.int x1), some (.int x2), some (.int x3), some (.int x4), some (.int x5)]) dX0_tryFirst_74 rfl (by decide) ?_
    refine J_iload (i := 7) dX0_tryFirst_76 rfl ?_
    refine J_if_ne (tgt := 103) dX0_tryFirst_78 (by decide) (fun c17 => ?_) (fun c17 => ?_)
    · refine J_sub (l1 := [some (.ref 41), some (.int a1), some (.int a2), some (.int x1), some (.int x2), some (.int x3), some (.int x4), none]) ⟨rfl, ⟨rfl, ⟨rfl, ⟨rfl, ⟨rfl, ⟨rfl, ⟨rfl, trivial⟩⟩⟩⟩⟩⟩⟩ ?_
      exact hj13 ()
    · refine J_iload (i := 5) dX0_tryFirst_81 rfl ?_
      refine J_aload_n (i := 0) dX0_tryFirst_83 rfl rfl ?_
      refine J_getR dX0_tryFirst_84 fl_RX0_18 sh_41_4 ?_
      refine J_iload_n (i := 2) dX0_tryFirst_87 rfl rfl ?_
      refine J_iald dX0_tryFirst_88 sa_44 ?_
      refine J_icmp_ne (tgt := 126) dX0_tryFirst_89 (by decide) (fun c18 => ?_) (fun c18 => ?_)
      · refine J_sub (l1 := [some (.ref 41), none, some (.int a2), some (.int x1), some (.int x2), none, none, none]) ⟨rfl, ⟨rfl, ⟨rfl, ⟨rfl, trivial⟩⟩⟩⟩ ?_
        exact hj8 s0
      · refine J_iload (i := 6) dX0_tryFirst_92 rfl ?_
        refine J_aload_n (i := 0) dX0_tryFirst_94 rfl rfl ?_
        refine J_getR dX0_tryFirst_95 fl_RX0_21 sh_41_5 ?_
        refine J_iload_n (i := 2) dX0_tryFirst_98 rfl rfl ?_
        refine J_iald dX0_tryFirst_99 sa_45 ?_
        refine J_icmp_ge (tgt := 126) dX0_tryFirst_100 (by decide) (fun c19 => ?_) (fun c19 => ?_)
        · refine J_sub (l1 := [some (.ref 41), none, some (.int a2), some (.int x1), some (.int x2), none, none, none]) ⟨rfl, ⟨rfl, ⟨rfl, ⟨rfl, trivial⟩⟩⟩⟩ ?_
          exact hj8 s0
        · refine J_sub (l1 := [some (.ref 41), some (.int a1), some (.int a2), some (.int x1), some (.int x2), some (.int x3), some (.int x4), none]) ⟨rfl, ⟨rfl, ⟨rfl, ⟨rfl, ⟨rfl, ⟨rfl, ⟨rfl, trivial⟩⟩⟩⟩⟩⟩⟩ ?_
          exact hj13 ()
  refine J_join (P := fun j => ∀ (x20 : Int32) (x21 : Int32) (x22 : Int32) (x23 : Int32), J l RX0 cX0_tryFirst 8 (Option.none : Option Jvm.ClassFile.FieldType) false (rmD (1) 0 0) noCx (eV SH) SH 0 0 s0 69 [some (.ref 41), some (.int a1), some (.int a2), some (.int x20), some (.int x21), some (.int x22), some (.int x23), none] [] (j x20 x21 x22 x23)) ?_ (fun j24 hj24 => ?_)
  · intro x20 x21 x22 x23
    refine J_iconst (v := (1 : Int32)) dX0_tryFirst_69 (by decide) ?_
    refine J_goto (tgt := 74) dX0_tryFirst_70 (by decide) ?_
    refine J_sub (l1 := [some (.ref 41), some (.int a1), some (.int a2), some (.int x20), some (.int x21), some (.int x22), some (.int x23), none]) ⟨rfl, ⟨rfl, ⟨rfl, ⟨rfl, ⟨rfl, ⟨rfl, ⟨rfl, trivial⟩⟩⟩⟩⟩⟩⟩ ?_
    exact hj6 x20 x21 x22 x23 (1 : Int32)
  refine J_iload_n (i := 2) dX0_tryFirst_0 rfl rfl ?_
  refine J_iload_n (i := 1) dX0_tryFirst_1 rfl rfl ?_
  refine J_iconst (v := (-1 : Int32)) dX0_tryFirst_2 (by decide) ?_
  refine J_ixor dX0_tryFirst_3 ?_
  refine J_iand dX0_tryFirst_4 ?_
  refine J_istore_nN (i := 3) (LS := fun x25 => [some (.ref 41), some (.int a1), some (.int a2), some (.int x25), none, none, none, none]) dX0_tryFirst_5 rfl (fun _ => rfl) (by decide) (fun x25 => ?_)
  refine J_aload_n (i := 0) dX0_tryFirst_6 rfl rfl ?_
  refine J_getR dX0_tryFirst_7 fl_RX0_9 sh_41_2 ?_
  refine J_iload_n (i := 1) dX0_tryFirst_10 rfl rfl ?_
  refine J_iald dX0_tryFirst_11 sa_42 ?_
  refine J_aload_n (i := 0) dX0_tryFirst_12 rfl rfl ?_
  refine J_getR dX0_tryFirst_13 fl_RX0_37 sh_41_0 ?_
  refine J_getI dX0_tryFirst_16 fl_RX0_102 sh_1_6 ?_
  refine J_imul dX0_tryFirst_19 ?_
  refine J_istoreN (i := 4) (LS := fun x26 => [some (.ref 41), some (.int a1), some (.int a2), some (.int x25), some (.int x26), none, none, none]) dX0_tryFirst_20 (fun _ => rfl) (by decide) (fun x26 => ?_)
  refine J_aload_n (i := 0) dX0_tryFirst_22 rfl rfl ?_
  refine J_getR dX0_tryFirst_23 fl_RX0_15 sh_41_3 ?_
  refine J_iload_n (i := 1) dX0_tryFirst_26 rfl rfl ?_
  refine J_iald dX0_tryFirst_27 sa_43 ?_
  refine J_aload_n (i := 0) dX0_tryFirst_28 rfl rfl ?_
  refine J_getR dX0_tryFirst_29 fl_RX0_18 sh_41_4 ?_
  refine J_iload_n (i := 3) dX0_tryFirst_32 rfl rfl ?_
  refine J_iald dX0_tryFirst_33 sa_44 ?_
  refine J_iadd dX0_tryFirst_34 ?_
  refine J_istoreN (i := 5) (LS := fun x27 => [some (.ref 41), some (.int a1), some (.int a2), some (.int x25), some (.int x26), some (.int x27), none, none]) dX0_tryFirst_35 (fun _ => rfl) (by decide) (fun x27 => ?_)
  refine J_iload (i := 4) dX0_tryFirst_37 rfl ?_
  refine J_aload_n (i := 0) dX0_tryFirst_39 rfl rfl ?_
  refine J_getR dX0_tryFirst_40 fl_RX0_21 sh_41_5 ?_
  refine J_iload_n (i := 3) dX0_tryFirst_43 rfl rfl ?_
  refine J_iald dX0_tryFirst_44 sa_45 ?_
  refine J_iadd dX0_tryFirst_45 ?_
  refine J_istoreN (i := 6) (LS := fun x28 => [some (.ref 41), some (.int a1), some (.int a2), some (.int x25), some (.int x26), some (.int x27), some (.int x28), none]) dX0_tryFirst_46 (fun _ => rfl) (by decide) (fun x28 => ?_)
  refine J_aload_n (i := 0) dX0_tryFirst_48 rfl rfl ?_
  refine J_getR dX0_tryFirst_49 fl_RX0_18 sh_41_4 ?_
  refine J_iload_n (i := 2) dX0_tryFirst_52 rfl rfl ?_
  refine J_iald dX0_tryFirst_53 sa_44 ?_
  refine J_iconst (v := (-1 : Int32)) dX0_tryFirst_54 (by decide) ?_
  refine J_icmp_eq (tgt := 69) dX0_tryFirst_55 (by decide) (fun c29 => ?_) (fun c29 => ?_)
  · refine J_sub (l1 := [some (.ref 41), some (.int a1), some (.int a2), some (.int x25), some (.int x26), some (.int x27), some (.int x28), none]) ⟨rfl, ⟨rfl, ⟨rfl, ⟨rfl, ⟨rfl, ⟨rfl, ⟨rfl, trivial⟩⟩⟩⟩⟩⟩⟩ ?_
    exact hj24 x25 x26 x27 x28
  · refine J_iload (i := 5) dX0_tryFirst_58 rfl ?_
    refine J_aload_n (i := 0) dX0_tryFirst_60 rfl rfl ?_
    refine J_getR dX0_tryFirst_61 fl_RX0_18 sh_41_4 ?_
    refine J_iload_n (i := 2) dX0_tryFirst_64 rfl rfl ?_
    refine J_iald dX0_tryFirst_65 sa_44 ?_
    refine J_icmp_ge (tgt := 73) dX0_tryFirst_66 (by decide) (fun c30 => ?_) (fun c30 => ?_)
    · refine J_iconst (v := (0 : Int32)) dX0_tryFirst_73 (by decide) ?_
      refine J_sub (l1 := [some (.ref 41), some (.int a1), some (.int a2), some (.int x25), some (.int x26), some (.int x27), some (.int x28), none]) ⟨rfl, ⟨rfl, ⟨rfl, ⟨rfl, ⟨rfl, ⟨rfl, ⟨rfl, trivial⟩⟩⟩⟩⟩⟩⟩ ?_
      exact hj6 x25 x26 x27 x28 (0 : Int32)
    · refine J_sub (l1 := [some (.ref 41), some (.int a1), some (.int a2), some (.int x25), some (.int x26), some (.int x27), some (.int x28), none]) ⟨rfl, ⟨rfl, ⟨rfl, ⟨rfl, ⟨rfl, ⟨rfl, ⟨rfl, trivial⟩⟩⟩⟩⟩⟩⟩ ?_
      exact hj24 x25 x26 x27 x28
