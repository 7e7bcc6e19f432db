def f_X8_said  (s0 : jM) : Option Int32 := gd (ib (100 : Int32) 101) <| some (gI s0 54 (Int32.toNatClampNeg (100 : Int32)))
set_option maxRecDepth 100000 in
set_option maxHeartbeats 4000000 in
theorem con_X8_said (l : Launch) (s0 : jM) : Con l (1) yX8_said cX8_said 1 (Option.some Jvm.ClassFile.FieldType.int) (eI SH s0) SH [.ref 53] s0 (f_X8_said s0) := by
  refine Con_of (ls0 := [some (.ref 53)]) (ini := false) (mc := 0) (ms := 0) (by decide +kernel) rfl (Nat.le_of_ble_eq_true rfl) (fun h => by cases h) (fun _ _ => rfl) ?_
  unfold f_X8_said
  refine J_aload_n (i := 0) dX8_said_0 rfl rfl ?_
  refine J_getR dX8_said_1 fl_RX8_7 sh_53_0 ?_
  refine J_bipush (v := (100 : Int32)) dX8_said_4 (by decide) ?_
  refine J_iald dX8_said_6 sa_54 ?_
  exact J_ireturn dX8_said_7 rfl rfl rfl

def f_X8_say (a1 : Int32) (a2 : Int32) (a3 : Int32) (s0 : jM) : Option (Int32 × jM) := jn_ (fun (_ : Unit) => Option.bind (f_X8_bad (-2 : Int32) s0) fun r2 => some (r2.1, r2.2)) fun j1 => Option.bind (f_X8_isWalker a1 s0) fun r3 => if r3 = 0 then (j1 ()) else (Option.bind (f_X8_in (Int32.toInt64 a3) (0 : Int64) (62 : Int64)) fun r5 => if r5 = 0 then (j1 ()) else (Option.bind (f_X8_in (Int32.toInt64 a2) (0 : Int64) (Int32.toInt64 a3)) fun r7 => if r7 = 0 then (j1 ()) else (Option.bind (f_X8_said s0) fun r9 => if r9 = (8 : Int32) then (Option.bind (f_X8_full s0) fun r15 => some (r15.1, r15.2)) else (gd (ib ((75 : Int32) + ((3 : Int32) * r9)) 101) <| lt_ (pI s0 54 (Int32.toNatClampNeg ((75 : Int32) + ((3 : Int32) * r9))) a1) fun s11 => gd (ib (((75 : Int32) + ((3 : Int32) * r9)) + (1 : Int32)) 101) <| lt_ (pI s11 54 (Int32.toNatClampNeg (((75 : Int32) + ((3 : Int32) * r9)) + (1 : Int32))) a2) fun s12 => gd (ib (((75 : Int32) + ((3 : Int32) * r9)) + (2 : Int32)) 101) <| lt_ (pI s12 54 (Int32.toNatClampNeg (((75 : Int32) + ((3 : Int32) * r9)) + (2 : Int32))) a3) fun s13 => gd (ib (100 : Int32) 101) <| gd (ib (100 : Int32) 101) <| lt_ (pI s13 54 (Int32.toNatClampNeg (100 : Int32)) ((gI s13 54 (Int32.toNatClampNeg (100 : Int32))) + (1 : Int32))) fun s14 => some (r9, s14)))))
set_option maxRecDepth 100000 in
set_option maxHeartbeats 4000000 in
theorem con_X8_say (l : Launch) (a1 : Int32) (a2 : Int32) (a3 : Int32) (s0 : jM) : Con l (3) yX8_say cX8_say 5 (Option.some Jvm.ClassFile.FieldType.int) (eIM SH) SH [.ref 53, .int a1, .int a2, .int a3] s0 (f_X8_say a1 a2 a3 s0) := by
  refine Con_of (ls0 := [some (.ref 53), some (.int a1), some (.int a2), some (.int a3), none]) (ini := false) (mc := 0) (ms := 0) (by decide +kernel) rfl (Nat.le_of_ble_eq_true rfl) (fun h => by cases h) (fun _ _ => rfl) ?_
  unfold f_X8_say
  refine J_join (P := fun j => ∀ (_ : Unit), J l RX8 cX8_say 5 (Option.some Jvm.ClassFile.FieldType.int) false (rmD (3) 0 0) noCx (eIM SH) SH 0 0 s0 31 [some (.ref 53), none, none, none, none] [] (j ())) ?_ (fun j1 hj1 => ?_)
  · intro _
    refine J_aload_n (i := 0) dX8_say_31 rfl rfl ?_
    refine J_bipush (v := (-2 : Int32)) dX8_say_32 (by decide) ?_
    refine J_callVIM 53 [.int (-2 : Int32)] dX8_say_34 ca_X8_bad lk_RX8_87 vi_X8_bad rc_53 rfl rfl ⟨by show _ ≤ _; simp only [rmD]; omega, by show _ ≤ _; simp only [rmD]; omega⟩ (Nat.le_of_ble_eq_true rfl) ⟨Nat.zero_le _, Nat.zero_le _⟩ (con_X8_bad l _ _) (fun r2 _ => ?_)
    exact J_ireturn dX8_say_37 rfl rfl rfl
  refine J_aload_n (i := 0) dX8_say_0 rfl rfl ?_
  refine J_iload_n (i := 1) dX8_say_1 rfl rfl ?_
  refine J_callVI 53 [.int a1] dX8_say_2 ca_X8_isWalker lk_RX8_203 vi_X8_isWalker rc_53 rfl rfl ⟨by show _ ≤ _; simp only [rmD]; omega, by show _ ≤ _; simp only [rmD]; omega⟩ (Nat.le_of_ble_eq_true rfl) ⟨Nat.zero_le _, Nat.zero_le _⟩ (con_X8_isWalker l _ _) (fun r3 _ => ?_)
  refine J_if_eq (tgt := 31) dX8_say_5 (by decide) (fun c4 => ?_) (fun c4 => ?_)
  · refine J_sub (l1 := [some (.ref 53), none, none, none, none]) ⟨rfl, trivial⟩ ?_
    exact hj1 ()
  · refine J_iload_n (i := 3) dX8_say_8 rfl rfl ?_
    refine J_i2l dX8_say_9 ?_
    refine J_lconst (v := (0 : Int64)) dX8_say_10 (by decide) ?_
    refine J_ldc2 (v := (62 : Int64)) dX8_say_11 kw_RX8_241 ?_
    refine J_callSI [.long (Int32.toInt64 a3), .long (0 : Int64), .long (62 : Int64)] dX8_say_14 ca_X8_in lk_RX8_74 st_X8_in rfl rfl ⟨by show _ ≤ _; simp only [rmD]; omega, by show _ ≤ _; simp only [rmD]; omega⟩ (Nat.le_of_ble_eq_true rfl) ⟨Nat.zero_le _, Nat.zero_le _⟩ (con_X8_in l _ _ _ _) (fun r5 _ => ?_)
    refine J_if_eq (tgt := 31) dX8_say_17 (by decide) (fun c6 => ?_) (fun c6 => ?_)
    · refine J_sub (l1 := [some (.ref 53), none, none, none, none]) ⟨rfl, trivial⟩ ?_
      exact hj1 ()
    · refine J_iload_n (i := 2) dX8_say_20 rfl rfl ?_
      refine J_i2l dX8_say_21 ?_
      refine J_lconst (v := (0 : Int64)) dX8_say_22 (by decide) ?_
      refine J_iload_n (i := 3) dX8_say_23 rfl rfl ?_
      refine J_i2l dX8_say_24 ?_
      refine J_callSI [.long (Int32.toInt64 a2), .long (0 : Int64), .long (Int32.toInt64 a3)] dX8_say_25 ca_X8_in lk_RX8_74 st_X8_in rfl rfl ⟨by show _ ≤ _; simp only [rmD]; omega, by show _ ≤ _; simp only [rmD]; omega⟩ (Nat.le_of_ble_eq_true rfl) ⟨Nat.zero_le _, Nat.zero_le _⟩ (con_X8_in l _ _ _ _) (fun r7 _ => ?_)
      refine J_if_ne (tgt := 38) dX8_say_28 (by decide) (fun c8 => ?_) (fun c8 => ?_)
      · refine J_aload_n (i := 0) dX8_say_38 rfl rfl ?_
        refine J_callVI 53 [] dX8_say_39 ca_X8_said lk_RX8_243 vi_X8_said rc_53 rfl rfl ⟨by show _ ≤ _; simp only [rmD]; omega, by show _ ≤ _; simp only [rmD]; omega⟩ (Nat.le_of_ble_eq_true rfl) ⟨Nat.zero_le _, Nat.zero_le _⟩ (con_X8_said l _) (fun r9 _ => ?_)
        refine J_istore (i := 4) (ls2 := [some (.ref 53), some (.int a1), some (.int a2), some (.int a3), some (.int r9)]) dX8_say_42 rfl (by decide) ?_
        refine J_iload (i := 4) dX8_say_44 rfl ?_
        refine J_bipush (v := (8 : Int32)) dX8_say_46 (by decide) ?_
        refine J_icmp_ne (tgt := 56) dX8_say_48 (by decide) (fun c10 => ?_) (fun c10 => ?_)
        · refine J_aload_n (i := 0) dX8_say_56 rfl rfl ?_
          refine J_getR dX8_say_57 fl_RX8_7 sh_53_0 ?_
          refine J_bipush (v := (75 : Int32)) dX8_say_60 (by decide) ?_
          refine J_iconst (v := (3 : Int32)) dX8_say_62 (by decide) ?_
          refine J_iload (i := 4) dX8_say_63 rfl ?_
          refine J_imul dX8_say_65 ?_
          refine J_iadd dX8_say_66 ?_
          refine J_iload_n (i := 1) dX8_say_67 rfl rfl ?_
          refine J_iast dX8_say_68 sa_54 ?_
          refine J_letM rfl (fun s11 => ?_)
          refine J_aload_n (i := 0) dX8_say_69 rfl rfl ?_
          refine J_getR dX8_say_70 fl_RX8_7 sh_53_0 ?_
          refine J_bipush (v := (75 : Int32)) dX8_say_73 (by decide) ?_
          refine J_iconst (v := (3 : Int32)) dX8_say_75 (by decide) ?_
          refine J_iload (i := 4) dX8_say_76 rfl ?_
          refine J_imul dX8_say_78 ?_
          refine J_iadd dX8_say_79 ?_
          refine J_iconst (v := (1 : Int32)) dX8_say_80 (by decide) ?_
          refine J_iadd dX8_say_81 ?_
          refine J_iload_n (i := 2) dX8_say_82 rfl rfl ?_
          refine J_iast dX8_say_83 sa_54 ?_
          refine J_letM rfl (fun s12 => ?_)
          refine J_aload_n (i := 0) dX8_say_84 rfl rfl ?_
          refine J_getR dX8_say_85 fl_RX8_7 sh_53_0 ?_
          refine J_bipush (v := (75 : Int32)) dX8_say_88 (by decide) ?_
          refine J_iconst (v := (3 : Int32)) dX8_say_90 (by decide) ?_
          refine J_iload (i := 4) dX8_say_91 rfl ?_
          refine J_imul dX8_say_93 ?_
          refine J_iadd dX8_say_94 ?_
          refine J_iconst (v := (2 : Int32)) dX8_say_95 (by decide) ?_
          refine J_iadd dX8_say_96 ?_
          refine J_iload_n (i := 3) dX8_say_97 rfl rfl ?_
          refine J_iast dX8_say_98 sa_54 ?_
          refine J_letM rfl (fun s13 => ?_)
          refine J_aload_n (i := 0) dX8_say_99 rfl rfl ?_
          refine J_getR dX8_say_100 fl_RX8_7 sh_53_0 ?_
          refine J_bipush (v := (100 : Int32)) dX8_say_103 (by decide) ?_
          refine J_dup2_11 dX8_say_105 rfl rfl ?_
          refine J_iald dX8_say_106 sa_54 ?_
          refine J_iconst (v := (1 : Int32)) dX8_say_107 (by decide) ?_
          refine J_iadd dX8_say_108 ?_
          refine J_iast dX8_say_109 sa_54 ?_
          refine J_letM rfl (fun s14 => ?_)
          refine J_iload (i := 4) dX8_say_110 rfl ?_
          exact J_ireturn dX8_say_112 rfl rfl rfl
        · refine J_aload_n (i := 0) dX8_say_51 rfl rfl ?_
          refine J_callVIM 53 [] dX8_say_52 ca_X8_full lk_RX8_91 vi_X8_full rc_53 rfl rfl ⟨by show _ ≤ _; simp only [rmD]; omega, by show _ ≤ _; simp only [rmD]; omega⟩ (Nat.le_of_ble_eq_true rfl) ⟨Nat.zero_le _, Nat.zero_le _⟩ (con_X8_full l _) (fun r15 _ => ?_)
          exact J_ireturn dX8_say_55 rfl rfl rfl
      · refine J_sub (l1 := [some (.ref 53), none, none, none, none]) ⟨rfl, trivial⟩ ?_
        exact hj1 ()

def f_X8_hush  (s0 : jM) : Option (Int32 × jM) := Option.bind (f_X8_said s0) fun r1 => gd (ib (100 : Int32) 101) <| lt_ (pI s0 54 (Int32.toNatClampNeg (100 : Int32)) (0 : Int32)) fun s2 => some (r1, s2)
set_option maxRecDepth 100000 in
set_option maxHeartbeats 4000000 in
theorem con_X8_hush (l : Launch) (s0 : jM) : Con l (2) yX8_hush cX8_hush 2 (Option.some Jvm.ClassFile.FieldType.int) (eIM SH) SH [.ref 53] s0 (f_X8_hush s0) := by
  refine Con_of (ls0 := [some (.ref 53), none]) (ini := false) (mc := 0) (ms := 0) (by decide +kernel) rfl (Nat.le_of_ble_eq_true rfl) (fun h => by cases h) (fun _ _ => rfl) ?_
  unfold f_X8_hush
  refine J_aload_n (i := 0) dX8_hush_0 rfl rfl ?_
  refine J_callVI 53 [] dX8_hush_1 ca_X8_said lk_RX8_243 vi_X8_said rc_53 rfl rfl ⟨by show _ ≤ _; simp only [rmD]; omega, by show _ ≤ _; simp only [rmD]; omega⟩ (Nat.le_of_ble_eq_true rfl) ⟨Nat.zero_le _, Nat.zero_le _⟩ (con_X8_said l _) (fun r1 _ => ?_)
  refine J_istore_n (i := 1) (ls2 := [some (.ref 53), some (.int r1)]) dX8_hush_4 rfl rfl (by decide) ?_
  refine J_aload_n (i := 0) dX8_hush_5 rfl rfl ?_
  refine J_getR dX8_hush_6 fl_RX8_7 sh_53_0 ?_
  refine J_bipush (v := (100 : Int32)) dX8_hush_9 (by decide) ?_
  refine J_iconst (v := (0 : Int32)) dX8_hush_11 (by decide) ?_
  refine J_iast dX8_hush_12 sa_54 ?_
  refine J_letM rfl (fun s2 => ?_)
  refine J_iload_n (i := 1) dX8_hush_13 rfl rfl ?_
  exact J_ireturn dX8_hush_14 rfl rfl rfl

def lp_X8_onBy_5 (N : Nat) (s0 : jM) (a1 : Int32) (a2 : Int32) (k2 : Int32 → Option Int32) : Nat → Int32 → Int32 → Option Int32
  | 0, _, _ => none
  | q + 1, x3, x4 => Option.bind (f_X8_said s0) fun r6 => if r6 ≤ x4 then (k2 x3) else (jn_ (fun (x8 : Int32) => jn_ (fun (x10 : Int32) (x11 : Int32) => lt_ (x10 ||| x11) fun x13 => lt_ (x4 + (1 : Int32)) fun x14 => lp_X8_onBy_5 N s0 a1 a2 k2 q x13 x14) fun j12 => if x8 = 0 then (j12 x3 (0 : Int32)) else (gd (ib ((75 : Int32) + ((3 : Int32) * x4)) 101) <| j12 x3 ((1 : Int32) <<< ((gI s0 54 (Int32.toNatClampNeg ((75 : Int32) + ((3 : Int32) * x4)))) &&& 31)))) fun j9 => jn_ (fun (_ : Unit) => j9 (0 : Int32)) fun j16 => if ((a2 >>> (x4 &&& 31)) &&& (1 : Int32)) = 0 then (gd (ib (((75 : Int32) + ((3 : Int32) * x4)) + (1 : Int32)) 101) <| gd (ib (((75 : Int32) + ((3 : Int32) * x4)) + (2 : Int32)) 101) <| Option.bind (f_X8_in (Int32.toInt64 a1) (Int32.toInt64 (gI s0 54 (Int32.toNatClampNeg (((75 : Int32) + ((3 : Int32) * x4)) + (1 : Int32))))) (Int32.toInt64 (gI s0 54 (Int32.toNatClampNeg (((75 : Int32) + ((3 : Int32) * x4)) + (2 : Int32)))))) fun r18 => if r18 = 0 then (j16 ()) else (j9 (1 : Int32))) else (j16 ()))
def f_X8_onBy (N : Nat) (a1 : Int32) (a2 : Int32) (s0 : jM) : Option Int32 := jn_ (fun (x1 : Int32) => some x1) fun k2 => lp_X8_onBy_5 N s0 a1 a2 k2 N (0 : Int32) (0 : Int32)
set_option maxRecDepth 100000 in
set_option maxHeartbeats 4000000 in
theorem lp_X8_onBy_5_ok (l : Launch) (N : Nat)  (s0 : jM) (a1 : Int32) (a2 : Int32) (k2 : Int32 → Option Int32) (hk2 : ∀ (x1 : Int32), J l RX8 cX8_onBy 6 (Option.some Jvm.ClassFile.FieldType.int) false (rmD (2) 0 0) noCx (eI SH s0) SH 0 0 s0 100 [none, none, none, some (.int x1), none, none] [] (k2 x1)) : ∀ (q : Nat) (x3 : Int32) (x4 : Int32), J l RX8 cX8_onBy 6 (Option.some Jvm.ClassFile.FieldType.int) false (rmD (2) 0 0) noCx (eI SH s0) SH 0 0 s0 5 [some (.ref 53), some (.int a1), some (.int a2), some (.int x3), some (.int x4), none] [] (lp_X8_onBy_5 N s0 a1 a2 k2 q x3 x4) := by
  intro q
  induction q with
  | zero => intro x3 x4; exact J_none
  | succ q hrec5 =>
    intro x3 x4
    rw [lp_X8_onBy_5]
    refine J_iload (i := 4) dX8_onBy_5 rfl ?_
    refine J_aload_n (i := 0) dX8_onBy_7 rfl rfl ?_
    refine J_callVI 53 [] dX8_onBy_8 ca_X8_said lk_RX8_243 vi_X8_said rc_53 rfl rfl ⟨by show _ ≤ _; simp only [rmD]; omega, by show _ ≤ _; simp only [rmD]; omega⟩ (Nat.le_of_ble_eq_true rfl) ⟨Nat.zero_le _, Nat.zero_le _⟩ (con_X8_said l _) (fun r6 _ => ?_)
    refine J_icmp_ge (tgt := 100) dX8_onBy_11 (by decide) (fun c7 => ?_) (fun c7 => ?_)
    · refine J_sub (l1 := [none, none, none, some (.int x3), none, none]) ⟨rfl, trivial⟩ ?_
      exact hk2 x3
    · refine J_join (P := fun j => ∀ (x8 : Int32), J l RX8 cX8_onBy 6 (Option.some Jvm.ClassFile.FieldType.int) false (rmD (2) 0 0) noCx (eI SH s0) SH 0 0 s0 66 [some (.ref 53), some (.int a1), some (.int a2), some (.int x3), some (.int x4), none] [.int x8] (j x8)) ?_ (fun j9 hj9 => ?_)
      · intro x8
        refine J_join (P := fun j => ∀ (x10 : Int32) (x11 : Int32), J l RX8 cX8_onBy 6 (Option.some Jvm.ClassFile.FieldType.int) false (rmD (2) 0 0) noCx (eI SH s0) SH 0 0 s0 92 [some (.ref 53), some (.int a1), some (.int a2), none, some (.int x4), none] [.int x11, .int x10] (j x10 x11)) ?_ (fun j12 hj12 => ?_)
        · intro x10 x11
          refine J_ior dX8_onBy_92 ?_
          refine J_istore_nN (i := 3) (LS := fun x13 => [some (.ref 53), some (.int a1), some (.int a2), some (.int x13), some (.int x4), none]) dX8_onBy_93 rfl (fun _ => rfl) (by decide) (fun x13 => ?_)
          refine J_iincN (i := 4) (v := x4 + (1 : Int32)) (LS := fun x14 => [some (.ref 53), some (.int a1), some (.int a2), some (.int x13), some (.int x14), none]) dX8_onBy_94 rfl (by first | rfl | decide) (fun _ => rfl) (by decide) (fun x14 => ?_)
          refine J_goto (tgt := 5) dX8_onBy_97 (by decide) ?_
          refine J_sub (l1 := [some (.ref 53), some (.int a1), some (.int a2), some (.int x13), some (.int x14), none]) ⟨rfl, ⟨rfl, ⟨rfl, ⟨rfl, ⟨rfl, trivial⟩⟩⟩⟩⟩ ?_
          exact hrec5 x13 x14
        refine J_istore (i := 5) (ls2 := [some (.ref 53), some (.int a1), some (.int a2), some (.int x3), some (.int x4), some (.int x8)]) dX8_onBy_66 rfl (by decide) ?_
        refine J_iload_n (i := 3) dX8_onBy_68 rfl rfl ?_
        refine J_iload (i := 5) dX8_onBy_69 rfl ?_
        refine J_if_eq (tgt := 91) dX8_onBy_71 (by decide) (fun c15 => ?_) (fun c15 => ?_)
        · refine J_iconst (v := (0 : Int32)) dX8_onBy_91 (by decide) ?_
          refine J_sub (l1 := [some (.ref 53), some (.int a1), some (.int a2), none, some (.int x4), none]) ⟨rfl, ⟨rfl, ⟨rfl, ⟨rfl, trivial⟩⟩⟩⟩ ?_
          exact hj12 x3 (0 : Int32)
        · refine J_iconst (v := (1 : Int32)) dX8_onBy_74 (by decide) ?_
          refine J_aload_n (i := 0) dX8_onBy_75 rfl rfl ?_
          refine J_getR dX8_onBy_76 fl_RX8_7 sh_53_0 ?_
          refine J_bipush (v := (75 : Int32)) dX8_onBy_79 (by decide) ?_
          refine J_iconst (v := (3 : Int32)) dX8_onBy_81 (by decide) ?_
          refine J_iload (i := 4) dX8_onBy_82 rfl ?_
          refine J_imul dX8_onBy_84 ?_
          refine J_iadd dX8_onBy_85 ?_
          refine J_iald dX8_onBy_86 sa_54 ?_
          refine J_ishl dX8_onBy_87 ?_
          refine J_goto (tgt := 92) dX8_onBy_88 (by decide) ?_
          refine J_sub (l1 := [some (.ref 53), some (.int a1), some (.int a2), none, some (.int x4), none]) ⟨rfl, ⟨rfl, ⟨rfl, ⟨rfl, trivial⟩⟩⟩⟩ ?_
          exact hj12 x3 ((1 : Int32) <<< ((gI s0 54 (Int32.toNatClampNeg ((75 : Int32) + ((3 : Int32) * x4)))) &&& 31))
      refine J_join (P := fun j => ∀ (_ : Unit), J l RX8 cX8_onBy 6 (Option.some Jvm.ClassFile.FieldType.int) false (rmD (2) 0 0) noCx (eI SH s0) SH 0 0 s0 65 [some (.ref 53), some (.int a1), some (.int a2), some (.int x3), some (.int x4), none] [] (j ())) ?_ (fun j16 hj16 => ?_)
      · intro _
        refine J_iconst (v := (0 : Int32)) dX8_onBy_65 (by decide) ?_
        refine J_sub (l1 := [some (.ref 53), some (.int a1), some (.int a2), some (.int x3), some (.int x4), none]) ⟨rfl, ⟨rfl, ⟨rfl, ⟨rfl, ⟨rfl, trivial⟩⟩⟩⟩⟩ ?_
        exact hj9 (0 : Int32)
      refine J_iload_n (i := 2) dX8_onBy_14 rfl rfl ?_
      refine J_iload (i := 4) dX8_onBy_15 rfl ?_
      refine J_ishr dX8_onBy_17 ?_
      refine J_iconst (v := (1 : Int32)) dX8_onBy_18 (by decide) ?_
      refine J_iand dX8_onBy_19 ?_
      refine J_if_ne (tgt := 65) dX8_onBy_20 (by decide) (fun c17 => ?_) (fun c17 => ?_)
      · refine J_sub (l1 := [some (.ref 53), some (.int a1), some (.int a2), some (.int x3), some (.int x4), none]) ⟨rfl, ⟨rfl, ⟨rfl, ⟨rfl, ⟨rfl, trivial⟩⟩⟩⟩⟩ ?_
        exact hj16 ()
      · refine J_iload_n (i := 1) dX8_onBy_23 rfl rfl ?_
        refine J_i2l dX8_onBy_24 ?_
        refine J_aload_n (i := 0) dX8_onBy_25 rfl rfl ?_
        refine J_getR dX8_onBy_26 fl_RX8_7 sh_53_0 ?_
        refine J_bipush (v := (75 : Int32)) dX8_onBy_29 (by decide) ?_
        refine J_iconst (v := (3 : Int32)) dX8_onBy_31 (by decide) ?_
        refine J_iload (i := 4) dX8_onBy_32 rfl ?_
        refine J_imul dX8_onBy_34 ?_
        refine J_iadd dX8_onBy_35 ?_
        refine J_iconst (v := (1 : Int32)) dX8_onBy_36 (by decide) ?_
        refine J_iadd dX8_onBy_37 ?_
        refine J_iald dX8_onBy_38 sa_54 ?_
        refine J_i2l dX8_onBy_39 ?_
        refine J_aload_n (i := 0) dX8_onBy_40 rfl rfl ?_
        refine J_getR dX8_onBy_41 fl_RX8_7 sh_53_0 ?_
        refine J_bipush (v := (75 : Int32)) dX8_onBy_44 (by decide) ?_
        refine J_iconst (v := (3 : Int32)) dX8_onBy_46 (by decide) ?_
        refine J_iload (i := 4) dX8_onBy_47 rfl ?_
        refine J_imul dX8_onBy_49 ?_
        refine J_iadd dX8_onBy_50 ?_
        refine J_iconst (v := (2 : Int32)) dX8_onBy_51 (by decide) ?_
        refine J_iadd dX8_onBy_52 ?_
        refine J_iald dX8_onBy_53 sa_54 ?_
        refine J_i2l dX8_onBy_54 ?_
        refine J_callSI [.long (Int32.toInt64 a1), .long (Int32.toInt64 (gI s0 54 (Int32.toNatClampNeg (((75 : Int32) + ((3 : Int32) * x4)) + (1 : Int32))))), .long (Int32.toInt64 (gI s0 54 (Int32.toNatClampNeg (((75 : Int32) + ((3 : Int32) * x4)) + (2 : Int32)))))] dX8_onBy_55 ca_X8_in lk_RX8_74 st_X8_in rfl rfl ⟨by show _ ≤ _; simp only [rmD]; omega, by show _ ≤ _; simp only [rmD]; omega⟩ (Nat.le_of_ble_eq_true rfl) ⟨Nat.zero_le _, Nat.zero_le _⟩ (con_X8_in l _ _ _ _) (fun r18 _ => ?_)
        refine J_if_eq (tgt := 65) dX8_onBy_58 (by decide) (fun c19 => ?_) (fun c19 => ?_)
        · refine J_sub (l1 := [some (.ref 53), some (.int a1), some (.int a2), some (.int x3), some (.int x4), none]) ⟨rfl, ⟨rfl, ⟨rfl, ⟨rfl, ⟨rfl, trivial⟩⟩⟩⟩⟩ ?_
          exact hj16 ()
        · refine J_iconst (v := (1 : Int32)) dX8_onBy_61 (by decide) ?_
          refine J_goto (tgt := 66) dX8_onBy_62 (by decide) ?_
          refine J_sub (l1 := [some (.ref 53), some (.int a1), some (.int a2), some (.int x3), some (.int x4), none]) ⟨rfl, ⟨rfl, ⟨rfl, ⟨rfl, ⟨rfl, trivial⟩⟩⟩⟩⟩ ?_
          exact hj9 (1 : Int32)
set_option maxRecDepth 100000 in
set_option maxHeartbeats 4000000 in
theorem con_X8_onBy (l : Launch) (N : Nat) (a1 : Int32) (a2 : Int32) (s0 : jM) : Con l (2) yX8_onBy cX8_onBy 6 (Option.some Jvm.ClassFile.FieldType.int) (eI SH s0) SH [.ref 53, .int a1, .int a2] s0 (f_X8_onBy N a1 a2 s0) := by
  refine Con_of (ls0 := [some (.ref 53), some (.int a1), some (.int a2), none, none, none]) (ini := false) (mc := 0) (ms := 0) (by decide +kernel) rfl (Nat.le_of_ble_eq_true rfl) (fun h => by cases h) (fun _ _ => rfl) ?_
  unfold f_X8_onBy
  refine J_iconst (v := (0 : Int32)) dX8_onBy_0 (by decide) ?_
  refine J_istore_n (i := 3) (ls2 := [some (.ref 53), some (.int a1), some (.int a2), some (.int (0 : Int32)), none, none]) dX8_onBy_1 rfl rfl (by decide) ?_
  refine J_iconst (v := (0 : Int32)) dX8_onBy_2 (by decide) ?_
  refine J_istore (i := 4) (ls2 := [some (.ref 53), some (.int a1), some (.int a2), some (.int (0 : Int32)), some (.int (0 : Int32)), none]) dX8_onBy_3 rfl (by decide) ?_
  refine J_join (P := fun j => ∀ (x1 : Int32), J l RX8 cX8_onBy 6 (Option.some Jvm.ClassFile.FieldType.int) false (rmD (2) 0 0) noCx (eI SH s0) SH 0 0 s0 100 [none, none, none, some (.int x1), none, none] [] (j x1)) ?_ (fun k2 hk2 => ?_)
  · intro x1
    refine J_iload_n (i := 3) dX8_onBy_100 rfl rfl ?_
    exact J_ireturn dX8_onBy_101 rfl rfl rfl
  refine J_sub (l1 := [some (.ref 53), some (.int a1), some (.int a2), some (.int (0 : Int32)), some (.int (0 : Int32)), none]) ⟨rfl, ⟨rfl, ⟨rfl, ⟨rfl, ⟨rfl, trivial⟩⟩⟩⟩⟩ ?_
  exact lp_X8_onBy_5_ok l N  s0 a1 a2 k2 hk2 N (0 : Int32) (0 : Int32)

def lp_X8_disputeOf_5 (N : Nat) (a1 : Int32) (k3 : Int64 → jM → Option (Int64 × jM)) : Nat → Int64 → Int32 → jM → Option (Int64 × jM)
  | 0, _, _, _ => none
  | q + 1, y4, x5, s6 => if (63 : Int32) ≤ x5 then (k3 y4 s6) else (jn_ (fun (y9 : Int64) (y10 : Int64) (s11 : jM) => lt_ (y9 ||| y10) fun y13 => lt_ (x5 + (1 : Int32)) fun x14 => lp_X8_disputeOf_5 N a1 k3 q y13 x14 s11) fun j12 => Option.bind (f_X8_onBy N x5 a1 s6) fun r15 => Option.bind (f_X8_isWell N r15 x5 (0 : Int32) s6) fun r16 => if r16.1 = 0 then (j12 y4 ((1 : Int64) <<< (Int32.toInt64 x5 &&& 63)) r16.2) else (j12 y4 (0 : Int64) r16.2))
def f_X8_disputeOf (N : Nat) (a1 : Int32) (s0 : jM) : Option (Int64 × jM) := jn_ (fun (y1 : Int64) (s2 : jM) => some (y1, s2)) fun k3 => lp_X8_disputeOf_5 N a1 k3 N (0 : Int64) (0 : Int32) s0
set_option maxRecDepth 100000 in
set_option maxHeartbeats 4000000 in
theorem lp_X8_disputeOf_5_ok (l : Launch) (N : Nat)  (a1 : Int32) (k3 : Int64 → jM → Option (Int64 × jM)) (hk3 : ∀ (y1 : Int64) (s2 : jM), J l RX8 cX8_disputeOf 5 (Option.some Jvm.ClassFile.FieldType.long) false (rmD (6) 0 0) noCx (eLM SH) SH 0 0 s2 46 [none, none, some (.long y1), none, none] [] (k3 y1 s2)) : ∀ (q : Nat) (y4 : Int64) (x5 : Int32) (s6 : jM), J l RX8 cX8_disputeOf 5 (Option.some Jvm.ClassFile.FieldType.long) false (rmD (6) 0 0) noCx (eLM SH) SH 0 0 s6 5 [some (.ref 53), some (.int a1), some (.long y4), none, some (.int x5)] [] (lp_X8_disputeOf_5 N a1 k3 q y4 x5 s6) := by
  intro q
  induction q with
  | zero => intro y4 x5 s6; exact J_none
  | succ q hrec7 =>
    intro y4 x5 s6
    rw [lp_X8_disputeOf_5]
    refine J_iload (i := 4) dX8_disputeOf_5 rfl ?_
    refine J_bipush (v := (63 : Int32)) dX8_disputeOf_7 (by decide) ?_
    refine J_icmp_ge (tgt := 46) dX8_disputeOf_9 (by decide) (fun c8 => ?_) (fun c8 => ?_)
    · refine J_sub (l1 := [none, none, some (.long y4), none, none]) ⟨rfl, trivial⟩ ?_
      exact hk3 y4 s6
    · refine J_join (P := fun j => ∀ (y9 : Int64) (y10 : Int64) (s11 : jM), J l RX8 cX8_disputeOf 5 (Option.some Jvm.ClassFile.FieldType.long) false (rmD (6) 0 0) noCx (eLM SH) SH 0 0 s11 38 [some (.ref 53), some (.int a1), none, none, some (.int x5)] [.long y10, .long y9] (j y9 y10 s11)) ?_ (fun j12 hj12 => ?_)
      · intro y9 y10 s11
        refine J_lor dX8_disputeOf_38 ?_
        refine J_lstore_nN (i := 2) (LS := fun y13 => [some (.ref 53), some (.int a1), some (.long y13), none, some (.int x5)]) dX8_disputeOf_39 rfl (fun _ => rfl) (by decide) (fun y13 => ?_)
        refine J_iincN (i := 4) (v := x5 + (1 : Int32)) (LS := fun x14 => [some (.ref 53), some (.int a1), some (.long y13), none, some (.int x14)]) dX8_disputeOf_40 rfl (by first | rfl | decide) (fun _ => rfl) (by decide) (fun x14 => ?_)
        refine J_goto (tgt := 5) dX8_disputeOf_43 (by decide) ?_
        refine J_sub (l1 := [some (.ref 53), some (.int a1), some (.long y13), none, some (.int x14)]) ⟨rfl, ⟨rfl, ⟨rfl, ⟨rfl, trivial⟩⟩⟩⟩ ?_
        exact hrec7 y13 x14 s11
      refine J_lload_n (i := 2) dX8_disputeOf_12 rfl rfl ?_
      refine J_aload_n (i := 0) dX8_disputeOf_13 rfl rfl ?_
      refine J_aload_n (i := 0) dX8_disputeOf_14 rfl rfl ?_
      refine J_iload (i := 4) dX8_disputeOf_15 rfl ?_
      refine J_iload_n (i := 1) dX8_disputeOf_17 rfl rfl ?_
      refine J_callVI 53 [.int x5, .int a1] dX8_disputeOf_18 ca_X8_onBy lk_RX8_246 vi_X8_onBy rc_53 rfl rfl ⟨by show _ ≤ _; simp only [rmD]; omega, by show _ ≤ _; simp only [rmD]; omega⟩ (Nat.le_of_ble_eq_true rfl) ⟨Nat.zero_le _, Nat.zero_le _⟩ (con_X8_onBy l N _ _ _) (fun r15 _ => ?_)
      refine J_iload (i := 4) dX8_disputeOf_21 rfl ?_
      refine J_iconst (v := (0 : Int32)) dX8_disputeOf_23 (by decide) ?_
      refine J_callVIM 53 [.int r15, .int x5, .int (0 : Int32)] dX8_disputeOf_24 ca_X8_isWell lk_RX8_175 vi_X8_isWell rc_53 rfl rfl ⟨by show _ ≤ _; simp only [rmD]; omega, by show _ ≤ _; simp only [rmD]; omega⟩ (Nat.le_of_ble_eq_true rfl) ⟨Nat.zero_le _, Nat.zero_le _⟩ (con_X8_isWell l N _ _ _ _) (fun r16 _ => ?_)
      refine J_if_eq (tgt := 34) dX8_disputeOf_27 (by decide) (fun c17 => ?_) (fun c17 => ?_)
      · refine J_lconst (v := (1 : Int64)) dX8_disputeOf_34 (by decide) ?_
        refine J_iload (i := 4) dX8_disputeOf_35 rfl ?_
        refine J_lshl dX8_disputeOf_37 ?_
        refine J_sub (l1 := [some (.ref 53), some (.int a1), none, none, some (.int x5)]) ⟨rfl, ⟨rfl, ⟨rfl, trivial⟩⟩⟩ ?_
        exact hj12 y4 ((1 : Int64) <<< (Int32.toInt64 x5 &&& 63)) r16.2
      · refine J_lconst (v := (0 : Int64)) dX8_disputeOf_30 (by decide) ?_
        refine J_goto (tgt := 38) dX8_disputeOf_31 (by decide) ?_
        refine J_sub (l1 := [some (.ref 53), some (.int a1), none, none, some (.int x5)]) ⟨rfl, ⟨rfl, ⟨rfl, trivial⟩⟩⟩ ?_
        exact hj12 y4 (0 : Int64) r16.2
set_option maxRecDepth 100000 in
set_option maxHeartbeats 4000000 in
theorem con_X8_disputeOf (l : Launch) (N : Nat) (a1 : Int32) (s0 : jM) : Con l (6) yX8_disputeOf cX8_disputeOf 5 (Option.some Jvm.ClassFile.FieldType.long) (eLM SH) SH [.ref 53, .int a1] s0 (f_X8_disputeOf N a1 s0) := by
  refine Con_of (ls0 := [some (.ref 53), some (.int a1), none, none, none]) (ini := false) (mc := 0) (ms := 0) (by decide +kernel) rfl (Nat.le_of_ble_eq_true rfl) (fun h => by cases h) (fun _ _ => rfl) ?_
  unfold f_X8_disputeOf
  refine J_lconst (v := (0 : Int64)) dX8_disputeOf_0 (by decide) ?_
  refine J_lstore_n (i := 2) (ls2 := [some (.ref 53), some (.int a1), some (.long (0 : Int64)), none, none]) dX8_disputeOf_1 rfl rfl (by decide) ?_
  refine J_iconst (v := (0 : Int32)) dX8_disputeOf_2 (by decide) ?_
  refine J_istore (i := 4) (ls2 := [some (.ref 53), some (.int a1), some (.long (0 : Int64)), none, some (.int (0 : Int32))]) dX8_disputeOf_3 rfl (by decide) ?_
  refine J_join (P := fun j => ∀ (y1 : Int64) (s2 : jM), J l RX8 cX8_disputeOf 5 (Option.some Jvm.ClassFile.FieldType.long) false (rmD (6) 0 0) noCx (eLM SH) SH 0 0 s2 46 [none, none, some (.long y1), none, none] [] (j y1 s2)) ?_ (fun k3 hk3 => ?_)
  · intro y1 s2
    refine J_lload_n (i := 2) dX8_disputeOf_46 rfl rfl ?_
    exact J_lreturn dX8_disputeOf_47 rfl rfl
  refine J_sub (l1 := [some (.ref 53), some (.int a1), some (.long (0 : Int64)), none, some (.int (0 : Int32))]) ⟨rfl, ⟨rfl, ⟨rfl, ⟨rfl, trivial⟩⟩⟩⟩ ?_
  exact lp_X8_disputeOf_5_ok l N  a1 k3 hk3 N (0 : Int64) (0 : Int32) s0

def f_X8_dispute (N : Nat) (a1 : Int32) (s0 : jM) : Option (Int64 × jM) := Option.bind (f_X8_said s0) fun r1 => Option.bind (f_X8_in (Int32.toInt64 a1) (0 : Int64) (Int32.toInt64 (((1 : Int32) <<< (r1 &&& 31)) - (1 : Int32)))) fun r2 => if r2 = 0 then (Option.bind (f_X8_bad (-2 : Int32) s0) fun r4 => some ((Int32.toInt64 r4.1), r4.2)) else (Option.bind (f_X8_disputeOf N a1 s0) fun r5 => some (r5.1, r5.2))
set_option maxRecDepth 100000 in
set_option maxHeartbeats 4000000 in
theorem con_X8_dispute (l : Launch) (N : Nat) (a1 : Int32) (s0 : jM) : Con l (7) yX8_dispute cX8_dispute 2 (Option.some Jvm.ClassFile.FieldType.long) (eLM SH) SH [.ref 53, .int a1] s0 (f_X8_dispute N a1 s0) := by
  refine Con_of (ls0 := [some (.ref 53), some (.int a1)]) (ini := false) (mc := 0) (ms := 0) (by decide +kernel) rfl (Nat.le_of_ble_eq_true rfl) (fun h => by cases h) (fun _ _ => rfl) ?_
  unfold f_X8_dispute
  refine J_iload_n (i := 1) dX8_dispute_0 rfl rfl ?_
  refine J_i2l dX8_dispute_1 ?_
  refine J_lconst (v := (0 : Int64)) dX8_dispute_2 (by decide) ?_
  refine J_iconst (v := (1 : Int32)) dX8_dispute_3 (by decide) ?_
  refine J_aload_n (i := 0) dX8_dispute_4 rfl rfl ?_
  refine J_callVI 53 [] dX8_dispute_5 ca_X8_said lk_RX8_243 vi_X8_said rc_53 rfl rfl ⟨by show _ ≤ _; simp only [rmD]; omega, by show _ ≤ _; simp only [rmD]; omega⟩ (Nat.le_of_ble_eq_true rfl) ⟨Nat.zero_le _, Nat.zero_le _⟩ (con_X8_said l _) (fun r1 _ => ?_)
  refine J_ishl dX8_dispute_8 ?_
  refine J_iconst (v := (1 : Int32)) dX8_dispute_9 (by decide) ?_
  refine J_isub dX8_dispute_10 ?_
  refine J_i2l dX8_dispute_11 ?_
  refine J_callSI [.long (Int32.toInt64 a1), .long (0 : Int64), .long (Int32.toInt64 (((1 : Int32) <<< (r1 &&& 31)) - (1 : Int32)))] dX8_dispute_12 ca_X8_in lk_RX8_74 st_X8_in rfl rfl ⟨by show _ ≤ _; simp only [rmD]; omega, by show _ ≤ _; simp only [rmD]; omega⟩ (Nat.le_of_ble_eq_true rfl) ⟨Nat.zero_le _, Nat.zero_le _⟩ (con_X8_in l _ _ _ _) (fun r2 _ => ?_)
  refine J_if_eq (tgt := 26) dX8_dispute_15 (by decide) (fun c3 => ?_) (fun c3 => ?_)
  · refine J_aload_n (i := 0) dX8_dispute_26 rfl rfl ?_
    refine J_bipush (v := (-2 : Int32)) dX8_dispute_27 (by decide) ?_
    refine J_callVIM 53 [.int (-2 : Int32)] dX8_dispute_29 ca_X8_bad lk_RX8_87 vi_X8_bad rc_53 rfl rfl ⟨by show _ ≤ _; simp only [rmD]; omega, by show _ ≤ _; simp only [rmD]; omega⟩ (Nat.le_of_ble_eq_true rfl) ⟨Nat.zero_le _, Nat.zero_le _⟩ (con_X8_bad l _ _) (fun r4 _ => ?_)
    refine J_i2l dX8_dispute_32 ?_
    exact J_lreturn dX8_dispute_33 rfl rfl
  · refine J_aload_n (i := 0) dX8_dispute_18 rfl rfl ?_
    refine J_iload_n (i := 1) dX8_dispute_19 rfl rfl ?_
    refine J_callVLM 53 [.int a1] dX8_dispute_20 ca_X8_disputeOf lk_RX8_249 vi_X8_disputeOf rc_53 rfl rfl ⟨by show _ ≤ _; simp only [rmD]; omega, by show _ ≤ _; simp only [rmD]; omega⟩ (Nat.le_of_ble_eq_true rfl) ⟨Nat.zero_le _, Nat.zero_le _⟩ (con_X8_disputeOf l N _ _) (fun r5 _ => ?_)
    refine J_goto (tgt := 33) dX8_dispute_23 (by decide) ?_
    exact J_lreturn dX8_dispute_33 rfl rfl

def lp_X8_lied_73 (N : Nat) (a1 : Int32) (k10 : Int32 → jM → Option (Int32 × jM)) : Nat → Int32 → Int32 → jM → Option (Int32 × jM)
  | 0, _, _, _ => none
  | q + 1, x12, x13, s14 => Option.bind (f_X8_said s14) fun r16 => if ((1 : Int32) <<< (r16 &&& 31)) ≤ x13 then (k10 x12 s14) else (if a1 = (1 : Int32) then (jn_ (fun (x19 : Int32) (s20 : jM) => lt_ (x13 + (1 : Int32)) fun x22 => lp_X8_lied_73 N a1 k10 q x19 x22 s20) fun j21 => jn_ (fun (s23 : jM) => j21 x12 s23) fun j24 => jn_ (fun (_ : Unit) => Option.bind (f_X8_disputeOf N x13 s14) fun r26 => if r26.1 = (0 : Int64) then (j21 x13 r26.2) else (j24 r26.2)) fun j25 => Option.bind (f_X8_manyIn N x12) fun r28 => Option.bind (f_X8_manyIn N x13) fun r29 => lt_ (r28 - r29) fun x30 => if 0 < x30 then (j25 ()) else (if x30 = 0 then (if x12 ≤ x13 then (j24 s14) else (j25 ())) else (j24 s14))) else (k10 x12 s14))
def lp_X8_lied_21 (N : Nat) (a1 : Int32) (k5 : Int32 → jM → Option (Int32 × jM)) : Nat → Int32 → Int32 → jM → Option (Int32 × jM)
  | 0, _, _, _ => none
  | q + 1, x34, x35, s36 => Option.bind (f_X8_said s36) fun r38 => if r38 ≤ x35 then (k5 x34 s36) else (if a1 = 0 then (jn_ (fun (x41 : Int32) (x42 : Int32) (s43 : jM) => lt_ (x41 ||| x42) fun x45 => lt_ (x35 + (1 : Int32)) fun x46 => lp_X8_lied_21 N a1 k5 q x45 x46 s43) fun j44 => Option.bind (f_X8_disputeOf N ((1 : Int32) <<< (x35 &&& 31)) s36) fun r47 => if r47.1 = (0 : Int64) then (j44 x34 ((1 : Int32) <<< (x35 &&& 31)) r47.2) else (j44 x34 (0 : Int32) r47.2)) else (k5 x34 s36))
def f_X8_lied (N : Nat) (a1 : Int32) (s0 : jM) : Option (Int32 × jM) := Option.bind (f_X8_in (Int32.toInt64 a1) (0 : Int64) (1 : Int64)) fun r1 => if r1 = 0 then (Option.bind (f_X8_bad (-2 : Int32) s0) fun r49 => some (r49.1, r49.2)) else (jn_ (fun (x3 : Int32) (s4 : jM) => Option.bind (f_X8_said s4) fun r6 => lt_ (((1 : Int32) <<< (r6 &&& 31)) - (1 : Int32)) fun x7 => jn_ (fun (x8 : Int32) (s9 : jM) => if a1 = 0 then (some (x3, s9)) else (some (x8, s9))) fun k10 => lp_X8_lied_73 N a1 k10 N x7 (0 : Int32) s4) fun k5 => lp_X8_lied_21 N a1 k5 N (0 : Int32) (0 : Int32) s0)
set_option maxRecDepth 100000 in
set_option maxHeartbeats 4000000 in
theorem lp_X8_lied_73_ok (l : Launch) (N : Nat)  (a1 : Int32) (k10 : Int32 → jM → Option (Int32 × jM)) (x3 : Int32) (hk10 : ∀ (x8 : Int32) (s9 : jM), J l RX8 cX8_lied 6 (Option.some Jvm.ClassFile.FieldType.int) false (rmD (7) 0 0) noCx (eIM SH) SH 0 0 s9 141 [none, some (.int a1), some (.int x3), some (.int x8), none, none] [] (k10 x8 s9)) : ∀ (q : Nat) (x12 : Int32) (x13 : Int32) (s14 : jM), J l RX8 cX8_lied 6 (Option.some Jvm.ClassFile.FieldType.int) false (rmD (7) 0 0) noCx (eIM SH) SH 0 0 s14 73 [some (.ref 53), some (.int a1), some (.int x3), some (.int x12), some (.int x13), none] [] (lp_X8_lied_73 N a1 k10 q x12 x13 s14) := by
  intro q
  induction q with
  | zero => intro x12 x13 s14; exact J_none
  | succ q hrec15 =>
    intro x12 x13 s14
    rw [lp_X8_lied_73]
    refine J_iload (i := 4) dX8_lied_73 rfl ?_
    refine J_iconst (v := (1 : Int32)) dX8_lied_75 (by decide) ?_
    refine J_aload_n (i := 0) dX8_lied_76 rfl rfl ?_
    refine J_callVI 53 [] dX8_lied_77 ca_X8_said lk_RX8_243 vi_X8_said rc_53 rfl rfl ⟨by show _ ≤ _; simp only [rmD]; omega, by show _ ≤ _; simp only [rmD]; omega⟩ (Nat.le_of_ble_eq_true rfl) ⟨Nat.zero_le _, Nat.zero_le _⟩ (con_X8_said l _) (fun r16 _ => ?_)
    refine J_ishl dX8_lied_80 ?_
    refine J_icmp_ge (tgt := 141) dX8_lied_81 (by decide) (fun c17 => ?_) (fun c17 => ?_)
    · refine J_sub (l1 := [none, some (.int a1), some (.int x3), some (.int x12), none, none]) ⟨rfl, ⟨rfl, ⟨rfl, trivial⟩⟩⟩ ?_
      exact hk10 x12 s14
    · refine J_iload_n (i := 1) dX8_lied_84 rfl rfl ?_
      refine J_iconst (v := (1 : Int32)) dX8_lied_85 (by decide) ?_
      refine J_icmp_ne (tgt := 141) dX8_lied_86 (by decide) (fun c18 => ?_) (fun c18 => ?_)
      · refine J_sub (l1 := [none, some (.int a1), some (.int x3), some (.int x12), none, none]) ⟨rfl, ⟨rfl, ⟨rfl, trivial⟩⟩⟩ ?_
        exact hk10 x12 s14
      · refine J_join (P := fun j => ∀ (x19 : Int32) (s20 : jM), J l RX8 cX8_lied 6 (Option.some Jvm.ClassFile.FieldType.int) false (rmD (7) 0 0) noCx (eIM SH) SH 0 0 s20 134 [some (.ref 53), some (.int a1), some (.int x3), none, some (.int x13), none] [.int x19] (j x19 s20)) ?_ (fun j21 hj21 => ?_)
        · intro x19 s20
          refine J_istore_n (i := 3) (ls2 := [some (.ref 53), some (.int a1), some (.int x3), some (.int x19), some (.int x13), none]) dX8_lied_134 rfl rfl (by decide) ?_
          refine J_iincN (i := 4) (v := x13 + (1 : Int32)) (LS := fun x22 => [some (.ref 53), some (.int a1), some (.int x3), some (.int x19), some (.int x22), none]) dX8_lied_135 rfl (by first | rfl | decide) (fun _ => rfl) (by decide) (fun x22 => ?_)
          refine J_goto (tgt := 73) dX8_lied_138 (by decide) ?_
          refine J_sub (l1 := [some (.ref 53), some (.int a1), some (.int x3), some (.int x19), some (.int x22), none]) ⟨rfl, ⟨rfl, ⟨rfl, ⟨rfl, ⟨rfl, trivial⟩⟩⟩⟩⟩ ?_
          exact hrec15 x19 x22 s20
        refine J_join (P := fun j => ∀ (s23 : jM), J l RX8 cX8_lied 6 (Option.some Jvm.ClassFile.FieldType.int) false (rmD (7) 0 0) noCx (eIM SH) SH 0 0 s23 133 [some (.ref 53), some (.int a1), some (.int x3), some (.int x12), some (.int x13), none] [] (j s23)) ?_ (fun j24 hj24 => ?_)
        · intro s23
          refine J_iload_n (i := 3) dX8_lied_133 rfl rfl ?_
          refine J_sub (l1 := [some (.ref 53), some (.int a1), some (.int x3), none, some (.int x13), none]) ⟨rfl, ⟨rfl, ⟨rfl, ⟨rfl, trivial⟩⟩⟩⟩ ?_
          exact hj21 x12 s23
        refine J_join (P := fun j => ∀ (_ : Unit), J l RX8 cX8_lied 6 (Option.some Jvm.ClassFile.FieldType.int) false (rmD (7) 0 0) noCx (eIM SH) SH 0 0 s14 117 [some (.ref 53), some (.int a1), some (.int x3), some (.int x12), some (.int x13), none] [] (j ())) ?_ (fun j25 hj25 => ?_)
        · intro _
          refine J_aload_n (i := 0) dX8_lied_117 rfl rfl ?_
          refine J_iload (i := 4) dX8_lied_118 rfl ?_
          refine J_callVLM 53 [.int x13] dX8_lied_120 ca_X8_disputeOf lk_RX8_249 vi_X8_disputeOf rc_53 rfl rfl ⟨by show _ ≤ _; simp only [rmD]; omega, by show _ ≤ _; simp only [rmD]; omega⟩ (Nat.le_of_ble_eq_true rfl) ⟨Nat.zero_le _, Nat.zero_le _⟩ (con_X8_disputeOf l N _ _) (fun r26 _ => ?_)
          refine J_lconst (v := (0 : Int64)) dX8_lied_123 (by decide) ?_
          refine J_lcmp_ne (tgt := 133) dX8_lied_124 dX8_lied_125 (by decide) (fun c27 => ?_) (fun c27 => ?_)
          · refine J_sub (l1 := [some (.ref 53), some (.int a1), some (.int x3), some (.int x12), some (.int x13), none]) ⟨rfl, ⟨rfl, ⟨rfl, ⟨rfl, ⟨rfl, trivial⟩⟩⟩⟩⟩ ?_
            exact hj24 r26.2
          · refine J_iload (i := 4) dX8_lied_128 rfl ?_
            refine J_goto (tgt := 134) dX8_lied_130 (by decide) ?_
            refine J_sub (l1 := [some (.ref 53), some (.int a1), some (.int x3), none, some (.int x13), none]) ⟨rfl, ⟨rfl, ⟨rfl, ⟨rfl, trivial⟩⟩⟩⟩ ?_
            exact hj21 x13 r26.2
        refine J_iload_n (i := 3) dX8_lied_89 rfl rfl ?_
        refine J_callSI [.int x12] dX8_lied_90 ca_X8_manyIn lk_RX8_193 st_X8_manyIn rfl rfl ⟨by show _ ≤ _; simp only [rmD]; omega, by show _ ≤ _; simp only [rmD]; omega⟩ (Nat.le_of_ble_eq_true rfl) ⟨Nat.zero_le _, Nat.zero_le _⟩ (con_X8_manyIn l N _ _) (fun r28 _ => ?_)
        refine J_iload (i := 4) dX8_lied_93 rfl ?_
        refine J_callSI [.int x13] dX8_lied_95 ca_X8_manyIn lk_RX8_193 st_X8_manyIn rfl rfl ⟨by show _ ≤ _; simp only [rmD]; omega, by show _ ≤ _; simp only [rmD]; omega⟩ (Nat.le_of_ble_eq_true rfl) ⟨Nat.zero_le _, Nat.zero_le _⟩ (con_X8_manyIn l N _ _) (fun r29 _ => ?_)
        refine J_isub dX8_lied_98 ?_
        refine J_istoreN (i := 5) (LS := fun x30 => [some (.ref 53), some (.int a1), some (.int x3), some (.int x12), some (.int x13), some (.int x30)]) dX8_lied_99 (fun _ => rfl) (by decide) (fun x30 => ?_)
        refine J_iload (i := 5) dX8_lied_101 rfl ?_
        refine J_if_gt (tgt := 117) dX8_lied_103 (by decide) (fun c31 => ?_) (fun c31 => ?_)
        · refine J_sub (l1 := [some (.ref 53), some (.int a1), some (.int x3), some (.int x12), some (.int x13), none]) ⟨rfl, ⟨rfl, ⟨rfl, ⟨rfl, ⟨rfl, trivial⟩⟩⟩⟩⟩ ?_
          exact hj25 ()
        · refine J_iload (i := 5) dX8_lied_106 rfl ?_
          refine J_if_ne (tgt := 133) dX8_lied_108 (by decide) (fun c32 => ?_) (fun c32 => ?_)
          · refine J_sub (l1 := [some (.ref 53), some (.int a1), some (.int x3), some (.int x12), some (.int x13), none]) ⟨rfl, ⟨rfl, ⟨rfl, ⟨rfl, ⟨rfl, trivial⟩⟩⟩⟩⟩ ?_
            exact hj24 s14
          · refine J_iload (i := 4) dX8_lied_111 rfl ?_
            refine J_iload_n (i := 3) dX8_lied_113 rfl rfl ?_
            refine J_icmp_ge (tgt := 133) dX8_lied_114 (by decide) (fun c33 => ?_) (fun c33 => ?_)
            · refine J_sub (l1 := [some (.ref 53), some (.int a1), some (.int x3), some (.int x12), some (.int x13), none]) ⟨rfl, ⟨rfl, ⟨rfl, ⟨rfl, ⟨rfl, trivial⟩⟩⟩⟩⟩ ?_
              exact hj24 s14
            · refine J_sub (l1 := [some (.ref 53), some (.int a1), some (.int x3), some (.int x12), some (.int x13), none]) ⟨rfl, ⟨rfl, ⟨rfl, ⟨rfl, ⟨rfl, trivial⟩⟩⟩⟩⟩ ?_
              exact hj25 ()
set_option maxRecDepth 100000 in
set_option maxHeartbeats 4000000 in
theorem lp_X8_lied_21_ok (l : Launch) (N : Nat)  (a1 : Int32) (k5 : Int32 → jM → Option (Int32 × jM)) (hk5 : ∀ (x3 : Int32) (s4 : jM), J l RX8 cX8_lied 6 (Option.some Jvm.ClassFile.FieldType.int) false (rmD (7) 0 0) noCx (eIM SH) SH 0 0 s4 61 [some (.ref 53), some (.int a1), some (.int x3), none, none, none] [] (k5 x3 s4)) : ∀ (q : Nat) (x34 : Int32) (x35 : Int32) (s36 : jM), J l RX8 cX8_lied 6 (Option.some Jvm.ClassFile.FieldType.int) false (rmD (7) 0 0) noCx (eIM SH) SH 0 0 s36 21 [some (.ref 53), some (.int a1), some (.int x34), some (.int x35), none, none] [] (lp_X8_lied_21 N a1 k5 q x34 x35 s36) := by
  intro q
  induction q with
  | zero => intro x34 x35 s36; exact J_none
  | succ q hrec37 =>
    intro x34 x35 s36
    rw [lp_X8_lied_21]
    refine J_iload_n (i := 3) dX8_lied_21 rfl rfl ?_
    refine J_aload_n (i := 0) dX8_lied_22 rfl rfl ?_
    refine J_callVI 53 [] dX8_lied_23 ca_X8_said lk_RX8_243 vi_X8_said rc_53 rfl rfl ⟨by show _ ≤ _; simp only [rmD]; omega, by show _ ≤ _; simp only [rmD]; omega⟩ (Nat.le_of_ble_eq_true rfl) ⟨Nat.zero_le _, Nat.zero_le _⟩ (con_X8_said l _) (fun r38 _ => ?_)
    refine J_icmp_ge (tgt := 61) dX8_lied_26 (by decide) (fun c39 => ?_) (fun c39 => ?_)
    · refine J_sub (l1 := [some (.ref 53), some (.int a1), some (.int x34), none, none, none]) ⟨rfl, ⟨rfl, ⟨rfl, trivial⟩⟩⟩ ?_
      exact hk5 x34 s36
    · refine J_iload_n (i := 1) dX8_lied_29 rfl rfl ?_
      refine J_if_ne (tgt := 61) dX8_lied_30 (by decide) (fun c40 => ?_) (fun c40 => ?_)
      · refine J_sub (l1 := [some (.ref 53), some (.int a1), some (.int x34), none, none, none]) ⟨rfl, ⟨rfl, ⟨rfl, trivial⟩⟩⟩ ?_
        exact hk5 x34 s36
      · refine J_join (P := fun j => ∀ (x41 : Int32) (x42 : Int32) (s43 : jM), J l RX8 cX8_lied 6 (Option.some Jvm.ClassFile.FieldType.int) false (rmD (7) 0 0) noCx (eIM SH) SH 0 0 s43 53 [some (.ref 53), some (.int a1), none, some (.int x35), none, none] [.int x42, .int x41] (j x41 x42 s43)) ?_ (fun j44 hj44 => ?_)
        · intro x41 x42 s43
          refine J_ior dX8_lied_53 ?_
          refine J_istore_nN (i := 2) (LS := fun x45 => [some (.ref 53), some (.int a1), some (.int x45), some (.int x35), none, none]) dX8_lied_54 rfl (fun _ => rfl) (by decide) (fun x45 => ?_)
          refine J_iincN (i := 3) (v := x35 + (1 : Int32)) (LS := fun x46 => [some (.ref 53), some (.int a1), some (.int x45), some (.int x46), none, none]) dX8_lied_55 rfl (by first | rfl | decide) (fun _ => rfl) (by decide) (fun x46 => ?_)
          refine J_goto (tgt := 21) dX8_lied_58 (by decide) ?_
          refine J_sub (l1 := [some (.ref 53), some (.int a1), some (.int x45), some (.int x46), none, none]) ⟨rfl, ⟨rfl, ⟨rfl, ⟨rfl, trivial⟩⟩⟩⟩ ?_
          exact hrec37 x45 x46 s43
        refine J_iload_n (i := 2) dX8_lied_33 rfl rfl ?_
        refine J_aload_n (i := 0) dX8_lied_34 rfl rfl ?_
        refine J_iconst (v := (1 : Int32)) dX8_lied_35 (by decide) ?_
        refine J_iload_n (i := 3) dX8_lied_36 rfl rfl ?_
        refine J_ishl dX8_lied_37 ?_
        refine J_callVLM 53 [.int ((1 : Int32) <<< (x35 &&& 31))] dX8_lied_38 ca_X8_disputeOf lk_RX8_249 vi_X8_disputeOf rc_53 rfl rfl ⟨by show _ ≤ _; simp only [rmD]; omega, by show _ ≤ _; simp only [rmD]; omega⟩ (Nat.le_of_ble_eq_true rfl) ⟨Nat.zero_le _, Nat.zero_le _⟩ (con_X8_disputeOf l N _ _) (fun r47 _ => ?_)
        refine J_lconst (v := (0 : Int64)) dX8_lied_41 (by decide) ?_
        refine J_lcmp_ne (tgt := 52) dX8_lied_42 dX8_lied_43 (by decide) (fun c48 => ?_) (fun c48 => ?_)
        · refine J_iconst (v := (0 : Int32)) dX8_lied_52 (by decide) ?_
          refine J_sub (l1 := [some (.ref 53), some (.int a1), none, some (.int x35), none, none]) ⟨rfl, ⟨rfl, ⟨rfl, trivial⟩⟩⟩ ?_
          exact hj44 x34 (0 : Int32) r47.2
        · refine J_iconst (v := (1 : Int32)) dX8_lied_46 (by decide) ?_
          refine J_iload_n (i := 3) dX8_lied_47 rfl rfl ?_
          refine J_ishl dX8_lied_48 ?_
          refine J_goto (tgt := 53) dX8_lied_49 (by decide) ?_
          refine J_sub (l1 := [some (.ref 53), some (.int a1), none, some (.int x35), none, none]) ⟨rfl, ⟨rfl, ⟨rfl, trivial⟩⟩⟩ ?_
          exact hj44 x34 ((1 : Int32) <<< (x35 &&& 31)) r47.2
set_option maxRecDepth 100000 in
set_option maxHeartbeats 4000000 in
theorem con_X8_lied (l : Launch) (N : Nat) (a1 : Int32) (s0 : jM) : Con l (7) yX8_lied cX8_lied 6 (Option.some Jvm.ClassFile.FieldType.int) (eIM SH) SH [.ref 53, .int a1] s0 (f_X8_lied N a1 s0) := by
  refine Con_of (ls0 := [some (.ref 53), some (.int a1), none, none, none, none]) (ini := false) (mc := 0) (ms := 0) (by decide +kernel) rfl (Nat.le_of_ble_eq_true rfl) (fun h => by cases h) (fun _ _ => rfl) ?_
  unfold f_X8_lied
  refine J_iload_n (i := 1) dX8_lied_0 rfl rfl ?_
  refine J_i2l dX8_lied_1 ?_
  refine J_lconst (v := (0 : Int64)) dX8_lied_2 (by decide) ?_
  refine J_lconst (v := (1 : Int64)) dX8_lied_3 (by decide) ?_
  refine J_callSI [.long (Int32.toInt64 a1), .long (0 : Int64), .long (1 : Int64)] dX8_lied_4 ca_X8_in lk_RX8_74 st_X8_in rfl rfl ⟨by show _ ≤ _; simp only [rmD]; omega, by show _ ≤ _; simp only [rmD]; omega⟩ (Nat.le_of_ble_eq_true rfl) ⟨Nat.zero_le _, Nat.zero_le _⟩ (con_X8_in l _ _ _ _) (fun r1 _ => ?_)
  refine J_if_ne (tgt := 17) dX8_lied_7 (by decide) (fun c2 => ?_) (fun c2 => ?_)
  · refine J_iconst (v := (0 : Int32)) dX8_lied_17 (by decide) ?_
    refine J_istore_n (i := 2) (ls2 := [some (.ref 53), some (.int a1), some (.int (0 : Int32)), none, none, none]) dX8_lied_18 rfl rfl (by decide) ?_
    refine J_iconst (v := (0 : Int32)) dX8_lied_19 (by decide) ?_
    refine J_istore_n (i := 3) (ls2 := [some (.ref 53), some (.int a1), some (.int (0 : Int32)), some (.int (0 : Int32)), none, none]) dX8_lied_20 rfl rfl (by decide) ?_
    refine J_join (P := fun j => ∀ (x3 : Int32) (s4 : jM), J l RX8 cX8_lied 6 (Option.some Jvm.ClassFile.FieldType.int) false (rmD (7) 0 0) noCx (eIM SH) SH 0 0 s4 61 [some (.ref 53), some (.int a1), some (.int x3), none, none, none] [] (j x3 s4)) ?_ (fun k5 hk5 => ?_)
    · intro x3 s4
      refine J_iconst (v := (1 : Int32)) dX8_lied_61 (by decide) ?_
      refine J_aload_n (i := 0) dX8_lied_62 rfl rfl ?_
      refine J_callVI 53 [] dX8_lied_63 ca_X8_said lk_RX8_243 vi_X8_said rc_53 rfl rfl ⟨by show _ ≤ _; simp only [rmD]; omega, by show _ ≤ _; simp only [rmD]; omega⟩ (Nat.le_of_ble_eq_true rfl) ⟨Nat.zero_le _, Nat.zero_le _⟩ (con_X8_said l _) (fun r6 _ => ?_)
      refine J_ishl dX8_lied_66 ?_
      refine J_iconst (v := (1 : Int32)) dX8_lied_67 (by decide) ?_
      refine J_isub dX8_lied_68 ?_
      refine J_istore_nN (i := 3) (LS := fun x7 => [some (.ref 53), some (.int a1), some (.int x3), some (.int x7), none, none]) dX8_lied_69 rfl (fun _ => rfl) (by decide) (fun x7 => ?_)
      refine J_iconst (v := (0 : Int32)) dX8_lied_70 (by decide) ?_
      refine J_istore (i := 4) (ls2 := [some (.ref 53), some (.int a1), some (.int x3), some (.int x7), some (.int (0 : Int32)), none]) dX8_lied_71 rfl (by decide) ?_
      refine J_join (P := fun j => ∀ (x8 : Int32) (s9 : jM), J l RX8 cX8_lied 6 (Option.some Jvm.ClassFile.FieldType.int) false (rmD (7) 0 0) noCx (eIM SH) SH 0 0 s9 141 [none, some (.int a1), some (.int x3), some (.int x8), none, none] [] (j x8 s9)) ?_ (fun k10 hk10 => ?_)
      · intro x8 s9
        refine J_iload_n (i := 1) dX8_lied_141 rfl rfl ?_
        refine J_if_ne (tgt := 149) dX8_lied_142 (by decide) (fun c11 => ?_) (fun c11 => ?_)
        · refine J_iload_n (i := 3) dX8_lied_149 rfl rfl ?_
          exact J_ireturn dX8_lied_150 rfl rfl rfl
        · refine J_iload_n (i := 2) dX8_lied_145 rfl rfl ?_
          refine J_goto (tgt := 150) dX8_lied_146 (by decide) ?_
          exact J_ireturn dX8_lied_150 rfl rfl rfl
      refine J_sub (l1 := [some (.ref 53), some (.int a1), some (.int x3), some (.int x7), some (.int (0 : Int32)), none]) ⟨rfl, ⟨rfl, ⟨rfl, ⟨rfl, ⟨rfl, trivial⟩⟩⟩⟩⟩ ?_
      exact lp_X8_lied_73_ok l N  a1 k10 x3 hk10 N x7 (0 : Int32) s4
    refine J_sub (l1 := [some (.ref 53), some (.int a1), some (.int (0 : Int32)), some (.int (0 : Int32)), none, none]) ⟨rfl, ⟨rfl, ⟨rfl, ⟨rfl, trivial⟩⟩⟩⟩ ?_
    exact lp_X8_lied_21_ok l N  a1 k5 hk5 N (0 : Int32) (0 : Int32) s0
  · refine J_aload_n (i := 0) dX8_lied_10 rfl rfl ?_
    refine J_bipush (v := (-2 : Int32)) dX8_lied_11 (by decide) ?_
    refine J_callVIM 53 [.int (-2 : Int32)] dX8_lied_13 ca_X8_bad lk_RX8_87 vi_X8_bad rc_53 rfl rfl ⟨by show _ ≤ _; simp only [rmD]; omega, by show _ ≤ _; simp only [rmD]; omega⟩ (Nat.le_of_ble_eq_true rfl) ⟨Nat.zero_le _, Nat.zero_le _⟩ (con_X8_bad l _ _) (fun r49 _ => ?_)
    exact J_ireturn dX8_lied_16 rfl rfl rfl

def f_X8_part (a1 : Int32) (s0 : jM) : Option (Int64 × jM) := if a1 = 0 then (some ((gL s0 53 4), s0)) else (if a1 = (1 : Int32) then (some ((gL s0 53 5), s0)) else (Option.bind (f_X8_bad (-2 : Int32) s0) fun r3 => some ((Int32.toInt64 r3.1), r3.2)))
set_option maxRecDepth 100000 in
set_option maxHeartbeats 4000000 in
theorem con_X8_part (l : Launch) (a1 : Int32) (s0 : jM) : Con l (2) yX8_part cX8_part 2 (Option.some Jvm.ClassFile.FieldType.long) (eLM SH) SH [.ref 53, .int a1] s0 (f_X8_part a1 s0) := by
  refine Con_of (ls0 := [some (.ref 53), some (.int a1)]) (ini := false) (mc := 0) (ms := 0) (by decide +kernel) rfl (Nat.le_of_ble_eq_true rfl) (fun h => by cases h) (fun _ _ => rfl) ?_
  unfold f_X8_part
  refine J_iload_n (i := 1) dX8_part_0 rfl rfl ?_
  refine J_if_ne (tgt := 11) dX8_part_1 (by decide) (fun c1 => ?_) (fun c1 => ?_)
  · refine J_iload_n (i := 1) dX8_part_11 rfl rfl ?_
    refine J_iconst (v := (1 : Int32)) dX8_part_12 (by decide) ?_
    refine J_icmp_ne (tgt := 23) dX8_part_13 (by decide) (fun c2 => ?_) (fun c2 => ?_)
    · refine J_aload_n (i := 0) dX8_part_23 rfl rfl ?_
      refine J_bipush (v := (-2 : Int32)) dX8_part_24 (by decide) ?_
      refine J_callVIM 53 [.int (-2 : Int32)] dX8_part_26 ca_X8_bad lk_RX8_87 vi_X8_bad rc_53 rfl rfl ⟨by show _ ≤ _; simp only [rmD]; omega, by show _ ≤ _; simp only [rmD]; omega⟩ (Nat.le_of_ble_eq_true rfl) ⟨Nat.zero_le _, Nat.zero_le _⟩ (con_X8_bad l _ _) (fun r3 _ => ?_)
      refine J_i2l dX8_part_29 ?_
      exact J_lreturn dX8_part_30 rfl rfl
    · refine J_aload_n (i := 0) dX8_part_16 rfl rfl ?_
      refine J_getL dX8_part_17 fl_RX8_23 sh_53_5 ?_
      refine J_goto (tgt := 30) dX8_part_20 (by decide) ?_
      exact J_lreturn dX8_part_30 rfl rfl
  · refine J_aload_n (i := 0) dX8_part_4 rfl rfl ?_
    refine J_getL dX8_part_5 fl_RX8_67 sh_53_4 ?_
    refine J_goto (tgt := 30) dX8_part_8 (by decide) ?_
    exact J_lreturn dX8_part_30 rfl rfl

def lp_X8_image_19 (N : Nat) (a1 : Int32) (k4 : jM → Option (Int32 × jM)) : Nat → Int32 → jM → Option (Int32 × jM)
  | 0, _, _ => none
  | q + 1, x6, s7 => if (101 : Int32) ≤ x6 then (k4 s7) else (gd (ib x6 101) <| gd (ib (((101 : Int32) * a1) + x6) 202) <| lt_ (pI s7 55 (Int32.toNatClampNeg (((101 : Int32) * a1) + x6)) (gI s7 54 (Int32.toNatClampNeg x6))) fun s10 => lt_ (x6 + (1 : Int32)) fun x11 => lp_X8_image_19 N a1 k4 q x11 s10)
def f_X8_image (N : Nat) (a1 : Int32) (s0 : jM) : Option (Int32 × jM) := Option.bind (f_X8_in (Int32.toInt64 a1) (0 : Int64) (1 : Int64)) fun r1 => if r1 = 0 then (Option.bind (f_X8_bad (-2 : Int32) s0) fun r12 => some (r12.1, r12.2)) else (jn_ (fun (s3 : jM) => gd (ib a1 2) <| lt_ (pI s3 56 (Int32.toNatClampNeg a1) (vp_nar .boolean (1 : Int32))) fun s5 => some ((1 : Int32), s5)) fun k4 => lp_X8_image_19 N a1 k4 N (0 : Int32) s0)
set_option maxRecDepth 100000 in
set_option maxHeartbeats 4000000 in
theorem lp_X8_image_19_ok (l : Launch) (N : Nat)  (a1 : Int32) (k4 : jM → Option (Int32 × jM)) (hk4 : ∀ (s3 : jM), J l RX8 cX8_image 3 (Option.some Jvm.ClassFile.FieldType.int) false (rmD (2) 0 0) noCx (eIM SH) SH 0 0 s3 48 [some (.ref 53), some (.int a1), none] [] (k4 s3)) : ∀ (q : Nat) (x6 : Int32) (s7 : jM), J l RX8 cX8_image 3 (Option.some Jvm.ClassFile.FieldType.int) false (rmD (2) 0 0) noCx (eIM SH) SH 0 0 s7 19 [some (.ref 53), some (.int a1), some (.int x6)] [] (lp_X8_image_19 N a1 k4 q x6 s7) := by
  intro q
  induction q with
  | zero => intro x6 s7; exact J_none
  | succ q hrec8 =>
    intro x6 s7
    rw [lp_X8_image_19]
    refine J_iload_n (i := 2) dX8_image_19 rfl rfl ?_
    refine J_bipush (v := (101 : Int32)) dX8_image_20 (by decide) ?_
    refine J_icmp_ge (tgt := 48) dX8_image_22 (by decide) (fun c9 => ?_) (fun c9 => ?_)
    · refine J_sub (l1 := [some (.ref 53), some (.int a1), none]) ⟨rfl, ⟨rfl, trivial⟩⟩ ?_
      exact hk4 s7
    · refine J_aload_n (i := 0) dX8_image_25 rfl rfl ?_
      refine J_getR dX8_image_26 fl_RX8_13 sh_53_1 ?_
      refine J_bipush (v := (101 : Int32)) dX8_image_29 (by decide) ?_
      refine J_iload_n (i := 1) dX8_image_31 rfl rfl ?_
      refine J_imul dX8_image_32 ?_
      refine J_iload_n (i := 2) dX8_image_33 rfl rfl ?_
      refine J_iadd dX8_image_34 ?_
      refine J_aload_n (i := 0) dX8_image_35 rfl rfl ?_
      refine J_getR dX8_image_36 fl_RX8_7 sh_53_0 ?_
      refine J_iload_n (i := 2) dX8_image_39 rfl rfl ?_
      refine J_iald dX8_image_40 sa_54 ?_
      refine J_iast dX8_image_41 sa_55 ?_
      refine J_letM rfl (fun s10 => ?_)
      refine J_iincN (i := 2) (v := x6 + (1 : Int32)) (LS := fun x11 => [some (.ref 53), some (.int a1), some (.int x11)]) dX8_image_42 rfl (by first | rfl | decide) (fun _ => rfl) (by decide) (fun x11 => ?_)
      refine J_goto (tgt := 19) dX8_image_45 (by decide) ?_
      refine J_sub (l1 := [some (.ref 53), some (.int a1), some (.int x11)]) ⟨rfl, ⟨rfl, ⟨rfl, trivial⟩⟩⟩ ?_
      exact hrec8 x11 s10
set_option maxRecDepth 100000 in
set_option maxHeartbeats 4000000 in
theorem con_X8_image (l : Launch) (N : Nat) (a1 : Int32) (s0 : jM) : Con l (2) yX8_image cX8_image 3 (Option.some Jvm.ClassFile.FieldType.int) (eIM SH) SH [.ref 53, .int a1] s0 (f_X8_image N a1 s0) := by
  refine Con_of (ls0 := [some (.ref 53), some (.int a1), none]) (ini := false) (mc := 0) (ms := 0) (by decide +kernel) rfl (Nat.le_of_ble_eq_true rfl) (fun h => by cases h) (fun _ _ => rfl) ?_
  unfold f_X8_image
  refine J_iload_n (i := 1) dX8_image_0 rfl rfl ?_
  refine J_i2l dX8_image_1 ?_
  refine J_lconst (v := (0 : Int64)) dX8_image_2 (by decide) ?_
  refine J_lconst (v := (1 : Int64)) dX8_image_3 (by decide) ?_
  refine J_callSI [.long (Int32.toInt64 a1), .long (0 : Int64), .long (1 : Int64)] dX8_image_4 ca_X8_in lk_RX8_74 st_X8_in rfl rfl ⟨by show _ ≤ _; simp only [rmD]; omega, by show _ ≤ _; simp only [rmD]; omega⟩ (Nat.le_of_ble_eq_true rfl) ⟨Nat.zero_le _, Nat.zero_le _⟩ (con_X8_in l _ _ _ _) (fun r1 _ => ?_)
  refine J_if_ne (tgt := 17) dX8_image_7 (by decide) (fun c2 => ?_) (fun c2 => ?_)
  · refine J_iconst (v := (0 : Int32)) dX8_image_17 (by decide) ?_
    refine J_istore_n (i := 2) (ls2 := [some (.ref 53), some (.int a1), some (.int (0 : Int32))]) dX8_image_18 rfl rfl (by decide) ?_
    refine J_join (P := fun j => ∀ (s3 : jM), J l RX8 cX8_image 3 (Option.some Jvm.ClassFile.FieldType.int) false (rmD (2) 0 0) noCx (eIM SH) SH 0 0 s3 48 [some (.ref 53), some (.int a1), none] [] (j s3)) ?_ (fun k4 hk4 => ?_)
    · intro s3
      refine J_aload_n (i := 0) dX8_image_48 rfl rfl ?_
      refine J_getR dX8_image_49 fl_RX8_16 sh_53_2 ?_
      refine J_iload_n (i := 1) dX8_image_52 rfl rfl ?_
      refine J_iconst (v := (1 : Int32)) dX8_image_53 (by decide) ?_
      refine J_zast dX8_image_54 sa_56 ?_
      refine J_letM rfl (fun s5 => ?_)
      refine J_iconst (v := (1 : Int32)) dX8_image_55 (by decide) ?_
      exact J_ireturn dX8_image_56 rfl rfl rfl
    refine J_sub (l1 := [some (.ref 53), some (.int a1), some (.int (0 : Int32))]) ⟨rfl, ⟨rfl, ⟨rfl, trivial⟩⟩⟩ ?_
    exact lp_X8_image_19_ok l N  a1 k4 hk4 N (0 : Int32) s0
  · refine J_aload_n (i := 0) dX8_image_10 rfl rfl ?_
    refine J_bipush (v := (-2 : Int32)) dX8_image_11 (by decide) ?_
    refine J_callVIM 53 [.int (-2 : Int32)] dX8_image_13 ca_X8_bad lk_RX8_87 vi_X8_bad rc_53 rfl rfl ⟨by show _ ≤ _; simp only [rmD]; omega, by show _ ≤ _; simp only [rmD]; omega⟩ (Nat.le_of_ble_eq_true rfl) ⟨Nat.zero_le _, Nat.zero_le _⟩ (con_X8_bad l _ _) (fun r12 _ => ?_)
    exact J_ireturn dX8_image_16 rfl rfl rfl

def lp_X8_from_33 (N : Nat) (a1 : Int32) : Nat → Int32 → jM → Option (Int32 × jM)
  | 0, _, _ => none
  | q + 1, x4, s5 => if (101 : Int32) ≤ x4 then (some ((1 : Int32), s5)) else (gd (ib (((101 : Int32) * a1) + x4) 202) <| gd (ib x4 101) <| lt_ (pI s5 54 (Int32.toNatClampNeg x4) (gI s5 55 (Int32.toNatClampNeg (((101 : Int32) * a1) + x4)))) fun s8 => lt_ (x4 + (1 : Int32)) fun x9 => lp_X8_from_33 N a1 q x9 s8)
def f_X8_from (N : Nat) (a1 : Int32) (s0 : jM) : Option (Int32 × jM) := Option.bind (f_X8_in (Int32.toInt64 a1) (0 : Int64) (1 : Int64)) fun r1 => if r1 = 0 then (Option.bind (f_X8_bad (-2 : Int32) s0) fun r11 => some (r11.1, r11.2)) else (gd (ib a1 2) <| if (gI s0 56 (Int32.toNatClampNeg a1)) = 0 then (Option.bind (f_X8_no s0) fun r10 => some (r10.1, r10.2)) else (lp_X8_from_33 N a1 N (0 : Int32) s0))
set_option maxRecDepth 100000 in
set_option maxHeartbeats 4000000 in
theorem lp_X8_from_33_ok (l : Launch) (N : Nat)  (a1 : Int32)  : ∀ (q : Nat) (x4 : Int32) (s5 : jM), J l RX8 cX8_from 3 (Option.some Jvm.ClassFile.FieldType.int) false (rmD (2) 0 0) noCx (eIM SH) SH 0 0 s5 33 [some (.ref 53), some (.int a1), some (.int x4)] [] (lp_X8_from_33 N a1 q x4 s5) := by
  intro q
  induction q with
  | zero => intro x4 s5; exact J_none
  | succ q hrec6 =>
    intro x4 s5
    rw [lp_X8_from_33]
    refine J_iload_n (i := 2) dX8_from_33 rfl rfl ?_
    refine J_bipush (v := (101 : Int32)) dX8_from_34 (by decide) ?_
    refine J_icmp_ge (tgt := 62) dX8_from_36 (by decide) (fun c7 => ?_) (fun c7 => ?_)
    · refine J_iconst (v := (1 : Int32)) dX8_from_62 (by decide) ?_
      exact J_ireturn dX8_from_63 rfl rfl rfl
    · refine J_aload_n (i := 0) dX8_from_39 rfl rfl ?_
      refine J_getR dX8_from_40 fl_RX8_7 sh_53_0 ?_
      refine J_iload_n (i := 2) dX8_from_43 rfl rfl ?_
      refine J_aload_n (i := 0) dX8_from_44 rfl rfl ?_
      refine J_getR dX8_from_45 fl_RX8_13 sh_53_1 ?_
      refine J_bipush (v := (101 : Int32)) dX8_from_48 (by decide) ?_
      refine J_iload_n (i := 1) dX8_from_50 rfl rfl ?_
      refine J_imul dX8_from_51 ?_
      refine J_iload_n (i := 2) dX8_from_52 rfl rfl ?_
      refine J_iadd dX8_from_53 ?_
      refine J_iald dX8_from_54 sa_55 ?_
      refine J_iast dX8_from_55 sa_54 ?_
      refine J_letM rfl (fun s8 => ?_)
      refine J_iincN (i := 2) (v := x4 + (1 : Int32)) (LS := fun x9 => [some (.ref 53), some (.int a1), some (.int x9)]) dX8_from_56 rfl (by first | rfl | decide) (fun _ => rfl) (by decide) (fun x9 => ?_)
      refine J_goto (tgt := 33) dX8_from_59 (by decide) ?_
      refine J_sub (l1 := [some (.ref 53), some (.int a1), some (.int x9)]) ⟨rfl, ⟨rfl, ⟨rfl, trivial⟩⟩⟩ ?_
      exact hrec6 x9 s8
set_option maxRecDepth 100000 in
set_option maxHeartbeats 4000000 in
theorem con_X8_from (l : Launch) (N : Nat) (a1 : Int32) (s0 : jM) : Con l (2) yX8_from cX8_from 3 (Option.some Jvm.ClassFile.FieldType.int) (eIM SH) SH [.ref 53, .int a1] s0 (f_X8_from N a1 s0) := by
  refine Con_of (ls0 := [some (.ref 53), some (.int a1), none]) (ini := false) (mc := 0) (ms := 0) (by decide +kernel) rfl (Nat.le_of_ble_eq_true rfl) (fun h => by cases h) (fun _ _ => rfl) ?_
  unfold f_X8_from
  refine J_iload_n (i := 1) dX8_from_0 rfl rfl ?_
  refine J_i2l dX8_from_1 ?_
  refine J_lconst (v := (0 : Int64)) dX8_from_2 (by decide) ?_
  refine J_lconst (v := (1 : Int64)) dX8_from_3 (by decide) ?_
  refine J_callSI [.long (Int32.toInt64 a1), .long (0 : Int64), .long (1 : Int64)] dX8_from_4 ca_X8_in lk_RX8_74 st_X8_in rfl rfl ⟨by show _ ≤ _; simp only [rmD]; omega, by show _ ≤ _; simp only [rmD]; omega⟩ (Nat.le_of_ble_eq_true rfl) ⟨Nat.zero_le _, Nat.zero_le _⟩ (con_X8_in l _ _ _ _) (fun r1 _ => ?_)
  refine J_if_ne (tgt := 17) dX8_from_7 (by decide) (fun c2 => ?_) (fun c2 => ?_)
  · refine J_aload_n (i := 0) dX8_from_17 rfl rfl ?_
    refine J_getR dX8_from_18 fl_RX8_16 sh_53_2 ?_
    refine J_iload_n (i := 1) dX8_from_21 rfl rfl ?_
    refine J_zald dX8_from_22 sa_56 ?_
    refine J_if_ne (tgt := 31) dX8_from_23 (by decide) (fun c3 => ?_) (fun c3 => ?_)
    · refine J_iconst (v := (0 : Int32)) dX8_from_31 (by decide) ?_
      refine J_istore_n (i := 2) (ls2 := [some (.ref 53), some (.int a1), some (.int (0 : Int32))]) dX8_from_32 rfl rfl (by decide) ?_
      refine J_sub (l1 := [some (.ref 53), some (.int a1), some (.int (0 : Int32))]) ⟨rfl, ⟨rfl, ⟨rfl, trivial⟩⟩⟩ ?_
      exact lp_X8_from_33_ok l N  a1  N (0 : Int32) s0
    · refine J_aload_n (i := 0) dX8_from_26 rfl rfl ?_
      refine J_callVIM 53 [] dX8_from_27 ca_X8_no lk_RX8_232 vi_X8_no rc_53 rfl rfl ⟨by show _ ≤ _; simp only [rmD]; omega, by show _ ≤ _; simp only [rmD]; omega⟩ (Nat.le_of_ble_eq_true rfl) ⟨Nat.zero_le _, Nat.zero_le _⟩ (con_X8_no l _) (fun r10 _ => ?_)
      exact J_ireturn dX8_from_30 rfl rfl rfl
  · refine J_aload_n (i := 0) dX8_from_10 rfl rfl ?_
    refine J_bipush (v := (-2 : Int32)) dX8_from_11 (by decide) ?_
    refine J_callVIM 53 [.int (-2 : Int32)] dX8_from_13 ca_X8_bad lk_RX8_87 vi_X8_bad rc_53 rfl rfl ⟨by show _ ≤ _; simp only [rmD]; omega, by show _ ≤ _; simp only [rmD]; omega⟩ (Nat.le_of_ble_eq_true rfl) ⟨Nat.zero_le _, Nat.zero_le _⟩ (con_X8_bad l _ _) (fun r11 _ => ?_)
    exact J_ireturn dX8_from_16 rfl rfl rfl
