def lp_X8_tells_6 (N : Nat) (k2 : Int64 → Option (Int32 × jM)) : Nat → Int64 → Int64 → Option (Int32 × jM)
  | 0, _, _ => none
  | q + 1, y5, y6 => if y6 = (0 : Int64) then (k2 y5) else (gd (decide (¬ y6 = 0)) <| lt_ (y5 - y5 / y6 * y6) fun y9 => lp_X8_tells_6 N k2 q y6 y9)
def f_X8_tells (N : Nat) (a1 : Int64) (a2 : Int64) (s0 : jM) : Option (Int32 × jM) := jn_ (fun (y1 : Int64) => gd (decide (¬ y1 = 0)) <| lt_ (pL s0 53 4 (a1 / y1)) fun s3 => gd (decide (¬ y1 = 0)) <| lt_ (pL s3 53 5 (a2 / y1)) fun s4 => some ((1 : Int32), s4)) fun k2 => lp_X8_tells_6 N k2 N a1 a2
set_option maxRecDepth 100000 in
set_option maxHeartbeats 4000000 in
theorem lp_X8_tells_6_ok (l : Launch) (N : Nat)  (k2 : Int64 → Option (Int32 × jM)) (s0 : jM) (a1 : Int64) (a2 : Int64) (hk2 : ∀ (y1 : Int64), J l RX8 cX8_tells 11 (Option.some Jvm.ClassFile.FieldType.int) false (rmD (1) 0 0) noCx (eIM SH) SH 0 0 s0 31 [some (.ref 53), some (.long a1), none, some (.long a2), none, some (.long y1), none, none, none, none, none] [] (k2 y1)) : ∀ (q : Nat) (y5 : Int64) (y6 : Int64), J l RX8 cX8_tells 11 (Option.some Jvm.ClassFile.FieldType.int) false (rmD (1) 0 0) noCx (eIM SH) SH 0 0 s0 6 [some (.ref 53), some (.long a1), none, some (.long a2), none, some (.long y5), none, some (.long y6), none, none, none] [] (lp_X8_tells_6 N k2 q y5 y6) := by
  intro q
  induction q with
  | zero => intro y5 y6; exact J_none
  | succ q hrec7 =>
    intro y5 y6
    rw [lp_X8_tells_6]
    refine J_lload (i := 7) dX8_tells_6 rfl ?_
    refine J_lconst (v := (0 : Int64)) dX8_tells_8 (by decide) ?_
    refine J_lcmp_eq (tgt := 31) dX8_tells_9 dX8_tells_10 (by decide) (fun c8 => ?_) (fun c8 => ?_)
    · refine J_sub (l1 := [some (.ref 53), some (.long a1), none, some (.long a2), none, some (.long y5), none, none, none, none, none]) ⟨rfl, ⟨rfl, ⟨rfl, ⟨rfl, trivial⟩⟩⟩⟩ ?_
      exact hk2 y5
    · refine J_lload (i := 5) dX8_tells_13 rfl ?_
      refine J_lload (i := 7) dX8_tells_15 rfl ?_
      refine J_lrem dX8_tells_17 ?_
      refine J_lstoreN (i := 9) (LS := fun y9 => [some (.ref 53), some (.long a1), none, some (.long a2), none, some (.long y5), none, some (.long y6), none, some (.long y9), none]) dX8_tells_18 (fun _ => rfl) (by decide) (fun y9 => ?_)
      refine J_lload (i := 7) dX8_tells_20 rfl ?_
      refine J_lstore (i := 5) (ls2 := [some (.ref 53), some (.long a1), none, some (.long a2), none, some (.long y6), none, some (.long y6), none, some (.long y9), none]) dX8_tells_22 rfl (by decide) ?_
      refine J_lload (i := 9) dX8_tells_24 rfl ?_
      refine J_lstore (i := 7) (ls2 := [some (.ref 53), some (.long a1), none, some (.long a2), none, some (.long y6), none, some (.long y9), none, some (.long y9), none]) dX8_tells_26 rfl (by decide) ?_
      refine J_goto (tgt := 6) dX8_tells_28 (by decide) ?_
      refine J_sub (l1 := [some (.ref 53), some (.long a1), none, some (.long a2), none, some (.long y6), none, some (.long y9), none, none, none]) ⟨rfl, ⟨rfl, ⟨rfl, ⟨rfl, ⟨rfl, trivial⟩⟩⟩⟩⟩ ?_
      exact hrec7 y6 y9
set_option maxRecDepth 100000 in
set_option maxHeartbeats 4000000 in
theorem con_X8_tells (l : Launch) (N : Nat) (a1 : Int64) (a2 : Int64) (s0 : jM) : Con l (1) yX8_tells cX8_tells 11 (Option.some Jvm.ClassFile.FieldType.int) (eIM SH) SH [.ref 53, .long a1, .long a2] s0 (f_X8_tells N a1 a2 s0) := by
  refine Con_of (ls0 := [some (.ref 53), some (.long a1), none, some (.long a2), none, none, none, none, none, none, none]) (ini := false) (mc := 0) (ms := 0) (by decide +kernel) rfl (Nat.le_of_ble_eq_true rfl) (fun h => by cases h) (fun _ _ => rfl) ?_
  unfold f_X8_tells
  refine J_lload_n (i := 1) dX8_tells_0 rfl rfl ?_
  refine J_lstore (i := 5) (ls2 := [some (.ref 53), some (.long a1), none, some (.long a2), none, some (.long a1), none, none, none, none, none]) dX8_tells_1 rfl (by decide) ?_
  refine J_lload_n (i := 3) dX8_tells_3 rfl rfl ?_
  refine J_lstore (i := 7) (ls2 := [some (.ref 53), some (.long a1), none, some (.long a2), none, some (.long a1), none, some (.long a2), none, none, none]) dX8_tells_4 rfl (by decide) ?_
  refine J_join (P := fun j => ∀ (y1 : Int64), J l RX8 cX8_tells 11 (Option.some Jvm.ClassFile.FieldType.int) false (rmD (1) 0 0) noCx (eIM SH) SH 0 0 s0 31 [some (.ref 53), some (.long a1), none, some (.long a2), none, some (.long y1), none, none, none, none, none] [] (j y1)) ?_ (fun k2 hk2 => ?_)
  · intro y1
    refine J_aload_n (i := 0) dX8_tells_31 rfl rfl ?_
    refine J_lload_n (i := 1) dX8_tells_32 rfl rfl ?_
    refine J_lload (i := 5) dX8_tells_33 rfl ?_
    refine J_ldiv dX8_tells_35 ?_
    refine J_putL dX8_tells_36 fp_RX8_67 (fun h => by first | rfl | cases h) sh_53_4 rfl rfl ?_
    refine J_letM rfl (fun s3 => ?_)
    refine J_aload_n (i := 0) dX8_tells_39 rfl rfl ?_
    refine J_lload_n (i := 3) dX8_tells_40 rfl rfl ?_
    refine J_lload (i := 5) dX8_tells_41 rfl ?_
    refine J_ldiv dX8_tells_43 ?_
    refine J_putL dX8_tells_44 fp_RX8_23 (fun h => by first | rfl | cases h) sh_53_5 rfl rfl ?_
    refine J_letM rfl (fun s4 => ?_)
    refine J_iconst (v := (1 : Int32)) dX8_tells_47 (by decide) ?_
    exact J_ireturn dX8_tells_48 rfl rfl rfl
  refine J_sub (l1 := [some (.ref 53), some (.long a1), none, some (.long a2), none, some (.long a1), none, some (.long a2), none, none, none]) ⟨rfl, ⟨rfl, ⟨rfl, ⟨rfl, ⟨rfl, trivial⟩⟩⟩⟩⟩ ?_
  exact lp_X8_tells_6_ok l N  k2 s0 a1 a2 hk2 N a1 a2

def f_X8_walkers  (s0 : jM) : Option Int32 := gd (ib (99 : Int32) 101) <| some (gI s0 54 (Int32.toNatClampNeg (99 : Int32)))
set_option maxRecDepth 100000 in
set_option maxHeartbeats 4000000 in
theorem con_X8_walkers (l : Launch) (s0 : jM) : Con l (1) yX8_walkers cX8_walkers 1 (Option.some Jvm.ClassFile.FieldType.int) (eI SH s0) SH [.ref 53] s0 (f_X8_walkers s0) := by
  refine Con_of (ls0 := [some (.ref 53)]) (ini := false) (mc := 0) (ms := 0) (by decide +kernel) rfl (Nat.le_of_ble_eq_true rfl) (fun h => by cases h) (fun _ _ => rfl) ?_
  unfold f_X8_walkers
  refine J_aload_n (i := 0) dX8_walkers_0 rfl rfl ?_
  refine J_getR dX8_walkers_1 fl_RX8_7 sh_53_0 ?_
  refine J_bipush (v := (99 : Int32)) dX8_walkers_4 (by decide) ?_
  refine J_iald dX8_walkers_6 sa_54 ?_
  exact J_ireturn dX8_walkers_7 rfl rfl rfl

def f_X8_all  (s0 : jM) : Option Int32 := Option.bind (f_X8_walkers s0) fun r1 => some (((1 : Int32) <<< (r1 &&& 31)) - (1 : Int32))
set_option maxRecDepth 100000 in
set_option maxHeartbeats 4000000 in
theorem con_X8_all (l : Launch) (s0 : jM) : Con l (2) yX8_all cX8_all 1 (Option.some Jvm.ClassFile.FieldType.int) (eI SH s0) SH [.ref 53] s0 (f_X8_all s0) := by
  refine Con_of (ls0 := [some (.ref 53)]) (ini := false) (mc := 0) (ms := 0) (by decide +kernel) rfl (Nat.le_of_ble_eq_true rfl) (fun h => by cases h) (fun _ _ => rfl) ?_
  unfold f_X8_all
  refine J_iconst (v := (1 : Int32)) dX8_all_0 (by decide) ?_
  refine J_aload_n (i := 0) dX8_all_1 rfl rfl ?_
  refine J_callVI 53 [] dX8_all_2 ca_X8_walkers lk_RX8_70 vi_X8_walkers rc_53 rfl rfl ⟨by show _ ≤ _; simp only [rmD]; omega, by show _ ≤ _; simp only [rmD]; omega⟩ (Nat.le_of_ble_eq_true rfl) ⟨Nat.zero_le _, Nat.zero_le _⟩ (con_X8_walkers l _) (fun r1 _ => ?_)
  refine J_ishl dX8_all_5 ?_
  refine J_iconst (v := (1 : Int32)) dX8_all_6 (by decide) ?_
  refine J_isub dX8_all_7 ?_
  exact J_ireturn dX8_all_8 rfl rfl rfl

def f_X8_isWalker (a1 : Int32) (s0 : jM) : Option Int32 := Option.bind (f_X8_walkers s0) fun r1 => Option.bind (f_X8_in (Int32.toInt64 a1) (0 : Int64) (Int32.toInt64 (r1 - (1 : Int32)))) fun r2 => gd (zb r2) (some r2)
set_option maxRecDepth 100000 in
set_option maxHeartbeats 4000000 in
theorem con_X8_isWalker (l : Launch) (a1 : Int32) (s0 : jM) : Con l (2) yX8_isWalker cX8_isWalker 2 (Option.some Jvm.ClassFile.FieldType.boolean) (eI SH s0) SH [.ref 53, .int a1] s0 (f_X8_isWalker a1 s0) := by
  refine Con_of (ls0 := [some (.ref 53), some (.int a1)]) (ini := false) (mc := 0) (ms := 0) (by decide +kernel) rfl (Nat.le_of_ble_eq_true rfl) (fun h => by cases h) (fun _ _ => rfl) ?_
  unfold f_X8_isWalker
  refine J_iload_n (i := 1) dX8_isWalker_0 rfl rfl ?_
  refine J_i2l dX8_isWalker_1 ?_
  refine J_lconst (v := (0 : Int64)) dX8_isWalker_2 (by decide) ?_
  refine J_aload_n (i := 0) dX8_isWalker_3 rfl rfl ?_
  refine J_callVI 53 [] dX8_isWalker_4 ca_X8_walkers lk_RX8_70 vi_X8_walkers rc_53 rfl rfl ⟨by show _ ≤ _; simp only [rmD]; omega, by show _ ≤ _; simp only [rmD]; omega⟩ (Nat.le_of_ble_eq_true rfl) ⟨Nat.zero_le _, Nat.zero_le _⟩ (con_X8_walkers l _) (fun r1 _ => ?_)
  refine J_iconst (v := (1 : Int32)) dX8_isWalker_7 (by decide) ?_
  refine J_isub dX8_isWalker_8 ?_
  refine J_i2l dX8_isWalker_9 ?_
  refine J_callSI [.long (Int32.toInt64 a1), .long (0 : Int64), .long (Int32.toInt64 (r1 - (1 : Int32)))] dX8_isWalker_10 ca_X8_in lk_RX8_74 st_X8_in rfl rfl ⟨by show _ ≤ _; simp only [rmD]; omega, by show _ ≤ _; simp only [rmD]; omega⟩ (Nat.le_of_ble_eq_true rfl) ⟨Nat.zero_le _, Nat.zero_le _⟩ (con_X8_in l _ _ _ _) (fun r2 _ => ?_)
  exact J_gd (fun hz => J_ireturn dX8_isWalker_13 rfl (zb_nar hz) rfl)

def f_X8_isSet (a1 : Int32) (s0 : jM) : Option Int32 := Option.bind (f_X8_all s0) fun r1 => Option.bind (f_X8_in (Int32.toInt64 a1) (0 : Int64) (Int32.toInt64 r1)) fun r2 => gd (zb r2) (some r2)
set_option maxRecDepth 100000 in
set_option maxHeartbeats 4000000 in
theorem con_X8_isSet (l : Launch) (a1 : Int32) (s0 : jM) : Con l (3) yX8_isSet cX8_isSet 2 (Option.some Jvm.ClassFile.FieldType.boolean) (eI SH s0) SH [.ref 53, .int a1] s0 (f_X8_isSet a1 s0) := by
  refine Con_of (ls0 := [some (.ref 53), some (.int a1)]) (ini := false) (mc := 0) (ms := 0) (by decide +kernel) rfl (Nat.le_of_ble_eq_true rfl) (fun h => by cases h) (fun _ _ => rfl) ?_
  unfold f_X8_isSet
  refine J_iload_n (i := 1) dX8_isSet_0 rfl rfl ?_
  refine J_i2l dX8_isSet_1 ?_
  refine J_lconst (v := (0 : Int64)) dX8_isSet_2 (by decide) ?_
  refine J_aload_n (i := 0) dX8_isSet_3 rfl rfl ?_
  refine J_callVI 53 [] dX8_isSet_4 ca_X8_all lk_RX8_78 vi_X8_all rc_53 rfl rfl ⟨by show _ ≤ _; simp only [rmD]; omega, by show _ ≤ _; simp only [rmD]; omega⟩ (Nat.le_of_ble_eq_true rfl) ⟨Nat.zero_le _, Nat.zero_le _⟩ (con_X8_all l _) (fun r1 _ => ?_)
  refine J_i2l dX8_isSet_7 ?_
  refine J_callSI [.long (Int32.toInt64 a1), .long (0 : Int64), .long (Int32.toInt64 r1)] dX8_isSet_8 ca_X8_in lk_RX8_74 st_X8_in rfl rfl ⟨by show _ ≤ _; simp only [rmD]; omega, by show _ ≤ _; simp only [rmD]; omega⟩ (Nat.le_of_ble_eq_true rfl) ⟨Nat.zero_le _, Nat.zero_le _⟩ (con_X8_in l _ _ _ _) (fun r2 _ => ?_)
  exact J_gd (fun hz => J_ireturn dX8_isSet_11 rfl (zb_nar hz) rfl)

def f_X8_of (a1 : Int32) (a2 : Int32) (s0 : jM) : Option Int32 := gd (ib (((0 : Int32) + ((4 : Int32) * a1)) + a2) 101) <| some (gI s0 54 (Int32.toNatClampNeg (((0 : Int32) + ((4 : Int32) * a1)) + a2)))
set_option maxRecDepth 100000 in
set_option maxHeartbeats 4000000 in
theorem con_X8_of (l : Launch) (a1 : Int32) (a2 : Int32) (s0 : jM) : Con l (1) yX8_of cX8_of 3 (Option.some Jvm.ClassFile.FieldType.int) (eI SH s0) SH [.ref 53, .int a1, .int a2] s0 (f_X8_of a1 a2 s0) := by
  refine Con_of (ls0 := [some (.ref 53), some (.int a1), some (.int a2)]) (ini := false) (mc := 0) (ms := 0) (by decide +kernel) rfl (Nat.le_of_ble_eq_true rfl) (fun h => by cases h) (fun _ _ => rfl) ?_
  unfold f_X8_of
  refine J_aload_n (i := 0) dX8_of_0 rfl rfl ?_
  refine J_getR dX8_of_1 fl_RX8_7 sh_53_0 ?_
  refine J_iconst (v := (0 : Int32)) dX8_of_4 (by decide) ?_
  refine J_iconst (v := (4 : Int32)) dX8_of_5 (by decide) ?_
  refine J_iload_n (i := 1) dX8_of_6 rfl rfl ?_
  refine J_imul dX8_of_7 ?_
  refine J_iadd dX8_of_8 ?_
  refine J_iload_n (i := 2) dX8_of_9 rfl rfl ?_
  refine J_iadd dX8_of_10 ?_
  refine J_iald dX8_of_11 sa_54 ?_
  exact J_ireturn dX8_of_12 rfl rfl rfl

def f_X8_walker (a1 : Int32) (a2 : Int32) (a3 : Int32) (s0 : jM) : Option (Int32 × jM) := jn_ (fun (_ : Unit) => Option.bind (f_X8_bad (-2 : Int32) s0) fun r2 => some (r2.1, r2.2)) fun j1 => Option.bind (f_X8_in (Int32.toInt64 a1) (0 : Int64) (7 : Int64)) fun r3 => if r3 = 0 then (j1 ()) else (Option.bind (f_X8_in (Int32.toInt64 a2) (1 : Int64) (20 : Int64)) fun r5 => if r5 = 0 then (j1 ()) else (Option.bind (f_X8_in (Int32.toInt64 a3) (0 : Int64) (99 : Int64)) fun r7 => if r7 = 0 then (j1 ()) else (Option.bind (f_X8_walkers s0) fun r9 => if r9 = (8 : Int32) then (Option.bind (f_X8_full s0) fun r16 => some (r16.1, r16.2)) else (gd (ib ((0 : Int32) + ((4 : Int32) * r9)) 101) <| lt_ (pI s0 54 (Int32.toNatClampNeg ((0 : Int32) + ((4 : Int32) * r9))) a1) fun s11 => gd (ib (((0 : Int32) + ((4 : Int32) * r9)) + (1 : Int32)) 101) <| lt_ (pI s11 54 (Int32.toNatClampNeg (((0 : Int32) + ((4 : Int32) * r9)) + (1 : Int32))) a2) fun s12 => gd (ib (((0 : Int32) + ((4 : Int32) * r9)) + (2 : Int32)) 101) <| lt_ (pI s12 54 (Int32.toNatClampNeg (((0 : Int32) + ((4 : Int32) * r9)) + (2 : Int32))) a3) fun s13 => gd (ib (((0 : Int32) + ((4 : Int32) * r9)) + (3 : Int32)) 101) <| lt_ (pI s13 54 (Int32.toNatClampNeg (((0 : Int32) + ((4 : Int32) * r9)) + (3 : Int32))) (10 : Int32)) fun s14 => gd (ib (99 : Int32) 101) <| gd (ib (99 : Int32) 101) <| lt_ (pI s14 54 (Int32.toNatClampNeg (99 : Int32)) ((gI s14 54 (Int32.toNatClampNeg (99 : Int32))) + (1 : Int32))) fun s15 => some (r9, s15)))))
set_option maxRecDepth 100000 in
set_option maxHeartbeats 4000000 in
theorem con_X8_walker (l : Launch) (a1 : Int32) (a2 : Int32) (a3 : Int32) (s0 : jM) : Con l (2) yX8_walker cX8_walker 5 (Option.some Jvm.ClassFile.FieldType.int) (eIM SH) SH [.ref 53, .int a1, .int a2, .int a3] s0 (f_X8_walker a1 a2 a3 s0) := by
  refine Con_of (ls0 := [some (.ref 53), some (.int a1), some (.int a2), some (.int a3), none]) (ini := false) (mc := 0) (ms := 0) (by decide +kernel) rfl (Nat.le_of_ble_eq_true rfl) (fun h => by cases h) (fun _ _ => rfl) ?_
  unfold f_X8_walker
  refine J_join (P := fun j => ∀ (_ : Unit), J l RX8 cX8_walker 5 (Option.some Jvm.ClassFile.FieldType.int) false (rmD (2) 0 0) noCx (eIM SH) SH 0 0 s0 36 [some (.ref 53), none, none, none, none] [] (j ())) ?_ (fun j1 hj1 => ?_)
  · intro _
    refine J_aload_n (i := 0) dX8_walker_36 rfl rfl ?_
    refine J_bipush (v := (-2 : Int32)) dX8_walker_37 (by decide) ?_
    refine J_callVIM 53 [.int (-2 : Int32)] dX8_walker_39 ca_X8_bad lk_RX8_87 vi_X8_bad rc_53 rfl rfl ⟨by show _ ≤ _; simp only [rmD]; omega, by show _ ≤ _; simp only [rmD]; omega⟩ (Nat.le_of_ble_eq_true rfl) ⟨Nat.zero_le _, Nat.zero_le _⟩ (con_X8_bad l _ _) (fun r2 _ => ?_)
    exact J_ireturn dX8_walker_42 rfl rfl rfl
  refine J_iload_n (i := 1) dX8_walker_0 rfl rfl ?_
  refine J_i2l dX8_walker_1 ?_
  refine J_lconst (v := (0 : Int64)) dX8_walker_2 (by decide) ?_
  refine J_ldc2 (v := (7 : Int64)) dX8_walker_3 kw_RX8_81 ?_
  refine J_callSI [.long (Int32.toInt64 a1), .long (0 : Int64), .long (7 : Int64)] dX8_walker_6 ca_X8_in lk_RX8_74 st_X8_in rfl rfl ⟨by show _ ≤ _; simp only [rmD]; omega, by show _ ≤ _; simp only [rmD]; omega⟩ (Nat.le_of_ble_eq_true rfl) ⟨Nat.zero_le _, Nat.zero_le _⟩ (con_X8_in l _ _ _ _) (fun r3 _ => ?_)
  refine J_if_eq (tgt := 36) dX8_walker_9 (by decide) (fun c4 => ?_) (fun c4 => ?_)
  · refine J_sub (l1 := [some (.ref 53), none, none, none, none]) ⟨rfl, trivial⟩ ?_
    exact hj1 ()
  · refine J_iload_n (i := 2) dX8_walker_12 rfl rfl ?_
    refine J_i2l dX8_walker_13 ?_
    refine J_lconst (v := (1 : Int64)) dX8_walker_14 (by decide) ?_
    refine J_ldc2 (v := (20 : Int64)) dX8_walker_15 kw_RX8_83 ?_
    refine J_callSI [.long (Int32.toInt64 a2), .long (1 : Int64), .long (20 : Int64)] dX8_walker_18 ca_X8_in lk_RX8_74 st_X8_in rfl rfl ⟨by show _ ≤ _; simp only [rmD]; omega, by show _ ≤ _; simp only [rmD]; omega⟩ (Nat.le_of_ble_eq_true rfl) ⟨Nat.zero_le _, Nat.zero_le _⟩ (con_X8_in l _ _ _ _) (fun r5 _ => ?_)
    refine J_if_eq (tgt := 36) dX8_walker_21 (by decide) (fun c6 => ?_) (fun c6 => ?_)
    · refine J_sub (l1 := [some (.ref 53), none, none, none, none]) ⟨rfl, trivial⟩ ?_
      exact hj1 ()
    · refine J_iload_n (i := 3) dX8_walker_24 rfl rfl ?_
      refine J_i2l dX8_walker_25 ?_
      refine J_lconst (v := (0 : Int64)) dX8_walker_26 (by decide) ?_
      refine J_ldc2 (v := (99 : Int64)) dX8_walker_27 kw_RX8_85 ?_
      refine J_callSI [.long (Int32.toInt64 a3), .long (0 : Int64), .long (99 : Int64)] dX8_walker_30 ca_X8_in lk_RX8_74 st_X8_in rfl rfl ⟨by show _ ≤ _; simp only [rmD]; omega, by show _ ≤ _; simp only [rmD]; omega⟩ (Nat.le_of_ble_eq_true rfl) ⟨Nat.zero_le _, Nat.zero_le _⟩ (con_X8_in l _ _ _ _) (fun r7 _ => ?_)
      refine J_if_ne (tgt := 43) dX8_walker_33 (by decide) (fun c8 => ?_) (fun c8 => ?_)
      · refine J_aload_n (i := 0) dX8_walker_43 rfl rfl ?_
        refine J_callVI 53 [] dX8_walker_44 ca_X8_walkers lk_RX8_70 vi_X8_walkers rc_53 rfl rfl ⟨by show _ ≤ _; simp only [rmD]; omega, by show _ ≤ _; simp only [rmD]; omega⟩ (Nat.le_of_ble_eq_true rfl) ⟨Nat.zero_le _, Nat.zero_le _⟩ (con_X8_walkers l _) (fun r9 _ => ?_)
        refine J_istore (i := 4) (ls2 := [some (.ref 53), some (.int a1), some (.int a2), some (.int a3), some (.int r9)]) dX8_walker_47 rfl (by decide) ?_
        refine J_iload (i := 4) dX8_walker_49 rfl ?_
        refine J_bipush (v := (8 : Int32)) dX8_walker_51 (by decide) ?_
        refine J_icmp_ne (tgt := 61) dX8_walker_53 (by decide) (fun c10 => ?_) (fun c10 => ?_)
        · refine J_aload_n (i := 0) dX8_walker_61 rfl rfl ?_
          refine J_getR dX8_walker_62 fl_RX8_7 sh_53_0 ?_
          refine J_iconst (v := (0 : Int32)) dX8_walker_65 (by decide) ?_
          refine J_iconst (v := (4 : Int32)) dX8_walker_66 (by decide) ?_
          refine J_iload (i := 4) dX8_walker_67 rfl ?_
          refine J_imul dX8_walker_69 ?_
          refine J_iadd dX8_walker_70 ?_
          refine J_iload_n (i := 1) dX8_walker_71 rfl rfl ?_
          refine J_iast dX8_walker_72 sa_54 ?_
          refine J_letM rfl (fun s11 => ?_)
          refine J_aload_n (i := 0) dX8_walker_73 rfl rfl ?_
          refine J_getR dX8_walker_74 fl_RX8_7 sh_53_0 ?_
          refine J_iconst (v := (0 : Int32)) dX8_walker_77 (by decide) ?_
          refine J_iconst (v := (4 : Int32)) dX8_walker_78 (by decide) ?_
          refine J_iload (i := 4) dX8_walker_79 rfl ?_
          refine J_imul dX8_walker_81 ?_
          refine J_iadd dX8_walker_82 ?_
          refine J_iconst (v := (1 : Int32)) dX8_walker_83 (by decide) ?_
          refine J_iadd dX8_walker_84 ?_
          refine J_iload_n (i := 2) dX8_walker_85 rfl rfl ?_
          refine J_iast dX8_walker_86 sa_54 ?_
          refine J_letM rfl (fun s12 => ?_)
          refine J_aload_n (i := 0) dX8_walker_87 rfl rfl ?_
          refine J_getR dX8_walker_88 fl_RX8_7 sh_53_0 ?_
          refine J_iconst (v := (0 : Int32)) dX8_walker_91 (by decide) ?_
          refine J_iconst (v := (4 : Int32)) dX8_walker_92 (by decide) ?_
          refine J_iload (i := 4) dX8_walker_93 rfl ?_
          refine J_imul dX8_walker_95 ?_
          refine J_iadd dX8_walker_96 ?_
          refine J_iconst (v := (2 : Int32)) dX8_walker_97 (by decide) ?_
          refine J_iadd dX8_walker_98 ?_
          refine J_iload_n (i := 3) dX8_walker_99 rfl rfl ?_
          refine J_iast dX8_walker_100 sa_54 ?_
          refine J_letM rfl (fun s13 => ?_)
          refine J_aload_n (i := 0) dX8_walker_101 rfl rfl ?_
          refine J_getR dX8_walker_102 fl_RX8_7 sh_53_0 ?_
          refine J_iconst (v := (0 : Int32)) dX8_walker_105 (by decide) ?_
          refine J_iconst (v := (4 : Int32)) dX8_walker_106 (by decide) ?_
          refine J_iload (i := 4) dX8_walker_107 rfl ?_
          refine J_imul dX8_walker_109 ?_
          refine J_iadd dX8_walker_110 ?_
          refine J_iconst (v := (3 : Int32)) dX8_walker_111 (by decide) ?_
          refine J_iadd dX8_walker_112 ?_
          refine J_bipush (v := (10 : Int32)) dX8_walker_113 (by decide) ?_
          refine J_iast dX8_walker_115 sa_54 ?_
          refine J_letM rfl (fun s14 => ?_)
          refine J_aload_n (i := 0) dX8_walker_116 rfl rfl ?_
          refine J_getR dX8_walker_117 fl_RX8_7 sh_53_0 ?_
          refine J_bipush (v := (99 : Int32)) dX8_walker_120 (by decide) ?_
          refine J_dup2_11 dX8_walker_122 rfl rfl ?_
          refine J_iald dX8_walker_123 sa_54 ?_
          refine J_iconst (v := (1 : Int32)) dX8_walker_124 (by decide) ?_
          refine J_iadd dX8_walker_125 ?_
          refine J_iast dX8_walker_126 sa_54 ?_
          refine J_letM rfl (fun s15 => ?_)
          refine J_iload (i := 4) dX8_walker_127 rfl ?_
          exact J_ireturn dX8_walker_129 rfl rfl rfl
        · refine J_aload_n (i := 0) dX8_walker_56 rfl rfl ?_
          refine J_callVIM 53 [] dX8_walker_57 ca_X8_full lk_RX8_91 vi_X8_full rc_53 rfl rfl ⟨by show _ ≤ _; simp only [rmD]; omega, by show _ ≤ _; simp only [rmD]; omega⟩ (Nat.le_of_ble_eq_true rfl) ⟨Nat.zero_le _, Nat.zero_le _⟩ (con_X8_full l _) (fun r16 _ => ?_)
          exact J_ireturn dX8_walker_60 rfl rfl rfl
      · refine J_sub (l1 := [some (.ref 53), none, none, none, none]) ⟨rfl, trivial⟩ ?_
        exact hj1 ()

def f_X8_put (a1 : Int32) (a2 : Int32) (s0 : jM) : Option (Int32 × jM) := jn_ (fun (_ : Unit) => Option.bind (f_X8_bad (-2 : Int32) s0) fun r2 => some (r2.1, r2.2)) fun j1 => Option.bind (f_X8_in (Int32.toInt64 a1) (0 : Int64) (1 : Int64)) fun r3 => if r3 = 0 then (j1 ()) else (jn_ (fun (y5 : Int64) (y6 : Int64) (y7 : Int64) => Option.bind (f_X8_in y5 y6 y7) fun r9 => if r9 = 0 then (j1 ()) else (gd (ib ((32 : Int32) + a1) 101) <| lt_ (gI s0 54 (Int32.toNatClampNeg ((32 : Int32) + a1))) fun x11 => gd (ib ((32 : Int32) + a1) 101) <| lt_ (pI s0 54 (Int32.toNatClampNeg ((32 : Int32) + a1)) a2) fun s12 => some (x11, s12))) fun j8 => if a1 = 0 then (j8 (Int32.toInt64 a2) (0 : Int64) (19 : Int64)) else (j8 (Int32.toInt64 a2) (0 : Int64) (99 : Int64)))
set_option maxRecDepth 100000 in
set_option maxHeartbeats 4000000 in
theorem con_X8_put (l : Launch) (a1 : Int32) (a2 : Int32) (s0 : jM) : Con l (2) yX8_put cX8_put 4 (Option.some Jvm.ClassFile.FieldType.int) (eIM SH) SH [.ref 53, .int a1, .int a2] s0 (f_X8_put a1 a2 s0) := by
  refine Con_of (ls0 := [some (.ref 53), some (.int a1), some (.int a2), none]) (ini := false) (mc := 0) (ms := 0) (by decide +kernel) rfl (Nat.le_of_ble_eq_true rfl) (fun h => by cases h) (fun _ _ => rfl) ?_
  unfold f_X8_put
  refine J_join (P := fun j => ∀ (_ : Unit), J l RX8 cX8_put 4 (Option.some Jvm.ClassFile.FieldType.int) false (rmD (2) 0 0) noCx (eIM SH) SH 0 0 s0 32 [some (.ref 53), none, none, none] [] (j ())) ?_ (fun j1 hj1 => ?_)
  · intro _
    refine J_aload_n (i := 0) dX8_put_32 rfl rfl ?_
    refine J_bipush (v := (-2 : Int32)) dX8_put_33 (by decide) ?_
    refine J_callVIM 53 [.int (-2 : Int32)] dX8_put_35 ca_X8_bad lk_RX8_87 vi_X8_bad rc_53 rfl rfl ⟨by show _ ≤ _; simp only [rmD]; omega, by show _ ≤ _; simp only [rmD]; omega⟩ (Nat.le_of_ble_eq_true rfl) ⟨Nat.zero_le _, Nat.zero_le _⟩ (con_X8_bad l _ _) (fun r2 _ => ?_)
    exact J_ireturn dX8_put_38 rfl rfl rfl
  refine J_iload_n (i := 1) dX8_put_0 rfl rfl ?_
  refine J_i2l dX8_put_1 ?_
  refine J_lconst (v := (0 : Int64)) dX8_put_2 (by decide) ?_
  refine J_lconst (v := (1 : Int64)) dX8_put_3 (by decide) ?_
  refine J_callSI [.long (Int32.toInt64 a1), .long (0 : Int64), .long (1 : Int64)] dX8_put_4 ca_X8_in lk_RX8_74 st_X8_in rfl rfl ⟨by show _ ≤ _; simp only [rmD]; omega, by show _ ≤ _; simp only [rmD]; omega⟩ (Nat.le_of_ble_eq_true rfl) ⟨Nat.zero_le _, Nat.zero_le _⟩ (con_X8_in l _ _ _ _) (fun r3 _ => ?_)
  refine J_if_eq (tgt := 32) dX8_put_7 (by decide) (fun c4 => ?_) (fun c4 => ?_)
  · refine J_sub (l1 := [some (.ref 53), none, none, none]) ⟨rfl, trivial⟩ ?_
    exact hj1 ()
  · refine J_join (P := fun j => ∀ (y5 : Int64) (y6 : Int64) (y7 : Int64), J l RX8 cX8_put 4 (Option.some Jvm.ClassFile.FieldType.int) false (rmD (2) 0 0) noCx (eIM SH) SH 0 0 s0 26 [some (.ref 53), some (.int a1), some (.int a2), none] [.long y7, .long y6, .long y5] (j y5 y6 y7)) ?_ (fun j8 hj8 => ?_)
    · intro y5 y6 y7
      refine J_callSI [.long y5, .long y6, .long y7] dX8_put_26 ca_X8_in lk_RX8_74 st_X8_in rfl rfl ⟨by show _ ≤ _; simp only [rmD]; omega, by show _ ≤ _; simp only [rmD]; omega⟩ (Nat.le_of_ble_eq_true rfl) ⟨Nat.zero_le _, Nat.zero_le _⟩ (con_X8_in l _ _ _ _) (fun r9 _ => ?_)
      refine J_if_ne (tgt := 39) dX8_put_29 (by decide) (fun c10 => ?_) (fun c10 => ?_)
      · refine J_aload_n (i := 0) dX8_put_39 rfl rfl ?_
        refine J_getR dX8_put_40 fl_RX8_7 sh_53_0 ?_
        refine J_bipush (v := (32 : Int32)) dX8_put_43 (by decide) ?_
        refine J_iload_n (i := 1) dX8_put_45 rfl rfl ?_
        refine J_iadd dX8_put_46 ?_
        refine J_iald dX8_put_47 sa_54 ?_
        refine J_istore_nN (i := 3) (LS := fun x11 => [some (.ref 53), some (.int a1), some (.int a2), some (.int x11)]) dX8_put_48 rfl (fun _ => rfl) (by decide) (fun x11 => ?_)
        refine J_aload_n (i := 0) dX8_put_49 rfl rfl ?_
        refine J_getR dX8_put_50 fl_RX8_7 sh_53_0 ?_
        refine J_bipush (v := (32 : Int32)) dX8_put_53 (by decide) ?_
        refine J_iload_n (i := 1) dX8_put_55 rfl rfl ?_
        refine J_iadd dX8_put_56 ?_
        refine J_iload_n (i := 2) dX8_put_57 rfl rfl ?_
        refine J_iast dX8_put_58 sa_54 ?_
        refine J_letM rfl (fun s12 => ?_)
        refine J_iload_n (i := 3) dX8_put_59 rfl rfl ?_
        exact J_ireturn dX8_put_60 rfl rfl rfl
      · refine J_sub (l1 := [some (.ref 53), none, none, none]) ⟨rfl, trivial⟩ ?_
        exact hj1 ()
    refine J_iload_n (i := 2) dX8_put_10 rfl rfl ?_
    refine J_i2l dX8_put_11 ?_
    refine J_lconst (v := (0 : Int64)) dX8_put_12 (by decide) ?_
    refine J_iload_n (i := 1) dX8_put_13 rfl rfl ?_
    refine J_if_ne (tgt := 23) dX8_put_14 (by decide) (fun c13 => ?_) (fun c13 => ?_)
    · refine J_ldc2 (v := (99 : Int64)) dX8_put_23 kw_RX8_85 ?_
      refine J_sub (l1 := [some (.ref 53), some (.int a1), some (.int a2), none]) ⟨rfl, ⟨rfl, ⟨rfl, trivial⟩⟩⟩ ?_
      exact hj8 (Int32.toInt64 a2) (0 : Int64) (99 : Int64)
    · refine J_ldc2 (v := (19 : Int64)) dX8_put_17 kw_RX8_94 ?_
      refine J_goto (tgt := 26) dX8_put_20 (by decide) ?_
      refine J_sub (l1 := [some (.ref 53), some (.int a1), some (.int a2), none]) ⟨rfl, ⟨rfl, ⟨rfl, trivial⟩⟩⟩ ?_
      exact hj8 (Int32.toInt64 a2) (0 : Int64) (19 : Int64)

def f_X8_bringsOf (a0 : Int32) (a1 : Int32) : Option Int32 := if a1 = (0 : Int32) then (if a0 = (5 : Int32) then (some (0 : Int32)) else (some (1 : Int32))) else if a1 = (1 : Int32) then (if a0 = (2 : Int32) then (some (2 : Int32)) else (if a0 = (7 : Int32) then (some (1 : Int32)) else (some (0 : Int32)))) else if a1 = (2 : Int32) then (if a0 = (1 : Int32) then (some (1 : Int32)) else (if a0 = (7 : Int32) then (some (2 : Int32)) else (some (0 : Int32)))) else if a1 = (3 : Int32) then (jn_ (fun (_ : Unit) => some (1 : Int32)) fun j10 => if a0 = (3 : Int32) then (j10 ()) else (if a0 = (6 : Int32) then (j10 ()) else (some (0 : Int32)))) else (if a0 = (4 : Int32) then (some (1 : Int32)) else (if a0 = (6 : Int32) then (some (2 : Int32)) else (some (0 : Int32))))
set_option maxRecDepth 100000 in
set_option maxHeartbeats 4000000 in
theorem con_X8_bringsOf (l : Launch) (a0 : Int32) (a1 : Int32) (s0 : jM) : Con l (1) yX8_bringsOf cX8_bringsOf 2 (Option.some Jvm.ClassFile.FieldType.int) (eI SH s0) SH [.int a0, .int a1] s0 (f_X8_bringsOf a0 a1) := by
  refine Con_of (ls0 := [some (.int a0), some (.int a1)]) (ini := false) (mc := 0) (ms := 0) (by decide +kernel) rfl (Nat.le_of_ble_eq_true rfl) (fun h => by cases h) (fun _ _ => rfl) ?_
  unfold f_X8_bringsOf
  refine J_iload_n (i := 1) dX8_bringsOf_0 rfl rfl ?_
  refine J_if (fun c1 => ?_) (fun c1 => ?_)
  · refine J_tswIn (tgt := 32) (0) dX8_bringsOf_1 (by rw [c1] <;> rfl) (by decide) (by decide) rfl (by decide) ?_
    refine J_iload_n (i := 0) dX8_bringsOf_32 rfl rfl ?_
    refine J_iconst (v := (5 : Int32)) dX8_bringsOf_33 (by decide) ?_
    refine J_icmp_ne (tgt := 41) dX8_bringsOf_34 (by decide) (fun c2 => ?_) (fun c2 => ?_)
    · refine J_iconst (v := (1 : Int32)) dX8_bringsOf_41 (by decide) ?_
      exact J_ireturn dX8_bringsOf_42 rfl rfl rfl
    · refine J_iconst (v := (0 : Int32)) dX8_bringsOf_37 (by decide) ?_
      refine J_goto (tgt := 42) dX8_bringsOf_38 (by decide) ?_
      exact J_ireturn dX8_bringsOf_42 rfl rfl rfl
  refine J_if (fun c3 => ?_) (fun c3 => ?_)
  · refine J_tswIn (tgt := 43) (1) dX8_bringsOf_1 (by rw [c3] <;> rfl) (by decide) (by decide) rfl (by decide) ?_
    refine J_iload_n (i := 0) dX8_bringsOf_43 rfl rfl ?_
    refine J_iconst (v := (2 : Int32)) dX8_bringsOf_44 (by decide) ?_
    refine J_icmp_ne (tgt := 52) dX8_bringsOf_45 (by decide) (fun c4 => ?_) (fun c4 => ?_)
    · refine J_iload_n (i := 0) dX8_bringsOf_52 rfl rfl ?_
      refine J_bipush (v := (7 : Int32)) dX8_bringsOf_53 (by decide) ?_
      refine J_icmp_ne (tgt := 62) dX8_bringsOf_55 (by decide) (fun c5 => ?_) (fun c5 => ?_)
      · refine J_iconst (v := (0 : Int32)) dX8_bringsOf_62 (by decide) ?_
        exact J_ireturn dX8_bringsOf_63 rfl rfl rfl
      · refine J_iconst (v := (1 : Int32)) dX8_bringsOf_58 (by decide) ?_
        refine J_goto (tgt := 63) dX8_bringsOf_59 (by decide) ?_
        exact J_ireturn dX8_bringsOf_63 rfl rfl rfl
    · refine J_iconst (v := (2 : Int32)) dX8_bringsOf_48 (by decide) ?_
      refine J_goto (tgt := 63) dX8_bringsOf_49 (by decide) ?_
      exact J_ireturn dX8_bringsOf_63 rfl rfl rfl
  refine J_if (fun c6 => ?_) (fun c6 => ?_)
  · refine J_tswIn (tgt := 64) (2) dX8_bringsOf_1 (by rw [c6] <;> rfl) (by decide) (by decide) rfl (by decide) ?_
    refine J_iload_n (i := 0) dX8_bringsOf_64 rfl rfl ?_
    refine J_iconst (v := (1 : Int32)) dX8_bringsOf_65 (by decide) ?_
    refine J_icmp_ne (tgt := 73) dX8_bringsOf_66 (by decide) (fun c7 => ?_) (fun c7 => ?_)
    · refine J_iload_n (i := 0) dX8_bringsOf_73 rfl rfl ?_
      refine J_bipush (v := (7 : Int32)) dX8_bringsOf_74 (by decide) ?_
      refine J_icmp_ne (tgt := 83) dX8_bringsOf_76 (by decide) (fun c8 => ?_) (fun c8 => ?_)
      · refine J_iconst (v := (0 : Int32)) dX8_bringsOf_83 (by decide) ?_
        exact J_ireturn dX8_bringsOf_84 rfl rfl rfl
      · refine J_iconst (v := (2 : Int32)) dX8_bringsOf_79 (by decide) ?_
        refine J_goto (tgt := 84) dX8_bringsOf_80 (by decide) ?_
        exact J_ireturn dX8_bringsOf_84 rfl rfl rfl
    · refine J_iconst (v := (1 : Int32)) dX8_bringsOf_69 (by decide) ?_
      refine J_goto (tgt := 84) dX8_bringsOf_70 (by decide) ?_
      exact J_ireturn dX8_bringsOf_84 rfl rfl rfl
  refine J_if (fun c9 => ?_) (fun c9 => ?_)
  · refine J_tswIn (tgt := 85) (3) dX8_bringsOf_1 (by rw [c9] <;> rfl) (by decide) (by decide) rfl (by decide) ?_
    refine J_join (P := fun j => ∀ (_ : Unit), J l RX8 cX8_bringsOf 2 (Option.some Jvm.ClassFile.FieldType.int) false (rmD (1) 0 0) noCx (eI SH s0) SH 0 0 s0 96 [none, none] [] (j ())) ?_ (fun j10 hj10 => ?_)
    · intro _
      refine J_iconst (v := (1 : Int32)) dX8_bringsOf_96 (by decide) ?_
      refine J_goto (tgt := 101) dX8_bringsOf_97 (by decide) ?_
      exact J_ireturn dX8_bringsOf_101 rfl rfl rfl
    refine J_iload_n (i := 0) dX8_bringsOf_85 rfl rfl ?_
    refine J_iconst (v := (3 : Int32)) dX8_bringsOf_86 (by decide) ?_
    refine J_icmp_eq (tgt := 96) dX8_bringsOf_87 (by decide) (fun c11 => ?_) (fun c11 => ?_)
    · refine J_sub (l1 := [none, none]) trivial ?_
      exact hj10 ()
    · refine J_iload_n (i := 0) dX8_bringsOf_90 rfl rfl ?_
      refine J_bipush (v := (6 : Int32)) dX8_bringsOf_91 (by decide) ?_
      refine J_icmp_ne (tgt := 100) dX8_bringsOf_93 (by decide) (fun c12 => ?_) (fun c12 => ?_)
      · refine J_iconst (v := (0 : Int32)) dX8_bringsOf_100 (by decide) ?_
        exact J_ireturn dX8_bringsOf_101 rfl rfl rfl
      · refine J_sub (l1 := [none, none]) trivial ?_
        exact hj10 ()
  refine J_tswOut (tgt := 102) dX8_bringsOf_1 (by have c1 : ¬ (a1).toInt = 0 := toI_ne c1; have c3 : ¬ (a1).toInt = 1 := toI_ne c3; have c6 : ¬ (a1).toInt = 2 := toI_ne c6; have c9 : ¬ (a1).toInt = 3 := toI_ne c9; omega) (by decide) ?_
  refine J_iload_n (i := 0) dX8_bringsOf_102 rfl rfl ?_
  refine J_iconst (v := (4 : Int32)) dX8_bringsOf_103 (by decide) ?_
  refine J_icmp_ne (tgt := 111) dX8_bringsOf_104 (by decide) (fun c13 => ?_) (fun c13 => ?_)
  · refine J_iload_n (i := 0) dX8_bringsOf_111 rfl rfl ?_
    refine J_bipush (v := (6 : Int32)) dX8_bringsOf_112 (by decide) ?_
    refine J_icmp_ne (tgt := 121) dX8_bringsOf_114 (by decide) (fun c14 => ?_) (fun c14 => ?_)
    · refine J_iconst (v := (0 : Int32)) dX8_bringsOf_121 (by decide) ?_
      exact J_ireturn dX8_bringsOf_122 rfl rfl rfl
    · refine J_iconst (v := (2 : Int32)) dX8_bringsOf_117 (by decide) ?_
      refine J_goto (tgt := 122) dX8_bringsOf_118 (by decide) ?_
      exact J_ireturn dX8_bringsOf_122 rfl rfl rfl
  · refine J_iconst (v := (1 : Int32)) dX8_bringsOf_107 (by decide) ?_
    refine J_goto (tgt := 122) dX8_bringsOf_108 (by decide) ?_
    exact J_ireturn dX8_bringsOf_122 rfl rfl rfl

def lp_X8_broughtBy_5 (N : Nat) (s0 : jM) (a1 : Int32) (a2 : Int32) (k2 : Int32 → Option Int32) : Nat → Int32 → Int32 → Option Int32
  | 0, _, _ => none
  | q + 1, x3, x4 => Option.bind (f_X8_walkers s0) fun r6 => if r6 ≤ x4 then (k2 x3) else (jn_ (fun (x8 : Int32) (x9 : Int32) => lt_ (x8 + x9) fun x11 => lt_ (x4 + (1 : Int32)) fun x12 => lp_X8_broughtBy_5 N s0 a1 a2 k2 q x11 x12) fun j10 => if ((a1 >>> (x4 &&& 31)) &&& (1 : Int32)) = (1 : Int32) then (Option.bind (f_X8_of x4 (0 : Int32) s0) fun r14 => Option.bind (f_X8_bringsOf r14 a2) fun r15 => j10 x3 r15) else (j10 x3 (0 : Int32)))
def f_X8_broughtBy (N : Nat) (a1 : Int32) (a2 : Int32) (s0 : jM) : Option Int32 := jn_ (fun (x1 : Int32) => some x1) fun k2 => lp_X8_broughtBy_5 N s0 a1 a2 k2 N (0 : Int32) (0 : Int32)
set_option maxRecDepth 100000 in
set_option maxHeartbeats 4000000 in
theorem lp_X8_broughtBy_5_ok (l : Launch) (N : Nat)  (s0 : jM) (a1 : Int32) (a2 : Int32) (k2 : Int32 → Option Int32) (hk2 : ∀ (x1 : Int32), J l RX8 cX8_broughtBy 5 (Option.some Jvm.ClassFile.FieldType.int) false (rmD (2) 0 0) noCx (eI SH s0) SH 0 0 s0 48 [none, none, none, some (.int x1), none] [] (k2 x1)) : ∀ (q : Nat) (x3 : Int32) (x4 : Int32), J l RX8 cX8_broughtBy 5 (Option.some Jvm.ClassFile.FieldType.int) false (rmD (2) 0 0) noCx (eI SH s0) SH 0 0 s0 5 [some (.ref 53), some (.int a1), some (.int a2), some (.int x3), some (.int x4)] [] (lp_X8_broughtBy_5 N s0 a1 a2 k2 q x3 x4) := by
  intro q
  induction q with
  | zero => intro x3 x4; exact J_none
  | succ q hrec5 =>
    intro x3 x4
    rw [lp_X8_broughtBy_5]
    refine J_iload (i := 4) dX8_broughtBy_5 rfl ?_
    refine J_aload_n (i := 0) dX8_broughtBy_7 rfl rfl ?_
    refine J_callVI 53 [] dX8_broughtBy_8 ca_X8_walkers lk_RX8_70 vi_X8_walkers rc_53 rfl rfl ⟨by show _ ≤ _; simp only [rmD]; omega, by show _ ≤ _; simp only [rmD]; omega⟩ (Nat.le_of_ble_eq_true rfl) ⟨Nat.zero_le _, Nat.zero_le _⟩ (con_X8_walkers l _) (fun r6 _ => ?_)
    refine J_icmp_ge (tgt := 48) dX8_broughtBy_11 (by decide) (fun c7 => ?_) (fun c7 => ?_)
    · refine J_sub (l1 := [none, none, none, some (.int x3), none]) ⟨rfl, trivial⟩ ?_
      exact hk2 x3
    · refine J_join (P := fun j => ∀ (x8 : Int32) (x9 : Int32), J l RX8 cX8_broughtBy 5 (Option.some Jvm.ClassFile.FieldType.int) false (rmD (2) 0 0) noCx (eI SH s0) SH 0 0 s0 40 [some (.ref 53), some (.int a1), some (.int a2), none, some (.int x4)] [.int x9, .int x8] (j x8 x9)) ?_ (fun j10 hj10 => ?_)
      · intro x8 x9
        refine J_iadd dX8_broughtBy_40 ?_
        refine J_istore_nN (i := 3) (LS := fun x11 => [some (.ref 53), some (.int a1), some (.int a2), some (.int x11), some (.int x4)]) dX8_broughtBy_41 rfl (fun _ => rfl) (by decide) (fun x11 => ?_)
        refine J_iincN (i := 4) (v := x4 + (1 : Int32)) (LS := fun x12 => [some (.ref 53), some (.int a1), some (.int a2), some (.int x11), some (.int x12)]) dX8_broughtBy_42 rfl (by first | rfl | decide) (fun _ => rfl) (by decide) (fun x12 => ?_)
        refine J_goto (tgt := 5) dX8_broughtBy_45 (by decide) ?_
        refine J_sub (l1 := [some (.ref 53), some (.int a1), some (.int a2), some (.int x11), some (.int x12)]) ⟨rfl, ⟨rfl, ⟨rfl, ⟨rfl, ⟨rfl, trivial⟩⟩⟩⟩⟩ ?_
        exact hrec5 x11 x12
      refine J_iload_n (i := 3) dX8_broughtBy_14 rfl rfl ?_
      refine J_iload_n (i := 1) dX8_broughtBy_15 rfl rfl ?_
      refine J_iload (i := 4) dX8_broughtBy_16 rfl ?_
      refine J_ishr dX8_broughtBy_18 ?_
      refine J_iconst (v := (1 : Int32)) dX8_broughtBy_19 (by decide) ?_
      refine J_iand dX8_broughtBy_20 ?_
      refine J_iconst (v := (1 : Int32)) dX8_broughtBy_21 (by decide) ?_
      refine J_icmp_ne (tgt := 39) dX8_broughtBy_22 (by decide) (fun c13 => ?_) (fun c13 => ?_)
      · refine J_iconst (v := (0 : Int32)) dX8_broughtBy_39 (by decide) ?_
        refine J_sub (l1 := [some (.ref 53), some (.int a1), some (.int a2), none, some (.int x4)]) ⟨rfl, ⟨rfl, ⟨rfl, ⟨rfl, trivial⟩⟩⟩⟩ ?_
        exact hj10 x3 (0 : Int32)
      · refine J_aload_n (i := 0) dX8_broughtBy_25 rfl rfl ?_
        refine J_iload (i := 4) dX8_broughtBy_26 rfl ?_
        refine J_iconst (v := (0 : Int32)) dX8_broughtBy_28 (by decide) ?_
        refine J_callVI 53 [.int x4, .int (0 : Int32)] dX8_broughtBy_29 ca_X8_of lk_RX8_96 vi_X8_of rc_53 rfl rfl ⟨by show _ ≤ _; simp only [rmD]; omega, by show _ ≤ _; simp only [rmD]; omega⟩ (Nat.le_of_ble_eq_true rfl) ⟨Nat.zero_le _, Nat.zero_le _⟩ (con_X8_of l _ _ _) (fun r14 _ => ?_)
        refine J_iload_n (i := 2) dX8_broughtBy_32 rfl rfl ?_
        refine J_callSI [.int r14, .int a2] dX8_broughtBy_33 ca_X8_bringsOf lk_RX8_100 st_X8_bringsOf rfl rfl ⟨by show _ ≤ _; simp only [rmD]; omega, by show _ ≤ _; simp only [rmD]; omega⟩ (Nat.le_of_ble_eq_true rfl) ⟨Nat.zero_le _, Nat.zero_le _⟩ (con_X8_bringsOf l _ _ _) (fun r15 _ => ?_)
        refine J_goto (tgt := 40) dX8_broughtBy_36 (by decide) ?_
        refine J_sub (l1 := [some (.ref 53), some (.int a1), some (.int a2), none, some (.int x4)]) ⟨rfl, ⟨rfl, ⟨rfl, ⟨rfl, trivial⟩⟩⟩⟩ ?_
        exact hj10 x3 r15
set_option maxRecDepth 100000 in
set_option maxHeartbeats 4000000 in
theorem con_X8_broughtBy (l : Launch) (N : Nat) (a1 : Int32) (a2 : Int32) (s0 : jM) : Con l (2) yX8_broughtBy cX8_broughtBy 5 (Option.some Jvm.ClassFile.FieldType.int) (eI SH s0) SH [.ref 53, .int a1, .int a2] s0 (f_X8_broughtBy N a1 a2 s0) := by
  refine Con_of (ls0 := [some (.ref 53), some (.int a1), some (.int a2), none, none]) (ini := false) (mc := 0) (ms := 0) (by decide +kernel) rfl (Nat.le_of_ble_eq_true rfl) (fun h => by cases h) (fun _ _ => rfl) ?_
  unfold f_X8_broughtBy
  refine J_iconst (v := (0 : Int32)) dX8_broughtBy_0 (by decide) ?_
  refine J_istore_n (i := 3) (ls2 := [some (.ref 53), some (.int a1), some (.int a2), some (.int (0 : Int32)), none]) dX8_broughtBy_1 rfl rfl (by decide) ?_
  refine J_iconst (v := (0 : Int32)) dX8_broughtBy_2 (by decide) ?_
  refine J_istore (i := 4) (ls2 := [some (.ref 53), some (.int a1), some (.int a2), some (.int (0 : Int32)), some (.int (0 : Int32))]) dX8_broughtBy_3 rfl (by decide) ?_
  refine J_join (P := fun j => ∀ (x1 : Int32), J l RX8 cX8_broughtBy 5 (Option.some Jvm.ClassFile.FieldType.int) false (rmD (2) 0 0) noCx (eI SH s0) SH 0 0 s0 48 [none, none, none, some (.int x1), none] [] (j x1)) ?_ (fun k2 hk2 => ?_)
  · intro x1
    refine J_iload_n (i := 3) dX8_broughtBy_48 rfl rfl ?_
    exact J_ireturn dX8_broughtBy_49 rfl rfl rfl
  refine J_sub (l1 := [some (.ref 53), some (.int a1), some (.int a2), some (.int (0 : Int32)), some (.int (0 : Int32))]) ⟨rfl, ⟨rfl, ⟨rfl, ⟨rfl, ⟨rfl, trivial⟩⟩⟩⟩⟩ ?_
  exact lp_X8_broughtBy_5_ok l N  s0 a1 a2 k2 hk2 N (0 : Int32) (0 : Int32)

def f_X8_brings (N : Nat) (a1 : Int32) (a2 : Int32) (s0 : jM) : Option (Int32 × jM) := jn_ (fun (_ : Unit) => Option.bind (f_X8_bad (-2 : Int32) s0) fun r2 => some (r2.1, r2.2)) fun j1 => Option.bind (f_X8_isSet a1 s0) fun r3 => if r3 = 0 then (j1 ()) else (Option.bind (f_X8_in (Int32.toInt64 a2) (0 : Int64) (4 : Int64)) fun r5 => if r5 = 0 then (j1 ()) else (Option.bind (f_X8_broughtBy N a1 a2 s0) fun r7 => some (r7, s0)))
set_option maxRecDepth 100000 in
set_option maxHeartbeats 4000000 in
theorem con_X8_brings (l : Launch) (N : Nat) (a1 : Int32) (a2 : Int32) (s0 : jM) : Con l (4) yX8_brings cX8_brings 3 (Option.some Jvm.ClassFile.FieldType.int) (eIM SH) SH [.ref 53, .int a1, .int a2] s0 (f_X8_brings N a1 a2 s0) := by
  refine Con_of (ls0 := [some (.ref 53), some (.int a1), some (.int a2)]) (ini := false) (mc := 0) (ms := 0) (by decide +kernel) rfl (Nat.le_of_ble_eq_true rfl) (fun h => by cases h) (fun _ _ => rfl) ?_
  unfold f_X8_brings
  refine J_join (P := fun j => ∀ (_ : Unit), J l RX8 cX8_brings 3 (Option.some Jvm.ClassFile.FieldType.int) false (rmD (4) 0 0) noCx (eIM SH) SH 0 0 s0 29 [some (.ref 53), none, none] [] (j ())) ?_ (fun j1 hj1 => ?_)
  · intro _
    refine J_aload_n (i := 0) dX8_brings_29 rfl rfl ?_
    refine J_bipush (v := (-2 : Int32)) dX8_brings_30 (by decide) ?_
    refine J_callVIM 53 [.int (-2 : Int32)] dX8_brings_32 ca_X8_bad lk_RX8_87 vi_X8_bad rc_53 rfl rfl ⟨by show _ ≤ _; simp only [rmD]; omega, by show _ ≤ _; simp only [rmD]; omega⟩ (Nat.le_of_ble_eq_true rfl) ⟨Nat.zero_le _, Nat.zero_le _⟩ (con_X8_bad l _ _) (fun r2 _ => ?_)
    exact J_ireturn dX8_brings_35 rfl rfl rfl
  refine J_aload_n (i := 0) dX8_brings_0 rfl rfl ?_
  refine J_iload_n (i := 1) dX8_brings_1 rfl rfl ?_
  refine J_callVI 53 [.int a1] dX8_brings_2 ca_X8_isSet lk_RX8_103 vi_X8_isSet rc_53 rfl rfl ⟨by show _ ≤ _; simp only [rmD]; omega, by show _ ≤ _; simp only [rmD]; omega⟩ (Nat.le_of_ble_eq_true rfl) ⟨Nat.zero_le _, Nat.zero_le _⟩ (con_X8_isSet l _ _) (fun r3 _ => ?_)
  refine J_if_eq (tgt := 29) dX8_brings_5 (by decide) (fun c4 => ?_) (fun c4 => ?_)
  · refine J_sub (l1 := [some (.ref 53), none, none]) ⟨rfl, trivial⟩ ?_
    exact hj1 ()
  · refine J_iload_n (i := 2) dX8_brings_8 rfl rfl ?_
    refine J_i2l dX8_brings_9 ?_
    refine J_lconst (v := (0 : Int64)) dX8_brings_10 (by decide) ?_
    refine J_ldc2 (v := (4 : Int64)) dX8_brings_11 kw_RX8_107 ?_
    refine J_callSI [.long (Int32.toInt64 a2), .long (0 : Int64), .long (4 : Int64)] dX8_brings_14 ca_X8_in lk_RX8_74 st_X8_in rfl rfl ⟨by show _ ≤ _; simp only [rmD]; omega, by show _ ≤ _; simp only [rmD]; omega⟩ (Nat.le_of_ble_eq_true rfl) ⟨Nat.zero_le _, Nat.zero_le _⟩ (con_X8_in l _ _ _ _) (fun r5 _ => ?_)
    refine J_if_eq (tgt := 29) dX8_brings_17 (by decide) (fun c6 => ?_) (fun c6 => ?_)
    · refine J_sub (l1 := [some (.ref 53), none, none]) ⟨rfl, trivial⟩ ?_
      exact hj1 ()
    · refine J_aload_n (i := 0) dX8_brings_20 rfl rfl ?_
      refine J_iload_n (i := 1) dX8_brings_21 rfl rfl ?_
      refine J_iload_n (i := 2) dX8_brings_22 rfl rfl ?_
      refine J_callVI 53 [.int a1, .int a2] dX8_brings_23 ca_X8_broughtBy lk_RX8_109 vi_X8_broughtBy rc_53 rfl rfl ⟨by show _ ≤ _; simp only [rmD]; omega, by show _ ≤ _; simp only [rmD]; omega⟩ (Nat.le_of_ble_eq_true rfl) ⟨Nat.zero_le _, Nat.zero_le _⟩ (con_X8_broughtBy l N _ _ _) (fun r7 _ => ?_)
      refine J_goto (tgt := 35) dX8_brings_26 (by decide) ?_
      exact J_ireturn dX8_brings_35 rfl rfl rfl

def f_X8_write (a1 : Int32) (s0 : jM) : Option (Int32 × jM) := Option.bind (f_X8_in (Int32.toInt64 a1) (0 : Int64) (127 : Int64)) fun r1 => if r1 = 0 then (Option.bind (f_X8_bad (-2 : Int32) s0) fun r7 => some (r7.1, r7.2)) else (gd (ib (34 : Int32) 101) <| if (gI s0 54 (Int32.toNatClampNeg (34 : Int32))) = (40 : Int32) then (Option.bind (f_X8_full s0) fun r6 => some (r6.1, r6.2)) else (gd (ib (34 : Int32) 101) <| gd (ib ((35 : Int32) + (gI s0 54 (Int32.toNatClampNeg (34 : Int32)))) 101) <| lt_ (pI s0 54 (Int32.toNatClampNeg ((35 : Int32) + (gI s0 54 (Int32.toNatClampNeg (34 : Int32))))) a1) fun s4 => gd (ib (34 : Int32) 101) <| gd (ib (34 : Int32) 101) <| lt_ (pI s4 54 (Int32.toNatClampNeg (34 : Int32)) ((gI s4 54 (Int32.toNatClampNeg (34 : Int32))) + (1 : Int32))) fun s5 => gd (ib (34 : Int32) 101) <| some ((gI s5 54 (Int32.toNatClampNeg (34 : Int32))), s5)))
set_option maxRecDepth 100000 in
set_option maxHeartbeats 4000000 in
theorem con_X8_write (l : Launch) (a1 : Int32) (s0 : jM) : Con l (2) yX8_write cX8_write 2 (Option.some Jvm.ClassFile.FieldType.int) (eIM SH) SH [.ref 53, .int a1] s0 (f_X8_write a1 s0) := by
  refine Con_of (ls0 := [some (.ref 53), some (.int a1)]) (ini := false) (mc := 0) (ms := 0) (by decide +kernel) rfl (Nat.le_of_ble_eq_true rfl) (fun h => by cases h) (fun _ _ => rfl) ?_
  unfold f_X8_write
  refine J_iload_n (i := 1) dX8_write_0 rfl rfl ?_
  refine J_i2l dX8_write_1 ?_
  refine J_lconst (v := (0 : Int64)) dX8_write_2 (by decide) ?_
  refine J_ldc2 (v := (127 : Int64)) dX8_write_3 kw_RX8_112 ?_
  refine J_callSI [.long (Int32.toInt64 a1), .long (0 : Int64), .long (127 : Int64)] dX8_write_6 ca_X8_in lk_RX8_74 st_X8_in rfl rfl ⟨by show _ ≤ _; simp only [rmD]; omega, by show _ ≤ _; simp only [rmD]; omega⟩ (Nat.le_of_ble_eq_true rfl) ⟨Nat.zero_le _, Nat.zero_le _⟩ (con_X8_in l _ _ _ _) (fun r1 _ => ?_)
  refine J_if_ne (tgt := 19) dX8_write_9 (by decide) (fun c2 => ?_) (fun c2 => ?_)
  · refine J_aload_n (i := 0) dX8_write_19 rfl rfl ?_
    refine J_getR dX8_write_20 fl_RX8_7 sh_53_0 ?_
    refine J_bipush (v := (34 : Int32)) dX8_write_23 (by decide) ?_
    refine J_iald dX8_write_25 sa_54 ?_
    refine J_bipush (v := (40 : Int32)) dX8_write_26 (by decide) ?_
    refine J_icmp_ne (tgt := 36) dX8_write_28 (by decide) (fun c3 => ?_) (fun c3 => ?_)
    · refine J_aload_n (i := 0) dX8_write_36 rfl rfl ?_
      refine J_getR dX8_write_37 fl_RX8_7 sh_53_0 ?_
      refine J_bipush (v := (35 : Int32)) dX8_write_40 (by decide) ?_
      refine J_aload_n (i := 0) dX8_write_42 rfl rfl ?_
      refine J_getR dX8_write_43 fl_RX8_7 sh_53_0 ?_
      refine J_bipush (v := (34 : Int32)) dX8_write_46 (by decide) ?_
      refine J_iald dX8_write_48 sa_54 ?_
      refine J_iadd dX8_write_49 ?_
      refine J_iload_n (i := 1) dX8_write_50 rfl rfl ?_
      refine J_iast dX8_write_51 sa_54 ?_
      refine J_letM rfl (fun s4 => ?_)
      refine J_aload_n (i := 0) dX8_write_52 rfl rfl ?_
      refine J_getR dX8_write_53 fl_RX8_7 sh_53_0 ?_
      refine J_bipush (v := (34 : Int32)) dX8_write_56 (by decide) ?_
      refine J_dup2_11 dX8_write_58 rfl rfl ?_
      refine J_iald dX8_write_59 sa_54 ?_
      refine J_iconst (v := (1 : Int32)) dX8_write_60 (by decide) ?_
      refine J_iadd dX8_write_61 ?_
      refine J_iast dX8_write_62 sa_54 ?_
      refine J_letM rfl (fun s5 => ?_)
      refine J_aload_n (i := 0) dX8_write_63 rfl rfl ?_
      refine J_getR dX8_write_64 fl_RX8_7 sh_53_0 ?_
      refine J_bipush (v := (34 : Int32)) dX8_write_67 (by decide) ?_
      refine J_iald dX8_write_69 sa_54 ?_
      exact J_ireturn dX8_write_70 rfl rfl rfl
    · refine J_aload_n (i := 0) dX8_write_31 rfl rfl ?_
      refine J_callVIM 53 [] dX8_write_32 ca_X8_full lk_RX8_91 vi_X8_full rc_53 rfl rfl ⟨by show _ ≤ _; simp only [rmD]; omega, by show _ ≤ _; simp only [rmD]; omega⟩ (Nat.le_of_ble_eq_true rfl) ⟨Nat.zero_le _, Nat.zero_le _⟩ (con_X8_full l _) (fun r6 _ => ?_)
      exact J_ireturn dX8_write_35 rfl rfl rfl
  · refine J_aload_n (i := 0) dX8_write_12 rfl rfl ?_
    refine J_bipush (v := (-2 : Int32)) dX8_write_13 (by decide) ?_
    refine J_callVIM 53 [.int (-2 : Int32)] dX8_write_15 ca_X8_bad lk_RX8_87 vi_X8_bad rc_53 rfl rfl ⟨by show _ ≤ _; simp only [rmD]; omega, by show _ ≤ _; simp only [rmD]; omega⟩ (Nat.le_of_ble_eq_true rfl) ⟨Nat.zero_le _, Nat.zero_le _⟩ (con_X8_bad l _ _) (fun r7 _ => ?_)
    exact J_ireturn dX8_write_18 rfl rfl rfl

def f_X8_erase  (s0 : jM) : Option (Int32 × jM) := gd (ib (34 : Int32) 101) <| lt_ (gI s0 54 (Int32.toNatClampNeg (34 : Int32))) fun x1 => gd (ib (34 : Int32) 101) <| lt_ (pI s0 54 (Int32.toNatClampNeg (34 : Int32)) (0 : Int32)) fun s2 => some (x1, s2)
set_option maxRecDepth 100000 in
set_option maxHeartbeats 4000000 in
theorem con_X8_erase (l : Launch) (s0 : jM) : Con l (1) yX8_erase cX8_erase 2 (Option.some Jvm.ClassFile.FieldType.int) (eIM SH) SH [.ref 53] s0 (f_X8_erase s0) := by
  refine Con_of (ls0 := [some (.ref 53), none]) (ini := false) (mc := 0) (ms := 0) (by decide +kernel) rfl (Nat.le_of_ble_eq_true rfl) (fun h => by cases h) (fun _ _ => rfl) ?_
  unfold f_X8_erase
  refine J_aload_n (i := 0) dX8_erase_0 rfl rfl ?_
  refine J_getR dX8_erase_1 fl_RX8_7 sh_53_0 ?_
  refine J_bipush (v := (34 : Int32)) dX8_erase_4 (by decide) ?_
  refine J_iald dX8_erase_6 sa_54 ?_
  refine J_istore_nN (i := 1) (LS := fun x1 => [some (.ref 53), some (.int x1)]) dX8_erase_7 rfl (fun _ => rfl) (by decide) (fun x1 => ?_)
  refine J_aload_n (i := 0) dX8_erase_8 rfl rfl ?_
  refine J_getR dX8_erase_9 fl_RX8_7 sh_53_0 ?_
  refine J_bipush (v := (34 : Int32)) dX8_erase_12 (by decide) ?_
  refine J_iconst (v := (0 : Int32)) dX8_erase_14 (by decide) ?_
  refine J_iast dX8_erase_15 sa_54 ?_
  refine J_letM rfl (fun s2 => ?_)
  refine J_iload_n (i := 1) dX8_erase_16 rfl rfl ?_
  exact J_ireturn dX8_erase_17 rfl rfl rfl

def f_X8_textLong  (s0 : jM) : Option Int32 := gd (ib (34 : Int32) 101) <| some (gI s0 54 (Int32.toNatClampNeg (34 : Int32)))
set_option maxRecDepth 100000 in
set_option maxHeartbeats 4000000 in
theorem con_X8_textLong (l : Launch) (s0 : jM) : Con l (1) yX8_textLong cX8_textLong 1 (Option.some Jvm.ClassFile.FieldType.int) (eI SH s0) SH [.ref 53] s0 (f_X8_textLong s0) := by
  refine Con_of (ls0 := [some (.ref 53)]) (ini := false) (mc := 0) (ms := 0) (by decide +kernel) rfl (Nat.le_of_ble_eq_true rfl) (fun h => by cases h) (fun _ _ => rfl) ?_
  unfold f_X8_textLong
  refine J_aload_n (i := 0) dX8_textLong_0 rfl rfl ?_
  refine J_getR dX8_textLong_1 fl_RX8_7 sh_53_0 ?_
  refine J_bipush (v := (34 : Int32)) dX8_textLong_4 (by decide) ?_
  refine J_iald dX8_textLong_6 sa_54 ?_
  exact J_ireturn dX8_textLong_7 rfl rfl rfl

def f_X8_charAt (a1 : Int32) (s0 : jM) : Option Int32 := gd (ib ((35 : Int32) + a1) 101) <| some (gI s0 54 (Int32.toNatClampNeg ((35 : Int32) + a1)))
set_option maxRecDepth 100000 in
set_option maxHeartbeats 4000000 in
theorem con_X8_charAt (l : Launch) (a1 : Int32) (s0 : jM) : Con l (1) yX8_charAt cX8_charAt 2 (Option.some Jvm.ClassFile.FieldType.int) (eI SH s0) SH [.ref 53, .int a1] s0 (f_X8_charAt a1 s0) := by
  refine Con_of (ls0 := [some (.ref 53), some (.int a1)]) (ini := false) (mc := 0) (ms := 0) (by decide +kernel) rfl (Nat.le_of_ble_eq_true rfl) (fun h => by cases h) (fun _ _ => rfl) ?_
  unfold f_X8_charAt
  refine J_aload_n (i := 0) dX8_charAt_0 rfl rfl ?_
  refine J_getR dX8_charAt_1 fl_RX8_7 sh_53_0 ?_
  refine J_bipush (v := (35 : Int32)) dX8_charAt_4 (by decide) ?_
  refine J_iload_n (i := 1) dX8_charAt_6 rfl rfl ?_
  refine J_iadd dX8_charAt_7 ?_
  refine J_iald dX8_charAt_8 sa_54 ?_
  exact J_ireturn dX8_charAt_9 rfl rfl rfl

def lp_X8_ahead_0 (N : Nat) (k2 : jM → Option (Int32 × jM)) : Nat → jM → Option (Int32 × jM)
  | 0, _ => none
  | q + 1, s6 => Option.bind (f_X8_textLong s6) fun r8 => if r8 ≤ (gI s6 53 6) then (k2 s6) else (Option.bind (f_X8_charAt (gI s6 53 6) s6) fun r10 => if r10 = (32 : Int32) then (lt_ (pI s6 53 6 ((gI s6 53 6) + (1 : Int32))) fun s12 => lp_X8_ahead_0 N k2 q s12) else (k2 s6))
def f_X8_ahead (N : Nat)  (s0 : jM) : Option (Int32 × jM) := jn_ (fun (s1 : jM) => Option.bind (f_X8_textLong s1) fun r3 => if r3 ≤ (gI s1 53 6) then (some ((-1 : Int32), s1)) else (Option.bind (f_X8_charAt (gI s1 53 6) s1) fun r5 => some (r5, s1))) fun k2 => lp_X8_ahead_0 N k2 N s0
set_option maxRecDepth 100000 in
set_option maxHeartbeats 4000000 in
theorem lp_X8_ahead_0_ok (l : Launch) (N : Nat)  (k2 : jM → Option (Int32 × jM)) (hk2 : ∀ (s1 : jM), J l RX8 cX8_ahead 1 (Option.some Jvm.ClassFile.FieldType.int) false (rmD (2) 0 0) noCx (eIM SH) SH 0 0 s1 37 [some (.ref 53)] [] (k2 s1)) : ∀ (q : Nat) (s6 : jM), J l RX8 cX8_ahead 1 (Option.some Jvm.ClassFile.FieldType.int) false (rmD (2) 0 0) noCx (eIM SH) SH 0 0 s6 0 [some (.ref 53)] [] (lp_X8_ahead_0 N k2 q s6) := by
  intro q
  induction q with
  | zero => intro s6; exact J_none
  | succ q hrec7 =>
    intro s6
    rw [lp_X8_ahead_0]
    refine J_aload_n (i := 0) dX8_ahead_0 rfl rfl ?_
    refine J_getI dX8_ahead_1 fl_RX8_114 sh_53_6 ?_
    refine J_aload_n (i := 0) dX8_ahead_4 rfl rfl ?_
    refine J_callVI 53 [] dX8_ahead_5 ca_X8_textLong lk_RX8_118 vi_X8_textLong rc_53 rfl rfl ⟨by show _ ≤ _; simp only [rmD]; omega, by show _ ≤ _; simp only [rmD]; omega⟩ (Nat.le_of_ble_eq_true rfl) ⟨Nat.zero_le _, Nat.zero_le _⟩ (con_X8_textLong l _) (fun r8 _ => ?_)
    refine J_icmp_ge (tgt := 37) dX8_ahead_8 (by decide) (fun c9 => ?_) (fun c9 => ?_)
    · refine J_sub (l1 := [some (.ref 53)]) ⟨rfl, trivial⟩ ?_
      exact hk2 s6
    · refine J_aload_n (i := 0) dX8_ahead_11 rfl rfl ?_
      refine J_aload_n (i := 0) dX8_ahead_12 rfl rfl ?_
      refine J_getI dX8_ahead_13 fl_RX8_114 sh_53_6 ?_
      refine J_callVI 53 [.int (gI s6 53 6)] dX8_ahead_16 ca_X8_charAt lk_RX8_121 vi_X8_charAt rc_53 rfl rfl ⟨by show _ ≤ _; simp only [rmD]; omega, by show _ ≤ _; simp only [rmD]; omega⟩ (Nat.le_of_ble_eq_true rfl) ⟨Nat.zero_le _, Nat.zero_le _⟩ (con_X8_charAt l _ _) (fun r10 _ => ?_)
      refine J_bipush (v := (32 : Int32)) dX8_ahead_19 (by decide) ?_
      refine J_icmp_ne (tgt := 37) dX8_ahead_21 (by decide) (fun c11 => ?_) (fun c11 => ?_)
      · refine J_sub (l1 := [some (.ref 53)]) ⟨rfl, trivial⟩ ?_
        exact hk2 s6
      · refine J_aload_n (i := 0) dX8_ahead_24 rfl rfl ?_
        refine J_dup dX8_ahead_25 rfl ?_
        refine J_getI dX8_ahead_26 fl_RX8_114 sh_53_6 ?_
        refine J_iconst (v := (1 : Int32)) dX8_ahead_29 (by decide) ?_
        refine J_iadd dX8_ahead_30 ?_
        refine J_putI dX8_ahead_31 fp_RX8_114 (fun h => by first | rfl | cases h) sh_53_6 rfl rfl ?_
        refine J_letM rfl (fun s12 => ?_)
        refine J_goto (tgt := 0) dX8_ahead_34 (by decide) ?_
        refine J_sub (l1 := [some (.ref 53)]) ⟨rfl, trivial⟩ ?_
        exact hrec7 s12
set_option maxRecDepth 100000 in
set_option maxHeartbeats 4000000 in
theorem con_X8_ahead (l : Launch) (N : Nat) (s0 : jM) : Con l (2) yX8_ahead cX8_ahead 1 (Option.some Jvm.ClassFile.FieldType.int) (eIM SH) SH [.ref 53] s0 (f_X8_ahead N s0) := by
  refine Con_of (ls0 := [some (.ref 53)]) (ini := false) (mc := 0) (ms := 0) (by decide +kernel) rfl (Nat.le_of_ble_eq_true rfl) (fun h => by cases h) (fun _ _ => rfl) ?_
  unfold f_X8_ahead
  refine J_join (P := fun j => ∀ (s1 : jM), J l RX8 cX8_ahead 1 (Option.some Jvm.ClassFile.FieldType.int) false (rmD (2) 0 0) noCx (eIM SH) SH 0 0 s1 37 [some (.ref 53)] [] (j s1)) ?_ (fun k2 hk2 => ?_)
  · intro s1
    refine J_aload_n (i := 0) dX8_ahead_37 rfl rfl ?_
    refine J_getI dX8_ahead_38 fl_RX8_114 sh_53_6 ?_
    refine J_aload_n (i := 0) dX8_ahead_41 rfl rfl ?_
    refine J_callVI 53 [] dX8_ahead_42 ca_X8_textLong lk_RX8_118 vi_X8_textLong rc_53 rfl rfl ⟨by show _ ≤ _; simp only [rmD]; omega, by show _ ≤ _; simp only [rmD]; omega⟩ (Nat.le_of_ble_eq_true rfl) ⟨Nat.zero_le _, Nat.zero_le _⟩ (con_X8_textLong l _) (fun r3 _ => ?_)
    refine J_icmp_ge (tgt := 59) dX8_ahead_45 (by decide) (fun c4 => ?_) (fun c4 => ?_)
    · refine J_iconst (v := (-1 : Int32)) dX8_ahead_59 (by decide) ?_
      exact J_ireturn dX8_ahead_60 rfl rfl rfl
    · refine J_aload_n (i := 0) dX8_ahead_48 rfl rfl ?_
      refine J_aload_n (i := 0) dX8_ahead_49 rfl rfl ?_
      refine J_getI dX8_ahead_50 fl_RX8_114 sh_53_6 ?_
      refine J_callVI 53 [.int (gI s1 53 6)] dX8_ahead_53 ca_X8_charAt lk_RX8_121 vi_X8_charAt rc_53 rfl rfl ⟨by show _ ≤ _; simp only [rmD]; omega, by show _ ≤ _; simp only [rmD]; omega⟩ (Nat.le_of_ble_eq_true rfl) ⟨Nat.zero_le _, Nat.zero_le _⟩ (con_X8_charAt l _ _) (fun r5 _ => ?_)
      refine J_goto (tgt := 60) dX8_ahead_56 (by decide) ?_
      exact J_ireturn dX8_ahead_60 rfl rfl rfl
  refine J_sub (l1 := [some (.ref 53)]) ⟨rfl, trivial⟩ ?_
  exact lp_X8_ahead_0_ok l N  k2 hk2 N s0

def f_X8_rank (a0 : Int32) : Option Int32 := if a0 = (38 : Int32) then (some (2 : Int32)) else if a0 = (42 : Int32) then (some (5 : Int32)) else if a0 = (43 : Int32) then (some (4 : Int32)) else if a0 = (45 : Int32) then (some (4 : Int32)) else if a0 = (47 : Int32) then (some (5 : Int32)) else if a0 = (60 : Int32) then (some (3 : Int32)) else if a0 = (61 : Int32) then (some (3 : Int32)) else if a0 = (62 : Int32) then (some (3 : Int32)) else if a0 = (124 : Int32) then (some (1 : Int32)) else (some (0 : Int32))
set_option maxRecDepth 100000 in
set_option maxHeartbeats 4000000 in
theorem con_X8_rank (l : Launch) (a0 : Int32) (s0 : jM) : Con l (1) yX8_rank cX8_rank 1 (Option.some Jvm.ClassFile.FieldType.int) (eI SH s0) SH [.int a0] s0 (f_X8_rank a0) := by
  refine Con_of (ls0 := [some (.int a0)]) (ini := false) (mc := 0) (ms := 0) (by decide +kernel) rfl (Nat.le_of_ble_eq_true rfl) (fun h => by cases h) (fun _ _ => rfl) ?_
  unfold f_X8_rank
  refine J_iload_n (i := 0) dX8_rank_0 rfl rfl ?_
  refine J_if (fun c1 => ?_) (fun c1 => ?_)
  · refine J_lsw (tgt := 86) (off := 85) dX8_rank_1 (by decide) (by rw [c1] <;> rfl) (by decide) ?_
    refine J_iconst (v := (2 : Int32)) dX8_rank_86 (by decide) ?_
    exact J_ireturn dX8_rank_87 rfl rfl rfl
  refine J_if (fun c2 => ?_) (fun c2 => ?_)
  · refine J_lsw (tgt := 92) (off := 91) dX8_rank_1 (by decide) (by rw [c2] <;> rfl) (by decide) ?_
    refine J_iconst (v := (5 : Int32)) dX8_rank_92 (by decide) ?_
    exact J_ireturn dX8_rank_93 rfl rfl rfl
  refine J_if (fun c3 => ?_) (fun c3 => ?_)
  · refine J_lsw (tgt := 90) (off := 89) dX8_rank_1 (by decide) (by rw [c3] <;> rfl) (by decide) ?_
    refine J_iconst (v := (4 : Int32)) dX8_rank_90 (by decide) ?_
    exact J_ireturn dX8_rank_91 rfl rfl rfl
  refine J_if (fun c4 => ?_) (fun c4 => ?_)
  · refine J_lsw (tgt := 90) (off := 89) dX8_rank_1 (by decide) (by rw [c4] <;> rfl) (by decide) ?_
    refine J_iconst (v := (4 : Int32)) dX8_rank_90 (by decide) ?_
    exact J_ireturn dX8_rank_91 rfl rfl rfl
  refine J_if (fun c5 => ?_) (fun c5 => ?_)
  · refine J_lsw (tgt := 92) (off := 91) dX8_rank_1 (by decide) (by rw [c5] <;> rfl) (by decide) ?_
    refine J_iconst (v := (5 : Int32)) dX8_rank_92 (by decide) ?_
    exact J_ireturn dX8_rank_93 rfl rfl rfl
  refine J_if (fun c6 => ?_) (fun c6 => ?_)
  · refine J_lsw (tgt := 88) (off := 87) dX8_rank_1 (by decide) (by rw [c6] <;> rfl) (by decide) ?_
    refine J_iconst (v := (3 : Int32)) dX8_rank_88 (by decide) ?_
    exact J_ireturn dX8_rank_89 rfl rfl rfl
  refine J_if (fun c7 => ?_) (fun c7 => ?_)
  · refine J_lsw (tgt := 88) (off := 87) dX8_rank_1 (by decide) (by rw [c7] <;> rfl) (by decide) ?_
    refine J_iconst (v := (3 : Int32)) dX8_rank_88 (by decide) ?_
    exact J_ireturn dX8_rank_89 rfl rfl rfl
  refine J_if (fun c8 => ?_) (fun c8 => ?_)
  · refine J_lsw (tgt := 88) (off := 87) dX8_rank_1 (by decide) (by rw [c8] <;> rfl) (by decide) ?_
    refine J_iconst (v := (3 : Int32)) dX8_rank_88 (by decide) ?_
    exact J_ireturn dX8_rank_89 rfl rfl rfl
  refine J_if (fun c9 => ?_) (fun c9 => ?_)
  · refine J_lsw (tgt := 84) (off := 83) dX8_rank_1 (by decide) (by rw [c9] <;> rfl) (by decide) ?_
    refine J_iconst (v := (1 : Int32)) dX8_rank_84 (by decide) ?_
    exact J_ireturn dX8_rank_85 rfl rfl rfl
  refine J_lsw (tgt := 94) (off := 93) dX8_rank_1 (by decide) (by have c1 : ¬ (a0).toInt = 38 := toI_ne c1; have c2 : ¬ (a0).toInt = 42 := toI_ne c2; have c3 : ¬ (a0).toInt = 43 := toI_ne c3; have c4 : ¬ (a0).toInt = 45 := toI_ne c4; have c5 : ¬ (a0).toInt = 47 := toI_ne c5; have c6 : ¬ (a0).toInt = 60 := toI_ne c6; have c7 : ¬ (a0).toInt = 61 := toI_ne c7; have c8 : ¬ (a0).toInt = 62 := toI_ne c8; have c9 : ¬ (a0).toInt = 124 := toI_ne c9; simp [Op.lookupswitch.offset] at *; first | done | omega) (by decide) ?_
  refine J_iconst (v := (0 : Int32)) dX8_rank_94 (by decide) ?_
  exact J_ireturn dX8_rank_95 rfl rfl rfl

def f_X8_workOut  (s0 : jM) : Option jM := jn_ (fun (y1 : Int64) (s2 : jM) => gd (ib ((gI s2 53 9) - (1 : Int32)) 64) <| lt_ (pL s2 58 (Int32.toNatClampNeg ((gI s2 53 9) - (1 : Int32))) y1) fun s4 => some s4) fun j3 => lt_ (pI s0 53 11 ((gI s0 53 11) - (1 : Int32))) fun s5 => lt_ (pI s5 53 9 ((gI s5 53 9) - (1 : Int32))) fun s6 => gd (ib ((gI s6 53 9) - (1 : Int32)) 64) <| lt_ (gL s6 58 (Int32.toNatClampNeg ((gI s6 53 9) - (1 : Int32)))) fun y7 => gd (ib (gI s6 53 9) 64) <| lt_ (gL s6 58 (Int32.toNatClampNeg (gI s6 53 9))) fun y8 => gd (ib (gI s6 53 11) 128) <| if (gI s6 59 (Int32.toNatClampNeg (gI s6 53 11))) = (38 : Int32) then (jn_ (fun (y10 : Int64) => j3 y10 s6) fun j11 => jn_ (fun (_ : Unit) => j11 (0 : Int64)) fun j12 => if y7 = (0 : Int64) then (j12 ()) else (if y8 = (0 : Int64) then (j12 ()) else (j11 (1 : Int64)))) else if (gI s6 59 (Int32.toNatClampNeg (gI s6 53 11))) = (42 : Int32) then (lt_ (y7 * y8) fun y16 => j3 y16 s6) else if (gI s6 59 (Int32.toNatClampNeg (gI s6 53 11))) = (43 : Int32) then (lt_ (y7 + y8) fun y18 => j3 y18 s6) else if (gI s6 59 (Int32.toNatClampNeg (gI s6 53 11))) = (45 : Int32) then (lt_ (y7 - y8) fun y20 => j3 y20 s6) else if (gI s6 59 (Int32.toNatClampNeg (gI s6 53 11))) = (60 : Int32) then (jn_ (fun (y22 : Int64) => j3 y22 s6) fun j23 => if y8 ≤ y7 then (j23 (0 : Int64)) else (j23 (1 : Int64))) else if (gI s6 59 (Int32.toNatClampNeg (gI s6 53 11))) = (61 : Int32) then (jn_ (fun (y26 : Int64) => j3 y26 s6) fun j27 => if y7 = y8 then (j27 (1 : Int64)) else (j27 (0 : Int64))) else if (gI s6 59 (Int32.toNatClampNeg (gI s6 53 11))) = (62 : Int32) then (jn_ (fun (y30 : Int64) => j3 y30 s6) fun j31 => if y7 ≤ y8 then (j31 (0 : Int64)) else (j31 (1 : Int64))) else if (gI s6 59 (Int32.toNatClampNeg (gI s6 53 11))) = (124 : Int32) then (jn_ (fun (y34 : Int64) => j3 y34 s6) fun j35 => jn_ (fun (_ : Unit) => j35 (1 : Int64)) fun j36 => if y7 = (0 : Int64) then (if y8 = (0 : Int64) then (j35 (0 : Int64)) else (j36 ())) else (j36 ())) else (jn_ (fun (y39 : Int64) => j3 y39 s6) fun j40 => if y8 = (0 : Int64) then (j40 (0 : Int64)) else (gd (decide (¬ y8 = 0)) <| j40 (y7 / y8)))
set_option maxRecDepth 100000 in
set_option maxHeartbeats 4000000 in
theorem con_X8_workOut (l : Launch) (s0 : jM) : Con l (1) yX8_workOut cX8_workOut 7 (Option.none : Option Jvm.ClassFile.FieldType) (eV SH) SH [.ref 53] s0 (f_X8_workOut s0) := by
  refine Con_of (ls0 := [some (.ref 53), none, none, none, none, none, none]) (ini := false) (mc := 0) (ms := 0) (by decide +kernel) rfl (Nat.le_of_ble_eq_true rfl) (fun h => by cases h) (fun _ _ => rfl) ?_
  unfold f_X8_workOut
  refine J_join (P := fun j => ∀ (y1 : Int64) (s2 : jM), J l RX8 cX8_workOut 7 (Option.none : Option Jvm.ClassFile.FieldType) false (rmD (1) 0 0) noCx (eV SH) SH 0 0 s2 259 [some (.ref 53), none, none, none, none, some (.long y1), none] [] (j y1 s2)) ?_ (fun j3 hj3 => ?_)
  · intro y1 s2
    refine J_aload_n (i := 0) dX8_workOut_259 rfl rfl ?_
    refine J_getR dX8_workOut_260 fl_RX8_27 sh_53_8 ?_
    refine J_aload_n (i := 0) dX8_workOut_263 rfl rfl ?_
    refine J_getI dX8_workOut_264 fl_RX8_127 sh_53_9 ?_
    refine J_iconst (v := (1 : Int32)) dX8_workOut_267 (by decide) ?_
    refine J_isub dX8_workOut_268 ?_
    refine J_lload (i := 5) dX8_workOut_269 rfl ?_
    refine J_last dX8_workOut_271 sa_58 ?_
    refine J_letM rfl (fun s4 => ?_)
    exact J_return dX8_workOut_272 rfl rfl
  refine J_aload_n (i := 0) dX8_workOut_0 rfl rfl ?_
  refine J_dup dX8_workOut_1 rfl ?_
  refine J_getI dX8_workOut_2 fl_RX8_124 sh_53_11 ?_
  refine J_iconst (v := (1 : Int32)) dX8_workOut_5 (by decide) ?_
  refine J_isub dX8_workOut_6 ?_
  refine J_putI dX8_workOut_7 fp_RX8_124 (fun h => by first | rfl | cases h) sh_53_11 rfl rfl ?_
  refine J_letM rfl (fun s5 => ?_)
  refine J_aload_n (i := 0) dX8_workOut_10 rfl rfl ?_
  refine J_dup dX8_workOut_11 rfl ?_
  refine J_getI dX8_workOut_12 fl_RX8_127 sh_53_9 ?_
  refine J_iconst (v := (1 : Int32)) dX8_workOut_15 (by decide) ?_
  refine J_isub dX8_workOut_16 ?_
  refine J_putI dX8_workOut_17 fp_RX8_127 (fun h => by first | rfl | cases h) sh_53_9 rfl rfl ?_
  refine J_letM rfl (fun s6 => ?_)
  refine J_aload_n (i := 0) dX8_workOut_20 rfl rfl ?_
  refine J_getR dX8_workOut_21 fl_RX8_27 sh_53_8 ?_
  refine J_aload_n (i := 0) dX8_workOut_24 rfl rfl ?_
  refine J_getI dX8_workOut_25 fl_RX8_127 sh_53_9 ?_
  refine J_iconst (v := (1 : Int32)) dX8_workOut_28 (by decide) ?_
  refine J_isub dX8_workOut_29 ?_
  refine J_lald dX8_workOut_30 sa_58 ?_
  refine J_lstore_nN (i := 1) (LS := fun y7 => [some (.ref 53), some (.long y7), none, none, none, none, none]) dX8_workOut_31 rfl (fun _ => rfl) (by decide) (fun y7 => ?_)
  refine J_aload_n (i := 0) dX8_workOut_32 rfl rfl ?_
  refine J_getR dX8_workOut_33 fl_RX8_27 sh_53_8 ?_
  refine J_aload_n (i := 0) dX8_workOut_36 rfl rfl ?_
  refine J_getI dX8_workOut_37 fl_RX8_127 sh_53_9 ?_
  refine J_lald dX8_workOut_40 sa_58 ?_
  refine J_lstore_nN (i := 3) (LS := fun y8 => [some (.ref 53), some (.long y7), none, some (.long y8), none, none, none]) dX8_workOut_41 rfl (fun _ => rfl) (by decide) (fun y8 => ?_)
  refine J_lconst (v := (0 : Int64)) dX8_workOut_42 (by decide) ?_
  refine J_lstore (i := 5) (ls2 := [some (.ref 53), some (.long y7), none, some (.long y8), none, some (.long (0 : Int64)), none]) dX8_workOut_43 rfl (by decide) ?_
  refine J_aload_n (i := 0) dX8_workOut_45 rfl rfl ?_
  refine J_getR dX8_workOut_46 fl_RX8_31 sh_53_10 ?_
  refine J_aload_n (i := 0) dX8_workOut_49 rfl rfl ?_
  refine J_getI dX8_workOut_50 fl_RX8_124 sh_53_11 ?_
  refine J_iald dX8_workOut_53 sa_59 ?_
  refine J_if (fun c9 => ?_) (fun c9 => ?_)
  · refine J_lsw (tgt := 150) (off := 96) dX8_workOut_54 (by decide) (by rw [c9] <;> rfl) (by decide) ?_
    refine J_join (P := fun j => ∀ (y10 : Int64), J l RX8 cX8_workOut 7 (Option.none : Option Jvm.ClassFile.FieldType) false (rmD (1) 0 0) noCx (eV SH) SH 0 0 s6 167 [some (.ref 53), none, none, none, none, none, none] [.long y10] (j y10)) ?_ (fun j11 hj11 => ?_)
    · intro y10
      refine J_lstore (i := 5) (ls2 := [some (.ref 53), none, none, none, none, some (.long y10), none]) dX8_workOut_167 rfl (by decide) ?_
      refine J_goto (tgt := 259) dX8_workOut_169 (by decide) ?_
      refine J_sub (l1 := [some (.ref 53), none, none, none, none, some (.long y10), none]) ⟨rfl, ⟨rfl, trivial⟩⟩ ?_
      exact hj3 y10 s6
    refine J_join (P := fun j => ∀ (_ : Unit), J l RX8 cX8_workOut 7 (Option.none : Option Jvm.ClassFile.FieldType) false (rmD (1) 0 0) noCx (eV SH) SH 0 0 s6 166 [some (.ref 53), none, none, none, none, none, none] [] (j ())) ?_ (fun j12 hj12 => ?_)
    · intro _
      refine J_lconst (v := (0 : Int64)) dX8_workOut_166 (by decide) ?_
      refine J_sub (l1 := [some (.ref 53), none, none, none, none, none, none]) ⟨rfl, trivial⟩ ?_
      exact hj11 (0 : Int64)
    refine J_lload_n (i := 1) dX8_workOut_150 rfl rfl ?_
    refine J_lconst (v := (0 : Int64)) dX8_workOut_151 (by decide) ?_
    refine J_lcmp_eq (tgt := 166) dX8_workOut_152 dX8_workOut_153 (by decide) (fun c13 => ?_) (fun c13 => ?_)
    · refine J_sub (l1 := [some (.ref 53), none, none, none, none, none, none]) ⟨rfl, trivial⟩ ?_
      exact hj12 ()
    · refine J_lload_n (i := 3) dX8_workOut_156 rfl rfl ?_
      refine J_lconst (v := (0 : Int64)) dX8_workOut_157 (by decide) ?_
      refine J_lcmp_eq (tgt := 166) dX8_workOut_158 dX8_workOut_159 (by decide) (fun c14 => ?_) (fun c14 => ?_)
      · refine J_sub (l1 := [some (.ref 53), none, none, none, none, none, none]) ⟨rfl, trivial⟩ ?_
        exact hj12 ()
      · refine J_lconst (v := (1 : Int64)) dX8_workOut_162 (by decide) ?_
        refine J_goto (tgt := 167) dX8_workOut_163 (by decide) ?_
        refine J_sub (l1 := [some (.ref 53), none, none, none, none, none, none]) ⟨rfl, trivial⟩ ?_
        exact hj11 (1 : Int64)
  refine J_if (fun c15 => ?_) (fun c15 => ?_)
  · refine J_lsw (tgt := 236) (off := 182) dX8_workOut_54 (by decide) (by rw [c15] <;> rfl) (by decide) ?_
    refine J_lload_n (i := 1) dX8_workOut_236 rfl rfl ?_
    refine J_lload_n (i := 3) dX8_workOut_237 rfl rfl ?_
    refine J_lmul dX8_workOut_238 ?_
    refine J_lstoreN (i := 5) (LS := fun y16 => [some (.ref 53), some (.long y7), none, some (.long y8), none, some (.long y16), none]) dX8_workOut_239 (fun _ => rfl) (by decide) (fun y16 => ?_)
    refine J_goto (tgt := 259) dX8_workOut_241 (by decide) ?_
    refine J_sub (l1 := [some (.ref 53), none, none, none, none, some (.long y16), none]) ⟨rfl, ⟨rfl, trivial⟩⟩ ?_
    exact hj3 y16 s6
  refine J_if (fun c17 => ?_) (fun c17 => ?_)
  · refine J_lsw (tgt := 220) (off := 166) dX8_workOut_54 (by decide) (by rw [c17] <;> rfl) (by decide) ?_
    refine J_lload_n (i := 1) dX8_workOut_220 rfl rfl ?_
    refine J_lload_n (i := 3) dX8_workOut_221 rfl rfl ?_
    refine J_ladd dX8_workOut_222 ?_
    refine J_lstoreN (i := 5) (LS := fun y18 => [some (.ref 53), some (.long y7), none, some (.long y8), none, some (.long y18), none]) dX8_workOut_223 (fun _ => rfl) (by decide) (fun y18 => ?_)
    refine J_goto (tgt := 259) dX8_workOut_225 (by decide) ?_
    refine J_sub (l1 := [some (.ref 53), none, none, none, none, some (.long y18), none]) ⟨rfl, ⟨rfl, trivial⟩⟩ ?_
    exact hj3 y18 s6
  refine J_if (fun c19 => ?_) (fun c19 => ?_)
  · refine J_lsw (tgt := 228) (off := 174) dX8_workOut_54 (by decide) (by rw [c19] <;> rfl) (by decide) ?_
    refine J_lload_n (i := 1) dX8_workOut_228 rfl rfl ?_
    refine J_lload_n (i := 3) dX8_workOut_229 rfl rfl ?_
    refine J_lsub dX8_workOut_230 ?_
    refine J_lstoreN (i := 5) (LS := fun y20 => [some (.ref 53), some (.long y7), none, some (.long y8), none, some (.long y20), none]) dX8_workOut_231 (fun _ => rfl) (by decide) (fun y20 => ?_)
    refine J_goto (tgt := 259) dX8_workOut_233 (by decide) ?_
    refine J_sub (l1 := [some (.ref 53), none, none, none, none, some (.long y20), none]) ⟨rfl, ⟨rfl, trivial⟩⟩ ?_
    exact hj3 y20 s6
  refine J_if (fun c21 => ?_) (fun c21 => ?_)
  · refine J_lsw (tgt := 172) (off := 118) dX8_workOut_54 (by decide) (by rw [c21] <;> rfl) (by decide) ?_
    refine J_join (P := fun j => ∀ (y22 : Int64), J l RX8 cX8_workOut 7 (Option.none : Option Jvm.ClassFile.FieldType) false (rmD (1) 0 0) noCx (eV SH) SH 0 0 s6 183 [some (.ref 53), none, none, none, none, none, none] [.long y22] (j y22)) ?_ (fun j23 hj23 => ?_)
    · intro y22
      refine J_lstore (i := 5) (ls2 := [some (.ref 53), none, none, none, none, some (.long y22), none]) dX8_workOut_183 rfl (by decide) ?_
      refine J_goto (tgt := 259) dX8_workOut_185 (by decide) ?_
      refine J_sub (l1 := [some (.ref 53), none, none, none, none, some (.long y22), none]) ⟨rfl, ⟨rfl, trivial⟩⟩ ?_
      exact hj3 y22 s6
    refine J_lload_n (i := 1) dX8_workOut_172 rfl rfl ?_
    refine J_lload_n (i := 3) dX8_workOut_173 rfl rfl ?_
    refine J_lcmp_ge (tgt := 182) dX8_workOut_174 dX8_workOut_175 (by decide) (fun c24 => ?_) (fun c24 => ?_)
    · refine J_lconst (v := (0 : Int64)) dX8_workOut_182 (by decide) ?_
      refine J_sub (l1 := [some (.ref 53), none, none, none, none, none, none]) ⟨rfl, trivial⟩ ?_
      exact hj23 (0 : Int64)
    · refine J_lconst (v := (1 : Int64)) dX8_workOut_178 (by decide) ?_
      refine J_goto (tgt := 183) dX8_workOut_179 (by decide) ?_
      refine J_sub (l1 := [some (.ref 53), none, none, none, none, none, none]) ⟨rfl, trivial⟩ ?_
      exact hj23 (1 : Int64)
  refine J_if (fun c25 => ?_) (fun c25 => ?_)
  · refine J_lsw (tgt := 204) (off := 150) dX8_workOut_54 (by decide) (by rw [c25] <;> rfl) (by decide) ?_
    refine J_join (P := fun j => ∀ (y26 : Int64), J l RX8 cX8_workOut 7 (Option.none : Option Jvm.ClassFile.FieldType) false (rmD (1) 0 0) noCx (eV SH) SH 0 0 s6 215 [some (.ref 53), none, none, none, none, none, none] [.long y26] (j y26)) ?_ (fun j27 hj27 => ?_)
    · intro y26
      refine J_lstore (i := 5) (ls2 := [some (.ref 53), none, none, none, none, some (.long y26), none]) dX8_workOut_215 rfl (by decide) ?_
      refine J_goto (tgt := 259) dX8_workOut_217 (by decide) ?_
      refine J_sub (l1 := [some (.ref 53), none, none, none, none, some (.long y26), none]) ⟨rfl, ⟨rfl, trivial⟩⟩ ?_
      exact hj3 y26 s6
    refine J_lload_n (i := 1) dX8_workOut_204 rfl rfl ?_
    refine J_lload_n (i := 3) dX8_workOut_205 rfl rfl ?_
    refine J_lcmp_ne (tgt := 214) dX8_workOut_206 dX8_workOut_207 (by decide) (fun c28 => ?_) (fun c28 => ?_)
    · refine J_lconst (v := (0 : Int64)) dX8_workOut_214 (by decide) ?_
      refine J_sub (l1 := [some (.ref 53), none, none, none, none, none, none]) ⟨rfl, trivial⟩ ?_
      exact hj27 (0 : Int64)
    · refine J_lconst (v := (1 : Int64)) dX8_workOut_210 (by decide) ?_
      refine J_goto (tgt := 215) dX8_workOut_211 (by decide) ?_
      refine J_sub (l1 := [some (.ref 53), none, none, none, none, none, none]) ⟨rfl, trivial⟩ ?_
      exact hj27 (1 : Int64)
  refine J_if (fun c29 => ?_) (fun c29 => ?_)
  · refine J_lsw (tgt := 188) (off := 134) dX8_workOut_54 (by decide) (by rw [c29] <;> rfl) (by decide) ?_
    refine J_join (P := fun j => ∀ (y30 : Int64), J l RX8 cX8_workOut 7 (Option.none : Option Jvm.ClassFile.FieldType) false (rmD (1) 0 0) noCx (eV SH) SH 0 0 s6 199 [some (.ref 53), none, none, none, none, none, none] [.long y30] (j y30)) ?_ (fun j31 hj31 => ?_)
    · intro y30
      refine J_lstore (i := 5) (ls2 := [some (.ref 53), none, none, none, none, some (.long y30), none]) dX8_workOut_199 rfl (by decide) ?_
      refine J_goto (tgt := 259) dX8_workOut_201 (by decide) ?_
      refine J_sub (l1 := [some (.ref 53), none, none, none, none, some (.long y30), none]) ⟨rfl, ⟨rfl, trivial⟩⟩ ?_
      exact hj3 y30 s6
    refine J_lload_n (i := 1) dX8_workOut_188 rfl rfl ?_
    refine J_lload_n (i := 3) dX8_workOut_189 rfl rfl ?_
    refine J_lcmp_le (tgt := 198) dX8_workOut_190 dX8_workOut_191 (by decide) (fun c32 => ?_) (fun c32 => ?_)
    · refine J_lconst (v := (0 : Int64)) dX8_workOut_198 (by decide) ?_
      refine J_sub (l1 := [some (.ref 53), none, none, none, none, none, none]) ⟨rfl, trivial⟩ ?_
      exact hj31 (0 : Int64)
    · refine J_lconst (v := (1 : Int64)) dX8_workOut_194 (by decide) ?_
      refine J_goto (tgt := 199) dX8_workOut_195 (by decide) ?_
      refine J_sub (l1 := [some (.ref 53), none, none, none, none, none, none]) ⟨rfl, trivial⟩ ?_
      exact hj31 (1 : Int64)
  refine J_if (fun c33 => ?_) (fun c33 => ?_)
  · refine J_lsw (tgt := 128) (off := 74) dX8_workOut_54 (by decide) (by rw [c33] <;> rfl) (by decide) ?_
    refine J_join (P := fun j => ∀ (y34 : Int64), J l RX8 cX8_workOut 7 (Option.none : Option Jvm.ClassFile.FieldType) false (rmD (1) 0 0) noCx (eV SH) SH 0 0 s6 145 [some (.ref 53), none, none, none, none, none, none] [.long y34] (j y34)) ?_ (fun j35 hj35 => ?_)
    · intro y34
      refine J_lstore (i := 5) (ls2 := [some (.ref 53), none, none, none, none, some (.long y34), none]) dX8_workOut_145 rfl (by decide) ?_
      refine J_goto (tgt := 259) dX8_workOut_147 (by decide) ?_
      refine J_sub (l1 := [some (.ref 53), none, none, none, none, some (.long y34), none]) ⟨rfl, ⟨rfl, trivial⟩⟩ ?_
      exact hj3 y34 s6
    refine J_join (P := fun j => ∀ (_ : Unit), J l RX8 cX8_workOut 7 (Option.none : Option Jvm.ClassFile.FieldType) false (rmD (1) 0 0) noCx (eV SH) SH 0 0 s6 140 [some (.ref 53), none, none, none, none, none, none] [] (j ())) ?_ (fun j36 hj36 => ?_)
    · intro _
      refine J_lconst (v := (1 : Int64)) dX8_workOut_140 (by decide) ?_
      refine J_goto (tgt := 145) dX8_workOut_141 (by decide) ?_
      refine J_sub (l1 := [some (.ref 53), none, none, none, none, none, none]) ⟨rfl, trivial⟩ ?_
      exact hj35 (1 : Int64)
    refine J_lload_n (i := 1) dX8_workOut_128 rfl rfl ?_
    refine J_lconst (v := (0 : Int64)) dX8_workOut_129 (by decide) ?_
    refine J_lcmp_ne (tgt := 140) dX8_workOut_130 dX8_workOut_131 (by decide) (fun c37 => ?_) (fun c37 => ?_)
    · refine J_sub (l1 := [some (.ref 53), none, none, none, none, none, none]) ⟨rfl, trivial⟩ ?_
      exact hj36 ()
    · refine J_lload_n (i := 3) dX8_workOut_134 rfl rfl ?_
      refine J_lconst (v := (0 : Int64)) dX8_workOut_135 (by decide) ?_
      refine J_lcmp_eq (tgt := 144) dX8_workOut_136 dX8_workOut_137 (by decide) (fun c38 => ?_) (fun c38 => ?_)
      · refine J_lconst (v := (0 : Int64)) dX8_workOut_144 (by decide) ?_
        refine J_sub (l1 := [some (.ref 53), none, none, none, none, none, none]) ⟨rfl, trivial⟩ ?_
        exact hj35 (0 : Int64)
      · refine J_sub (l1 := [some (.ref 53), none, none, none, none, none, none]) ⟨rfl, trivial⟩ ?_
        exact hj36 ()
  refine J_lsw (tgt := 244) (off := 190) dX8_workOut_54 (by decide) (by have c9 : ¬ ((gI s6 59 (Int32.toNatClampNeg (gI s6 53 11)))).toInt = 38 := toI_ne c9; have c15 : ¬ ((gI s6 59 (Int32.toNatClampNeg (gI s6 53 11)))).toInt = 42 := toI_ne c15; have c17 : ¬ ((gI s6 59 (Int32.toNatClampNeg (gI s6 53 11)))).toInt = 43 := toI_ne c17; have c19 : ¬ ((gI s6 59 (Int32.toNatClampNeg (gI s6 53 11)))).toInt = 45 := toI_ne c19; have c21 : ¬ ((gI s6 59 (Int32.toNatClampNeg (gI s6 53 11)))).toInt = 60 := toI_ne c21; have c25 : ¬ ((gI s6 59 (Int32.toNatClampNeg (gI s6 53 11)))).toInt = 61 := toI_ne c25; have c29 : ¬ ((gI s6 59 (Int32.toNatClampNeg (gI s6 53 11)))).toInt = 62 := toI_ne c29; have c33 : ¬ ((gI s6 59 (Int32.toNatClampNeg (gI s6 53 11)))).toInt = 124 := toI_ne c33; simp [Op.lookupswitch.offset] at *; first | done | omega) (by decide) ?_
  refine J_join (P := fun j => ∀ (y39 : Int64), J l RX8 cX8_workOut 7 (Option.none : Option Jvm.ClassFile.FieldType) false (rmD (1) 0 0) noCx (eV SH) SH 0 0 s6 257 [some (.ref 53), none, none, none, none, none, none] [.long y39] (j y39)) ?_ (fun j40 hj40 => ?_)
  · intro y39
    refine J_lstore (i := 5) (ls2 := [some (.ref 53), none, none, none, none, some (.long y39), none]) dX8_workOut_257 rfl (by decide) ?_
    refine J_sub (l1 := [some (.ref 53), none, none, none, none, some (.long y39), none]) ⟨rfl, ⟨rfl, trivial⟩⟩ ?_
    exact hj3 y39 s6
  refine J_lload_n (i := 3) dX8_workOut_244 rfl rfl ?_
  refine J_lconst (v := (0 : Int64)) dX8_workOut_245 (by decide) ?_
  refine J_lcmp_ne (tgt := 254) dX8_workOut_246 dX8_workOut_247 (by decide) (fun c41 => ?_) (fun c41 => ?_)
  · refine J_lload_n (i := 1) dX8_workOut_254 rfl rfl ?_
    refine J_lload_n (i := 3) dX8_workOut_255 rfl rfl ?_
    refine J_ldiv dX8_workOut_256 ?_
    refine J_sub (l1 := [some (.ref 53), none, none, none, none, none, none]) ⟨rfl, trivial⟩ ?_
    exact hj40 (y7 / y8)
  · refine J_lconst (v := (0 : Int64)) dX8_workOut_250 (by decide) ?_
    refine J_goto (tgt := 257) dX8_workOut_251 (by decide) ?_
    refine J_sub (l1 := [some (.ref 53), none, none, none, none, none, none]) ⟨rfl, trivial⟩ ?_
    exact hj40 (0 : Int64)
