def f_X8_status (a1 : Int32) (s0 : jM) : Option (Int32 × jM) := Option.bind (f_X8_in (Int32.toInt64 a1) (0 : Int64) (2 : Int64)) fun r1 => if r1 = 0 then (Option.bind (f_X8_bad (-1 : Int32) s0) fun r3 => some (r3.1, r3.2)) else (gd (ib a1 3) <| some ((gI s0 57 (Int32.toNatClampNeg a1)), s0))
set_option maxRecDepth 100000 in
set_option maxHeartbeats 4000000 in
theorem con_X8_status (l : Launch) (a1 : Int32) (s0 : jM) : Con l (2) yX8_status cX8_status 2 (Option.some Jvm.ClassFile.FieldType.int) (eIM SH) SH [.ref 53, .int a1] s0 (f_X8_status a1 s0) := by
  refine Con_of (ls0 := [some (.ref 53), some (.int a1)]) (ini := false) (mc := 0) (ms := 0) (by decide +kernel) rfl (Nat.le_of_ble_eq_true rfl) (fun h => by cases h) (fun _ _ => rfl) ?_
  unfold f_X8_status
  refine J_iload_n (i := 1) dX8_status_0 rfl rfl ?_
  refine J_i2l dX8_status_1 ?_
  refine J_lconst (v := (0 : Int64)) dX8_status_2 (by decide) ?_
  refine J_ldc2 (v := (2 : Int64)) dX8_status_3 kw_RX8_253 ?_
  refine J_callSI [.long (Int32.toInt64 a1), .long (0 : Int64), .long (2 : Int64)] dX8_status_6 ca_X8_in lk_RX8_74 st_X8_in rfl rfl ⟨by show _ ≤ _; simp only [rmD]; omega, by show _ ≤ _; simp only [rmD]; omega⟩ (Nat.le_of_ble_eq_true rfl) ⟨Nat.zero_le _, Nat.zero_le _⟩ (con_X8_in l _ _ _ _) (fun r1 _ => ?_)
  refine J_if_eq (tgt := 21) dX8_status_9 (by decide) (fun c2 => ?_) (fun c2 => ?_)
  · refine J_aload_n (i := 0) dX8_status_21 rfl rfl ?_
    refine J_iconst (v := (-1 : Int32)) dX8_status_22 (by decide) ?_
    refine J_callVIM 53 [.int (-1 : Int32)] dX8_status_23 ca_X8_bad lk_RX8_87 vi_X8_bad rc_53 rfl rfl ⟨by show _ ≤ _; simp only [rmD]; omega, by show _ ≤ _; simp only [rmD]; omega⟩ (Nat.le_of_ble_eq_true rfl) ⟨Nat.zero_le _, Nat.zero_le _⟩ (con_X8_bad l _ _) (fun r3 _ => ?_)
    exact J_ireturn dX8_status_26 rfl rfl rfl
  · refine J_aload_n (i := 0) dX8_status_12 rfl rfl ?_
    refine J_getR dX8_status_13 fl_RX8_20 sh_53_3 ?_
    refine J_iload_n (i := 1) dX8_status_16 rfl rfl ?_
    refine J_iald dX8_status_17 sa_57 ?_
    refine J_goto (tgt := 26) dX8_status_18 (by decide) ?_
    exact J_ireturn dX8_status_26 rfl rfl rfl

def f_X8_count (a1 : Int32) (s0 : jM) : Option (Int32 × jM) := if a1 = 0 then (Option.bind (f_X8_walkers s0) fun r6 => some (r6, s0)) else (if a1 = (1 : Int32) then (gd (ib (34 : Int32) 101) <| some ((gI s0 54 (Int32.toNatClampNeg (34 : Int32))), s0)) else (if a1 = (2 : Int32) then (Option.bind (f_X8_said s0) fun r5 => some (r5, s0)) else (Option.bind (f_X8_bad (-2 : Int32) s0) fun r4 => some (r4.1, r4.2))))
set_option maxRecDepth 100000 in
set_option maxHeartbeats 4000000 in
theorem con_X8_count (l : Launch) (a1 : Int32) (s0 : jM) : Con l (2) yX8_count cX8_count 2 (Option.some Jvm.ClassFile.FieldType.int) (eIM SH) SH [.ref 53, .int a1] s0 (f_X8_count a1 s0) := by
  refine Con_of (ls0 := [some (.ref 53), some (.int a1)]) (ini := false) (mc := 0) (ms := 0) (by decide +kernel) rfl (Nat.le_of_ble_eq_true rfl) (fun h => by cases h) (fun _ _ => rfl) ?_
  unfold f_X8_count
  refine J_iload_n (i := 1) dX8_count_0 rfl rfl ?_
  refine J_if_ne (tgt := 11) dX8_count_1 (by decide) (fun c1 => ?_) (fun c1 => ?_)
  · refine J_iload_n (i := 1) dX8_count_11 rfl rfl ?_
    refine J_iconst (v := (1 : Int32)) dX8_count_12 (by decide) ?_
    refine J_icmp_ne (tgt := 26) dX8_count_13 (by decide) (fun c2 => ?_) (fun c2 => ?_)
    · refine J_iload_n (i := 1) dX8_count_26 rfl rfl ?_
      refine J_iconst (v := (2 : Int32)) dX8_count_27 (by decide) ?_
      refine J_icmp_ne (tgt := 38) dX8_count_28 (by decide) (fun c3 => ?_) (fun c3 => ?_)
      · refine J_aload_n (i := 0) dX8_count_38 rfl rfl ?_
        refine J_bipush (v := (-2 : Int32)) dX8_count_39 (by decide) ?_
        refine J_callVIM 53 [.int (-2 : Int32)] dX8_count_41 ca_X8_bad lk_RX8_87 vi_X8_bad rc_53 rfl rfl ⟨by show _ ≤ _; simp only [rmD]; omega, by show _ ≤ _; simp only [rmD]; omega⟩ (Nat.le_of_ble_eq_true rfl) ⟨Nat.zero_le _, Nat.zero_le _⟩ (con_X8_bad l _ _) (fun r4 _ => ?_)
        exact J_ireturn dX8_count_44 rfl rfl rfl
      · refine J_aload_n (i := 0) dX8_count_31 rfl rfl ?_
        refine J_callVI 53 [] dX8_count_32 ca_X8_said lk_RX8_243 vi_X8_said rc_53 rfl rfl ⟨by show _ ≤ _; simp only [rmD]; omega, by show _ ≤ _; simp only [rmD]; omega⟩ (Nat.le_of_ble_eq_true rfl) ⟨Nat.zero_le _, Nat.zero_le _⟩ (con_X8_said l _) (fun r5 _ => ?_)
        refine J_goto (tgt := 44) dX8_count_35 (by decide) ?_
        exact J_ireturn dX8_count_44 rfl rfl rfl
    · refine J_aload_n (i := 0) dX8_count_16 rfl rfl ?_
      refine J_getR dX8_count_17 fl_RX8_7 sh_53_0 ?_
      refine J_bipush (v := (34 : Int32)) dX8_count_20 (by decide) ?_
      refine J_iald dX8_count_22 sa_54 ?_
      refine J_goto (tgt := 44) dX8_count_23 (by decide) ?_
      exact J_ireturn dX8_count_44 rfl rfl rfl
  · refine J_aload_n (i := 0) dX8_count_4 rfl rfl ?_
    refine J_callVI 53 [] dX8_count_5 ca_X8_walkers lk_RX8_70 vi_X8_walkers rc_53 rfl rfl ⟨by show _ ≤ _; simp only [rmD]; omega, by show _ ≤ _; simp only [rmD]; omega⟩ (Nat.le_of_ble_eq_true rfl) ⟨Nat.zero_le _, Nat.zero_le _⟩ (con_X8_walkers l _) (fun r6 _ => ?_)
    refine J_goto (tgt := 44) dX8_count_8 (by decide) ?_
    exact J_ireturn dX8_count_44 rfl rfl rfl

def lp_X8_sums_6 (N : Nat) (s0 : jM) (a2 : Int32) (a3 : Int32) (k2 : Int64 → Option Int64) : Nat → Int64 → Int32 → Option Int64
  | 0, _, _ => none
  | q + 1, y3, x4 => if a3 ≤ x4 then (k2 y3) else (gd (ib (a2 + x4) 101) <| lt_ (((31 : Int64) * y3) + (Int32.toInt64 (gI s0 54 (Int32.toNatClampNeg (a2 + x4))))) fun y7 => lt_ (x4 + (1 : Int32)) fun x8 => lp_X8_sums_6 N s0 a2 a3 k2 q y7 x8)
def f_X8_sums (N : Nat) (a1 : Int64) (a2 : Int32) (a3 : Int32) (s0 : jM) : Option Int64 := jn_ (fun (y1 : Int64) => some y1) fun k2 => lp_X8_sums_6 N s0 a2 a3 k2 N a1 (0 : Int32)
set_option maxRecDepth 100000 in
set_option maxHeartbeats 4000000 in
theorem lp_X8_sums_6_ok (l : Launch) (N : Nat)  (s0 : jM) (a2 : Int32) (a3 : Int32) (k2 : Int64 → Option Int64) (hk2 : ∀ (y1 : Int64), J l RX8 cX8_sums 8 (Option.some Jvm.ClassFile.FieldType.long) false (rmD (1) 0 0) noCx (eL SH s0) SH 0 0 s0 38 [none, none, none, none, none, some (.long y1), none, none] [] (k2 y1)) : ∀ (q : Nat) (y3 : Int64) (x4 : Int32), J l RX8 cX8_sums 8 (Option.some Jvm.ClassFile.FieldType.long) false (rmD (1) 0 0) noCx (eL SH s0) SH 0 0 s0 6 [some (.ref 53), none, none, some (.int a2), some (.int a3), some (.long y3), none, some (.int x4)] [] (lp_X8_sums_6 N s0 a2 a3 k2 q y3 x4) := by
  intro q
  induction q with
  | zero => intro y3 x4; exact J_none
  | succ q hrec5 =>
    intro y3 x4
    rw [lp_X8_sums_6]
    refine J_iload (i := 7) dX8_sums_6 rfl ?_
    refine J_iload (i := 4) dX8_sums_8 rfl ?_
    refine J_icmp_ge (tgt := 38) dX8_sums_10 (by decide) (fun c6 => ?_) (fun c6 => ?_)
    · refine J_sub (l1 := [none, none, none, none, none, some (.long y3), none, none]) ⟨rfl, trivial⟩ ?_
      exact hk2 y3
    · refine J_ldc2 (v := (31 : Int64)) dX8_sums_13 kw_RX8_255 ?_
      refine J_lload (i := 5) dX8_sums_16 rfl ?_
      refine J_lmul dX8_sums_18 ?_
      refine J_aload_n (i := 0) dX8_sums_19 rfl rfl ?_
      refine J_getR dX8_sums_20 fl_RX8_7 sh_53_0 ?_
      refine J_iload_n (i := 3) dX8_sums_23 rfl rfl ?_
      refine J_iload (i := 7) dX8_sums_24 rfl ?_
      refine J_iadd dX8_sums_26 ?_
      refine J_iald dX8_sums_27 sa_54 ?_
      refine J_i2l dX8_sums_28 ?_
      refine J_ladd dX8_sums_29 ?_
      refine J_lstoreN (i := 5) (LS := fun y7 => [some (.ref 53), none, none, some (.int a2), some (.int a3), some (.long y7), none, some (.int x4)]) dX8_sums_30 (fun _ => rfl) (by decide) (fun y7 => ?_)
      refine J_iincN (i := 7) (v := x4 + (1 : Int32)) (LS := fun x8 => [some (.ref 53), none, none, some (.int a2), some (.int a3), some (.long y7), none, some (.int x8)]) dX8_sums_32 rfl (by first | rfl | decide) (fun _ => rfl) (by decide) (fun x8 => ?_)
      refine J_goto (tgt := 6) dX8_sums_35 (by decide) ?_
      refine J_sub (l1 := [some (.ref 53), none, none, some (.int a2), some (.int a3), some (.long y7), none, some (.int x8)]) ⟨rfl, ⟨rfl, ⟨rfl, ⟨rfl, ⟨rfl, trivial⟩⟩⟩⟩⟩ ?_
      exact hrec5 y7 x8
set_option maxRecDepth 100000 in
set_option maxHeartbeats 4000000 in
theorem con_X8_sums (l : Launch) (N : Nat) (a1 : Int64) (a2 : Int32) (a3 : Int32) (s0 : jM) : Con l (1) yX8_sums cX8_sums 8 (Option.some Jvm.ClassFile.FieldType.long) (eL SH s0) SH [.ref 53, .long a1, .int a2, .int a3] s0 (f_X8_sums N a1 a2 a3 s0) := by
  refine Con_of (ls0 := [some (.ref 53), some (.long a1), none, some (.int a2), some (.int a3), none, none, none]) (ini := false) (mc := 0) (ms := 0) (by decide +kernel) rfl (Nat.le_of_ble_eq_true rfl) (fun h => by cases h) (fun _ _ => rfl) ?_
  unfold f_X8_sums
  refine J_lload_n (i := 1) dX8_sums_0 rfl rfl ?_
  refine J_lstore (i := 5) (ls2 := [some (.ref 53), some (.long a1), none, some (.int a2), some (.int a3), some (.long a1), none, none]) dX8_sums_1 rfl (by decide) ?_
  refine J_iconst (v := (0 : Int32)) dX8_sums_3 (by decide) ?_
  refine J_istore (i := 7) (ls2 := [some (.ref 53), some (.long a1), none, some (.int a2), some (.int a3), some (.long a1), none, some (.int (0 : Int32))]) dX8_sums_4 rfl (by decide) ?_
  refine J_join (P := fun j => ∀ (y1 : Int64), J l RX8 cX8_sums 8 (Option.some Jvm.ClassFile.FieldType.long) false (rmD (1) 0 0) noCx (eL SH s0) SH 0 0 s0 38 [none, none, none, none, none, some (.long y1), none, none] [] (j y1)) ?_ (fun k2 hk2 => ?_)
  · intro y1
    refine J_lload (i := 5) dX8_sums_38 rfl ?_
    exact J_lreturn dX8_sums_40 rfl rfl
  refine J_sub (l1 := [some (.ref 53), none, none, some (.int a2), some (.int a3), some (.long a1), none, some (.int (0 : Int32))]) ⟨rfl, ⟨rfl, ⟨rfl, ⟨rfl, ⟨rfl, trivial⟩⟩⟩⟩⟩ ?_
  exact lp_X8_sums_6_ok l N  s0 a2 a3 k2 hk2 N a1 (0 : Int32)

def f_X8_digest (N : Nat)  (s0 : jM) : Option Int64 := Option.bind (f_X8_walkers s0) fun r1 => gd (ib (34 : Int32) 101) <| Option.bind (f_X8_said s0) fun r2 => lt_ (((31 : Int64) * (((31 : Int64) * ((19933 : Int64) + (Int32.toInt64 r1))) + (Int32.toInt64 (gI s0 54 (Int32.toNatClampNeg (34 : Int32)))))) + (Int32.toInt64 r2)) fun y3 => Option.bind (f_X8_walkers s0) fun r4 => Option.bind (f_X8_sums N y3 (0 : Int32) ((4 : Int32) * r4) s0) fun r5 => Option.bind (f_X8_sums N r5 (32 : Int32) (2 : Int32) s0) fun r6 => gd (ib (34 : Int32) 101) <| Option.bind (f_X8_sums N r6 (35 : Int32) (gI s0 54 (Int32.toNatClampNeg (34 : Int32))) s0) fun r7 => Option.bind (f_X8_said s0) fun r8 => Option.bind (f_X8_sums N r7 (75 : Int32) ((3 : Int32) * r8) s0) fun r9 => some (((31 : Int64) * (((31 : Int64) * r9) + (gL s0 53 4))) + (gL s0 53 5))
set_option maxRecDepth 100000 in
set_option maxHeartbeats 4000000 in
theorem con_X8_digest (l : Launch) (N : Nat) (s0 : jM) : Con l (2) yX8_digest cX8_digest 3 (Option.some Jvm.ClassFile.FieldType.long) (eL SH s0) SH [.ref 53] s0 (f_X8_digest N s0) := by
  refine Con_of (ls0 := [some (.ref 53), none, none]) (ini := false) (mc := 0) (ms := 0) (by decide +kernel) rfl (Nat.le_of_ble_eq_true rfl) (fun h => by cases h) (fun _ _ => rfl) ?_
  unfold f_X8_digest
  refine J_ldc2 (v := (31 : Int64)) dX8_digest_0 kw_RX8_255 ?_
  refine J_ldc2 (v := (31 : Int64)) dX8_digest_3 kw_RX8_255 ?_
  refine J_ldc2 (v := (19933 : Int64)) dX8_digest_6 kw_RX8_257 ?_
  refine J_aload_n (i := 0) dX8_digest_9 rfl rfl ?_
  refine J_callVI 53 [] dX8_digest_10 ca_X8_walkers lk_RX8_70 vi_X8_walkers rc_53 rfl rfl ⟨by show _ ≤ _; simp only [rmD]; omega, by show _ ≤ _; simp only [rmD]; omega⟩ (Nat.le_of_ble_eq_true rfl) ⟨Nat.zero_le _, Nat.zero_le _⟩ (con_X8_walkers l _) (fun r1 _ => ?_)
  refine J_i2l dX8_digest_13 ?_
  refine J_ladd dX8_digest_14 ?_
  refine J_lmul dX8_digest_15 ?_
  refine J_aload_n (i := 0) dX8_digest_16 rfl rfl ?_
  refine J_getR dX8_digest_17 fl_RX8_7 sh_53_0 ?_
  refine J_bipush (v := (34 : Int32)) dX8_digest_20 (by decide) ?_
  refine J_iald dX8_digest_22 sa_54 ?_
  refine J_i2l dX8_digest_23 ?_
  refine J_ladd dX8_digest_24 ?_
  refine J_lmul dX8_digest_25 ?_
  refine J_aload_n (i := 0) dX8_digest_26 rfl rfl ?_
  refine J_callVI 53 [] dX8_digest_27 ca_X8_said lk_RX8_243 vi_X8_said rc_53 rfl rfl ⟨by show _ ≤ _; simp only [rmD]; omega, by show _ ≤ _; simp only [rmD]; omega⟩ (Nat.le_of_ble_eq_true rfl) ⟨Nat.zero_le _, Nat.zero_le _⟩ (con_X8_said l _) (fun r2 _ => ?_)
  refine J_i2l dX8_digest_30 ?_
  refine J_ladd dX8_digest_31 ?_
  refine J_lstore_nN (i := 1) (LS := fun y3 => [some (.ref 53), some (.long y3), none]) dX8_digest_32 rfl (fun _ => rfl) (by decide) (fun y3 => ?_)
  refine J_aload_n (i := 0) dX8_digest_33 rfl rfl ?_
  refine J_lload_n (i := 1) dX8_digest_34 rfl rfl ?_
  refine J_iconst (v := (0 : Int32)) dX8_digest_35 (by decide) ?_
  refine J_iconst (v := (4 : Int32)) dX8_digest_36 (by decide) ?_
  refine J_aload_n (i := 0) dX8_digest_37 rfl rfl ?_
  refine J_callVI 53 [] dX8_digest_38 ca_X8_walkers lk_RX8_70 vi_X8_walkers rc_53 rfl rfl ⟨by show _ ≤ _; simp only [rmD]; omega, by show _ ≤ _; simp only [rmD]; omega⟩ (Nat.le_of_ble_eq_true rfl) ⟨Nat.zero_le _, Nat.zero_le _⟩ (con_X8_walkers l _) (fun r4 _ => ?_)
  refine J_imul dX8_digest_41 ?_
  refine J_callVL 53 [.long y3, .int (0 : Int32), .int ((4 : Int32) * r4)] dX8_digest_42 ca_X8_sums lk_RX8_259 vi_X8_sums rc_53 rfl rfl ⟨by show _ ≤ _; simp only [rmD]; omega, by show _ ≤ _; simp only [rmD]; omega⟩ (Nat.le_of_ble_eq_true rfl) ⟨Nat.zero_le _, Nat.zero_le _⟩ (con_X8_sums l N _ _ _ _) (fun r5 _ => ?_)
  refine J_lstore_n (i := 1) (ls2 := [some (.ref 53), some (.long r5), none]) dX8_digest_45 rfl rfl (by decide) ?_
  refine J_aload_n (i := 0) dX8_digest_46 rfl rfl ?_
  refine J_lload_n (i := 1) dX8_digest_47 rfl rfl ?_
  refine J_bipush (v := (32 : Int32)) dX8_digest_48 (by decide) ?_
  refine J_iconst (v := (2 : Int32)) dX8_digest_50 (by decide) ?_
  refine J_callVL 53 [.long r5, .int (32 : Int32), .int (2 : Int32)] dX8_digest_51 ca_X8_sums lk_RX8_259 vi_X8_sums rc_53 rfl rfl ⟨by show _ ≤ _; simp only [rmD]; omega, by show _ ≤ _; simp only [rmD]; omega⟩ (Nat.le_of_ble_eq_true rfl) ⟨Nat.zero_le _, Nat.zero_le _⟩ (con_X8_sums l N _ _ _ _) (fun r6 _ => ?_)
  refine J_lstore_n (i := 1) (ls2 := [some (.ref 53), some (.long r6), none]) dX8_digest_54 rfl rfl (by decide) ?_
  refine J_aload_n (i := 0) dX8_digest_55 rfl rfl ?_
  refine J_lload_n (i := 1) dX8_digest_56 rfl rfl ?_
  refine J_bipush (v := (35 : Int32)) dX8_digest_57 (by decide) ?_
  refine J_aload_n (i := 0) dX8_digest_59 rfl rfl ?_
  refine J_getR dX8_digest_60 fl_RX8_7 sh_53_0 ?_
  refine J_bipush (v := (34 : Int32)) dX8_digest_63 (by decide) ?_
  refine J_iald dX8_digest_65 sa_54 ?_
  refine J_callVL 53 [.long r6, .int (35 : Int32), .int (gI s0 54 (Int32.toNatClampNeg (34 : Int32)))] dX8_digest_66 ca_X8_sums lk_RX8_259 vi_X8_sums rc_53 rfl rfl ⟨by show _ ≤ _; simp only [rmD]; omega, by show _ ≤ _; simp only [rmD]; omega⟩ (Nat.le_of_ble_eq_true rfl) ⟨Nat.zero_le _, Nat.zero_le _⟩ (con_X8_sums l N _ _ _ _) (fun r7 _ => ?_)
  refine J_lstore_n (i := 1) (ls2 := [some (.ref 53), some (.long r7), none]) dX8_digest_69 rfl rfl (by decide) ?_
  refine J_aload_n (i := 0) dX8_digest_70 rfl rfl ?_
  refine J_lload_n (i := 1) dX8_digest_71 rfl rfl ?_
  refine J_bipush (v := (75 : Int32)) dX8_digest_72 (by decide) ?_
  refine J_iconst (v := (3 : Int32)) dX8_digest_74 (by decide) ?_
  refine J_aload_n (i := 0) dX8_digest_75 rfl rfl ?_
  refine J_callVI 53 [] dX8_digest_76 ca_X8_said lk_RX8_243 vi_X8_said rc_53 rfl rfl ⟨by show _ ≤ _; simp only [rmD]; omega, by show _ ≤ _; simp only [rmD]; omega⟩ (Nat.le_of_ble_eq_true rfl) ⟨Nat.zero_le _, Nat.zero_le _⟩ (con_X8_said l _) (fun r8 _ => ?_)
  refine J_imul dX8_digest_79 ?_
  refine J_callVL 53 [.long r7, .int (75 : Int32), .int ((3 : Int32) * r8)] dX8_digest_80 ca_X8_sums lk_RX8_259 vi_X8_sums rc_53 rfl rfl ⟨by show _ ≤ _; simp only [rmD]; omega, by show _ ≤ _; simp only [rmD]; omega⟩ (Nat.le_of_ble_eq_true rfl) ⟨Nat.zero_le _, Nat.zero_le _⟩ (con_X8_sums l N _ _ _ _) (fun r9 _ => ?_)
  refine J_lstore_n (i := 1) (ls2 := [some (.ref 53), some (.long r9), none]) dX8_digest_83 rfl rfl (by decide) ?_
  refine J_ldc2 (v := (31 : Int64)) dX8_digest_84 kw_RX8_255 ?_
  refine J_ldc2 (v := (31 : Int64)) dX8_digest_87 kw_RX8_255 ?_
  refine J_lload_n (i := 1) dX8_digest_90 rfl rfl ?_
  refine J_lmul dX8_digest_91 ?_
  refine J_aload_n (i := 0) dX8_digest_92 rfl rfl ?_
  refine J_getL dX8_digest_93 fl_RX8_67 sh_53_4 ?_
  refine J_ladd dX8_digest_96 ?_
  refine J_lmul dX8_digest_97 ?_
  refine J_aload_n (i := 0) dX8_digest_98 rfl rfl ?_
  refine J_getL dX8_digest_99 fl_RX8_23 sh_53_5 ?_
  refine J_ladd dX8_digest_102 ?_
  exact J_lreturn dX8_digest_103 rfl rfl
