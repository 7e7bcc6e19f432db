def lp_X6_value_20 (N : Nat) (a2 : Int32) (k4 : jM → Option (Int64 × jM)) : Nat → Int32 → jM → Option (Int64 × jM)
  | 0, _, _ => none
  | q + 1, x6, s7 => if (gI s7 29 3) ≤ x6 then (k4 s7) else (if (40 : Int32) ≤ x6 then (k4 s7) else (jn_ (fun (s11 : jM) => lt_ (x6 + (1 : Int32)) fun x13 => lp_X6_value_20 N a2 k4 q x13 s11) fun j12 => jn_ (fun (x14 : Int32) => if x14 = (35 : Int32) then (gd (ib x6 40) <| Option.bind (f_X6_push (Int32.toInt64 (gI s7 31 (Int32.toNatClampNeg x6))) s7) fun r34 => j12 r34) else (if x14 = (109 : Int32) then (Option.bind (f_X6_push (Int32.toInt64 a2) s7) fun r33 => j12 r33) else (if x14 = (33 : Int32) then (jn_ (fun (y27 : Int64) (s28 : jM) => Option.bind (f_X6_push y27 s28) fun r30 => j12 r30) fun j29 => Option.bind (f_X6_pop s7) fun r31 => if r31.1 = (0 : Int64) then (j29 (1 : Int64) r31.2) else (j29 (0 : Int64) r31.2)) else (if x14 = (126 : Int32) then (Option.bind (f_X6_pop s7) fun r25 => Option.bind (f_X6_push (-r25.1) r25.2) fun r26 => j12 r26) else (Option.bind (f_X6_pop s7) fun r20 => lt_ r20.1 fun y21 => Option.bind (f_X6_pop r20.2) fun r22 => Option.bind (f_X6_work x14 r22.1 y21) fun r23 => Option.bind (f_X6_push r23 r22.2) fun r24 => j12 r24))))) fun j15 => gd (ib x6 40) <| lt_ (gC s7 30 (Int32.toNatClampNeg x6)) fun x35 => Option.bind (f_J0_indexOf_0f7a4 N 2 x35) fun r36 => if r36 < 0 then (j15 x35) else (if (5 : Int32) ≤ r36 then (j15 x35) else (gd (ib r36 5) <| Option.bind (f_X6_push (Int32.toInt64 (gI s7 34 (Int32.toNatClampNeg r36))) s7) fun r39 => j12 r39))))
def f_X6_value (N : Nat) (a2 : Int32) (s0 : jM) : Option (Int64 × jM) := if (gI s0 29 7) = (-1 : Int32) then (lt_ (pI s0 29 5 (0 : Int32)) fun s2 => jn_ (fun (s3 : jM) => Option.bind (f_X6_pop s3) fun r5 => some (r5.1, r5.2)) fun k4 => lp_X6_value_20 N a2 k4 N (0 : Int32) s2) else (gd (ib (0 : Int32) 5) <| some ((Int32.toInt64 (gI s0 34 (Int32.toNatClampNeg (0 : Int32)))), s0))
set_option maxRecDepth 100000 in
set_option maxHeartbeats 4000000 in
theorem lp_X6_value_20_ok (l : Launch) (N : Nat)  (a2 : Int32) (k4 : jM → Option (Int64 × jM)) (hk4 : ∀ (s3 : jM), J l RX6 cX6_value 8 (Option.some Jvm.ClassFile.FieldType.long) false (rmD (5) 0 0) noCx (eLM SH) SH 0 0 s3 185 [some (.ref 29), none, none, none, none, none, none, none] [] (k4 s3)) : ∀ (q : Nat) (x6 : Int32) (s7 : jM), J l RX6 cX6_value 8 (Option.some Jvm.ClassFile.FieldType.long) false (rmD (5) 0 0) noCx (eLM SH) SH 0 0 s7 20 [some (.ref 29), some (.ref 34), some (.int a2), some (.int x6), none, none, none, none] [] (lp_X6_value_20 N a2 k4 q x6 s7) := by
  intro q
  induction q with
  | zero => intro x6 s7; exact J_none
  | succ q hrec8 =>
    intro x6 s7
    rw [lp_X6_value_20]
    refine J_iload_n (i := 3) dX6_value_20 rfl rfl ?_
    refine J_aload_n (i := 0) dX6_value_21 rfl rfl ?_
    refine J_getI dX6_value_22 fl_RX6_34 sh_29_3 ?_
    refine J_icmp_ge (tgt := 185) dX6_value_25 (by decide) (fun c9 => ?_) (fun c9 => ?_)
    · refine J_sub (l1 := [some (.ref 29), none, none, none, none, none, none, none]) ⟨rfl, trivial⟩ ?_
      exact hk4 s7
    · refine J_iload_n (i := 3) dX6_value_28 rfl rfl ?_
      refine J_bipush (v := (40 : Int32)) dX6_value_29 (by decide) ?_
      refine J_icmp_ge (tgt := 185) dX6_value_31 (by decide) (fun c10 => ?_) (fun c10 => ?_)
      · refine J_sub (l1 := [some (.ref 29), none, none, none, none, none, none, none]) ⟨rfl, trivial⟩ ?_
        exact hk4 s7
      · refine J_join (P := fun j => ∀ (s11 : jM), J l RX6 cX6_value 8 (Option.some Jvm.ClassFile.FieldType.long) false (rmD (5) 0 0) noCx (eLM SH) SH 0 0 s11 179 [some (.ref 29), some (.ref 34), some (.int a2), some (.int x6), none, none, none, none] [] (j s11)) ?_ (fun j12 hj12 => ?_)
        · intro s11
          refine J_iincN (i := 3) (v := x6 + (1 : Int32)) (LS := fun x13 => [some (.ref 29), some (.ref 34), some (.int a2), some (.int x13), none, none, none, none]) dX6_value_179 rfl (by first | rfl | decide) (fun _ => rfl) (by decide) (fun x13 => ?_)
          refine J_goto (tgt := 20) dX6_value_182 (by decide) ?_
          refine J_sub (l1 := [some (.ref 29), some (.ref 34), some (.int a2), some (.int x13), none, none, none, none]) ⟨rfl, ⟨rfl, ⟨rfl, ⟨rfl, trivial⟩⟩⟩⟩ ?_
          exact hrec8 x13 s11
        refine J_join (P := fun j => ∀ (x14 : Int32), J l RX6 cX6_value 8 (Option.some Jvm.ClassFile.FieldType.long) false (rmD (5) 0 0) noCx (eLM SH) SH 0 0 s7 74 [some (.ref 29), some (.ref 34), some (.int a2), some (.int x6), some (.int x14), none, none, none] [] (j x14)) ?_ (fun j15 hj15 => ?_)
        · intro x14
          refine J_iload (i := 4) dX6_value_74 rfl ?_
          refine J_bipush (v := (35 : Int32)) dX6_value_76 (by decide) ?_
          refine J_icmp_ne (tgt := 95) dX6_value_78 (by decide) (fun c16 => ?_) (fun c16 => ?_)
          · refine J_iload (i := 4) dX6_value_95 rfl ?_
            refine J_bipush (v := (109 : Int32)) dX6_value_97 (by decide) ?_
            refine J_icmp_ne (tgt := 111) dX6_value_99 (by decide) (fun c17 => ?_) (fun c17 => ?_)
            · refine J_iload (i := 4) dX6_value_111 rfl ?_
              refine J_bipush (v := (33 : Int32)) dX6_value_113 (by decide) ?_
              refine J_icmp_ne (tgt := 139) dX6_value_115 (by decide) (fun c18 => ?_) (fun c18 => ?_)
              · refine J_iload (i := 4) dX6_value_139 rfl ?_
                refine J_bipush (v := (126 : Int32)) dX6_value_141 (by decide) ?_
                refine J_icmp_ne (tgt := 158) dX6_value_143 (by decide) (fun c19 => ?_) (fun c19 => ?_)
                · refine J_aload_n (i := 0) dX6_value_158 rfl rfl ?_
                  refine J_callVLM 29 [] dX6_value_159 ca_X6_pop lk_RX6_132 vi_X6_pop rc_29 rfl rfl ⟨by show _ ≤ _; simp only [rmD]; omega, by show _ ≤ _; simp only [rmD]; omega⟩ (Nat.le_of_ble_eq_true rfl) ⟨Nat.zero_le _, Nat.zero_le _⟩ (con_X6_pop l _) (fun r20 _ => ?_)
                  refine J_lstoreN (i := 6) (LS := fun y21 => [some (.ref 29), some (.ref 34), some (.int a2), some (.int x6), some (.int x14), none, some (.long y21), none]) dX6_value_162 (fun _ => rfl) (by decide) (fun y21 => ?_)
                  refine J_aload_n (i := 0) dX6_value_164 rfl rfl ?_
                  refine J_iload (i := 4) dX6_value_165 rfl ?_
                  refine J_aload_n (i := 0) dX6_value_167 rfl rfl ?_
                  refine J_callVLM 29 [] dX6_value_168 ca_X6_pop lk_RX6_132 vi_X6_pop rc_29 rfl rfl ⟨by show _ ≤ _; simp only [rmD]; omega, by show _ ≤ _; simp only [rmD]; omega⟩ (Nat.le_of_ble_eq_true rfl) ⟨Nat.zero_le _, Nat.zero_le _⟩ (con_X6_pop l _) (fun r22 _ => ?_)
                  refine J_lload (i := 6) dX6_value_171 rfl ?_
                  refine J_callSL [.int x14, .long r22.1, .long y21] dX6_value_173 ca_X6_work lk_RX6_136 st_X6_work rfl rfl ⟨by show _ ≤ _; simp only [rmD]; omega, by show _ ≤ _; simp only [rmD]; omega⟩ (Nat.le_of_ble_eq_true rfl) ⟨Nat.zero_le _, Nat.zero_le _⟩ (con_X6_work l _ _ _ _) (fun r23 _ => ?_)
                  refine J_callVV 29 [.long r23] dX6_value_176 ca_X6_push lk_RX6_128 vi_X6_push rc_29 rfl rfl ⟨by show _ ≤ _; simp only [rmD]; omega, by show _ ≤ _; simp only [rmD]; omega⟩ (Nat.le_of_ble_eq_true rfl) ⟨Nat.zero_le _, Nat.zero_le _⟩ (con_X6_push l _ _) (fun r24 _ => ?_)
                  refine J_sub (l1 := [some (.ref 29), some (.ref 34), some (.int a2), some (.int x6), none, none, none, none]) ⟨rfl, ⟨rfl, ⟨rfl, ⟨rfl, trivial⟩⟩⟩⟩ ?_
                  exact hj12 r24
                · refine J_aload_n (i := 0) dX6_value_146 rfl rfl ?_
                  refine J_aload_n (i := 0) dX6_value_147 rfl rfl ?_
                  refine J_callVLM 29 [] dX6_value_148 ca_X6_pop lk_RX6_132 vi_X6_pop rc_29 rfl rfl ⟨by show _ ≤ _; simp only [rmD]; omega, by show _ ≤ _; simp only [rmD]; omega⟩ (Nat.le_of_ble_eq_true rfl) ⟨Nat.zero_le _, Nat.zero_le _⟩ (con_X6_pop l _) (fun r25 _ => ?_)
                  refine J_lneg dX6_value_151 ?_
                  refine J_callVV 29 [.long (-r25.1)] dX6_value_152 ca_X6_push lk_RX6_128 vi_X6_push rc_29 rfl rfl ⟨by show _ ≤ _; simp only [rmD]; omega, by show _ ≤ _; simp only [rmD]; omega⟩ (Nat.le_of_ble_eq_true rfl) ⟨Nat.zero_le _, Nat.zero_le _⟩ (con_X6_push l _ _) (fun r26 _ => ?_)
                  refine J_goto (tgt := 179) dX6_value_155 (by decide) ?_
                  refine J_sub (l1 := [some (.ref 29), some (.ref 34), some (.int a2), some (.int x6), none, none, none, none]) ⟨rfl, ⟨rfl, ⟨rfl, ⟨rfl, trivial⟩⟩⟩⟩ ?_
                  exact hj12 r26
              · refine J_join (P := fun j => ∀ (y27 : Int64) (s28 : jM), J l RX6 cX6_value 8 (Option.some Jvm.ClassFile.FieldType.long) false (rmD (5) 0 0) noCx (eLM SH) SH 0 0 s28 133 [some (.ref 29), some (.ref 34), some (.int a2), some (.int x6), none, none, none, none] [.long y27, .ref 29] (j y27 s28)) ?_ (fun j29 hj29 => ?_)
                · intro y27 s28
                  refine J_callVV 29 [.long y27] dX6_value_133 ca_X6_push lk_RX6_128 vi_X6_push rc_29 rfl rfl ⟨by show _ ≤ _; simp only [rmD]; omega, by show _ ≤ _; simp only [rmD]; omega⟩ (Nat.le_of_ble_eq_true rfl) ⟨Nat.zero_le _, Nat.zero_le _⟩ (con_X6_push l _ _) (fun r30 _ => ?_)
                  refine J_goto (tgt := 179) dX6_value_136 (by decide) ?_
                  refine J_sub (l1 := [some (.ref 29), some (.ref 34), some (.int a2), some (.int x6), none, none, none, none]) ⟨rfl, ⟨rfl, ⟨rfl, ⟨rfl, trivial⟩⟩⟩⟩ ?_
                  exact hj12 r30
                refine J_aload_n (i := 0) dX6_value_118 rfl rfl ?_
                refine J_aload_n (i := 0) dX6_value_119 rfl rfl ?_
                refine J_callVLM 29 [] dX6_value_120 ca_X6_pop lk_RX6_132 vi_X6_pop rc_29 rfl rfl ⟨by show _ ≤ _; simp only [rmD]; omega, by show _ ≤ _; simp only [rmD]; omega⟩ (Nat.le_of_ble_eq_true rfl) ⟨Nat.zero_le _, Nat.zero_le _⟩ (con_X6_pop l _) (fun r31 _ => ?_)
                refine J_lconst (v := (0 : Int64)) dX6_value_123 (by decide) ?_
                refine J_lcmp_ne (tgt := 132) dX6_value_124 dX6_value_125 (by decide) (fun c32 => ?_) (fun c32 => ?_)
                · refine J_lconst (v := (0 : Int64)) dX6_value_132 (by decide) ?_
                  refine J_sub (l1 := [some (.ref 29), some (.ref 34), some (.int a2), some (.int x6), none, none, none, none]) ⟨rfl, ⟨rfl, ⟨rfl, ⟨rfl, trivial⟩⟩⟩⟩ ?_
                  exact hj29 (0 : Int64) r31.2
                · refine J_lconst (v := (1 : Int64)) dX6_value_128 (by decide) ?_
                  refine J_goto (tgt := 133) dX6_value_129 (by decide) ?_
                  refine J_sub (l1 := [some (.ref 29), some (.ref 34), some (.int a2), some (.int x6), none, none, none, none]) ⟨rfl, ⟨rfl, ⟨rfl, ⟨rfl, trivial⟩⟩⟩⟩ ?_
                  exact hj29 (1 : Int64) r31.2
            · refine J_aload_n (i := 0) dX6_value_102 rfl rfl ?_
              refine J_iload_n (i := 2) dX6_value_103 rfl rfl ?_
              refine J_i2l dX6_value_104 ?_
              refine J_callVV 29 [.long (Int32.toInt64 a2)] dX6_value_105 ca_X6_push lk_RX6_128 vi_X6_push rc_29 rfl rfl ⟨by show _ ≤ _; simp only [rmD]; omega, by show _ ≤ _; simp only [rmD]; omega⟩ (Nat.le_of_ble_eq_true rfl) ⟨Nat.zero_le _, Nat.zero_le _⟩ (con_X6_push l _ _) (fun r33 _ => ?_)
              refine J_goto (tgt := 179) dX6_value_108 (by decide) ?_
              refine J_sub (l1 := [some (.ref 29), some (.ref 34), some (.int a2), some (.int x6), none, none, none, none]) ⟨rfl, ⟨rfl, ⟨rfl, ⟨rfl, trivial⟩⟩⟩⟩ ?_
              exact hj12 r33
          · refine J_aload_n (i := 0) dX6_value_81 rfl rfl ?_
            refine J_aload_n (i := 0) dX6_value_82 rfl rfl ?_
            refine J_getR dX6_value_83 fl_RX6_15 sh_29_2 ?_
            refine J_iload_n (i := 3) dX6_value_86 rfl rfl ?_
            refine J_iald dX6_value_87 sa_31 ?_
            refine J_i2l dX6_value_88 ?_
            refine J_callVV 29 [.long (Int32.toInt64 (gI s7 31 (Int32.toNatClampNeg x6)))] dX6_value_89 ca_X6_push lk_RX6_128 vi_X6_push rc_29 rfl rfl ⟨by show _ ≤ _; simp only [rmD]; omega, by show _ ≤ _; simp only [rmD]; omega⟩ (Nat.le_of_ble_eq_true rfl) ⟨Nat.zero_le _, Nat.zero_le _⟩ (con_X6_push l _ _) (fun r34 _ => ?_)
            refine J_goto (tgt := 179) dX6_value_92 (by decide) ?_
            refine J_sub (l1 := [some (.ref 29), some (.ref 34), some (.int a2), some (.int x6), none, none, none, none]) ⟨rfl, ⟨rfl, ⟨rfl, ⟨rfl, trivial⟩⟩⟩⟩ ?_
            exact hj12 r34
        refine J_aload_n (i := 0) dX6_value_34 rfl rfl ?_
        refine J_getR dX6_value_35 fl_RX6_9 sh_29_1 ?_
        refine J_iload_n (i := 3) dX6_value_38 rfl rfl ?_
        refine J_cald dX6_value_39 sa_30 ?_
        refine J_istoreN (i := 4) (LS := fun x35 => [some (.ref 29), some (.ref 34), some (.int a2), some (.int x6), some (.int x35), none, none, none]) dX6_value_40 (fun _ => rfl) (by decide) (fun x35 => ?_)
        refine J_ldcS (i := 2) dX6_value_42 sr_2 ?_
        refine J_iload (i := 4) dX6_value_44 rfl ?_
        refine J_callVI (1000 + 2) [.int x35] dX6_value_46 ca_J0_indexOf_0f7a4 lk_RX6_111 vi_J0_indexOf_0f7a4 (Or.inr ⟨_, rfl, (by decide), rfl⟩) rfl rfl ⟨by show _ ≤ _; simp only [rmD]; omega, by show _ ≤ _; simp only [rmD]; omega⟩ (Nat.le_of_ble_eq_true rfl) ⟨Nat.zero_le _, Nat.zero_le _⟩ (con_J0_indexOf_0f7a4 l N 2 (by decide) _ _) (fun r36 _ => ?_)
        refine J_istore (i := 5) (ls2 := [some (.ref 29), some (.ref 34), some (.int a2), some (.int x6), some (.int x35), some (.int r36), none, none]) dX6_value_49 rfl (by decide) ?_
        refine J_iload (i := 5) dX6_value_51 rfl ?_
        refine J_if_lt (tgt := 74) dX6_value_53 (by decide) (fun c37 => ?_) (fun c37 => ?_)
        · refine J_sub (l1 := [some (.ref 29), some (.ref 34), some (.int a2), some (.int x6), some (.int x35), none, none, none]) ⟨rfl, ⟨rfl, ⟨rfl, ⟨rfl, ⟨rfl, trivial⟩⟩⟩⟩⟩ ?_
          exact hj15 x35
        · refine J_iload (i := 5) dX6_value_56 rfl ?_
          refine J_iconst (v := (5 : Int32)) dX6_value_58 (by decide) ?_
          refine J_icmp_ge (tgt := 74) dX6_value_59 (by decide) (fun c38 => ?_) (fun c38 => ?_)
          · refine J_sub (l1 := [some (.ref 29), some (.ref 34), some (.int a2), some (.int x6), some (.int x35), none, none, none]) ⟨rfl, ⟨rfl, ⟨rfl, ⟨rfl, ⟨rfl, trivial⟩⟩⟩⟩⟩ ?_
            exact hj15 x35
          · refine J_aload_n (i := 0) dX6_value_62 rfl rfl ?_
            refine J_aload_n (i := 1) dX6_value_63 rfl rfl ?_
            refine J_iload (i := 5) dX6_value_64 rfl ?_
            refine J_iald dX6_value_66 sa_34 ?_
            refine J_i2l dX6_value_67 ?_
            refine J_callVV 29 [.long (Int32.toInt64 (gI s7 34 (Int32.toNatClampNeg r36)))] dX6_value_68 ca_X6_push lk_RX6_128 vi_X6_push rc_29 rfl rfl ⟨by show _ ≤ _; simp only [rmD]; omega, by show _ ≤ _; simp only [rmD]; omega⟩ (Nat.le_of_ble_eq_true rfl) ⟨Nat.zero_le _, Nat.zero_le _⟩ (con_X6_push l _ _) (fun r39 _ => ?_)
            refine J_goto (tgt := 179) dX6_value_71 (by decide) ?_
            refine J_sub (l1 := [some (.ref 29), some (.ref 34), some (.int a2), some (.int x6), none, none, none, none]) ⟨rfl, ⟨rfl, ⟨rfl, ⟨rfl, trivial⟩⟩⟩⟩ ?_
            exact hj12 r39
set_option maxRecDepth 100000 in
set_option maxHeartbeats 4000000 in
theorem con_X6_value (l : Launch) (N : Nat) (a2 : Int32) (s0 : jM) : Con l (5) yX6_value cX6_value 8 (Option.some Jvm.ClassFile.FieldType.long) (eLM SH) SH [.ref 29, .ref 34, .int a2] s0 (f_X6_value N a2 s0) := by
  refine Con_of (ls0 := [some (.ref 29), some (.ref 34), some (.int a2), none, none, none, none, none]) (ini := false) (mc := 0) (ms := 0) (by decide +kernel) rfl (Nat.le_of_ble_eq_true rfl) (fun h => by cases h) (fun _ _ => rfl) ?_
  unfold f_X6_value
  refine J_aload_n (i := 0) dX6_value_0 rfl rfl ?_
  refine J_getI dX6_value_1 fl_RX6_37 sh_29_7 ?_
  refine J_iconst (v := (-1 : Int32)) dX6_value_4 (by decide) ?_
  refine J_icmp_eq (tgt := 13) dX6_value_5 (by decide) (fun c1 => ?_) (fun c1 => ?_)
  · refine J_aload_n (i := 0) dX6_value_13 rfl rfl ?_
    refine J_iconst (v := (0 : Int32)) dX6_value_14 (by decide) ?_
    refine J_putI dX6_value_15 fp_RX6_125 (fun h => by first | rfl | cases h) sh_29_5 rfl rfl ?_
    refine J_letM rfl (fun s2 => ?_)
    refine J_iconst (v := (0 : Int32)) dX6_value_18 (by decide) ?_
    refine J_istore_n (i := 3) (ls2 := [some (.ref 29), some (.ref 34), some (.int a2), some (.int (0 : Int32)), none, none, none, none]) dX6_value_19 rfl rfl (by decide) ?_
    refine J_join (P := fun j => ∀ (s3 : jM), J l RX6 cX6_value 8 (Option.some Jvm.ClassFile.FieldType.long) false (rmD (5) 0 0) noCx (eLM SH) SH 0 0 s3 185 [some (.ref 29), none, none, none, none, none, none, none] [] (j s3)) ?_ (fun k4 hk4 => ?_)
    · intro s3
      refine J_aload_n (i := 0) dX6_value_185 rfl rfl ?_
      refine J_callVLM 29 [] dX6_value_186 ca_X6_pop lk_RX6_132 vi_X6_pop rc_29 rfl rfl ⟨by show _ ≤ _; simp only [rmD]; omega, by show _ ≤ _; simp only [rmD]; omega⟩ (Nat.le_of_ble_eq_true rfl) ⟨Nat.zero_le _, Nat.zero_le _⟩ (con_X6_pop l _) (fun r5 _ => ?_)
      exact J_lreturn dX6_value_189 rfl rfl
    refine J_sub (l1 := [some (.ref 29), some (.ref 34), some (.int a2), some (.int (0 : Int32)), none, none, none, none]) ⟨rfl, ⟨rfl, ⟨rfl, ⟨rfl, trivial⟩⟩⟩⟩ ?_
    exact lp_X6_value_20_ok l N  a2 k4 hk4 N (0 : Int32) s2
  · refine J_aload_n (i := 1) dX6_value_8 rfl rfl ?_
    refine J_iconst (v := (0 : Int32)) dX6_value_9 (by decide) ?_
    refine J_iald dX6_value_10 sa_34 ?_
    refine J_i2l dX6_value_11 ?_
    exact J_lreturn dX6_value_12 rfl rfl

def lp_X4_isOdd_3 (N : Nat) (a1 : Int32) (k2 : jM → Option (Int32 × jM)) : Nat → Int32 → jM → Option (Int32 × jM)
  | 0, _, _ => none
  | q + 1, x6, s7 => if (5 : Int32) ≤ x6 then (k2 s7) else (Option.bind (f_X5_sumBrought N a1 x6 s7) fun r10 => gd (ib x6 5) <| lt_ (pI s7 34 (Int32.toNatClampNeg x6) r10) fun s11 => lt_ (x6 + (1 : Int32)) fun x12 => lp_X4_isOdd_3 N a1 k2 q x12 s11)
def f_X4_isOdd (N : Nat) (a1 : Int32) (a2 : Int32) (a3 : Int32) (s0 : jM) : Option (Int32 × jM) := jn_ (fun (s1 : jM) => gd (ib (0 : Int32) 5) <| gd (ib (0 : Int32) 5) <| lt_ (pI s1 34 (Int32.toNatClampNeg (0 : Int32)) ((gI s1 34 (Int32.toNatClampNeg (0 : Int32))) + a2)) fun s3 => Option.bind (f_X6_value N a3 s3) fun r4 => if (r4.1 &&& (1 : Int64)) = (0 : Int64) then (some ((0 : Int32), r4.2)) else (some ((1 : Int32), r4.2))) fun k2 => lp_X4_isOdd_3 N a1 k2 N (0 : Int32) s0
set_option maxRecDepth 100000 in
set_option maxHeartbeats 4000000 in
theorem lp_X4_isOdd_3_ok (l : Launch) (N : Nat)  (a1 : Int32) (k2 : jM → Option (Int32 × jM)) (a2 : Int32) (a3 : Int32) (hk2 : ∀ (s1 : jM), J l RX4 cX4_isOdd 5 (Option.some Jvm.ClassFile.FieldType.boolean) false (rmD (6) 0 0) noCx (eIM SH) SH 0 0 s1 32 [some (.ref 33), none, some (.int a2), some (.int a3), none] [] (k2 s1)) : ∀ (q : Nat) (x6 : Int32) (s7 : jM), J l RX4 cX4_isOdd 5 (Option.some Jvm.ClassFile.FieldType.boolean) false (rmD (6) 0 0) noCx (eIM SH) SH 0 0 s7 3 [some (.ref 33), some (.int a1), some (.int a2), some (.int a3), some (.int x6)] [] (lp_X4_isOdd_3 N a1 k2 q x6 s7) := by
  intro q
  induction q with
  | zero => intro x6 s7; exact J_none
  | succ q hrec8 =>
    intro x6 s7
    rw [lp_X4_isOdd_3]
    refine J_iload (i := 4) dX4_isOdd_3 rfl ?_
    refine J_iconst (v := (5 : Int32)) dX4_isOdd_5 (by decide) ?_
    refine J_icmp_ge (tgt := 32) dX4_isOdd_6 (by decide) (fun c9 => ?_) (fun c9 => ?_)
    · refine J_sub (l1 := [some (.ref 33), none, some (.int a2), some (.int a3), none]) ⟨rfl, ⟨rfl, ⟨rfl, trivial⟩⟩⟩ ?_
      exact hk2 s7
    · refine J_aload_n (i := 0) dX4_isOdd_9 rfl rfl ?_
      refine J_getR dX4_isOdd_10 fl_RX4_9 sh_33_2 ?_
      refine J_iload (i := 4) dX4_isOdd_13 rfl ?_
      refine J_aload_n (i := 0) dX4_isOdd_15 rfl rfl ?_
      refine J_getR dX4_isOdd_16 fl_RX4_26 sh_33_0 ?_
      refine J_iload_n (i := 1) dX4_isOdd_19 rfl rfl ?_
      refine J_iload (i := 4) dX4_isOdd_20 rfl ?_
      refine J_callVI 1 [.int a1, .int x6] dX4_isOdd_22 ca_X5_sumBrought lk_RX4_51 vi_X5_sumBrought rc_1 rfl rfl ⟨by show _ ≤ _; simp only [rmD]; omega, by show _ ≤ _; simp only [rmD]; omega⟩ (Nat.le_of_ble_eq_true rfl) ⟨Nat.zero_le _, Nat.zero_le _⟩ (con_X5_sumBrought l N _ _ _) (fun r10 _ => ?_)
      refine J_iast dX4_isOdd_25 sa_34 ?_
      refine J_letM rfl (fun s11 => ?_)
      refine J_iincN (i := 4) (v := x6 + (1 : Int32)) (LS := fun x12 => [some (.ref 33), some (.int a1), some (.int a2), some (.int a3), some (.int x12)]) dX4_isOdd_26 rfl (by first | rfl | decide) (fun _ => rfl) (by decide) (fun x12 => ?_)
      refine J_goto (tgt := 3) dX4_isOdd_29 (by decide) ?_
      refine J_sub (l1 := [some (.ref 33), some (.int a1), some (.int a2), some (.int a3), some (.int x12)]) ⟨rfl, ⟨rfl, ⟨rfl, ⟨rfl, ⟨rfl, trivial⟩⟩⟩⟩⟩ ?_
      exact hrec8 x12 s11
set_option maxRecDepth 100000 in
set_option maxHeartbeats 4000000 in
theorem con_X4_isOdd (l : Launch) (N : Nat) (a1 : Int32) (a2 : Int32) (a3 : Int32) (s0 : jM) : Con l (6) yX4_isOdd cX4_isOdd 5 (Option.some Jvm.ClassFile.FieldType.boolean) (eIM SH) SH [.ref 33, .int a1, .int a2, .int a3] s0 (f_X4_isOdd N a1 a2 a3 s0) := by
  refine Con_of (ls0 := [some (.ref 33), some (.int a1), some (.int a2), some (.int a3), none]) (ini := false) (mc := 0) (ms := 0) (by decide +kernel) rfl (Nat.le_of_ble_eq_true rfl) (fun h => by cases h) (fun _ _ => rfl) ?_
  unfold f_X4_isOdd
  refine J_iconst (v := (0 : Int32)) dX4_isOdd_0 (by decide) ?_
  refine J_istore (i := 4) (ls2 := [some (.ref 33), some (.int a1), some (.int a2), some (.int a3), some (.int (0 : Int32))]) dX4_isOdd_1 rfl (by decide) ?_
  refine J_join (P := fun j => ∀ (s1 : jM), J l RX4 cX4_isOdd 5 (Option.some Jvm.ClassFile.FieldType.boolean) false (rmD (6) 0 0) noCx (eIM SH) SH 0 0 s1 32 [some (.ref 33), none, some (.int a2), some (.int a3), none] [] (j s1)) ?_ (fun k2 hk2 => ?_)
  · intro s1
    refine J_aload_n (i := 0) dX4_isOdd_32 rfl rfl ?_
    refine J_getR dX4_isOdd_33 fl_RX4_9 sh_33_2 ?_
    refine J_iconst (v := (0 : Int32)) dX4_isOdd_36 (by decide) ?_
    refine J_dup2_11 dX4_isOdd_37 rfl rfl ?_
    refine J_iald dX4_isOdd_38 sa_34 ?_
    refine J_iload_n (i := 2) dX4_isOdd_39 rfl rfl ?_
    refine J_iadd dX4_isOdd_40 ?_
    refine J_iast dX4_isOdd_41 sa_34 ?_
    refine J_letM rfl (fun s3 => ?_)
    refine J_aload_n (i := 0) dX4_isOdd_42 rfl rfl ?_
    refine J_getR dX4_isOdd_43 fl_RX4_30 sh_33_1 ?_
    refine J_aload_n (i := 0) dX4_isOdd_46 rfl rfl ?_
    refine J_getR dX4_isOdd_47 fl_RX4_9 sh_33_2 ?_
    refine J_iload_n (i := 3) dX4_isOdd_50 rfl rfl ?_
    refine J_callVLM 29 [.ref 34, .int a3] dX4_isOdd_51 ca_X6_value lk_RX4_57 vi_X6_value rc_29 rfl rfl ⟨by show _ ≤ _; simp only [rmD]; omega, by show _ ≤ _; simp only [rmD]; omega⟩ (Nat.le_of_ble_eq_true rfl) ⟨Nat.zero_le _, Nat.zero_le _⟩ (con_X6_value l N _ _) (fun r4 _ => ?_)
    refine J_lconst (v := (1 : Int64)) dX4_isOdd_54 (by decide) ?_
    refine J_land dX4_isOdd_55 ?_
    refine J_lconst (v := (0 : Int64)) dX4_isOdd_56 (by decide) ?_
    refine J_lcmp_eq (tgt := 65) dX4_isOdd_57 dX4_isOdd_58 (by decide) (fun c5 => ?_) (fun c5 => ?_)
    · refine J_iconst (v := (0 : Int32)) dX4_isOdd_65 (by decide) ?_
      exact J_ireturn dX4_isOdd_66 rfl rfl rfl
    · refine J_iconst (v := (1 : Int32)) dX4_isOdd_61 (by decide) ?_
      refine J_goto (tgt := 66) dX4_isOdd_62 (by decide) ?_
      exact J_ireturn dX4_isOdd_66 rfl rfl rfl
  refine J_sub (l1 := [some (.ref 33), some (.int a1), some (.int a2), some (.int a3), some (.int (0 : Int32))]) ⟨rfl, ⟨rfl, ⟨rfl, ⟨rfl, ⟨rfl, trivial⟩⟩⟩⟩⟩ ?_
  exact lp_X4_isOdd_3_ok l N  a1 k2 a2 a3 hk2 N (0 : Int32) s0

def f_X4_isWell (N : Nat) (a1 : Int32) (a2 : Int32) (s0 : jM) : Option (Int32 × jM) := if a1 = 0 then (some ((1 : Int32), s0)) else (jn_ (fun (s2 : jM) => jn_ (fun (x4 : Int32) => lt_ ((x4 * (256 : Int32)) + a1) fun x6 => lt_ (x6 >>> ((6 : Int32) &&& 31)) fun x7 => if x7 < 0 then (some ((0 : Int32), s2)) else (if x7 < (800 : Int32) then (jn_ (fun (y10 : Int64) (s11 : jM) => gd (ib x7 800) <| if ((gL s11 36 (Int32.toNatClampNeg x7)) &&& y10) = (0 : Int64) then (some ((0 : Int32), s11)) else (some ((1 : Int32), s11))) fun j12 => lt_ ((1 : Int64) <<< (Int32.toInt64 (x6 &&& (63 : Int32)) &&& 63)) fun y14 => gd (ib x7 800) <| if ((gL s2 35 (Int32.toNatClampNeg x7)) &&& y14) = (0 : Int64) then (jn_ (fun (x16 : Int32) (y17 : Int64) (s18 : jM) => gd (ib x16 800) <| lt_ (pL s18 36 (Int32.toNatClampNeg x16) y17) fun s20 => j12 y14 s20) fun j19 => gd (ib x7 800) <| gd (ib x7 800) <| lt_ (pL s2 35 (Int32.toNatClampNeg x7) ((gL s2 35 (Int32.toNatClampNeg x7)) ||| y14)) fun s21 => Option.bind (f_X4_isOdd N a1 (0 : Int32) a2 s21) fun r22 => if r22.1 = 0 then (gd (ib x7 800) <| j19 x7 ((gL r22.2 36 (Int32.toNatClampNeg x7)) &&& (y14 ^^^ (-1 : Int64))) r22.2) else (gd (ib x7 800) <| j19 x7 ((gL r22.2 36 (Int32.toNatClampNeg x7)) ||| y14) r22.2)) else (j12 y14 s2)) else (some ((0 : Int32), s2)))) fun j5 => if (gI s2 29 8) = 0 then (j5 (0 : Int32)) else (j5 a2)) fun j3 => if (gI s0 33 5) = 0 then (j3 s0) else (Option.bind (f_J7_fill_d0a16 N 35 800 (0 : Int64) s0) fun r26 => lt_ (pI r26 33 5 (0 : Int32)) fun s27 => j3 s27))
set_option maxRecDepth 100000 in
set_option maxHeartbeats 4000000 in
theorem con_X4_isWell (l : Launch) (N : Nat) (a1 : Int32) (a2 : Int32) (s0 : jM) : Con l (7) yX4_isWell cX4_isWell 7 (Option.some Jvm.ClassFile.FieldType.boolean) (eIM SH) SH [.ref 33, .int a1, .int a2] s0 (f_X4_isWell N a1 a2 s0) := by
  refine Con_of (ls0 := [some (.ref 33), some (.int a1), some (.int a2), none, none, none, none]) (ini := false) (mc := 0) (ms := 0) (by decide +kernel) rfl (Nat.le_of_ble_eq_true rfl) (fun h => by cases h) (fun _ _ => rfl) ?_
  unfold f_X4_isWell
  refine J_iload_n (i := 1) dX4_isWell_0 rfl rfl ?_
  refine J_if_ne (tgt := 6) dX4_isWell_1 (by decide) (fun c1 => ?_) (fun c1 => ?_)
  · refine J_join (P := fun j => ∀ (s2 : jM), J l RX4 cX4_isWell 7 (Option.some Jvm.ClassFile.FieldType.boolean) false (rmD (7) 0 0) noCx (eIM SH) SH 0 0 s2 26 [some (.ref 33), some (.int a1), some (.int a2), none, none, none, none] [] (j s2)) ?_ (fun j3 hj3 => ?_)
    · intro s2
      refine J_join (P := fun j => ∀ (x4 : Int32), J l RX4 cX4_isWell 7 (Option.some Jvm.ClassFile.FieldType.boolean) false (rmD (7) 0 0) noCx (eIM SH) SH 0 0 s2 41 [some (.ref 33), some (.int a1), some (.int a2), none, none, none, none] [.int x4] (j x4)) ?_ (fun j5 hj5 => ?_)
      · intro x4
        refine J_sipush (v := (256 : Int32)) dX4_isWell_41 (by decide) ?_
        refine J_imul dX4_isWell_44 ?_
        refine J_iload_n (i := 1) dX4_isWell_45 rfl rfl ?_
        refine J_iadd dX4_isWell_46 ?_
        refine J_istore_nN (i := 3) (LS := fun x6 => [some (.ref 33), some (.int a1), some (.int a2), some (.int x6), none, none, none]) dX4_isWell_47 rfl (fun _ => rfl) (by decide) (fun x6 => ?_)
        refine J_iload_n (i := 3) dX4_isWell_48 rfl rfl ?_
        refine J_bipush (v := (6 : Int32)) dX4_isWell_49 (by decide) ?_
        refine J_ishr dX4_isWell_51 ?_
        refine J_istoreN (i := 4) (LS := fun x7 => [some (.ref 33), some (.int a1), some (.int a2), some (.int x6), some (.int x7), none, none]) dX4_isWell_52 (fun _ => rfl) (by decide) (fun x7 => ?_)
        refine J_iload (i := 4) dX4_isWell_54 rfl ?_
        refine J_if_lt (tgt := 67) dX4_isWell_56 (by decide) (fun c8 => ?_) (fun c8 => ?_)
        · refine J_iconst (v := (0 : Int32)) dX4_isWell_67 (by decide) ?_
          exact J_ireturn dX4_isWell_68 rfl rfl rfl
        · refine J_iload (i := 4) dX4_isWell_59 rfl ?_
          refine J_sipush (v := (800 : Int32)) dX4_isWell_61 (by decide) ?_
          refine J_icmp_lt (tgt := 69) dX4_isWell_64 (by decide) (fun c9 => ?_) (fun c9 => ?_)
          · refine J_join (P := fun j => ∀ (y10 : Int64) (s11 : jM), J l RX4 cX4_isWell 7 (Option.some Jvm.ClassFile.FieldType.boolean) false (rmD (7) 0 0) noCx (eIM SH) SH 0 0 s11 148 [some (.ref 33), none, none, none, some (.int x7), some (.long y10), none] [] (j y10 s11)) ?_ (fun j12 hj12 => ?_)
            · intro y10 s11
              refine J_aload_n (i := 0) dX4_isWell_148 rfl rfl ?_
              refine J_getR dX4_isWell_149 fl_RX4_19 sh_33_4 ?_
              refine J_iload (i := 4) dX4_isWell_152 rfl ?_
              refine J_lald dX4_isWell_154 sa_36 ?_
              refine J_lload (i := 5) dX4_isWell_155 rfl ?_
              refine J_land dX4_isWell_157 ?_
              refine J_lconst (v := (0 : Int64)) dX4_isWell_158 (by decide) ?_
              refine J_lcmp_eq (tgt := 167) dX4_isWell_159 dX4_isWell_160 (by decide) (fun c13 => ?_) (fun c13 => ?_)
              · refine J_iconst (v := (0 : Int32)) dX4_isWell_167 (by decide) ?_
                exact J_ireturn dX4_isWell_168 rfl rfl rfl
              · refine J_iconst (v := (1 : Int32)) dX4_isWell_163 (by decide) ?_
                refine J_goto (tgt := 168) dX4_isWell_164 (by decide) ?_
                exact J_ireturn dX4_isWell_168 rfl rfl rfl
            refine J_lconst (v := (1 : Int64)) dX4_isWell_69 (by decide) ?_
            refine J_iload_n (i := 3) dX4_isWell_70 rfl rfl ?_
            refine J_bipush (v := (63 : Int32)) dX4_isWell_71 (by decide) ?_
            refine J_iand dX4_isWell_73 ?_
            refine J_lshl dX4_isWell_74 ?_
            refine J_lstoreN (i := 5) (LS := fun y14 => [some (.ref 33), some (.int a1), some (.int a2), some (.int x6), some (.int x7), some (.long y14), none]) dX4_isWell_75 (fun _ => rfl) (by decide) (fun y14 => ?_)
            refine J_aload_n (i := 0) dX4_isWell_77 rfl rfl ?_
            refine J_getR dX4_isWell_78 fl_RX4_15 sh_33_3 ?_
            refine J_iload (i := 4) dX4_isWell_81 rfl ?_
            refine J_lald dX4_isWell_83 sa_35 ?_
            refine J_lload (i := 5) dX4_isWell_84 rfl ?_
            refine J_land dX4_isWell_86 ?_
            refine J_lconst (v := (0 : Int64)) dX4_isWell_87 (by decide) ?_
            refine J_lcmp_ne (tgt := 148) dX4_isWell_88 dX4_isWell_89 (by decide) (fun c15 => ?_) (fun c15 => ?_)
            · refine J_sub (l1 := [some (.ref 33), none, none, none, some (.int x7), some (.long y14), none]) ⟨rfl, ⟨rfl, ⟨rfl, trivial⟩⟩⟩ ?_
              exact hj12 y14 s2
            · refine J_join (P := fun j => ∀ (x16 : Int32) (y17 : Int64) (s18 : jM), J l RX4 cX4_isWell 7 (Option.some Jvm.ClassFile.FieldType.boolean) false (rmD (7) 0 0) noCx (eIM SH) SH 0 0 s18 147 [some (.ref 33), none, none, none, some (.int x7), some (.long y14), none] [.long y17, .int x16, .ref 36] (j x16 y17 s18)) ?_ (fun j19 hj19 => ?_)
              · intro x16 y17 s18
                refine J_last dX4_isWell_147 sa_36 ?_
                refine J_letM rfl (fun s20 => ?_)
                refine J_sub (l1 := [some (.ref 33), none, none, none, some (.int x7), some (.long y14), none]) ⟨rfl, ⟨rfl, ⟨rfl, trivial⟩⟩⟩ ?_
                exact hj12 y14 s20
              refine J_aload_n (i := 0) dX4_isWell_92 rfl rfl ?_
              refine J_getR dX4_isWell_93 fl_RX4_15 sh_33_3 ?_
              refine J_iload (i := 4) dX4_isWell_96 rfl ?_
              refine J_dup2_11 dX4_isWell_98 rfl rfl ?_
              refine J_lald dX4_isWell_99 sa_35 ?_
              refine J_lload (i := 5) dX4_isWell_100 rfl ?_
              refine J_lor dX4_isWell_102 ?_
              refine J_last dX4_isWell_103 sa_35 ?_
              refine J_letM rfl (fun s21 => ?_)
              refine J_aload_n (i := 0) dX4_isWell_104 rfl rfl ?_
              refine J_getR dX4_isWell_105 fl_RX4_19 sh_33_4 ?_
              refine J_iload (i := 4) dX4_isWell_108 rfl ?_
              refine J_aload_n (i := 0) dX4_isWell_110 rfl rfl ?_
              refine J_iload_n (i := 1) dX4_isWell_111 rfl rfl ?_
              refine J_iconst (v := (0 : Int32)) dX4_isWell_112 (by decide) ?_
              refine J_iload_n (i := 2) dX4_isWell_113 rfl rfl ?_
              refine J_callVIM 33 [.int a1, .int (0 : Int32), .int a2] dX4_isWell_114 ca_X4_isOdd lk_RX4_45 vi_X4_isOdd rc_33 rfl rfl ⟨by show _ ≤ _; simp only [rmD]; omega, by show _ ≤ _; simp only [rmD]; omega⟩ (Nat.le_of_ble_eq_true rfl) ⟨Nat.zero_le _, Nat.zero_le _⟩ (con_X4_isOdd l N _ _ _ _) (fun r22 _ => ?_)
              refine J_if_eq (tgt := 133) dX4_isWell_117 (by decide) (fun c23 => ?_) (fun c23 => ?_)
              · refine J_aload_n (i := 0) dX4_isWell_133 rfl rfl ?_
                refine J_getR dX4_isWell_134 fl_RX4_19 sh_33_4 ?_
                refine J_iload (i := 4) dX4_isWell_137 rfl ?_
                refine J_lald dX4_isWell_139 sa_36 ?_
                refine J_lload (i := 5) dX4_isWell_140 rfl ?_
                refine J_ldc2 (v := (-1 : Int64)) dX4_isWell_142 kw_RX4_49 ?_
                refine J_lxor dX4_isWell_145 ?_
                refine J_land dX4_isWell_146 ?_
                refine J_sub (l1 := [some (.ref 33), none, none, none, some (.int x7), some (.long y14), none]) ⟨rfl, ⟨rfl, ⟨rfl, trivial⟩⟩⟩ ?_
                exact hj19 x7 ((gL r22.2 36 (Int32.toNatClampNeg x7)) &&& (y14 ^^^ (-1 : Int64))) r22.2
              · refine J_aload_n (i := 0) dX4_isWell_120 rfl rfl ?_
                refine J_getR dX4_isWell_121 fl_RX4_19 sh_33_4 ?_
                refine J_iload (i := 4) dX4_isWell_124 rfl ?_
                refine J_lald dX4_isWell_126 sa_36 ?_
                refine J_lload (i := 5) dX4_isWell_127 rfl ?_
                refine J_lor dX4_isWell_129 ?_
                refine J_goto (tgt := 147) dX4_isWell_130 (by decide) ?_
                refine J_sub (l1 := [some (.ref 33), none, none, none, some (.int x7), some (.long y14), none]) ⟨rfl, ⟨rfl, ⟨rfl, trivial⟩⟩⟩ ?_
                exact hj19 x7 ((gL r22.2 36 (Int32.toNatClampNeg x7)) ||| y14) r22.2
          · refine J_iconst (v := (0 : Int32)) dX4_isWell_67 (by decide) ?_
            exact J_ireturn dX4_isWell_68 rfl rfl rfl
      refine J_aload_n (i := 0) dX4_isWell_26 rfl rfl ?_
      refine J_getR dX4_isWell_27 fl_RX4_30 sh_33_1 ?_
      refine J_getI dX4_isWell_30 fl_RX4_40 sh_29_8 ?_
      refine J_if_eq (tgt := 40) dX4_isWell_33 (by decide) (fun c24 => ?_) (fun c24 => ?_)
      · refine J_iconst (v := (0 : Int32)) dX4_isWell_40 (by decide) ?_
        refine J_sub (l1 := [some (.ref 33), some (.int a1), some (.int a2), none, none, none, none]) ⟨rfl, ⟨rfl, ⟨rfl, trivial⟩⟩⟩ ?_
        exact hj5 (0 : Int32)
      · refine J_iload_n (i := 2) dX4_isWell_36 rfl rfl ?_
        refine J_goto (tgt := 41) dX4_isWell_37 (by decide) ?_
        refine J_sub (l1 := [some (.ref 33), some (.int a1), some (.int a2), none, none, none, none]) ⟨rfl, ⟨rfl, ⟨rfl, trivial⟩⟩⟩ ?_
        exact hj5 a2
    refine J_aload_n (i := 0) dX4_isWell_6 rfl rfl ?_
    refine J_getI dX4_isWell_7 fl_RX4_22 sh_33_5 ?_
    refine J_if_eq (tgt := 26) dX4_isWell_10 (by decide) (fun c25 => ?_) (fun c25 => ?_)
    · refine J_sub (l1 := [some (.ref 33), some (.int a1), some (.int a2), none, none, none, none]) ⟨rfl, ⟨rfl, ⟨rfl, trivial⟩⟩⟩ ?_
      exact hj3 s0
    · refine J_aload_n (i := 0) dX4_isWell_13 rfl rfl ?_
      refine J_getR dX4_isWell_14 fl_RX4_15 sh_33_3 ?_
      refine J_lconst (v := (0 : Int64)) dX4_isWell_17 (by decide) ?_
      refine J_callSV [.ref 35, .long (0 : Int64)] dX4_isWell_18 ca_J7_fill_d0a16 lk_RX4_34 st_J7_fill_d0a16 rfl rfl ⟨by show _ ≤ _; simp only [rmD]; omega, by show _ ≤ _; simp only [rmD]; omega⟩ (Nat.le_of_ble_eq_true rfl) ⟨Nat.zero_le _, Nat.zero_le _⟩ (con_J7_fill_d0a16 l N 35 800 sa_35 _ _) (fun r26 _ => ?_)
      refine J_aload_n (i := 0) dX4_isWell_21 rfl rfl ?_
      refine J_iconst (v := (0 : Int32)) dX4_isWell_22 (by decide) ?_
      refine J_putI dX4_isWell_23 fp_RX4_22 (fun h => by first | rfl | cases h) sh_33_5 rfl rfl ?_
      refine J_letM rfl (fun s27 => ?_)
      refine J_sub (l1 := [some (.ref 33), some (.int a1), some (.int a2), none, none, none, none]) ⟨rfl, ⟨rfl, ⟨rfl, trivial⟩⟩⟩ ?_
      exact hj3 s27
  · refine J_iconst (v := (1 : Int32)) dX4_isWell_4 (by decide) ?_
    exact J_ireturn dX4_isWell_5 rfl rfl rfl

def f_X7_well (N : Nat) (a1 : Int32) (a2 : Int32) (s0 : jM) : Option (Int32 × jM) := jn_ (fun (_ : Unit) => Option.bind (f_X7_refuseAsBad s0) fun r2 => some (r2.1, r2.2)) fun j1 => Option.bind (f_X7_isSetOf a1 (gI s0 1 4)) fun r3 => if r3 = 0 then (j1 ()) else (Option.bind (f_X7_isWithin a2 (0 : Int32) (199 : Int32)) fun r5 => if r5 = 0 then (j1 ()) else (Option.bind (f_X4_isWell N a1 a2 s0) fun r7 => if r7.1 = 0 then (some ((0 : Int32), r7.2)) else (some ((1 : Int32), r7.2))))
set_option maxRecDepth 100000 in
set_option maxHeartbeats 4000000 in
theorem con_X7_well (l : Launch) (N : Nat) (a1 : Int32) (a2 : Int32) (s0 : jM) : Con l (8) yX7_well cX7_well 3 (Option.some Jvm.ClassFile.FieldType.int) (eIM SH) SH [.ref 0, .int a1, .int a2] s0 (f_X7_well N a1 a2 s0) := by
  refine Con_of (ls0 := [some (.ref 0), some (.int a1), some (.int a2)]) (ini := false) (mc := 0) (ms := 0) (by decide +kernel) rfl (Nat.le_of_ble_eq_true rfl) (fun h => by cases h) (fun _ _ => rfl) ?_
  unfold f_X7_well
  refine J_join (P := fun j => ∀ (_ : Unit), J l RX7 cX7_well 3 (Option.some Jvm.ClassFile.FieldType.int) false (rmD (8) 0 0) noCx (eIM SH) SH 0 0 s0 25 [some (.ref 0), none, none] [] (j ())) ?_ (fun j1 hj1 => ?_)
  · intro _
    refine J_aload_n (i := 0) dX7_well_25 rfl rfl ?_
    refine J_callVIM 0 [] dX7_well_26 ca_X7_refuseAsBad lk_RX7_86 vi_X7_refuseAsBad rc_0 rfl rfl ⟨by show _ ≤ _; simp only [rmD]; omega, by show _ ≤ _; simp only [rmD]; omega⟩ (Nat.le_of_ble_eq_true rfl) ⟨Nat.zero_le _, Nat.zero_le _⟩ (con_X7_refuseAsBad l _) (fun r2 _ => ?_)
    exact J_ireturn dX7_well_29 rfl rfl rfl
  refine J_iload_n (i := 1) dX7_well_0 rfl rfl ?_
  refine J_aload_n (i := 0) dX7_well_1 rfl rfl ?_
  refine J_getR dX7_well_2 fl_RX7_10 sh_0_0 ?_
  refine J_getI dX7_well_5 fl_RX7_90 sh_1_4 ?_
  refine J_callSI [.int a1, .int (gI s0 1 4)] dX7_well_8 ca_X7_isSetOf lk_RX7_128 st_X7_isSetOf rfl rfl ⟨by show _ ≤ _; simp only [rmD]; omega, by show _ ≤ _; simp only [rmD]; omega⟩ (Nat.le_of_ble_eq_true rfl) ⟨Nat.zero_le _, Nat.zero_le _⟩ (con_X7_isSetOf l _ _ _) (fun r3 _ => ?_)
  refine J_if_eq (tgt := 25) dX7_well_11 (by decide) (fun c4 => ?_) (fun c4 => ?_)
  · refine J_sub (l1 := [some (.ref 0), none, none]) ⟨rfl, trivial⟩ ?_
    exact hj1 ()
  · refine J_iload_n (i := 2) dX7_well_14 rfl rfl ?_
    refine J_iconst (v := (0 : Int32)) dX7_well_15 (by decide) ?_
    refine J_sipush (v := (199 : Int32)) dX7_well_16 (by decide) ?_
    refine J_callSI [.int a2, .int (0 : Int32), .int (199 : Int32)] dX7_well_19 ca_X7_isWithin lk_RX7_82 st_X7_isWithin rfl rfl ⟨by show _ ≤ _; simp only [rmD]; omega, by show _ ≤ _; simp only [rmD]; omega⟩ (Nat.le_of_ble_eq_true rfl) ⟨Nat.zero_le _, Nat.zero_le _⟩ (con_X7_isWithin l _ _ _ _) (fun r5 _ => ?_)
    refine J_if_ne (tgt := 30) dX7_well_22 (by decide) (fun c6 => ?_) (fun c6 => ?_)
    · refine J_aload_n (i := 0) dX7_well_30 rfl rfl ?_
      refine J_getR dX7_well_31 fl_RX7_40 sh_0_5 ?_
      refine J_iload_n (i := 1) dX7_well_34 rfl rfl ?_
      refine J_iload_n (i := 2) dX7_well_35 rfl rfl ?_
      refine J_callVIM 33 [.int a1, .int a2] dX7_well_36 ca_X4_isWell lk_RX7_136 vi_X4_isWell rc_33 rfl rfl ⟨by show _ ≤ _; simp only [rmD]; omega, by show _ ≤ _; simp only [rmD]; omega⟩ (Nat.le_of_ble_eq_true rfl) ⟨Nat.zero_le _, Nat.zero_le _⟩ (con_X4_isWell l N _ _ _) (fun r7 _ => ?_)
      refine J_if_eq (tgt := 46) dX7_well_39 (by decide) (fun c8 => ?_) (fun c8 => ?_)
      · refine J_iconst (v := (0 : Int32)) dX7_well_46 (by decide) ?_
        exact J_ireturn dX7_well_47 rfl rfl rfl
      · refine J_iconst (v := (1 : Int32)) dX7_well_42 (by decide) ?_
        refine J_goto (tgt := 47) dX7_well_43 (by decide) ?_
        exact J_ireturn dX7_well_47 rfl rfl rfl
    · refine J_sub (l1 := [some (.ref 0), none, none]) ⟨rfl, trivial⟩ ?_
      exact hj1 ()

def lp_J7_fill_53178_5 (N : Nat) (b0 : Nat) (n0 : Nat) (a1 : Int32) (x1 : Int32) : Nat → Int32 → jM → Option jM
  | 0, _, _ => none
  | q + 1, x2, s3 => if x1 ≤ x2 then (some s3) else (gd (ib x2 n0) <| lt_ (pI s3 b0 (Int32.toNatClampNeg x2) a1) fun s6 => lt_ (x2 + (1 : Int32)) fun x7 => lp_J7_fill_53178_5 N b0 n0 a1 x1 q x7 s6)
def f_J7_fill_53178 (N : Nat) (b0 : Nat) (n0 : Nat) (a1 : Int32) (s0 : jM) : Option jM := lt_ (Int32.ofNat n0) fun x1 => lp_J7_fill_53178_5 N b0 n0 a1 x1 N (0 : Int32) s0
set_option maxRecDepth 100000 in
set_option maxHeartbeats 4000000 in
theorem lp_J7_fill_53178_5_ok (l : Launch) (N : Nat) (b0 n0 : Nat) (ha_b0 : shA SH b0 = some (.int, n0))  (a1 : Int32) (x1 : Int32)  : ∀ (q : Nat) (x2 : Int32) (s3 : jM), J l RJ7 cJ7_fill_53178 4 (Option.none : Option Jvm.ClassFile.FieldType) false (rmD (1) 0 0) noCx (eV SH) SH 0 0 s3 5 [some (.ref b0), some (.int a1), some (.int x2), some (.int x1)] [] (lp_J7_fill_53178_5 N b0 n0 a1 x1 q x2 s3) := by
  intro q
  induction q with
  | zero => intro x2 s3; exact J_none
  | succ q hrec4 =>
    intro x2 s3
    rw [lp_J7_fill_53178_5]
    refine J_iload_n (i := 2) dJ7_fill_53178_5 rfl rfl ?_
    refine J_iload_n (i := 3) dJ7_fill_53178_6 rfl rfl ?_
    refine J_icmp_ge (tgt := 20) dJ7_fill_53178_7 (by decide) (fun c5 => ?_) (fun c5 => ?_)
    · exact J_return dJ7_fill_53178_20 rfl rfl
    · refine J_aload_n (i := 0) dJ7_fill_53178_10 rfl rfl ?_
      refine J_iload_n (i := 2) dJ7_fill_53178_11 rfl rfl ?_
      refine J_iload_n (i := 1) dJ7_fill_53178_12 rfl rfl ?_
      refine J_iast dJ7_fill_53178_13 ha_b0 ?_
      refine J_letM rfl (fun s6 => ?_)
      refine J_iincN (i := 2) (v := x2 + (1 : Int32)) (LS := fun x7 => [some (.ref b0), some (.int a1), some (.int x7), some (.int x1)]) dJ7_fill_53178_14 rfl (by first | rfl | decide) (fun _ => rfl) (by decide) (fun x7 => ?_)
      refine J_goto (tgt := 5) dJ7_fill_53178_17 (by decide) ?_
      refine J_sub (l1 := [some (.ref b0), some (.int a1), some (.int x7), some (.int x1)]) ⟨rfl, ⟨rfl, ⟨rfl, ⟨rfl, trivial⟩⟩⟩⟩ ?_
      exact hrec4 x7 s6
set_option maxRecDepth 100000 in
set_option maxHeartbeats 4000000 in
theorem con_J7_fill_53178 (l : Launch) (N : Nat) (b0 n0 : Nat) (ha_b0 : shA SH b0 = some (.int, n0)) (a1 : Int32) (s0 : jM) : Con l (1) yJ7_fill_53178 cJ7_fill_53178 4 (Option.none : Option Jvm.ClassFile.FieldType) (eV SH) SH [.ref b0, .int a1] s0 (f_J7_fill_53178 N b0 n0 a1 s0) := by
  refine Con_of (ls0 := [some (.ref b0), some (.int a1), none, none]) (ini := false) (mc := 0) (ms := 0) (by decide +kernel) rfl (Nat.le_of_ble_eq_true rfl) (fun h => by cases h) (fun _ _ => rfl) ?_
  unfold f_J7_fill_53178
  refine J_iconst (v := (0 : Int32)) dJ7_fill_53178_0 (by decide) ?_
  refine J_istore_n (i := 2) (ls2 := [some (.ref b0), some (.int a1), some (.int (0 : Int32)), none]) dJ7_fill_53178_1 rfl rfl (by decide) ?_
  refine J_aload_n (i := 0) dJ7_fill_53178_2 rfl rfl ?_
  refine J_alen dJ7_fill_53178_3 ha_b0 ?_
  refine J_istore_nN (i := 3) (LS := fun x1 => [some (.ref b0), some (.int a1), some (.int (0 : Int32)), some (.int x1)]) dJ7_fill_53178_4 rfl (fun _ => rfl) (by decide) (fun x1 => ?_)
  refine J_sub (l1 := [some (.ref b0), some (.int a1), some (.int (0 : Int32)), some (.int x1)]) ⟨rfl, ⟨rfl, ⟨rfl, ⟨rfl, trivial⟩⟩⟩⟩ ?_
  exact lp_J7_fill_53178_5_ok l N b0 n0 ha_b0  a1 x1  N (0 : Int32) s0

def lp_X1_mayStep_4 (N : Nat) (s0 : jM) (a1 : Int32) (k2 : Int32 → Option Int32) : Nat → Int32 → Int32 → Option Int32
  | 0, _, _ => none
  | q + 1, x3, x4 => if (gI s0 1 4) ≤ x4 then (k2 x3) else (if (8 : Int32) ≤ x4 then (k2 x3) else (jn_ (fun (x8 : Int32) => jn_ (fun (x10 : Int32) (x11 : Int32) => jn_ (fun (x13 : Int32) => lt_ (x4 + (1 : Int32)) fun x15 => lp_X1_mayStep_4 N s0 a1 k2 q x13 x15) fun j14 => jn_ (fun (_ : Unit) => lt_ (x3 ||| ((1 : Int32) <<< (x4 &&& 31))) fun x17 => j14 x17) fun j16 => if x10 = 0 then (if x11 = 0 then (j14 x3) else (j16 ())) else (j16 ())) fun j12 => jn_ (fun (x20 : Int32) => j12 x20 (0 : Int32)) fun j21 => gd (ib x4 8) <| if (gI s0 39 (Int32.toNatClampNeg x4)) = (-1 : Int32) then (gd (ib x4 8) <| if a1 < (gI s0 4 (Int32.toNatClampNeg x4)) then (j21 x8) else (j12 x8 (1 : Int32))) else (j21 x8)) fun j9 => jn_ (fun (_ : Unit) => j9 (0 : Int32)) fun j24 => Option.bind (f_X7_holds (gI s0 37 5) x4) fun r25 => if r25 = 0 then (j24 ()) else (gd (ib x4 8) <| gd (ib x4 8) <| if (a1 - (gI s0 39 (Int32.toNatClampNeg x4))) < (gI s0 3 (Int32.toNatClampNeg x4)) then (j24 ()) else (j9 (1 : Int32)))))
def f_X1_mayStep (N : Nat) (a1 : Int32) (s0 : jM) : Option Int32 := jn_ (fun (x1 : Int32) => some x1) fun k2 => lp_X1_mayStep_4 N s0 a1 k2 N (0 : Int32) (0 : Int32)
set_option maxRecDepth 100000 in
set_option maxHeartbeats 4000000 in
theorem lp_X1_mayStep_4_ok (l : Launch) (N : Nat)  (s0 : jM) (a1 : Int32) (k2 : Int32 → Option Int32) (hk2 : ∀ (x1 : Int32), J l RX1 cX1_mayStep 6 (Option.some Jvm.ClassFile.FieldType.int) false (rmD (2) 0 0) noCx (eI SH s0) SH 0 0 s0 111 [none, none, some (.int x1), none, none, none] [] (k2 x1)) : ∀ (q : Nat) (x3 : Int32) (x4 : Int32), J l RX1 cX1_mayStep 6 (Option.some Jvm.ClassFile.FieldType.int) false (rmD (2) 0 0) noCx (eI SH s0) SH 0 0 s0 4 [some (.ref 37), some (.int a1), some (.int x3), some (.int x4), none, none] [] (lp_X1_mayStep_4 N s0 a1 k2 q x3 x4) := by
  intro q
  induction q with
  | zero => intro x3 x4; exact J_none
  | succ q hrec5 =>
    intro x3 x4
    rw [lp_X1_mayStep_4]
    refine J_iload_n (i := 3) dX1_mayStep_4 rfl rfl ?_
    refine J_aload_n (i := 0) dX1_mayStep_5 rfl rfl ?_
    refine J_getR dX1_mayStep_6 fl_RX1_25 sh_37_0 ?_
    refine J_getI dX1_mayStep_9 fl_RX1_74 sh_1_4 ?_
    refine J_icmp_ge (tgt := 111) dX1_mayStep_12 (by decide) (fun c6 => ?_) (fun c6 => ?_)
    · refine J_sub (l1 := [none, none, some (.int x3), none, none, none]) ⟨rfl, trivial⟩ ?_
      exact hk2 x3
    · refine J_iload_n (i := 3) dX1_mayStep_15 rfl rfl ?_
      refine J_bipush (v := (8 : Int32)) dX1_mayStep_16 (by decide) ?_
      refine J_icmp_ge (tgt := 111) dX1_mayStep_18 (by decide) (fun c7 => ?_) (fun c7 => ?_)
      · refine J_sub (l1 := [none, none, some (.int x3), none, none, none]) ⟨rfl, trivial⟩ ?_
        exact hk2 x3
      · refine J_join (P := fun j => ∀ (x8 : Int32), J l RX1 cX1_mayStep 6 (Option.some Jvm.ClassFile.FieldType.int) false (rmD (2) 0 0) noCx (eI SH s0) SH 0 0 s0 57 [some (.ref 37), some (.int a1), some (.int x3), some (.int x4), none, none] [.int x8] (j x8)) ?_ (fun j9 hj9 => ?_)
        · intro x8
          refine J_join (P := fun j => ∀ (x10 : Int32) (x11 : Int32), J l RX1 cX1_mayStep 6 (Option.some Jvm.ClassFile.FieldType.int) false (rmD (2) 0 0) noCx (eI SH s0) SH 0 0 s0 87 [some (.ref 37), some (.int a1), some (.int x3), some (.int x4), some (.int x10), none] [.int x11] (j x10 x11)) ?_ (fun j12 hj12 => ?_)
          · intro x10 x11
            refine J_join (P := fun j => ∀ (x13 : Int32), J l RX1 cX1_mayStep 6 (Option.some Jvm.ClassFile.FieldType.int) false (rmD (2) 0 0) noCx (eI SH s0) SH 0 0 s0 105 [some (.ref 37), some (.int a1), some (.int x13), some (.int x4), none, none] [] (j x13)) ?_ (fun j14 hj14 => ?_)
            · intro x13
              refine J_iincN (i := 3) (v := x4 + (1 : Int32)) (LS := fun x15 => [some (.ref 37), some (.int a1), some (.int x13), some (.int x15), none, none]) dX1_mayStep_105 rfl (by first | rfl | decide) (fun _ => rfl) (by decide) (fun x15 => ?_)
              refine J_goto (tgt := 4) dX1_mayStep_108 (by decide) ?_
              refine J_sub (l1 := [some (.ref 37), some (.int a1), some (.int x13), some (.int x15), none, none]) ⟨rfl, ⟨rfl, ⟨rfl, ⟨rfl, trivial⟩⟩⟩⟩ ?_
              exact hrec5 x13 x15
            refine J_join (P := fun j => ∀ (_ : Unit), J l RX1 cX1_mayStep 6 (Option.some Jvm.ClassFile.FieldType.int) false (rmD (2) 0 0) noCx (eI SH s0) SH 0 0 s0 99 [some (.ref 37), some (.int a1), some (.int x3), some (.int x4), none, none] [] (j ())) ?_ (fun j16 hj16 => ?_)
            · intro _
              refine J_iload_n (i := 2) dX1_mayStep_99 rfl rfl ?_
              refine J_iconst (v := (1 : Int32)) dX1_mayStep_100 (by decide) ?_
              refine J_iload_n (i := 3) dX1_mayStep_101 rfl rfl ?_
              refine J_ishl dX1_mayStep_102 ?_
              refine J_ior dX1_mayStep_103 ?_
              refine J_istore_nN (i := 2) (LS := fun x17 => [some (.ref 37), some (.int a1), some (.int x17), some (.int x4), none, none]) dX1_mayStep_104 rfl (fun _ => rfl) (by decide) (fun x17 => ?_)
              refine J_sub (l1 := [some (.ref 37), some (.int a1), some (.int x17), some (.int x4), none, none]) ⟨rfl, ⟨rfl, ⟨rfl, ⟨rfl, trivial⟩⟩⟩⟩ ?_
              exact hj14 x17
            refine J_istore (i := 5) (ls2 := [some (.ref 37), some (.int a1), some (.int x3), some (.int x4), some (.int x10), some (.int x11)]) dX1_mayStep_87 rfl (by decide) ?_
            refine J_iload (i := 4) dX1_mayStep_89 rfl ?_
            refine J_if_ne (tgt := 99) dX1_mayStep_91 (by decide) (fun c18 => ?_) (fun c18 => ?_)
            · refine J_sub (l1 := [some (.ref 37), some (.int a1), some (.int x3), some (.int x4), none, none]) ⟨rfl, ⟨rfl, ⟨rfl, ⟨rfl, trivial⟩⟩⟩⟩ ?_
              exact hj16 ()
            · refine J_iload (i := 5) dX1_mayStep_94 rfl ?_
              refine J_if_eq (tgt := 105) dX1_mayStep_96 (by decide) (fun c19 => ?_) (fun c19 => ?_)
              · refine J_sub (l1 := [some (.ref 37), some (.int a1), some (.int x3), some (.int x4), none, none]) ⟨rfl, ⟨rfl, ⟨rfl, ⟨rfl, trivial⟩⟩⟩⟩ ?_
                exact hj14 x3
              · refine J_sub (l1 := [some (.ref 37), some (.int a1), some (.int x3), some (.int x4), none, none]) ⟨rfl, ⟨rfl, ⟨rfl, ⟨rfl, trivial⟩⟩⟩⟩ ?_
                exact hj16 ()
          refine J_join (P := fun j => ∀ (x20 : Int32), J l RX1 cX1_mayStep 6 (Option.some Jvm.ClassFile.FieldType.int) false (rmD (2) 0 0) noCx (eI SH s0) SH 0 0 s0 86 [some (.ref 37), some (.int a1), some (.int x3), some (.int x4), some (.int x20), none] [] (j x20)) ?_ (fun j21 hj21 => ?_)
          · intro x20
            refine J_iconst (v := (0 : Int32)) dX1_mayStep_86 (by decide) ?_
            refine J_sub (l1 := [some (.ref 37), some (.int a1), some (.int x3), some (.int x4), some (.int x20), none]) ⟨rfl, ⟨rfl, ⟨rfl, ⟨rfl, ⟨rfl, trivial⟩⟩⟩⟩⟩ ?_
            exact hj12 x20 (0 : Int32)
          refine J_istore (i := 4) (ls2 := [some (.ref 37), some (.int a1), some (.int x3), some (.int x4), some (.int x8), none]) dX1_mayStep_57 rfl (by decide) ?_
          refine J_aload_n (i := 0) dX1_mayStep_59 rfl rfl ?_
          refine J_getR dX1_mayStep_60 fl_RX1_15 sh_37_3 ?_
          refine J_iload_n (i := 3) dX1_mayStep_63 rfl rfl ?_
          refine J_iald dX1_mayStep_64 sa_39 ?_
          refine J_iconst (v := (-1 : Int32)) dX1_mayStep_65 (by decide) ?_
          refine J_icmp_ne (tgt := 86) dX1_mayStep_66 (by decide) (fun c22 => ?_) (fun c22 => ?_)
          · refine J_sub (l1 := [some (.ref 37), some (.int a1), some (.int x3), some (.int x4), some (.int x8), none]) ⟨rfl, ⟨rfl, ⟨rfl, ⟨rfl, ⟨rfl, trivial⟩⟩⟩⟩⟩ ?_
            exact hj21 x8
          · refine J_aload_n (i := 0) dX1_mayStep_69 rfl rfl ?_
            refine J_getR dX1_mayStep_70 fl_RX1_25 sh_37_0 ?_
            refine J_getR dX1_mayStep_73 fl_RX1_85 sh_1_2 ?_
            refine J_iload_n (i := 3) dX1_mayStep_76 rfl rfl ?_
            refine J_iald dX1_mayStep_77 sa_4 ?_
            refine J_iload_n (i := 1) dX1_mayStep_78 rfl rfl ?_
            refine J_icmp_gt (tgt := 86) dX1_mayStep_79 (by decide) (fun c23 => ?_) (fun c23 => ?_)
            · refine J_sub (l1 := [some (.ref 37), some (.int a1), some (.int x3), some (.int x4), some (.int x8), none]) ⟨rfl, ⟨rfl, ⟨rfl, ⟨rfl, ⟨rfl, trivial⟩⟩⟩⟩⟩ ?_
              exact hj21 x8
            · refine J_iconst (v := (1 : Int32)) dX1_mayStep_82 (by decide) ?_
              refine J_goto (tgt := 87) dX1_mayStep_83 (by decide) ?_
              refine J_sub (l1 := [some (.ref 37), some (.int a1), some (.int x3), some (.int x4), some (.int x8), none]) ⟨rfl, ⟨rfl, ⟨rfl, ⟨rfl, ⟨rfl, trivial⟩⟩⟩⟩⟩ ?_
              exact hj12 x8 (1 : Int32)
        refine J_join (P := fun j => ∀ (_ : Unit), J l RX1 cX1_mayStep 6 (Option.some Jvm.ClassFile.FieldType.int) false (rmD (2) 0 0) noCx (eI SH s0) SH 0 0 s0 56 [some (.ref 37), some (.int a1), some (.int x3), some (.int x4), none, none] [] (j ())) ?_ (fun j24 hj24 => ?_)
        · intro _
          refine J_iconst (v := (0 : Int32)) dX1_mayStep_56 (by decide) ?_
          refine J_sub (l1 := [some (.ref 37), some (.int a1), some (.int x3), some (.int x4), none, none]) ⟨rfl, ⟨rfl, ⟨rfl, ⟨rfl, trivial⟩⟩⟩⟩ ?_
          exact hj9 (0 : Int32)
        refine J_aload_n (i := 0) dX1_mayStep_21 rfl rfl ?_
        refine J_getI dX1_mayStep_22 fl_RX1_33 sh_37_5 ?_
        refine J_iload_n (i := 3) dX1_mayStep_25 rfl rfl ?_
        refine J_callSI [.int (gI s0 37 5), .int x4] dX1_mayStep_26 ca_X7_holds lk_RX1_79 st_X7_holds rfl rfl ⟨by show _ ≤ _; simp only [rmD]; omega, by show _ ≤ _; simp only [rmD]; omega⟩ (Nat.le_of_ble_eq_true rfl) ⟨Nat.zero_le _, Nat.zero_le _⟩ (con_X7_holds l _ _ _) (fun r25 _ => ?_)
        refine J_if_eq (tgt := 56) dX1_mayStep_29 (by decide) (fun c26 => ?_) (fun c26 => ?_)
        · refine J_sub (l1 := [some (.ref 37), some (.int a1), some (.int x3), some (.int x4), none, none]) ⟨rfl, ⟨rfl, ⟨rfl, ⟨rfl, trivial⟩⟩⟩⟩ ?_
          exact hj24 ()
        · refine J_iload_n (i := 1) dX1_mayStep_32 rfl rfl ?_
          refine J_aload_n (i := 0) dX1_mayStep_33 rfl rfl ?_
          refine J_getR dX1_mayStep_34 fl_RX1_15 sh_37_3 ?_
          refine J_iload_n (i := 3) dX1_mayStep_37 rfl rfl ?_
          refine J_iald dX1_mayStep_38 sa_39 ?_
          refine J_isub dX1_mayStep_39 ?_
          refine J_aload_n (i := 0) dX1_mayStep_40 rfl rfl ?_
          refine J_getR dX1_mayStep_41 fl_RX1_25 sh_37_0 ?_
          refine J_getR dX1_mayStep_44 fl_RX1_82 sh_1_1 ?_
          refine J_iload_n (i := 3) dX1_mayStep_47 rfl rfl ?_
          refine J_iald dX1_mayStep_48 sa_3 ?_
          refine J_icmp_lt (tgt := 56) dX1_mayStep_49 (by decide) (fun c27 => ?_) (fun c27 => ?_)
          · refine J_sub (l1 := [some (.ref 37), some (.int a1), some (.int x3), some (.int x4), none, none]) ⟨rfl, ⟨rfl, ⟨rfl, ⟨rfl, trivial⟩⟩⟩⟩ ?_
            exact hj24 ()
          · refine J_iconst (v := (1 : Int32)) dX1_mayStep_52 (by decide) ?_
            refine J_goto (tgt := 57) dX1_mayStep_53 (by decide) ?_
            refine J_sub (l1 := [some (.ref 37), some (.int a1), some (.int x3), some (.int x4), none, none]) ⟨rfl, ⟨rfl, ⟨rfl, ⟨rfl, trivial⟩⟩⟩⟩ ?_
            exact hj9 (1 : Int32)
set_option maxRecDepth 100000 in
set_option maxHeartbeats 4000000 in
theorem con_X1_mayStep (l : Launch) (N : Nat) (a1 : Int32) (s0 : jM) : Con l (2) yX1_mayStep cX1_mayStep 6 (Option.some Jvm.ClassFile.FieldType.int) (eI SH s0) SH [.ref 37, .int a1] s0 (f_X1_mayStep N a1 s0) := by
  refine Con_of (ls0 := [some (.ref 37), some (.int a1), none, none, none, none]) (ini := false) (mc := 0) (ms := 0) (by decide +kernel) rfl (Nat.le_of_ble_eq_true rfl) (fun h => by cases h) (fun _ _ => rfl) ?_
  unfold f_X1_mayStep
  refine J_iconst (v := (0 : Int32)) dX1_mayStep_0 (by decide) ?_
  refine J_istore_n (i := 2) (ls2 := [some (.ref 37), some (.int a1), some (.int (0 : Int32)), none, none, none]) dX1_mayStep_1 rfl rfl (by decide) ?_
  refine J_iconst (v := (0 : Int32)) dX1_mayStep_2 (by decide) ?_
  refine J_istore_n (i := 3) (ls2 := [some (.ref 37), some (.int a1), some (.int (0 : Int32)), some (.int (0 : Int32)), none, none]) dX1_mayStep_3 rfl rfl (by decide) ?_
  refine J_join (P := fun j => ∀ (x1 : Int32), J l RX1 cX1_mayStep 6 (Option.some Jvm.ClassFile.FieldType.int) false (rmD (2) 0 0) noCx (eI SH s0) SH 0 0 s0 111 [none, none, some (.int x1), none, none, none] [] (j x1)) ?_ (fun k2 hk2 => ?_)
  · intro x1
    refine J_iload_n (i := 2) dX1_mayStep_111 rfl rfl ?_
    exact J_ireturn dX1_mayStep_112 rfl rfl rfl
  refine J_sub (l1 := [some (.ref 37), some (.int a1), some (.int (0 : Int32)), some (.int (0 : Int32)), none, none]) ⟨rfl, ⟨rfl, ⟨rfl, ⟨rfl, trivial⟩⟩⟩⟩ ?_
  exact lp_X1_mayStep_4_ok l N  s0 a1 k2 hk2 N (0 : Int32) (0 : Int32)

def lp_X1_aheadOfWall_6 (N : Nat) (s0 : jM) (a1 : Int32) (k2 : Int32 → Option Int32) : Nat → Int32 → Int32 → Option Int32
  | 0, _, _ => none
  | q + 1, x3, x4 => if (8 : Int32) ≤ x4 then (k2 x3) else (jn_ (fun (x7 : Int32) => lt_ (x4 + (1 : Int32)) fun x9 => lp_X1_aheadOfWall_6 N s0 a1 k2 q x7 x9) fun j8 => if (gI s0 1 5) ≤ 0 then (j8 x3) else (Option.bind (f_X7_holds (gI s0 37 5) x4) fun r11 => if r11 = 0 then (j8 x3) else (gd (ib x4 8) <| if (a1 - (gI s0 39 (Int32.toNatClampNeg x4))) < (gI s0 1 5) then (j8 x3) else (lt_ (x3 &&& (((1 : Int32) <<< (x4 &&& 31)) ^^^ (-1 : Int32))) fun x14 => j8 x14))))
def f_X1_aheadOfWall (N : Nat) (a1 : Int32) (s0 : jM) : Option Int32 := jn_ (fun (x1 : Int32) => some x1) fun k2 => lp_X1_aheadOfWall_6 N s0 a1 k2 N (255 : Int32) (0 : Int32)
set_option maxRecDepth 100000 in
set_option maxHeartbeats 4000000 in
theorem lp_X1_aheadOfWall_6_ok (l : Launch) (N : Nat)  (s0 : jM) (a1 : Int32) (k2 : Int32 → Option Int32) (hk2 : ∀ (x1 : Int32), J l RX1 cX1_aheadOfWall 4 (Option.some Jvm.ClassFile.FieldType.int) false (rmD (2) 0 0) noCx (eI SH s0) SH 0 0 s0 65 [none, none, some (.int x1), none] [] (k2 x1)) : ∀ (q : Nat) (x3 : Int32) (x4 : Int32), J l RX1 cX1_aheadOfWall 4 (Option.some Jvm.ClassFile.FieldType.int) false (rmD (2) 0 0) noCx (eI SH s0) SH 0 0 s0 6 [some (.ref 37), some (.int a1), some (.int x3), some (.int x4)] [] (lp_X1_aheadOfWall_6 N s0 a1 k2 q x3 x4) := by
  intro q
  induction q with
  | zero => intro x3 x4; exact J_none
  | succ q hrec5 =>
    intro x3 x4
    rw [lp_X1_aheadOfWall_6]
    refine J_iload_n (i := 3) dX1_aheadOfWall_6 rfl rfl ?_
    refine J_bipush (v := (8 : Int32)) dX1_aheadOfWall_7 (by decide) ?_
    refine J_icmp_ge (tgt := 65) dX1_aheadOfWall_9 (by decide) (fun c6 => ?_) (fun c6 => ?_)
    · refine J_sub (l1 := [none, none, some (.int x3), none]) ⟨rfl, trivial⟩ ?_
      exact hk2 x3
    · refine J_join (P := fun j => ∀ (x7 : Int32), J l RX1 cX1_aheadOfWall 4 (Option.some Jvm.ClassFile.FieldType.int) false (rmD (2) 0 0) noCx (eI SH s0) SH 0 0 s0 59 [some (.ref 37), some (.int a1), some (.int x7), some (.int x4)] [] (j x7)) ?_ (fun j8 hj8 => ?_)
      · intro x7
        refine J_iincN (i := 3) (v := x4 + (1 : Int32)) (LS := fun x9 => [some (.ref 37), some (.int a1), some (.int x7), some (.int x9)]) dX1_aheadOfWall_59 rfl (by first | rfl | decide) (fun _ => rfl) (by decide) (fun x9 => ?_)
        refine J_goto (tgt := 6) dX1_aheadOfWall_62 (by decide) ?_
        refine J_sub (l1 := [some (.ref 37), some (.int a1), some (.int x7), some (.int x9)]) ⟨rfl, ⟨rfl, ⟨rfl, ⟨rfl, trivial⟩⟩⟩⟩ ?_
        exact hrec5 x7 x9
      refine J_aload_n (i := 0) dX1_aheadOfWall_12 rfl rfl ?_
      refine J_getR dX1_aheadOfWall_13 fl_RX1_25 sh_37_0 ?_
      refine J_getI dX1_aheadOfWall_16 fl_RX1_88 sh_1_5 ?_
      refine J_if_le (tgt := 59) dX1_aheadOfWall_19 (by decide) (fun c10 => ?_) (fun c10 => ?_)
      · refine J_sub (l1 := [some (.ref 37), some (.int a1), some (.int x3), some (.int x4)]) ⟨rfl, ⟨rfl, ⟨rfl, ⟨rfl, trivial⟩⟩⟩⟩ ?_
        exact hj8 x3
      · refine J_aload_n (i := 0) dX1_aheadOfWall_22 rfl rfl ?_
        refine J_getI dX1_aheadOfWall_23 fl_RX1_33 sh_37_5 ?_
        refine J_iload_n (i := 3) dX1_aheadOfWall_26 rfl rfl ?_
        refine J_callSI [.int (gI s0 37 5), .int x4] dX1_aheadOfWall_27 ca_X7_holds lk_RX1_79 st_X7_holds rfl rfl ⟨by show _ ≤ _; simp only [rmD]; omega, by show _ ≤ _; simp only [rmD]; omega⟩ (Nat.le_of_ble_eq_true rfl) ⟨Nat.zero_le _, Nat.zero_le _⟩ (con_X7_holds l _ _ _) (fun r11 _ => ?_)
        refine J_if_eq (tgt := 59) dX1_aheadOfWall_30 (by decide) (fun c12 => ?_) (fun c12 => ?_)
        · refine J_sub (l1 := [some (.ref 37), some (.int a1), some (.int x3), some (.int x4)]) ⟨rfl, ⟨rfl, ⟨rfl, ⟨rfl, trivial⟩⟩⟩⟩ ?_
          exact hj8 x3
        · refine J_iload_n (i := 1) dX1_aheadOfWall_33 rfl rfl ?_
          refine J_aload_n (i := 0) dX1_aheadOfWall_34 rfl rfl ?_
          refine J_getR dX1_aheadOfWall_35 fl_RX1_15 sh_37_3 ?_
          refine J_iload_n (i := 3) dX1_aheadOfWall_38 rfl rfl ?_
          refine J_iald dX1_aheadOfWall_39 sa_39 ?_
          refine J_isub dX1_aheadOfWall_40 ?_
          refine J_aload_n (i := 0) dX1_aheadOfWall_41 rfl rfl ?_
          refine J_getR dX1_aheadOfWall_42 fl_RX1_25 sh_37_0 ?_
          refine J_getI dX1_aheadOfWall_45 fl_RX1_88 sh_1_5 ?_
          refine J_icmp_lt (tgt := 59) dX1_aheadOfWall_48 (by decide) (fun c13 => ?_) (fun c13 => ?_)
          · refine J_sub (l1 := [some (.ref 37), some (.int a1), some (.int x3), some (.int x4)]) ⟨rfl, ⟨rfl, ⟨rfl, ⟨rfl, trivial⟩⟩⟩⟩ ?_
            exact hj8 x3
          · refine J_iload_n (i := 2) dX1_aheadOfWall_51 rfl rfl ?_
            refine J_iconst (v := (1 : Int32)) dX1_aheadOfWall_52 (by decide) ?_
            refine J_iload_n (i := 3) dX1_aheadOfWall_53 rfl rfl ?_
            refine J_ishl dX1_aheadOfWall_54 ?_
            refine J_iconst (v := (-1 : Int32)) dX1_aheadOfWall_55 (by decide) ?_
            refine J_ixor dX1_aheadOfWall_56 ?_
            refine J_iand dX1_aheadOfWall_57 ?_
            refine J_istore_nN (i := 2) (LS := fun x14 => [some (.ref 37), some (.int a1), some (.int x14), some (.int x4)]) dX1_aheadOfWall_58 rfl (fun _ => rfl) (by decide) (fun x14 => ?_)
            refine J_sub (l1 := [some (.ref 37), some (.int a1), some (.int x14), some (.int x4)]) ⟨rfl, ⟨rfl, ⟨rfl, ⟨rfl, trivial⟩⟩⟩⟩ ?_
            exact hj8 x14
set_option maxRecDepth 100000 in
set_option maxHeartbeats 4000000 in
theorem con_X1_aheadOfWall (l : Launch) (N : Nat) (a1 : Int32) (s0 : jM) : Con l (2) yX1_aheadOfWall cX1_aheadOfWall 4 (Option.some Jvm.ClassFile.FieldType.int) (eI SH s0) SH [.ref 37, .int a1] s0 (f_X1_aheadOfWall N a1 s0) := by
  refine Con_of (ls0 := [some (.ref 37), some (.int a1), none, none]) (ini := false) (mc := 0) (ms := 0) (by decide +kernel) rfl (Nat.le_of_ble_eq_true rfl) (fun h => by cases h) (fun _ _ => rfl) ?_
  unfold f_X1_aheadOfWall
  refine J_sipush (v := (255 : Int32)) dX1_aheadOfWall_0 (by decide) ?_
  refine J_istore_n (i := 2) (ls2 := [some (.ref 37), some (.int a1), some (.int (255 : Int32)), none]) dX1_aheadOfWall_3 rfl rfl (by decide) ?_
  refine J_iconst (v := (0 : Int32)) dX1_aheadOfWall_4 (by decide) ?_
  refine J_istore_n (i := 3) (ls2 := [some (.ref 37), some (.int a1), some (.int (255 : Int32)), some (.int (0 : Int32))]) dX1_aheadOfWall_5 rfl rfl (by decide) ?_
  refine J_join (P := fun j => ∀ (x1 : Int32), J l RX1 cX1_aheadOfWall 4 (Option.some Jvm.ClassFile.FieldType.int) false (rmD (2) 0 0) noCx (eI SH s0) SH 0 0 s0 65 [none, none, some (.int x1), none] [] (j x1)) ?_ (fun k2 hk2 => ?_)
  · intro x1
    refine J_iload_n (i := 2) dX1_aheadOfWall_65 rfl rfl ?_
    exact J_ireturn dX1_aheadOfWall_66 rfl rfl rfl
  refine J_sub (l1 := [some (.ref 37), some (.int a1), some (.int (255 : Int32)), some (.int (0 : Int32))]) ⟨rfl, ⟨rfl, ⟨rfl, ⟨rfl, trivial⟩⟩⟩⟩ ?_
  exact lp_X1_aheadOfWall_6_ok l N  s0 a1 k2 hk2 N (255 : Int32) (0 : Int32)
