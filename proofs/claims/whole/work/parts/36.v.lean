set_option maxRecDepth 100000 in
set_option maxHeartbeats 4000000 in
theorem conv_X6_signAt (l : Launch) (a1 : Int32) (s0 : jM) : Con l (1) yX6_signAt cX6_signAt 2 (Option.some Jvm.ClassFile.FieldType.int) (eI shv s0) shv [.ref 29, .int a1] s0 (f_X6_signAt a1 s0) := by
  refine Con_of (ls0 := [some (.ref 29), some (.int a1)]) (ini := false) (mc := 0) (ms := 0) (by decide +kernel) rfl (Nat.le_of_ble_eq_true rfl) (fun h => by cases h) (fun _ _ => rfl) ?_
  unfold f_X6_signAt
  refine J_join (P := fun j => ∀ (_ : Unit), J l RX6 cX6_signAt 2 (Option.some Jvm.ClassFile.FieldType.int) false (rmD (1) 0 0) noCx (eI shv s0) shv 0 0 s0 33 [none, none] [] (j ())) ?_ (fun j1 hj1 => ?_)
  · intro _
    refine J_iconst (v := (-1 : Int32)) dX6_signAt_33 (by decide) ?_
    exact J_ireturn dX6_signAt_34 rfl rfl rfl
  refine J_iload_n (i := 1) dX6_signAt_0 rfl rfl ?_
  refine J_if_lt (tgt := 33) dX6_signAt_1 (by decide) (fun c2 => ?_) (fun c2 => ?_)
  · refine J_sub (l1 := [none, none]) trivial ?_
    exact hj1 ()
  · refine J_iload_n (i := 1) dX6_signAt_4 rfl rfl ?_
    refine J_aload_n (i := 0) dX6_signAt_5 rfl rfl ?_
    refine J_getR dX6_signAt_6 fl_RX6_23 shv_29_0 ?_
    refine J_getI dX6_signAt_9 fl_RX6_122 shv_1_8 ?_
    refine J_icmp_ge (tgt := 33) dX6_signAt_12 (by decide) (fun c3 => ?_) (fun c3 => ?_)
    · refine J_sub (l1 := [none, none]) trivial ?_
      exact hj1 ()
    · refine J_iload_n (i := 1) dX6_signAt_15 rfl rfl ?_
      refine J_bipush (v := (40 : Int32)) dX6_signAt_16 (by decide) ?_
      refine J_icmp_ge (tgt := 33) dX6_signAt_18 (by decide) (fun c4 => ?_) (fun c4 => ?_)
      · refine J_sub (l1 := [none, none]) trivial ?_
        exact hj1 ()
      · refine J_aload_n (i := 0) dX6_signAt_21 rfl rfl ?_
        refine J_getR dX6_signAt_22 fl_RX6_23 shv_29_0 ?_
        refine J_getR dX6_signAt_25 fl_RX6_94 shv_1_7 ?_
        refine J_iload_n (i := 1) dX6_signAt_28 rfl rfl ?_
        refine J_cald dX6_signAt_29 sav_6 ?_
        refine J_goto (tgt := 34) dX6_signAt_30 (by decide) ?_
        exact J_ireturn dX6_signAt_34 rfl rfl rfl

set_option maxRecDepth 100000 in
set_option maxHeartbeats 4000000 in
theorem lp_X6_nextSign_10_okv (l : Launch) (N : Nat)  (k3 : jM → Option (Int32 × jM)) (hk3 : ∀ (s2 : jM), J l RX6 cX6_nextSign 1 (Option.some Jvm.ClassFile.FieldType.int) false (rmD (2) 0 0) noCx (eIM shv) shv 0 0 s2 45 [some (.ref 29)] [] (k3 s2)) : ∀ (q : Nat) (s5 : jM), J l RX6 cX6_nextSign 1 (Option.some Jvm.ClassFile.FieldType.int) false (rmD (2) 0 0) noCx (eIM shv) shv 0 0 s5 10 [some (.ref 29)] [] (lp_X6_nextSign_10 N k3 q s5) := by
  intro q
  induction q with
  | zero => intro s5; exact J_none
  | succ q hrec6 =>
    intro s5
    rw [lp_X6_nextSign_10]
    refine J_aload_n (i := 0) dX6_nextSign_10 rfl rfl ?_
    refine J_getI dX6_nextSign_11 fl_RX6_30 shv_29_6 ?_
    refine J_bipush (v := (40 : Int32)) dX6_nextSign_14 (by decide) ?_
    refine J_icmp_ge (tgt := 45) dX6_nextSign_16 (by decide) (fun c7 => ?_) (fun c7 => ?_)
    · refine J_sub (l1 := [some (.ref 29)]) ⟨rfl, trivial⟩ ?_
      exact hk3 s5
    · refine J_aload_n (i := 0) dX6_nextSign_19 rfl rfl ?_
      refine J_aload_n (i := 0) dX6_nextSign_20 rfl rfl ?_
      refine J_getI dX6_nextSign_21 fl_RX6_30 shv_29_6 ?_
      refine J_callVI 29 [.int (gI s5 29 6)] dX6_nextSign_24 ca_X6_signAt lk_RX6_117 vi_X6_signAt rcv_29 rfl rfl ⟨by show _ ≤ _; simp only [rmD]; omega, by show _ ≤ _; simp only [rmD]; omega⟩ (Nat.le_of_ble_eq_true rfl) ⟨Nat.zero_le _, Nat.zero_le _⟩ (conv_X6_signAt l _ _) (fun r8 _ => ?_)
      refine J_bipush (v := (32 : Int32)) dX6_nextSign_27 (by decide) ?_
      refine J_icmp_ne (tgt := 45) dX6_nextSign_29 (by decide) (fun c9 => ?_) (fun c9 => ?_)
      · refine J_sub (l1 := [some (.ref 29)]) ⟨rfl, trivial⟩ ?_
        exact hk3 s5
      · refine J_aload_n (i := 0) dX6_nextSign_32 rfl rfl ?_
        refine J_dup dX6_nextSign_33 rfl ?_
        refine J_getI dX6_nextSign_34 fl_RX6_30 shv_29_6 ?_
        refine J_iconst (v := (1 : Int32)) dX6_nextSign_37 (by decide) ?_
        refine J_iadd dX6_nextSign_38 ?_
        refine J_putI dX6_nextSign_39 fp_RX6_30 (fun h => by first | rfl | cases h) shv_29_6 rfl rfl ?_
        refine J_letM rfl (fun s10 => ?_)
        refine J_goto (tgt := 10) dX6_nextSign_42 (by decide) ?_
        refine J_sub (l1 := [some (.ref 29)]) ⟨rfl, trivial⟩ ?_
        exact hrec6 s10
set_option maxRecDepth 100000 in
set_option maxHeartbeats 4000000 in
theorem conv_X6_nextSign (l : Launch) (N : Nat) (s0 : jM) : Con l (2) yX6_nextSign cX6_nextSign 1 (Option.some Jvm.ClassFile.FieldType.int) (eIM shv) shv [.ref 29] s0 (f_X6_nextSign N s0) := by
  refine Con_of (ls0 := [some (.ref 29)]) (ini := false) (mc := 0) (ms := 0) (by decide +kernel) rfl (Nat.le_of_ble_eq_true rfl) (fun h => by cases h) (fun _ _ => rfl) ?_
  unfold f_X6_nextSign
  refine J_aload_n (i := 0) dX6_nextSign_0 rfl rfl ?_
  refine J_getI dX6_nextSign_1 fl_RX6_37 shv_29_7 ?_
  refine J_iconst (v := (-1 : Int32)) dX6_nextSign_4 (by decide) ?_
  refine J_icmp_eq (tgt := 10) dX6_nextSign_5 (by decide) (fun c1 => ?_) (fun c1 => ?_)
  · refine J_join (P := fun j => ∀ (s2 : jM), J l RX6 cX6_nextSign 1 (Option.some Jvm.ClassFile.FieldType.int) false (rmD (2) 0 0) noCx (eIM shv) shv 0 0 s2 45 [some (.ref 29)] [] (j s2)) ?_ (fun k3 hk3 => ?_)
    · intro s2
      refine J_aload_n (i := 0) dX6_nextSign_45 rfl rfl ?_
      refine J_aload_n (i := 0) dX6_nextSign_46 rfl rfl ?_
      refine J_getI dX6_nextSign_47 fl_RX6_30 shv_29_6 ?_
      refine J_callVI 29 [.int (gI s2 29 6)] dX6_nextSign_50 ca_X6_signAt lk_RX6_117 vi_X6_signAt rcv_29 rfl rfl ⟨by show _ ≤ _; simp only [rmD]; omega, by show _ ≤ _; simp only [rmD]; omega⟩ (Nat.le_of_ble_eq_true rfl) ⟨Nat.zero_le _, Nat.zero_le _⟩ (conv_X6_signAt l _ _) (fun r4 _ => ?_)
      exact J_ireturn dX6_nextSign_53 rfl rfl rfl
    refine J_sub (l1 := [some (.ref 29)]) ⟨rfl, trivial⟩ ?_
    exact lp_X6_nextSign_10_okv l N  k3 hk3 N s0
  · refine J_iconst (v := (-1 : Int32)) dX6_nextSign_8 (by decide) ?_
    exact J_ireturn dX6_nextSign_9 rfl rfl rfl

set_option maxRecDepth 100000 in
set_option maxHeartbeats 4000000 in
theorem conv_J0_isLatin1_aae02 (l : Launch) (w0 : Nat) (hw_w0 : w0 < 8) (s0 : jM) : Con l (1) yJ0_isLatin1_aae02 cJ0_isLatin1_aae02 1 (Option.some Jvm.ClassFile.FieldType.boolean) (eI shv s0) shv [.ref (1000 + w0)] s0 (f_J0_isLatin1_aae02 w0) := by
  refine Con_of (ls0 := [some (.ref (1000 + w0))]) (ini := false) (mc := 0) (ms := 0) (by decide +kernel) rfl (Nat.le_of_ble_eq_true rfl) (fun h => by cases h) (fun _ _ => rfl) ?_
  unfold f_J0_isLatin1_aae02
  refine J_join (P := fun j => ∀ (_ : Unit), J l RJ0 cJ0_isLatin1_aae02 1 (Option.some Jvm.ClassFile.FieldType.boolean) false (rmD (1) 0 0) noCx (eI shv s0) shv 0 0 s0 17 [none] [] (j ())) ?_ (fun j1 hj1 => ?_)
  · intro _
    refine J_iconst (v := (0 : Int32)) dJ0_isLatin1_aae02_17 (by decide) ?_
    exact J_ireturn dJ0_isLatin1_aae02_18 rfl rfl rfl
  refine J_cmpS dJ0_isLatin1_aae02_0 (mTB 237 (by decide +kernel) rfl) ?_
  refine J_if_eq (tgt := 17) dJ0_isLatin1_aae02_3 (by decide) (fun c2 => ?_) (fun c2 => ?_)
  · refine J_sub (l1 := [none]) trivial ?_
    exact hj1 ()
  · refine J_aload_n (i := 0) dJ0_isLatin1_aae02_6 rfl rfl ?_
    refine J_txtC hw_w0 dJ0_isLatin1_aae02_7 (mTB 1236 (by decide +kernel) rfl) ?_
    refine J_if_ne (tgt := 17) dJ0_isLatin1_aae02_10 (by decide) (fun c3 => ?_) (fun c3 => ?_)
    · refine J_sub (l1 := [none]) trivial ?_
      exact hj1 ()
    · refine J_iconst (v := (1 : Int32)) dJ0_isLatin1_aae02_13 (by decide) ?_
      refine J_goto (tgt := 18) dJ0_isLatin1_aae02_14 (by decide) ?_
      exact J_ireturn dJ0_isLatin1_aae02_18 rfl rfl rfl

set_option maxRecDepth 100000 in
set_option maxHeartbeats 4000000 in
theorem conv_J0_coder_7d493 (l : Launch) (w0 : Nat) (hw_w0 : w0 < 8) (s0 : jM) : Con l (1) yJ0_coder_7d493 cJ0_coder_7d493 1 (Option.some Jvm.ClassFile.FieldType.byte) (eI shv s0) shv [.ref (1000 + w0)] s0 (f_J0_coder_7d493 w0) := by
  refine Con_of (ls0 := [some (.ref (1000 + w0))]) (ini := false) (mc := 0) (ms := 0) (by decide +kernel) rfl (Nat.le_of_ble_eq_true rfl) (fun h => by cases h) (fun _ _ => rfl) ?_
  unfold f_J0_coder_7d493
  refine J_cmpS dJ0_coder_7d493_0 (mTB 237 (by decide +kernel) rfl) ?_
  refine J_if_eq (tgt := 13) dJ0_coder_7d493_3 (by decide) (fun c1 => ?_) (fun c1 => ?_)
  · refine J_iconst (v := (1 : Int32)) dJ0_coder_7d493_13 (by decide) ?_
    exact J_ireturn dJ0_coder_7d493_14 rfl rfl rfl
  · refine J_aload_n (i := 0) dJ0_coder_7d493_6 rfl rfl ?_
    refine J_txtC hw_w0 dJ0_coder_7d493_7 (mTB 1236 (by decide +kernel) rfl) ?_
    refine J_goto (tgt := 14) dJ0_coder_7d493_10 (by decide) ?_
    exact J_ireturn dJ0_coder_7d493_14 rfl rfl rfl

set_option maxRecDepth 100000 in
set_option maxHeartbeats 4000000 in
theorem conv_J0_length_8abf5 (l : Launch) (w0 : Nat) (hw_w0 : w0 < 8) (s0 : jM) : Con l (2) yJ0_length_8abf5 cJ0_length_8abf5 1 (Option.some Jvm.ClassFile.FieldType.int) (eI shv s0) shv [.ref (1000 + w0)] s0 (f_J0_length_8abf5 w0) := by
  refine Con_of (ls0 := [some (.ref (1000 + w0))]) (ini := false) (mc := 0) (ms := 0) (by decide +kernel) rfl (Nat.le_of_ble_eq_true rfl) (fun h => by cases h) (fun _ _ => rfl) ?_
  unfold f_J0_length_8abf5
  refine J_aload_n (i := 0) dJ0_length_8abf5_0 rfl rfl ?_
  refine J_txtV hw_w0 dJ0_length_8abf5_1 (mTB 1237 (by decide +kernel) rfl) ?_
  refine J_txtL hw_w0 dJ0_length_8abf5_4 ?_
  refine J_aload_n (i := 0) dJ0_length_8abf5_5 rfl rfl ?_
  refine J_callVI (1000 + w0) [] dJ0_length_8abf5_6 ca_J0_coder_7d493 lk_RJ0_335 vi_J0_coder_7d493 (Or.inr ⟨_, rfl, hw_w0, rfl⟩) rfl rfl ⟨by show _ ≤ _; simp only [rmD]; omega, by show _ ≤ _; simp only [rmD]; omega⟩ (Nat.le_of_ble_eq_true rfl) ⟨Nat.zero_le _, Nat.zero_le _⟩ (conv_J0_coder_7d493 l w0 hw_w0 _) (fun r1 _ => ?_)
  refine J_ishr dJ0_length_8abf5_9 ?_
  exact J_ireturn dJ0_length_8abf5_10 rfl rfl rfl

set_option maxRecDepth 100000 in
set_option maxHeartbeats 4000000 in
theorem conv_J1_canEncode_9a6ad (l : Launch) (a0 : Int32) (s0 : jM) : Con l (1) yJ1_canEncode_9a6ad cJ1_canEncode_9a6ad 1 (Option.some Jvm.ClassFile.FieldType.boolean) (eI shv s0) shv [.int a0] s0 (f_J1_canEncode_9a6ad a0) := by
  refine Con_of (ls0 := [some (.int a0)]) (ini := false) (mc := 0) (ms := 0) (by decide +kernel) rfl (Nat.le_of_ble_eq_true rfl) (fun h => by cases h) (fun _ _ => rfl) ?_
  unfold f_J1_canEncode_9a6ad
  refine J_join (P := fun j => ∀ (_ : Unit), J l RJ1 cJ1_canEncode_9a6ad 1 (Option.some Jvm.ClassFile.FieldType.boolean) false (rmD (1) 0 0) noCx (eI shv s0) shv 0 0 s0 15 [none] [] (j ())) ?_ (fun j1 hj1 => ?_)
  · intro _
    refine J_iconst (v := (0 : Int32)) dJ1_canEncode_9a6ad_15 (by decide) ?_
    exact J_ireturn dJ1_canEncode_9a6ad_16 rfl rfl rfl
  refine J_iload_n (i := 0) dJ1_canEncode_9a6ad_0 rfl rfl ?_
  refine J_if_lt (tgt := 15) dJ1_canEncode_9a6ad_1 (by decide) (fun c2 => ?_) (fun c2 => ?_)
  · refine J_sub (l1 := [none]) trivial ?_
    exact hj1 ()
  · refine J_iload_n (i := 0) dJ1_canEncode_9a6ad_4 rfl rfl ?_
    refine J_sipush (v := (255 : Int32)) dJ1_canEncode_9a6ad_5 (by decide) ?_
    refine J_icmp_gt (tgt := 15) dJ1_canEncode_9a6ad_8 (by decide) (fun c3 => ?_) (fun c3 => ?_)
    · refine J_sub (l1 := [none]) trivial ?_
      exact hj1 ()
    · refine J_iconst (v := (1 : Int32)) dJ1_canEncode_9a6ad_11 (by decide) ?_
      refine J_goto (tgt := 16) dJ1_canEncode_9a6ad_12 (by decide) ?_
      exact J_ireturn dJ1_canEncode_9a6ad_16 rfl rfl rfl

set_option maxRecDepth 100000 in
set_option maxHeartbeats 4000000 in
theorem lp_J1_indexOfChar_4cfef_7_okv (l : Launch) (N : Nat) (w0 : Nat) (hw_w0 : w0 < 8)  (a3 : Int32) (x1 : Int32) (k3 : Int32 → Option Int32) (s0 : jM) (hk3 : ∀ (x2 : Int32), J l RJ1 cJ1_indexOfChar_4cfef 6 (Option.some Jvm.ClassFile.FieldType.int) false (rmD (1) 0 0) noCx (eI shv s0) shv 0 0 s0 22 [none, none, none, none, none, some (.int x2)] [] (k3 x2)) : ∀ (q : Nat) (x4 : Int32), J l RJ1 cJ1_indexOfChar_4cfef 6 (Option.some Jvm.ClassFile.FieldType.int) false (rmD (1) 0 0) noCx (eI shv s0) shv 0 0 s0 7 [some (.ref (2000 + w0)), none, none, some (.int a3), some (.int x1), some (.int x4)] [] (lp_J1_indexOfChar_4cfef_7 N w0 a3 x1 k3 q x4) := by
  intro q
  induction q with
  | zero => intro x4; exact J_none
  | succ q hrec5 =>
    intro x4
    rw [lp_J1_indexOfChar_4cfef_7]
    refine J_iload (i := 5) dJ1_indexOfChar_4cfef_7 rfl ?_
    refine J_iload_n (i := 3) dJ1_indexOfChar_4cfef_9 rfl rfl ?_
    refine J_icmp_ge (tgt := 31) dJ1_indexOfChar_4cfef_10 (by decide) (fun c6 => ?_) (fun c6 => ?_)
    · refine J_iconst (v := (-1 : Int32)) dJ1_indexOfChar_4cfef_31 (by decide) ?_
      exact J_ireturn dJ1_indexOfChar_4cfef_32 rfl rfl rfl
    · refine J_aload_n (i := 0) dJ1_indexOfChar_4cfef_13 rfl rfl ?_
      refine J_iload (i := 5) dJ1_indexOfChar_4cfef_14 rfl ?_
      refine J_txtB hw_w0 dJ1_indexOfChar_4cfef_16 ?_
      refine J_iload (i := 4) dJ1_indexOfChar_4cfef_17 rfl ?_
      refine J_icmp_ne (tgt := 25) dJ1_indexOfChar_4cfef_19 (by decide) (fun c7 => ?_) (fun c7 => ?_)
      · refine J_iincN (i := 5) (v := x4 + (1 : Int32)) (LS := fun x8 => [some (.ref (2000 + w0)), none, none, some (.int a3), some (.int x1), some (.int x8)]) dJ1_indexOfChar_4cfef_25 rfl (by first | rfl | decide) (fun _ => rfl) (by decide) (fun x8 => ?_)
        refine J_goto (tgt := 7) dJ1_indexOfChar_4cfef_28 (by decide) ?_
        refine J_sub (l1 := [some (.ref (2000 + w0)), none, none, some (.int a3), some (.int x1), some (.int x8)]) ⟨rfl, ⟨rfl, ⟨rfl, ⟨rfl, trivial⟩⟩⟩⟩ ?_
        exact hrec5 x8
      · refine J_sub (l1 := [none, none, none, none, none, some (.int x4)]) ⟨rfl, trivial⟩ ?_
        exact hk3 x4
set_option maxRecDepth 100000 in
set_option maxHeartbeats 4000000 in
theorem conv_J1_indexOfChar_4cfef (l : Launch) (N : Nat) (w0 : Nat) (hw_w0 : w0 < 8) (a1 : Int32) (a2 : Int32) (a3 : Int32) (s0 : jM) : Con l (1) yJ1_indexOfChar_4cfef cJ1_indexOfChar_4cfef 6 (Option.some Jvm.ClassFile.FieldType.int) (eI shv s0) shv [.ref (2000 + w0), .int a1, .int a2, .int a3] s0 (f_J1_indexOfChar_4cfef N w0 a1 a2 a3) := by
  refine Con_of (ls0 := [some (.ref (2000 + w0)), some (.int a1), some (.int a2), some (.int a3), none, none]) (ini := false) (mc := 0) (ms := 0) (by decide +kernel) rfl (Nat.le_of_ble_eq_true rfl) (fun h => by cases h) (fun _ _ => rfl) ?_
  unfold f_J1_indexOfChar_4cfef
  refine J_iload_n (i := 1) dJ1_indexOfChar_4cfef_0 rfl rfl ?_
  refine J_i2b dJ1_indexOfChar_4cfef_1 ?_
  refine J_istoreN (i := 4) (LS := fun x1 => [some (.ref (2000 + w0)), some (.int a1), some (.int a2), some (.int a3), some (.int x1), none]) dJ1_indexOfChar_4cfef_2 (fun _ => rfl) (by decide) (fun x1 => ?_)
  refine J_iload_n (i := 2) dJ1_indexOfChar_4cfef_4 rfl rfl ?_
  refine J_istore (i := 5) (ls2 := [some (.ref (2000 + w0)), some (.int a1), some (.int a2), some (.int a3), some (.int x1), some (.int a2)]) dJ1_indexOfChar_4cfef_5 rfl (by decide) ?_
  refine J_join (P := fun j => ∀ (x2 : Int32), J l RJ1 cJ1_indexOfChar_4cfef 6 (Option.some Jvm.ClassFile.FieldType.int) false (rmD (1) 0 0) noCx (eI shv s0) shv 0 0 s0 22 [none, none, none, none, none, some (.int x2)] [] (j x2)) ?_ (fun k3 hk3 => ?_)
  · intro x2
    refine J_iload (i := 5) dJ1_indexOfChar_4cfef_22 rfl ?_
    exact J_ireturn dJ1_indexOfChar_4cfef_24 rfl rfl rfl
  refine J_sub (l1 := [some (.ref (2000 + w0)), none, none, some (.int a3), some (.int x1), some (.int a2)]) ⟨rfl, ⟨rfl, ⟨rfl, ⟨rfl, trivial⟩⟩⟩⟩ ?_
  exact lp_J1_indexOfChar_4cfef_7_okv l N w0 hw_w0  a3 x1 k3 s0 hk3 N a2

set_option maxRecDepth 100000 in
set_option maxHeartbeats 4000000 in
theorem conv_J1_indexOf_4cfef (l : Launch) (N : Nat) (w0 : Nat) (hw_w0 : w0 < 8) (a1 : Int32) (a2 : Int32) (a3 : Int32) (s0 : jM) : Con l (2) yJ1_indexOf_4cfef cJ1_indexOf_4cfef 4 (Option.some Jvm.ClassFile.FieldType.int) (eI shv s0) shv [.ref (2000 + w0), .int a1, .int a2, .int a3] s0 (f_J1_indexOf_4cfef N w0 a1 a2 a3) := by
  refine Con_of (ls0 := [some (.ref (2000 + w0)), some (.int a1), some (.int a2), some (.int a3)]) (ini := false) (mc := 0) (ms := 0) (by decide +kernel) rfl (Nat.le_of_ble_eq_true rfl) (fun h => by cases h) (fun _ _ => rfl) ?_
  unfold f_J1_indexOf_4cfef
  refine J_iload_n (i := 1) dJ1_indexOf_4cfef_0 rfl rfl ?_
  refine J_callSI [.int a1] dJ1_indexOf_4cfef_1 ca_J1_canEncode_9a6ad lk_RJ1_88 st_J1_canEncode_9a6ad rfl rfl ⟨by show _ ≤ _; simp only [rmD]; omega, by show _ ≤ _; simp only [rmD]; omega⟩ (Nat.le_of_ble_eq_true rfl) ⟨Nat.zero_le _, Nat.zero_le _⟩ (conv_J1_canEncode_9a6ad l _ _) (fun r1 _ => ?_)
  refine J_if_ne (tgt := 9) dJ1_indexOf_4cfef_4 (by decide) (fun c2 => ?_) (fun c2 => ?_)
  · refine J_iload_n (i := 2) dJ1_indexOf_4cfef_9 rfl rfl ?_
    refine J_iconst (v := (0 : Int32)) dJ1_indexOf_4cfef_10 (by decide) ?_
    refine J_mmax dJ1_indexOf_4cfef_11 (mTB 253 (by decide +kernel) rfl) ⟨by simp only [rmD]; omega, by simp only [rmD, List.map_nil, List.map_cons, List.sum_nil, List.sum_cons, Value.category]; omega⟩ ⟨Nat.zero_le _, Nat.zero_le _⟩ ?_
    refine J_istore_nN (i := 2) (LS := fun x3 => [some (.ref (2000 + w0)), some (.int a1), some (.int x3), some (.int a3)]) dJ1_indexOf_4cfef_14 rfl (fun _ => rfl) (by decide) (fun x3 => ?_)
    refine J_iload_n (i := 3) dJ1_indexOf_4cfef_15 rfl rfl ?_
    refine J_aload_n (i := 0) dJ1_indexOf_4cfef_16 rfl rfl ?_
    refine J_txtL hw_w0 dJ1_indexOf_4cfef_17 ?_
    refine J_mmin dJ1_indexOf_4cfef_18 (mTB 256 (by decide +kernel) rfl) ⟨by simp only [rmD]; omega, by simp only [rmD, List.map_nil, List.map_cons, List.sum_nil, List.sum_cons, Value.category]; omega⟩ ⟨Nat.zero_le _, Nat.zero_le _⟩ ?_
    refine J_istore_nN (i := 3) (LS := fun x4 => [some (.ref (2000 + w0)), some (.int a1), some (.int x3), some (.int x4)]) dJ1_indexOf_4cfef_21 rfl (fun _ => rfl) (by decide) (fun x4 => ?_)
    refine J_iload_n (i := 2) dJ1_indexOf_4cfef_22 rfl rfl ?_
    refine J_iload_n (i := 3) dJ1_indexOf_4cfef_23 rfl rfl ?_
    refine J_icmp_lt (tgt := 29) dJ1_indexOf_4cfef_24 (by decide) (fun c5 => ?_) (fun c5 => ?_)
    · refine J_aload_n (i := 0) dJ1_indexOf_4cfef_29 rfl rfl ?_
      refine J_iload_n (i := 1) dJ1_indexOf_4cfef_30 rfl rfl ?_
      refine J_iload_n (i := 2) dJ1_indexOf_4cfef_31 rfl rfl ?_
      refine J_iload_n (i := 3) dJ1_indexOf_4cfef_32 rfl rfl ?_
      refine J_callSI [.ref (2000 + w0), .int a1, .int x3, .int x4] dJ1_indexOf_4cfef_33 ca_J1_indexOfChar_4cfef lk_RJ1_95 st_J1_indexOfChar_4cfef rfl rfl ⟨by show _ ≤ _; simp only [rmD]; omega, by show _ ≤ _; simp only [rmD]; omega⟩ (Nat.le_of_ble_eq_true rfl) ⟨Nat.zero_le _, Nat.zero_le _⟩ (conv_J1_indexOfChar_4cfef l N w0 hw_w0 _ _ _ _) (fun r6 _ => ?_)
      exact J_ireturn dJ1_indexOf_4cfef_36 rfl rfl rfl
    · refine J_iconst (v := (-1 : Int32)) dJ1_indexOf_4cfef_27 (by decide) ?_
      exact J_ireturn dJ1_indexOf_4cfef_28 rfl rfl rfl
  · refine J_iconst (v := (-1 : Int32)) dJ1_indexOf_4cfef_7 (by decide) ?_
    exact J_ireturn dJ1_indexOf_4cfef_8 rfl rfl rfl

set_option maxRecDepth 100000 in
set_option maxHeartbeats 4000000 in
theorem conv_J0_indexOf_7cf53 (l : Launch) (N : Nat) (w0 : Nat) (hw_w0 : w0 < 8) (a1 : Int32) (a2 : Int32) (s0 : jM) : Con l (3) yJ0_indexOf_7cf53 cJ0_indexOf_7cf53 3 (Option.some Jvm.ClassFile.FieldType.int) (eI shv s0) shv [.ref (1000 + w0), .int a1, .int a2] s0 (f_J0_indexOf_7cf53 N w0 a1 a2) := by
  refine Con_of (ls0 := [some (.ref (1000 + w0)), some (.int a1), some (.int a2)]) (ini := false) (mc := 0) (ms := 0) (by decide +kernel) rfl (Nat.le_of_ble_eq_true rfl) (fun h => by cases h) (fun _ _ => rfl) ?_
  unfold f_J0_indexOf_7cf53
  refine J_aload_n (i := 0) dJ0_indexOf_7cf53_0 rfl rfl ?_
  refine J_callVI (1000 + w0) [] dJ0_indexOf_7cf53_1 ca_J0_isLatin1_aae02 lk_RJ0_492 vi_J0_isLatin1_aae02 (Or.inr ⟨_, rfl, hw_w0, rfl⟩) rfl rfl ⟨by show _ ≤ _; simp only [rmD]; omega, by show _ ≤ _; simp only [rmD]; omega⟩ (Nat.le_of_ble_eq_true rfl) ⟨Nat.zero_le _, Nat.zero_le _⟩ (conv_J0_isLatin1_aae02 l w0 hw_w0 _) (fun r1 _ => ?_)
  refine J_if_eq (tgt := 23) dJ0_indexOf_7cf53_4 (by decide) (fun c2 => ?_) (fun c2 => ?_)
  · refine J_aload_n (i := 0) dJ0_indexOf_7cf53_23 rfl rfl ?_
    refine J_txtV hw_w0 dJ0_indexOf_7cf53_24 (mTB 1237 (by decide +kernel) rfl) ?_
    refine J_iload_n (i := 1) dJ0_indexOf_7cf53_27 rfl rfl ?_
    refine J_iload_n (i := 2) dJ0_indexOf_7cf53_28 rfl rfl ?_
    refine J_aload_n (i := 0) dJ0_indexOf_7cf53_29 rfl rfl ?_
    refine J_callVI (1000 + w0) [] dJ0_indexOf_7cf53_30 ca_J0_length_8abf5 lk_RJ0_505 vi_J0_length_8abf5 (Or.inr ⟨_, rfl, hw_w0, rfl⟩) rfl rfl ⟨by show _ ≤ _; simp only [rmD]; omega, by show _ ≤ _; simp only [rmD]; omega⟩ (Nat.le_of_ble_eq_true rfl) ⟨Nat.zero_le _, Nat.zero_le _⟩ (conv_J0_length_8abf5 l w0 hw_w0 _) (fun r3 _ => ?_)
    exact J_none
  · refine J_aload_n (i := 0) dJ0_indexOf_7cf53_7 rfl rfl ?_
    refine J_txtV hw_w0 dJ0_indexOf_7cf53_8 (mTB 1237 (by decide +kernel) rfl) ?_
    refine J_iload_n (i := 1) dJ0_indexOf_7cf53_11 rfl rfl ?_
    refine J_iload_n (i := 2) dJ0_indexOf_7cf53_12 rfl rfl ?_
    refine J_aload_n (i := 0) dJ0_indexOf_7cf53_13 rfl rfl ?_
    refine J_callVI (1000 + w0) [] dJ0_indexOf_7cf53_14 ca_J0_length_8abf5 lk_RJ0_505 vi_J0_length_8abf5 (Or.inr ⟨_, rfl, hw_w0, rfl⟩) rfl rfl ⟨by show _ ≤ _; simp only [rmD]; omega, by show _ ≤ _; simp only [rmD]; omega⟩ (Nat.le_of_ble_eq_true rfl) ⟨Nat.zero_le _, Nat.zero_le _⟩ (conv_J0_length_8abf5 l w0 hw_w0 _) (fun r4 _ => ?_)
    refine J_callSI [.ref (2000 + w0), .int a1, .int a2, .int r4] dJ0_indexOf_7cf53_17 ca_J1_indexOf_4cfef lk_RJ0_637 st_J1_indexOf_4cfef rfl rfl ⟨by show _ ≤ _; simp only [rmD]; omega, by show _ ≤ _; simp only [rmD]; omega⟩ (Nat.le_of_ble_eq_true rfl) ⟨Nat.zero_le _, Nat.zero_le _⟩ (conv_J1_indexOf_4cfef l N w0 hw_w0 _ _ _ _) (fun r5 _ => ?_)
    refine J_goto (tgt := 36) dJ0_indexOf_7cf53_20 (by decide) ?_
    exact J_ireturn dJ0_indexOf_7cf53_36 rfl rfl rfl

set_option maxRecDepth 100000 in
set_option maxHeartbeats 4000000 in
theorem conv_J0_indexOf_0f7a4 (l : Launch) (N : Nat) (w0 : Nat) (hw_w0 : w0 < 8) (a1 : Int32) (s0 : jM) : Con l (4) yJ0_indexOf_0f7a4 cJ0_indexOf_0f7a4 2 (Option.some Jvm.ClassFile.FieldType.int) (eI shv s0) shv [.ref (1000 + w0), .int a1] s0 (f_J0_indexOf_0f7a4 N w0 a1) := by
  refine Con_of (ls0 := [some (.ref (1000 + w0)), some (.int a1)]) (ini := false) (mc := 0) (ms := 0) (by decide +kernel) rfl (Nat.le_of_ble_eq_true rfl) (fun h => by cases h) (fun _ _ => rfl) ?_
  unfold f_J0_indexOf_0f7a4
  refine J_aload_n (i := 0) dJ0_indexOf_0f7a4_0 rfl rfl ?_
  refine J_iload_n (i := 1) dJ0_indexOf_0f7a4_1 rfl rfl ?_
  refine J_iconst (v := (0 : Int32)) dJ0_indexOf_0f7a4_2 (by decide) ?_
  refine J_callVI (1000 + w0) [.int a1, .int (0 : Int32)] dJ0_indexOf_0f7a4_3 ca_J0_indexOf_7cf53 lk_RJ0_633 vi_J0_indexOf_7cf53 (Or.inr ⟨_, rfl, hw_w0, rfl⟩) rfl rfl ⟨by show _ ≤ _; simp only [rmD]; omega, by show _ ≤ _; simp only [rmD]; omega⟩ (Nat.le_of_ble_eq_true rfl) ⟨Nat.zero_le _, Nat.zero_le _⟩ (conv_J0_indexOf_7cf53 l N w0 hw_w0 _ _ _) (fun r1 _ => ?_)
  exact J_ireturn dJ0_indexOf_0f7a4_6 rfl rfl rfl

set_option maxRecDepth 100000 in
set_option maxHeartbeats 4000000 in
theorem conv_X6_take (l : Launch) (N : Nat) (w1 : Nat) (hw_w1 : w1 < 8) (s0 : jM) : Con l (5) yX6_take cX6_take 3 (Option.some Jvm.ClassFile.FieldType.int) (eIM shv) shv [.ref 29, .ref (1000 + w1)] s0 (f_X6_take N w1 s0) := by
  refine Con_of (ls0 := [some (.ref 29), some (.ref (1000 + w1)), none]) (ini := false) (mc := 0) (ms := 0) (by decide +kernel) rfl (Nat.le_of_ble_eq_true rfl) (fun h => by cases h) (fun _ _ => rfl) ?_
  unfold f_X6_take
  refine J_aload_n (i := 0) dX6_take_0 rfl rfl ?_
  refine J_callVIM 29 [] dX6_take_1 ca_X6_nextSign lk_RX6_48 vi_X6_nextSign rcv_29 rfl rfl ⟨by show _ ≤ _; simp only [rmD]; omega, by show _ ≤ _; simp only [rmD]; omega⟩ (Nat.le_of_ble_eq_true rfl) ⟨Nat.zero_le _, Nat.zero_le _⟩ (conv_X6_nextSign l N _) (fun r1 _ => ?_)
  refine J_istore_nN (i := 2) (LS := fun x2 => [some (.ref 29), some (.ref (1000 + w1)), some (.int x2)]) dX6_take_4 rfl (fun _ => rfl) (by decide) (fun x2 => ?_)
  refine J_iload_n (i := 2) dX6_take_5 rfl rfl ?_
  refine J_iconst (v := (-1 : Int32)) dX6_take_6 (by decide) ?_
  refine J_icmp_eq (tgt := 19) dX6_take_7 (by decide) (fun c3 => ?_) (fun c3 => ?_)
  · refine J_iconst (v := (-1 : Int32)) dX6_take_19 (by decide) ?_
    exact J_ireturn dX6_take_20 rfl rfl rfl
  · refine J_aload_n (i := 1) dX6_take_10 rfl rfl ?_
    refine J_iload_n (i := 2) dX6_take_11 rfl rfl ?_
    refine J_i2c dX6_take_12 ?_
    refine J_callVI (1000 + w1) [.int ((Int32.toUInt32 x2 % 65536).toInt32)] dX6_take_13 ca_J0_indexOf_0f7a4 lk_RX6_111 vi_J0_indexOf_0f7a4 (Or.inr ⟨_, rfl, hw_w1, rfl⟩) rfl rfl ⟨by show _ ≤ _; simp only [rmD]; omega, by show _ ≤ _; simp only [rmD]; omega⟩ (Nat.le_of_ble_eq_true rfl) ⟨Nat.zero_le _, Nat.zero_le _⟩ (conv_J0_indexOf_0f7a4 l N w1 hw_w1 _ _) (fun r4 _ => ?_)
    refine J_if_ge (tgt := 21) dX6_take_16 (by decide) (fun c5 => ?_) (fun c5 => ?_)
    · refine J_aload_n (i := 0) dX6_take_21 rfl rfl ?_
      refine J_dup dX6_take_22 rfl ?_
      refine J_getI dX6_take_23 fl_RX6_30 shv_29_6 ?_
      refine J_iconst (v := (1 : Int32)) dX6_take_26 (by decide) ?_
      refine J_iadd dX6_take_27 ?_
      refine J_putI dX6_take_28 fp_RX6_30 (fun h => by first | rfl | cases h) shv_29_6 rfl rfl ?_
      refine J_letM rfl (fun s6 => ?_)
      refine J_iload_n (i := 2) dX6_take_31 rfl rfl ?_
      exact J_ireturn dX6_take_32 rfl rfl rfl
    · refine J_iconst (v := (-1 : Int32)) dX6_take_19 (by decide) ?_
      exact J_ireturn dX6_take_20 rfl rfl rfl

set_option maxRecDepth 100000 in
set_option maxHeartbeats 4000000 in
theorem conv_X6_isDigit (l : Launch) (a0 : Int32) (s0 : jM) : Con l (1) yX6_isDigit cX6_isDigit 1 (Option.some Jvm.ClassFile.FieldType.boolean) (eI shv s0) shv [.int a0] s0 (f_X6_isDigit a0) := by
  refine Con_of (ls0 := [some (.int a0)]) (ini := false) (mc := 0) (ms := 0) (by decide +kernel) rfl (Nat.le_of_ble_eq_true rfl) (fun h => by cases h) (fun _ _ => rfl) ?_
  unfold f_X6_isDigit
  refine J_join (P := fun j => ∀ (_ : Unit), J l RX6 cX6_isDigit 1 (Option.some Jvm.ClassFile.FieldType.boolean) false (rmD (1) 0 0) noCx (eI shv s0) shv 0 0 s0 16 [none] [] (j ())) ?_ (fun j1 hj1 => ?_)
  · intro _
    refine J_iconst (v := (0 : Int32)) dX6_isDigit_16 (by decide) ?_
    exact J_ireturn dX6_isDigit_17 rfl rfl rfl
  refine J_iload_n (i := 0) dX6_isDigit_0 rfl rfl ?_
  refine J_bipush (v := (48 : Int32)) dX6_isDigit_1 (by decide) ?_
  refine J_icmp_lt (tgt := 16) dX6_isDigit_3 (by decide) (fun c2 => ?_) (fun c2 => ?_)
  · refine J_sub (l1 := [none]) trivial ?_
    exact hj1 ()
  · refine J_iload_n (i := 0) dX6_isDigit_6 rfl rfl ?_
    refine J_bipush (v := (57 : Int32)) dX6_isDigit_7 (by decide) ?_
    refine J_icmp_gt (tgt := 16) dX6_isDigit_9 (by decide) (fun c3 => ?_) (fun c3 => ?_)
    · refine J_sub (l1 := [none]) trivial ?_
      exact hj1 ()
    · refine J_iconst (v := (1 : Int32)) dX6_isDigit_12 (by decide) ?_
      refine J_goto (tgt := 17) dX6_isDigit_13 (by decide) ?_
      exact J_ireturn dX6_isDigit_17 rfl rfl rfl

set_option maxRecDepth 100000 in
set_option maxHeartbeats 4000000 in
theorem conv_X6_addSign (l : Launch) (a1 : Int32) (a2 : Int32) (s0 : jM) : Con l (1) yX6_addSign cX6_addSign 3 (Option.none : Option Jvm.ClassFile.FieldType) (eV shv) shv [.ref 29, .int a1, .int a2] s0 (f_X6_addSign a1 a2 s0) := by
  refine Con_of (ls0 := [some (.ref 29), some (.int a1), some (.int a2)]) (ini := false) (mc := 0) (ms := 0) (by decide +kernel) rfl (Nat.le_of_ble_eq_true rfl) (fun h => by cases h) (fun _ _ => rfl) ?_
  unfold f_X6_addSign
  refine J_aload_n (i := 0) dX6_addSign_0 rfl rfl ?_
  refine J_getI dX6_addSign_1 fl_RX6_34 shv_29_3 ?_
  refine J_bipush (v := (40 : Int32)) dX6_addSign_4 (by decide) ?_
  refine J_icmp_ge (tgt := 39) dX6_addSign_6 (by decide) (fun c1 => ?_) (fun c1 => ?_)
  · exact J_return dX6_addSign_39 rfl rfl
  · refine J_aload_n (i := 0) dX6_addSign_9 rfl rfl ?_
    refine J_getR dX6_addSign_10 fl_RX6_9 shv_29_1 ?_
    refine J_aload_n (i := 0) dX6_addSign_13 rfl rfl ?_
    refine J_getI dX6_addSign_14 fl_RX6_34 shv_29_3 ?_
    refine J_iload_n (i := 1) dX6_addSign_17 rfl rfl ?_
    refine J_cast dX6_addSign_18 sav_30 ?_
    refine J_letM rfl (fun s2 => ?_)
    refine J_aload_n (i := 0) dX6_addSign_19 rfl rfl ?_
    refine J_getR dX6_addSign_20 fl_RX6_15 shv_29_2 ?_
    refine J_aload_n (i := 0) dX6_addSign_23 rfl rfl ?_
    refine J_getI dX6_addSign_24 fl_RX6_34 shv_29_3 ?_
    refine J_iload_n (i := 2) dX6_addSign_27 rfl rfl ?_
    refine J_iast dX6_addSign_28 sav_31 ?_
    refine J_letM rfl (fun s3 => ?_)
    refine J_aload_n (i := 0) dX6_addSign_29 rfl rfl ?_
    refine J_dup dX6_addSign_30 rfl ?_
    refine J_getI dX6_addSign_31 fl_RX6_34 shv_29_3 ?_
    refine J_iconst (v := (1 : Int32)) dX6_addSign_34 (by decide) ?_
    refine J_iadd dX6_addSign_35 ?_
    refine J_putI dX6_addSign_36 fp_RX6_34 (fun h => by first | rfl | cases h) shv_29_3 rfl rfl ?_
    refine J_letM rfl (fun s4 => ?_)
    exact J_return dX6_addSign_39 rfl rfl

set_option maxRecDepth 100000 in
set_option maxHeartbeats 4000000 in
theorem conv_X6_setFlaw (l : Launch) (a1 : Int32) (a2 : Int32) (s0 : jM) : Con l (1) yX6_setFlaw cX6_setFlaw 3 (Option.none : Option Jvm.ClassFile.FieldType) (eV shv) shv [.ref 29, .int a1, .int a2] s0 (f_X6_setFlaw a1 a2 s0) := by
  refine Con_of (ls0 := [some (.ref 29), some (.int a1), some (.int a2)]) (ini := false) (mc := 0) (ms := 0) (by decide +kernel) rfl (Nat.le_of_ble_eq_true rfl) (fun h => by cases h) (fun _ _ => rfl) ?_
  unfold f_X6_setFlaw
  refine J_aload_n (i := 0) dX6_setFlaw_0 rfl rfl ?_
  refine J_getI dX6_setFlaw_1 fl_RX6_37 shv_29_7 ?_
  refine J_iconst (v := (-1 : Int32)) dX6_setFlaw_4 (by decide) ?_
  refine J_icmp_ne (tgt := 18) dX6_setFlaw_5 (by decide) (fun c1 => ?_) (fun c1 => ?_)
  · exact J_return dX6_setFlaw_18 rfl rfl
  · refine J_aload_n (i := 0) dX6_setFlaw_8 rfl rfl ?_
    refine J_bipush (v := (10 : Int32)) dX6_setFlaw_9 (by decide) ?_
    refine J_iload_n (i := 1) dX6_setFlaw_11 rfl rfl ?_
    refine J_imul dX6_setFlaw_12 ?_
    refine J_iload_n (i := 2) dX6_setFlaw_13 rfl rfl ?_
    refine J_iadd dX6_setFlaw_14 ?_
    refine J_putI dX6_setFlaw_15 fp_RX6_37 (fun h => by first | rfl | cases h) shv_29_7 rfl rfl ?_
    refine J_letM rfl (fun s2 => ?_)
    exact J_return dX6_setFlaw_18 rfl rfl

set_option maxRecDepth 100000 in
set_option maxHeartbeats 4000000 in
theorem lp_X6_readDigits_7_okv (l : Launch) (N : Nat)  (x1 : Int32) (k4 : Int32 → jM → Option jM) (k7 : jM → Option jM) (hk4 : ∀ (x2 : Int32) (s3 : jM), J l RX6 cX6_readDigits 3 (Option.none : Option Jvm.ClassFile.FieldType) false (rmD (2) 0 0) noCx (eV shv) shv 0 0 s3 78 [some (.ref 29), none, some (.int x2)] [] (k4 x2 s3)) (hk7 : ∀ (s6 : jM), J l RX6 cX6_readDigits 3 (Option.none : Option Jvm.ClassFile.FieldType) false (rmD (2) 0 0) noCx (eV shv) shv 0 0 s6 41 [some (.ref 29), some (.int x1), none] [] (k7 s6)) : ∀ (q : Nat) (x9 : Int32) (s10 : jM), J l RX6 cX6_readDigits 3 (Option.none : Option Jvm.ClassFile.FieldType) false (rmD (2) 0 0) noCx (eV shv) shv 0 0 s10 7 [some (.ref 29), some (.int x1), some (.int x9)] [] (lp_X6_readDigits_7 N x1 k4 k7 q x9 s10) := by
  intro q
  induction q with
  | zero => intro x9 s10; exact J_none
  | succ q hrec11 =>
    intro x9 s10
    rw [lp_X6_readDigits_7]
    refine J_aload_n (i := 0) dX6_readDigits_7 rfl rfl ?_
    refine J_getI dX6_readDigits_8 fl_RX6_30 shv_29_6 ?_
    refine J_bipush (v := (40 : Int32)) dX6_readDigits_11 (by decide) ?_
    refine J_icmp_ge (tgt := 78) dX6_readDigits_13 (by decide) (fun c12 => ?_) (fun c12 => ?_)
    · refine J_sub (l1 := [some (.ref 29), none, some (.int x9)]) ⟨rfl, ⟨rfl, trivial⟩⟩ ?_
      exact hk4 x9 s10
    · refine J_aload_n (i := 0) dX6_readDigits_16 rfl rfl ?_
      refine J_aload_n (i := 0) dX6_readDigits_17 rfl rfl ?_
      refine J_getI dX6_readDigits_18 fl_RX6_30 shv_29_6 ?_
      refine J_callVI 29 [.int (gI s10 29 6)] dX6_readDigits_21 ca_X6_signAt lk_RX6_117 vi_X6_signAt rcv_29 rfl rfl ⟨by show _ ≤ _; simp only [rmD]; omega, by show _ ≤ _; simp only [rmD]; omega⟩ (Nat.le_of_ble_eq_true rfl) ⟨Nat.zero_le _, Nat.zero_le _⟩ (conv_X6_signAt l _ _) (fun r13 _ => ?_)
      refine J_callSI [.int r13] dX6_readDigits_24 ca_X6_isDigit lk_RX6_99 st_X6_isDigit rfl rfl ⟨by show _ ≤ _; simp only [rmD]; omega, by show _ ≤ _; simp only [rmD]; omega⟩ (Nat.le_of_ble_eq_true rfl) ⟨Nat.zero_le _, Nat.zero_le _⟩ (conv_X6_isDigit l _ _) (fun r14 _ => ?_)
      refine J_if_eq (tgt := 78) dX6_readDigits_27 (by decide) (fun c15 => ?_) (fun c15 => ?_)
      · refine J_sub (l1 := [some (.ref 29), none, some (.int x9)]) ⟨rfl, ⟨rfl, trivial⟩⟩ ?_
        exact hk4 x9 s10
      · refine J_aload_n (i := 0) dX6_readDigits_30 rfl rfl ?_
        refine J_getI dX6_readDigits_31 fl_RX6_30 shv_29_6 ?_
        refine J_iload_n (i := 1) dX6_readDigits_34 rfl rfl ?_
        refine J_isub dX6_readDigits_35 ?_
        refine J_bipush (v := (6 : Int32)) dX6_readDigits_36 (by decide) ?_
        refine J_icmp_lt (tgt := 48) dX6_readDigits_38 (by decide) (fun c16 => ?_) (fun c16 => ?_)
        · refine J_bipush (v := (10 : Int32)) dX6_readDigits_48 (by decide) ?_
          refine J_iload_n (i := 2) dX6_readDigits_50 rfl rfl ?_
          refine J_imul dX6_readDigits_51 ?_
          refine J_aload_n (i := 0) dX6_readDigits_52 rfl rfl ?_
          refine J_aload_n (i := 0) dX6_readDigits_53 rfl rfl ?_
          refine J_getI dX6_readDigits_54 fl_RX6_30 shv_29_6 ?_
          refine J_callVI 29 [.int (gI s10 29 6)] dX6_readDigits_57 ca_X6_signAt lk_RX6_117 vi_X6_signAt rcv_29 rfl rfl ⟨by show _ ≤ _; simp only [rmD]; omega, by show _ ≤ _; simp only [rmD]; omega⟩ (Nat.le_of_ble_eq_true rfl) ⟨Nat.zero_le _, Nat.zero_le _⟩ (conv_X6_signAt l _ _) (fun r17 _ => ?_)
          refine J_iadd dX6_readDigits_60 ?_
          refine J_bipush (v := (48 : Int32)) dX6_readDigits_61 (by decide) ?_
          refine J_isub dX6_readDigits_63 ?_
          refine J_istore_nN (i := 2) (LS := fun x18 => [some (.ref 29), some (.int x1), some (.int x18)]) dX6_readDigits_64 rfl (fun _ => rfl) (by decide) (fun x18 => ?_)
          refine J_aload_n (i := 0) dX6_readDigits_65 rfl rfl ?_
          refine J_dup dX6_readDigits_66 rfl ?_
          refine J_getI dX6_readDigits_67 fl_RX6_30 shv_29_6 ?_
          refine J_iconst (v := (1 : Int32)) dX6_readDigits_70 (by decide) ?_
          refine J_iadd dX6_readDigits_71 ?_
          refine J_putI dX6_readDigits_72 fp_RX6_30 (fun h => by first | rfl | cases h) shv_29_6 rfl rfl ?_
          refine J_letM rfl (fun s19 => ?_)
          refine J_goto (tgt := 7) dX6_readDigits_75 (by decide) ?_
          refine J_sub (l1 := [some (.ref 29), some (.int x1), some (.int x18)]) ⟨rfl, ⟨rfl, ⟨rfl, trivial⟩⟩⟩ ?_
          exact hrec11 x18 s19
        · refine J_sub (l1 := [some (.ref 29), some (.int x1), none]) ⟨rfl, ⟨rfl, trivial⟩⟩ ?_
          exact hk7 s10
set_option maxRecDepth 100000 in
set_option maxHeartbeats 4000000 in
theorem conv_X6_readDigits (l : Launch) (N : Nat) (s0 : jM) : Con l (2) yX6_readDigits cX6_readDigits 3 (Option.none : Option Jvm.ClassFile.FieldType) (eV shv) shv [.ref 29] s0 (f_X6_readDigits N s0) := by
  refine Con_of (ls0 := [some (.ref 29), none, none]) (ini := false) (mc := 0) (ms := 0) (by decide +kernel) rfl (Nat.le_of_ble_eq_true rfl) (fun h => by cases h) (fun _ _ => rfl) ?_
  unfold f_X6_readDigits
  refine J_aload_n (i := 0) dX6_readDigits_0 rfl rfl ?_
  refine J_getI dX6_readDigits_1 fl_RX6_30 shv_29_6 ?_
  refine J_istore_nN (i := 1) (LS := fun x1 => [some (.ref 29), some (.int x1), none]) dX6_readDigits_4 rfl (fun _ => rfl) (by decide) (fun x1 => ?_)
  refine J_iconst (v := (0 : Int32)) dX6_readDigits_5 (by decide) ?_
  refine J_istore_n (i := 2) (ls2 := [some (.ref 29), some (.int x1), some (.int (0 : Int32))]) dX6_readDigits_6 rfl rfl (by decide) ?_
  refine J_join (P := fun j => ∀ (x2 : Int32) (s3 : jM), J l RX6 cX6_readDigits 3 (Option.none : Option Jvm.ClassFile.FieldType) false (rmD (2) 0 0) noCx (eV shv) shv 0 0 s3 78 [some (.ref 29), none, some (.int x2)] [] (j x2 s3)) ?_ (fun k4 hk4 => ?_)
  · intro x2 s3
    refine J_aload_n (i := 0) dX6_readDigits_78 rfl rfl ?_
    refine J_bipush (v := (35 : Int32)) dX6_readDigits_79 (by decide) ?_
    refine J_iload_n (i := 2) dX6_readDigits_81 rfl rfl ?_
    refine J_callVV 29 [.int (35 : Int32), .int x2] dX6_readDigits_82 ca_X6_addSign lk_RX6_65 vi_X6_addSign rcv_29 rfl rfl ⟨by show _ ≤ _; simp only [rmD]; omega, by show _ ≤ _; simp only [rmD]; omega⟩ (Nat.le_of_ble_eq_true rfl) ⟨Nat.zero_le _, Nat.zero_le _⟩ (conv_X6_addSign l _ _ _) (fun r5 _ => ?_)
    exact J_return dX6_readDigits_85 rfl rfl
  refine J_join (P := fun j => ∀ (s6 : jM), J l RX6 cX6_readDigits 3 (Option.none : Option Jvm.ClassFile.FieldType) false (rmD (2) 0 0) noCx (eV shv) shv 0 0 s6 41 [some (.ref 29), some (.int x1), none] [] (j s6)) ?_ (fun k7 hk7 => ?_)
  · intro s6
    refine J_aload_n (i := 0) dX6_readDigits_41 rfl rfl ?_
    refine J_iload_n (i := 1) dX6_readDigits_42 rfl rfl ?_
    refine J_iconst (v := (2 : Int32)) dX6_readDigits_43 (by decide) ?_
    refine J_callVV 29 [.int x1, .int (2 : Int32)] dX6_readDigits_44 ca_X6_setFlaw lk_RX6_52 vi_X6_setFlaw rcv_29 rfl rfl ⟨by show _ ≤ _; simp only [rmD]; omega, by show _ ≤ _; simp only [rmD]; omega⟩ (Nat.le_of_ble_eq_true rfl) ⟨Nat.zero_le _, Nat.zero_le _⟩ (conv_X6_setFlaw l _ _ _) (fun r8 _ => ?_)
    exact J_return dX6_readDigits_47 rfl rfl
  refine J_sub (l1 := [some (.ref 29), some (.int x1), some (.int (0 : Int32))]) ⟨rfl, ⟨rfl, ⟨rfl, trivial⟩⟩⟩ ?_
  exact lp_X6_readDigits_7_okv l N  x1 k4 k7 hk4 hk7 N (0 : Int32) s0

set_option maxRecDepth 100000 in
set_option maxHeartbeats 4000000 in
theorem conv_X6_readOpened (l : Launch) (N : Nat) (rv : Int32 → jM → Option jM) (d0 : Nat) (hd0 : 20 ≤ d0) (hrv : ∀ (a : Int32) (s : jM), Con l d0 yX6_readValue cX6_readValue 3 none (eV shv) shv [.ref 29, .int a] s (rv a s)) (a1 : Int32) (s0 : jM) : Con l (d0 + 1) yX6_readOpened cX6_readOpened 2 (Option.none : Option Jvm.ClassFile.FieldType) (eV shv) shv [.ref 29, .int a1] s0 (f_X6_readOpened N rv a1 s0) := by
  refine Con_of (ls0 := [some (.ref 29), some (.int a1)]) (ini := false) (mc := 0) (ms := 0) (by decide +kernel) rfl (Nat.le_of_ble_eq_true rfl) (fun h => by cases h) (fun _ _ => rfl) ?_
  unfold f_X6_readOpened
  refine J_iload_n (i := 1) dX6_readOpened_0 rfl rfl ?_
  refine J_bipush (v := (8 : Int32)) dX6_readOpened_1 (by decide) ?_
  refine J_icmp_lt (tgt := 16) dX6_readOpened_3 (by decide) (fun c1 => ?_) (fun c1 => ?_)
  · refine J_aload_n (i := 0) dX6_readOpened_16 rfl rfl ?_
    refine J_dup dX6_readOpened_17 rfl ?_
    refine J_getI dX6_readOpened_18 fl_RX6_30 shv_29_6 ?_
    refine J_iconst (v := (1 : Int32)) dX6_readOpened_21 (by decide) ?_
    refine J_iadd dX6_readOpened_22 ?_
    refine J_putI dX6_readOpened_23 fp_RX6_30 (fun h => by first | rfl | cases h) shv_29_6 rfl rfl ?_
    refine J_letM rfl (fun s2 => ?_)
    refine J_aload_n (i := 0) dX6_readOpened_26 rfl rfl ?_
    refine J_iload_n (i := 1) dX6_readOpened_27 rfl rfl ?_
    refine J_iconst (v := (1 : Int32)) dX6_readOpened_28 (by decide) ?_
    refine J_iadd dX6_readOpened_29 ?_
    refine J_callVV 29 [.int (a1 + (1 : Int32))] dX6_readOpened_30 ca_X6_readValue lk_RX6_44 vi_X6_readValue rcv_29 rfl rfl ⟨by show _ ≤ _; simp only [rmD]; omega, by show _ ≤ _; simp only [rmD]; omega⟩ (Nat.le_of_ble_eq_true rfl) ⟨Nat.zero_le _, Nat.zero_le _⟩ (hrv _ _) (fun r3 _ => ?_)
    refine J_aload_n (i := 0) dX6_readOpened_33 rfl rfl ?_
    refine J_ldcS (i := 1) dX6_readOpened_34 sr_1 ?_
    refine J_callVIM 29 [.ref (1000 + 1)] dX6_readOpened_36 ca_X6_take lk_RX6_61 vi_X6_take rcv_29 rfl rfl ⟨by show _ ≤ _; simp only [rmD]; omega, by show _ ≤ _; simp only [rmD]; omega⟩ (Nat.le_of_ble_eq_true rfl) ⟨Nat.zero_le _, Nat.zero_le _⟩ (conv_X6_take l N 1 (by decide) _) (fun r4 _ => ?_)
    refine J_iconst (v := (-1 : Int32)) dX6_readOpened_39 (by decide) ?_
    refine J_icmp_ne (tgt := 52) dX6_readOpened_40 (by decide) (fun c5 => ?_) (fun c5 => ?_)
    · exact J_return dX6_readOpened_52 rfl rfl
    · refine J_aload_n (i := 0) dX6_readOpened_43 rfl rfl ?_
      refine J_aload_n (i := 0) dX6_readOpened_44 rfl rfl ?_
      refine J_getI dX6_readOpened_45 fl_RX6_30 shv_29_6 ?_
      refine J_iconst (v := (1 : Int32)) dX6_readOpened_48 (by decide) ?_
      refine J_callVV 29 [.int (gI r4.2 29 6), .int (1 : Int32)] dX6_readOpened_49 ca_X6_setFlaw lk_RX6_52 vi_X6_setFlaw rcv_29 rfl rfl ⟨by show _ ≤ _; simp only [rmD]; omega, by show _ ≤ _; simp only [rmD]; omega⟩ (Nat.le_of_ble_eq_true rfl) ⟨Nat.zero_le _, Nat.zero_le _⟩ (conv_X6_setFlaw l _ _ _) (fun r6 _ => ?_)
      exact J_return dX6_readOpened_52 rfl rfl
  · refine J_aload_n (i := 0) dX6_readOpened_6 rfl rfl ?_
    refine J_aload_n (i := 0) dX6_readOpened_7 rfl rfl ?_
    refine J_getI dX6_readOpened_8 fl_RX6_30 shv_29_6 ?_
    refine J_iconst (v := (3 : Int32)) dX6_readOpened_11 (by decide) ?_
    refine J_callVV 29 [.int (gI s0 29 6), .int (3 : Int32)] dX6_readOpened_12 ca_X6_setFlaw lk_RX6_52 vi_X6_setFlaw rcv_29 rfl rfl ⟨by show _ ≤ _; simp only [rmD]; omega, by show _ ≤ _; simp only [rmD]; omega⟩ (Nat.le_of_ble_eq_true rfl) ⟨Nat.zero_le _, Nat.zero_le _⟩ (conv_X6_setFlaw l _ _ _) (fun r7 _ => ?_)
    exact J_return dX6_readOpened_15 rfl rfl

set_option maxRecDepth 100000 in
set_option maxHeartbeats 4000000 in
theorem conv_X6_readBareUnit (l : Launch) (N : Nat) (rv : Int32 → jM → Option jM) (d0 : Nat) (hd0 : 20 ≤ d0) (hrv : ∀ (a : Int32) (s : jM), Con l d0 yX6_readValue cX6_readValue 3 none (eV shv) shv [.ref 29, .int a] s (rv a s)) (a1 : Int32) (s0 : jM) : Con l (d0 + 2) yX6_readBareUnit cX6_readBareUnit 3 (Option.none : Option Jvm.ClassFile.FieldType) (eV shv) shv [.ref 29, .int a1] s0 (f_X6_readBareUnit N rv a1 s0) := by
  refine Con_of (ls0 := [some (.ref 29), some (.int a1), none]) (ini := false) (mc := 0) (ms := 0) (by decide +kernel) rfl (Nat.le_of_ble_eq_true rfl) (fun h => by cases h) (fun _ _ => rfl) ?_
  unfold f_X6_readBareUnit
  refine J_aload_n (i := 0) dX6_readBareUnit_0 rfl rfl ?_
  refine J_callVIM 29 [] dX6_readBareUnit_1 ca_X6_nextSign lk_RX6_48 vi_X6_nextSign rcv_29 rfl rfl ⟨by show _ ≤ _; simp only [rmD]; omega, by show _ ≤ _; simp only [rmD]; omega⟩ (Nat.le_of_ble_eq_true rfl) ⟨Nat.zero_le _, Nat.zero_le _⟩ (conv_X6_nextSign l N _) (fun r1 _ => ?_)
  refine J_istore_nN (i := 2) (LS := fun x2 => [some (.ref 29), some (.int a1), some (.int x2)]) dX6_readBareUnit_4 rfl (fun _ => rfl) (by decide) (fun x2 => ?_)
  refine J_iload_n (i := 2) dX6_readBareUnit_5 rfl rfl ?_
  refine J_callSI [.int x2] dX6_readBareUnit_6 ca_X6_isDigit lk_RX6_99 st_X6_isDigit rfl rfl ⟨by show _ ≤ _; simp only [rmD]; omega, by show _ ≤ _; simp only [rmD]; omega⟩ (Nat.le_of_ble_eq_true rfl) ⟨Nat.zero_le _, Nat.zero_le _⟩ (conv_X6_isDigit l _ _) (fun r3 _ => ?_)
  refine J_if_eq (tgt := 19) dX6_readBareUnit_9 (by decide) (fun c4 => ?_) (fun c4 => ?_)
  · refine J_iload_n (i := 2) dX6_readBareUnit_19 rfl rfl ?_
    refine J_bipush (v := (40 : Int32)) dX6_readBareUnit_20 (by decide) ?_
    refine J_icmp_ne (tgt := 33) dX6_readBareUnit_22 (by decide) (fun c5 => ?_) (fun c5 => ?_)
    · refine J_iload_n (i := 2) dX6_readBareUnit_33 rfl rfl ?_
      refine J_bipush (v := (109 : Int32)) dX6_readBareUnit_34 (by decide) ?_
      refine J_icmp_ne (tgt := 64) dX6_readBareUnit_36 (by decide) (fun c6 => ?_) (fun c6 => ?_)
      · refine J_join (P := fun j => ∀ (_ : Unit), J l RX6 cX6_readBareUnit 3 (Option.none : Option Jvm.ClassFile.FieldType) false (rmD (d0 + 2) 0 0) noCx (eV shv) shv 0 0 r1.2 99 [some (.ref 29), none, none] [] (j ())) ?_ (fun j7 hj7 => ?_)
        · intro _
          refine J_aload_n (i := 0) dX6_readBareUnit_99 rfl rfl ?_
          refine J_aload_n (i := 0) dX6_readBareUnit_100 rfl rfl ?_
          refine J_getI dX6_readBareUnit_101 fl_RX6_30 shv_29_6 ?_
          refine J_iconst (v := (1 : Int32)) dX6_readBareUnit_104 (by decide) ?_
          refine J_callVV 29 [.int (gI r1.2 29 6), .int (1 : Int32)] dX6_readBareUnit_105 ca_X6_setFlaw lk_RX6_52 vi_X6_setFlaw rcv_29 rfl rfl ⟨by show _ ≤ _; simp only [rmD]; omega, by show _ ≤ _; simp only [rmD]; omega⟩ (Nat.le_of_ble_eq_true rfl) ⟨Nat.zero_le _, Nat.zero_le _⟩ (conv_X6_setFlaw l _ _ _) (fun r8 _ => ?_)
          exact J_return dX6_readBareUnit_108 rfl rfl
        refine J_iload_n (i := 2) dX6_readBareUnit_64 rfl rfl ?_
        refine J_iconst (v := (-1 : Int32)) dX6_readBareUnit_65 (by decide) ?_
        refine J_icmp_eq (tgt := 99) dX6_readBareUnit_66 (by decide) (fun c9 => ?_) (fun c9 => ?_)
        · refine J_sub (l1 := [some (.ref 29), none, none]) ⟨rfl, trivial⟩ ?_
          exact hj7 ()
        · refine J_ldcS (i := 2) dX6_readBareUnit_69 sr_2 ?_
          refine J_iload_n (i := 2) dX6_readBareUnit_71 rfl rfl ?_
          refine J_i2c dX6_readBareUnit_72 ?_
          refine J_callVI (1000 + 2) [.int ((Int32.toUInt32 x2 % 65536).toInt32)] dX6_readBareUnit_73 ca_J0_indexOf_0f7a4 lk_RX6_111 vi_J0_indexOf_0f7a4 (Or.inr ⟨_, rfl, (by decide), rfl⟩) rfl rfl ⟨by show _ ≤ _; simp only [rmD]; omega, by show _ ≤ _; simp only [rmD]; omega⟩ (Nat.le_of_ble_eq_true rfl) ⟨Nat.zero_le _, Nat.zero_le _⟩ (conv_J0_indexOf_0f7a4 l N 2 (by decide) _ _) (fun r10 _ => ?_)
          refine J_if_lt (tgt := 99) dX6_readBareUnit_76 (by decide) (fun c11 => ?_) (fun c11 => ?_)
          · refine J_sub (l1 := [some (.ref 29), none, none]) ⟨rfl, trivial⟩ ?_
            exact hj7 ()
          · refine J_aload_n (i := 0) dX6_readBareUnit_79 rfl rfl ?_
            refine J_dup dX6_readBareUnit_80 rfl ?_
            refine J_getI dX6_readBareUnit_81 fl_RX6_30 shv_29_6 ?_
            refine J_iconst (v := (1 : Int32)) dX6_readBareUnit_84 (by decide) ?_
            refine J_iadd dX6_readBareUnit_85 ?_
            refine J_putI dX6_readBareUnit_86 fp_RX6_30 (fun h => by first | rfl | cases h) shv_29_6 rfl rfl ?_
            refine J_letM rfl (fun s12 => ?_)
            refine J_aload_n (i := 0) dX6_readBareUnit_89 rfl rfl ?_
            refine J_iload_n (i := 2) dX6_readBareUnit_90 rfl rfl ?_
            refine J_i2c dX6_readBareUnit_91 ?_
            refine J_iconst (v := (0 : Int32)) dX6_readBareUnit_92 (by decide) ?_
            refine J_callVV 29 [.int ((Int32.toUInt32 x2 % 65536).toInt32), .int (0 : Int32)] dX6_readBareUnit_93 ca_X6_addSign lk_RX6_65 vi_X6_addSign rcv_29 rfl rfl ⟨by show _ ≤ _; simp only [rmD]; omega, by show _ ≤ _; simp only [rmD]; omega⟩ (Nat.le_of_ble_eq_true rfl) ⟨Nat.zero_le _, Nat.zero_le _⟩ (conv_X6_addSign l _ _ _) (fun r13 _ => ?_)
            refine J_goto (tgt := 108) dX6_readBareUnit_96 (by decide) ?_
            exact J_return dX6_readBareUnit_108 rfl rfl
      · refine J_aload_n (i := 0) dX6_readBareUnit_39 rfl rfl ?_
        refine J_iconst (v := (1 : Int32)) dX6_readBareUnit_40 (by decide) ?_
        refine J_putI dX6_readBareUnit_41 fp_RX6_40 (fun h => by first | rfl | cases h) shv_29_8 rfl rfl ?_
        refine J_letM rfl (fun s14 => ?_)
        refine J_aload_n (i := 0) dX6_readBareUnit_44 rfl rfl ?_
        refine J_dup dX6_readBareUnit_45 rfl ?_
        refine J_getI dX6_readBareUnit_46 fl_RX6_30 shv_29_6 ?_
        refine J_iconst (v := (1 : Int32)) dX6_readBareUnit_49 (by decide) ?_
        refine J_iadd dX6_readBareUnit_50 ?_
        refine J_putI dX6_readBareUnit_51 fp_RX6_30 (fun h => by first | rfl | cases h) shv_29_6 rfl rfl ?_
        refine J_letM rfl (fun s15 => ?_)
        refine J_aload_n (i := 0) dX6_readBareUnit_54 rfl rfl ?_
        refine J_bipush (v := (109 : Int32)) dX6_readBareUnit_55 (by decide) ?_
        refine J_iconst (v := (0 : Int32)) dX6_readBareUnit_57 (by decide) ?_
        refine J_callVV 29 [.int (109 : Int32), .int (0 : Int32)] dX6_readBareUnit_58 ca_X6_addSign lk_RX6_65 vi_X6_addSign rcv_29 rfl rfl ⟨by show _ ≤ _; simp only [rmD]; omega, by show _ ≤ _; simp only [rmD]; omega⟩ (Nat.le_of_ble_eq_true rfl) ⟨Nat.zero_le _, Nat.zero_le _⟩ (conv_X6_addSign l _ _ _) (fun r16 _ => ?_)
        refine J_goto (tgt := 108) dX6_readBareUnit_61 (by decide) ?_
        exact J_return dX6_readBareUnit_108 rfl rfl
    · refine J_aload_n (i := 0) dX6_readBareUnit_25 rfl rfl ?_
      refine J_iload_n (i := 1) dX6_readBareUnit_26 rfl rfl ?_
      refine J_callVV 29 [.int a1] dX6_readBareUnit_27 ca_X6_readOpened lk_RX6_106 vi_X6_readOpened rcv_29 rfl rfl ⟨by show _ ≤ _; simp only [rmD]; omega, by show _ ≤ _; simp only [rmD]; omega⟩ (Nat.le_of_ble_eq_true rfl) ⟨Nat.zero_le _, Nat.zero_le _⟩ (conv_X6_readOpened l N rv d0 hd0 hrv _ _) (fun r17 _ => ?_)
      refine J_goto (tgt := 108) dX6_readBareUnit_30 (by decide) ?_
      exact J_return dX6_readBareUnit_108 rfl rfl
  · refine J_aload_n (i := 0) dX6_readBareUnit_12 rfl rfl ?_
    refine J_callVV 29 [] dX6_readBareUnit_13 ca_X6_readDigits lk_RX6_103 vi_X6_readDigits rcv_29 rfl rfl ⟨by show _ ≤ _; simp only [rmD]; omega, by show _ ≤ _; simp only [rmD]; omega⟩ (Nat.le_of_ble_eq_true rfl) ⟨Nat.zero_le _, Nat.zero_le _⟩ (conv_X6_readDigits l N _) (fun r18 _ => ?_)
    refine J_goto (tgt := 108) dX6_readBareUnit_16 (by decide) ?_
    exact J_return dX6_readBareUnit_108 rfl rfl

set_option maxRecDepth 100000 in
set_option maxHeartbeats 4000000 in
theorem lp_X6_readUnit_57_okv (l : Launch) (N : Nat) (rv : Int32 → jM → Option jM) (d0 : Nat) (hd0 : 20 ≤ d0) (hrv : ∀ (a : Int32) (s : jM), Con l d0 yX6_readValue cX6_readValue 3 none (eV shv) shv [.ref 29, .int a] s (rv a s))  (x1 : Int32)  : ∀ (q : Nat) (x9 : Int32) (s10 : jM), J l RX6 cX6_readUnit 6 (Option.none : Option Jvm.ClassFile.FieldType) false (rmD (d0 + 3) 0 0) noCx (eV shv) shv 0 0 s10 57 [some (.ref 29), none, some (.int x1), none, none, some (.int x9)] [] (lp_X6_readUnit_57 N rv x1 q x9 s10) := by
  intro q
  induction q with
  | zero => intro x9 s10; exact J_none
  | succ q hrec11 =>
    intro x9 s10
    rw [lp_X6_readUnit_57]
    refine J_iload (i := 5) dX6_readUnit_57 rfl ?_
    refine J_iload_n (i := 2) dX6_readUnit_59 rfl rfl ?_
    refine J_icmp_lt (tgt := 128) dX6_readUnit_60 (by decide) (fun c12 => ?_) (fun c12 => ?_)
    · exact J_return dX6_readUnit_128 rfl rfl
    · refine J_iload (i := 5) dX6_readUnit_63 rfl ?_
      refine J_if_lt (tgt := 128) dX6_readUnit_65 (by decide) (fun c13 => ?_) (fun c13 => ?_)
      · exact J_return dX6_readUnit_128 rfl rfl
      · refine J_iload (i := 5) dX6_readUnit_68 rfl ?_
        refine J_bipush (v := (40 : Int32)) dX6_readUnit_70 (by decide) ?_
        refine J_icmp_ge (tgt := 128) dX6_readUnit_72 (by decide) (fun c14 => ?_) (fun c14 => ?_)
        · exact J_return dX6_readUnit_128 rfl rfl
        · refine J_join (P := fun j => ∀ (s15 : jM), J l RX6 cX6_readUnit 6 (Option.none : Option Jvm.ClassFile.FieldType) false (rmD (d0 + 3) 0 0) noCx (eV shv) shv 0 0 s15 122 [some (.ref 29), none, some (.int x1), none, none, some (.int x9)] [] (j s15)) ?_ (fun j16 hj16 => ?_)
          · intro s15
            refine J_iincN (i := 5) (v := x9 + (-1 : Int32)) (LS := fun x17 => [some (.ref 29), none, some (.int x1), none, none, some (.int x17)]) dX6_readUnit_122 rfl (by first | rfl | decide) (fun _ => rfl) (by decide) (fun x17 => ?_)
            refine J_goto (tgt := 57) dX6_readUnit_125 (by decide) ?_
            refine J_sub (l1 := [some (.ref 29), none, some (.int x1), none, none, some (.int x17)]) ⟨rfl, ⟨rfl, ⟨rfl, trivial⟩⟩⟩ ?_
            exact hrec11 x17 s15
          refine J_aload_n (i := 0) dX6_readUnit_75 rfl rfl ?_
          refine J_getR dX6_readUnit_76 fl_RX6_23 shv_29_0 ?_
          refine J_getR dX6_readUnit_79 fl_RX6_94 shv_1_7 ?_
          refine J_iload (i := 5) dX6_readUnit_82 rfl ?_
          refine J_cald dX6_readUnit_84 sav_6 ?_
          refine J_bipush (v := (33 : Int32)) dX6_readUnit_85 (by decide) ?_
          refine J_icmp_ne (tgt := 100) dX6_readUnit_87 (by decide) (fun c18 => ?_) (fun c18 => ?_)
          · refine J_aload_n (i := 0) dX6_readUnit_100 rfl rfl ?_
            refine J_getR dX6_readUnit_101 fl_RX6_23 shv_29_0 ?_
            refine J_getR dX6_readUnit_104 fl_RX6_94 shv_1_7 ?_
            refine J_iload (i := 5) dX6_readUnit_107 rfl ?_
            refine J_cald dX6_readUnit_109 sav_6 ?_
            refine J_bipush (v := (45 : Int32)) dX6_readUnit_110 (by decide) ?_
            refine J_icmp_ne (tgt := 122) dX6_readUnit_112 (by decide) (fun c19 => ?_) (fun c19 => ?_)
            · refine J_sub (l1 := [some (.ref 29), none, some (.int x1), none, none, some (.int x9)]) ⟨rfl, ⟨rfl, ⟨rfl, trivial⟩⟩⟩ ?_
              exact hj16 s10
            · refine J_aload_n (i := 0) dX6_readUnit_115 rfl rfl ?_
              refine J_bipush (v := (126 : Int32)) dX6_readUnit_116 (by decide) ?_
              refine J_iconst (v := (0 : Int32)) dX6_readUnit_118 (by decide) ?_
              refine J_callVV 29 [.int (126 : Int32), .int (0 : Int32)] dX6_readUnit_119 ca_X6_addSign lk_RX6_65 vi_X6_addSign rcv_29 rfl rfl ⟨by show _ ≤ _; simp only [rmD]; omega, by show _ ≤ _; simp only [rmD]; omega⟩ (Nat.le_of_ble_eq_true rfl) ⟨Nat.zero_le _, Nat.zero_le _⟩ (conv_X6_addSign l _ _ _) (fun r20 _ => ?_)
              refine J_sub (l1 := [some (.ref 29), none, some (.int x1), none, none, some (.int x9)]) ⟨rfl, ⟨rfl, ⟨rfl, trivial⟩⟩⟩ ?_
              exact hj16 r20
          · refine J_aload_n (i := 0) dX6_readUnit_90 rfl rfl ?_
            refine J_bipush (v := (33 : Int32)) dX6_readUnit_91 (by decide) ?_
            refine J_iconst (v := (0 : Int32)) dX6_readUnit_93 (by decide) ?_
            refine J_callVV 29 [.int (33 : Int32), .int (0 : Int32)] dX6_readUnit_94 ca_X6_addSign lk_RX6_65 vi_X6_addSign rcv_29 rfl rfl ⟨by show _ ≤ _; simp only [rmD]; omega, by show _ ≤ _; simp only [rmD]; omega⟩ (Nat.le_of_ble_eq_true rfl) ⟨Nat.zero_le _, Nat.zero_le _⟩ (conv_X6_addSign l _ _ _) (fun r21 _ => ?_)
            refine J_goto (tgt := 122) dX6_readUnit_97 (by decide) ?_
            refine J_sub (l1 := [some (.ref 29), none, some (.int x1), none, none, some (.int x9)]) ⟨rfl, ⟨rfl, ⟨rfl, trivial⟩⟩⟩ ?_
            exact hj16 r21
set_option maxRecDepth 100000 in
set_option maxHeartbeats 4000000 in
theorem lp_X6_readUnit_15_okv (l : Launch) (N : Nat) (rv : Int32 → jM → Option jM) (d0 : Nat) (hd0 : 20 ≤ d0) (hrv : ∀ (a : Int32) (s : jM), Con l d0 yX6_readValue cX6_readValue 3 none (eV shv) shv [.ref 29, .int a] s (rv a s))  (k5 : jM → Option jM) (a1 : Int32) (x1 : Int32) (hk5 : ∀ (s4 : jM), J l RX6 cX6_readUnit 6 (Option.none : Option Jvm.ClassFile.FieldType) false (rmD (d0 + 3) 0 0) noCx (eV shv) shv 0 0 s4 40 [some (.ref 29), some (.int a1), some (.int x1), none, none, none] [] (k5 s4)) : ∀ (q : Nat) (x22 : Int32) (x23 : Int32) (s24 : jM), J l RX6 cX6_readUnit 6 (Option.none : Option Jvm.ClassFile.FieldType) false (rmD (d0 + 3) 0 0) noCx (eV shv) shv 0 0 s24 15 [some (.ref 29), some (.int a1), some (.int x1), some (.int x22), some (.int x23), none] [] (lp_X6_readUnit_15 N rv k5 q x22 x23 s24) := by
  intro q
  induction q with
  | zero => intro x22 x23 s24; exact J_none
  | succ q hrec25 =>
    intro x22 x23 s24
    rw [lp_X6_readUnit_15]
    refine J_iload (i := 4) dX6_readUnit_15 rfl ?_
    refine J_bipush (v := (40 : Int32)) dX6_readUnit_17 (by decide) ?_
    refine J_icmp_ge (tgt := 40) dX6_readUnit_19 (by decide) (fun c26 => ?_) (fun c26 => ?_)
    · refine J_sub (l1 := [some (.ref 29), some (.int a1), some (.int x1), none, none, none]) ⟨rfl, ⟨rfl, ⟨rfl, trivial⟩⟩⟩ ?_
      exact hk5 s24
    · refine J_iload_n (i := 3) dX6_readUnit_22 rfl rfl ?_
      refine J_iconst (v := (-1 : Int32)) dX6_readUnit_23 (by decide) ?_
      refine J_icmp_eq (tgt := 40) dX6_readUnit_24 (by decide) (fun c27 => ?_) (fun c27 => ?_)
      · refine J_sub (l1 := [some (.ref 29), some (.int a1), some (.int x1), none, none, none]) ⟨rfl, ⟨rfl, ⟨rfl, trivial⟩⟩⟩ ?_
        exact hk5 s24
      · refine J_aload_n (i := 0) dX6_readUnit_27 rfl rfl ?_
        refine J_ldcS (i := 0) dX6_readUnit_28 sr_0 ?_
        refine J_callVIM 29 [.ref (1000 + 0)] dX6_readUnit_30 ca_X6_take lk_RX6_61 vi_X6_take rcv_29 rfl rfl ⟨by show _ ≤ _; simp only [rmD]; omega, by show _ ≤ _; simp only [rmD]; omega⟩ (Nat.le_of_ble_eq_true rfl) ⟨Nat.zero_le _, Nat.zero_le _⟩ (conv_X6_take l N 0 (by decide) _) (fun r28 _ => ?_)
        refine J_istore_nN (i := 3) (LS := fun x29 => [some (.ref 29), some (.int a1), some (.int x1), some (.int x29), some (.int x23), none]) dX6_readUnit_33 rfl (fun _ => rfl) (by decide) (fun x29 => ?_)
        refine J_iincN (i := 4) (v := x23 + (1 : Int32)) (LS := fun x30 => [some (.ref 29), some (.int a1), some (.int x1), some (.int x29), some (.int x30), none]) dX6_readUnit_34 rfl (by first | rfl | decide) (fun _ => rfl) (by decide) (fun x30 => ?_)
        refine J_goto (tgt := 15) dX6_readUnit_37 (by decide) ?_
        refine J_sub (l1 := [some (.ref 29), some (.int a1), some (.int x1), some (.int x29), some (.int x30), none]) ⟨rfl, ⟨rfl, ⟨rfl, ⟨rfl, ⟨rfl, trivial⟩⟩⟩⟩⟩ ?_
        exact hrec25 x29 x30 r28.2
set_option maxRecDepth 100000 in
set_option maxHeartbeats 4000000 in
theorem conv_X6_readUnit (l : Launch) (N : Nat) (rv : Int32 → jM → Option jM) (d0 : Nat) (hd0 : 20 ≤ d0) (hrv : ∀ (a : Int32) (s : jM), Con l d0 yX6_readValue cX6_readValue 3 none (eV shv) shv [.ref 29, .int a] s (rv a s)) (a1 : Int32) (s0 : jM) : Con l (d0 + 3) yX6_readUnit cX6_readUnit 6 (Option.none : Option Jvm.ClassFile.FieldType) (eV shv) shv [.ref 29, .int a1] s0 (f_X6_readUnit N rv a1 s0) := by
  refine Con_of (ls0 := [some (.ref 29), some (.int a1), none, none, none, none]) (ini := false) (mc := 0) (ms := 0) (by decide +kernel) rfl (Nat.le_of_ble_eq_true rfl) (fun h => by cases h) (fun _ _ => rfl) ?_
  unfold f_X6_readUnit
  refine J_aload_n (i := 0) dX6_readUnit_0 rfl rfl ?_
  refine J_getI dX6_readUnit_1 fl_RX6_30 shv_29_6 ?_
  refine J_istore_nN (i := 2) (LS := fun x1 => [some (.ref 29), some (.int a1), some (.int x1), none, none, none]) dX6_readUnit_4 rfl (fun _ => rfl) (by decide) (fun x1 => ?_)
  refine J_aload_n (i := 0) dX6_readUnit_5 rfl rfl ?_
  refine J_ldcS (i := 0) dX6_readUnit_6 sr_0 ?_
  refine J_callVIM 29 [.ref (1000 + 0)] dX6_readUnit_8 ca_X6_take lk_RX6_61 vi_X6_take rcv_29 rfl rfl ⟨by show _ ≤ _; simp only [rmD]; omega, by show _ ≤ _; simp only [rmD]; omega⟩ (Nat.le_of_ble_eq_true rfl) ⟨Nat.zero_le _, Nat.zero_le _⟩ (conv_X6_take l N 0 (by decide) _) (fun r2 _ => ?_)
  refine J_istore_nN (i := 3) (LS := fun x3 => [some (.ref 29), some (.int a1), some (.int x1), some (.int x3), none, none]) dX6_readUnit_11 rfl (fun _ => rfl) (by decide) (fun x3 => ?_)
  refine J_iconst (v := (0 : Int32)) dX6_readUnit_12 (by decide) ?_
  refine J_istore (i := 4) (ls2 := [some (.ref 29), some (.int a1), some (.int x1), some (.int x3), some (.int (0 : Int32)), none]) dX6_readUnit_13 rfl (by decide) ?_
  refine J_join (P := fun j => ∀ (s4 : jM), J l RX6 cX6_readUnit 6 (Option.none : Option Jvm.ClassFile.FieldType) false (rmD (d0 + 3) 0 0) noCx (eV shv) shv 0 0 s4 40 [some (.ref 29), some (.int a1), some (.int x1), none, none, none] [] (j s4)) ?_ (fun k5 hk5 => ?_)
  · intro s4
    refine J_aload_n (i := 0) dX6_readUnit_40 rfl rfl ?_
    refine J_getI dX6_readUnit_41 fl_RX6_30 shv_29_6 ?_
    refine J_istoreN (i := 4) (LS := fun x6 => [some (.ref 29), some (.int a1), some (.int x1), none, some (.int x6), none]) dX6_readUnit_44 (fun _ => rfl) (by decide) (fun x6 => ?_)
    refine J_aload_n (i := 0) dX6_readUnit_46 rfl rfl ?_
    refine J_iload_n (i := 1) dX6_readUnit_47 rfl rfl ?_
    refine J_callVV 29 [.int a1] dX6_readUnit_48 ca_X6_readBareUnit lk_RX6_91 vi_X6_readBareUnit rcv_29 rfl rfl ⟨by show _ ≤ _; simp only [rmD]; omega, by show _ ≤ _; simp only [rmD]; omega⟩ (Nat.le_of_ble_eq_true rfl) ⟨Nat.zero_le _, Nat.zero_le _⟩ (conv_X6_readBareUnit l N rv d0 hd0 hrv _ _) (fun r7 _ => ?_)
    refine J_iload (i := 4) dX6_readUnit_51 rfl ?_
    refine J_iconst (v := (1 : Int32)) dX6_readUnit_53 (by decide) ?_
    refine J_isub dX6_readUnit_54 ?_
    refine J_istoreN (i := 5) (LS := fun x8 => [some (.ref 29), some (.int a1), some (.int x1), none, some (.int x6), some (.int x8)]) dX6_readUnit_55 (fun _ => rfl) (by decide) (fun x8 => ?_)
    refine J_sub (l1 := [some (.ref 29), none, some (.int x1), none, none, some (.int x8)]) ⟨rfl, ⟨rfl, ⟨rfl, trivial⟩⟩⟩ ?_
    exact lp_X6_readUnit_57_okv l N rv d0 hd0 hrv  x1  N x8 r7
  refine J_sub (l1 := [some (.ref 29), some (.int a1), some (.int x1), some (.int x3), some (.int (0 : Int32)), none]) ⟨rfl, ⟨rfl, ⟨rfl, ⟨rfl, ⟨rfl, trivial⟩⟩⟩⟩⟩ ?_
  exact lp_X6_readUnit_15_okv l N rv d0 hd0 hrv  k5 a1 x1 hk5 N x3 (0 : Int32) r2.2

set_option maxRecDepth 100000 in
set_option maxHeartbeats 4000000 in
theorem lp_X6_readTerm_14_okv (l : Launch) (N : Nat) (rv : Int32 → jM → Option jM) (d0 : Nat) (hd0 : 20 ≤ d0) (hrv : ∀ (a : Int32) (s : jM), Con l d0 yX6_readValue cX6_readValue 3 none (eV shv) shv [.ref 29, .int a] s (rv a s))  (a1 : Int32)  : ∀ (q : Nat) (x4 : Int32) (x5 : Int32) (s6 : jM), J l RX6 cX6_readTerm 4 (Option.none : Option Jvm.ClassFile.FieldType) false (rmD (d0 + 4) 0 0) noCx (eV shv) shv 0 0 s6 14 [some (.ref 29), some (.int a1), some (.int x4), some (.int x5)] [] (lp_X6_readTerm_14 N rv a1 q x4 x5 s6) := by
  intro q
  induction q with
  | zero => intro x4 x5 s6; exact J_none
  | succ q hrec7 =>
    intro x4 x5 s6
    rw [lp_X6_readTerm_14]
    refine J_iload_n (i := 3) dX6_readTerm_14 rfl rfl ?_
    refine J_bipush (v := (40 : Int32)) dX6_readTerm_15 (by decide) ?_
    refine J_icmp_ge (tgt := 50) dX6_readTerm_17 (by decide) (fun c8 => ?_) (fun c8 => ?_)
    · exact J_return dX6_readTerm_50 rfl rfl
    · refine J_iload_n (i := 2) dX6_readTerm_20 rfl rfl ?_
      refine J_iconst (v := (-1 : Int32)) dX6_readTerm_21 (by decide) ?_
      refine J_icmp_eq (tgt := 50) dX6_readTerm_22 (by decide) (fun c9 => ?_) (fun c9 => ?_)
      · exact J_return dX6_readTerm_50 rfl rfl
      · refine J_aload_n (i := 0) dX6_readTerm_25 rfl rfl ?_
        refine J_iload_n (i := 1) dX6_readTerm_26 rfl rfl ?_
        refine J_callVV 29 [.int a1] dX6_readTerm_27 ca_X6_readUnit lk_RX6_84 vi_X6_readUnit rcv_29 rfl rfl ⟨by show _ ≤ _; simp only [rmD]; omega, by show _ ≤ _; simp only [rmD]; omega⟩ (Nat.le_of_ble_eq_true rfl) ⟨Nat.zero_le _, Nat.zero_le _⟩ (conv_X6_readUnit l N rv d0 hd0 hrv _ _) (fun r10 _ => ?_)
        refine J_aload_n (i := 0) dX6_readTerm_30 rfl rfl ?_
        refine J_iload_n (i := 2) dX6_readTerm_31 rfl rfl ?_
        refine J_i2c dX6_readTerm_32 ?_
        refine J_iconst (v := (0 : Int32)) dX6_readTerm_33 (by decide) ?_
        refine J_callVV 29 [.int ((Int32.toUInt32 x4 % 65536).toInt32), .int (0 : Int32)] dX6_readTerm_34 ca_X6_addSign lk_RX6_65 vi_X6_addSign rcv_29 rfl rfl ⟨by show _ ≤ _; simp only [rmD]; omega, by show _ ≤ _; simp only [rmD]; omega⟩ (Nat.le_of_ble_eq_true rfl) ⟨Nat.zero_le _, Nat.zero_le _⟩ (conv_X6_addSign l _ _ _) (fun r11 _ => ?_)
        refine J_aload_n (i := 0) dX6_readTerm_37 rfl rfl ?_
        refine J_ldcS (i := 3) dX6_readTerm_38 sr_3 ?_
        refine J_callVIM 29 [.ref (1000 + 3)] dX6_readTerm_40 ca_X6_take lk_RX6_61 vi_X6_take rcv_29 rfl rfl ⟨by show _ ≤ _; simp only [rmD]; omega, by show _ ≤ _; simp only [rmD]; omega⟩ (Nat.le_of_ble_eq_true rfl) ⟨Nat.zero_le _, Nat.zero_le _⟩ (conv_X6_take l N 3 (by decide) _) (fun r12 _ => ?_)
        refine J_istore_nN (i := 2) (LS := fun x13 => [some (.ref 29), some (.int a1), some (.int x13), some (.int x5)]) dX6_readTerm_43 rfl (fun _ => rfl) (by decide) (fun x13 => ?_)
        refine J_iincN (i := 3) (v := x5 + (1 : Int32)) (LS := fun x14 => [some (.ref 29), some (.int a1), some (.int x13), some (.int x14)]) dX6_readTerm_44 rfl (by first | rfl | decide) (fun _ => rfl) (by decide) (fun x14 => ?_)
        refine J_goto (tgt := 14) dX6_readTerm_47 (by decide) ?_
        refine J_sub (l1 := [some (.ref 29), some (.int a1), some (.int x13), some (.int x14)]) ⟨rfl, ⟨rfl, ⟨rfl, ⟨rfl, trivial⟩⟩⟩⟩ ?_
        exact hrec7 x13 x14 r12.2
set_option maxRecDepth 100000 in
set_option maxHeartbeats 4000000 in
theorem conv_X6_readTerm (l : Launch) (N : Nat) (rv : Int32 → jM → Option jM) (d0 : Nat) (hd0 : 20 ≤ d0) (hrv : ∀ (a : Int32) (s : jM), Con l d0 yX6_readValue cX6_readValue 3 none (eV shv) shv [.ref 29, .int a] s (rv a s)) (a1 : Int32) (s0 : jM) : Con l (d0 + 4) yX6_readTerm cX6_readTerm 4 (Option.none : Option Jvm.ClassFile.FieldType) (eV shv) shv [.ref 29, .int a1] s0 (f_X6_readTerm N rv a1 s0) := by
  refine Con_of (ls0 := [some (.ref 29), some (.int a1), none, none]) (ini := false) (mc := 0) (ms := 0) (by decide +kernel) rfl (Nat.le_of_ble_eq_true rfl) (fun h => by cases h) (fun _ _ => rfl) ?_
  unfold f_X6_readTerm
  refine J_aload_n (i := 0) dX6_readTerm_0 rfl rfl ?_
  refine J_iload_n (i := 1) dX6_readTerm_1 rfl rfl ?_
  refine J_callVV 29 [.int a1] dX6_readTerm_2 ca_X6_readUnit lk_RX6_84 vi_X6_readUnit rcv_29 rfl rfl ⟨by show _ ≤ _; simp only [rmD]; omega, by show _ ≤ _; simp only [rmD]; omega⟩ (Nat.le_of_ble_eq_true rfl) ⟨Nat.zero_le _, Nat.zero_le _⟩ (conv_X6_readUnit l N rv d0 hd0 hrv _ _) (fun r1 _ => ?_)
  refine J_aload_n (i := 0) dX6_readTerm_5 rfl rfl ?_
  refine J_ldcS (i := 3) dX6_readTerm_6 sr_3 ?_
  refine J_callVIM 29 [.ref (1000 + 3)] dX6_readTerm_8 ca_X6_take lk_RX6_61 vi_X6_take rcv_29 rfl rfl ⟨by show _ ≤ _; simp only [rmD]; omega, by show _ ≤ _; simp only [rmD]; omega⟩ (Nat.le_of_ble_eq_true rfl) ⟨Nat.zero_le _, Nat.zero_le _⟩ (conv_X6_take l N 3 (by decide) _) (fun r2 _ => ?_)
  refine J_istore_nN (i := 2) (LS := fun x3 => [some (.ref 29), some (.int a1), some (.int x3), none]) dX6_readTerm_11 rfl (fun _ => rfl) (by decide) (fun x3 => ?_)
  refine J_iconst (v := (0 : Int32)) dX6_readTerm_12 (by decide) ?_
  refine J_istore_n (i := 3) (ls2 := [some (.ref 29), some (.int a1), some (.int x3), some (.int (0 : Int32))]) dX6_readTerm_13 rfl rfl (by decide) ?_
  refine J_sub (l1 := [some (.ref 29), some (.int a1), some (.int x3), some (.int (0 : Int32))]) ⟨rfl, ⟨rfl, ⟨rfl, ⟨rfl, trivial⟩⟩⟩⟩ ?_
  exact lp_X6_readTerm_14_okv l N rv d0 hd0 hrv  a1  N x3 (0 : Int32) r2.2

set_option maxRecDepth 100000 in
set_option maxHeartbeats 4000000 in
theorem lp_X6_readSum_14_okv (l : Launch) (N : Nat) (rv : Int32 → jM → Option jM) (d0 : Nat) (hd0 : 20 ≤ d0) (hrv : ∀ (a : Int32) (s : jM), Con l d0 yX6_readValue cX6_readValue 3 none (eV shv) shv [.ref 29, .int a] s (rv a s))  (a1 : Int32)  : ∀ (q : Nat) (x4 : Int32) (x5 : Int32) (s6 : jM), J l RX6 cX6_readSum 4 (Option.none : Option Jvm.ClassFile.FieldType) false (rmD (d0 + 5) 0 0) noCx (eV shv) shv 0 0 s6 14 [some (.ref 29), some (.int a1), some (.int x4), some (.int x5)] [] (lp_X6_readSum_14 N rv a1 q x4 x5 s6) := by
  intro q
  induction q with
  | zero => intro x4 x5 s6; exact J_none
  | succ q hrec7 =>
    intro x4 x5 s6
    rw [lp_X6_readSum_14]
    refine J_iload_n (i := 3) dX6_readSum_14 rfl rfl ?_
    refine J_bipush (v := (40 : Int32)) dX6_readSum_15 (by decide) ?_
    refine J_icmp_ge (tgt := 50) dX6_readSum_17 (by decide) (fun c8 => ?_) (fun c8 => ?_)
    · exact J_return dX6_readSum_50 rfl rfl
    · refine J_iload_n (i := 2) dX6_readSum_20 rfl rfl ?_
      refine J_iconst (v := (-1 : Int32)) dX6_readSum_21 (by decide) ?_
      refine J_icmp_eq (tgt := 50) dX6_readSum_22 (by decide) (fun c9 => ?_) (fun c9 => ?_)
      · exact J_return dX6_readSum_50 rfl rfl
      · refine J_aload_n (i := 0) dX6_readSum_25 rfl rfl ?_
        refine J_iload_n (i := 1) dX6_readSum_26 rfl rfl ?_
        refine J_callVV 29 [.int a1] dX6_readSum_27 ca_X6_readTerm lk_RX6_79 vi_X6_readTerm rcv_29 rfl rfl ⟨by show _ ≤ _; simp only [rmD]; omega, by show _ ≤ _; simp only [rmD]; omega⟩ (Nat.le_of_ble_eq_true rfl) ⟨Nat.zero_le _, Nat.zero_le _⟩ (conv_X6_readTerm l N rv d0 hd0 hrv _ _) (fun r10 _ => ?_)
        refine J_aload_n (i := 0) dX6_readSum_30 rfl rfl ?_
        refine J_iload_n (i := 2) dX6_readSum_31 rfl rfl ?_
        refine J_i2c dX6_readSum_32 ?_
        refine J_iconst (v := (0 : Int32)) dX6_readSum_33 (by decide) ?_
        refine J_callVV 29 [.int ((Int32.toUInt32 x4 % 65536).toInt32), .int (0 : Int32)] dX6_readSum_34 ca_X6_addSign lk_RX6_65 vi_X6_addSign rcv_29 rfl rfl ⟨by show _ ≤ _; simp only [rmD]; omega, by show _ ≤ _; simp only [rmD]; omega⟩ (Nat.le_of_ble_eq_true rfl) ⟨Nat.zero_le _, Nat.zero_le _⟩ (conv_X6_addSign l _ _ _) (fun r11 _ => ?_)
        refine J_aload_n (i := 0) dX6_readSum_37 rfl rfl ?_
        refine J_ldcS (i := 4) dX6_readSum_38 sr_4 ?_
        refine J_callVIM 29 [.ref (1000 + 4)] dX6_readSum_40 ca_X6_take lk_RX6_61 vi_X6_take rcv_29 rfl rfl ⟨by show _ ≤ _; simp only [rmD]; omega, by show _ ≤ _; simp only [rmD]; omega⟩ (Nat.le_of_ble_eq_true rfl) ⟨Nat.zero_le _, Nat.zero_le _⟩ (conv_X6_take l N 4 (by decide) _) (fun r12 _ => ?_)
        refine J_istore_nN (i := 2) (LS := fun x13 => [some (.ref 29), some (.int a1), some (.int x13), some (.int x5)]) dX6_readSum_43 rfl (fun _ => rfl) (by decide) (fun x13 => ?_)
        refine J_iincN (i := 3) (v := x5 + (1 : Int32)) (LS := fun x14 => [some (.ref 29), some (.int a1), some (.int x13), some (.int x14)]) dX6_readSum_44 rfl (by first | rfl | decide) (fun _ => rfl) (by decide) (fun x14 => ?_)
        refine J_goto (tgt := 14) dX6_readSum_47 (by decide) ?_
        refine J_sub (l1 := [some (.ref 29), some (.int a1), some (.int x13), some (.int x14)]) ⟨rfl, ⟨rfl, ⟨rfl, ⟨rfl, trivial⟩⟩⟩⟩ ?_
        exact hrec7 x13 x14 r12.2
set_option maxRecDepth 100000 in
set_option maxHeartbeats 4000000 in
theorem conv_X6_readSum (l : Launch) (N : Nat) (rv : Int32 → jM → Option jM) (d0 : Nat) (hd0 : 20 ≤ d0) (hrv : ∀ (a : Int32) (s : jM), Con l d0 yX6_readValue cX6_readValue 3 none (eV shv) shv [.ref 29, .int a] s (rv a s)) (a1 : Int32) (s0 : jM) : Con l (d0 + 5) yX6_readSum cX6_readSum 4 (Option.none : Option Jvm.ClassFile.FieldType) (eV shv) shv [.ref 29, .int a1] s0 (f_X6_readSum N rv a1 s0) := by
  refine Con_of (ls0 := [some (.ref 29), some (.int a1), none, none]) (ini := false) (mc := 0) (ms := 0) (by decide +kernel) rfl (Nat.le_of_ble_eq_true rfl) (fun h => by cases h) (fun _ _ => rfl) ?_
  unfold f_X6_readSum
  refine J_aload_n (i := 0) dX6_readSum_0 rfl rfl ?_
  refine J_iload_n (i := 1) dX6_readSum_1 rfl rfl ?_
  refine J_callVV 29 [.int a1] dX6_readSum_2 ca_X6_readTerm lk_RX6_79 vi_X6_readTerm rcv_29 rfl rfl ⟨by show _ ≤ _; simp only [rmD]; omega, by show _ ≤ _; simp only [rmD]; omega⟩ (Nat.le_of_ble_eq_true rfl) ⟨Nat.zero_le _, Nat.zero_le _⟩ (conv_X6_readTerm l N rv d0 hd0 hrv _ _) (fun r1 _ => ?_)
  refine J_aload_n (i := 0) dX6_readSum_5 rfl rfl ?_
  refine J_ldcS (i := 4) dX6_readSum_6 sr_4 ?_
  refine J_callVIM 29 [.ref (1000 + 4)] dX6_readSum_8 ca_X6_take lk_RX6_61 vi_X6_take rcv_29 rfl rfl ⟨by show _ ≤ _; simp only [rmD]; omega, by show _ ≤ _; simp only [rmD]; omega⟩ (Nat.le_of_ble_eq_true rfl) ⟨Nat.zero_le _, Nat.zero_le _⟩ (conv_X6_take l N 4 (by decide) _) (fun r2 _ => ?_)
  refine J_istore_nN (i := 2) (LS := fun x3 => [some (.ref 29), some (.int a1), some (.int x3), none]) dX6_readSum_11 rfl (fun _ => rfl) (by decide) (fun x3 => ?_)
  refine J_iconst (v := (0 : Int32)) dX6_readSum_12 (by decide) ?_
  refine J_istore_n (i := 3) (ls2 := [some (.ref 29), some (.int a1), some (.int x3), some (.int (0 : Int32))]) dX6_readSum_13 rfl rfl (by decide) ?_
  refine J_sub (l1 := [some (.ref 29), some (.int a1), some (.int x3), some (.int (0 : Int32))]) ⟨rfl, ⟨rfl, ⟨rfl, ⟨rfl, trivial⟩⟩⟩⟩ ?_
  exact lp_X6_readSum_14_okv l N rv d0 hd0 hrv  a1  N x3 (0 : Int32) r2.2

set_option maxRecDepth 100000 in
set_option maxHeartbeats 4000000 in
theorem conv_X6_readHeld (l : Launch) (N : Nat) (rv : Int32 → jM → Option jM) (d0 : Nat) (hd0 : 20 ≤ d0) (hrv : ∀ (a : Int32) (s : jM), Con l d0 yX6_readValue cX6_readValue 3 none (eV shv) shv [.ref 29, .int a] s (rv a s)) (a1 : Int32) (s0 : jM) : Con l (d0 + 6) yX6_readHeld cX6_readHeld 3 (Option.none : Option Jvm.ClassFile.FieldType) (eV shv) shv [.ref 29, .int a1] s0 (f_X6_readHeld N rv a1 s0) := by
  refine Con_of (ls0 := [some (.ref 29), some (.int a1), none]) (ini := false) (mc := 0) (ms := 0) (by decide +kernel) rfl (Nat.le_of_ble_eq_true rfl) (fun h => by cases h) (fun _ _ => rfl) ?_
  unfold f_X6_readHeld
  refine J_aload_n (i := 0) dX6_readHeld_0 rfl rfl ?_
  refine J_iload_n (i := 1) dX6_readHeld_1 rfl rfl ?_
  refine J_callVV 29 [.int a1] dX6_readHeld_2 ca_X6_readSum lk_RX6_74 vi_X6_readSum rcv_29 rfl rfl ⟨by show _ ≤ _; simp only [rmD]; omega, by show _ ≤ _; simp only [rmD]; omega⟩ (Nat.le_of_ble_eq_true rfl) ⟨Nat.zero_le _, Nat.zero_le _⟩ (conv_X6_readSum l N rv d0 hd0 hrv _ _) (fun r1 _ => ?_)
  refine J_aload_n (i := 0) dX6_readHeld_5 rfl rfl ?_
  refine J_ldcS (i := 5) dX6_readHeld_6 sr_5 ?_
  refine J_callVIM 29 [.ref (1000 + 5)] dX6_readHeld_8 ca_X6_take lk_RX6_61 vi_X6_take rcv_29 rfl rfl ⟨by show _ ≤ _; simp only [rmD]; omega, by show _ ≤ _; simp only [rmD]; omega⟩ (Nat.le_of_ble_eq_true rfl) ⟨Nat.zero_le _, Nat.zero_le _⟩ (conv_X6_take l N 5 (by decide) _) (fun r2 _ => ?_)
  refine J_istore_nN (i := 2) (LS := fun x3 => [some (.ref 29), some (.int a1), some (.int x3)]) dX6_readHeld_11 rfl (fun _ => rfl) (by decide) (fun x3 => ?_)
  refine J_iload_n (i := 2) dX6_readHeld_12 rfl rfl ?_
  refine J_iconst (v := (-1 : Int32)) dX6_readHeld_13 (by decide) ?_
  refine J_icmp_eq (tgt := 29) dX6_readHeld_14 (by decide) (fun c4 => ?_) (fun c4 => ?_)
  · exact J_return dX6_readHeld_29 rfl rfl
  · refine J_aload_n (i := 0) dX6_readHeld_17 rfl rfl ?_
    refine J_iload_n (i := 1) dX6_readHeld_18 rfl rfl ?_
    refine J_callVV 29 [.int a1] dX6_readHeld_19 ca_X6_readSum lk_RX6_74 vi_X6_readSum rcv_29 rfl rfl ⟨by show _ ≤ _; simp only [rmD]; omega, by show _ ≤ _; simp only [rmD]; omega⟩ (Nat.le_of_ble_eq_true rfl) ⟨Nat.zero_le _, Nat.zero_le _⟩ (conv_X6_readSum l N rv d0 hd0 hrv _ _) (fun r5 _ => ?_)
    refine J_aload_n (i := 0) dX6_readHeld_22 rfl rfl ?_
    refine J_iload_n (i := 2) dX6_readHeld_23 rfl rfl ?_
    refine J_i2c dX6_readHeld_24 ?_
    refine J_iconst (v := (0 : Int32)) dX6_readHeld_25 (by decide) ?_
    refine J_callVV 29 [.int ((Int32.toUInt32 x3 % 65536).toInt32), .int (0 : Int32)] dX6_readHeld_26 ca_X6_addSign lk_RX6_65 vi_X6_addSign rcv_29 rfl rfl ⟨by show _ ≤ _; simp only [rmD]; omega, by show _ ≤ _; simp only [rmD]; omega⟩ (Nat.le_of_ble_eq_true rfl) ⟨Nat.zero_le _, Nat.zero_le _⟩ (conv_X6_addSign l _ _ _) (fun r6 _ => ?_)
    exact J_return dX6_readHeld_29 rfl rfl

set_option maxRecDepth 100000 in
set_option maxHeartbeats 4000000 in
theorem lp_X6_readBoth_7_okv (l : Launch) (N : Nat) (rv : Int32 → jM → Option jM) (d0 : Nat) (hd0 : 20 ≤ d0) (hrv : ∀ (a : Int32) (s : jM), Con l d0 yX6_readValue cX6_readValue 3 none (eV shv) shv [.ref 29, .int a] s (rv a s))  (a1 : Int32)  : ∀ (q : Nat) (x2 : Int32) (s3 : jM), J l RX6 cX6_readBoth 3 (Option.none : Option Jvm.ClassFile.FieldType) false (rmD (d0 + 7) 0 0) noCx (eV shv) shv 0 0 s3 7 [some (.ref 29), some (.int a1), some (.int x2)] [] (lp_X6_readBoth_7 N rv a1 q x2 s3) := by
  intro q
  induction q with
  | zero => intro x2 s3; exact J_none
  | succ q hrec4 =>
    intro x2 s3
    rw [lp_X6_readBoth_7]
    refine J_iload_n (i := 2) dX6_readBoth_7 rfl rfl ?_
    refine J_bipush (v := (40 : Int32)) dX6_readBoth_8 (by decide) ?_
    refine J_icmp_ge (tgt := 41) dX6_readBoth_10 (by decide) (fun c5 => ?_) (fun c5 => ?_)
    · exact J_return dX6_readBoth_41 rfl rfl
    · refine J_aload_n (i := 0) dX6_readBoth_13 rfl rfl ?_
      refine J_ldcS (i := 6) dX6_readBoth_14 sr_6 ?_
      refine J_callVIM 29 [.ref (1000 + 6)] dX6_readBoth_16 ca_X6_take lk_RX6_61 vi_X6_take rcv_29 rfl rfl ⟨by show _ ≤ _; simp only [rmD]; omega, by show _ ≤ _; simp only [rmD]; omega⟩ (Nat.le_of_ble_eq_true rfl) ⟨Nat.zero_le _, Nat.zero_le _⟩ (conv_X6_take l N 6 (by decide) _) (fun r6 _ => ?_)
      refine J_iconst (v := (-1 : Int32)) dX6_readBoth_19 (by decide) ?_
      refine J_icmp_eq (tgt := 41) dX6_readBoth_20 (by decide) (fun c7 => ?_) (fun c7 => ?_)
      · exact J_return dX6_readBoth_41 rfl rfl
      · refine J_aload_n (i := 0) dX6_readBoth_23 rfl rfl ?_
        refine J_iload_n (i := 1) dX6_readBoth_24 rfl rfl ?_
        refine J_callVV 29 [.int a1] dX6_readBoth_25 ca_X6_readHeld lk_RX6_69 vi_X6_readHeld rcv_29 rfl rfl ⟨by show _ ≤ _; simp only [rmD]; omega, by show _ ≤ _; simp only [rmD]; omega⟩ (Nat.le_of_ble_eq_true rfl) ⟨Nat.zero_le _, Nat.zero_le _⟩ (conv_X6_readHeld l N rv d0 hd0 hrv _ _) (fun r8 _ => ?_)
        refine J_aload_n (i := 0) dX6_readBoth_28 rfl rfl ?_
        refine J_bipush (v := (38 : Int32)) dX6_readBoth_29 (by decide) ?_
        refine J_iconst (v := (0 : Int32)) dX6_readBoth_31 (by decide) ?_
        refine J_callVV 29 [.int (38 : Int32), .int (0 : Int32)] dX6_readBoth_32 ca_X6_addSign lk_RX6_65 vi_X6_addSign rcv_29 rfl rfl ⟨by show _ ≤ _; simp only [rmD]; omega, by show _ ≤ _; simp only [rmD]; omega⟩ (Nat.le_of_ble_eq_true rfl) ⟨Nat.zero_le _, Nat.zero_le _⟩ (conv_X6_addSign l _ _ _) (fun r9 _ => ?_)
        refine J_iincN (i := 2) (v := x2 + (1 : Int32)) (LS := fun x10 => [some (.ref 29), some (.int a1), some (.int x10)]) dX6_readBoth_35 rfl (by first | rfl | decide) (fun _ => rfl) (by decide) (fun x10 => ?_)
        refine J_goto (tgt := 7) dX6_readBoth_38 (by decide) ?_
        refine J_sub (l1 := [some (.ref 29), some (.int a1), some (.int x10)]) ⟨rfl, ⟨rfl, ⟨rfl, trivial⟩⟩⟩ ?_
        exact hrec4 x10 r9
set_option maxRecDepth 100000 in
set_option maxHeartbeats 4000000 in
theorem conv_X6_readBoth (l : Launch) (N : Nat) (rv : Int32 → jM → Option jM) (d0 : Nat) (hd0 : 20 ≤ d0) (hrv : ∀ (a : Int32) (s : jM), Con l d0 yX6_readValue cX6_readValue 3 none (eV shv) shv [.ref 29, .int a] s (rv a s)) (a1 : Int32) (s0 : jM) : Con l (d0 + 7) yX6_readBoth cX6_readBoth 3 (Option.none : Option Jvm.ClassFile.FieldType) (eV shv) shv [.ref 29, .int a1] s0 (f_X6_readBoth N rv a1 s0) := by
  refine Con_of (ls0 := [some (.ref 29), some (.int a1), none]) (ini := false) (mc := 0) (ms := 0) (by decide +kernel) rfl (Nat.le_of_ble_eq_true rfl) (fun h => by cases h) (fun _ _ => rfl) ?_
  unfold f_X6_readBoth
  refine J_aload_n (i := 0) dX6_readBoth_0 rfl rfl ?_
  refine J_iload_n (i := 1) dX6_readBoth_1 rfl rfl ?_
  refine J_callVV 29 [.int a1] dX6_readBoth_2 ca_X6_readHeld lk_RX6_69 vi_X6_readHeld rcv_29 rfl rfl ⟨by show _ ≤ _; simp only [rmD]; omega, by show _ ≤ _; simp only [rmD]; omega⟩ (Nat.le_of_ble_eq_true rfl) ⟨Nat.zero_le _, Nat.zero_le _⟩ (conv_X6_readHeld l N rv d0 hd0 hrv _ _) (fun r1 _ => ?_)
  refine J_iconst (v := (0 : Int32)) dX6_readBoth_5 (by decide) ?_
  refine J_istore_n (i := 2) (ls2 := [some (.ref 29), some (.int a1), some (.int (0 : Int32))]) dX6_readBoth_6 rfl rfl (by decide) ?_
  refine J_sub (l1 := [some (.ref 29), some (.int a1), some (.int (0 : Int32))]) ⟨rfl, ⟨rfl, ⟨rfl, trivial⟩⟩⟩ ?_
  exact lp_X6_readBoth_7_okv l N rv d0 hd0 hrv  a1  N (0 : Int32) r1

set_option maxRecDepth 100000 in
set_option maxHeartbeats 4000000 in
theorem lp_X6_readValue_7_okv (l : Launch) (N : Nat) (rv : Int32 → jM → Option jM) (d0 : Nat) (hd0 : 20 ≤ d0) (hrv : ∀ (a : Int32) (s : jM), Con l d0 yX6_readValue cX6_readValue 3 none (eV shv) shv [.ref 29, .int a] s (rv a s))  (a1 : Int32)  : ∀ (q : Nat) (x2 : Int32) (s3 : jM), J l RX6 cX6_readValue 3 (Option.none : Option Jvm.ClassFile.FieldType) false (rmD (d0 + 8) 0 0) noCx (eV shv) shv 0 0 s3 7 [some (.ref 29), some (.int a1), some (.int x2)] [] (lp_X6_readValue_7 N rv a1 q x2 s3) := by
  intro q
  induction q with
  | zero => intro x2 s3; exact J_none
  | succ q hrec4 =>
    intro x2 s3
    rw [lp_X6_readValue_7]
    refine J_iload_n (i := 2) dX6_readValue_7 rfl rfl ?_
    refine J_bipush (v := (40 : Int32)) dX6_readValue_8 (by decide) ?_
    refine J_icmp_ge (tgt := 41) dX6_readValue_10 (by decide) (fun c5 => ?_) (fun c5 => ?_)
    · exact J_return dX6_readValue_41 rfl rfl
    · refine J_aload_n (i := 0) dX6_readValue_13 rfl rfl ?_
      refine J_ldcS (i := 7) dX6_readValue_14 sr_7 ?_
      refine J_callVIM 29 [.ref (1000 + 7)] dX6_readValue_16 ca_X6_take lk_RX6_61 vi_X6_take rcv_29 rfl rfl ⟨by show _ ≤ _; simp only [rmD]; omega, by show _ ≤ _; simp only [rmD]; omega⟩ (Nat.le_of_ble_eq_true rfl) ⟨Nat.zero_le _, Nat.zero_le _⟩ (conv_X6_take l N 7 (by decide) _) (fun r6 _ => ?_)
      refine J_iconst (v := (-1 : Int32)) dX6_readValue_19 (by decide) ?_
      refine J_icmp_eq (tgt := 41) dX6_readValue_20 (by decide) (fun c7 => ?_) (fun c7 => ?_)
      · exact J_return dX6_readValue_41 rfl rfl
      · refine J_aload_n (i := 0) dX6_readValue_23 rfl rfl ?_
        refine J_iload_n (i := 1) dX6_readValue_24 rfl rfl ?_
        refine J_callVV 29 [.int a1] dX6_readValue_25 ca_X6_readBoth lk_RX6_56 vi_X6_readBoth rcv_29 rfl rfl ⟨by show _ ≤ _; simp only [rmD]; omega, by show _ ≤ _; simp only [rmD]; omega⟩ (Nat.le_of_ble_eq_true rfl) ⟨Nat.zero_le _, Nat.zero_le _⟩ (conv_X6_readBoth l N rv d0 hd0 hrv _ _) (fun r8 _ => ?_)
        refine J_aload_n (i := 0) dX6_readValue_28 rfl rfl ?_
        refine J_bipush (v := (124 : Int32)) dX6_readValue_29 (by decide) ?_
        refine J_iconst (v := (0 : Int32)) dX6_readValue_31 (by decide) ?_
        refine J_callVV 29 [.int (124 : Int32), .int (0 : Int32)] dX6_readValue_32 ca_X6_addSign lk_RX6_65 vi_X6_addSign rcv_29 rfl rfl ⟨by show _ ≤ _; simp only [rmD]; omega, by show _ ≤ _; simp only [rmD]; omega⟩ (Nat.le_of_ble_eq_true rfl) ⟨Nat.zero_le _, Nat.zero_le _⟩ (conv_X6_addSign l _ _ _) (fun r9 _ => ?_)
        refine J_iincN (i := 2) (v := x2 + (1 : Int32)) (LS := fun x10 => [some (.ref 29), some (.int a1), some (.int x10)]) dX6_readValue_35 rfl (by first | rfl | decide) (fun _ => rfl) (by decide) (fun x10 => ?_)
        refine J_goto (tgt := 7) dX6_readValue_38 (by decide) ?_
        refine J_sub (l1 := [some (.ref 29), some (.int a1), some (.int x10)]) ⟨rfl, ⟨rfl, ⟨rfl, trivial⟩⟩⟩ ?_
        exact hrec4 x10 r9
set_option maxRecDepth 100000 in
set_option maxHeartbeats 4000000 in
theorem congv_X6_readValue (l : Launch) (N : Nat) (rv : Int32 → jM → Option jM) (d0 : Nat) (hd0 : 20 ≤ d0) (hrv : ∀ (a : Int32) (s : jM), Con l d0 yX6_readValue cX6_readValue 3 none (eV shv) shv [.ref 29, .int a] s (rv a s)) (a1 : Int32) (s0 : jM) : Con l (d0 + 8) yX6_readValue cX6_readValue 3 (Option.none : Option Jvm.ClassFile.FieldType) (eV shv) shv [.ref 29, .int a1] s0 (g_X6_readValue N rv a1 s0) := by
  refine Con_of (ls0 := [some (.ref 29), some (.int a1), none]) (ini := false) (mc := 0) (ms := 0) (by decide +kernel) rfl (Nat.le_of_ble_eq_true rfl) (fun h => by cases h) (fun _ _ => rfl) ?_
  unfold g_X6_readValue
  refine J_aload_n (i := 0) dX6_readValue_0 rfl rfl ?_
  refine J_iload_n (i := 1) dX6_readValue_1 rfl rfl ?_
  refine J_callVV 29 [.int a1] dX6_readValue_2 ca_X6_readBoth lk_RX6_56 vi_X6_readBoth rcv_29 rfl rfl ⟨by show _ ≤ _; simp only [rmD]; omega, by show _ ≤ _; simp only [rmD]; omega⟩ (Nat.le_of_ble_eq_true rfl) ⟨Nat.zero_le _, Nat.zero_le _⟩ (conv_X6_readBoth l N rv d0 hd0 hrv _ _) (fun r1 _ => ?_)
  refine J_iconst (v := (0 : Int32)) dX6_readValue_5 (by decide) ?_
  refine J_istore_n (i := 2) (ls2 := [some (.ref 29), some (.int a1), some (.int (0 : Int32))]) dX6_readValue_6 rfl rfl (by decide) ?_
  refine J_sub (l1 := [some (.ref 29), some (.int a1), some (.int (0 : Int32))]) ⟨rfl, ⟨rfl, ⟨rfl, trivial⟩⟩⟩ ?_
  exact lp_X6_readValue_7_okv l N rv d0 hd0 hrv  a1  N (0 : Int32) r1
theorem conv_X6_readValue (l : Launch) (N : Nat) : ∀ (q : Nat) (a : Int32) (s : jM), Con l (20 + 8 * q) yX6_readValue cX6_readValue 3 (Option.none : Option Jvm.ClassFile.FieldType) (eV shv) shv [.ref 29, .int a] s (f_X6_readValue N q a s) := by
  intro q
  induction q with
  | zero => intro a s res h; cases h
  | succ q ih => intro a s; exact congv_X6_readValue l N _ (20 + 8 * q) (by omega) ih a s

set_option maxRecDepth 100000 in
set_option maxHeartbeats 4000000 in
theorem conv_X6_read (l : Launch) (N : Nat) (s0 : jM) : Con l (110) yX6_read cX6_read 1 (Option.none : Option Jvm.ClassFile.FieldType) (eV shv) shv [.ref 29] s0 (f_X6_read N s0) := by
  refine Con_of (ls0 := [some (.ref 29)]) (ini := false) (mc := 0) (ms := 0) (by decide +kernel) rfl (Nat.le_of_ble_eq_true rfl) (fun h => by cases h) (fun _ _ => rfl) ?_
  unfold f_X6_read
  refine J_aload_n (i := 0) dX6_read_0 rfl rfl ?_
  refine J_iconst (v := (0 : Int32)) dX6_read_1 (by decide) ?_
  refine J_putI dX6_read_2 fp_RX6_30 (fun h => by first | rfl | cases h) shv_29_6 rfl rfl ?_
  refine J_letM rfl (fun s1 => ?_)
  refine J_aload_n (i := 0) dX6_read_5 rfl rfl ?_
  refine J_iconst (v := (0 : Int32)) dX6_read_6 (by decide) ?_
  refine J_putI dX6_read_7 fp_RX6_34 (fun h => by first | rfl | cases h) shv_29_3 rfl rfl ?_
  refine J_letM rfl (fun s2 => ?_)
  refine J_aload_n (i := 0) dX6_read_10 rfl rfl ?_
  refine J_iconst (v := (-1 : Int32)) dX6_read_11 (by decide) ?_
  refine J_putI dX6_read_12 fp_RX6_37 (fun h => by first | rfl | cases h) shv_29_7 rfl rfl ?_
  refine J_letM rfl (fun s3 => ?_)
  refine J_aload_n (i := 0) dX6_read_15 rfl rfl ?_
  refine J_iconst (v := (0 : Int32)) dX6_read_16 (by decide) ?_
  refine J_putI dX6_read_17 fp_RX6_40 (fun h => by first | rfl | cases h) shv_29_8 rfl rfl ?_
  refine J_letM rfl (fun s4 => ?_)
  refine J_aload_n (i := 0) dX6_read_20 rfl rfl ?_
  refine J_iconst (v := (0 : Int32)) dX6_read_21 (by decide) ?_
  refine J_callVV 29 [.int (0 : Int32)] dX6_read_22 ca_X6_readValue lk_RX6_44 vi_X6_readValue rcv_29 rfl rfl ⟨by show _ ≤ _; simp only [rmD]; omega, by show _ ≤ _; simp only [rmD]; omega⟩ (Nat.le_of_ble_eq_true rfl) ⟨Nat.zero_le _, Nat.zero_le _⟩ (conv_X6_readValue l N 10 _ _) (fun r5 _ => ?_)
  refine J_aload_n (i := 0) dX6_read_25 rfl rfl ?_
  refine J_callVIM 29 [] dX6_read_26 ca_X6_nextSign lk_RX6_48 vi_X6_nextSign rcv_29 rfl rfl ⟨by show _ ≤ _; simp only [rmD]; omega, by show _ ≤ _; simp only [rmD]; omega⟩ (Nat.le_of_ble_eq_true rfl) ⟨Nat.zero_le _, Nat.zero_le _⟩ (conv_X6_nextSign l N _) (fun r6 _ => ?_)
  refine J_iconst (v := (-1 : Int32)) dX6_read_29 (by decide) ?_
  refine J_icmp_eq (tgt := 42) dX6_read_30 (by decide) (fun c7 => ?_) (fun c7 => ?_)
  · exact J_return dX6_read_42 rfl rfl
  · refine J_aload_n (i := 0) dX6_read_33 rfl rfl ?_
    refine J_aload_n (i := 0) dX6_read_34 rfl rfl ?_
    refine J_getI dX6_read_35 fl_RX6_30 shv_29_6 ?_
    refine J_iconst (v := (1 : Int32)) dX6_read_38 (by decide) ?_
    refine J_callVV 29 [.int (gI r6.2 29 6), .int (1 : Int32)] dX6_read_39 ca_X6_setFlaw lk_RX6_52 vi_X6_setFlaw rcv_29 rfl rfl ⟨by show _ ≤ _; simp only [rmD]; omega, by show _ ≤ _; simp only [rmD]; omega⟩ (Nat.le_of_ble_eq_true rfl) ⟨Nat.zero_le _, Nat.zero_le _⟩ (conv_X6_setFlaw l _ _ _) (fun r8 _ => ?_)
    exact J_return dX6_read_42 rfl rfl

