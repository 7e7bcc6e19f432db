def f_J0_isLatin1_aae02 (w0 : Nat) : Option Int32 := jn_ (fun (_ : Unit) => some (0 : Int32)) fun j1 => if (1 : Int32) = 0 then (j1 ()) else (if (0 : Int32) = 0 then (some (1 : Int32)) else (j1 ()))
set_option maxRecDepth 100000 in
set_option maxHeartbeats 4000000 in
theorem con_J0_isLatin1_aae02 (l : Launch) (w0 : Nat) (hw_w0 : w0 < 8) (s0 : jM) : Con l (1) yJ0_isLatin1_aae02 cJ0_isLatin1_aae02 1 (Option.some Jvm.ClassFile.FieldType.boolean) (eI SH s0) SH [.ref (1000 + w0)] s0 (f_J0_isLatin1_aae02 w0) := by
  refine Con_of (ls0 := [some (.ref (1000 + w0))]) (ini := false) (mc := 0) (ms := 0) (by decide +kernel) rfl (Nat.le_of_ble_eq_true rfl) (fun h => by cases h) (fun _ _ => rfl) ?_
  unfold f_J0_isLatin1_aae02
  refine J_join (P := fun j => ∀ (_ : Unit), J l RJ0 cJ0_isLatin1_aae02 1 (Option.some Jvm.ClassFile.FieldType.boolean) false (rmD (1) 0 0) noCx (eI SH s0) SH 0 0 s0 17 [none] [] (j ())) ?_ (fun j1 hj1 => ?_)
  · intro _
    refine J_iconst (v := (0 : Int32)) dJ0_isLatin1_aae02_17 (by decide) ?_
    exact J_ireturn dJ0_isLatin1_aae02_18 rfl rfl rfl
  refine J_cmpS dJ0_isLatin1_aae02_0 (mTB 237 (by decide +kernel) rfl) ?_
  refine J_if_eq (tgt := 17) dJ0_isLatin1_aae02_3 (by decide) (fun c2 => ?_) (fun c2 => ?_)
  · refine J_sub (l1 := [none]) trivial ?_
    exact hj1 ()
  · refine J_aload_n (i := 0) dJ0_isLatin1_aae02_6 rfl rfl ?_
    refine J_txtC hw_w0 dJ0_isLatin1_aae02_7 (mTB 1236 (by decide +kernel) rfl) ?_
    refine J_if_ne (tgt := 17) dJ0_isLatin1_aae02_10 (by decide) (fun c3 => ?_) (fun c3 => ?_)
    · refine J_sub (l1 := [none]) trivial ?_
      exact hj1 ()
    · refine J_iconst (v := (1 : Int32)) dJ0_isLatin1_aae02_13 (by decide) ?_
      refine J_goto (tgt := 18) dJ0_isLatin1_aae02_14 (by decide) ?_
      exact J_ireturn dJ0_isLatin1_aae02_18 rfl rfl rfl

def f_J0_coder_7d493 (w0 : Nat) : Option Int32 := if (1 : Int32) = 0 then (some (1 : Int32)) else (some (0 : Int32))
set_option maxRecDepth 100000 in
set_option maxHeartbeats 4000000 in
theorem con_J0_coder_7d493 (l : Launch) (w0 : Nat) (hw_w0 : w0 < 8) (s0 : jM) : Con l (1) yJ0_coder_7d493 cJ0_coder_7d493 1 (Option.some Jvm.ClassFile.FieldType.byte) (eI SH s0) SH [.ref (1000 + w0)] s0 (f_J0_coder_7d493 w0) := by
  refine Con_of (ls0 := [some (.ref (1000 + w0))]) (ini := false) (mc := 0) (ms := 0) (by decide +kernel) rfl (Nat.le_of_ble_eq_true rfl) (fun h => by cases h) (fun _ _ => rfl) ?_
  unfold f_J0_coder_7d493
  refine J_cmpS dJ0_coder_7d493_0 (mTB 237 (by decide +kernel) rfl) ?_
  refine J_if_eq (tgt := 13) dJ0_coder_7d493_3 (by decide) (fun c1 => ?_) (fun c1 => ?_)
  · refine J_iconst (v := (1 : Int32)) dJ0_coder_7d493_13 (by decide) ?_
    exact J_ireturn dJ0_coder_7d493_14 rfl rfl rfl
  · refine J_aload_n (i := 0) dJ0_coder_7d493_6 rfl rfl ?_
    refine J_txtC hw_w0 dJ0_coder_7d493_7 (mTB 1236 (by decide +kernel) rfl) ?_
    refine J_goto (tgt := 14) dJ0_coder_7d493_10 (by decide) ?_
    exact J_ireturn dJ0_coder_7d493_14 rfl rfl rfl

def f_J0_length_8abf5 (w0 : Nat) : Option Int32 := Option.bind (f_J0_coder_7d493 w0) fun r1 => some ((Int32.ofNat (leS.getD w0 0)) >>> (r1 &&& 31))
set_option maxRecDepth 100000 in
set_option maxHeartbeats 4000000 in
theorem con_J0_length_8abf5 (l : Launch) (w0 : Nat) (hw_w0 : w0 < 8) (s0 : jM) : Con l (2) yJ0_length_8abf5 cJ0_length_8abf5 1 (Option.some Jvm.ClassFile.FieldType.int) (eI SH s0) SH [.ref (1000 + w0)] s0 (f_J0_length_8abf5 w0) := by
  refine Con_of (ls0 := [some (.ref (1000 + w0))]) (ini := false) (mc := 0) (ms := 0) (by decide +kernel) rfl (Nat.le_of_ble_eq_true rfl) (fun h => by cases h) (fun _ _ => rfl) ?_
  unfold f_J0_length_8abf5
  refine J_aload_n (i := 0) dJ0_length_8abf5_0 rfl rfl ?_
  refine J_txtV hw_w0 dJ0_length_8abf5_1 (mTB 1237 (by decide +kernel) rfl) ?_
  refine J_txtL hw_w0 dJ0_length_8abf5_4 ?_
  refine J_aload_n (i := 0) dJ0_length_8abf5_5 rfl rfl ?_
  refine J_callVI (1000 + w0) [] dJ0_length_8abf5_6 ca_J0_coder_7d493 lk_RJ0_335 vi_J0_coder_7d493 (Or.inr ⟨_, rfl, hw_w0, rfl⟩) rfl rfl ⟨by show _ ≤ _; simp only [rmD]; omega, by show _ ≤ _; simp only [rmD]; omega⟩ (Nat.le_of_ble_eq_true rfl) ⟨Nat.zero_le _, Nat.zero_le _⟩ (con_J0_coder_7d493 l w0 hw_w0 _) (fun r1 _ => ?_)
  refine J_ishr dJ0_length_8abf5_9 ?_
  exact J_ireturn dJ0_length_8abf5_10 rfl rfl rfl

def f_J1_canEncode_9a6ad (a0 : Int32) : Option Int32 := jn_ (fun (_ : Unit) => some (0 : Int32)) fun j1 => if a0 < 0 then (j1 ()) else (if (255 : Int32) < a0 then (j1 ()) else (some (1 : Int32)))
set_option maxRecDepth 100000 in
set_option maxHeartbeats 4000000 in
theorem con_J1_canEncode_9a6ad (l : Launch) (a0 : Int32) (s0 : jM) : Con l (1) yJ1_canEncode_9a6ad cJ1_canEncode_9a6ad 1 (Option.some Jvm.ClassFile.FieldType.boolean) (eI SH s0) SH [.int a0] s0 (f_J1_canEncode_9a6ad a0) := by
  refine Con_of (ls0 := [some (.int a0)]) (ini := false) (mc := 0) (ms := 0) (by decide +kernel) rfl (Nat.le_of_ble_eq_true rfl) (fun h => by cases h) (fun _ _ => rfl) ?_
  unfold f_J1_canEncode_9a6ad
  refine J_join (P := fun j => ∀ (_ : Unit), J l RJ1 cJ1_canEncode_9a6ad 1 (Option.some Jvm.ClassFile.FieldType.boolean) false (rmD (1) 0 0) noCx (eI SH s0) SH 0 0 s0 15 [none] [] (j ())) ?_ (fun j1 hj1 => ?_)
  · intro _
    refine J_iconst (v := (0 : Int32)) dJ1_canEncode_9a6ad_15 (by decide) ?_
    exact J_ireturn dJ1_canEncode_9a6ad_16 rfl rfl rfl
  refine J_iload_n (i := 0) dJ1_canEncode_9a6ad_0 rfl rfl ?_
  refine J_if_lt (tgt := 15) dJ1_canEncode_9a6ad_1 (by decide) (fun c2 => ?_) (fun c2 => ?_)
  · refine J_sub (l1 := [none]) trivial ?_
    exact hj1 ()
  · refine J_iload_n (i := 0) dJ1_canEncode_9a6ad_4 rfl rfl ?_
    refine J_sipush (v := (255 : Int32)) dJ1_canEncode_9a6ad_5 (by decide) ?_
    refine J_icmp_gt (tgt := 15) dJ1_canEncode_9a6ad_8 (by decide) (fun c3 => ?_) (fun c3 => ?_)
    · refine J_sub (l1 := [none]) trivial ?_
      exact hj1 ()
    · refine J_iconst (v := (1 : Int32)) dJ1_canEncode_9a6ad_11 (by decide) ?_
      refine J_goto (tgt := 16) dJ1_canEncode_9a6ad_12 (by decide) ?_
      exact J_ireturn dJ1_canEncode_9a6ad_16 rfl rfl rfl

def lp_J1_indexOfChar_4cfef_7 (N : Nat) (w0 : Nat) (a3 : Int32) (x1 : Int32) (k3 : Int32 → Option Int32) : Nat → Int32 → Option Int32
  | 0, _ => none
  | q + 1, x4 => if a3 ≤ x4 then (some (-1 : Int32)) else (gd (ib x4 (leS.getD w0 0)) <| if ((byS.getD w0 []).getD (Int32.toNatClampNeg x4) 0) = x1 then (k3 x4) else (lt_ (x4 + (1 : Int32)) fun x8 => lp_J1_indexOfChar_4cfef_7 N w0 a3 x1 k3 q x8))
def f_J1_indexOfChar_4cfef (N : Nat) (w0 : Nat) (a1 : Int32) (a2 : Int32) (a3 : Int32) : Option Int32 := lt_ ((Int32.toInt8 a1).toInt32) fun x1 => jn_ (fun (x2 : Int32) => some x2) fun k3 => lp_J1_indexOfChar_4cfef_7 N w0 a3 x1 k3 N a2
set_option maxRecDepth 100000 in
set_option maxHeartbeats 4000000 in
theorem lp_J1_indexOfChar_4cfef_7_ok (l : Launch) (N : Nat) (w0 : Nat) (hw_w0 : w0 < 8)  (a3 : Int32) (x1 : Int32) (k3 : Int32 → Option Int32) (s0 : jM) (hk3 : ∀ (x2 : Int32), J l RJ1 cJ1_indexOfChar_4cfef 6 (Option.some Jvm.ClassFile.FieldType.int) false (rmD (1) 0 0) noCx (eI SH s0) SH 0 0 s0 22 [none, none, none, none, none, some (.int x2)] [] (k3 x2)) : ∀ (q : Nat) (x4 : Int32), J l RJ1 cJ1_indexOfChar_4cfef 6 (Option.some Jvm.ClassFile.FieldType.int) false (rmD (1) 0 0) noCx (eI SH s0) SH 0 0 s0 7 [some (.ref (2000 + w0)), none, none, some (.int a3), some (.int x1), some (.int x4)] [] (lp_J1_indexOfChar_4cfef_7 N w0 a3 x1 k3 q x4) := by
  intro q
  induction q with
  | zero => intro x4; exact J_none
  | succ q hrec5 =>
    intro x4
    rw [lp_J1_indexOfChar_4cfef_7]
    refine J_iload (i := 5) dJ1_indexOfChar_4cfef_7 rfl ?_
    refine J_iload_n (i := 3) dJ1_indexOfChar_4cfef_9 rfl rfl ?_
    refine J_icmp_ge (tgt := 31) dJ1_indexOfChar_4cfef_10 (by decide) (fun c6 => ?_) (fun c6 => ?_)
    · refine J_iconst (v := (-1 : Int32)) dJ1_indexOfChar_4cfef_31 (by decide) ?_
      exact J_ireturn dJ1_indexOfChar_4cfef_32 rfl rfl rfl
    · refine J_aload_n (i := 0) dJ1_indexOfChar_4cfef_13 rfl rfl ?_
      refine J_iload (i := 5) dJ1_indexOfChar_4cfef_14 rfl ?_
      refine J_txtB hw_w0 dJ1_indexOfChar_4cfef_16 ?_
      refine J_iload (i := 4) dJ1_indexOfChar_4cfef_17 rfl ?_
      refine J_icmp_ne (tgt := 25) dJ1_indexOfChar_4cfef_19 (by decide) (fun c7 => ?_) (fun c7 => ?_)
      · refine J_iincN (i := 5) (v := x4 + (1 : Int32)) (LS := fun x8 => [some (.ref (2000 + w0)), none, none, some (.int a3), some (.int x1), some (.int x8)]) dJ1_indexOfChar_4cfef_25 rfl (by first | rfl | decide) (fun _ => rfl) (by decide) (fun x8 => ?_)
        refine J_goto (tgt := 7) dJ1_indexOfChar_4cfef_28 (by decide) ?_
        refine J_sub (l1 := [some (.ref (2000 + w0)), none, none, some (.int a3), some (.int x1), some (.int x8)]) ⟨rfl, ⟨rfl, ⟨rfl, ⟨rfl, trivial⟩⟩⟩⟩ ?_
        exact hrec5 x8
      · refine J_sub (l1 := [none, none, none, none, none, some (.int x4)]) ⟨rfl, trivial⟩ ?_
        exact hk3 x4
set_option maxRecDepth 100000 in
set_option maxHeartbeats 4000000 in
theorem con_J1_indexOfChar_4cfef (l : Launch) (N : Nat) (w0 : Nat) (hw_w0 : w0 < 8) (a1 : Int32) (a2 : Int32) (a3 : Int32) (s0 : jM) : Con l (1) yJ1_indexOfChar_4cfef cJ1_indexOfChar_4cfef 6 (Option.some Jvm.ClassFile.FieldType.int) (eI SH s0) SH [.ref (2000 + w0), .int a1, .int a2, .int a3] s0 (f_J1_indexOfChar_4cfef N w0 a1 a2 a3) := by
  refine Con_of (ls0 := [some (.ref (2000 + w0)), some (.int a1), some (.int a2), some (.int a3), none, none]) (ini := false) (mc := 0) (ms := 0) (by decide +kernel) rfl (Nat.le_of_ble_eq_true rfl) (fun h => by cases h) (fun _ _ => rfl) ?_
  unfold f_J1_indexOfChar_4cfef
  refine J_iload_n (i := 1) dJ1_indexOfChar_4cfef_0 rfl rfl ?_
  refine J_i2b dJ1_indexOfChar_4cfef_1 ?_
  refine J_istoreN (i := 4) (LS := fun x1 => [some (.ref (2000 + w0)), some (.int a1), some (.int a2), some (.int a3), some (.int x1), none]) dJ1_indexOfChar_4cfef_2 (fun _ => rfl) (by decide) (fun x1 => ?_)
  refine J_iload_n (i := 2) dJ1_indexOfChar_4cfef_4 rfl rfl ?_
  refine J_istore (i := 5) (ls2 := [some (.ref (2000 + w0)), some (.int a1), some (.int a2), some (.int a3), some (.int x1), some (.int a2)]) dJ1_indexOfChar_4cfef_5 rfl (by decide) ?_
  refine J_join (P := fun j => ∀ (x2 : Int32), J l RJ1 cJ1_indexOfChar_4cfef 6 (Option.some Jvm.ClassFile.FieldType.int) false (rmD (1) 0 0) noCx (eI SH s0) SH 0 0 s0 22 [none, none, none, none, none, some (.int x2)] [] (j x2)) ?_ (fun k3 hk3 => ?_)
  · intro x2
    refine J_iload (i := 5) dJ1_indexOfChar_4cfef_22 rfl ?_
    exact J_ireturn dJ1_indexOfChar_4cfef_24 rfl rfl rfl
  refine J_sub (l1 := [some (.ref (2000 + w0)), none, none, some (.int a3), some (.int x1), some (.int a2)]) ⟨rfl, ⟨rfl, ⟨rfl, ⟨rfl, trivial⟩⟩⟩⟩ ?_
  exact lp_J1_indexOfChar_4cfef_7_ok l N w0 hw_w0  a3 x1 k3 s0 hk3 N a2

def f_J1_indexOf_4cfef (N : Nat) (w0 : Nat) (a1 : Int32) (a2 : Int32) (a3 : Int32) : Option Int32 := Option.bind (f_J1_canEncode_9a6ad a1) fun r1 => if r1 = 0 then (some (-1 : Int32)) else (lt_ (if a2 < (0 : Int32) then (0 : Int32) else a2) fun x3 => lt_ (if (Int32.ofNat (leS.getD w0 0)) < a3 then (Int32.ofNat (leS.getD w0 0)) else a3) fun x4 => if x3 < x4 then (Option.bind (f_J1_indexOfChar_4cfef N w0 a1 x3 x4) fun r6 => some r6) else (some (-1 : Int32)))
set_option maxRecDepth 100000 in
set_option maxHeartbeats 4000000 in
theorem con_J1_indexOf_4cfef (l : Launch) (N : Nat) (w0 : Nat) (hw_w0 : w0 < 8) (a1 : Int32) (a2 : Int32) (a3 : Int32) (s0 : jM) : Con l (2) yJ1_indexOf_4cfef cJ1_indexOf_4cfef 4 (Option.some Jvm.ClassFile.FieldType.int) (eI SH s0) SH [.ref (2000 + w0), .int a1, .int a2, .int a3] s0 (f_J1_indexOf_4cfef N w0 a1 a2 a3) := by
  refine Con_of (ls0 := [some (.ref (2000 + w0)), some (.int a1), some (.int a2), some (.int a3)]) (ini := false) (mc := 0) (ms := 0) (by decide +kernel) rfl (Nat.le_of_ble_eq_true rfl) (fun h => by cases h) (fun _ _ => rfl) ?_
  unfold f_J1_indexOf_4cfef
  refine J_iload_n (i := 1) dJ1_indexOf_4cfef_0 rfl rfl ?_
  refine J_callSI [.int a1] dJ1_indexOf_4cfef_1 ca_J1_canEncode_9a6ad lk_RJ1_88 st_J1_canEncode_9a6ad rfl rfl ⟨by show _ ≤ _; simp only [rmD]; omega, by show _ ≤ _; simp only [rmD]; omega⟩ (Nat.le_of_ble_eq_true rfl) ⟨Nat.zero_le _, Nat.zero_le _⟩ (con_J1_canEncode_9a6ad l _ _) (fun r1 _ => ?_)
  refine J_if_ne (tgt := 9) dJ1_indexOf_4cfef_4 (by decide) (fun c2 => ?_) (fun c2 => ?_)
  · refine J_iload_n (i := 2) dJ1_indexOf_4cfef_9 rfl rfl ?_
    refine J_iconst (v := (0 : Int32)) dJ1_indexOf_4cfef_10 (by decide) ?_
    refine J_mmax dJ1_indexOf_4cfef_11 (mTB 253 (by decide +kernel) rfl) ⟨by simp only [rmD]; omega, by simp only [rmD, List.map_nil, List.map_cons, List.sum_nil, List.sum_cons, Value.category]; omega⟩ ⟨Nat.zero_le _, Nat.zero_le _⟩ ?_
    refine J_istore_nN (i := 2) (LS := fun x3 => [some (.ref (2000 + w0)), some (.int a1), some (.int x3), some (.int a3)]) dJ1_indexOf_4cfef_14 rfl (fun _ => rfl) (by decide) (fun x3 => ?_)
    refine J_iload_n (i := 3) dJ1_indexOf_4cfef_15 rfl rfl ?_
    refine J_aload_n (i := 0) dJ1_indexOf_4cfef_16 rfl rfl ?_
    refine J_txtL hw_w0 dJ1_indexOf_4cfef_17 ?_
    refine J_mmin dJ1_indexOf_4cfef_18 (mTB 256 (by decide +kernel) rfl) ⟨by simp only [rmD]; omega, by simp only [rmD, List.map_nil, List.map_cons, List.sum_nil, List.sum_cons, Value.category]; omega⟩ ⟨Nat.zero_le _, Nat.zero_le _⟩ ?_
    refine J_istore_nN (i := 3) (LS := fun x4 => [some (.ref (2000 + w0)), some (.int a1), some (.int x3), some (.int x4)]) dJ1_indexOf_4cfef_21 rfl (fun _ => rfl) (by decide) (fun x4 => ?_)
    refine J_iload_n (i := 2) dJ1_indexOf_4cfef_22 rfl rfl ?_
    refine J_iload_n (i := 3) dJ1_indexOf_4cfef_23 rfl rfl ?_
    refine J_icmp_lt (tgt := 29) dJ1_indexOf_4cfef_24 (by decide) (fun c5 => ?_) (fun c5 => ?_)
    · refine J_aload_n (i := 0) dJ1_indexOf_4cfef_29 rfl rfl ?_
      refine J_iload_n (i := 1) dJ1_indexOf_4cfef_30 rfl rfl ?_
      refine J_iload_n (i := 2) dJ1_indexOf_4cfef_31 rfl rfl ?_
      refine J_iload_n (i := 3) dJ1_indexOf_4cfef_32 rfl rfl ?_
      refine J_callSI [.ref (2000 + w0), .int a1, .int x3, .int x4] dJ1_indexOf_4cfef_33 ca_J1_indexOfChar_4cfef lk_RJ1_95 st_J1_indexOfChar_4cfef rfl rfl ⟨by show _ ≤ _; simp only [rmD]; omega, by show _ ≤ _; simp only [rmD]; omega⟩ (Nat.le_of_ble_eq_true rfl) ⟨Nat.zero_le _, Nat.zero_le _⟩ (con_J1_indexOfChar_4cfef l N w0 hw_w0 _ _ _ _) (fun r6 _ => ?_)
      exact J_ireturn dJ1_indexOf_4cfef_36 rfl rfl rfl
    · refine J_iconst (v := (-1 : Int32)) dJ1_indexOf_4cfef_27 (by decide) ?_
      exact J_ireturn dJ1_indexOf_4cfef_28 rfl rfl rfl
  · refine J_iconst (v := (-1 : Int32)) dJ1_indexOf_4cfef_7 (by decide) ?_
    exact J_ireturn dJ1_indexOf_4cfef_8 rfl rfl rfl

def f_J0_indexOf_7cf53 (N : Nat) (w0 : Nat) (a1 : Int32) (a2 : Int32) : Option Int32 := Option.bind (f_J0_isLatin1_aae02 w0) fun r1 => if r1 = 0 then (Option.bind (f_J0_length_8abf5 w0) fun r3 => none) else (Option.bind (f_J0_length_8abf5 w0) fun r4 => Option.bind (f_J1_indexOf_4cfef N w0 a1 a2 r4) fun r5 => some r5)
set_option maxRecDepth 100000 in
set_option maxHeartbeats 4000000 in
theorem con_J0_indexOf_7cf53 (l : Launch) (N : Nat) (w0 : Nat) (hw_w0 : w0 < 8) (a1 : Int32) (a2 : Int32) (s0 : jM) : Con l (3) yJ0_indexOf_7cf53 cJ0_indexOf_7cf53 3 (Option.some Jvm.ClassFile.FieldType.int) (eI SH s0) SH [.ref (1000 + w0), .int a1, .int a2] s0 (f_J0_indexOf_7cf53 N w0 a1 a2) := by
  refine Con_of (ls0 := [some (.ref (1000 + w0)), some (.int a1), some (.int a2)]) (ini := false) (mc := 0) (ms := 0) (by decide +kernel) rfl (Nat.le_of_ble_eq_true rfl) (fun h => by cases h) (fun _ _ => rfl) ?_
  unfold f_J0_indexOf_7cf53
  refine J_aload_n (i := 0) dJ0_indexOf_7cf53_0 rfl rfl ?_
  refine J_callVI (1000 + w0) [] dJ0_indexOf_7cf53_1 ca_J0_isLatin1_aae02 lk_RJ0_492 vi_J0_isLatin1_aae02 (Or.inr ⟨_, rfl, hw_w0, rfl⟩) rfl rfl ⟨by show _ ≤ _; simp only [rmD]; omega, by show _ ≤ _; simp only [rmD]; omega⟩ (Nat.le_of_ble_eq_true rfl) ⟨Nat.zero_le _, Nat.zero_le _⟩ (con_J0_isLatin1_aae02 l w0 hw_w0 _) (fun r1 _ => ?_)
  refine J_if_eq (tgt := 23) dJ0_indexOf_7cf53_4 (by decide) (fun c2 => ?_) (fun c2 => ?_)
  · refine J_aload_n (i := 0) dJ0_indexOf_7cf53_23 rfl rfl ?_
    refine J_txtV hw_w0 dJ0_indexOf_7cf53_24 (mTB 1237 (by decide +kernel) rfl) ?_
    refine J_iload_n (i := 1) dJ0_indexOf_7cf53_27 rfl rfl ?_
    refine J_iload_n (i := 2) dJ0_indexOf_7cf53_28 rfl rfl ?_
    refine J_aload_n (i := 0) dJ0_indexOf_7cf53_29 rfl rfl ?_
    refine J_callVI (1000 + w0) [] dJ0_indexOf_7cf53_30 ca_J0_length_8abf5 lk_RJ0_505 vi_J0_length_8abf5 (Or.inr ⟨_, rfl, hw_w0, rfl⟩) rfl rfl ⟨by show _ ≤ _; simp only [rmD]; omega, by show _ ≤ _; simp only [rmD]; omega⟩ (Nat.le_of_ble_eq_true rfl) ⟨Nat.zero_le _, Nat.zero_le _⟩ (con_J0_length_8abf5 l w0 hw_w0 _) (fun r3 _ => ?_)
    exact J_none
  · refine J_aload_n (i := 0) dJ0_indexOf_7cf53_7 rfl rfl ?_
    refine J_txtV hw_w0 dJ0_indexOf_7cf53_8 (mTB 1237 (by decide +kernel) rfl) ?_
    refine J_iload_n (i := 1) dJ0_indexOf_7cf53_11 rfl rfl ?_
    refine J_iload_n (i := 2) dJ0_indexOf_7cf53_12 rfl rfl ?_
    refine J_aload_n (i := 0) dJ0_indexOf_7cf53_13 rfl rfl ?_
    refine J_callVI (1000 + w0) [] dJ0_indexOf_7cf53_14 ca_J0_length_8abf5 lk_RJ0_505 vi_J0_length_8abf5 (Or.inr ⟨_, rfl, hw_w0, rfl⟩) rfl rfl ⟨by show _ ≤ _; simp only [rmD]; omega, by show _ ≤ _; simp only [rmD]; omega⟩ (Nat.le_of_ble_eq_true rfl) ⟨Nat.zero_le _, Nat.zero_le _⟩ (con_J0_length_8abf5 l w0 hw_w0 _) (fun r4 _ => ?_)
    refine J_callSI [.ref (2000 + w0), .int a1, .int a2, .int r4] dJ0_indexOf_7cf53_17 ca_J1_indexOf_4cfef lk_RJ0_637 st_J1_indexOf_4cfef rfl rfl ⟨by show _ ≤ _; simp only [rmD]; omega, by show _ ≤ _; simp only [rmD]; omega⟩ (Nat.le_of_ble_eq_true rfl) ⟨Nat.zero_le _, Nat.zero_le _⟩ (con_J1_indexOf_4cfef l N w0 hw_w0 _ _ _ _) (fun r5 _ => ?_)
    refine J_goto (tgt := 36) dJ0_indexOf_7cf53_20 (by decide) ?_
    exact J_ireturn dJ0_indexOf_7cf53_36 rfl rfl rfl

def f_J0_indexOf_0f7a4 (N : Nat) (w0 : Nat) (a1 : Int32) : Option Int32 := Option.bind (f_J0_indexOf_7cf53 N w0 a1 (0 : Int32)) fun r1 => some r1
set_option maxRecDepth 100000 in
set_option maxHeartbeats 4000000 in
theorem con_J0_indexOf_0f7a4 (l : Launch) (N : Nat) (w0 : Nat) (hw_w0 : w0 < 8) (a1 : Int32) (s0 : jM) : Con l (4) yJ0_indexOf_0f7a4 cJ0_indexOf_0f7a4 2 (Option.some Jvm.ClassFile.FieldType.int) (eI SH s0) SH [.ref (1000 + w0), .int a1] s0 (f_J0_indexOf_0f7a4 N w0 a1) := by
  refine Con_of (ls0 := [some (.ref (1000 + w0)), some (.int a1)]) (ini := false) (mc := 0) (ms := 0) (by decide +kernel) rfl (Nat.le_of_ble_eq_true rfl) (fun h => by cases h) (fun _ _ => rfl) ?_
  unfold f_J0_indexOf_0f7a4
  refine J_aload_n (i := 0) dJ0_indexOf_0f7a4_0 rfl rfl ?_
  refine J_iload_n (i := 1) dJ0_indexOf_0f7a4_1 rfl rfl ?_
  refine J_iconst (v := (0 : Int32)) dJ0_indexOf_0f7a4_2 (by decide) ?_
  refine J_callVI (1000 + w0) [.int a1, .int (0 : Int32)] dJ0_indexOf_0f7a4_3 ca_J0_indexOf_7cf53 lk_RJ0_633 vi_J0_indexOf_7cf53 (Or.inr ⟨_, rfl, hw_w0, rfl⟩) rfl rfl ⟨by show _ ≤ _; simp only [rmD]; omega, by show _ ≤ _; simp only [rmD]; omega⟩ (Nat.le_of_ble_eq_true rfl) ⟨Nat.zero_le _, Nat.zero_le _⟩ (con_J0_indexOf_7cf53 l N w0 hw_w0 _ _ _) (fun r1 _ => ?_)
  exact J_ireturn dJ0_indexOf_0f7a4_6 rfl rfl rfl

def f_X6_take (N : Nat) (w1 : Nat) (s0 : jM) : Option (Int32 × jM) := Option.bind (f_X6_nextSign N s0) fun r1 => lt_ r1.1 fun x2 => if x2 = (-1 : Int32) then (some ((-1 : Int32), r1.2)) else (Option.bind (f_J0_indexOf_0f7a4 N w1 ((Int32.toUInt32 x2 % 65536).toInt32)) fun r4 => if 0 ≤ r4 then (lt_ (pI r1.2 29 6 ((gI r1.2 29 6) + (1 : Int32))) fun s6 => some (x2, s6)) else (some ((-1 : Int32), r1.2)))
set_option maxRecDepth 100000 in
set_option maxHeartbeats 4000000 in
theorem con_X6_take (l : Launch) (N : Nat) (w1 : Nat) (hw_w1 : w1 < 8) (s0 : jM) : Con l (5) yX6_take cX6_take 3 (Option.some Jvm.ClassFile.FieldType.int) (eIM SH) SH [.ref 29, .ref (1000 + w1)] s0 (f_X6_take N w1 s0) := by
  refine Con_of (ls0 := [some (.ref 29), some (.ref (1000 + w1)), none]) (ini := false) (mc := 0) (ms := 0) (by decide +kernel) rfl (Nat.le_of_ble_eq_true rfl) (fun h => by cases h) (fun _ _ => rfl) ?_
  unfold f_X6_take
  refine J_aload_n (i := 0) dX6_take_0 rfl rfl ?_
  refine J_callVIM 29 [] dX6_take_1 ca_X6_nextSign lk_RX6_48 vi_X6_nextSign rc_29 rfl rfl ⟨by show _ ≤ _; simp only [rmD]; omega, by show _ ≤ _; simp only [rmD]; omega⟩ (Nat.le_of_ble_eq_true rfl) ⟨Nat.zero_le _, Nat.zero_le _⟩ (con_X6_nextSign l N _) (fun r1 _ => ?_)
  refine J_istore_nN (i := 2) (LS := fun x2 => [some (.ref 29), some (.ref (1000 + w1)), some (.int x2)]) dX6_take_4 rfl (fun _ => rfl) (by decide) (fun x2 => ?_)
  refine J_iload_n (i := 2) dX6_take_5 rfl rfl ?_
  refine J_iconst (v := (-1 : Int32)) dX6_take_6 (by decide) ?_
  refine J_icmp_eq (tgt := 19) dX6_take_7 (by decide) (fun c3 => ?_) (fun c3 => ?_)
  · refine J_iconst (v := (-1 : Int32)) dX6_take_19 (by decide) ?_
    exact J_ireturn dX6_take_20 rfl rfl rfl
  · refine J_aload_n (i := 1) dX6_take_10 rfl rfl ?_
    refine J_iload_n (i := 2) dX6_take_11 rfl rfl ?_
    refine J_i2c dX6_take_12 ?_
    refine J_callVI (1000 + w1) [.int ((Int32.toUInt32 x2 % 65536).toInt32)] dX6_take_13 ca_J0_indexOf_0f7a4 lk_RX6_111 vi_J0_indexOf_0f7a4 (Or.inr ⟨_, rfl, hw_w1, rfl⟩) rfl rfl ⟨by show _ ≤ _; simp only [rmD]; omega, by show _ ≤ _; simp only [rmD]; omega⟩ (Nat.le_of_ble_eq_true rfl) ⟨Nat.zero_le _, Nat.zero_le _⟩ (con_J0_indexOf_0f7a4 l N w1 hw_w1 _ _) (fun r4 _ => ?_)
    refine J_if_ge (tgt := 21) dX6_take_16 (by decide) (fun c5 => ?_) (fun c5 => ?_)
    · refine J_aload_n (i := 0) dX6_take_21 rfl rfl ?_
      refine J_dup dX6_take_22 rfl ?_
      refine J_getI dX6_take_23 fl_RX6_30 sh_29_6 ?_
      refine J_iconst (v := (1 : Int32)) dX6_take_26 (by decide) ?_
      refine J_iadd dX6_take_27 ?_
      refine J_putI dX6_take_28 fp_RX6_30 (fun h => by first | rfl | cases h) sh_29_6 rfl rfl ?_
      refine J_letM rfl (fun s6 => ?_)
      refine J_iload_n (i := 2) dX6_take_31 rfl rfl ?_
      exact J_ireturn dX6_take_32 rfl rfl rfl
    · refine J_iconst (v := (-1 : Int32)) dX6_take_19 (by decide) ?_
      exact J_ireturn dX6_take_20 rfl rfl rfl

def f_X6_isDigit (a0 : Int32) : Option Int32 := jn_ (fun (_ : Unit) => some (0 : Int32)) fun j1 => if a0 < (48 : Int32) then (j1 ()) else (if (57 : Int32) < a0 then (j1 ()) else (some (1 : Int32)))
set_option maxRecDepth 100000 in
set_option maxHeartbeats 4000000 in
theorem con_X6_isDigit (l : Launch) (a0 : Int32) (s0 : jM) : Con l (1) yX6_isDigit cX6_isDigit 1 (Option.some Jvm.ClassFile.FieldType.boolean) (eI SH s0) SH [.int a0] s0 (f_X6_isDigit a0) := by
  refine Con_of (ls0 := [some (.int a0)]) (ini := false) (mc := 0) (ms := 0) (by decide +kernel) rfl (Nat.le_of_ble_eq_true rfl) (fun h => by cases h) (fun _ _ => rfl) ?_
  unfold f_X6_isDigit
  refine J_join (P := fun j => ∀ (_ : Unit), J l RX6 cX6_isDigit 1 (Option.some Jvm.ClassFile.FieldType.boolean) false (rmD (1) 0 0) noCx (eI SH s0) SH 0 0 s0 16 [none] [] (j ())) ?_ (fun j1 hj1 => ?_)
  · intro _
    refine J_iconst (v := (0 : Int32)) dX6_isDigit_16 (by decide) ?_
    exact J_ireturn dX6_isDigit_17 rfl rfl rfl
  refine J_iload_n (i := 0) dX6_isDigit_0 rfl rfl ?_
  refine J_bipush (v := (48 : Int32)) dX6_isDigit_1 (by decide) ?_
  refine J_icmp_lt (tgt := 16) dX6_isDigit_3 (by decide) (fun c2 => ?_) (fun c2 => ?_)
  · refine J_sub (l1 := [none]) trivial ?_
    exact hj1 ()
  · refine J_iload_n (i := 0) dX6_isDigit_6 rfl rfl ?_
    refine J_bipush (v := (57 : Int32)) dX6_isDigit_7 (by decide) ?_
    refine J_icmp_gt (tgt := 16) dX6_isDigit_9 (by decide) (fun c3 => ?_) (fun c3 => ?_)
    · refine J_sub (l1 := [none]) trivial ?_
      exact hj1 ()
    · refine J_iconst (v := (1 : Int32)) dX6_isDigit_12 (by decide) ?_
      refine J_goto (tgt := 17) dX6_isDigit_13 (by decide) ?_
      exact J_ireturn dX6_isDigit_17 rfl rfl rfl

def f_X6_addSign (a1 : Int32) (a2 : Int32) (s0 : jM) : Option jM := if (40 : Int32) ≤ (gI s0 29 3) then (some s0) else (gd (ib (gI s0 29 3) 40) <| lt_ (pI s0 30 (Int32.toNatClampNeg (gI s0 29 3)) a1) fun s2 => gd (ib (gI s2 29 3) 40) <| lt_ (pI s2 31 (Int32.toNatClampNeg (gI s2 29 3)) a2) fun s3 => lt_ (pI s3 29 3 ((gI s3 29 3) + (1 : Int32))) fun s4 => some s4)
set_option maxRecDepth 100000 in
set_option maxHeartbeats 4000000 in
theorem con_X6_addSign (l : Launch) (a1 : Int32) (a2 : Int32) (s0 : jM) : Con l (1) yX6_addSign cX6_addSign 3 (Option.none : Option Jvm.ClassFile.FieldType) (eV SH) SH [.ref 29, .int a1, .int a2] s0 (f_X6_addSign a1 a2 s0) := by
  refine Con_of (ls0 := [some (.ref 29), some (.int a1), some (.int a2)]) (ini := false) (mc := 0) (ms := 0) (by decide +kernel) rfl (Nat.le_of_ble_eq_true rfl) (fun h => by cases h) (fun _ _ => rfl) ?_
  unfold f_X6_addSign
  refine J_aload_n (i := 0) dX6_addSign_0 rfl rfl ?_
  refine J_getI dX6_addSign_1 fl_RX6_34 sh_29_3 ?_
  refine J_bipush (v := (40 : Int32)) dX6_addSign_4 (by decide) ?_
  refine J_icmp_ge (tgt := 39) dX6_addSign_6 (by decide) (fun c1 => ?_) (fun c1 => ?_)
  · exact J_return dX6_addSign_39 rfl rfl
  · refine J_aload_n (i := 0) dX6_addSign_9 rfl rfl ?_
    refine J_getR dX6_addSign_10 fl_RX6_9 sh_29_1 ?_
    refine J_aload_n (i := 0) dX6_addSign_13 rfl rfl ?_
    refine J_getI dX6_addSign_14 fl_RX6_34 sh_29_3 ?_
    refine J_iload_n (i := 1) dX6_addSign_17 rfl rfl ?_
    refine J_cast dX6_addSign_18 sa_30 ?_
    refine J_letM rfl (fun s2 => ?_)
    refine J_aload_n (i := 0) dX6_addSign_19 rfl rfl ?_
    refine J_getR dX6_addSign_20 fl_RX6_15 sh_29_2 ?_
    refine J_aload_n (i := 0) dX6_addSign_23 rfl rfl ?_
    refine J_getI dX6_addSign_24 fl_RX6_34 sh_29_3 ?_
    refine J_iload_n (i := 2) dX6_addSign_27 rfl rfl ?_
    refine J_iast dX6_addSign_28 sa_31 ?_
    refine J_letM rfl (fun s3 => ?_)
    refine J_aload_n (i := 0) dX6_addSign_29 rfl rfl ?_
    refine J_dup dX6_addSign_30 rfl ?_
    refine J_getI dX6_addSign_31 fl_RX6_34 sh_29_3 ?_
    refine J_iconst (v := (1 : Int32)) dX6_addSign_34 (by decide) ?_
    refine J_iadd dX6_addSign_35 ?_
    refine J_putI dX6_addSign_36 fp_RX6_34 (fun h => by first | rfl | cases h) sh_29_3 rfl rfl ?_
    refine J_letM rfl (fun s4 => ?_)
    exact J_return dX6_addSign_39 rfl rfl

def f_X6_setFlaw (a1 : Int32) (a2 : Int32) (s0 : jM) : Option jM := if (gI s0 29 7) = (-1 : Int32) then (lt_ (pI s0 29 7 (((10 : Int32) * a1) + a2)) fun s2 => some s2) else (some s0)
set_option maxRecDepth 100000 in
set_option maxHeartbeats 4000000 in
theorem con_X6_setFlaw (l : Launch) (a1 : Int32) (a2 : Int32) (s0 : jM) : Con l (1) yX6_setFlaw cX6_setFlaw 3 (Option.none : Option Jvm.ClassFile.FieldType) (eV SH) SH [.ref 29, .int a1, .int a2] s0 (f_X6_setFlaw a1 a2 s0) := by
  refine Con_of (ls0 := [some (.ref 29), some (.int a1), some (.int a2)]) (ini := false) (mc := 0) (ms := 0) (by decide +kernel) rfl (Nat.le_of_ble_eq_true rfl) (fun h => by cases h) (fun _ _ => rfl) ?_
  unfold f_X6_setFlaw
  refine J_aload_n (i := 0) dX6_setFlaw_0 rfl rfl ?_
  refine J_getI dX6_setFlaw_1 fl_RX6_37 sh_29_7 ?_
  refine J_iconst (v := (-1 : Int32)) dX6_setFlaw_4 (by decide) ?_
  refine J_icmp_ne (tgt := 18) dX6_setFlaw_5 (by decide) (fun c1 => ?_) (fun c1 => ?_)
  · exact J_return dX6_setFlaw_18 rfl rfl
  · refine J_aload_n (i := 0) dX6_setFlaw_8 rfl rfl ?_
    refine J_bipush (v := (10 : Int32)) dX6_setFlaw_9 (by decide) ?_
    refine J_iload_n (i := 1) dX6_setFlaw_11 rfl rfl ?_
    refine J_imul dX6_setFlaw_12 ?_
    refine J_iload_n (i := 2) dX6_setFlaw_13 rfl rfl ?_
    refine J_iadd dX6_setFlaw_14 ?_
    refine J_putI dX6_setFlaw_15 fp_RX6_37 (fun h => by first | rfl | cases h) sh_29_7 rfl rfl ?_
    refine J_letM rfl (fun s2 => ?_)
    exact J_return dX6_setFlaw_18 rfl rfl

def lp_X6_readDigits_7 (N : Nat) (x1 : Int32) (k4 : Int32 → jM → Option jM) (k7 : jM → Option jM) : Nat → Int32 → jM → Option jM
  | 0, _, _ => none
  | q + 1, x9, s10 => if (40 : Int32) ≤ (gI s10 29 6) then (k4 x9 s10) else (Option.bind (f_X6_signAt (gI s10 29 6) s10) fun r13 => Option.bind (f_X6_isDigit r13) fun r14 => if r14 = 0 then (k4 x9 s10) else (if ((gI s10 29 6) - x1) < (6 : Int32) then (Option.bind (f_X6_signAt (gI s10 29 6) s10) fun r17 => lt_ ((((10 : Int32) * x9) + r17) - (48 : Int32)) fun x18 => lt_ (pI s10 29 6 ((gI s10 29 6) + (1 : Int32))) fun s19 => lp_X6_readDigits_7 N x1 k4 k7 q x18 s19) else (k7 s10)))
def f_X6_readDigits (N : Nat)  (s0 : jM) : Option jM := lt_ (gI s0 29 6) fun x1 => jn_ (fun (x2 : Int32) (s3 : jM) => Option.bind (f_X6_addSign (35 : Int32) x2 s3) fun r5 => some r5) fun k4 => jn_ (fun (s6 : jM) => Option.bind (f_X6_setFlaw x1 (2 : Int32) s6) fun r8 => some r8) fun k7 => lp_X6_readDigits_7 N x1 k4 k7 N (0 : Int32) s0
set_option maxRecDepth 100000 in
set_option maxHeartbeats 4000000 in
theorem lp_X6_readDigits_7_ok (l : Launch) (N : Nat)  (x1 : Int32) (k4 : Int32 → jM → Option jM) (k7 : jM → Option jM) (hk4 : ∀ (x2 : Int32) (s3 : jM), J l RX6 cX6_readDigits 3 (Option.none : Option Jvm.ClassFile.FieldType) false (rmD (2) 0 0) noCx (eV SH) SH 0 0 s3 78 [some (.ref 29), none, some (.int x2)] [] (k4 x2 s3)) (hk7 : ∀ (s6 : jM), J l RX6 cX6_readDigits 3 (Option.none : Option Jvm.ClassFile.FieldType) false (rmD (2) 0 0) noCx (eV SH) SH 0 0 s6 41 [some (.ref 29), some (.int x1), none] [] (k7 s6)) : ∀ (q : Nat) (x9 : Int32) (s10 : jM), J l RX6 cX6_readDigits 3 (Option.none : Option Jvm.ClassFile.FieldType) false (rmD (2) 0 0) noCx (eV SH) SH 0 0 s10 7 [some (.ref 29), some (.int x1), some (.int x9)] [] (lp_X6_readDigits_7 N x1 k4 k7 q x9 s10) := by
  intro q
  induction q with
  | zero => intro x9 s10; exact J_none
  | succ q hrec11 =>
    intro x9 s10
    rw [lp_X6_readDigits_7]
    refine J_aload_n (i := 0) dX6_readDigits_7 rfl rfl ?_
    refine J_getI dX6_readDigits_8 fl_RX6_30 sh_29_6 ?_
    refine J_bipush (v := (40 : Int32)) dX6_readDigits_11 (by decide) ?_
    refine J_icmp_ge (tgt := 78) dX6_readDigits_13 (by decide) (fun c12 => ?_) (fun c12 => ?_)
    · refine J_sub (l1 := [some (.ref 29), none, some (.int x9)]) ⟨rfl, ⟨rfl, trivial⟩⟩ ?_
      exact hk4 x9 s10
    · refine J_aload_n (i := 0) dX6_readDigits_16 rfl rfl ?_
      refine J_aload_n (i := 0) dX6_readDigits_17 rfl rfl ?_
      refine J_getI dX6_readDigits_18 fl_RX6_30 sh_29_6 ?_
      refine J_callVI 29 [.int (gI s10 29 6)] dX6_readDigits_21 ca_X6_signAt lk_RX6_117 vi_X6_signAt rc_29 rfl rfl ⟨by show _ ≤ _; simp only [rmD]; omega, by show _ ≤ _; simp only [rmD]; omega⟩ (Nat.le_of_ble_eq_true rfl) ⟨Nat.zero_le _, Nat.zero_le _⟩ (con_X6_signAt l _ _) (fun r13 _ => ?_)
      refine J_callSI [.int r13] dX6_readDigits_24 ca_X6_isDigit lk_RX6_99 st_X6_isDigit rfl rfl ⟨by show _ ≤ _; simp only [rmD]; omega, by show _ ≤ _; simp only [rmD]; omega⟩ (Nat.le_of_ble_eq_true rfl) ⟨Nat.zero_le _, Nat.zero_le _⟩ (con_X6_isDigit l _ _) (fun r14 _ => ?_)
      refine J_if_eq (tgt := 78) dX6_readDigits_27 (by decide) (fun c15 => ?_) (fun c15 => ?_)
      · refine J_sub (l1 := [some (.ref 29), none, some (.int x9)]) ⟨rfl, ⟨rfl, trivial⟩⟩ ?_
        exact hk4 x9 s10
      · refine J_aload_n (i := 0) dX6_readDigits_30 rfl rfl ?_
        refine J_getI dX6_readDigits_31 fl_RX6_30 sh_29_6 ?_
        refine J_iload_n (i := 1) dX6_readDigits_34 rfl rfl ?_
        refine J_isub dX6_readDigits_35 ?_
        refine J_bipush (v := (6 : Int32)) dX6_readDigits_36 (by decide) ?_
        refine J_icmp_lt (tgt := 48) dX6_readDigits_38 (by decide) (fun c16 => ?_) (fun c16 => ?_)
        · refine J_bipush (v := (10 : Int32)) dX6_readDigits_48 (by decide) ?_
          refine J_iload_n (i := 2) dX6_readDigits_50 rfl rfl ?_
          refine J_imul dX6_readDigits_51 ?_
          refine J_aload_n (i := 0) dX6_readDigits_52 rfl rfl ?_
          refine J_aload_n (i := 0) dX6_readDigits_53 rfl rfl ?_
          refine J_getI dX6_readDigits_54 fl_RX6_30 sh_29_6 ?_
          refine J_callVI 29 [.int (gI s10 29 6)] dX6_readDigits_57 ca_X6_signAt lk_RX6_117 vi_X6_signAt rc_29 rfl rfl ⟨by show _ ≤ _; simp only [rmD]; omega, by show _ ≤ _; simp only [rmD]; omega⟩ (Nat.le_of_ble_eq_true rfl) ⟨Nat.zero_le _, Nat.zero_le _⟩ (con_X6_signAt l _ _) (fun r17 _ => ?_)
          refine J_iadd dX6_readDigits_60 ?_
          refine J_bipush (v := (48 : Int32)) dX6_readDigits_61 (by decide) ?_
          refine J_isub dX6_readDigits_63 ?_
          refine J_istore_nN (i := 2) (LS := fun x18 => [some (.ref 29), some (.int x1), some (.int x18)]) dX6_readDigits_64 rfl (fun _ => rfl) (by decide) (fun x18 => ?_)
          refine J_aload_n (i := 0) dX6_readDigits_65 rfl rfl ?_
          refine J_dup dX6_readDigits_66 rfl ?_
          refine J_getI dX6_readDigits_67 fl_RX6_30 sh_29_6 ?_
          refine J_iconst (v := (1 : Int32)) dX6_readDigits_70 (by decide) ?_
          refine J_iadd dX6_readDigits_71 ?_
          refine J_putI dX6_readDigits_72 fp_RX6_30 (fun h => by first | rfl | cases h) sh_29_6 rfl rfl ?_
          refine J_letM rfl (fun s19 => ?_)
          refine J_goto (tgt := 7) dX6_readDigits_75 (by decide) ?_
          refine J_sub (l1 := [some (.ref 29), some (.int x1), some (.int x18)]) ⟨rfl, ⟨rfl, ⟨rfl, trivial⟩⟩⟩ ?_
          exact hrec11 x18 s19
        · refine J_sub (l1 := [some (.ref 29), some (.int x1), none]) ⟨rfl, ⟨rfl, trivial⟩⟩ ?_
          exact hk7 s10
set_option maxRecDepth 100000 in
set_option maxHeartbeats 4000000 in
theorem con_X6_readDigits (l : Launch) (N : Nat) (s0 : jM) : Con l (2) yX6_readDigits cX6_readDigits 3 (Option.none : Option Jvm.ClassFile.FieldType) (eV SH) SH [.ref 29] s0 (f_X6_readDigits N s0) := by
  refine Con_of (ls0 := [some (.ref 29), none, none]) (ini := false) (mc := 0) (ms := 0) (by decide +kernel) rfl (Nat.le_of_ble_eq_true rfl) (fun h => by cases h) (fun _ _ => rfl) ?_
  unfold f_X6_readDigits
  refine J_aload_n (i := 0) dX6_readDigits_0 rfl rfl ?_
  refine J_getI dX6_readDigits_1 fl_RX6_30 sh_29_6 ?_
  refine J_istore_nN (i := 1) (LS := fun x1 => [some (.ref 29), some (.int x1), none]) dX6_readDigits_4 rfl (fun _ => rfl) (by decide) (fun x1 => ?_)
  refine J_iconst (v := (0 : Int32)) dX6_readDigits_5 (by decide) ?_
  refine J_istore_n (i := 2) (ls2 := [some (.ref 29), some (.int x1), some (.int (0 : Int32))]) dX6_readDigits_6 rfl rfl (by decide) ?_
  refine J_join (P := fun j => ∀ (x2 : Int32) (s3 : jM), J l RX6 cX6_readDigits 3 (Option.none : Option Jvm.ClassFile.FieldType) false (rmD (2) 0 0) noCx (eV SH) SH 0 0 s3 78 [some (.ref 29), none, some (.int x2)] [] (j x2 s3)) ?_ (fun k4 hk4 => ?_)
  · intro x2 s3
    refine J_aload_n (i := 0) dX6_readDigits_78 rfl rfl ?_
    refine J_bipush (v := (35 : Int32)) dX6_readDigits_79 (by decide) ?_
    refine J_iload_n (i := 2) dX6_readDigits_81 rfl rfl ?_
    refine J_callVV 29 [.int (35 : Int32), .int x2] dX6_readDigits_82 ca_X6_addSign lk_RX6_65 vi_X6_addSign rc_29 rfl rfl ⟨by show _ ≤ _; simp only [rmD]; omega, by show _ ≤ _; simp only [rmD]; omega⟩ (Nat.le_of_ble_eq_true rfl) ⟨Nat.zero_le _, Nat.zero_le _⟩ (con_X6_addSign l _ _ _) (fun r5 _ => ?_)
    exact J_return dX6_readDigits_85 rfl rfl
  refine J_join (P := fun j => ∀ (s6 : jM), J l RX6 cX6_readDigits 3 (Option.none : Option Jvm.ClassFile.FieldType) false (rmD (2) 0 0) noCx (eV SH) SH 0 0 s6 41 [some (.ref 29), some (.int x1), none] [] (j s6)) ?_ (fun k7 hk7 => ?_)
  · intro s6
    refine J_aload_n (i := 0) dX6_readDigits_41 rfl rfl ?_
    refine J_iload_n (i := 1) dX6_readDigits_42 rfl rfl ?_
    refine J_iconst (v := (2 : Int32)) dX6_readDigits_43 (by decide) ?_
    refine J_callVV 29 [.int x1, .int (2 : Int32)] dX6_readDigits_44 ca_X6_setFlaw lk_RX6_52 vi_X6_setFlaw rc_29 rfl rfl ⟨by show _ ≤ _; simp only [rmD]; omega, by show _ ≤ _; simp only [rmD]; omega⟩ (Nat.le_of_ble_eq_true rfl) ⟨Nat.zero_le _, Nat.zero_le _⟩ (con_X6_setFlaw l _ _ _) (fun r8 _ => ?_)
    exact J_return dX6_readDigits_47 rfl rfl
  refine J_sub (l1 := [some (.ref 29), some (.int x1), some (.int (0 : Int32))]) ⟨rfl, ⟨rfl, ⟨rfl, trivial⟩⟩⟩ ?_
  exact lp_X6_readDigits_7_ok l N  x1 k4 k7 hk4 hk7 N (0 : Int32) s0

def f_X6_readOpened (N : Nat) (rv : Int32 → jM → Option jM) (a1 : Int32) (s0 : jM) : Option jM := if a1 < (8 : Int32) then (lt_ (pI s0 29 6 ((gI s0 29 6) + (1 : Int32))) fun s2 => Option.bind (rv (a1 + (1 : Int32)) s2) fun r3 => Option.bind (f_X6_take N 1 r3) fun r4 => if r4.1 = (-1 : Int32) then (Option.bind (f_X6_setFlaw (gI r4.2 29 6) (1 : Int32) r4.2) fun r6 => some r6) else (some r4.2)) else (Option.bind (f_X6_setFlaw (gI s0 29 6) (3 : Int32) s0) fun r7 => some r7)
set_option maxRecDepth 100000 in
set_option maxHeartbeats 4000000 in
theorem con_X6_readOpened (l : Launch) (N : Nat) (rv : Int32 → jM → Option jM) (d0 : Nat) (hd0 : 20 ≤ d0) (hrv : ∀ (a : Int32) (s : jM), Con l d0 yX6_readValue cX6_readValue 3 none (eV SH) SH [.ref 29, .int a] s (rv a s)) (a1 : Int32) (s0 : jM) : Con l (d0 + 1) yX6_readOpened cX6_readOpened 2 (Option.none : Option Jvm.ClassFile.FieldType) (eV SH) SH [.ref 29, .int a1] s0 (f_X6_readOpened N rv a1 s0) := by
  refine Con_of (ls0 := [some (.ref 29), some (.int a1)]) (ini := false) (mc := 0) (ms := 0) (by decide +kernel) rfl (Nat.le_of_ble_eq_true rfl) (fun h => by cases h) (fun _ _ => rfl) ?_
  unfold f_X6_readOpened
  refine J_iload_n (i := 1) dX6_readOpened_0 rfl rfl ?_
  refine J_bipush (v := (8 : Int32)) dX6_readOpened_1 (by decide) ?_
  refine J_icmp_lt (tgt := 16) dX6_readOpened_3 (by decide) (fun c1 => ?_) (fun c1 => ?_)
  · refine J_aload_n (i := 0) dX6_readOpened_16 rfl rfl ?_
    refine J_dup dX6_readOpened_17 rfl ?_
    refine J_getI dX6_readOpened_18 fl_RX6_30 sh_29_6 ?_
    refine J_iconst (v := (1 : Int32)) dX6_readOpened_21 (by decide) ?_
    refine J_iadd dX6_readOpened_22 ?_
    refine J_putI dX6_readOpened_23 fp_RX6_30 (fun h => by first | rfl | cases h) sh_29_6 rfl rfl ?_
    refine J_letM rfl (fun s2 => ?_)
    refine J_aload_n (i := 0) dX6_readOpened_26 rfl rfl ?_
    refine J_iload_n (i := 1) dX6_readOpened_27 rfl rfl ?_
    refine J_iconst (v := (1 : Int32)) dX6_readOpened_28 (by decide) ?_
    refine J_iadd dX6_readOpened_29 ?_
    refine J_callVV 29 [.int (a1 + (1 : Int32))] dX6_readOpened_30 ca_X6_readValue lk_RX6_44 vi_X6_readValue rc_29 rfl rfl ⟨by show _ ≤ _; simp only [rmD]; omega, by show _ ≤ _; simp only [rmD]; omega⟩ (Nat.le_of_ble_eq_true rfl) ⟨Nat.zero_le _, Nat.zero_le _⟩ (hrv _ _) (fun r3 _ => ?_)
    refine J_aload_n (i := 0) dX6_readOpened_33 rfl rfl ?_
    refine J_ldcS (i := 1) dX6_readOpened_34 sr_1 ?_
    refine J_callVIM 29 [.ref (1000 + 1)] dX6_readOpened_36 ca_X6_take lk_RX6_61 vi_X6_take rc_29 rfl rfl ⟨by show _ ≤ _; simp only [rmD]; omega, by show _ ≤ _; simp only [rmD]; omega⟩ (Nat.le_of_ble_eq_true rfl) ⟨Nat.zero_le _, Nat.zero_le _⟩ (con_X6_take l N 1 (by decide) _) (fun r4 _ => ?_)
    refine J_iconst (v := (-1 : Int32)) dX6_readOpened_39 (by decide) ?_
    refine J_icmp_ne (tgt := 52) dX6_readOpened_40 (by decide) (fun c5 => ?_) (fun c5 => ?_)
    · exact J_return dX6_readOpened_52 rfl rfl
    · refine J_aload_n (i := 0) dX6_readOpened_43 rfl rfl ?_
      refine J_aload_n (i := 0) dX6_readOpened_44 rfl rfl ?_
      refine J_getI dX6_readOpened_45 fl_RX6_30 sh_29_6 ?_
      refine J_iconst (v := (1 : Int32)) dX6_readOpened_48 (by decide) ?_
      refine J_callVV 29 [.int (gI r4.2 29 6), .int (1 : Int32)] dX6_readOpened_49 ca_X6_setFlaw lk_RX6_52 vi_X6_setFlaw rc_29 rfl rfl ⟨by show _ ≤ _; simp only [rmD]; omega, by show _ ≤ _; simp only [rmD]; omega⟩ (Nat.le_of_ble_eq_true rfl) ⟨Nat.zero_le _, Nat.zero_le _⟩ (con_X6_setFlaw l _ _ _) (fun r6 _ => ?_)
      exact J_return dX6_readOpened_52 rfl rfl
  · refine J_aload_n (i := 0) dX6_readOpened_6 rfl rfl ?_
    refine J_aload_n (i := 0) dX6_readOpened_7 rfl rfl ?_
    refine J_getI dX6_readOpened_8 fl_RX6_30 sh_29_6 ?_
    refine J_iconst (v := (3 : Int32)) dX6_readOpened_11 (by decide) ?_
    refine J_callVV 29 [.int (gI s0 29 6), .int (3 : Int32)] dX6_readOpened_12 ca_X6_setFlaw lk_RX6_52 vi_X6_setFlaw rc_29 rfl rfl ⟨by show _ ≤ _; simp only [rmD]; omega, by show _ ≤ _; simp only [rmD]; omega⟩ (Nat.le_of_ble_eq_true rfl) ⟨Nat.zero_le _, Nat.zero_le _⟩ (con_X6_setFlaw l _ _ _) (fun r7 _ => ?_)
    exact J_return dX6_readOpened_15 rfl rfl

def f_X6_readBareUnit (N : Nat) (rv : Int32 → jM → Option jM) (a1 : Int32) (s0 : jM) : Option jM := Option.bind (f_X6_nextSign N s0) fun r1 => lt_ r1.1 fun x2 => Option.bind (f_X6_isDigit x2) fun r3 => if r3 = 0 then (if x2 = (40 : Int32) then (Option.bind (f_X6_readOpened N rv a1 r1.2) fun r17 => some r17) else (if x2 = (109 : Int32) then (lt_ (pI r1.2 29 8 (1 : Int32)) fun s14 => lt_ (pI s14 29 6 ((gI s14 29 6) + (1 : Int32))) fun s15 => Option.bind (f_X6_addSign (109 : Int32) (0 : Int32) s15) fun r16 => some r16) else (jn_ (fun (_ : Unit) => Option.bind (f_X6_setFlaw (gI r1.2 29 6) (1 : Int32) r1.2) fun r8 => some r8) fun j7 => if x2 = (-1 : Int32) then (j7 ()) else (Option.bind (f_J0_indexOf_0f7a4 N 2 ((Int32.toUInt32 x2 % 65536).toInt32)) fun r10 => if r10 < 0 then (j7 ()) else (lt_ (pI r1.2 29 6 ((gI r1.2 29 6) + (1 : Int32))) fun s12 => Option.bind (f_X6_addSign ((Int32.toUInt32 x2 % 65536).toInt32) (0 : Int32) s12) fun r13 => some r13))))) else (Option.bind (f_X6_readDigits N r1.2) fun r18 => some r18)
set_option maxRecDepth 100000 in
set_option maxHeartbeats 4000000 in
theorem con_X6_readBareUnit (l : Launch) (N : Nat) (rv : Int32 → jM → Option jM) (d0 : Nat) (hd0 : 20 ≤ d0) (hrv : ∀ (a : Int32) (s : jM), Con l d0 yX6_readValue cX6_readValue 3 none (eV SH) SH [.ref 29, .int a] s (rv a s)) (a1 : Int32) (s0 : jM) : Con l (d0 + 2) yX6_readBareUnit cX6_readBareUnit 3 (Option.none : Option Jvm.ClassFile.FieldType) (eV SH) SH [.ref 29, .int a1] s0 (f_X6_readBareUnit N rv a1 s0) := by
  refine Con_of (ls0 := [some (.ref 29), some (.int a1), none]) (ini := false) (mc := 0) (ms := 0) (by decide +kernel) rfl (Nat.le_of_ble_eq_true rfl) (fun h => by cases h) (fun _ _ => rfl) ?_
  unfold f_X6_readBareUnit
  refine J_aload_n (i := 0) dX6_readBareUnit_0 rfl rfl ?_
  refine J_callVIM 29 [] dX6_readBareUnit_1 ca_X6_nextSign lk_RX6_48 vi_X6_nextSign rc_29 rfl rfl ⟨by show _ ≤ _; simp only [rmD]; omega, by show _ ≤ _; simp only [rmD]; omega⟩ (Nat.le_of_ble_eq_true rfl) ⟨Nat.zero_le _, Nat.zero_le _⟩ (con_X6_nextSign l N _) (fun r1 _ => ?_)
  refine J_istore_nN (i := 2) (LS := fun x2 => [some (.ref 29), some (.int a1), some (.int x2)]) dX6_readBareUnit_4 rfl (fun _ => rfl) (by decide) (fun x2 => ?_)
  refine J_iload_n (i := 2) dX6_readBareUnit_5 rfl rfl ?_
  refine J_callSI [.int x2] dX6_readBareUnit_6 ca_X6_isDigit lk_RX6_99 st_X6_isDigit rfl rfl ⟨by show _ ≤ _; simp only [rmD]; omega, by show _ ≤ _; simp only [rmD]; omega⟩ (Nat.le_of_ble_eq_true rfl) ⟨Nat.zero_le _, Nat.zero_le _⟩ (con_X6_isDigit l _ _) (fun r3 _ => ?_)
  refine J_if_eq (tgt := 19) dX6_readBareUnit_9 (by decide) (fun c4 => ?_) (fun c4 => ?_)
  · refine J_iload_n (i := 2) dX6_readBareUnit_19 rfl rfl ?_
    refine J_bipush (v := (40 : Int32)) dX6_readBareUnit_20 (by decide) ?_
    refine J_icmp_ne (tgt := 33) dX6_readBareUnit_22 (by decide) (fun c5 => ?_) (fun c5 => ?_)
    · refine J_iload_n (i := 2) dX6_readBareUnit_33 rfl rfl ?_
      refine J_bipush (v := (109 : Int32)) dX6_readBareUnit_34 (by decide) ?_
      refine J_icmp_ne (tgt := 64) dX6_readBareUnit_36 (by decide) (fun c6 => ?_) (fun c6 => ?_)
      · refine J_join (P := fun j => ∀ (_ : Unit), J l RX6 cX6_readBareUnit 3 (Option.none : Option Jvm.ClassFile.FieldType) false (rmD (d0 + 2) 0 0) noCx (eV SH) SH 0 0 r1.2 99 [some (.ref 29), none, none] [] (j ())) ?_ (fun j7 hj7 => ?_)
        · intro _
          refine J_aload_n (i := 0) dX6_readBareUnit_99 rfl rfl ?_
          refine J_aload_n (i := 0) dX6_readBareUnit_100 rfl rfl ?_
          refine J_getI dX6_readBareUnit_101 fl_RX6_30 sh_29_6 ?_
          refine J_iconst (v := (1 : Int32)) dX6_readBareUnit_104 (by decide) ?_
          refine J_callVV 29 [.int (gI r1.2 29 6), .int (1 : Int32)] dX6_readBareUnit_105 ca_X6_setFlaw lk_RX6_52 vi_X6_setFlaw rc_29 rfl rfl ⟨by show _ ≤ _; simp only [rmD]; omega, by show _ ≤ _; simp only [rmD]; omega⟩ (Nat.le_of_ble_eq_true rfl) ⟨Nat.zero_le _, Nat.zero_le _⟩ (con_X6_setFlaw l _ _ _) (fun r8 _ => ?_)
          exact J_return dX6_readBareUnit_108 rfl rfl
        refine J_iload_n (i := 2) dX6_readBareUnit_64 rfl rfl ?_
        refine J_iconst (v := (-1 : Int32)) dX6_readBareUnit_65 (by decide) ?_
        refine J_icmp_eq (tgt := 99) dX6_readBareUnit_66 (by decide) (fun c9 => ?_) (fun c9 => ?_)
        · refine J_sub (l1 := [some (.ref 29), none, none]) ⟨rfl, trivial⟩ ?_
          exact hj7 ()
        · refine J_ldcS (i := 2) dX6_readBareUnit_69 sr_2 ?_
          refine J_iload_n (i := 2) dX6_readBareUnit_71 rfl rfl ?_
          refine J_i2c dX6_readBareUnit_72 ?_
          refine J_callVI (1000 + 2) [.int ((Int32.toUInt32 x2 % 65536).toInt32)] dX6_readBareUnit_73 ca_J0_indexOf_0f7a4 lk_RX6_111 vi_J0_indexOf_0f7a4 (Or.inr ⟨_, rfl, (by decide), rfl⟩) rfl rfl ⟨by show _ ≤ _; simp only [rmD]; omega, by show _ ≤ _; simp only [rmD]; omega⟩ (Nat.le_of_ble_eq_true rfl) ⟨Nat.zero_le _, Nat.zero_le _⟩ (con_J0_indexOf_0f7a4 l N 2 (by decide) _ _) (fun r10 _ => ?_)
          refine J_if_lt (tgt := 99) dX6_readBareUnit_76 (by decide) (fun c11 => ?_) (fun c11 => ?_)
          · refine J_sub (l1 := [some (.ref 29), none, none]) ⟨rfl, trivial⟩ ?_
            exact hj7 ()
          · refine J_aload_n (i := 0) dX6_readBareUnit_79 rfl rfl ?_
            refine J_dup dX6_readBareUnit_80 rfl ?_
            refine J_getI dX6_readBareUnit_81 fl_RX6_30 sh_29_6 ?_
            refine J_iconst (v := (1 : Int32)) dX6_readBareUnit_84 (by decide) ?_
            refine J_iadd dX6_readBareUnit_85 ?_
            refine J_putI dX6_readBareUnit_86 fp_RX6_30 (fun h => by first | rfl | cases h) sh_29_6 rfl rfl ?_
            refine J_letM rfl (fun s12 => ?_)
            refine J_aload_n (i := 0) dX6_readBareUnit_89 rfl rfl ?_
            refine J_iload_n (i := 2) dX6_readBareUnit_90 rfl rfl ?_
            refine J_i2c dX6_readBareUnit_91 ?_
            refine J_iconst (v := (0 : Int32)) dX6_readBareUnit_92 (by decide) ?_
            refine J_callVV 29 [.int ((Int32.toUInt32 x2 % 65536).toInt32), .int (0 : Int32)] dX6_readBareUnit_93 ca_X6_addSign lk_RX6_65 vi_X6_addSign rc_29 rfl rfl ⟨by show _ ≤ _; simp only [rmD]; omega, by show _ ≤ _; simp only [rmD]; omega⟩ (Nat.le_of_ble_eq_true rfl) ⟨Nat.zero_le _, Nat.zero_le _⟩ (con_X6_addSign l _ _ _) (fun r13 _ => ?_)
            refine J_goto (tgt := 108) dX6_readBareUnit_96 (by decide) ?_
            exact J_return dX6_readBareUnit_108 rfl rfl
      · refine J_aload_n (i := 0) dX6_readBareUnit_39 rfl rfl ?_
        refine J_iconst (v := (1 : Int32)) dX6_readBareUnit_40 (by decide) ?_
        refine J_putI dX6_readBareUnit_41 fp_RX6_40 (fun h => by first | rfl | cases h) sh_29_8 rfl rfl ?_
        refine J_letM rfl (fun s14 => ?_)
        refine J_aload_n (i := 0) dX6_readBareUnit_44 rfl rfl ?_
        refine J_dup dX6_readBareUnit_45 rfl ?_
        refine J_getI dX6_readBareUnit_46 fl_RX6_30 sh_29_6 ?_
        refine J_iconst (v := (1 : Int32)) dX6_readBareUnit_49 (by decide) ?_
        refine J_iadd dX6_readBareUnit_50 ?_
        refine J_putI dX6_readBareUnit_51 fp_RX6_30 (fun h => by first | rfl | cases h) sh_29_6 rfl rfl ?_
        refine J_letM rfl (fun s15 => ?_)
        refine J_aload_n (i := 0) dX6_readBareUnit_54 rfl rfl ?_
        refine J_bipush (v := (109 : Int32)) dX6_readBareUnit_55 (by decide) ?_
        refine J_iconst (v := (0 : Int32)) dX6_readBareUnit_57 (by decide) ?_
        refine J_callVV 29 [.int (109 : Int32), .int (0 : Int32)] dX6_readBareUnit_58 ca_X6_addSign lk_RX6_65 vi_X6_addSign rc_29 rfl rfl ⟨by show _ ≤ _; simp only [rmD]; omega, by show _ ≤ _; simp only [rmD]; omega⟩ (Nat.le_of_ble_eq_true rfl) ⟨Nat.zero_le _, Nat.zero_le _⟩ (con_X6_addSign l _ _ _) (fun r16 _ => ?_)
        refine J_goto (tgt := 108) dX6_readBareUnit_61 (by decide) ?_
        exact J_return dX6_readBareUnit_108 rfl rfl
    · refine J_aload_n (i := 0) dX6_readBareUnit_25 rfl rfl ?_
      refine J_iload_n (i := 1) dX6_readBareUnit_26 rfl rfl ?_
      refine J_callVV 29 [.int a1] dX6_readBareUnit_27 ca_X6_readOpened lk_RX6_106 vi_X6_readOpened rc_29 rfl rfl ⟨by show _ ≤ _; simp only [rmD]; omega, by show _ ≤ _; simp only [rmD]; omega⟩ (Nat.le_of_ble_eq_true rfl) ⟨Nat.zero_le _, Nat.zero_le _⟩ (con_X6_readOpened l N rv d0 hd0 hrv _ _) (fun r17 _ => ?_)
      refine J_goto (tgt := 108) dX6_readBareUnit_30 (by decide) ?_
      exact J_return dX6_readBareUnit_108 rfl rfl
  · refine J_aload_n (i := 0) dX6_readBareUnit_12 rfl rfl ?_
    refine J_callVV 29 [] dX6_readBareUnit_13 ca_X6_readDigits lk_RX6_103 vi_X6_readDigits rc_29 rfl rfl ⟨by show _ ≤ _; simp only [rmD]; omega, by show _ ≤ _; simp only [rmD]; omega⟩ (Nat.le_of_ble_eq_true rfl) ⟨Nat.zero_le _, Nat.zero_le _⟩ (con_X6_readDigits l N _) (fun r18 _ => ?_)
    refine J_goto (tgt := 108) dX6_readBareUnit_16 (by decide) ?_
    exact J_return dX6_readBareUnit_108 rfl rfl

def lp_X6_readUnit_57 (N : Nat) (rv : Int32 → jM → Option jM) (x1 : Int32) : Nat → Int32 → jM → Option jM
  | 0, _, _ => none
  | q + 1, x9, s10 => if x9 < x1 then (some s10) else (if x9 < 0 then (some s10) else (if (40 : Int32) ≤ x9 then (some s10) else (jn_ (fun (s15 : jM) => lt_ (x9 + (-1 : Int32)) fun x17 => lp_X6_readUnit_57 N rv x1 q x17 s15) fun j16 => gd (ib x9 40) <| if (gC s10 6 (Int32.toNatClampNeg x9)) = (33 : Int32) then (Option.bind (f_X6_addSign (33 : Int32) (0 : Int32) s10) fun r21 => j16 r21) else (gd (ib x9 40) <| if (gC s10 6 (Int32.toNatClampNeg x9)) = (45 : Int32) then (Option.bind (f_X6_addSign (126 : Int32) (0 : Int32) s10) fun r20 => j16 r20) else (j16 s10)))))
def lp_X6_readUnit_15 (N : Nat) (rv : Int32 → jM → Option jM) (k5 : jM → Option jM) : Nat → Int32 → Int32 → jM → Option jM
  | 0, _, _, _ => none
  | q + 1, x22, x23, s24 => if (40 : Int32) ≤ x23 then (k5 s24) else (if x22 = (-1 : Int32) then (k5 s24) else (Option.bind (f_X6_take N 0 s24) fun r28 => lt_ r28.1 fun x29 => lt_ (x23 + (1 : Int32)) fun x30 => lp_X6_readUnit_15 N rv k5 q x29 x30 r28.2))
def f_X6_readUnit (N : Nat) (rv : Int32 → jM → Option jM) (a1 : Int32) (s0 : jM) : Option jM := lt_ (gI s0 29 6) fun x1 => Option.bind (f_X6_take N 0 s0) fun r2 => lt_ r2.1 fun x3 => jn_ (fun (s4 : jM) => lt_ (gI s4 29 6) fun x6 => Option.bind (f_X6_readBareUnit N rv a1 s4) fun r7 => lt_ (x6 - (1 : Int32)) fun x8 => lp_X6_readUnit_57 N rv x1 N x8 r7) fun k5 => lp_X6_readUnit_15 N rv k5 N x3 (0 : Int32) r2.2
set_option maxRecDepth 100000 in
set_option maxHeartbeats 4000000 in
theorem lp_X6_readUnit_57_ok (l : Launch) (N : Nat) (rv : Int32 → jM → Option jM) (d0 : Nat) (hd0 : 20 ≤ d0) (hrv : ∀ (a : Int32) (s : jM), Con l d0 yX6_readValue cX6_readValue 3 none (eV SH) SH [.ref 29, .int a] s (rv a s))  (x1 : Int32)  : ∀ (q : Nat) (x9 : Int32) (s10 : jM), J l RX6 cX6_readUnit 6 (Option.none : Option Jvm.ClassFile.FieldType) false (rmD (d0 + 3) 0 0) noCx (eV SH) SH 0 0 s10 57 [some (.ref 29), none, some (.int x1), none, none, some (.int x9)] [] (lp_X6_readUnit_57 N rv x1 q x9 s10) := by
  intro q
  induction q with
  | zero => intro x9 s10; exact J_none
  | succ q hrec11 =>
    intro x9 s10
    rw [lp_X6_readUnit_57]
    refine J_iload (i := 5) dX6_readUnit_57 rfl ?_
    refine J_iload_n (i := 2) dX6_readUnit_59 rfl rfl ?_
    refine J_icmp_lt (tgt := 128) dX6_readUnit_60 (by decide) (fun c12 => ?_) (fun c12 => ?_)
    · exact J_return dX6_readUnit_128 rfl rfl
    · refine J_iload (i := 5) dX6_readUnit_63 rfl ?_
      refine J_if_lt (tgt := 128) dX6_readUnit_65 (by decide) (fun c13 => ?_) (fun c13 => ?_)
      · exact J_return dX6_readUnit_128 rfl rfl
      · refine J_iload (i := 5) dX6_readUnit_68 rfl ?_
        refine J_bipush (v := (40 : Int32)) dX6_readUnit_70 (by decide) ?_
        refine J_icmp_ge (tgt := 128) dX6_readUnit_72 (by decide) (fun c14 => ?_) (fun c14 => ?_)
        · exact J_return dX6_readUnit_128 rfl rfl
        · refine J_join (P := fun j => ∀ (s15 : jM), J l RX6 cX6_readUnit 6 (Option.none : Option Jvm.ClassFile.FieldType) false (rmD (d0 + 3) 0 0) noCx (eV SH) SH 0 0 s15 122 [some (.ref 29), none, some (.int x1), none, none, some (.int x9)] [] (j s15)) ?_ (fun j16 hj16 => ?_)
          · intro s15
            refine J_iincN (i := 5) (v := x9 + (-1 : Int32)) (LS := fun x17 => [some (.ref 29), none, some (.int x1), none, none, some (.int x17)]) dX6_readUnit_122 rfl (by first | rfl | decide) (fun _ => rfl) (by decide) (fun x17 => ?_)
            refine J_goto (tgt := 57) dX6_readUnit_125 (by decide) ?_
            refine J_sub (l1 := [some (.ref 29), none, some (.int x1), none, none, some (.int x17)]) ⟨rfl, ⟨rfl, ⟨rfl, trivial⟩⟩⟩ ?_
            exact hrec11 x17 s15
          refine J_aload_n (i := 0) dX6_readUnit_75 rfl rfl ?_
          refine J_getR dX6_readUnit_76 fl_RX6_23 sh_29_0 ?_
          refine J_getR dX6_readUnit_79 fl_RX6_94 sh_1_7 ?_
          refine J_iload (i := 5) dX6_readUnit_82 rfl ?_
          refine J_cald dX6_readUnit_84 sa_6 ?_
          refine J_bipush (v := (33 : Int32)) dX6_readUnit_85 (by decide) ?_
          refine J_icmp_ne (tgt := 100) dX6_readUnit_87 (by decide) (fun c18 => ?_) (fun c18 => ?_)
          · refine J_aload_n (i := 0) dX6_readUnit_100 rfl rfl ?_
            refine J_getR dX6_readUnit_101 fl_RX6_23 sh_29_0 ?_
            refine J_getR dX6_readUnit_104 fl_RX6_94 sh_1_7 ?_
            refine J_iload (i := 5) dX6_readUnit_107 rfl ?_
            refine J_cald dX6_readUnit_109 sa_6 ?_
            refine J_bipush (v := (45 : Int32)) dX6_readUnit_110 (by decide) ?_
            refine J_icmp_ne (tgt := 122) dX6_readUnit_112 (by decide) (fun c19 => ?_) (fun c19 => ?_)
            · refine J_sub (l1 := [some (.ref 29), none, some (.int x1), none, none, some (.int x9)]) ⟨rfl, ⟨rfl, ⟨rfl, trivial⟩⟩⟩ ?_
              exact hj16 s10
            · refine J_aload_n (i := 0) dX6_readUnit_115 rfl rfl ?_
              refine J_bipush (v := (126 : Int32)) dX6_readUnit_116 (by decide) ?_
              refine J_iconst (v := (0 : Int32)) dX6_readUnit_118 (by decide) ?_
              refine J_callVV 29 [.int (126 : Int32), .int (0 : Int32)] dX6_readUnit_119 ca_X6_addSign lk_RX6_65 vi_X6_addSign rc_29 rfl rfl ⟨by show _ ≤ _; simp only [rmD]; omega, by show _ ≤ _; simp only [rmD]; omega⟩ (Nat.le_of_ble_eq_true rfl) ⟨Nat.zero_le _, Nat.zero_le _⟩ (con_X6_addSign l _ _ _) (fun r20 _ => ?_)
              refine J_sub (l1 := [some (.ref 29), none, some (.int x1), none, none, some (.int x9)]) ⟨rfl, ⟨rfl, ⟨rfl, trivial⟩⟩⟩ ?_
              exact hj16 r20
          · refine J_aload_n (i := 0) dX6_readUnit_90 rfl rfl ?_
            refine J_bipush (v := (33 : Int32)) dX6_readUnit_91 (by decide) ?_
            refine J_iconst (v := (0 : Int32)) dX6_readUnit_93 (by decide) ?_
            refine J_callVV 29 [.int (33 : Int32), .int (0 : Int32)] dX6_readUnit_94 ca_X6_addSign lk_RX6_65 vi_X6_addSign rc_29 rfl rfl ⟨by show _ ≤ _; simp only [rmD]; omega, by show _ ≤ _; simp only [rmD]; omega⟩ (Nat.le_of_ble_eq_true rfl) ⟨Nat.zero_le _, Nat.zero_le _⟩ (con_X6_addSign l _ _ _) (fun r21 _ => ?_)
            refine J_goto (tgt := 122) dX6_readUnit_97 (by decide) ?_
            refine J_sub (l1 := [some (.ref 29), none, some (.int x1), none, none, some (.int x9)]) ⟨rfl, ⟨rfl, ⟨rfl, trivial⟩⟩⟩ ?_
            exact hj16 r21
set_option maxRecDepth 100000 in
set_option maxHeartbeats 4000000 in
theorem lp_X6_readUnit_15_ok (l : Launch) (N : Nat) (rv : Int32 → jM → Option jM) (d0 : Nat) (hd0 : 20 ≤ d0) (hrv : ∀ (a : Int32) (s : jM), Con l d0 yX6_readValue cX6_readValue 3 none (eV SH) SH [.ref 29, .int a] s (rv a s))  (k5 : jM → Option jM) (a1 : Int32) (x1 : Int32) (hk5 : ∀ (s4 : jM), J l RX6 cX6_readUnit 6 (Option.none : Option Jvm.ClassFile.FieldType) false (rmD (d0 + 3) 0 0) noCx (eV SH) SH 0 0 s4 40 [some (.ref 29), some (.int a1), some (.int x1), none, none, none] [] (k5 s4)) : ∀ (q : Nat) (x22 : Int32) (x23 : Int32) (s24 : jM), J l RX6 cX6_readUnit 6 (Option.none : Option Jvm.ClassFile.FieldType) false (rmD (d0 + 3) 0 0) noCx (eV SH) SH 0 0 s24 15 [some (.ref 29), some (.int a1), some (.int x1), some (.int x22), some (.int x23), none] [] (lp_X6_readUnit_15 N rv k5 q x22 x23 s24) := by
  intro q
  induction q with
  | zero => intro x22 x23 s24; exact J_none
  | succ q hrec25 =>
    intro x22 x23 s24
    rw [lp_X6_readUnit_15]
    refine J_iload (i := 4) dX6_readUnit_15 rfl ?_
    refine J_bipush (v := (40 : Int32)) dX6_readUnit_17 (by decide) ?_
    refine J_icmp_ge (tgt := 40) dX6_readUnit_19 (by decide) (fun c26 => ?_) (fun c26 => ?_)
    · refine J_sub (l1 := [some (.ref 29), some (.int a1), some (.int x1), none, none, none]) ⟨rfl, ⟨rfl, ⟨rfl, trivial⟩⟩⟩ ?_
      exact hk5 s24
    · refine J_iload_n (i := 3) dX6_readUnit_22 rfl rfl ?_
      refine J_iconst (v := (-1 : Int32)) dX6_readUnit_23 (by decide) ?_
      refine J_icmp_eq (tgt := 40) dX6_readUnit_24 (by decide) (fun c27 => ?_) (fun c27 => ?_)
      · refine J_sub (l1 := [some (.ref 29), some (.int a1), some (.int x1), none, none, none]) ⟨rfl, ⟨rfl, ⟨rfl, trivial⟩⟩⟩ ?_
        exact hk5 s24
      · refine J_aload_n (i := 0) dX6_readUnit_27 rfl rfl ?_
        refine J_ldcS (i := 0) dX6_readUnit_28 sr_0 ?_
        refine J_callVIM 29 [.ref (1000 + 0)] dX6_readUnit_30 ca_X6_take lk_RX6_61 vi_X6_take rc_29 rfl rfl ⟨by show _ ≤ _; simp only [rmD]; omega, by show _ ≤ _; simp only [rmD]; omega⟩ (Nat.le_of_ble_eq_true rfl) ⟨Nat.zero_le _, Nat.zero_le _⟩ (con_X6_take l N 0 (by decide) _) (fun r28 _ => ?_)
        refine J_istore_nN (i := 3) (LS := fun x29 => [some (.ref 29), some (.int a1), some (.int x1), some (.int x29), some (.int x23), none]) dX6_readUnit_33 rfl (fun _ => rfl) (by decide) (fun x29 => ?_)
        refine J_iincN (i := 4) (v := x23 + (1 : Int32)) (LS := fun x30 => [some (.ref 29), some (.int a1), some (.int x1), some (.int x29), some (.int x30), none]) dX6_readUnit_34 rfl (by first | rfl | decide) (fun _ => rfl) (by decide) (fun x30 => ?_)
        refine J_goto (tgt := 15) dX6_readUnit_37 (by decide) ?_
        refine J_sub (l1 := [some (.ref 29), some (.int a1), some (.int x1), some (.int x29), some (.int x30), none]) ⟨rfl, ⟨rfl, ⟨rfl, ⟨rfl, ⟨rfl, trivial⟩⟩⟩⟩⟩ ?_
        exact hrec25 x29 x30 r28.2
set_option maxRecDepth 100000 in
set_option maxHeartbeats 4000000 in
theorem con_X6_readUnit (l : Launch) (N : Nat) (rv : Int32 → jM → Option jM) (d0 : Nat) (hd0 : 20 ≤ d0) (hrv : ∀ (a : Int32) (s : jM), Con l d0 yX6_readValue cX6_readValue 3 none (eV SH) SH [.ref 29, .int a] s (rv a s)) (a1 : Int32) (s0 : jM) : Con l (d0 + 3) yX6_readUnit cX6_readUnit 6 (Option.none : Option Jvm.ClassFile.FieldType) (eV SH) SH [.ref 29, .int a1] s0 (f_X6_readUnit N rv a1 s0) := by
  refine Con_of (ls0 := [some (.ref 29), some (.int a1), none, none, none, none]) (ini := false) (mc := 0) (ms := 0) (by decide +kernel) rfl (Nat.le_of_ble_eq_true rfl) (fun h => by cases h) (fun _ _ => rfl) ?_
  unfold f_X6_readUnit
  refine J_aload_n (i := 0) dX6_readUnit_0 rfl rfl ?_
  refine J_getI dX6_readUnit_1 fl_RX6_30 sh_29_6 ?_
  refine J_istore_nN (i := 2) (LS := fun x1 => [some (.ref 29), some (.int a1), some (.int x1), none, none, none]) dX6_readUnit_4 rfl (fun _ => rfl) (by decide) (fun x1 => ?_)
  refine J_aload_n (i := 0) dX6_readUnit_5 rfl rfl ?_
  refine J_ldcS (i := 0) dX6_readUnit_6 sr_0 ?_
  refine J_callVIM 29 [.ref (1000 + 0)] dX6_readUnit_8 ca_X6_take lk_RX6_61 vi_X6_take rc_29 rfl rfl ⟨by show _ ≤ _; simp only [rmD]; omega, by show _ ≤ _; simp only [rmD]; omega⟩ (Nat.le_of_ble_eq_true rfl) ⟨Nat.zero_le _, Nat.zero_le _⟩ (con_X6_take l N 0 (by decide) _) (fun r2 _ => ?_)
  refine J_istore_nN (i := 3) (LS := fun x3 => [some (.ref 29), some (.int a1), some (.int x1), some (.int x3), none, none]) dX6_readUnit_11 rfl (fun _ => rfl) (by decide) (fun x3 => ?_)
  refine J_iconst (v := (0 : Int32)) dX6_readUnit_12 (by decide) ?_
  refine J_istore (i := 4) (ls2 := [some (.ref 29), some (.int a1), some (.int x1), some (.int x3), some (.int (0 : Int32)), none]) dX6_readUnit_13 rfl (by decide) ?_
  refine J_join (P := fun j => ∀ (s4 : jM), J l RX6 cX6_readUnit 6 (Option.none : Option Jvm.ClassFile.FieldType) false (rmD (d0 + 3) 0 0) noCx (eV SH) SH 0 0 s4 40 [some (.ref 29), some (.int a1), some (.int x1), none, none, none] [] (j s4)) ?_ (fun k5 hk5 => ?_)
  · intro s4
    refine J_aload_n (i := 0) dX6_readUnit_40 rfl rfl ?_
    refine J_getI dX6_readUnit_41 fl_RX6_30 sh_29_6 ?_
    refine J_istoreN (i := 4) (LS := fun x6 => [some (.ref 29), some (.int a1), some (.int x1), none, some (.int x6), none]) dX6_readUnit_44 (fun _ => rfl) (by decide) (fun x6 => ?_)
    refine J_aload_n (i := 0) dX6_readUnit_46 rfl rfl ?_
    refine J_iload_n (i := 1) dX6_readUnit_47 rfl rfl ?_
    refine J_callVV 29 [.int a1] dX6_readUnit_48 ca_X6_readBareUnit lk_RX6_91 vi_X6_readBareUnit rc_29 rfl rfl ⟨by show _ ≤ _; simp only [rmD]; omega, by show _ ≤ _; simp only [rmD]; omega⟩ (Nat.le_of_ble_eq_true rfl) ⟨Nat.zero_le _, Nat.zero_le _⟩ (con_X6_readBareUnit l N rv d0 hd0 hrv _ _) (fun r7 _ => ?_)
    refine J_iload (i := 4) dX6_readUnit_51 rfl ?_
    refine J_iconst (v := (1 : Int32)) dX6_readUnit_53 (by decide) ?_
    refine J_isub dX6_readUnit_54 ?_
    refine J_istoreN (i := 5) (LS := fun x8 => [some (.ref 29), some (.int a1), some (.int x1), none, some (.int x6), some (.int x8)]) dX6_readUnit_55 (fun _ => rfl) (by decide) (fun x8 => ?_)
    refine J_sub (l1 := [some (.ref 29), none, some (.int x1), none, none, some (.int x8)]) ⟨rfl, ⟨rfl, ⟨rfl, trivial⟩⟩⟩ ?_
    exact lp_X6_readUnit_57_ok l N rv d0 hd0 hrv  x1  N x8 r7
  refine J_sub (l1 := [some (.ref 29), some (.int a1), some (.int x1), some (.int x3), some (.int (0 : Int32)), none]) ⟨rfl, ⟨rfl, ⟨rfl, ⟨rfl, ⟨rfl, trivial⟩⟩⟩⟩⟩ ?_
  exact lp_X6_readUnit_15_ok l N rv d0 hd0 hrv  k5 a1 x1 hk5 N x3 (0 : Int32) r2.2
