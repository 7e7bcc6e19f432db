def lp_X6_readTerm_14 (N : Nat) (rv : Int32 → jM → Option jM) (a1 : Int32) : Nat → Int32 → Int32 → jM → Option jM
  | 0, _, _, _ => none
  | q + 1, x4, x5, s6 => if (40 : Int32) ≤ x5 then (some s6) else (if x4 = (-1 : Int32) then (some s6) else (Option.bind (f_X6_readUnit N rv a1 s6) fun r10 => Option.bind (f_X6_addSign ((Int32.toUInt32 x4 % 65536).toInt32) (0 : Int32) r10) fun r11 => Option.bind (f_X6_take N 3 r11) fun r12 => lt_ r12.1 fun x13 => lt_ (x5 + (1 : Int32)) fun x14 => lp_X6_readTerm_14 N rv a1 q x13 x14 r12.2))
def f_X6_readTerm (N : Nat) (rv : Int32 → jM → Option jM) (a1 : Int32) (s0 : jM) : Option jM := Option.bind (f_X6_readUnit N rv a1 s0) fun r1 => Option.bind (f_X6_take N 3 r1) fun r2 => lt_ r2.1 fun x3 => lp_X6_readTerm_14 N rv a1 N x3 (0 : Int32) r2.2
set_option maxRecDepth 100000 in
set_option maxHeartbeats 4000000 in
theorem lp_X6_readTerm_14_ok (l : Launch) (N : Nat) (rv : Int32 → jM → Option jM) (d0 : Nat) (hd0 : 20 ≤ d0) (hrv : ∀ (a : Int32) (s : jM), Con l d0 yX6_readValue cX6_readValue 3 none (eV SH) SH [.ref 29, .int a] s (rv a s))  (a1 : Int32)  : ∀ (q : Nat) (x4 : Int32) (x5 : Int32) (s6 : jM), J l RX6 cX6_readTerm 4 (Option.none : Option Jvm.ClassFile.FieldType) false (rmD (d0 + 4) 0 0) noCx (eV SH) SH 0 0 s6 14 [some (.ref 29), some (.int a1), some (.int x4), some (.int x5)] [] (lp_X6_readTerm_14 N rv a1 q x4 x5 s6) := by
  intro q
  induction q with
  | zero => intro x4 x5 s6; exact J_none
  | succ q hrec7 =>
    intro x4 x5 s6
    rw [lp_X6_readTerm_14]
    refine J_iload_n (i := 3) dX6_readTerm_14 rfl rfl ?_
    refine J_bipush (v := (40 : Int32)) dX6_readTerm_15 (by decide) ?_
    refine J_icmp_ge (tgt := 50) dX6_readTerm_17 (by decide) (fun c8 => ?_) (fun c8 => ?_)
    · exact J_return dX6_readTerm_50 rfl rfl
    · refine J_iload_n (i := 2) dX6_readTerm_20 rfl rfl ?_
      refine J_iconst (v := (-1 : Int32)) dX6_readTerm_21 (by decide) ?_
      refine J_icmp_eq (tgt := 50) dX6_readTerm_22 (by decide) (fun c9 => ?_) (fun c9 => ?_)
      · exact J_return dX6_readTerm_50 rfl rfl
      · refine J_aload_n (i := 0) dX6_readTerm_25 rfl rfl ?_
        refine J_iload_n (i := 1) dX6_readTerm_26 rfl rfl ?_
        refine J_callVV 29 [.int a1] dX6_readTerm_27 ca_X6_readUnit lk_RX6_84 vi_X6_readUnit rc_29 rfl rfl ⟨by show _ ≤ _; simp only [rmD]; omega, by show _ ≤ _; simp only [rmD]; omega⟩ (Nat.le_of_ble_eq_true rfl) ⟨Nat.zero_le _, Nat.zero_le _⟩ (con_X6_readUnit l N rv d0 hd0 hrv _ _) (fun r10 _ => ?_)
        refine J_aload_n (i := 0) dX6_readTerm_30 rfl rfl ?_
        refine J_iload_n (i := 2) dX6_readTerm_31 rfl rfl ?_
        refine J_i2c dX6_readTerm_32 ?_
        refine J_iconst (v := (0 : Int32)) dX6_readTerm_33 (by decide) ?_
        refine J_callVV 29 [.int ((Int32.toUInt32 x4 % 65536).toInt32), .int (0 : Int32)] dX6_readTerm_34 ca_X6_addSign lk_RX6_65 vi_X6_addSign rc_29 rfl rfl ⟨by show _ ≤ _; simp only [rmD]; omega, by show _ ≤ _; simp only [rmD]; omega⟩ (Nat.le_of_ble_eq_true rfl) ⟨Nat.zero_le _, Nat.zero_le _⟩ (con_X6_addSign l _ _ _) (fun r11 _ => ?_)
        refine J_aload_n (i := 0) dX6_readTerm_37 rfl rfl ?_
        refine J_ldcS (i := 3) dX6_readTerm_38 sr_3 ?_
        refine J_callVIM 29 [.ref (1000 + 3)] dX6_readTerm_40 ca_X6_take lk_RX6_61 vi_X6_take rc_29 rfl rfl ⟨by show _ ≤ _; simp only [rmD]; omega, by show _ ≤ _; simp only [rmD]; omega⟩ (Nat.le_of_ble_eq_true rfl) ⟨Nat.zero_le _, Nat.zero_le _⟩ (con_X6_take l N 3 (by decide) _) (fun r12 _ => ?_)
        refine J_istore_nN (i := 2) (LS := fun x13 => [some (.ref 29), some (.int a1), some (.int x13), some (.int x5)]) dX6_readTerm_43 rfl (fun _ => rfl) (by decide) (fun x13 => ?_)
        refine J_iincN (i := 3) (v := x5 + (1 : Int32)) (LS := fun x14 => [some (.ref 29), some (.int a1), some (.int x13), some (.int x14)]) dX6_readTerm_44 rfl (by first | rfl | decide) (fun _ => rfl) (by decide) (fun x14 => ?_)
        refine J_goto (tgt := 14) dX6_readTerm_47 (by decide) ?_
        refine J_sub (l1 := [some (.ref 29), some (.int a1), some (.int x13), some (.int x14)]) ⟨rfl, ⟨rfl, ⟨rfl, ⟨rfl, trivial⟩⟩⟩⟩ ?_
        exact hrec7 x13 x14 r12.2
set_option maxRecDepth 100000 in
set_option maxHeartbeats 4000000 in
theorem con_X6_readTerm (l : Launch) (N : Nat) (rv : Int32 → jM → Option jM) (d0 : Nat) (hd0 : 20 ≤ d0) (hrv : ∀ (a : Int32) (s : jM), Con l d0 yX6_readValue cX6_readValue 3 none (eV SH) SH [.ref 29, .int a] s (rv a s)) (a1 : Int32) (s0 : jM) : Con l (d0 + 4) yX6_readTerm cX6_readTerm 4 (Option.none : Option Jvm.ClassFile.FieldType) (eV SH) SH [.ref 29, .int a1] s0 (f_X6_readTerm N rv a1 s0) := by
  refine Con_of (ls0 := [some (.ref 29), some (.int a1), none, none]) (ini := false) (mc := 0) (ms := 0) (by decide +kernel) rfl (Nat.le_of_ble_eq_true rfl) (fun h => by cases h) (fun _ _ => rfl) ?_
  unfold f_X6_readTerm
  refine J_aload_n (i := 0) dX6_readTerm_0 rfl rfl ?_
  refine J_iload_n (i := 1) dX6_readTerm_1 rfl rfl ?_
  refine J_callVV 29 [.int a1] dX6_readTerm_2 ca_X6_readUnit lk_RX6_84 vi_X6_readUnit rc_29 rfl rfl ⟨by show _ ≤ _; simp only [rmD]; omega, by show _ ≤ _; simp only [rmD]; omega⟩ (Nat.le_of_ble_eq_true rfl) ⟨Nat.zero_le _, Nat.zero_le _⟩ (con_X6_readUnit l N rv d0 hd0 hrv _ _) (fun r1 _ => ?_)
  refine J_aload_n (i := 0) dX6_readTerm_5 rfl rfl ?_
  refine J_ldcS (i := 3) dX6_readTerm_6 sr_3 ?_
  refine J_callVIM 29 [.ref (1000 + 3)] dX6_readTerm_8 ca_X6_take lk_RX6_61 vi_X6_take rc_29 rfl rfl ⟨by show _ ≤ _; simp only [rmD]; omega, by show _ ≤ _; simp only [rmD]; omega⟩ (Nat.le_of_ble_eq_true rfl) ⟨Nat.zero_le _, Nat.zero_le _⟩ (con_X6_take l N 3 (by decide) _) (fun r2 _ => ?_)
  refine J_istore_nN (i := 2) (LS := fun x3 => [some (.ref 29), some (.int a1), some (.int x3), none]) dX6_readTerm_11 rfl (fun _ => rfl) (by decide) (fun x3 => ?_)
  refine J_iconst (v := (0 : Int32)) dX6_readTerm_12 (by decide) ?_
  refine J_istore_n (i := 3) (ls2 := [some (.ref 29), some (.int a1), some (.int x3), some (.int (0 : Int32))]) dX6_readTerm_13 rfl rfl (by decide) ?_
  refine J_sub (l1 := [some (.ref 29), some (.int a1), some (.int x3), some (.int (0 : Int32))]) ⟨rfl, ⟨rfl, ⟨rfl, ⟨rfl, trivial⟩⟩⟩⟩ ?_
  exact lp_X6_readTerm_14_ok l N rv d0 hd0 hrv  a1  N x3 (0 : Int32) r2.2

def lp_X6_readSum_14 (N : Nat) (rv : Int32 → jM → Option jM) (a1 : Int32) : Nat → Int32 → Int32 → jM → Option jM
  | 0, _, _, _ => none
  | q + 1, x4, x5, s6 => if (40 : Int32) ≤ x5 then (some s6) else (if x4 = (-1 : Int32) then (some s6) else (Option.bind (f_X6_readTerm N rv a1 s6) fun r10 => Option.bind (f_X6_addSign ((Int32.toUInt32 x4 % 65536).toInt32) (0 : Int32) r10) fun r11 => Option.bind (f_X6_take N 4 r11) fun r12 => lt_ r12.1 fun x13 => lt_ (x5 + (1 : Int32)) fun x14 => lp_X6_readSum_14 N rv a1 q x13 x14 r12.2))
def f_X6_readSum (N : Nat) (rv : Int32 → jM → Option jM) (a1 : Int32) (s0 : jM) : Option jM := Option.bind (f_X6_readTerm N rv a1 s0) fun r1 => Option.bind (f_X6_take N 4 r1) fun r2 => lt_ r2.1 fun x3 => lp_X6_readSum_14 N rv a1 N x3 (0 : Int32) r2.2
set_option maxRecDepth 100000 in
set_option maxHeartbeats 4000000 in
theorem lp_X6_readSum_14_ok (l : Launch) (N : Nat) (rv : Int32 → jM → Option jM) (d0 : Nat) (hd0 : 20 ≤ d0) (hrv : ∀ (a : Int32) (s : jM), Con l d0 yX6_readValue cX6_readValue 3 none (eV SH) SH [.ref 29, .int a] s (rv a s))  (a1 : Int32)  : ∀ (q : Nat) (x4 : Int32) (x5 : Int32) (s6 : jM), J l RX6 cX6_readSum 4 (Option.none : Option Jvm.ClassFile.FieldType) false (rmD (d0 + 5) 0 0) noCx (eV SH) SH 0 0 s6 14 [some (.ref 29), some (.int a1), some (.int x4), some (.int x5)] [] (lp_X6_readSum_14 N rv a1 q x4 x5 s6) := by
  intro q
  induction q with
  | zero => intro x4 x5 s6; exact J_none
  | succ q hrec7 =>
    intro x4 x5 s6
    rw [lp_X6_readSum_14]
    refine J_iload_n (i := 3) dX6_readSum_14 rfl rfl ?_
    refine J_bipush (v := (40 : Int32)) dX6_readSum_15 (by decide) ?_
    refine J_icmp_ge (tgt := 50) dX6_readSum_17 (by decide) (fun c8 => ?_) (fun c8 => ?_)
    · exact J_return dX6_readSum_50 rfl rfl
    · refine J_iload_n (i := 2) dX6_readSum_20 rfl rfl ?_
      refine J_iconst (v := (-1 : Int32)) dX6_readSum_21 (by decide) ?_
      refine J_icmp_eq (tgt := 50) dX6_readSum_22 (by decide) (fun c9 => ?_) (fun c9 => ?_)
      · exact J_return dX6_readSum_50 rfl rfl
      · refine J_aload_n (i := 0) dX6_readSum_25 rfl rfl ?_
        refine J_iload_n (i := 1) dX6_readSum_26 rfl rfl ?_
        refine J_callVV 29 [.int a1] dX6_readSum_27 ca_X6_readTerm lk_RX6_79 vi_X6_readTerm rc_29 rfl rfl ⟨by show _ ≤ _; simp only [rmD]; omega, by show _ ≤ _; simp only [rmD]; omega⟩ (Nat.le_of_ble_eq_true rfl) ⟨Nat.zero_le _, Nat.zero_le _⟩ (con_X6_readTerm l N rv d0 hd0 hrv _ _) (fun r10 _ => ?_)
        refine J_aload_n (i := 0) dX6_readSum_30 rfl rfl ?_
        refine J_iload_n (i := 2) dX6_readSum_31 rfl rfl ?_
        refine J_i2c dX6_readSum_32 ?_
        refine J_iconst (v := (0 : Int32)) dX6_readSum_33 (by decide) ?_
        refine J_callVV 29 [.int ((Int32.toUInt32 x4 % 65536).toInt32), .int (0 : Int32)] dX6_readSum_34 ca_X6_addSign lk_RX6_65 vi_X6_addSign rc_29 rfl rfl ⟨by show _ ≤ _; simp only [rmD]; omega, by show _ ≤ _; simp only [rmD]; omega⟩ (Nat.le_of_ble_eq_true rfl) ⟨Nat.zero_le _, Nat.zero_le _⟩ (con_X6_addSign l _ _ _) (fun r11 _ => ?_)
        refine J_aload_n (i := 0) dX6_readSum_37 rfl rfl ?_
        refine J_ldcS (i := 4) dX6_readSum_38 sr_4 ?_
        refine J_callVIM 29 [.ref (1000 + 4)] dX6_readSum_40 ca_X6_take lk_RX6_61 vi_X6_take rc_29 rfl rfl ⟨by show _ ≤ _; simp only [rmD]; omega, by show _ ≤ _; simp only [rmD]; omega⟩ (Nat.le_of_ble_eq_true rfl) ⟨Nat.zero_le _, Nat.zero_le _⟩ (con_X6_take l N 4 (by decide) _) (fun r12 _ => ?_)
        refine J_istore_nN (i := 2) (LS := fun x13 => [some (.ref 29), some (.int a1), some (.int x13), some (.int x5)]) dX6_readSum_43 rfl (fun _ => rfl) (by decide) (fun x13 => ?_)
        refine J_iincN (i := 3) (v := x5 + (1 : Int32)) (LS := fun x14 => [some (.ref 29), some (.int a1), some (.int x13), some (.int x14)]) dX6_readSum_44 rfl (by first | rfl | decide) (fun _ => rfl) (by decide) (fun x14 => ?_)
        refine J_goto (tgt := 14) dX6_readSum_47 (by decide) ?_
        refine J_sub (l1 := [some (.ref 29), some (.int a1), some (.int x13), some (.int x14)]) ⟨rfl, ⟨rfl, ⟨rfl, ⟨rfl, trivial⟩⟩⟩⟩ ?_
        exact hrec7 x13 x14 r12.2
set_option maxRecDepth 100000 in
set_option maxHeartbeats 4000000 in
theorem con_X6_readSum (l : Launch) (N : Nat) (rv : Int32 → jM → Option jM) (d0 : Nat) (hd0 : 20 ≤ d0) (hrv : ∀ (a : Int32) (s : jM), Con l d0 yX6_readValue cX6_readValue 3 none (eV SH) SH [.ref 29, .int a] s (rv a s)) (a1 : Int32) (s0 : jM) : Con l (d0 + 5) yX6_readSum cX6_readSum 4 (Option.none : Option Jvm.ClassFile.FieldType) (eV SH) SH [.ref 29, .int a1] s0 (f_X6_readSum N rv a1 s0) := by
  refine Con_of (ls0 := [some (.ref 29), some (.int a1), none, none]) (ini := false) (mc := 0) (ms := 0) (by decide +kernel) rfl (Nat.le_of_ble_eq_true rfl) (fun h => by cases h) (fun _ _ => rfl) ?_
  unfold f_X6_readSum
  refine J_aload_n (i := 0) dX6_readSum_0 rfl rfl ?_
  refine J_iload_n (i := 1) dX6_readSum_1 rfl rfl ?_
  refine J_callVV 29 [.int a1] dX6_readSum_2 ca_X6_readTerm lk_RX6_79 vi_X6_readTerm rc_29 rfl rfl ⟨by show _ ≤ _; simp only [rmD]; omega, by show _ ≤ _; simp only [rmD]; omega⟩ (Nat.le_of_ble_eq_true rfl) ⟨Nat.zero_le _, Nat.zero_le _⟩ (con_X6_readTerm l N rv d0 hd0 hrv _ _) (fun r1 _ => ?_)
  refine J_aload_n (i := 0) dX6_readSum_5 rfl rfl ?_
  refine J_ldcS (i := 4) dX6_readSum_6 sr_4 ?_
  refine J_callVIM 29 [.ref (1000 + 4)] dX6_readSum_8 ca_X6_take lk_RX6_61 vi_X6_take rc_29 rfl rfl ⟨by show _ ≤ _; simp only [rmD]; omega, by show _ ≤ _; simp only [rmD]; omega⟩ (Nat.le_of_ble_eq_true rfl) ⟨Nat.zero_le _, Nat.zero_le _⟩ (con_X6_take l N 4 (by decide) _) (fun r2 _ => ?_)
  refine J_istore_nN (i := 2) (LS := fun x3 => [some (.ref 29), some (.int a1), some (.int x3), none]) dX6_readSum_11 rfl (fun _ => rfl) (by decide) (fun x3 => ?_)
  refine J_iconst (v := (0 : Int32)) dX6_readSum_12 (by decide) ?_
  refine J_istore_n (i := 3) (ls2 := [some (.ref 29), some (.int a1), some (.int x3), some (.int (0 : Int32))]) dX6_readSum_13 rfl rfl (by decide) ?_
  refine J_sub (l1 := [some (.ref 29), some (.int a1), some (.int x3), some (.int (0 : Int32))]) ⟨rfl, ⟨rfl, ⟨rfl, ⟨rfl, trivial⟩⟩⟩⟩ ?_
  exact lp_X6_readSum_14_ok l N rv d0 hd0 hrv  a1  N x3 (0 : Int32) r2.2

def f_X6_readHeld (N : Nat) (rv : Int32 → jM → Option jM) (a1 : Int32) (s0 : jM) : Option jM := Option.bind (f_X6_readSum N rv a1 s0) fun r1 => Option.bind (f_X6_take N 5 r1) fun r2 => lt_ r2.1 fun x3 => if x3 = (-1 : Int32) then (some r2.2) else (Option.bind (f_X6_readSum N rv a1 r2.2) fun r5 => Option.bind (f_X6_addSign ((Int32.toUInt32 x3 % 65536).toInt32) (0 : Int32) r5) fun r6 => some r6)
set_option maxRecDepth 100000 in
set_option maxHeartbeats 4000000 in
theorem con_X6_readHeld (l : Launch) (N : Nat) (rv : Int32 → jM → Option jM) (d0 : Nat) (hd0 : 20 ≤ d0) (hrv : ∀ (a : Int32) (s : jM), Con l d0 yX6_readValue cX6_readValue 3 none (eV SH) SH [.ref 29, .int a] s (rv a s)) (a1 : Int32) (s0 : jM) : Con l (d0 + 6) yX6_readHeld cX6_readHeld 3 (Option.none : Option Jvm.ClassFile.FieldType) (eV SH) SH [.ref 29, .int a1] s0 (f_X6_readHeld N rv a1 s0) := by
  refine Con_of (ls0 := [some (.ref 29), some (.int a1), none]) (ini := false) (mc := 0) (ms := 0) (by decide +kernel) rfl (Nat.le_of_ble_eq_true rfl) (fun h => by cases h) (fun _ _ => rfl) ?_
  unfold f_X6_readHeld
  refine J_aload_n (i := 0) dX6_readHeld_0 rfl rfl ?_
  refine J_iload_n (i := 1) dX6_readHeld_1 rfl rfl ?_
  refine J_callVV 29 [.int a1] dX6_readHeld_2 ca_X6_readSum lk_RX6_74 vi_X6_readSum rc_29 rfl rfl ⟨by show _ ≤ _; simp only [rmD]; omega, by show _ ≤ _; simp only [rmD]; omega⟩ (Nat.le_of_ble_eq_true rfl) ⟨Nat.zero_le _, Nat.zero_le _⟩ (con_X6_readSum l N rv d0 hd0 hrv _ _) (fun r1 _ => ?_)
  refine J_aload_n (i := 0) dX6_readHeld_5 rfl rfl ?_
  refine J_ldcS (i := 5) dX6_readHeld_6 sr_5 ?_
  refine J_callVIM 29 [.ref (1000 + 5)] dX6_readHeld_8 ca_X6_take lk_RX6_61 vi_X6_take rc_29 rfl rfl ⟨by show _ ≤ _; simp only [rmD]; omega, by show _ ≤ _; simp only [rmD]; omega⟩ (Nat.le_of_ble_eq_true rfl) ⟨Nat.zero_le _, Nat.zero_le _⟩ (con_X6_take l N 5 (by decide) _) (fun r2 _ => ?_)
  refine J_istore_nN (i := 2) (LS := fun x3 => [some (.ref 29), some (.int a1), some (.int x3)]) dX6_readHeld_11 rfl (fun _ => rfl) (by decide) (fun x3 => ?_)
  refine J_iload_n (i := 2) dX6_readHeld_12 rfl rfl ?_
  refine J_iconst (v := (-1 : Int32)) dX6_readHeld_13 (by decide) ?_
  refine J_icmp_eq (tgt := 29) dX6_readHeld_14 (by decide) (fun c4 => ?_) (fun c4 => ?_)
  · exact J_return dX6_readHeld_29 rfl rfl
  · refine J_aload_n (i := 0) dX6_readHeld_17 rfl rfl ?_
    refine J_iload_n (i := 1) dX6_readHeld_18 rfl rfl ?_
    refine J_callVV 29 [.int a1] dX6_readHeld_19 ca_X6_readSum lk_RX6_74 vi_X6_readSum rc_29 rfl rfl ⟨by show _ ≤ _; simp only [rmD]; omega, by show _ ≤ _; simp only [rmD]; omega⟩ (Nat.le_of_ble_eq_true rfl) ⟨Nat.zero_le _, Nat.zero_le _⟩ (con_X6_readSum l N rv d0 hd0 hrv _ _) (fun r5 _ => ?_)
    refine J_aload_n (i := 0) dX6_readHeld_22 rfl rfl ?_
    refine J_iload_n (i := 2) dX6_readHeld_23 rfl rfl ?_
    refine J_i2c dX6_readHeld_24 ?_
    refine J_iconst (v := (0 : Int32)) dX6_readHeld_25 (by decide) ?_
    refine J_callVV 29 [.int ((Int32.toUInt32 x3 % 65536).toInt32), .int (0 : Int32)] dX6_readHeld_26 ca_X6_addSign lk_RX6_65 vi_X6_addSign rc_29 rfl rfl ⟨by show _ ≤ _; simp only [rmD]; omega, by show _ ≤ _; simp only [rmD]; omega⟩ (Nat.le_of_ble_eq_true rfl) ⟨Nat.zero_le _, Nat.zero_le _⟩ (con_X6_addSign l _ _ _) (fun r6 _ => ?_)
    exact J_return dX6_readHeld_29 rfl rfl

def lp_X6_readBoth_7 (N : Nat) (rv : Int32 → jM → Option jM) (a1 : Int32) : Nat → Int32 → jM → Option jM
  | 0, _, _ => none
  | q + 1, x2, s3 => if (40 : Int32) ≤ x2 then (some s3) else (Option.bind (f_X6_take N 6 s3) fun r6 => if r6.1 = (-1 : Int32) then (some r6.2) else (Option.bind (f_X6_readHeld N rv a1 r6.2) fun r8 => Option.bind (f_X6_addSign (38 : Int32) (0 : Int32) r8) fun r9 => lt_ (x2 + (1 : Int32)) fun x10 => lp_X6_readBoth_7 N rv a1 q x10 r9))
def f_X6_readBoth (N : Nat) (rv : Int32 → jM → Option jM) (a1 : Int32) (s0 : jM) : Option jM := Option.bind (f_X6_readHeld N rv a1 s0) fun r1 => lp_X6_readBoth_7 N rv a1 N (0 : Int32) r1
set_option maxRecDepth 100000 in
set_option maxHeartbeats 4000000 in
theorem lp_X6_readBoth_7_ok (l : Launch) (N : Nat) (rv : Int32 → jM → Option jM) (d0 : Nat) (hd0 : 20 ≤ d0) (hrv : ∀ (a : Int32) (s : jM), Con l d0 yX6_readValue cX6_readValue 3 none (eV SH) SH [.ref 29, .int a] s (rv a s))  (a1 : Int32)  : ∀ (q : Nat) (x2 : Int32) (s3 : jM), J l RX6 cX6_readBoth 3 (Option.none : Option Jvm.ClassFile.FieldType) false (rmD (d0 + 7) 0 0) noCx (eV SH) SH 0 0 s3 7 [some (.ref 29), some (.int a1), some (.int x2)] [] (lp_X6_readBoth_7 N rv a1 q x2 s3) := by
  intro q
  induction q with
  | zero => intro x2 s3; exact J_none
  | succ q hrec4 =>
    intro x2 s3
    rw [lp_X6_readBoth_7]
    refine J_iload_n (i := 2) dX6_readBoth_7 rfl rfl ?_
    refine J_bipush (v := (40 : Int32)) dX6_readBoth_8 (by decide) ?_
    refine J_icmp_ge (tgt := 41) dX6_readBoth_10 (by decide) (fun c5 => ?_) (fun c5 => ?_)
    · exact J_return dX6_readBoth_41 rfl rfl
    · refine J_aload_n (i := 0) dX6_readBoth_13 rfl rfl ?_
      refine J_ldcS (i := 6) dX6_readBoth_14 sr_6 ?_
      refine J_callVIM 29 [.ref (1000 + 6)] dX6_readBoth_16 ca_X6_take lk_RX6_61 vi_X6_take rc_29 rfl rfl ⟨by show _ ≤ _; simp only [rmD]; omega, by show _ ≤ _; simp only [rmD]; omega⟩ (Nat.le_of_ble_eq_true rfl) ⟨Nat.zero_le _, Nat.zero_le _⟩ (con_X6_take l N 6 (by decide) _) (fun r6 _ => ?_)
      refine J_iconst (v := (-1 : Int32)) dX6_readBoth_19 (by decide) ?_
      refine J_icmp_eq (tgt := 41) dX6_readBoth_20 (by decide) (fun c7 => ?_) (fun c7 => ?_)
      · exact J_return dX6_readBoth_41 rfl rfl
      · refine J_aload_n (i := 0) dX6_readBoth_23 rfl rfl ?_
        refine J_iload_n (i := 1) dX6_readBoth_24 rfl rfl ?_
        refine J_callVV 29 [.int a1] dX6_readBoth_25 ca_X6_readHeld lk_RX6_69 vi_X6_readHeld rc_29 rfl rfl ⟨by show _ ≤ _; simp only [rmD]; omega, by show _ ≤ _; simp only [rmD]; omega⟩ (Nat.le_of_ble_eq_true rfl) ⟨Nat.zero_le _, Nat.zero_le _⟩ (con_X6_readHeld l N rv d0 hd0 hrv _ _) (fun r8 _ => ?_)
        refine J_aload_n (i := 0) dX6_readBoth_28 rfl rfl ?_
        refine J_bipush (v := (38 : Int32)) dX6_readBoth_29 (by decide) ?_
        refine J_iconst (v := (0 : Int32)) dX6_readBoth_31 (by decide) ?_
        refine J_callVV 29 [.int (38 : Int32), .int (0 : Int32)] dX6_readBoth_32 ca_X6_addSign lk_RX6_65 vi_X6_addSign rc_29 rfl rfl ⟨by show _ ≤ _; simp only [rmD]; omega, by show _ ≤ _; simp only [rmD]; omega⟩ (Nat.le_of_ble_eq_true rfl) ⟨Nat.zero_le _, Nat.zero_le _⟩ (con_X6_addSign l _ _ _) (fun r9 _ => ?_)
        refine J_iincN (i := 2) (v := x2 + (1 : Int32)) (LS := fun x10 => [some (.ref 29), some (.int a1), some (.int x10)]) dX6_readBoth_35 rfl (by first | rfl | decide) (fun _ => rfl) (by decide) (fun x10 => ?_)
        refine J_goto (tgt := 7) dX6_readBoth_38 (by decide) ?_
        refine J_sub (l1 := [some (.ref 29), some (.int a1), some (.int x10)]) ⟨rfl, ⟨rfl, ⟨rfl, trivial⟩⟩⟩ ?_
        exact hrec4 x10 r9
set_option maxRecDepth 100000 in
set_option maxHeartbeats 4000000 in
theorem con_X6_readBoth (l : Launch) (N : Nat) (rv : Int32 → jM → Option jM) (d0 : Nat) (hd0 : 20 ≤ d0) (hrv : ∀ (a : Int32) (s : jM), Con l d0 yX6_readValue cX6_readValue 3 none (eV SH) SH [.ref 29, .int a] s (rv a s)) (a1 : Int32) (s0 : jM) : Con l (d0 + 7) yX6_readBoth cX6_readBoth 3 (Option.none : Option Jvm.ClassFile.FieldType) (eV SH) SH [.ref 29, .int a1] s0 (f_X6_readBoth N rv a1 s0) := by
  refine Con_of (ls0 := [some (.ref 29), some (.int a1), none]) (ini := false) (mc := 0) (ms := 0) (by decide +kernel) rfl (Nat.le_of_ble_eq_true rfl) (fun h => by cases h) (fun _ _ => rfl) ?_
  unfold f_X6_readBoth
  refine J_aload_n (i := 0) dX6_readBoth_0 rfl rfl ?_
  refine J_iload_n (i := 1) dX6_readBoth_1 rfl rfl ?_
  refine J_callVV 29 [.int a1] dX6_readBoth_2 ca_X6_readHeld lk_RX6_69 vi_X6_readHeld rc_29 rfl rfl ⟨by show _ ≤ _; simp only [rmD]; omega, by show _ ≤ _; simp only [rmD]; omega⟩ (Nat.le_of_ble_eq_true rfl) ⟨Nat.zero_le _, Nat.zero_le _⟩ (con_X6_readHeld l N rv d0 hd0 hrv _ _) (fun r1 _ => ?_)
  refine J_iconst (v := (0 : Int32)) dX6_readBoth_5 (by decide) ?_
  refine J_istore_n (i := 2) (ls2 := [some (.ref 29), some (.int a1), some (.int (0 : Int32))]) dX6_readBoth_6 rfl rfl (by decide) ?_
  refine J_sub (l1 := [some (.ref 29), some (.int a1), some (.int (0 : Int32))]) ⟨rfl, ⟨rfl, ⟨rfl, trivial⟩⟩⟩ ?_
  exact lp_X6_readBoth_7_ok l N rv d0 hd0 hrv  a1  N (0 : Int32) r1

def lp_X6_readValue_7 (N : Nat) (rv : Int32 → jM → Option jM) (a1 : Int32) : Nat → Int32 → jM → Option jM
  | 0, _, _ => none
  | q + 1, x2, s3 => if (40 : Int32) ≤ x2 then (some s3) else (Option.bind (f_X6_take N 7 s3) fun r6 => if r6.1 = (-1 : Int32) then (some r6.2) else (Option.bind (f_X6_readBoth N rv a1 r6.2) fun r8 => Option.bind (f_X6_addSign (124 : Int32) (0 : Int32) r8) fun r9 => lt_ (x2 + (1 : Int32)) fun x10 => lp_X6_readValue_7 N rv a1 q x10 r9))
def g_X6_readValue (N : Nat) (rv : Int32 → jM → Option jM) (a1 : Int32) (s0 : jM) : Option jM := Option.bind (f_X6_readBoth N rv a1 s0) fun r1 => lp_X6_readValue_7 N rv a1 N (0 : Int32) r1
def f_X6_readValue (N : Nat) : Nat → Int32 → jM → Option jM
  | 0 => fun _ _ => none
  | q + 1 => g_X6_readValue N (f_X6_readValue N q)
set_option maxRecDepth 100000 in
set_option maxHeartbeats 4000000 in
theorem lp_X6_readValue_7_ok (l : Launch) (N : Nat) (rv : Int32 → jM → Option jM) (d0 : Nat) (hd0 : 20 ≤ d0) (hrv : ∀ (a : Int32) (s : jM), Con l d0 yX6_readValue cX6_readValue 3 none (eV SH) SH [.ref 29, .int a] s (rv a s))  (a1 : Int32)  : ∀ (q : Nat) (x2 : Int32) (s3 : jM), J l RX6 cX6_readValue 3 (Option.none : Option Jvm.ClassFile.FieldType) false (rmD (d0 + 8) 0 0) noCx (eV SH) SH 0 0 s3 7 [some (.ref 29), some (.int a1), some (.int x2)] [] (lp_X6_readValue_7 N rv a1 q x2 s3) := by
  intro q
  induction q with
  | zero => intro x2 s3; exact J_none
  | succ q hrec4 =>
    intro x2 s3
    rw [lp_X6_readValue_7]
    refine J_iload_n (i := 2) dX6_readValue_7 rfl rfl ?_
    refine J_bipush (v := (40 : Int32)) dX6_readValue_8 (by decide) ?_
    refine J_icmp_ge (tgt := 41) dX6_readValue_10 (by decide) (fun c5 => ?_) (fun c5 => ?_)
    · exact J_return dX6_readValue_41 rfl rfl
    · refine J_aload_n (i := 0) dX6_readValue_13 rfl rfl ?_
      refine J_ldcS (i := 7) dX6_readValue_14 sr_7 ?_
      refine J_callVIM 29 [.ref (1000 + 7)] dX6_readValue_16 ca_X6_take lk_RX6_61 vi_X6_take rc_29 rfl rfl ⟨by show _ ≤ _; simp only [rmD]; omega, by show _ ≤ _; simp only [rmD]; omega⟩ (Nat.le_of_ble_eq_true rfl) ⟨Nat.zero_le _, Nat.zero_le _⟩ (con_X6_take l N 7 (by decide) _) (fun r6 _ => ?_)
      refine J_iconst (v := (-1 : Int32)) dX6_readValue_19 (by decide) ?_
      refine J_icmp_eq (tgt := 41) dX6_readValue_20 (by decide) (fun c7 => ?_) (fun c7 => ?_)
      · exact J_return dX6_readValue_41 rfl rfl
      · refine J_aload_n (i := 0) dX6_readValue_23 rfl rfl ?_
        refine J_iload_n (i := 1) dX6_readValue_24 rfl rfl ?_
        refine J_callVV 29 [.int a1] dX6_readValue_25 ca_X6_readBoth lk_RX6_56 vi_X6_readBoth rc_29 rfl rfl ⟨by show _ ≤ _; simp only [rmD]; omega, by show _ ≤ _; simp only [rmD]; omega⟩ (Nat.le_of_ble_eq_true rfl) ⟨Nat.zero_le _, Nat.zero_le _⟩ (con_X6_readBoth l N rv d0 hd0 hrv _ _) (fun r8 _ => ?_)
        refine J_aload_n (i := 0) dX6_readValue_28 rfl rfl ?_
        refine J_bipush (v := (124 : Int32)) dX6_readValue_29 (by decide) ?_
        refine J_iconst (v := (0 : Int32)) dX6_readValue_31 (by decide) ?_
        refine J_callVV 29 [.int (124 : Int32), .int (0 : Int32)] dX6_readValue_32 ca_X6_addSign lk_RX6_65 vi_X6_addSign rc_29 rfl rfl ⟨by show _ ≤ _; simp only [rmD]; omega, by show _ ≤ _; simp only [rmD]; omega⟩ (Nat.le_of_ble_eq_true rfl) ⟨Nat.zero_le _, Nat.zero_le _⟩ (con_X6_addSign l _ _ _) (fun r9 _ => ?_)
        refine J_iincN (i := 2) (v := x2 + (1 : Int32)) (LS := fun x10 => [some (.ref 29), some (.int a1), some (.int x10)]) dX6_readValue_35 rfl (by first | rfl | decide) (fun _ => rfl) (by decide) (fun x10 => ?_)
        refine J_goto (tgt := 7) dX6_readValue_38 (by decide) ?_
        refine J_sub (l1 := [some (.ref 29), some (.int a1), some (.int x10)]) ⟨rfl, ⟨rfl, ⟨rfl, trivial⟩⟩⟩ ?_
        exact hrec4 x10 r9
set_option maxRecDepth 100000 in
set_option maxHeartbeats 4000000 in
theorem cong_X6_readValue (l : Launch) (N : Nat) (rv : Int32 → jM → Option jM) (d0 : Nat) (hd0 : 20 ≤ d0) (hrv : ∀ (a : Int32) (s : jM), Con l d0 yX6_readValue cX6_readValue 3 none (eV SH) SH [.ref 29, .int a] s (rv a s)) (a1 : Int32) (s0 : jM) : Con l (d0 + 8) yX6_readValue cX6_readValue 3 (Option.none : Option Jvm.ClassFile.FieldType) (eV SH) SH [.ref 29, .int a1] s0 (g_X6_readValue N rv a1 s0) := by
  refine Con_of (ls0 := [some (.ref 29), some (.int a1), none]) (ini := false) (mc := 0) (ms := 0) (by decide +kernel) rfl (Nat.le_of_ble_eq_true rfl) (fun h => by cases h) (fun _ _ => rfl) ?_
  unfold g_X6_readValue
  refine J_aload_n (i := 0) dX6_readValue_0 rfl rfl ?_
  refine J_iload_n (i := 1) dX6_readValue_1 rfl rfl ?_
  refine J_callVV 29 [.int a1] dX6_readValue_2 ca_X6_readBoth lk_RX6_56 vi_X6_readBoth rc_29 rfl rfl ⟨by show _ ≤ _; simp only [rmD]; omega, by show _ ≤ _; simp only [rmD]; omega⟩ (Nat.le_of_ble_eq_true rfl) ⟨Nat.zero_le _, Nat.zero_le _⟩ (con_X6_readBoth l N rv d0 hd0 hrv _ _) (fun r1 _ => ?_)
  refine J_iconst (v := (0 : Int32)) dX6_readValue_5 (by decide) ?_
  refine J_istore_n (i := 2) (ls2 := [some (.ref 29), some (.int a1), some (.int (0 : Int32))]) dX6_readValue_6 rfl rfl (by decide) ?_
  refine J_sub (l1 := [some (.ref 29), some (.int a1), some (.int (0 : Int32))]) ⟨rfl, ⟨rfl, ⟨rfl, trivial⟩⟩⟩ ?_
  exact lp_X6_readValue_7_ok l N rv d0 hd0 hrv  a1  N (0 : Int32) r1
theorem con_X6_readValue (l : Launch) (N : Nat) : ∀ (q : Nat) (a : Int32) (s : jM), Con l (20 + 8 * q) yX6_readValue cX6_readValue 3 (Option.none : Option Jvm.ClassFile.FieldType) (eV SH) SH [.ref 29, .int a] s (f_X6_readValue N q a s) := by
  intro q
  induction q with
  | zero => intro a s res h; cases h
  | succ q ih => intro a s; exact cong_X6_readValue l N _ (20 + 8 * q) (by omega) ih a s

def f_X6_read (N : Nat)  (s0 : jM) : Option jM := lt_ (pI s0 29 6 (0 : Int32)) fun s1 => lt_ (pI s1 29 3 (0 : Int32)) fun s2 => lt_ (pI s2 29 7 (-1 : Int32)) fun s3 => lt_ (pI s3 29 8 (0 : Int32)) fun s4 => Option.bind (f_X6_readValue N 10 (0 : Int32) s4) fun r5 => Option.bind (f_X6_nextSign N r5) fun r6 => if r6.1 = (-1 : Int32) then (some r6.2) else (Option.bind (f_X6_setFlaw (gI r6.2 29 6) (1 : Int32) r6.2) fun r8 => some r8)
set_option maxRecDepth 100000 in
set_option maxHeartbeats 4000000 in
theorem con_X6_read (l : Launch) (N : Nat) (s0 : jM) : Con l (110) yX6_read cX6_read 1 (Option.none : Option Jvm.ClassFile.FieldType) (eV SH) SH [.ref 29] s0 (f_X6_read N s0) := by
  refine Con_of (ls0 := [some (.ref 29)]) (ini := false) (mc := 0) (ms := 0) (by decide +kernel) rfl (Nat.le_of_ble_eq_true rfl) (fun h => by cases h) (fun _ _ => rfl) ?_
  unfold f_X6_read
  refine J_aload_n (i := 0) dX6_read_0 rfl rfl ?_
  refine J_iconst (v := (0 : Int32)) dX6_read_1 (by decide) ?_
  refine J_putI dX6_read_2 fp_RX6_30 (fun h => by first | rfl | cases h) sh_29_6 rfl rfl ?_
  refine J_letM rfl (fun s1 => ?_)
  refine J_aload_n (i := 0) dX6_read_5 rfl rfl ?_
  refine J_iconst (v := (0 : Int32)) dX6_read_6 (by decide) ?_
  refine J_putI dX6_read_7 fp_RX6_34 (fun h => by first | rfl | cases h) sh_29_3 rfl rfl ?_
  refine J_letM rfl (fun s2 => ?_)
  refine J_aload_n (i := 0) dX6_read_10 rfl rfl ?_
  refine J_iconst (v := (-1 : Int32)) dX6_read_11 (by decide) ?_
  refine J_putI dX6_read_12 fp_RX6_37 (fun h => by first | rfl | cases h) sh_29_7 rfl rfl ?_
  refine J_letM rfl (fun s3 => ?_)
  refine J_aload_n (i := 0) dX6_read_15 rfl rfl ?_
  refine J_iconst (v := (0 : Int32)) dX6_read_16 (by decide) ?_
  refine J_putI dX6_read_17 fp_RX6_40 (fun h => by first | rfl | cases h) sh_29_8 rfl rfl ?_
  refine J_letM rfl (fun s4 => ?_)
  refine J_aload_n (i := 0) dX6_read_20 rfl rfl ?_
  refine J_iconst (v := (0 : Int32)) dX6_read_21 (by decide) ?_
  refine J_callVV 29 [.int (0 : Int32)] dX6_read_22 ca_X6_readValue lk_RX6_44 vi_X6_readValue rc_29 rfl rfl ⟨by show _ ≤ _; simp only [rmD]; omega, by show _ ≤ _; simp only [rmD]; omega⟩ (Nat.le_of_ble_eq_true rfl) ⟨Nat.zero_le _, Nat.zero_le _⟩ (con_X6_readValue l N 10 _ _) (fun r5 _ => ?_)
  refine J_aload_n (i := 0) dX6_read_25 rfl rfl ?_
  refine J_callVIM 29 [] dX6_read_26 ca_X6_nextSign lk_RX6_48 vi_X6_nextSign rc_29 rfl rfl ⟨by show _ ≤ _; simp only [rmD]; omega, by show _ ≤ _; simp only [rmD]; omega⟩ (Nat.le_of_ble_eq_true rfl) ⟨Nat.zero_le _, Nat.zero_le _⟩ (con_X6_nextSign l N _) (fun r6 _ => ?_)
  refine J_iconst (v := (-1 : Int32)) dX6_read_29 (by decide) ?_
  refine J_icmp_eq (tgt := 42) dX6_read_30 (by decide) (fun c7 => ?_) (fun c7 => ?_)
  · exact J_return dX6_read_42 rfl rfl
  · refine J_aload_n (i := 0) dX6_read_33 rfl rfl ?_
    refine J_aload_n (i := 0) dX6_read_34 rfl rfl ?_
    refine J_getI dX6_read_35 fl_RX6_30 sh_29_6 ?_
    refine J_iconst (v := (1 : Int32)) dX6_read_38 (by decide) ?_
    refine J_callVV 29 [.int (gI r6.2 29 6), .int (1 : Int32)] dX6_read_39 ca_X6_setFlaw lk_RX6_52 vi_X6_setFlaw rc_29 rfl rfl ⟨by show _ ≤ _; simp only [rmD]; omega, by show _ ≤ _; simp only [rmD]; omega⟩ (Nat.le_of_ble_eq_true rfl) ⟨Nat.zero_le _, Nat.zero_le _⟩ (con_X6_setFlaw l _ _ _) (fun r8 _ => ?_)
    exact J_return dX6_read_42 rfl rfl

def f_X7_write (N : Nat) (a1 : Int32) (s0 : jM) : Option (Int32 × jM) := Option.bind (f_X7_isWithin a1 (0 : Int32) (127 : Int32)) fun r1 => if r1 = 0 then (Option.bind (f_X7_refuseAsBad s0) fun r8 => some (r8.1, r8.2)) else (if (gI s0 1 8) < (40 : Int32) then (Option.bind (f_X5_addLetter ((Int32.toUInt32 a1 % 65536).toInt32) s0) fun r4 => Option.bind (f_X6_read N r4) fun r5 => Option.bind (f_X7_forgetWhatFollows r5) fun r6 => some ((gI r6 1 8), r6)) else (Option.bind (f_X7_refuseAsFull s0) fun r7 => some (r7.1, r7.2)))
set_option maxRecDepth 100000 in
set_option maxHeartbeats 4000000 in
theorem con_X7_write (l : Launch) (N : Nat) (a1 : Int32) (s0 : jM) : Con l (111) yX7_write cX7_write 2 (Option.some Jvm.ClassFile.FieldType.int) (eIM SH) SH [.ref 0, .int a1] s0 (f_X7_write N a1 s0) := by
  refine Con_of (ls0 := [some (.ref 0), some (.int a1)]) (ini := false) (mc := 0) (ms := 0) (by decide +kernel) rfl (Nat.le_of_ble_eq_true rfl) (fun h => by cases h) (fun _ _ => rfl) ?_
  unfold f_X7_write
  refine J_iload_n (i := 1) dX7_write_0 rfl rfl ?_
  refine J_iconst (v := (0 : Int32)) dX7_write_1 (by decide) ?_
  refine J_bipush (v := (127 : Int32)) dX7_write_2 (by decide) ?_
  refine J_callSI [.int a1, .int (0 : Int32), .int (127 : Int32)] dX7_write_4 ca_X7_isWithin lk_RX7_82 st_X7_isWithin rfl rfl ⟨by show _ ≤ _; simp only [rmD]; omega, by show _ ≤ _; simp only [rmD]; omega⟩ (Nat.le_of_ble_eq_true rfl) ⟨Nat.zero_le _, Nat.zero_le _⟩ (con_X7_isWithin l _ _ _ _) (fun r1 _ => ?_)
  refine J_if_ne (tgt := 15) dX7_write_7 (by decide) (fun c2 => ?_) (fun c2 => ?_)
  · refine J_aload_n (i := 0) dX7_write_15 rfl rfl ?_
    refine J_getR dX7_write_16 fl_RX7_10 sh_0_0 ?_
    refine J_getI dX7_write_19 fl_RX7_115 sh_1_8 ?_
    refine J_bipush (v := (40 : Int32)) dX7_write_22 (by decide) ?_
    refine J_icmp_lt (tgt := 32) dX7_write_24 (by decide) (fun c3 => ?_) (fun c3 => ?_)
    · refine J_aload_n (i := 0) dX7_write_32 rfl rfl ?_
      refine J_getR dX7_write_33 fl_RX7_10 sh_0_0 ?_
      refine J_iload_n (i := 1) dX7_write_36 rfl rfl ?_
      refine J_i2c dX7_write_37 ?_
      refine J_callVV 1 [.int ((Int32.toUInt32 a1 % 65536).toInt32)] dX7_write_38 ca_X5_addLetter lk_RX7_118 vi_X5_addLetter rc_1 rfl rfl ⟨by show _ ≤ _; simp only [rmD]; omega, by show _ ≤ _; simp only [rmD]; omega⟩ (Nat.le_of_ble_eq_true rfl) ⟨Nat.zero_le _, Nat.zero_le _⟩ (con_X5_addLetter l _ _) (fun r4 _ => ?_)
      refine J_aload_n (i := 0) dX7_write_41 rfl rfl ?_
      refine J_getR dX7_write_42 fl_RX7_31 sh_0_4 ?_
      refine J_callVV 29 [] dX7_write_45 ca_X6_read lk_RX7_122 vi_X6_read rc_29 rfl rfl ⟨by show _ ≤ _; simp only [rmD]; omega, by show _ ≤ _; simp only [rmD]; omega⟩ (Nat.le_of_ble_eq_true rfl) ⟨Nat.zero_le _, Nat.zero_le _⟩ (con_X6_read l N _) (fun r5 _ => ?_)
      refine J_aload_n (i := 0) dX7_write_48 rfl rfl ?_
      refine J_callVV 0 [] dX7_write_49 ca_X7_forgetWhatFollows lk_RX7_101 vi_X7_forgetWhatFollows rc_0 rfl rfl ⟨by show _ ≤ _; simp only [rmD]; omega, by show _ ≤ _; simp only [rmD]; omega⟩ (Nat.le_of_ble_eq_true rfl) ⟨Nat.zero_le _, Nat.zero_le _⟩ (con_X7_forgetWhatFollows l _) (fun r6 _ => ?_)
      refine J_aload_n (i := 0) dX7_write_52 rfl rfl ?_
      refine J_getR dX7_write_53 fl_RX7_10 sh_0_0 ?_
      refine J_getI dX7_write_56 fl_RX7_115 sh_1_8 ?_
      exact J_ireturn dX7_write_59 rfl rfl rfl
    · refine J_aload_n (i := 0) dX7_write_27 rfl rfl ?_
      refine J_callVIM 0 [] dX7_write_28 ca_X7_refuseAsFull lk_RX7_94 vi_X7_refuseAsFull rc_0 rfl rfl ⟨by show _ ≤ _; simp only [rmD]; omega, by show _ ≤ _; simp only [rmD]; omega⟩ (Nat.le_of_ble_eq_true rfl) ⟨Nat.zero_le _, Nat.zero_le _⟩ (con_X7_refuseAsFull l _) (fun r7 _ => ?_)
      exact J_ireturn dX7_write_31 rfl rfl rfl
  · refine J_aload_n (i := 0) dX7_write_10 rfl rfl ?_
    refine J_callVIM 0 [] dX7_write_11 ca_X7_refuseAsBad lk_RX7_86 vi_X7_refuseAsBad rc_0 rfl rfl ⟨by show _ ≤ _; simp only [rmD]; omega, by show _ ≤ _; simp only [rmD]; omega⟩ (Nat.le_of_ble_eq_true rfl) ⟨Nat.zero_le _, Nat.zero_le _⟩ (con_X7_refuseAsBad l _) (fun r8 _ => ?_)
    exact J_ireturn dX7_write_14 rfl rfl rfl

def f_X7_erase (N : Nat)  (s0 : jM) : Option (Int32 × jM) := lt_ (gI s0 1 8) fun x1 => lt_ (pI s0 1 8 (0 : Int32)) fun s2 => Option.bind (f_X6_read N s2) fun r3 => Option.bind (f_X7_forgetWhatFollows r3) fun r4 => some (x1, r4)
set_option maxRecDepth 100000 in
set_option maxHeartbeats 4000000 in
theorem con_X7_erase (l : Launch) (N : Nat) (s0 : jM) : Con l (111) yX7_erase cX7_erase 2 (Option.some Jvm.ClassFile.FieldType.int) (eIM SH) SH [.ref 0] s0 (f_X7_erase N s0) := by
  refine Con_of (ls0 := [some (.ref 0), none]) (ini := false) (mc := 0) (ms := 0) (by decide +kernel) rfl (Nat.le_of_ble_eq_true rfl) (fun h => by cases h) (fun _ _ => rfl) ?_
  unfold f_X7_erase
  refine J_aload_n (i := 0) dX7_erase_0 rfl rfl ?_
  refine J_getR dX7_erase_1 fl_RX7_10 sh_0_0 ?_
  refine J_getI dX7_erase_4 fl_RX7_115 sh_1_8 ?_
  refine J_istore_nN (i := 1) (LS := fun x1 => [some (.ref 0), some (.int x1)]) dX7_erase_7 rfl (fun _ => rfl) (by decide) (fun x1 => ?_)
  refine J_aload_n (i := 0) dX7_erase_8 rfl rfl ?_
  refine J_getR dX7_erase_9 fl_RX7_10 sh_0_0 ?_
  refine J_iconst (v := (0 : Int32)) dX7_erase_12 (by decide) ?_
  refine J_putI dX7_erase_13 fp_RX7_115 (fun h => by first | rfl | cases h) sh_1_8 rfl rfl ?_
  refine J_letM rfl (fun s2 => ?_)
  refine J_aload_n (i := 0) dX7_erase_16 rfl rfl ?_
  refine J_getR dX7_erase_17 fl_RX7_31 sh_0_4 ?_
  refine J_callVV 29 [] dX7_erase_20 ca_X6_read lk_RX7_122 vi_X6_read rc_29 rfl rfl ⟨by show _ ≤ _; simp only [rmD]; omega, by show _ ≤ _; simp only [rmD]; omega⟩ (Nat.le_of_ble_eq_true rfl) ⟨Nat.zero_le _, Nat.zero_le _⟩ (con_X6_read l N _) (fun r3 _ => ?_)
  refine J_aload_n (i := 0) dX7_erase_23 rfl rfl ?_
  refine J_callVV 0 [] dX7_erase_24 ca_X7_forgetWhatFollows lk_RX7_101 vi_X7_forgetWhatFollows rc_0 rfl rfl ⟨by show _ ≤ _; simp only [rmD]; omega, by show _ ≤ _; simp only [rmD]; omega⟩ (Nat.le_of_ble_eq_true rfl) ⟨Nat.zero_le _, Nat.zero_le _⟩ (con_X7_forgetWhatFollows l _) (fun r4 _ => ?_)
  refine J_iload_n (i := 1) dX7_erase_27 rfl rfl ?_
  exact J_ireturn dX7_erase_28 rfl rfl rfl

def f_X7_fault  (s0 : jM) : Option Int32 := some (gI s0 29 7)
set_option maxRecDepth 100000 in
set_option maxHeartbeats 4000000 in
theorem con_X7_fault (l : Launch) (s0 : jM) : Con l (1) yX7_fault cX7_fault 1 (Option.some Jvm.ClassFile.FieldType.int) (eI SH s0) SH [.ref 0] s0 (f_X7_fault s0) := by
  refine Con_of (ls0 := [some (.ref 0)]) (ini := false) (mc := 0) (ms := 0) (by decide +kernel) rfl (Nat.le_of_ble_eq_true rfl) (fun h => by cases h) (fun _ _ => rfl) ?_
  unfold f_X7_fault
  refine J_aload_n (i := 0) dX7_fault_0 rfl rfl ?_
  refine J_getR dX7_fault_1 fl_RX7_31 sh_0_4 ?_
  refine J_getI dX7_fault_4 fl_RX7_125 sh_29_7 ?_
  exact J_ireturn dX7_fault_7 rfl rfl rfl

def f_X7_isSetOf (a0 : Int32) (a1 : Int32) : Option Int32 := jn_ (fun (_ : Unit) => some (0 : Int32)) fun j1 => if a0 < 0 then (j1 ()) else (if ((1 : Int32) <<< (a1 &&& 31)) ≤ a0 then (j1 ()) else (some (1 : Int32)))
set_option maxRecDepth 100000 in
set_option maxHeartbeats 4000000 in
theorem con_X7_isSetOf (l : Launch) (a0 : Int32) (a1 : Int32) (s0 : jM) : Con l (1) yX7_isSetOf cX7_isSetOf 2 (Option.some Jvm.ClassFile.FieldType.boolean) (eI SH s0) SH [.int a0, .int a1] s0 (f_X7_isSetOf a0 a1) := by
  refine Con_of (ls0 := [some (.int a0), some (.int a1)]) (ini := false) (mc := 0) (ms := 0) (by decide +kernel) rfl (Nat.le_of_ble_eq_true rfl) (fun h => by cases h) (fun _ _ => rfl) ?_
  unfold f_X7_isSetOf
  refine J_join (P := fun j => ∀ (_ : Unit), J l RX7 cX7_isSetOf 2 (Option.some Jvm.ClassFile.FieldType.boolean) false (rmD (1) 0 0) noCx (eI SH s0) SH 0 0 s0 15 [none, none] [] (j ())) ?_ (fun j1 hj1 => ?_)
  · intro _
    refine J_iconst (v := (0 : Int32)) dX7_isSetOf_15 (by decide) ?_
    exact J_ireturn dX7_isSetOf_16 rfl rfl rfl
  refine J_iload_n (i := 0) dX7_isSetOf_0 rfl rfl ?_
  refine J_if_lt (tgt := 15) dX7_isSetOf_1 (by decide) (fun c2 => ?_) (fun c2 => ?_)
  · refine J_sub (l1 := [none, none]) trivial ?_
    exact hj1 ()
  · refine J_iload_n (i := 0) dX7_isSetOf_4 rfl rfl ?_
    refine J_iconst (v := (1 : Int32)) dX7_isSetOf_5 (by decide) ?_
    refine J_iload_n (i := 1) dX7_isSetOf_6 rfl rfl ?_
    refine J_ishl dX7_isSetOf_7 ?_
    refine J_icmp_ge (tgt := 15) dX7_isSetOf_8 (by decide) (fun c3 => ?_) (fun c3 => ?_)
    · refine J_sub (l1 := [none, none]) trivial ?_
      exact hj1 ()
    · refine J_iconst (v := (1 : Int32)) dX7_isSetOf_11 (by decide) ?_
      refine J_goto (tgt := 16) dX7_isSetOf_12 (by decide) ?_
      exact J_ireturn dX7_isSetOf_16 rfl rfl rfl

def f_X7_holds (a0 : Int32) (a1 : Int32) : Option Int32 := if ((a0 >>> (a1 &&& 31)) &&& (1 : Int32)) = 0 then (some (0 : Int32)) else (some (1 : Int32))
set_option maxRecDepth 100000 in
set_option maxHeartbeats 4000000 in
theorem con_X7_holds (l : Launch) (a0 : Int32) (a1 : Int32) (s0 : jM) : Con l (1) yX7_holds cX7_holds 2 (Option.some Jvm.ClassFile.FieldType.boolean) (eI SH s0) SH [.int a0, .int a1] s0 (f_X7_holds a0 a1) := by
  refine Con_of (ls0 := [some (.int a0), some (.int a1)]) (ini := false) (mc := 0) (ms := 0) (by decide +kernel) rfl (Nat.le_of_ble_eq_true rfl) (fun h => by cases h) (fun _ _ => rfl) ?_
  unfold f_X7_holds
  refine J_iload_n (i := 0) dX7_holds_0 rfl rfl ?_
  refine J_iload_n (i := 1) dX7_holds_1 rfl rfl ?_
  refine J_ishr dX7_holds_2 ?_
  refine J_iconst (v := (1 : Int32)) dX7_holds_3 (by decide) ?_
  refine J_iand dX7_holds_4 ?_
  refine J_if_eq (tgt := 12) dX7_holds_5 (by decide) (fun c1 => ?_) (fun c1 => ?_)
  · refine J_iconst (v := (0 : Int32)) dX7_holds_12 (by decide) ?_
    exact J_ireturn dX7_holds_13 rfl rfl rfl
  · refine J_iconst (v := (1 : Int32)) dX7_holds_8 (by decide) ?_
    refine J_goto (tgt := 13) dX7_holds_9 (by decide) ?_
    exact J_ireturn dX7_holds_13 rfl rfl rfl

def lp_X5_sumBrought_5 (N : Nat) (s0 : jM) (a1 : Int32) (a2 : Int32) (k2 : Int32 → Option Int32) : Nat → Int32 → Int32 → Option Int32
  | 0, _, _ => none
  | q + 1, x3, x4 => if (gI s0 1 4) ≤ x4 then (k2 x3) else (if (8 : Int32) ≤ x4 then (k2 x3) else (jn_ (fun (x8 : Int32) => lt_ (x4 + (1 : Int32)) fun x10 => lp_X5_sumBrought_5 N s0 a1 a2 k2 q x8 x10) fun j9 => gd (ib x4 8) <| lt_ (((gI s0 2 (Int32.toNatClampNeg x4)) * (5 : Int32)) + a2) fun x11 => Option.bind (f_X7_holds a1 x4) fun r12 => if r12 = 0 then (j9 x3) else (if x11 < 0 then (j9 x3) else (if (40 : Int32) ≤ x11 then (j9 x3) else (gd (ib x11 40) <| lt_ (x3 + (brS.getD (Int32.toNatClampNeg x11) 0)) fun x16 => j9 x16)))))
def f_X5_sumBrought (N : Nat) (a1 : Int32) (a2 : Int32) (s0 : jM) : Option Int32 := jn_ (fun (x1 : Int32) => some x1) fun k2 => lp_X5_sumBrought_5 N s0 a1 a2 k2 N (0 : Int32) (0 : Int32)
set_option maxRecDepth 100000 in
set_option maxHeartbeats 4000000 in
theorem lp_X5_sumBrought_5_ok (l : Launch) (N : Nat)  (s0 : jM) (a1 : Int32) (a2 : Int32) (k2 : Int32 → Option Int32) (hk2 : ∀ (x1 : Int32), J l RX5 cX5_sumBrought 6 (Option.some Jvm.ClassFile.FieldType.int) false (rmD (2) 0 0) noCx (eI SH s0) SH 0 0 s0 72 [none, none, none, some (.int x1), none, none] [] (k2 x1)) : ∀ (q : Nat) (x3 : Int32) (x4 : Int32), J l RX5 cX5_sumBrought 6 (Option.some Jvm.ClassFile.FieldType.int) false (rmD (2) 0 0) noCx (eI SH s0) SH 0 0 s0 5 [some (.ref 1), some (.int a1), some (.int a2), some (.int x3), some (.int x4), none] [] (lp_X5_sumBrought_5 N s0 a1 a2 k2 q x3 x4) := by
  intro q
  induction q with
  | zero => intro x3 x4; exact J_none
  | succ q hrec5 =>
    intro x3 x4
    rw [lp_X5_sumBrought_5]
    refine J_iload (i := 4) dX5_sumBrought_5 rfl ?_
    refine J_aload_n (i := 0) dX5_sumBrought_7 rfl rfl ?_
    refine J_getI dX5_sumBrought_8 fl_RX5_24 sh_1_4 ?_
    refine J_icmp_ge (tgt := 72) dX5_sumBrought_11 (by decide) (fun c6 => ?_) (fun c6 => ?_)
    · refine J_sub (l1 := [none, none, none, some (.int x3), none, none]) ⟨rfl, trivial⟩ ?_
      exact hk2 x3
    · refine J_iload (i := 4) dX5_sumBrought_14 rfl ?_
      refine J_bipush (v := (8 : Int32)) dX5_sumBrought_16 (by decide) ?_
      refine J_icmp_ge (tgt := 72) dX5_sumBrought_18 (by decide) (fun c7 => ?_) (fun c7 => ?_)
      · refine J_sub (l1 := [none, none, none, some (.int x3), none, none]) ⟨rfl, trivial⟩ ?_
        exact hk2 x3
      · refine J_join (P := fun j => ∀ (x8 : Int32), J l RX5 cX5_sumBrought 6 (Option.some Jvm.ClassFile.FieldType.int) false (rmD (2) 0 0) noCx (eI SH s0) SH 0 0 s0 66 [some (.ref 1), some (.int a1), some (.int a2), some (.int x8), some (.int x4), none] [] (j x8)) ?_ (fun j9 hj9 => ?_)
        · intro x8
          refine J_iincN (i := 4) (v := x4 + (1 : Int32)) (LS := fun x10 => [some (.ref 1), some (.int a1), some (.int a2), some (.int x8), some (.int x10), none]) dX5_sumBrought_66 rfl (by first | rfl | decide) (fun _ => rfl) (by decide) (fun x10 => ?_)
          refine J_goto (tgt := 5) dX5_sumBrought_69 (by decide) ?_
          refine J_sub (l1 := [some (.ref 1), some (.int a1), some (.int a2), some (.int x8), some (.int x10), none]) ⟨rfl, ⟨rfl, ⟨rfl, ⟨rfl, ⟨rfl, trivial⟩⟩⟩⟩⟩ ?_
          exact hrec5 x8 x10
        refine J_aload_n (i := 0) dX5_sumBrought_21 rfl rfl ?_
        refine J_getR dX5_sumBrought_22 fl_RX5_9 sh_1_0 ?_
        refine J_iload (i := 4) dX5_sumBrought_25 rfl ?_
        refine J_iald dX5_sumBrought_27 sa_2 ?_
        refine J_iconst (v := (5 : Int32)) dX5_sumBrought_28 (by decide) ?_
        refine J_imul dX5_sumBrought_29 ?_
        refine J_iload_n (i := 2) dX5_sumBrought_30 rfl rfl ?_
        refine J_iadd dX5_sumBrought_31 ?_
        refine J_istoreN (i := 5) (LS := fun x11 => [some (.ref 1), some (.int a1), some (.int a2), some (.int x3), some (.int x4), some (.int x11)]) dX5_sumBrought_32 (fun _ => rfl) (by decide) (fun x11 => ?_)
        refine J_iload_n (i := 1) dX5_sumBrought_34 rfl rfl ?_
        refine J_iload (i := 4) dX5_sumBrought_35 rfl ?_
        refine J_callSI [.int a1, .int x4] dX5_sumBrought_37 ca_X7_holds lk_RX5_59 st_X7_holds rfl rfl ⟨by show _ ≤ _; simp only [rmD]; omega, by show _ ≤ _; simp only [rmD]; omega⟩ (Nat.le_of_ble_eq_true rfl) ⟨Nat.zero_le _, Nat.zero_le _⟩ (con_X7_holds l _ _ _) (fun r12 _ => ?_)
        refine J_if_eq (tgt := 66) dX5_sumBrought_40 (by decide) (fun c13 => ?_) (fun c13 => ?_)
        · refine J_sub (l1 := [some (.ref 1), some (.int a1), some (.int a2), some (.int x3), some (.int x4), none]) ⟨rfl, ⟨rfl, ⟨rfl, ⟨rfl, ⟨rfl, trivial⟩⟩⟩⟩⟩ ?_
          exact hj9 x3
        · refine J_iload (i := 5) dX5_sumBrought_43 rfl ?_
          refine J_if_lt (tgt := 66) dX5_sumBrought_45 (by decide) (fun c14 => ?_) (fun c14 => ?_)
          · refine J_sub (l1 := [some (.ref 1), some (.int a1), some (.int a2), some (.int x3), some (.int x4), none]) ⟨rfl, ⟨rfl, ⟨rfl, ⟨rfl, ⟨rfl, trivial⟩⟩⟩⟩⟩ ?_
            exact hj9 x3
          · refine J_iload (i := 5) dX5_sumBrought_48 rfl ?_
            refine J_brS dX5_sumBrought_50 (mNW 631 w_631 rfl) ?_
            refine J_brL dX5_sumBrought_53 ?_
            refine J_icmp_ge (tgt := 66) dX5_sumBrought_54 (by decide) (fun c15 => ?_) (fun c15 => ?_)
            · refine J_sub (l1 := [some (.ref 1), some (.int a1), some (.int a2), some (.int x3), some (.int x4), none]) ⟨rfl, ⟨rfl, ⟨rfl, ⟨rfl, ⟨rfl, trivial⟩⟩⟩⟩⟩ ?_
              exact hj9 x3
            · refine J_iload_n (i := 3) dX5_sumBrought_57 rfl rfl ?_
              refine J_brS dX5_sumBrought_58 (mNW 631 w_631 rfl) ?_
              refine J_iload (i := 5) dX5_sumBrought_61 rfl ?_
              refine J_brA dX5_sumBrought_63 ?_
              refine J_iadd dX5_sumBrought_64 ?_
              refine J_istore_nN (i := 3) (LS := fun x16 => [some (.ref 1), some (.int a1), some (.int a2), some (.int x16), some (.int x4), some (.int x11)]) dX5_sumBrought_65 rfl (fun _ => rfl) (by decide) (fun x16 => ?_)
              refine J_sub (l1 := [some (.ref 1), some (.int a1), some (.int a2), some (.int x16), some (.int x4), none]) ⟨rfl, ⟨rfl, ⟨rfl, ⟨rfl, ⟨rfl, trivial⟩⟩⟩⟩⟩ ?_
              exact hj9 x16
set_option maxRecDepth 100000 in
set_option maxHeartbeats 4000000 in
theorem con_X5_sumBrought (l : Launch) (N : Nat) (a1 : Int32) (a2 : Int32) (s0 : jM) : Con l (2) yX5_sumBrought cX5_sumBrought 6 (Option.some Jvm.ClassFile.FieldType.int) (eI SH s0) SH [.ref 1, .int a1, .int a2] s0 (f_X5_sumBrought N a1 a2 s0) := by
  refine Con_of (ls0 := [some (.ref 1), some (.int a1), some (.int a2), none, none, none]) (ini := false) (mc := 0) (ms := 0) (by decide +kernel) rfl (Nat.le_of_ble_eq_true rfl) (fun h => by cases h) (fun _ _ => rfl) ?_
  unfold f_X5_sumBrought
  refine J_iconst (v := (0 : Int32)) dX5_sumBrought_0 (by decide) ?_
  refine J_istore_n (i := 3) (ls2 := [some (.ref 1), some (.int a1), some (.int a2), some (.int (0 : Int32)), none, none]) dX5_sumBrought_1 rfl rfl (by decide) ?_
  refine J_iconst (v := (0 : Int32)) dX5_sumBrought_2 (by decide) ?_
  refine J_istore (i := 4) (ls2 := [some (.ref 1), some (.int a1), some (.int a2), some (.int (0 : Int32)), some (.int (0 : Int32)), none]) dX5_sumBrought_3 rfl (by decide) ?_
  refine J_join (P := fun j => ∀ (x1 : Int32), J l RX5 cX5_sumBrought 6 (Option.some Jvm.ClassFile.FieldType.int) false (rmD (2) 0 0) noCx (eI SH s0) SH 0 0 s0 72 [none, none, none, some (.int x1), none, none] [] (j x1)) ?_ (fun k2 hk2 => ?_)
  · intro x1
    refine J_iload_n (i := 3) dX5_sumBrought_72 rfl rfl ?_
    exact J_ireturn dX5_sumBrought_73 rfl rfl rfl
  refine J_sub (l1 := [some (.ref 1), some (.int a1), some (.int a2), some (.int (0 : Int32)), some (.int (0 : Int32)), none]) ⟨rfl, ⟨rfl, ⟨rfl, ⟨rfl, ⟨rfl, trivial⟩⟩⟩⟩⟩ ?_
  exact lp_X5_sumBrought_5_ok l N  s0 a1 a2 k2 hk2 N (0 : Int32) (0 : Int32)

def f_X7_brings (N : Nat) (a1 : Int32) (a2 : Int32) (s0 : jM) : Option (Int32 × jM) := jn_ (fun (_ : Unit) => Option.bind (f_X7_refuseAsBad s0) fun r2 => some (r2.1, r2.2)) fun j1 => Option.bind (f_X7_isSetOf a1 (gI s0 1 4)) fun r3 => if r3 = 0 then (j1 ()) else (Option.bind (f_X7_isWithin a2 (0 : Int32) (4 : Int32)) fun r5 => if r5 = 0 then (j1 ()) else (Option.bind (f_X5_sumBrought N a1 a2 s0) fun r7 => some (r7, s0)))
set_option maxRecDepth 100000 in
set_option maxHeartbeats 4000000 in
theorem con_X7_brings (l : Launch) (N : Nat) (a1 : Int32) (a2 : Int32) (s0 : jM) : Con l (3) yX7_brings cX7_brings 3 (Option.some Jvm.ClassFile.FieldType.int) (eIM SH) SH [.ref 0, .int a1, .int a2] s0 (f_X7_brings N a1 a2 s0) := by
  refine Con_of (ls0 := [some (.ref 0), some (.int a1), some (.int a2)]) (ini := false) (mc := 0) (ms := 0) (by decide +kernel) rfl (Nat.le_of_ble_eq_true rfl) (fun h => by cases h) (fun _ _ => rfl) ?_
  unfold f_X7_brings
  refine J_join (P := fun j => ∀ (_ : Unit), J l RX7 cX7_brings 3 (Option.some Jvm.ClassFile.FieldType.int) false (rmD (3) 0 0) noCx (eIM SH) SH 0 0 s0 23 [some (.ref 0), none, none] [] (j ())) ?_ (fun j1 hj1 => ?_)
  · intro _
    refine J_aload_n (i := 0) dX7_brings_23 rfl rfl ?_
    refine J_callVIM 0 [] dX7_brings_24 ca_X7_refuseAsBad lk_RX7_86 vi_X7_refuseAsBad rc_0 rfl rfl ⟨by show _ ≤ _; simp only [rmD]; omega, by show _ ≤ _; simp only [rmD]; omega⟩ (Nat.le_of_ble_eq_true rfl) ⟨Nat.zero_le _, Nat.zero_le _⟩ (con_X7_refuseAsBad l _) (fun r2 _ => ?_)
    exact J_ireturn dX7_brings_27 rfl rfl rfl
  refine J_iload_n (i := 1) dX7_brings_0 rfl rfl ?_
  refine J_aload_n (i := 0) dX7_brings_1 rfl rfl ?_
  refine J_getR dX7_brings_2 fl_RX7_10 sh_0_0 ?_
  refine J_getI dX7_brings_5 fl_RX7_90 sh_1_4 ?_
  refine J_callSI [.int a1, .int (gI s0 1 4)] dX7_brings_8 ca_X7_isSetOf lk_RX7_128 st_X7_isSetOf rfl rfl ⟨by show _ ≤ _; simp only [rmD]; omega, by show _ ≤ _; simp only [rmD]; omega⟩ (Nat.le_of_ble_eq_true rfl) ⟨Nat.zero_le _, Nat.zero_le _⟩ (con_X7_isSetOf l _ _ _) (fun r3 _ => ?_)
  refine J_if_eq (tgt := 23) dX7_brings_11 (by decide) (fun c4 => ?_) (fun c4 => ?_)
  · refine J_sub (l1 := [some (.ref 0), none, none]) ⟨rfl, trivial⟩ ?_
    exact hj1 ()
  · refine J_iload_n (i := 2) dX7_brings_14 rfl rfl ?_
    refine J_iconst (v := (0 : Int32)) dX7_brings_15 (by decide) ?_
    refine J_iconst (v := (4 : Int32)) dX7_brings_16 (by decide) ?_
    refine J_callSI [.int a2, .int (0 : Int32), .int (4 : Int32)] dX7_brings_17 ca_X7_isWithin lk_RX7_82 st_X7_isWithin rfl rfl ⟨by show _ ≤ _; simp only [rmD]; omega, by show _ ≤ _; simp only [rmD]; omega⟩ (Nat.le_of_ble_eq_true rfl) ⟨Nat.zero_le _, Nat.zero_le _⟩ (con_X7_isWithin l _ _ _ _) (fun r5 _ => ?_)
    refine J_if_ne (tgt := 28) dX7_brings_20 (by decide) (fun c6 => ?_) (fun c6 => ?_)
    · refine J_aload_n (i := 0) dX7_brings_28 rfl rfl ?_
      refine J_getR dX7_brings_29 fl_RX7_10 sh_0_0 ?_
      refine J_iload_n (i := 1) dX7_brings_32 rfl rfl ?_
      refine J_iload_n (i := 2) dX7_brings_33 rfl rfl ?_
      refine J_callVI 1 [.int a1, .int a2] dX7_brings_34 ca_X5_sumBrought lk_RX7_132 vi_X5_sumBrought rc_1 rfl rfl ⟨by show _ ≤ _; simp only [rmD]; omega, by show _ ≤ _; simp only [rmD]; omega⟩ (Nat.le_of_ble_eq_true rfl) ⟨Nat.zero_le _, Nat.zero_le _⟩ (con_X5_sumBrought l N _ _ _) (fun r7 _ => ?_)
      exact J_ireturn dX7_brings_37 rfl rfl rfl
    · refine J_sub (l1 := [some (.ref 0), none, none]) ⟨rfl, trivial⟩ ?_
      exact hj1 ()

def lp_J7_fill_d0a16_6 (N : Nat) (b0 : Nat) (n0 : Nat) (a1 : Int64) (x1 : Int32) : Nat → Int32 → jM → Option jM
  | 0, _, _ => none
  | q + 1, x2, s3 => if x1 ≤ x2 then (some s3) else (gd (ib x2 n0) <| lt_ (pL s3 b0 (Int32.toNatClampNeg x2) a1) fun s6 => lt_ (x2 + (1 : Int32)) fun x7 => lp_J7_fill_d0a16_6 N b0 n0 a1 x1 q x7 s6)
def f_J7_fill_d0a16 (N : Nat) (b0 : Nat) (n0 : Nat) (a1 : Int64) (s0 : jM) : Option jM := lt_ (Int32.ofNat n0) fun x1 => lp_J7_fill_d0a16_6 N b0 n0 a1 x1 N (0 : Int32) s0
set_option maxRecDepth 100000 in
set_option maxHeartbeats 4000000 in
theorem lp_J7_fill_d0a16_6_ok (l : Launch) (N : Nat) (b0 n0 : Nat) (ha_b0 : shA SH b0 = some (.long, n0))  (a1 : Int64) (x1 : Int32)  : ∀ (q : Nat) (x2 : Int32) (s3 : jM), J l RJ7 cJ7_fill_d0a16 5 (Option.none : Option Jvm.ClassFile.FieldType) false (rmD (1) 0 0) noCx (eV SH) SH 0 0 s3 6 [some (.ref b0), some (.long a1), none, some (.int x2), some (.int x1)] [] (lp_J7_fill_d0a16_6 N b0 n0 a1 x1 q x2 s3) := by
  intro q
  induction q with
  | zero => intro x2 s3; exact J_none
  | succ q hrec4 =>
    intro x2 s3
    rw [lp_J7_fill_d0a16_6]
    refine J_iload_n (i := 3) dJ7_fill_d0a16_6 rfl rfl ?_
    refine J_iload (i := 4) dJ7_fill_d0a16_7 rfl ?_
    refine J_icmp_ge (tgt := 22) dJ7_fill_d0a16_9 (by decide) (fun c5 => ?_) (fun c5 => ?_)
    · exact J_return dJ7_fill_d0a16_22 rfl rfl
    · refine J_aload_n (i := 0) dJ7_fill_d0a16_12 rfl rfl ?_
      refine J_iload_n (i := 3) dJ7_fill_d0a16_13 rfl rfl ?_
      refine J_lload_n (i := 1) dJ7_fill_d0a16_14 rfl rfl ?_
      refine J_last dJ7_fill_d0a16_15 ha_b0 ?_
      refine J_letM rfl (fun s6 => ?_)
      refine J_iincN (i := 3) (v := x2 + (1 : Int32)) (LS := fun x7 => [some (.ref b0), some (.long a1), none, some (.int x7), some (.int x1)]) dJ7_fill_d0a16_16 rfl (by first | rfl | decide) (fun _ => rfl) (by decide) (fun x7 => ?_)
      refine J_goto (tgt := 6) dJ7_fill_d0a16_19 (by decide) ?_
      refine J_sub (l1 := [some (.ref b0), some (.long a1), none, some (.int x7), some (.int x1)]) ⟨rfl, ⟨rfl, ⟨rfl, ⟨rfl, trivial⟩⟩⟩⟩ ?_
      exact hrec4 x7 s6
set_option maxRecDepth 100000 in
set_option maxHeartbeats 4000000 in
theorem con_J7_fill_d0a16 (l : Launch) (N : Nat) (b0 n0 : Nat) (ha_b0 : shA SH b0 = some (.long, n0)) (a1 : Int64) (s0 : jM) : Con l (1) yJ7_fill_d0a16 cJ7_fill_d0a16 5 (Option.none : Option Jvm.ClassFile.FieldType) (eV SH) SH [.ref b0, .long a1] s0 (f_J7_fill_d0a16 N b0 n0 a1 s0) := by
  refine Con_of (ls0 := [some (.ref b0), some (.long a1), none, none, none]) (ini := false) (mc := 0) (ms := 0) (by decide +kernel) rfl (Nat.le_of_ble_eq_true rfl) (fun h => by cases h) (fun _ _ => rfl) ?_
  unfold f_J7_fill_d0a16
  refine J_iconst (v := (0 : Int32)) dJ7_fill_d0a16_0 (by decide) ?_
  refine J_istore_n (i := 3) (ls2 := [some (.ref b0), some (.long a1), none, some (.int (0 : Int32)), none]) dJ7_fill_d0a16_1 rfl rfl (by decide) ?_
  refine J_aload_n (i := 0) dJ7_fill_d0a16_2 rfl rfl ?_
  refine J_alen dJ7_fill_d0a16_3 ha_b0 ?_
  refine J_istoreN (i := 4) (LS := fun x1 => [some (.ref b0), some (.long a1), none, some (.int (0 : Int32)), some (.int x1)]) dJ7_fill_d0a16_4 (fun _ => rfl) (by decide) (fun x1 => ?_)
  refine J_sub (l1 := [some (.ref b0), some (.long a1), none, some (.int (0 : Int32)), some (.int x1)]) ⟨rfl, ⟨rfl, ⟨rfl, ⟨rfl, trivial⟩⟩⟩⟩ ?_
  exact lp_J7_fill_d0a16_6_ok l N b0 n0 ha_b0  a1 x1  N (0 : Int32) s0

def f_X6_pop  (s0 : jM) : Option (Int64 × jM) := jn_ (fun (_ : Unit) => some ((0 : Int64), s0)) fun j1 => if (gI s0 29 5) ≤ 0 then (j1 ()) else (if (gI s0 29 5) ≤ (40 : Int32) then (lt_ (pI s0 29 5 ((gI s0 29 5) - (1 : Int32))) fun s4 => gd (ib (gI s4 29 5) 40) <| some ((gL s4 32 (Int32.toNatClampNeg (gI s4 29 5))), s4)) else (j1 ()))
set_option maxRecDepth 100000 in
set_option maxHeartbeats 4000000 in
theorem con_X6_pop (l : Launch) (s0 : jM) : Con l (1) yX6_pop cX6_pop 1 (Option.some Jvm.ClassFile.FieldType.long) (eLM SH) SH [.ref 29] s0 (f_X6_pop s0) := by
  refine Con_of (ls0 := [some (.ref 29)]) (ini := false) (mc := 0) (ms := 0) (by decide +kernel) rfl (Nat.le_of_ble_eq_true rfl) (fun h => by cases h) (fun _ _ => rfl) ?_
  unfold f_X6_pop
  refine J_join (P := fun j => ∀ (_ : Unit), J l RX6 cX6_pop 1 (Option.some Jvm.ClassFile.FieldType.long) false (rmD (1) 0 0) noCx (eLM SH) SH 0 0 s0 16 [none] [] (j ())) ?_ (fun j1 hj1 => ?_)
  · intro _
    refine J_lconst (v := (0 : Int64)) dX6_pop_16 (by decide) ?_
    exact J_lreturn dX6_pop_17 rfl rfl
  refine J_aload_n (i := 0) dX6_pop_0 rfl rfl ?_
  refine J_getI dX6_pop_1 fl_RX6_125 sh_29_5 ?_
  refine J_if_le (tgt := 16) dX6_pop_4 (by decide) (fun c2 => ?_) (fun c2 => ?_)
  · refine J_sub (l1 := [none]) trivial ?_
    exact hj1 ()
  · refine J_aload_n (i := 0) dX6_pop_7 rfl rfl ?_
    refine J_getI dX6_pop_8 fl_RX6_125 sh_29_5 ?_
    refine J_bipush (v := (40 : Int32)) dX6_pop_11 (by decide) ?_
    refine J_icmp_le (tgt := 18) dX6_pop_13 (by decide) (fun c3 => ?_) (fun c3 => ?_)
    · refine J_aload_n (i := 0) dX6_pop_18 rfl rfl ?_
      refine J_dup dX6_pop_19 rfl ?_
      refine J_getI dX6_pop_20 fl_RX6_125 sh_29_5 ?_
      refine J_iconst (v := (1 : Int32)) dX6_pop_23 (by decide) ?_
      refine J_isub dX6_pop_24 ?_
      refine J_putI dX6_pop_25 fp_RX6_125 (fun h => by first | rfl | cases h) sh_29_5 rfl rfl ?_
      refine J_letM rfl (fun s4 => ?_)
      refine J_aload_n (i := 0) dX6_pop_28 rfl rfl ?_
      refine J_getR dX6_pop_29 fl_RX6_19 sh_29_4 ?_
      refine J_aload_n (i := 0) dX6_pop_32 rfl rfl ?_
      refine J_getI dX6_pop_33 fl_RX6_125 sh_29_5 ?_
      refine J_lald dX6_pop_36 sa_32 ?_
      exact J_lreturn dX6_pop_37 rfl rfl
    · refine J_sub (l1 := [none]) trivial ?_
      exact hj1 ()

def f_X6_push (a1 : Int64) (s0 : jM) : Option jM := if (gI s0 29 5) < 0 then (some s0) else (if (40 : Int32) ≤ (gI s0 29 5) then (some s0) else (gd (ib (gI s0 29 5) 40) <| lt_ (pL s0 32 (Int32.toNatClampNeg (gI s0 29 5)) a1) fun s3 => lt_ (pI s3 29 5 ((gI s3 29 5) + (1 : Int32))) fun s4 => some s4))
set_option maxRecDepth 100000 in
set_option maxHeartbeats 4000000 in
theorem con_X6_push (l : Launch) (a1 : Int64) (s0 : jM) : Con l (1) yX6_push cX6_push 3 (Option.none : Option Jvm.ClassFile.FieldType) (eV SH) SH [.ref 29, .long a1] s0 (f_X6_push a1 s0) := by
  refine Con_of (ls0 := [some (.ref 29), some (.long a1), none]) (ini := false) (mc := 0) (ms := 0) (by decide +kernel) rfl (Nat.le_of_ble_eq_true rfl) (fun h => by cases h) (fun _ _ => rfl) ?_
  unfold f_X6_push
  refine J_aload_n (i := 0) dX6_push_0 rfl rfl ?_
  refine J_getI dX6_push_1 fl_RX6_125 sh_29_5 ?_
  refine J_if_lt (tgt := 36) dX6_push_4 (by decide) (fun c1 => ?_) (fun c1 => ?_)
  · exact J_return dX6_push_36 rfl rfl
  · refine J_aload_n (i := 0) dX6_push_7 rfl rfl ?_
    refine J_getI dX6_push_8 fl_RX6_125 sh_29_5 ?_
    refine J_bipush (v := (40 : Int32)) dX6_push_11 (by decide) ?_
    refine J_icmp_ge (tgt := 36) dX6_push_13 (by decide) (fun c2 => ?_) (fun c2 => ?_)
    · exact J_return dX6_push_36 rfl rfl
    · refine J_aload_n (i := 0) dX6_push_16 rfl rfl ?_
      refine J_getR dX6_push_17 fl_RX6_19 sh_29_4 ?_
      refine J_aload_n (i := 0) dX6_push_20 rfl rfl ?_
      refine J_getI dX6_push_21 fl_RX6_125 sh_29_5 ?_
      refine J_lload_n (i := 1) dX6_push_24 rfl rfl ?_
      refine J_last dX6_push_25 sa_32 ?_
      refine J_letM rfl (fun s3 => ?_)
      refine J_aload_n (i := 0) dX6_push_26 rfl rfl ?_
      refine J_dup dX6_push_27 rfl ?_
      refine J_getI dX6_push_28 fl_RX6_125 sh_29_5 ?_
      refine J_iconst (v := (1 : Int32)) dX6_push_31 (by decide) ?_
      refine J_iadd dX6_push_32 ?_
      refine J_putI dX6_push_33 fp_RX6_125 (fun h => by first | rfl | cases h) sh_29_5 rfl rfl ?_
      refine J_letM rfl (fun s4 => ?_)
      exact J_return dX6_push_36 rfl rfl

def f_X6_work (a0 : Int32) (a1 : Int64) (a2 : Int64) : Option Int64 := if a0 = (38 : Int32) then (jn_ (fun (_ : Unit) => some (0 : Int64)) fun j2 => if a1 = (0 : Int64) then (j2 ()) else (if a2 = (0 : Int64) then (j2 ()) else (some (1 : Int64)))) else if a0 = (42 : Int32) then (some (a1 * a2)) else if a0 = (43 : Int32) then (some (a1 + a2)) else if a0 = (45 : Int32) then (some (a1 - a2)) else if a0 = (60 : Int32) then (if a2 ≤ a1 then (some (0 : Int64)) else (some (1 : Int64))) else if a0 = (61 : Int32) then (if a1 = a2 then (some (1 : Int64)) else (some (0 : Int64))) else if a0 = (62 : Int32) then (if a1 ≤ a2 then (some (0 : Int64)) else (some (1 : Int64))) else if a0 = (124 : Int32) then (jn_ (fun (_ : Unit) => some (1 : Int64)) fun j15 => if a1 = (0 : Int64) then (if a2 = (0 : Int64) then (some (0 : Int64)) else (j15 ())) else (j15 ())) else (if a2 = (0 : Int64) then (some (0 : Int64)) else (gd (decide (¬ a2 = 0)) <| some (a1 / a2)))
set_option maxRecDepth 100000 in
set_option maxHeartbeats 4000000 in
theorem con_X6_work (l : Launch) (a0 : Int32) (a1 : Int64) (a2 : Int64) (s0 : jM) : Con l (1) yX6_work cX6_work 5 (Option.some Jvm.ClassFile.FieldType.long) (eL SH s0) SH [.int a0, .long a1, .long a2] s0 (f_X6_work a0 a1 a2) := by
  refine Con_of (ls0 := [some (.int a0), some (.long a1), none, some (.long a2), none]) (ini := false) (mc := 0) (ms := 0) (by decide +kernel) rfl (Nat.le_of_ble_eq_true rfl) (fun h => by cases h) (fun _ _ => rfl) ?_
  unfold f_X6_work
  refine J_iload_n (i := 0) dX6_work_0 rfl rfl ?_
  refine J_if (fun c1 => ?_) (fun c1 => ?_)
  · refine J_lsw (tgt := 94) (off := 93) dX6_work_1 (by decide) (by rw [c1] <;> rfl) (by decide) ?_
    refine J_join (P := fun j => ∀ (_ : Unit), J l RX6 cX6_work 5 (Option.some Jvm.ClassFile.FieldType.long) false (rmD (1) 0 0) noCx (eL SH s0) SH 0 0 s0 110 [none, none, none, none, none] [] (j ())) ?_ (fun j2 hj2 => ?_)
    · intro _
      refine J_lconst (v := (0 : Int64)) dX6_work_110 (by decide) ?_
      exact J_lreturn dX6_work_111 rfl rfl
    refine J_lload_n (i := 1) dX6_work_94 rfl rfl ?_
    refine J_lconst (v := (0 : Int64)) dX6_work_95 (by decide) ?_
    refine J_lcmp_eq (tgt := 110) dX6_work_96 dX6_work_97 (by decide) (fun c3 => ?_) (fun c3 => ?_)
    · refine J_sub (l1 := [none, none, none, none, none]) trivial ?_
      exact hj2 ()
    · refine J_lload_n (i := 3) dX6_work_100 rfl rfl ?_
      refine J_lconst (v := (0 : Int64)) dX6_work_101 (by decide) ?_
      refine J_lcmp_eq (tgt := 110) dX6_work_102 dX6_work_103 (by decide) (fun c4 => ?_) (fun c4 => ?_)
      · refine J_sub (l1 := [none, none, none, none, none]) trivial ?_
        exact hj2 ()
      · refine J_lconst (v := (1 : Int64)) dX6_work_106 (by decide) ?_
        refine J_goto (tgt := 111) dX6_work_107 (by decide) ?_
        exact J_lreturn dX6_work_111 rfl rfl
  refine J_if (fun c5 => ?_) (fun c5 => ?_)
  · refine J_lsw (tgt := 156) (off := 155) dX6_work_1 (by decide) (by rw [c5] <;> rfl) (by decide) ?_
    refine J_lload_n (i := 1) dX6_work_156 rfl rfl ?_
    refine J_lload_n (i := 3) dX6_work_157 rfl rfl ?_
    refine J_lmul dX6_work_158 ?_
    exact J_lreturn dX6_work_159 rfl rfl
  refine J_if (fun c6 => ?_) (fun c6 => ?_)
  · refine J_lsw (tgt := 148) (off := 147) dX6_work_1 (by decide) (by rw [c6] <;> rfl) (by decide) ?_
    refine J_lload_n (i := 1) dX6_work_148 rfl rfl ?_
    refine J_lload_n (i := 3) dX6_work_149 rfl rfl ?_
    refine J_ladd dX6_work_150 ?_
    exact J_lreturn dX6_work_151 rfl rfl
  refine J_if (fun c7 => ?_) (fun c7 => ?_)
  · refine J_lsw (tgt := 152) (off := 151) dX6_work_1 (by decide) (by rw [c7] <;> rfl) (by decide) ?_
    refine J_lload_n (i := 1) dX6_work_152 rfl rfl ?_
    refine J_lload_n (i := 3) dX6_work_153 rfl rfl ?_
    refine J_lsub dX6_work_154 ?_
    exact J_lreturn dX6_work_155 rfl rfl
  refine J_if (fun c8 => ?_) (fun c8 => ?_)
  · refine J_lsw (tgt := 112) (off := 111) dX6_work_1 (by decide) (by rw [c8] <;> rfl) (by decide) ?_
    refine J_lload_n (i := 1) dX6_work_112 rfl rfl ?_
    refine J_lload_n (i := 3) dX6_work_113 rfl rfl ?_
    refine J_lcmp_ge (tgt := 122) dX6_work_114 dX6_work_115 (by decide) (fun c9 => ?_) (fun c9 => ?_)
    · refine J_lconst (v := (0 : Int64)) dX6_work_122 (by decide) ?_
      exact J_lreturn dX6_work_123 rfl rfl
    · refine J_lconst (v := (1 : Int64)) dX6_work_118 (by decide) ?_
      refine J_goto (tgt := 123) dX6_work_119 (by decide) ?_
      exact J_lreturn dX6_work_123 rfl rfl
  refine J_if (fun c10 => ?_) (fun c10 => ?_)
  · refine J_lsw (tgt := 136) (off := 135) dX6_work_1 (by decide) (by rw [c10] <;> rfl) (by decide) ?_
    refine J_lload_n (i := 1) dX6_work_136 rfl rfl ?_
    refine J_lload_n (i := 3) dX6_work_137 rfl rfl ?_
    refine J_lcmp_ne (tgt := 146) dX6_work_138 dX6_work_139 (by decide) (fun c11 => ?_) (fun c11 => ?_)
    · refine J_lconst (v := (0 : Int64)) dX6_work_146 (by decide) ?_
      exact J_lreturn dX6_work_147 rfl rfl
    · refine J_lconst (v := (1 : Int64)) dX6_work_142 (by decide) ?_
      refine J_goto (tgt := 147) dX6_work_143 (by decide) ?_
      exact J_lreturn dX6_work_147 rfl rfl
  refine J_if (fun c12 => ?_) (fun c12 => ?_)
  · refine J_lsw (tgt := 124) (off := 123) dX6_work_1 (by decide) (by rw [c12] <;> rfl) (by decide) ?_
    refine J_lload_n (i := 1) dX6_work_124 rfl rfl ?_
    refine J_lload_n (i := 3) dX6_work_125 rfl rfl ?_
    refine J_lcmp_le (tgt := 134) dX6_work_126 dX6_work_127 (by decide) (fun c13 => ?_) (fun c13 => ?_)
    · refine J_lconst (v := (0 : Int64)) dX6_work_134 (by decide) ?_
      exact J_lreturn dX6_work_135 rfl rfl
    · refine J_lconst (v := (1 : Int64)) dX6_work_130 (by decide) ?_
      refine J_goto (tgt := 135) dX6_work_131 (by decide) ?_
      exact J_lreturn dX6_work_135 rfl rfl
  refine J_if (fun c14 => ?_) (fun c14 => ?_)
  · refine J_lsw (tgt := 76) (off := 75) dX6_work_1 (by decide) (by rw [c14] <;> rfl) (by decide) ?_
    refine J_join (P := fun j => ∀ (_ : Unit), J l RX6 cX6_work 5 (Option.some Jvm.ClassFile.FieldType.long) false (rmD (1) 0 0) noCx (eL SH s0) SH 0 0 s0 88 [none, none, none, none, none] [] (j ())) ?_ (fun j15 hj15 => ?_)
    · intro _
      refine J_lconst (v := (1 : Int64)) dX6_work_88 (by decide) ?_
      refine J_goto (tgt := 93) dX6_work_89 (by decide) ?_
      exact J_lreturn dX6_work_93 rfl rfl
    refine J_lload_n (i := 1) dX6_work_76 rfl rfl ?_
    refine J_lconst (v := (0 : Int64)) dX6_work_77 (by decide) ?_
    refine J_lcmp_ne (tgt := 88) dX6_work_78 dX6_work_79 (by decide) (fun c16 => ?_) (fun c16 => ?_)
    · refine J_sub (l1 := [none, none, none, none, none]) trivial ?_
      exact hj15 ()
    · refine J_lload_n (i := 3) dX6_work_82 rfl rfl ?_
      refine J_lconst (v := (0 : Int64)) dX6_work_83 (by decide) ?_
      refine J_lcmp_eq (tgt := 92) dX6_work_84 dX6_work_85 (by decide) (fun c17 => ?_) (fun c17 => ?_)
      · refine J_lconst (v := (0 : Int64)) dX6_work_92 (by decide) ?_
        exact J_lreturn dX6_work_93 rfl rfl
      · refine J_sub (l1 := [none, none, none, none, none]) trivial ?_
        exact hj15 ()
  refine J_lsw (tgt := 160) (off := 159) dX6_work_1 (by decide) (by have c1 : ¬ (a0).toInt = 38 := toI_ne c1; have c5 : ¬ (a0).toInt = 42 := toI_ne c5; have c6 : ¬ (a0).toInt = 43 := toI_ne c6; have c7 : ¬ (a0).toInt = 45 := toI_ne c7; have c8 : ¬ (a0).toInt = 60 := toI_ne c8; have c10 : ¬ (a0).toInt = 61 := toI_ne c10; have c12 : ¬ (a0).toInt = 62 := toI_ne c12; have c14 : ¬ (a0).toInt = 124 := toI_ne c14; simp [Op.lookupswitch.offset] at *; first | done | omega) (by decide) ?_
  refine J_lload_n (i := 3) dX6_work_160 rfl rfl ?_
  refine J_lconst (v := (0 : Int64)) dX6_work_161 (by decide) ?_
  refine J_lcmp_ne (tgt := 170) dX6_work_162 dX6_work_163 (by decide) (fun c18 => ?_) (fun c18 => ?_)
  · refine J_lload_n (i := 1) dX6_work_170 rfl rfl ?_
    refine J_lload_n (i := 3) dX6_work_171 rfl rfl ?_
    refine J_ldiv dX6_work_172 ?_
    exact J_lreturn dX6_work_173 rfl rfl
  · refine J_lconst (v := (0 : Int64)) dX6_work_166 (by decide) ?_
    refine J_goto (tgt := 173) dX6_work_167 (by decide) ?_
    exact J_lreturn dX6_work_173 rfl rfl
