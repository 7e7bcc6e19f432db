/-! the first state -/
def vi (i : Nat) : Nat := if i = 33 then 3 else 0
def sR0 : jM := (zM (zM (zM (zM (zM (pI (zM (zM (zM (pI (zM (pI (pI (pI (zM (zM (zM (zM (zM (pI (zM (zM (zM (pI (zM (pI (pI (pI (zM (zM (zM (zM (zM (pI (zM (zM (zM (pI (zM (pI (pI (pI (zM (zM (zM (zM (zM (zM z0 0) 1) 2) 3) 4) 5) 1 4 (0 : Int32)) 1 5 (0 : Int32)) 1 6 (3 : Int32)) 6) 1 8 (0 : Int32)) 7) 8) 9) 1 12 (0 : Int32)) 10) 11) 12) 13) 14) 10 4 (0 : Int32)) 10 5 (0 : Int32)) 10 6 (3 : Int32)) 15) 10 8 (0 : Int32)) 16) 17) 18) 10 12 (0 : Int32)) 19) 20) 21) 22) 23) 19 4 (0 : Int32)) 19 5 (0 : Int32)) 19 6 (3 : Int32)) 24) 19 8 (0 : Int32)) 25) 26) 27) 19 12 (0 : Int32)) 28) 29) 30) 31) 32)
def sF7 (s : jM) : jM := (zM (zM (pL (pL (zM (zM (pI (zM (zM (zM (zM (zM (zM (zM (zM (pI (zM (zM (zM (zM (pI (zM (zM (zM (zM s 33) 34) 35) 36) 33 5 (1 : Int32)) 37) 38) 39) 40) 37 8 (0 : Int32)) 41) 42) 43) 44) 45) 46) 47) 48) 41 14 (0 : Int32)) 49) 50) 50 0 (0 : Int64)) 50 1 (1 : Int64)) 51) 52)
def sF8 (s : jM) : jM := (pI (zM (zM (zM (zM (zM (zM (zM (zM (zM (zM (zM (zM (zM (pL (zM (zM (zM (zM (zM s 53) 54) 55) 56) 57) 53 5 (1 : Int64)) 58) 59) 60) 61) 62) 63) 64) 65) 66) 67) 68) 69) 70) 54 33 (3 : Int32))
theorem init7 (N : Nat) : fc_X7_init_1 N (zM z0 0) = Option.bind (Option.bind (f_X6_read N sR0) fun s4 => some s4) fun s9 => some (sF7 s9) := by
  simp only [fc_X7_init_1, fc_X5_init_2, fc_X5_init_3, fc_X5_init_4, fc_X6_init_5, fc_X4_init_6, fc_X1_init_7, fc_X0_init_8, fc_X3_init_9, fc_X2_init_10, lt_, Option.bind_some, sR0, sF7]
theorem init8 (s : jM) : fc_X8_init_11 (zM s 53) = some (sF8 s) := by
  simp only [fc_X8_init_11, lt_, sF8]
  rw [show ib (33 : Int32) 101 = true from by decide, gd_true]
  rfl
theorem gI_zM {s : jM} {n c i : Nat} : gI (zM s n) c i = if c = n then 0 else gI s c i := by
  unfold gI zM
  by_cases h : c = n
  · simp [h]
  · simp [h]
theorem gL_zM {s : jM} {n c i : Nat} : gL (zM s n) c i = if c = n then 0 else gL s c i := by
  unfold gL zM
  by_cases h : c = n
  · simp [h]
  · simp [h]
theorem gI_z0 {c i : Nat} : gI z0 c i = 0 := rfl
theorem gL_z0 {c i : Nat} : gL z0 c i = 0 := rfl
theorem gL_pL_a {s : jM} {c i c' i' : Nat} {x : Int64} : gL (pL s c i x) c' i' = if c' = c then (if i' = i then x else gL s c' i') else gL s c' i' := by
  by_cases h : c' = c
  · subst h; rw [if_pos rfl, gL_pL_cell]
  · rw [if_neg h, gL_pL_ne h]
theorem OkV_vi : OkV vi := by
  refine ⟨by decide, by decide, by decide, by decide, by decide, fun i hi => ?_, fun i hi => ?_, fun i hi => ?_⟩
  · exact absurd hi (Nat.not_lt_zero i)
  · exact absurd hi (Nat.not_lt_zero i)
  · exact absurd hi (Nat.not_lt_zero i)
theorem sR0_sc : SC sR0 1 vi := by
  unfold sR0
  refine ⟨?_, ?_, ?_, ?_, ?_, fun i hi => absurd hi (Nat.not_lt_zero i), fun i hi => absurd hi (Nat.not_lt_zero i), fun i hi => absurd hi (Nat.not_lt_zero i)⟩
  · simp [gI_zM, gI_pI_a, gI_z0]; rfl
  · simp [gI_zM, gI_pI_a, gI_z0]; rfl
  · simp [gI_zM, gI_pI_a, gI_z0]; rfl
  · simp [gI_zM, gI_pI_a, gI_z0]; rfl
  · simp [gI_zM, gI_pI_a, gI_z0]; rfl
theorem sR0_o : ∀ i, gI sR0 0 i = 0 ∧ gI sR0 28 i = 0 := by
  intro i
  unfold sR0
  constructor <;> simp [gI_zM, gI_pI_a, gI_z0]
theorem first_ok {N : Nat} (hN : 1000 < N) : ∃ s1 s2, fc_X7_init_1 N (zM z0 0) = some s1 ∧ fc_X8_init_11 (zM s1 53) = some s2 ∧ INV s2 := by
  obtain ⟨r, r1, r2, r3⟩ := read_ok (N := N) (by omega) (VT_of OkV_vi sR0_sc)
  refine ⟨sF7 r, sF8 (sF7 r), ?_, init8 _, vi, ?_⟩
  · rw [init7, r1, Option.bind_some, Option.bind_some]
  · have keep : ∀ c i, c ≤ 32 → gI (sF8 (sF7 r)) c i = gI r c i := fun c i hc => by
      have ne : ∀ k, 32 < k → c ≠ k := fun k hk => by omega
      unfold sF8 sF7
      simp only [gI_zM, gI_pI_a, gI_pL]
      simp only [ne 33 (by decide), ne 34 (by decide), ne 35 (by decide), ne 36 (by decide), ne 37 (by decide), ne 38 (by decide), ne 39 (by decide), ne 40 (by decide), ne 41 (by decide), ne 42 (by decide), ne 43 (by decide), ne 44 (by decide), ne 45 (by decide), ne 46 (by decide), ne 47 (by decide), ne 48 (by decide), ne 49 (by decide), ne 50 (by decide), ne 51 (by decide), ne 52 (by decide), ne 53 (by decide), ne 54 (by decide), ne 55 (by decide), ne 56 (by decide), ne 57 (by decide), ne 58 (by decide), ne 59 (by decide), ne 60 (by decide), ne 61 (by decide), ne 62 (by decide), ne 63 (by decide), ne 64 (by decide), ne 65 (by decide), ne 66 (by decide), ne 67 (by decide), ne 68 (by decide), ne 69 (by decide), ne 70 (by decide), if_false]
    have z5 : ∀ c i, (c = 56 ∨ c = 57 ∨ c = 44 ∨ c = 45 ∨ c = 47) → gI (sF8 (sF7 r)) c i = 0 := fun c i hc => by
      unfold sF8 sF7
      rcases hc with rfl | rfl | rfl | rfl | rfl <;> simp [gI_zM, gI_pI_a, gI_pL]
    have z54 : ∀ i, gI (sF8 (sF7 r)) 54 i = if i = 33 then 3 else 0 := fun i => by
      unfold sF8 sF7
      simp [gI_zM, gI_pI_a, gI_pL]
    have hS : SC (sF8 (sF7 r)) 1 vi := (sR0_sc.frl r2 (fun j hj => by simp; omega)).fr (fun j hj i => keep _ _ (by omega))
    have h0 : ∀ i, gI (sF8 (sF7 r)) 0 i = 0 := fun i => by rw [keep _ _ (by decide), fr_gI r2 (by decide)]; exact (sR0_o i).1
    have h28 : ∀ i, gI (sF8 (sF7 r)) 28 i = 0 := fun i => by rw [keep _ _ (by decide), fr_gI r2 (by decide)]; exact (sR0_o i).2
    refine ⟨OkV_vi, ⟨hS, r3.fr (fun i _ => keep _ _ (by decide)) (fun i => keep _ _ (by decide)) (fun i => keep _ _ (by decide)), fun z => ?_⟩, fun i hi => ?_, ⟨⟨by rw [h28, z5 _ _ (by omega)], Or.inl (h28 _)⟩, ⟨by rw [h28, z5 _ _ (by omega)], Or.inl (h28 _)⟩⟩, ⟨by rw [h0, z5 _ _ (by omega)], by rw [h0, z5 _ _ (by omega)], by rw [h0, z5 _ _ (by omega)]⟩, ⟨?_, ?_⟩, fun z => ?_, fun z => ?_, ⟨z5 _ _ (by omega), z5 _ _ (by omega), z5 _ _ (by omega)⟩⟩
    · have : gI (sF8 (sF7 r)) 33 5 = 1 := by
        unfold sF8 sF7
        simp [gI_zM, gI_pI_a, gI_pL]
      rw [this] at z
      exact absurd z (by decide)
    · rw [Nat.zero_add, z54]
      unfold vi
      by_cases h33 : i = 33
      · rw [if_pos h33, if_pos h33]; rfl
      · rw [if_neg h33, if_neg h33]; rfl
    · unfold sF8 sF7
      simp [gL_zM, gL_pI, gL_pL_a]
    · unfold sF8 sF7
      simp [gL_zM, gL_pI, gL_pL_a]
    · have : gI (sF8 (sF7 r)) 37 8 = 0 := by
        unfold sF8 sF7
        simp [gI_zM, gI_pI_a, gI_pL]
      exact (z this).elim
    · have : gI (sF8 (sF7 r)) 41 14 = 0 := by
        unfold sF8 sF7
        simp [gI_zM, gI_pI_a, gI_pL]
      exact (z this).elim
