/-! the digest -/
def hsm (v : Nat → Nat) (a : Int64) (f : Nat) : Nat → Int64
  | 0 => a
  | n + 1 => 31 * hsm v a f n + Int32.toInt64 (nI (v (f + n)))
theorem su_loop {v : Nat → Nat} {N f n : Nat} {a : Int64} {s : jM} {k2 : Int64 → Option Int64} (hR : RM s 54 0 v) (hfn : f + n ≤ 101) : ∀ (m i q : Nat), n - i = m → i ≤ n → m < q → lp_X8_sums_6 N s (nI f) (nI n) k2 q (hsm v a f i) (nI i) = k2 (hsm v a f n) := by
  intro m
  induction m with
  | zero =>
    intro i q hm hi hq
    obtain ⟨q, rfl⟩ : ∃ r, q = r + 1 := ⟨q - 1, by omega⟩
    rw [lp_X8_sums_6, if_pos (by rw [nI_leI (by omega) (by omega)]; omega), show i = n from by omega]
  | succ m ih =>
    intro i q hm hi hq
    obtain ⟨q, rfl⟩ : ∃ r, q = r + 1 := ⟨q - 1, by omega⟩
    rw [lp_X8_sums_6, if_neg (by rw [nI_leI (by omega) (by omega)]; omega)]
    simp only [lt_]
    rw [nI_add, ib_nI (by omega), gd_dec (by omega), nI_clamp (by omega), hR.at (by omega), nI_1]
    exact ih (i + 1) q (by omega) (by omega) (by omega)
theorem sums_ok {v : Nat → Nat} {N f n : Nat} {a : Int64} {s : jM} (hN : 1000 < N) (hR : RM s 54 0 v) (hfn : f + n ≤ 101) : f_X8_sums N a (nI f) (nI n) s = some (hsm v a f n) := by
  simp only [f_X8_sums, jn_]
  exact su_loop (N := N) hR hfn n 0 N (by omega) (by omega) (by omega)
theorem dw_loop {v : Nat → Nat} {N : Nat} {a : Int64} {s : jM} {k5 : Int64 → Option Int64} (h : OkV v) (hS : SC s 1 v) : ∀ (m i q : Nat), v 99 - i = m → i ≤ v 99 → m < q → lp_X5_addedTo_39 N s k5 q (hsm v a 0 (4 * i)) (nI i) = k5 (hsm v a 0 (4 * v 99)) := by
  have h8 := h.1
  intro m
  induction m with
  | zero =>
    intro i q hm hi hq
    obtain ⟨q, rfl⟩ : ∃ r, q = r + 1 := ⟨q - 1, by omega⟩
    rw [lp_X5_addedTo_39, hS.1, if_pos (by rw [nI_leI (by omega) (by omega)]; omega), show i = v 99 from by omega]
  | succ m ih =>
    intro i q hm hi hq
    obtain ⟨q, rfl⟩ : ∃ r, q = r + 1 := ⟨q - 1, by omega⟩
    obtain ⟨c1, c2, c3, c4⟩ := hS.2.2.2.2.2.1 i (by omega)
    have c1' : gI s 2 i = nI (v (4 * i)) := c1
    have c2' : gI s 3 i = nI (v (4 * i + 1)) := c2
    have c3' : gI s 4 i = nI (v (4 * i + 2)) := c3
    have c4' : gI s 5 i = nI (v (4 * i + 3)) := c4
    have e := ih (i + 1) q (by omega) (by omega) (by omega)
    rw [show 4 * (i + 1) = 4 * i + 1 + 1 + 1 + 1 from by omega] at e
    simp only [hsm, Nat.zero_add] at e
    rw [lp_X5_addedTo_39, hS.1, if_neg (by rw [nI_leI (by omega) (by omega)]; omega), if_neg (by rw [c_le (by omega) (by omega)]; omega), ib_nI (by omega)]
    simp only [lt_]
    simp only [gd_dec (show i < 8 by omega)]
    rw [nI_clamp (by omega), c1', c2', c3', c4', nI_1]
    exact e
theorem dt_loop {v : Nat → Nat} {N : Nat} {a : Int64} {s : jM} {k9 : Int64 → Option Int64} (h : OkV v) (hS : SC s 1 v) : ∀ (m i q : Nat), v 34 - i = m → i ≤ v 34 → m < q → lp_X5_addedTo_148 N s k9 q (hsm v a 35 i) (nI i) = k9 (hsm v a 35 (v 34)) := by
  have h40 := h.2.2.1
  intro m
  induction m with
  | zero =>
    intro i q hm hi hq
    obtain ⟨q, rfl⟩ : ∃ r, q = r + 1 := ⟨q - 1, by omega⟩
    rw [lp_X5_addedTo_148, hS.2.2.2.1, if_pos (by rw [nI_leI (by omega) (by omega)]; omega), show i = v 34 from by omega]
  | succ m ih =>
    intro i q hm hi hq
    obtain ⟨q, rfl⟩ : ∃ r, q = r + 1 := ⟨q - 1, by omega⟩
    have c1 : gI s 6 i = nI (v (35 + i)) := hS.2.2.2.2.2.2.1 i (by omega)
    have hlt := h.2.2.2.2.2.2.1 i (by omega)
    have e := ih (i + 1) q (by omega) (by omega) (by omega)
    simp only [hsm] at e
    rw [lp_X5_addedTo_148, hS.2.2.2.1, if_neg (by rw [nI_leI (by omega) (by omega)]; omega), if_neg (by rw [c_le (by omega) (by omega)]; omega), ib_nI (by omega), gd_dec (by omega)]
    simp only [lt_]
    rw [nI_clamp (by omega), gC_gI, c1, vch (by omega), nI_1]
    exact e
theorem ds_loop {v : Nat → Nat} {N : Nat} {a : Int64} {s : jM} {k11 : Int64 → Option Int64} (h : OkV v) (hS : SC s 1 v) : ∀ (m i q : Nat), v 100 - i = m → i ≤ v 100 → m < q → lp_X5_addedTo_188 N s k11 q (hsm v a 75 (3 * i)) (nI i) = k11 (hsm v a 75 (3 * v 100)) := by
  have h8 := h.2.1
  intro m
  induction m with
  | zero =>
    intro i q hm hi hq
    obtain ⟨q, rfl⟩ : ∃ r, q = r + 1 := ⟨q - 1, by omega⟩
    rw [lp_X5_addedTo_188, hS.2.2.2.2.1, if_pos (by rw [nI_leI (by omega) (by omega)]; omega), show i = v 100 from by omega]
  | succ m ih =>
    intro i q hm hi hq
    obtain ⟨q, rfl⟩ : ∃ r, q = r + 1 := ⟨q - 1, by omega⟩
    obtain ⟨c1, c2, c3⟩ := hS.2.2.2.2.2.2.2 i (by omega)
    have c1' : gI s 7 i = nI (v (75 + 3 * i)) := c1
    have c2' : gI s 8 i = nI (v (75 + 3 * i + 1)) := c2
    have c3' : gI s 9 i = nI (v (75 + 3 * i + 2)) := c3
    have e := ih (i + 1) q (by omega) (by omega) (by omega)
    rw [show 3 * (i + 1) = 3 * i + 1 + 1 + 1 from by omega] at e
    simp only [hsm] at e
    rw [show 75 + (3 * i + 1) = 75 + 3 * i + 1 from by omega, show 75 + (3 * i + 1 + 1) = 75 + 3 * i + 2 from by omega] at e
    rw [lp_X5_addedTo_188, hS.2.2.2.2.1, if_neg (by rw [nI_leI (by omega) (by omega)]; omega), if_neg (by rw [c_le (by omega) (by omega)]; omega), ib_nI (by omega)]
    simp only [lt_]
    simp only [gd_dec (show i < 8 by omega)]
    rw [nI_clamp (by omega), c1', c2', c3', nI_1]
    exact e
theorem OP_digest {N : Nat} {s : jM} (hN : 1000 < N) (h : INV s) : ∃ r, f_X7_digest N s = some r ∧ f_X8_digest N s = some r := by
  obtain ⟨v, h⟩ := h
  have hO := h.1
  have h8 := hO.1
  have h40 := hO.2.2.1
  have hsd := hO.2.1
  have hS := h.2.1.1
  have hR := h.2.2.1
  obtain ⟨q1, q2⟩ := h.2.2.2.2.2.1
  generalize hH : ((31 : Int64) * (((31 : Int64) * ((19933 : Int64) + (Int32.toInt64 (nI (v 99))))) + (Int32.toInt64 (nI (v 34))))) + (Int32.toInt64 (nI (v 100))) = H
  refine ⟨((31 : Int64) * (((31 : Int64) * hsm v (hsm v (hsm v (hsm v H 0 (4 * v 99)) 32 2) 35 (v 34)) 75 (3 * v 100)) + (gL s 53 4))) + (gL s 53 5), ?_, ?_⟩
  · have A : f_X5_addedTo N (643 : Int64) s = some (hsm v (hsm v (hsm v (hsm v H 0 (4 * v 99)) 32 2) 35 (v 34)) 75 (3 * v 100)) := by
      simp only [f_X5_addedTo, jn_, lt_]
      rw [hS.1, hS.2.1, hS.2.2.1, hS.2.2.2.1, hS.2.2.2.2.1, show (31 : Int64) * 643 = 19933 from by decide, hH]
      have a1 := fun k5 => dw_loop (N := N) (a := H) (s := s) (k5 := k5) hO hS (v 99) 0 N (by omega) (by omega) (by omega)
      have a1' : ∀ k5, lp_X5_addedTo_39 N s k5 N H (0 : Int32) = k5 (hsm v H 0 (4 * v 99)) := a1
      rw [a1']
      have a2 : ∀ b k9, lp_X5_addedTo_148 N s k9 N b (0 : Int32) = k9 (hsm v b 35 (v 34)) := fun b k9 => dt_loop (N := N) (a := b) (s := s) (k9 := k9) hO hS (v 34) 0 N (by omega) (by omega) (by omega)
      have a3 : ∀ b k11, lp_X5_addedTo_188 N s k11 N b (0 : Int32) = k11 (hsm v b 75 (3 * v 100)) := fun b k11 => ds_loop (N := N) (a := b) (s := s) (k11 := k11) hO hS (v 100) 0 N (by omega) (by omega) (by omega)
      rw [a2, a3]
      rfl
    simp only [f_X7_digest, lt_]
    rw [A, Option.bind_some, q1, q2]
  · have i34 : ib (34 : Int32) 101 = true := by decide
    have c34 : Int32.toNatClampNeg (34 : Int32) = 34 := rfl
    have e34 : gI s 54 34 = nI (v 34) := hR.at (by omega)
    simp only [f_X8_digest, lt_]
    rw [walkers_ok hR, Option.bind_some, i34, gd_true, said_ok hR, Option.bind_some, c34, e34, hH, Option.bind_some, show (4 : Int32) * nI (v 99) = nI (4 * v 99) from pk_mul 4 _, show f_X8_sums N H (0 : Int32) (nI (4 * v 99)) s = some (hsm v H 0 (4 * v 99)) from sums_ok (f := 0) hN hR (by omega), Option.bind_some,
      show f_X8_sums N (hsm v H 0 (4 * v 99)) (32 : Int32) (2 : Int32) s = some (hsm v (hsm v H 0 (4 * v 99)) 32 2) from sums_ok (f := 32) (n := 2) hN hR (by omega), Option.bind_some, gd_true,
      show f_X8_sums N (hsm v (hsm v H 0 (4 * v 99)) 32 2) (35 : Int32) (nI (v 34)) s = some (hsm v (hsm v (hsm v H 0 (4 * v 99)) 32 2) 35 (v 34)) from sums_ok (f := 35) hN hR (by omega), Option.bind_some, Option.bind_some, show (3 : Int32) * nI (v 100) = nI (3 * v 100) from pk_mul 3 _,
      show f_X8_sums N (hsm v (hsm v (hsm v H 0 (4 * v 99)) 32 2) 35 (v 34)) (75 : Int32) (nI (3 * v 100)) s = some (hsm v (hsm v (hsm v (hsm v H 0 (4 * v 99)) 32 2) 35 (v 34)) 75 (3 * v 100)) from sums_ok (f := 75) hN hR (by omega), Option.bind_some]
