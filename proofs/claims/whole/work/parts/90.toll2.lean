/-! toll, asked of both -/
theorem OP_toll {N : Nat} {a b : Int32} {s : jM} (hN : 2 ^ 40 < N) (h : INV s) : OPI (f_X7_toll N a b s) (f_X8_toll N a b) := by
  obtain ⟨v, h⟩ := h
  have hf := ful_lt h.1
  have ea : f_X8_in (Int32.toInt64 a) (0 : Int64) (20 : Int64) = f_X7_isWithin a (0 : Int32) (20 : Int32) := in_eq a 0 20
  have eb : f_X8_in (Int32.toInt64 b) (0 : Int64) (8 : Int64) = f_X7_isWithin b (0 : Int32) (8 : Int32) := in_eq b 0 8
  have wa : (f_X7_isWithin a (0 : Int32) (20 : Int32) = some 0) ∨ ∃ n, 0 ≤ n ∧ n ≤ 20 ∧ a = nI n ∧ f_X7_isWithin a (0 : Int32) (20 : Int32) = some 1 := within_ok a (lo := 0) (hi := 20) (by omega) (by omega)
  have wb : (f_X7_isWithin b (0 : Int32) (8 : Int32) = some 0) ∨ ∃ n, 0 ≤ n ∧ n ≤ 8 ∧ b = nI n ∧ f_X7_isWithin b (0 : Int32) (8 : Int32) = some 1 := within_ok b (lo := 0) (hi := 8) (by omega) (by omega)
  rcases wa with xa | ⟨e, _, he, rfl, xa⟩
  · refine op_bad h ?_ (fun t hR => ?_)
    · simp only [f_X7_toll, jn_]; rw [xa, Option.bind_some, if_pos rfl]; rfl
    · simp only [f_X8_toll, jn_]; rw [ea, xa, Option.bind_some, if_pos rfl]; rfl
  · rcases wb with xb | ⟨n, _, hn, rfl, xb⟩
    · refine op_bad h ?_ (fun t hR => ?_)
      · simp only [f_X7_toll, jn_]; rw [xa, Option.bind_some, if_neg (by decide), xb, Option.bind_some, if_pos rfl]; rfl
      · simp only [f_X8_toll, jn_]; rw [ea, xa, Option.bind_some, if_neg (by decide), eb, xb, Option.bind_some, if_pos rfl]; rfl
    · obtain ⟨t, _, t1, _, t2, _, t3, _⟩ := cross_ok (N := N) (by omega) h
      cases hg : TT v (ful v) with
      | none =>
        have hh : hasR v = false := by unfold hasR; rw [hg]; rfl
        obtain ⟨p1, p2, p3, p4, p5⟩ := t2.1 hg
        have hR1 : RM (pI t 0 13 (gI t 0 13 + 1)) 54 0 v := t3.2.2.1.o (by decide)
        obtain ⟨u, u1, u2, u3⟩ := layRow_ok (N := N) (by omega) h.1 hR1
        refine ⟨-3, pI t 0 13 (gI t 0 13 + 1), pI u 57 1 (gI u 57 1 + 1), ?_, ?_, v, ?_⟩
        · simp only [f_X7_toll, jn_]
          rw [xa, Option.bind_some, if_neg (by decide), xb, Option.bind_some, if_neg (by decide), t1, Option.bind_some, p1, if_pos rfl]
          rfl
        · simp only [f_X8_toll, jn_]
          rw [ea, xa, Option.bind_some, if_neg (by decide), eb, xb, Option.bind_some, if_neg (by decide), u1, Option.bind_some, hh]
          rfl
        · have fu : FrL LG t (pI u 57 1 (gI u 57 1 + 1)) := fr_pI (fr_tr (fr_mono (fr_pI FrL.rf (show 0 ∈ [0] by decide)) (by decide)) (fr_mono u2.1 (by decide))) (by decide)
          have g0 : ∀ i, gI (pI u 57 1 (gI u 57 1 + 1)) 0 i = gI (pI t 0 13 (gI t 0 13 + 1)) 0 i := fun i => by rw [gI_pI_ne (by decide)]; exact fr_gI u2.1 (by decide)
          have g57 : ∀ i, gI u 57 i = gI t 57 i := fun i => (fr_gI u2.1 (by decide)).trans (gI_pI_ne (by decide))
          obtain ⟨r1, r2, r3⟩ := t3.2.2.2.2.1
          obtain ⟨q1, q2⟩ := t3.2.2.2.2.2.1
          refine t3.gen fu ⟨?_, ?_, ?_⟩ ⟨?_, ?_⟩
          · rw [g0, gI_pI_cell, if_neg (by decide), gI_pI_cell, if_neg (by decide), g57]; exact r1
          · rw [g0, gI_pI_eq, gI_pI_eq, g57, r2]
          · rw [g0, gI_pI_cell, if_neg (by decide), gI_pI_cell, if_neg (by decide), g57]; exact r3
          · rw [gL_pI, gL_pI, fr_gL u2.1 (by decide), u2.2.2 4 (by decide)]; exact q1
          · rw [gL_pI, gL_pI, fr_gL u2.1 (by decide), u2.2.2 5 (by decide)]; exact q2
      | some g =>
        have hh : hasR v = true := by unfold hasR; rw [hg]; rfl
        obtain ⟨p1, p2, p3, p4, c, c1, c2, c3, c4⟩ := t2.2 g hg
        obtain ⟨x, x1, x2, x3⟩ := spread_ok (N := N) (e := e) (c := c) (s := t) (by omega) (by omega) (by omega)
        have hS := sm_le (e := e) (c := c) (by omega) (by omega) (n + 1) (by omega)
        have h20 : 0 < 20 ^ c := Nat.pow_pos (by omega)
        have h20b : 20 ^ c ≤ 20 ^ 8 := Nat.pow_le_pow_right (by omega) c2
        generalize hX : lN (sm e c (n + 1) / Nat.gcd (sm e c (n + 1)) (20 ^ c)) = X
        generalize hY : lN (20 ^ c / Nat.gcd (sm e c (n + 1)) (20 ^ c)) = Y
        have fx : FrL [50, 51] t (pL (pL x 50 0 X) 50 1 Y) := fr_pL (fr_pL (fr_mono x2 (by decide)) (by decide)) (by decide)
        have hR1 : RM (pL (pL x 50 0 X) 50 1 Y) 54 0 v := t3.2.2.1.fr (fun i => fr_gI fx (by decide))
        obtain ⟨u, u1, u2, u3⟩ := layRow_ok (N := N) (by omega) h.1 hR1
        obtain ⟨d, d1, d2, d3, d4⟩ := u3.2 g hg
        have hcd := CNT_un c1 d1
        subst hcd
        refine ⟨1, pL (pL x 50 0 X) 50 1 Y, pL (pL u 53 4 X) 53 5 Y, ?_, ?_, v, ?_⟩
        · simp only [f_X7_toll, jn_, lt_]
          rw [xa, Option.bind_some, if_neg (by decide), xb, Option.bind_some, if_neg (by decide), t1, Option.bind_some, p1, if_neg (by decide), c3, x1, Option.bind_some]
          have := ts_loop (N := N) (e := e) (c := c) (n := n) (r9 := (lN (20 ^ c), x)) (k12 := fun y11 => Option.bind (f_X2_become N y11 (lN (20 ^ c)) x) fun r13 => some ((1 : Int32), r13)) (by omega) x3 (n + 1) 0 N (by omega) (by omega) (by omega)
          refine Eq.trans this ?_
          rw [become_ok (by omega) (by omega) h20 (by omega), hX, hY]
          rfl
        · simp only [f_X8_toll, jn_]
          rw [ea, xa, Option.bind_some, if_neg (by decide), eb, xb, Option.bind_some, if_neg (by decide), u1, Option.bind_some, hh]
          simp only [if_true]
          rw [if_neg (by decide)]
          have := t5_loop (N := N) (e := e) (c := c) (n := n) (r7 := ((1 : Int32), u)) (k11 := fun y9 y10 => Option.bind (f_X8_tells N y9 y10 u) fun r12 => some (r12.1, r12.2)) (by omega) (by omega) (by omega) (by omega) d3 (c + 1) 0 N (by omega) (by omega) (by omega)
          refine Eq.trans this ?_
          rw [rsm_eq (by omega) (by omega) (by omega), tells_ok hN (by omega) h20 (by omega), hX, hY]
          rfl
        · have fu : FrL LG t (pL (pL u 53 4 X) 53 5 Y) := fr_pL (fr_pL (fr_tr (fr_mono fx (by decide)) (fr_mono u2.1 (by decide))) (by decide)) (by decide)
          obtain ⟨r1, r2, r3⟩ := t3.2.2.2.2.1
          have g0 : ∀ i, gI (pL (pL u 53 4 X) 53 5 Y) 0 i = gI t 0 i := fun i => (fr_gI u2.1 (by decide)).trans (fr_gI fx (by decide))
          have g57 : ∀ i, gI (pL (pL u 53 4 X) 53 5 Y) 57 i = gI t 57 i := fun i => (fr_gI u2.1 (by decide)).trans (fr_gI fx (by decide))
          refine t3.gen fu ⟨?_, ?_, ?_⟩ ⟨?_, ?_⟩
          · rw [g0, g57]; exact r1
          · rw [g0, g57]; exact r2
          · rw [g0, g57]; exact r3
          · rw [gL_pL_ne (by decide), gL_pL_ne (by decide), fr_gL u2.1 (by decide), gL_pL_cell, if_neg (by decide), gL_pL_eq, gL_pL_cell, if_neg (by decide), gL_pL_eq]
          · rw [gL_pL_ne (by decide), gL_pL_ne (by decide), fr_gL u2.1 (by decide), gL_pL_eq, gL_pL_eq]
