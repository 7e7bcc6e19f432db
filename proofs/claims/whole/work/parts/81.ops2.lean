/-! the calls that only ask: companies, what there is -/
theorem cross_ok {N : Nat} {s : jM} {v : Nat → Nat} (hN : 1000 < N) (h : INVv s v) : ∃ t u, f_X0_plan N s = some t ∧ f_X8_layRow N t = some (if hasR v = true then 1 else 0, u) ∧ PL t v ∧ LR u v ∧ INVv t v ∧ INVv u v := by
  obtain ⟨t, t1, t2, t3, t4, t5⟩ := plan_ok hN h.1 h.2.1 h.2.2.2.2.2.2.2.1 h.2.2.2.2.2.2.2.2
  have ht : INVv t v := h.cls (fr_mono t5.1 (by decide)) t2 (h.2.2.2.2.2.2.1.fr t5.1 (by decide) (by decide) (by decide) (by decide)) (fun _ => t3) t4
  obtain ⟨u, u1, u2, u3⟩ := layRow_ok hN h.1 ht.2.2.1
  exact ⟨t, u, t1, u1, t3, u3, ht, ht.p u2⟩
theorem OP_least {N : Nat} {a : Int32} {s : jM} (hN : 1000 < N) (h : INV s) : OPI (f_X7_least N a s) (f_X8_least N a) := by
  obtain ⟨v, h⟩ := h
  have hf := ful_lt h.1
  have e0 : f_X8_in (Int32.toInt64 a) (0 : Int64) (3 : Int64) = f_X7_isWithin a (0 : Int32) (3 : Int32) := in_eq a 0 3
  have w0 : (f_X7_isWithin a (0 : Int32) (3 : Int32) = some 0) ∨ ∃ n, 0 ≤ n ∧ n ≤ 3 ∧ a = nI n ∧ f_X7_isWithin a (0 : Int32) (3 : Int32) = some 1 := within_ok a (lo := 0) (hi := 3) (by omega) (by omega)
  rcases w0 with w | ⟨m, _, hm, rfl, w⟩
  · refine op_bad h ?_ (fun t hR => ?_)
    · simp only [f_X7_least]; rw [w, Option.bind_some, if_pos rfl]; rfl
    · simp only [f_X8_least]; rw [e0, w, Option.bind_some, if_pos rfl]; rfl
  · obtain ⟨t, u, t1, u1, t2, u2, t3, u3⟩ := cross_ok hN h
    have hall := all_ok u3.1 u3.2.2.1
    cases he : TT v (ful v) with
    | none =>
      have hh : hasR v = false := by unfold hasR; rw [he]; rfl
      obtain ⟨p1, p2, p3, p4, p5⟩ := t2.1 he
      refine ⟨-1, t, u, ?_, ?_, v, u3⟩
      · simp only [f_X7_least]
        rw [w, Option.bind_some, if_neg (by decide), t1, Option.bind_some, p1, p2, p3, p4]
        split
        · rfl
        · split
          · rfl
          · split <;> rfl
      · simp only [f_X8_least]
        rw [e0, w, Option.bind_some, if_neg (by decide), u1, Option.bind_some, hh]
        rfl
    | some e =>
      have hh : hasR v = true := by unfold hasR; rw [he]; rfl
      obtain ⟨p1, p2, p3, p4, c, c1, c2, c3, c4⟩ := t2.2 e he
      obtain ⟨q1, q2⟩ := u2
      rw [he] at q1
      obtain ⟨d, d1, d2, d3, d4⟩ := q2 e he
      have hcd := CNT_un c1 d1
      subst hcd
      have r1 : gI u 64 (ful v) = nI e.1 := q1.1
      have r2 : gI u 65 (ful v) = nI e.2.1 := q1.2.1
      have r3 : gI u 66 (ful v) = nI e.2.2.2 := q1.2.2
      have B : f_X8_least N (nI m) t = some ((if nI m = 0 then nI e.1 else if nI m = 1 then nI e.2.1 else if nI m = 2 then nI c else nI e.2.2.2), u) := by
        simp only [f_X8_least]
        rw [e0, w, Option.bind_some, if_neg (by decide), u1, Option.bind_some, hh]
        simp only [if_true]
        rw [if_neg (by decide)]
        rw [hall, Option.bind_some, Option.bind_some, Option.bind_some, ib_nI (by omega), gd_dec hf, gd_dec hf, gd_dec hf, nI_clamp (by omega), r1, r2, r3, d3]
        split
        · rfl
        · split
          · rfl
          · split <;> rfl
      have A : f_X7_least N (nI m) s = some ((if nI m = 0 then nI e.1 else if nI m = 1 then nI e.2.1 else if nI m = 2 then nI c else nI e.2.2.2), t) := by
        simp only [f_X7_least]
        rw [w, Option.bind_some, if_neg (by decide), t1, Option.bind_some, p1, p2, p3, p4, c3]
        split
        · rfl
        · split
          · rfl
          · split <;> rfl
      exact ⟨_, t, u, A, B, v, u3⟩
theorem OP_row {N : Nat} {a : Int32} {s : jM} (hN : 1000 < N) (h : INV s) : OPI (f_X7_row N a s) (f_X8_row N a) := by
  obtain ⟨v, h⟩ := h
  have hf := ful_lt h.1
  by_cases h0 : a < 0
  · have hn : ¬ (0 : Int32) ≤ a := fun z => by
      rw [Int32.le_iff_toInt_le] at z
      rw [Int32.lt_iff_toInt_lt] at h0
      omega
    refine ⟨-10, pI s 0 12 (gI s 0 12 + 1), _, ?_, ?_, h.bad⟩
    · simp only [f_X7_row, lt_]
      rw [if_neg hn]
    · simp only [f_X8_row]
      rw [if_neg hn]
      rfl
  · obtain ⟨n, hn, rfl⟩ := nI_of h0
    obtain ⟨t, u, t1, u1, t2, u2, t3, u3⟩ := cross_ok hN h
    cases he : TT v (ful v) with
    | none =>
      have hh : hasR v = false := by unfold hasR; rw [he]; rfl
      obtain ⟨p1, p2, p3, p4, p5⟩ := t2.1 he
      refine ⟨-5, t, u, ?_, ?_, v, u3⟩
      · simp only [f_X7_row, jn_]
        rw [if_pos (nI_pos' hn), t1, Option.bind_some, p5, if_pos (nI_pos' hn)]
      · simp only [f_X8_row]
        rw [if_pos (nI_pos' hn), u1, Option.bind_some, hh]
        rfl
    | some e =>
      have hh : hasR v = true := by unfold hasR; rw [he]; rfl
      obtain ⟨p1, p2, p3, p4, c, c1, c2, c3, c4⟩ := t2.2 e he
      obtain ⟨q1, q2⟩ := u2
      obtain ⟨d, d1, d2, d3, d4⟩ := q2 e he
      have hcd := CNT_un c1 d1
      subst hcd
      by_cases hnc : n < c
      · have hl8 := lft_256 (v := v) hf n
        have hsome := lft_some (v := v) hf (by rw [he]; exact fun z => by cases z) n (fun j hj => c1.2 j (by omega))
        cases hg : TT v (lft v (ful v) n) with
        | none => exact (hsome hg).elim
        | some g =>
          have hnz := c1.2 n hnc
          obtain ⟨f1, f2, f3, f4, _, _⟩ := fstE_spec (by omega) hl8 hg
          have hb := (fit_spec f4).2.2
          obtain ⟨x, x1, x2⟩ := wellBR1 (N := N) (a := fstE v (lft v (ful v) n)) (k := 0) (by omega) u3.1 u3.2.2.1 (by omega) (by omega)
          have x1' : f_X8_isWell N (nI (fstE v (lft v (ful v) n))) (0 : Int32) (0 : Int32) u = some (if wellB v (fstE v (lft v (ful v) n)) 0 0 = true then 1 else 0, x) := x1
          refine ⟨nI (rcode v (fstE v (lft v (ful v) n)) (beg v (fstE v (lft v (ful v) n)))), t, x, ?_, ?_, v, u3.w x2⟩
          · simp only [f_X7_row, jn_]
            rw [if_pos (nI_pos' hn), t1, Option.bind_some, c3, if_neg (by rw [nI_leI (by omega) hn]; omega), if_neg (by rw [c_le (by omega) hn]; omega), ib_nI hn, gd_dec (by omega), nI_clamp hn, c4 n hnc]
          · simp only [f_X8_row, jn_]
            rw [if_pos (nI_pos' hn), u1, Option.bind_some, hh]
            simp only [if_true]
            rw [if_neg (by decide)]
            rw [d3, if_pos (by rw [nI_ltI hn (by omega)]; exact hnc), ib_nI hn, gd_dec (by omega), gd_dec (by omega), nI_clamp hn, d4 n hnc, x1', Option.bind_some]
            have hw : wellB v (fstE v (lft v (ful v) n)) 0 0 = true ↔ beg v (fstE v (lft v (ful v) n)) = 0 := by
              unfold beg
              cases wellB v (fstE v (lft v (ful v) n)) 0 0 with
              | true => simp
              | false => simp; split <;> omega
            unfold rcode
            cases hq : wellB v (fstE v (lft v (ful v) n)) 0 0 with
            | true =>
              rw [hw.mp hq]
              simp only [if_true]
              rw [if_neg (by decide)]
              rw [show (0 : Int32) = nI 0 from rfl, nI_add]
            | false =>
              have : beg v (fstE v (lft v (ful v) n)) = 1 := by
                have : ¬ beg v (fstE v (lft v (ful v) n)) = 0 := fun z => by rw [hw.mpr z] at hq; cases hq
                omega
              rw [this]
              simp only [Bool.false_eq_true, if_false, if_true]
              rw [show (256 : Int32) = nI 256 from rfl, nI_add]
      · refine ⟨-5, t, u, ?_, ?_, v, u3⟩
        · simp only [f_X7_row, jn_]
          rw [if_pos (nI_pos' hn), t1, Option.bind_some, c3, if_pos (by rw [nI_leI (by omega) hn]; omega)]
        · simp only [f_X8_row]
          rw [if_pos (nI_pos' hn), u1, Option.bind_some, hh]
          simp only [if_true]
          rw [if_neg (by decide)]
          rw [d3, if_neg (by rw [nI_ltI hn (by omega)]; omega)]
theorem OP_status {a : Int32} {s : jM} (h : INV s) : OPI (f_X7_status a s) (f_X8_status a) := by
  obtain ⟨v, h⟩ := h
  obtain ⟨r1, r2, r3⟩ := h.2.2.2.2.1
  have e0 : f_X8_in (Int32.toInt64 a) (0 : Int64) (2 : Int64) = f_X7_isWithin a (0 : Int32) (2 : Int32) := in_eq a 0 2
  have w0 : (f_X7_isWithin a (0 : Int32) (2 : Int32) = some 0) ∨ ∃ n, 0 ≤ n ∧ n ≤ 2 ∧ a = nI n ∧ f_X7_isWithin a (0 : Int32) (2 : Int32) = some 1 := within_ok a (lo := 0) (hi := 2) (by omega) (by omega)
  rcases w0 with w | ⟨m, _, hm, rfl, w⟩
  · have n0 : ¬ a = 0 := fun z => by rw [z] at w; exact absurd w (by decide)
    have n1 : ¬ a = 1 := fun z => by rw [z] at w; exact absurd w (by decide)
    have n2 : ¬ a = 2 := fun z => by rw [z] at w; exact absurd w (by decide)
    refine ⟨-1, pI s 0 12 (gI s 0 12 + 1), _, ?_, ?_, h.bad⟩
    · simp only [f_X7_status, lt_]
      rw [if_neg n0, if_neg n1, if_neg n2]
    · simp only [f_X8_status]
      rw [e0, w, Option.bind_some, if_pos rfl]
      rfl
  · have hm2 : m = 0 ∨ m = 1 ∨ m = 2 := by omega
    refine ⟨gI s 57 m, s, s, ?_, ?_, v, h⟩
    · simp only [f_X7_status]
      rcases hm2 with rfl | rfl | rfl
      · rw [if_pos (by decide), r1]
      · rw [if_neg (by decide), if_pos (by decide), r2]
      · rw [if_neg (by decide), if_neg (by decide), if_pos (by decide), r3]
    · simp only [f_X8_status]
      rw [e0, w, Option.bind_some, if_neg (by decide), ib_nI (by omega), gd_dec (by omega), nI_clamp (by omega)]
theorem OP_count {a : Int32} {s : jM} (h : INV s) : OPI (f_X7_count a s) (f_X8_count a) := by
  obtain ⟨v, h⟩ := h
  have hS := h.2.1.1
  have hR := h.2.2.1
  have h34 : gI s 54 34 = nI (v 34) := hR.at (by omega)
  have h100 : gI s 54 100 = nI (v 100) := hR.at (by omega)
  by_cases n0 : a = 0
  · subst n0
    exact ⟨nI (v 99), s, s, by simp only [f_X7_count]; rw [if_pos trivial, hS.1], by simp only [f_X8_count]; rw [if_pos trivial, walkers_ok hR]; rfl, v, h⟩
  · by_cases n1 : a = 1
    · subst n1
      refine ⟨nI (v 34), s, s, ?_, ?_, v, h⟩
      · simp only [f_X7_count]; rw [if_neg (by decide), if_pos trivial, hS.2.2.2.1]
      · simp only [f_X8_count]; rw [if_neg (by decide), if_pos trivial, show ib (34 : Int32) 101 = true from by decide, gd_true, show Int32.toNatClampNeg (34 : Int32) = 34 from rfl, h34]
    · by_cases n2 : a = 2
      · subst n2
        refine ⟨nI (v 100), s, s, ?_, ?_, v, h⟩
        · simp only [f_X7_count]; rw [if_neg (by decide), if_neg (by decide), if_pos trivial, hS.2.2.2.2.1]
        · simp only [f_X8_count, f_X8_said]; rw [if_neg (by decide), if_neg (by decide), if_pos trivial, show ib (100 : Int32) 101 = true from by decide, gd_true, show Int32.toNatClampNeg (100 : Int32) = 100 from rfl, h100]; rfl
      · refine op_bad h ?_ (fun t hR => ?_)
        · simp only [f_X7_count]; rw [if_neg n0, if_neg n1, if_neg n2]; rfl
        · simp only [f_X8_count]; rw [if_neg n0, if_neg n1, if_neg n2]; rfl
def OPL (A : Option (Int64 × jM)) (B : jM → Option (Int64 × jM)) : Prop := ∃ r s1 s2, A = some (r, s1) ∧ B s1 = some (r, s2) ∧ INV s2
theorem OP_part {a : Int32} {s : jM} (h : INV s) : OPL (f_X7_part a s) (f_X8_part a) := by
  obtain ⟨v, h⟩ := h
  obtain ⟨f1, f2⟩ := h.2.2.2.2.2.1
  have w0 : (f_X7_isWithin a (0 : Int32) (1 : Int32) = some 0) ∨ ∃ n, 0 ≤ n ∧ n ≤ 1 ∧ a = nI n ∧ f_X7_isWithin a (0 : Int32) (1 : Int32) = some 1 := within_ok a (lo := 0) (hi := 1) (by omega) (by omega)
  rcases w0 with w | ⟨m, _, hm, rfl, w⟩
  · have n0 : ¬ a = 0 := fun z => by rw [z] at w; exact absurd w (by decide)
    have n1 : ¬ a = 1 := fun z => by rw [z] at w; exact absurd w (by decide)
    refine ⟨Int32.toInt64 (-2), pI s 0 12 (gI s 0 12 + 1), _, ?_, ?_, h.bad⟩
    · simp only [f_X7_part]
      rw [w, Option.bind_some, if_pos rfl]
      rfl
    · simp only [f_X8_part]
      rw [if_neg n0, if_neg n1]
      rfl
  · have hm2 : m = 0 ∨ m = 1 := by omega
    rcases hm2 with rfl | rfl
    · refine ⟨gL s 53 4, s, s, ?_, ?_, v, h⟩
      · simp only [f_X7_part]
        rw [w, Option.bind_some, if_neg (by decide), if_pos (by decide), f1]
      · simp only [f_X8_part]
        rw [if_pos (by decide)]
    · refine ⟨gL s 53 5, s, s, ?_, ?_, v, h⟩
      · simp only [f_X7_part]
        rw [w, Option.bind_some, if_neg (by decide), if_neg (by decide), f2]
      · simp only [f_X8_part]
        rw [if_neg (by decide), if_pos (by decide)]
