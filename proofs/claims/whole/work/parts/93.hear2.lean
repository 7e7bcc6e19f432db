/-! disputes, asked of both -/
theorem set_said (a : Int32) {s : jM} {v : Nat → Nat} (h : OkV v) (h12 : gI s 1 12 = nI (v 100)) : (f_X7_isSetOf a (gI s 1 12) = some 0 ∧ f_X7_isWithin a (nI 0) (nI (2 ^ v 100 - 1)) = some 0) ∨ ∃ n, n < 256 ∧ n < 2 ^ v 100 ∧ a = nI n ∧ f_X7_isSetOf a (gI s 1 12) = some 1 ∧ f_X7_isWithin a (nI 0) (nI (2 ^ v 100 - 1)) = some 1 := by
  have h8 := h.2.1
  have h3 := Nat.two_pow_pos (v 100)
  have h2 := Nat.pow_le_pow_right (show 0 < 2 by omega) h8
  have e1 : (1 : Int32) <<< (gI s 1 12 &&& 31) = nI (2 ^ v 100) := by rw [h12, one_shlI _ (by omega)]
  rcases within_ok a (lo := 0) (hi := 2 ^ v 100 - 1) (by omega) (by omega) with w | ⟨n, _, hn, rfl, w⟩
  · refine Or.inl ⟨?_, w⟩
    simp only [f_X7_isSetOf, jn_]
    rw [e1]
    by_cases h0 : a < 0
    · rw [if_pos h0]
    · rw [if_neg h0]
      obtain ⟨n, hn, rfl⟩ := nI_of h0
      by_cases hle : nI (2 ^ v 100) ≤ nI n
      · rw [if_pos hle]
      · rw [nI_leI (by omega) hn] at hle
        simp only [f_X7_isWithin, jn_] at w
        rw [if_neg (by rw [nI_ltI hn (by omega)]; omega), if_neg (by rw [nI_ltI (by omega) hn]; omega)] at w
        cases w
  · refine Or.inr ⟨n, by omega, by omega, rfl, ?_, w⟩
    simp only [f_X7_isSetOf, jn_]
    rw [e1, if_neg (nI_pos (by omega)), if_neg (by rw [nI_leI (by omega) (by omega)]; omega)]
theorem OP_dispute {N : Nat} {a : Int32} {s : jM} (hN : 1000 < N) (h : INV s) : OPL (f_X7_dispute N a s) (f_X8_dispute N a) := by
  obtain ⟨v, h⟩ := h
  have hO := h.1
  have hS := h.2.1.1
  have ea : f_X8_in (Int32.toInt64 a) (0 : Int64) (Int32.toInt64 (nI (2 ^ v 100 - 1))) = f_X7_isWithin a (nI 0) (nI (2 ^ v 100 - 1)) := in_eq a (nI 0) (nI (2 ^ v 100 - 1))
  have hfu : ((1 : Int32) <<< (nI (v 100) &&& 31)) - 1 = nI (2 ^ v 100 - 1) := ful_I _ (by have := hO.2.1; omega)
  rcases set_said a hO hS.2.2.2.2.1 with ⟨e1, e2⟩ | ⟨n, hn, hn2, rfl, e1, e2⟩
  · refine ⟨Int32.toInt64 (-2), pI s 0 12 (gI s 0 12 + 1), _, ?_, ?_, h.bad⟩
    · simp only [f_X7_dispute]
      rw [e1, Option.bind_some, if_pos rfl]
      rfl
    · have hR1 : RM (pI s 0 12 (gI s 0 12 + 1)) 54 0 v := h.2.2.1.o (by decide)
      simp only [f_X8_dispute]
      rw [said_ok hR1, Option.bind_some, hfu, ea, e2, Option.bind_some, if_pos rfl]
      rfl
  · obtain ⟨t, t1, t2, t3⟩ := minutesUnwell_ok hN hO hn h.2.1
    have ht := h.j t2 t3
    obtain ⟨u, u1, u2⟩ := disputeOf_ok hN hO hn ht.2.2.1
    refine ⟨dB v n 63, t, u, ?_, ?_, v, ht.w u2⟩
    · simp only [f_X7_dispute]
      rw [e1, Option.bind_some, if_neg (by decide), t1, Option.bind_some]
    · simp only [f_X8_dispute]
      rw [said_ok ht.2.2.1, Option.bind_some, hfu, ea, e2, Option.bind_some, if_neg (by decide), u1, Option.bind_some]
noncomputable def eB (v : Nat → Nat) : Nat → Nat
  | 0 => 0
  | i + 1 => if aB v (2 ^ i) 63 then eB v i ||| 2 ^ i else eB v i
theorem two8 {i : Nat} (hi : i < 8) : 2 ^ i < 256 := Nat.pow_lt_pow_right (n := 8) (by omega) hi
theorem ea_loop {v : Nat → Nat} {N : Nat} (hN : 1000 < N) (h : OkV v) : ∀ (j i : Nat) (s : jM) (q : Nat), v 100 - i = j → i ≤ v 100 → j < q → KN s v →
    ∃ s', (∀ k3, lp_X3_eachAlone_4 N k3 q (nI (eB v i)) (nI i) s = k3 (nI (eB v (v 100))) s') ∧ FrJ s s' ∧ JI s' v := by
  have h8 := h.2.1
  intro j
  induction j with
  | zero =>
    intro i s q hj hi hq hK
    obtain ⟨q, rfl⟩ : ∃ r, q = r + 1 := ⟨q - 1, by omega⟩
    refine ⟨s, fun k3 => ?_, FrJ.rf, hK.2.2⟩
    rw [lp_X3_eachAlone_4, hK.1.2.2.2.2.1, if_pos (by rw [nI_leI (by omega) (by omega)]; omega), show i = v 100 from by omega]
  | succ j ih =>
    intro i s q hj hi hq hK
    obtain ⟨q, rfl⟩ : ∃ r, q = r + 1 := ⟨q - 1, by omega⟩
    obtain ⟨t, t1, t2, t3⟩ := allWellBut_ok (N := N) (but := 2 ^ i) hN h (two8 (by omega)) hK
    obtain ⟨s', e1, e2, e3⟩ := ih (i + 1) t q (by omega) (by omega) (by omega) (hK.j t2 t3)
    refine ⟨s', fun k3 => ?_, t2.tr e2, e3⟩
    have e := e1 k3
    rw [show eB v (i + 1) = if aB v (2 ^ i) 63 then eB v i ||| 2 ^ i else eB v i from rfl] at e
    rw [lp_X3_eachAlone_4, hK.1.2.2.2.2.1, if_neg (by rw [nI_leI (by omega) (by omega)]; omega), if_neg (by rw [c_le (by omega) (by omega)]; omega)]
    simp only [jn_, lt_]
    rw [one_shlI i (by omega), t1, Option.bind_some, nI_1, nI_or]
    generalize aB v (2 ^ i) 63 = b at e ⊢
    cases b with
    | true =>
      simp only [if_true] at e ⊢
      rw [if_neg (by decide)]
      exact e
    | false =>
      simp only [Bool.false_eq_true, if_false, if_true] at e ⊢
      exact e
theorem eachAlone_ok {v : Nat → Nat} {N : Nat} {s : jM} (hN : 1000 < N) (h : OkV v) (hK : KN s v) : ∃ s', f_X3_eachAlone N s = some (nI (eB v (v 100)), s') ∧ FrJ s s' ∧ JI s' v := by
  have h8 := h.2.1
  obtain ⟨s', e1, e2, e3⟩ := ea_loop (N := N) hN h (v 100) 0 s N (by omega) (by omega) (by omega) hK
  refine ⟨s', ?_, e2, e3⟩
  simp only [f_X3_eachAlone, jn_]
  exact e1 (fun x1 s2 => some (x1, s2))
theorem l2_loop {v : Nat → Nat} {N : Nat} (hN : 1000 < N) (h : OkV v) : ∀ (j i : Nat) (s : jM) (q : Nat), v 100 - i = j → i ≤ v 100 → j < q → RM s 54 0 v →
    ∃ s', (∀ k5, lp_X8_lied_21 N (0 : Int32) k5 q (nI (eB v i)) (nI i) s = k5 (nI (eB v (v 100))) s') ∧ FrW s s' := by
  have h8 := h.2.1
  intro j
  induction j with
  | zero =>
    intro i s q hj hi hq hK
    obtain ⟨q, rfl⟩ : ∃ r, q = r + 1 := ⟨q - 1, by omega⟩
    refine ⟨s, fun k3 => ?_, FrW.rf⟩
    rw [lp_X8_lied_21, said_ok hK, Option.bind_some, if_pos (by rw [nI_leI (by omega) (by omega)]; omega), show i = v 100 from by omega]
  | succ j ih =>
    intro i s q hj hi hq hK
    obtain ⟨q, rfl⟩ : ∃ r, q = r + 1 := ⟨q - 1, by omega⟩
    obtain ⟨t, t1, t2⟩ := disputeOf_ok (N := N) (but := 2 ^ i) hN h (two8 (by omega)) hK
    obtain ⟨s', e1, e2⟩ := ih (i + 1) t q (by omega) (by omega) (by omega) (hK.w t2 (by decide))
    refine ⟨s', fun k3 => ?_, t2.tr e2⟩
    have e := e1 k3
    have hda := dB_aB (v := v) (but := 2 ^ i) 63 (Nat.le_refl _)
    rw [show eB v (i + 1) = if aB v (2 ^ i) 63 then eB v i ||| 2 ^ i else eB v i from rfl] at e
    rw [lp_X8_lied_21, said_ok hK, Option.bind_some, if_neg (by rw [nI_leI (by omega) (by omega)]; omega), if_pos rfl]
    simp only [jn_, lt_]
    rw [one_shlI i (by omega), t1, Option.bind_some, nI_1, nI_or, show nI (eB v i) ||| (0 : Int32) = nI (eB v i) from by rw [show (0 : Int32) = nI 0 from rfl, nI_or, Nat.or_zero]]
    simp only
    generalize aB v (2 ^ i) 63 = b at e hda
    generalize dB v (2 ^ i) 63 = d at hda ⊢
    cases b with
    | true =>
      simp only [if_true] at e
      rw [if_pos (hda.mpr rfl)]
      exact e
    | false =>
      simp only [Bool.false_eq_true, if_false] at e
      rw [if_neg (fun z => by cases hda.mp z)]
      exact e
/-- the fewest: scanned -/
noncomputable def flS (v : Nat → Nat) : Nat → Nat → Nat → Nat
  | 0, _, b => b
  | k + 1, x, b => flS v k (x + 1) (if pop8 x < pop8 b && aB v x 63 then x else b)
theorem flS_y {v : Nat → Nat} {k x b : Nat} (h1 : pop8 x < pop8 b) (h2 : aB v x 63 = true) : flS v (k + 1) x b = flS v k (x + 1) x := by
  rw [flS, h2, decide_eq_true h1]
  rfl
theorem flS_n {v : Nat → Nat} {k x b : Nat} (h : ¬ pop8 x < pop8 b ∨ aB v x 63 = false) : flS v (k + 1) x b = flS v k (x + 1) b := by
  rw [flS]
  rcases h with h | h
  · rw [decide_eq_false h]; rfl
  · rw [h, Bool.and_false]; rfl
theorem fl_body {v : Nat → Nat} {N q x b : Nat} {s : jM} {k4 : Int32 → jM → Option (Int32 × jM)} (h : OkV v) (hK : KN s v) (hb : b < 256) (hx8 : x < 256) (hxw : x < 2 ^ v 100) : lp_X3_fewestLiars_14 N k4 (q + 1) (nI b) (nI x) s = if pop8 b ≤ pop8 x then lp_X3_fewestLiars_14 N k4 q (nI b) (nI (x + 1)) s else Option.bind (f_X3_allWellBut N (nI x) s) fun r18 => if r18.1 = 0 then lp_X3_fewestLiars_14 N k4 q (nI b) (nI (x + 1)) r18.2 else lp_X3_fewestLiars_14 N k4 q (nI x) (nI (x + 1)) r18.2 := by
  have h8 := h.2.1
  have h2 := Nat.pow_le_pow_right (show 0 < 2 by omega) h8
  have p1 := pop8_le x
  have p2 := pop8_le b
  rw [lp_X3_fewestLiars_14, hK.1.2.2.2.2.1, one_shlI _ (by omega), if_neg (by rw [nI_leI (by omega) (by omega)]; omega), if_neg (by rw [c_le (by omega) (by omega)]; omega), bitCount_ok x hx8, bitCount_ok b hb, jn_]
  simp only [lt_]
  rw [Option.bind_some, Option.bind_some, nI_1]
  by_cases hc : pop8 b ≤ pop8 x
  · rw [if_pos (by rw [nI_leI (by omega) (by omega)]; exact hc), if_pos hc]
  · rw [if_neg (by rw [nI_leI (by omega) (by omega)]; exact hc), if_neg hc]
theorem fl_c {v : Nat → Nat} {N : Nat} (hN : 1000 < N) (h : OkV v) : ∀ (k x b : Nat) (s : jM) (q : Nat), x + k = 2 ^ v 100 → b < 256 → k < q → KN s v →
    ∃ s', (∀ k4, lp_X3_fewestLiars_14 N k4 q (nI b) (nI x) s = k4 (nI (flS v k x b)) s') ∧ FrJ s s' ∧ JI s' v := by
  have h8 := h.2.1
  have h2 := Nat.pow_le_pow_right (show 0 < 2 by omega) h8
  intro k
  induction k with
  | zero =>
    intro x b s q hx hb hq hK
    obtain ⟨q, rfl⟩ : ∃ r, q = r + 1 := ⟨q - 1, by omega⟩
    refine ⟨s, fun k4 => ?_, FrJ.rf, hK.2.2⟩
    rw [lp_X3_fewestLiars_14, hK.1.2.2.2.2.1, one_shlI _ (by omega), if_pos (by rw [nI_leI (by omega) (by omega)]; omega)]
    rfl
  | succ k ih =>
    intro x b s q hx hb hq hK
    obtain ⟨q, rfl⟩ : ∃ r, q = r + 1 := ⟨q - 1, by omega⟩
    have hx8 : x < 256 := by omega
    have p1 := pop8_le x
    have p2 := pop8_le b
    have body := fun k4 => fl_body (N := N) (k4 := k4) (q := q) h hK hb hx8 (show x < 2 ^ v 100 by omega)
    by_cases hc : pop8 b ≤ pop8 x
    · obtain ⟨s', e1, e2, e3⟩ := ih (x + 1) b s q (by omega) hb (by omega) hK
      refine ⟨s', fun k4 => ?_, e2, e3⟩
      rw [body, if_pos hc, e1 k4, flS_n (Or.inl (by omega))]
    · obtain ⟨t, t1, t2, t3⟩ := allWellBut_ok (N := N) (but := x) hN h hx8 hK
      have hlt : pop8 x < pop8 b := by omega
      generalize hz : aB v x 63 = z at t1
      cases z with
      | true =>
        obtain ⟨s', e1, e2, e3⟩ := ih (x + 1) x t q (by omega) hx8 (by omega) (hK.j t2 t3)
        refine ⟨s', fun k4 => ?_, t2.tr e2, e3⟩
        rw [body, if_neg hc, t1, Option.bind_some]
        simp only [if_true]
        rw [if_neg (by decide), e1 k4, flS_y hlt hz]
      | false =>
        obtain ⟨s', e1, e2, e3⟩ := ih (x + 1) b t q (by omega) hb (by omega) (hK.j t2 t3)
        refine ⟨s', fun k4 => ?_, t2.tr e2, e3⟩
        rw [body, if_neg hc, t1, Option.bind_some]
        simp only [Bool.false_eq_true, if_false, if_true]
        rw [e1 k4, flS_n (Or.inr hz)]
theorem pop_full : ∀ w, w < 9 → ∀ x, x < 2 ^ w → pop8 x = pop8 (2 ^ w - 1) → ¬ x < 2 ^ w - 1 := by decide +kernel
theorem fl_r {v : Nat → Nat} {N : Nat} (hN : 1000 < N) (h : OkV v) : ∀ (k x b : Nat) (s : jM) (q : Nat), x + k = 2 ^ v 100 → b < 256 → k < q → RM s 54 0 v → (b < x ∨ b = 2 ^ v 100 - 1) →
    ∃ s', (∀ k10, lp_X8_lied_73 N (1 : Int32) k10 q (nI b) (nI x) s = k10 (nI (flS v k x b)) s') ∧ FrW s s' := by
  have h8 := h.2.1
  have h2 := Nat.pow_le_pow_right (show 0 < 2 by omega) h8
  intro k
  induction k with
  | zero =>
    intro x b s q hx hb hq hK hbx
    obtain ⟨q, rfl⟩ : ∃ r, q = r + 1 := ⟨q - 1, by omega⟩
    refine ⟨s, fun k4 => ?_, FrW.rf⟩
    rw [lp_X8_lied_73, said_ok hK, Option.bind_some, one_shlI _ (by omega), if_pos (by rw [nI_leI (by omega) (by omega)]; omega)]
    rfl
  | succ k ih =>
    intro x b s q hx hb hq hK hbx
    obtain ⟨q, rfl⟩ : ∃ r, q = r + 1 := ⟨q - 1, by omega⟩
    have hx8 : x < 256 := by omega
    have p1 := pop8_le x
    have p2 := pop8_le b
    obtain ⟨t, t1, t2⟩ := disputeOf_ok (N := N) (but := x) hN h hx8 hK
    have hda := dB_aB (v := v) (but := x) 63 (Nat.le_refl _)
    have body : ∀ k10, lp_X8_lied_73 N (1 : Int32) k10 (q + 1) (nI b) (nI x) s = if pop8 x < pop8 b then (if dB v x 63 = 0 then lp_X8_lied_73 N (1 : Int32) k10 q (nI x) (nI (x + 1)) t else lp_X8_lied_73 N (1 : Int32) k10 q (nI b) (nI (x + 1)) t) else lp_X8_lied_73 N (1 : Int32) k10 q (nI b) (nI (x + 1)) s := by
      intro k10
      rw [lp_X8_lied_73, said_ok hK, Option.bind_some, one_shlI _ (by omega), if_neg (by rw [nI_leI (by omega) (by omega)]; omega), if_pos rfl]
      simp only [jn_, lt_]
      rw [manyIn_ok (by omega) hb, Option.bind_some, manyIn_ok (by omega) hx8, Option.bind_some, t1, Option.bind_some, nI_1]
      by_cases hlt : pop8 x < pop8 b
      · rw [if_pos hlt, pk_sub (by omega), if_pos (by rw [show (0 : Int32) = nI 0 from rfl, nI_ltI (by omega) (by omega)]; omega)]
      · rw [if_neg hlt]
        by_cases heq : pop8 b = pop8 x
        · have hnx : b ≤ x := by
            rcases hbx with z | z
            · omega
            · have := pop_full (v 100) (by omega) x (by omega) (by rw [← z]; exact heq.symm)
              omega
          rw [heq, pk_sub (Nat.le_refl _), Nat.sub_self, if_neg (by decide), if_pos (by decide), if_pos (by rw [nI_leI (by omega) (by omega)]; exact hnx)]
        · have hneg := pk_sneg (a := pop8 b) (b := pop8 x) (by omega) (by omega)
          have n1 : ¬ (0 : Int32) < nI (pop8 b) - nI (pop8 x) := fun z => by
            rw [Int32.lt_iff_toInt_lt] at z hneg
            omega
          have n2 : ¬ nI (pop8 b) - nI (pop8 x) = 0 := fun z => by rw [z] at hneg; exact absurd hneg (by decide)
          rw [if_neg n1, if_neg n2]
    by_cases hlt : pop8 x < pop8 b
    · cases ha : aB v x 63 with
      | true =>
        obtain ⟨s', e1, e2⟩ := ih (x + 1) x t q (by omega) hx8 (by omega) (hK.w t2 (by decide)) (Or.inl (by omega))
        refine ⟨s', fun k4 => ?_, t2.tr e2⟩
        rw [body, if_pos hlt, if_pos (hda.mpr ha), e1 k4]
        rw [flS_y hlt ha]
      | false =>
        obtain ⟨s', e1, e2⟩ := ih (x + 1) b t q (by omega) hb (by omega) (hK.w t2 (by decide)) (hbx.imp_left (by omega))
        refine ⟨s', fun k4 => ?_, t2.tr e2⟩
        rw [body, if_pos hlt, if_neg (fun z => by rw [hda.mp z] at ha; cases ha), e1 k4]
        rw [flS_n (Or.inr ha)]
    · obtain ⟨s', e1, e2⟩ := ih (x + 1) b s q (by omega) hb (by omega) hK (hbx.imp_left (by omega))
      refine ⟨s', fun k4 => ?_, e2⟩
      rw [body, if_neg hlt, e1 k4]
      rw [flS_n (Or.inl hlt)]
theorem OP_lied {N : Nat} {a : Int32} {s : jM} (hN : 1000 < N) (h : INV s) : OPI (f_X7_lied N a s) (f_X8_lied N a) := by
  obtain ⟨v, h⟩ := h
  have hO := h.1
  have h8 := hO.2.1
  have h2 := Nat.pow_le_pow_right (show 0 < 2 by omega) h8
  have h3 := Nat.two_pow_pos (v 100)
  have hS := h.2.1.1
  have hfu : ((1 : Int32) <<< (nI (v 100) &&& 31)) - 1 = nI (2 ^ v 100 - 1) := ful_I _ (by omega)
  have ea : f_X8_in (Int32.toInt64 a) (0 : Int64) (1 : Int64) = f_X7_isWithin a (0 : Int32) (1 : Int32) := in_eq a 0 1
  have wa : (f_X7_isWithin a (0 : Int32) (1 : Int32) = some 0) ∨ ∃ n, 0 ≤ n ∧ n ≤ 1 ∧ a = nI n ∧ f_X7_isWithin a (0 : Int32) (1 : Int32) = some 1 := within_ok a (lo := 0) (hi := 1) (by omega) (by omega)
  rcases wa with xa | ⟨n, _, hn, rfl, xa⟩
  · refine op_bad h ?_ (fun t hR => ?_)
    · simp only [f_X7_lied]; rw [xa, Option.bind_some, if_pos rfl]; rfl
    · simp only [f_X8_lied]; rw [ea, xa, Option.bind_some, if_pos rfl]; rfl
  · have hn2 : n = 0 ∨ n = 1 := by omega
    rcases hn2 with rfl | rfl
    · obtain ⟨t, t1, t2, t3⟩ := eachAlone_ok hN hO h.2.1
      have ht := h.j t2 t3
      obtain ⟨u, u1, u2⟩ := l2_loop (N := N) hN hO (v 100) 0 t N (by omega) (by omega) (by omega) ht.2.2.1
      have u1' : ∀ k5, lp_X8_lied_21 N (nI 0) k5 N (0 : Int32) (0 : Int32) t = k5 (nI (eB v (v 100))) u := u1
      refine ⟨nI (eB v (v 100)), t, u, ?_, ?_, v, ht.w u2⟩
      · simp only [f_X7_lied]
        rw [xa, Option.bind_some, if_neg (by decide), if_pos (by decide), t1, Option.bind_some]
      · simp only [f_X8_lied, jn_, lt_]
        obtain ⟨N', rfl⟩ : ∃ m, N = m + 1 := ⟨N - 1, by omega⟩
        rw [ea, xa, Option.bind_some, if_neg (by decide), u1', said_ok (ht.2.2.1.w u2 (by decide)), Option.bind_some, lp_X8_lied_73, said_ok (ht.2.2.1.w u2 (by decide)), Option.bind_some, one_shlI _ (by omega), if_neg (nI_nle (by omega) (by omega)), if_neg (by decide), if_pos (by decide)]
    · obtain ⟨t, t1, t2, t3⟩ := fl_c (N := N) hN hO (2 ^ v 100) 0 (2 ^ v 100 - 1) s N (by omega) (by omega) (by omega) h.2.1
      have ht := h.j t2 t3
      obtain ⟨u, u1, u2⟩ := fl_r (N := N) hN hO (2 ^ v 100) 0 (2 ^ v 100 - 1) t N (by omega) (by omega) (by omega) ht.2.2.1 (Or.inr rfl)
      have t1' : ∀ k4, lp_X3_fewestLiars_14 N k4 N (nI (2 ^ v 100 - 1)) (0 : Int32) s = k4 (nI (flS v (2 ^ v 100) 0 (2 ^ v 100 - 1))) t := t1
      have u1' : ∀ k10, lp_X8_lied_73 N (nI 1) k10 N (nI (2 ^ v 100 - 1)) (0 : Int32) t = k10 (nI (flS v (2 ^ v 100) 0 (2 ^ v 100 - 1))) u := u1
      refine ⟨nI (flS v (2 ^ v 100) 0 (2 ^ v 100 - 1)), t, u, ?_, ?_, v, ht.w u2⟩
      · simp only [f_X7_lied, f_X3_fewestLiars, jn_, lt_]
        rw [xa, Option.bind_some, if_neg (by decide), if_neg (by decide), hS.2.2.2.2.1, hfu, t1', Option.bind_some]
      · simp only [f_X8_lied, jn_, lt_]
        rw [ea, xa, Option.bind_some, if_neg (by decide)]
        have l21 : ∀ k5, lp_X8_lied_21 N (nI 1) k5 N (0 : Int32) (0 : Int32) t = k5 (0 : Int32) t := by
          intro k5
          obtain ⟨N', rfl⟩ : ∃ m, N = m + 1 := ⟨N - 1, by omega⟩
          rw [lp_X8_lied_21, said_ok ht.2.2.1, Option.bind_some]
          by_cases h0 : nI (v 100) ≤ 0
          · rw [if_pos h0]
          · rw [if_neg h0, if_neg (by decide)]
        rw [l21, said_ok ht.2.2.1, Option.bind_some, hfu, u1', if_neg (by decide)]
