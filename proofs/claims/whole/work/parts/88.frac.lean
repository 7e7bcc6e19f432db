/-! the fraction: lowest terms -/
theorem cd_loop {N : Nat} {k2 : Int64 → Option Int64} : ∀ (k a b i q : Nat), b < 2 ^ k → a < 2 ^ 63 → b < 2 ^ 63 → i + 2 * k + 1 ≤ 100 → 2 * k + 1 < q → lp_X2_commonDivisor_9 N k2 q (lN a) (lN b) (nI i) = k2 (lN (Nat.gcd a b)) := by
  intro k
  induction k with
  | zero =>
    intro a b i q hb ha hb2 hi hq
    obtain ⟨q, rfl⟩ : ∃ r, q = r + 1 := ⟨q - 1, by omega⟩
    have e : b = 0 := by omega
    subst e
    rw [lp_X2_commonDivisor_9, if_neg (by rw [c_le (by omega) (by omega)]; omega), if_pos (by decide), Nat.gcd_zero_right]
  | succ k ih =>
    intro a b i q hb ha hb2 hi hq
    obtain ⟨q, rfl⟩ : ∃ r, q = r + 1 := ⟨q - 1, by omega⟩
    rw [lp_X2_commonDivisor_9, if_neg (by rw [c_le (by omega) (by omega)]; omega)]
    by_cases h0 : b = 0
    · subst h0
      rw [if_pos (by decide), Nat.gcd_zero_right]
    · have hne : ¬ lN b = 0 := fun z => h0 ((pk_lEQ hb2 (by omega)).mp z)
      have hr : a % b < b := Nat.mod_lt _ (by omega)
      rw [if_neg hne, gd_dec hne]
      simp only [lt_]
      rw [pk_lRem ha (by omega) hb2, nI_1]
      obtain ⟨q, rfl⟩ : ∃ r, q = r + 1 := ⟨q - 1, by omega⟩
      have hg : Nat.gcd b (a % b) = Nat.gcd a b := by rw [Nat.gcd_comm a b, Nat.gcd_rec b a, Nat.gcd_comm]
      rw [← hg, lp_X2_commonDivisor_9, if_neg (by rw [c_le (by omega) (by omega)]; omega)]
      by_cases h1 : a % b = 0
      · rw [h1, if_pos (by decide), Nat.gcd_zero_right]
      · have hne1 : ¬ lN (a % b) = 0 := fun z => h1 ((pk_lEQ (by omega) (by omega)).mp z)
        have hr2 : b % (a % b) < a % b := Nat.mod_lt _ (by omega)
        have hh : b % (a % b) < 2 ^ k := by
          have hd := Nat.div_add_mod b (a % b)
          have hp : 0 < b / (a % b) := Nat.div_pos (by omega) (by omega)
          have : a % b ≤ (a % b) * (b / (a % b)) := Nat.le_mul_of_pos_right _ hp
          rw [Nat.pow_succ] at hb
          omega
        rw [if_neg hne1, gd_dec hne1]
        simp only [lt_]
        rw [pk_lRem (by omega) (by omega) (by omega), nI_1, ih (a % b) (b % (a % b)) (i + 1 + 1) q hh (by omega) (by omega) (by omega) (by omega)]
        congr 2
        rw [Nat.gcd_comm b, Nat.gcd_rec (a % b) b, Nat.gcd_comm]
theorem te_loop {N : Nat} {k2 : Int64 → Option (Int32 × jM)} : ∀ (k a b q : Nat), b < k → a < 2 ^ 63 → b < 2 ^ 63 → k < q → lp_X8_tells_6 N k2 q (lN a) (lN b) = k2 (lN (Nat.gcd a b)) := by
  intro k
  induction k with
  | zero => intro a b q hb; omega
  | succ k ih =>
    intro a b q hb ha hb2 hq
    obtain ⟨q, rfl⟩ : ∃ r, q = r + 1 := ⟨q - 1, by omega⟩
    rw [lp_X8_tells_6]
    by_cases h0 : b = 0
    · subst h0
      rw [if_pos (by decide), Nat.gcd_zero_right]
    · have hne : ¬ lN b = 0 := fun z => h0 ((pk_lEQ hb2 (by omega)).mp z)
      have hr : a % b < b := Nat.mod_lt _ (by omega)
      have hg : Nat.gcd b (a % b) = Nat.gcd a b := by rw [Nat.gcd_comm a b, Nat.gcd_rec b a, Nat.gcd_comm]
      rw [if_neg hne, gd_dec hne]
      simp only [lt_]
      rw [pk_lRem ha (by omega) hb2, ← hg]
      exact ih b (a % b) q (by omega) hb2 (by omega) (by omega)
theorem become_ok {N a b : Nat} {s : jM} (hN : 1000 < N) (ha : a < 2 ^ 63) (h0 : 0 < b) (hb : b < 2 ^ 36) : f_X2_become N (lN a) (lN b) s = some (pL (pL s 50 0 (lN (a / Nat.gcd a b))) 50 1 (lN (b / Nat.gcd a b))) := by
  have hg0 : 0 < Nat.gcd a b := Nat.gcd_pos_of_pos_right a h0
  have hgb : Nat.gcd a b ≤ b := Nat.gcd_le_right a h0
  have hne : ¬ lN (Nat.gcd a b) = 0 := fun z => by have := (pk_lEQ (a := Nat.gcd a b) (b := 0) (by omega) (by omega)).mp z; omega
  simp only [f_X2_become, f_X2_commonDivisor, jn_, lt_]
  rw [show (0 : Int32) = nI 0 from rfl, cd_loop 36 a b 0 N hb ha (by omega) (by omega) (by omega), Option.bind_some, if_neg (fun z => by have := (pk_lLE (a := Nat.gcd a b) (b := 0) (by omega) (by omega)).mp z; omega), gd_dec hne, gd_dec hne, pk_lDiv ha hg0 (by omega), pk_lDiv (by omega) hg0 (by omega)]
theorem tells_ok {N a b : Nat} {s : jM} (hN : 2 ^ 40 < N) (ha : a < 2 ^ 63) (h0 : 0 < b) (hb : b < 2 ^ 36) : f_X8_tells N (lN a) (lN b) s = some (1, pL (pL s 53 4 (lN (a / Nat.gcd a b))) 53 5 (lN (b / Nat.gcd a b))) := by
  have hg0 : 0 < Nat.gcd a b := Nat.gcd_pos_of_pos_right a h0
  have hgb : Nat.gcd a b ≤ b := Nat.gcd_le_right a h0
  have hne : ¬ lN (Nat.gcd a b) = 0 := fun z => by have := (pk_lEQ (a := Nat.gcd a b) (b := 0) (by omega) (by omega)).mp z; omega
  simp only [f_X8_tells, jn_, lt_]
  rw [te_loop (b + 1) a b N (by omega) ha (by omega) (by omega), gd_dec hne, gd_dec hne, pk_lDiv ha hg0 (by omega), pk_lDiv (by omega) hg0 (by omega)]
def LG : List Nat := [0, 50, 51, 52, 53, 57, 58, 59, 60, 61, 62, 63, 64, 65, 66, 67, 68, 69, 70]
theorem INVv.gen {s t : jM} {v : Nat → Nat} (h : INVv s v) (hf : FrL LG s t) (hB : RB t) (hQ : FQ t) : INVv t v := by
  obtain ⟨a, b, c, ⟨d, d'⟩, _, _, g, i, j⟩ := h
  exact ⟨a, b.c hf (by decide), c.fr (fun i => fr_gI hf (by decide)), ⟨d.fr hf (by decide) (by decide) (by decide) (fun j hj => by simp [LG]; omega), d'.fr hf (by decide) (by decide) (by decide) (fun j hj => by simp [LG]; omega)⟩, hB, hQ, g.fr hf (by decide) (by decide) (by decide) (by decide), i.fr hf (by decide) (by decide), j.fr hf (by decide) (by decide) (by decide)⟩
/-! odd -/
def ods (v : Nat → Nat) (a : Nat) : Nat → Nat × Nat
  | 0 => (0, 1)
  | i + 1 => if a.testBit i then ((ods v a i).1 * (10 - v (4 * i + 3)) + (ods v a i).2 * v (4 * i + 3), (ods v a i).2 * (10 - v (4 * i + 3)) + (ods v a i).1 * v (4 * i + 3)) else ods v a i
theorem ods_sum {v : Nat → Nat} {a : Nat} (h : OkV v) : ∀ i, i ≤ v 99 → 0 < (ods v a i).1 + (ods v a i).2 ∧ (ods v a i).1 + (ods v a i).2 ≤ 10 ^ i := by
  intro i
  induction i with
  | zero => intro _; exact ⟨Nat.one_pos, Nat.le_refl _⟩
  | succ i ih =>
    intro hi
    obtain ⟨h1, h2⟩ := ih (by omega)
    have hc := (h.2.2.2.2.2.1 i (by omega)).2.2.2.2
    simp only [ods]
    cases a.testBit i with
    | false =>
      simp only [Bool.false_eq_true, if_false]
      rw [Nat.pow_succ]
      omega
    | true =>
      simp only [if_true]
      generalize (ods v a i).1 = x at *
      generalize (ods v a i).2 = y at *
      generalize v (4 * i + 3) = c at *
      obtain ⟨d, hd⟩ : ∃ d, 10 - c = d ∧ c + d = 10 := ⟨10 - c, rfl, by omega⟩
      rw [hd.1]
      have e : x * d + y * c + (y * d + x * c) = (x + y) * (c + d) := by
        rw [Nat.add_mul, Nat.mul_add, Nat.mul_add]
        omega
      rw [e, hd.2, Nat.pow_succ]
      omega
theorem ods_more {v : Nat → Nat} {a : Nat} (ha : ∀ i, v 99 ≤ i → a.testBit i = false) : ∀ k, ods v a (v 99 + k) = ods v a (v 99) := by
  intro k
  induction k with
  | zero => rfl
  | succ k ih =>
    rw [← Nat.add_assoc]
    simp only [ods]
    rw [ha _ (by omega), ih]
    rfl
theorem lN10 (c : Nat) (h : c ≤ 10) : (10 : Int64) - lN c = lN (10 - c) := by rw [show (10 : Int64) = lN 10 from rfl, lN_sub h]
theorem oc_loop {v : Nat → Nat} {N a : Nat} {s : jM} {k5 : Int64 → Int64 → Option (Int32 × jM)} (h : OkV v) (hS : SC s 1 v) (ha : a < 256) (haW : ∀ i, v 99 ≤ i → a.testBit i = false) : ∀ (m i q : Nat), 8 - i = m → i ≤ 8 → m < q → lp_X7_odd_27 N s (nI a) k5 q (lN (ods v a i).1) (lN (ods v a i).2) (nI i) = k5 (lN (ods v a (v 99)).1) (lN (ods v a (v 99)).2) := by
  intro m
  induction m with
  | zero =>
    intro i q hm hi hq
    obtain ⟨q, rfl⟩ : ∃ r, q = r + 1 := ⟨q - 1, by omega⟩
    have e := ods_more haW (8 - v 99)
    rw [show v 99 + (8 - v 99) = 8 from by have := h.1; omega] at e
    rw [lp_X7_odd_27, if_pos (by rw [c_le (by omega) (by omega)]; omega), show i = 8 from by omega, e]
  | succ m ih =>
    intro i q hm hi hq
    obtain ⟨q, rfl⟩ : ∃ r, q = r + 1 := ⟨q - 1, by omega⟩
    have e := ih (i + 1) q (by omega) (by omega) (by omega)
    simp only [ods] at e
    rw [lp_X7_odd_27, if_neg (by rw [c_le (by omega) (by omega)]; omega)]
    simp only [jn_, lt_]
    rw [holds_ok ha (by omega), Option.bind_some, nI_1]
    cases hb : a.testBit i with
    | false =>
      rw [hb] at e
      rw [if_pos (by decide)]
      exact e
    | true =>
      have hiW : i < v 99 := by
        by_cases hw : v 99 ≤ i
        · rw [haW i hw] at hb; cases hb
        · omega
      have hc := (h.2.2.2.2.2.1 i hiW).2.2.2.2
      have h5 : gI s 5 i = nI (v (4 * i + 3)) := (hS.2.2.2.2.2.1 i hiW).2.2.2
      rw [hb] at e
      simp only [if_true] at e
      rw [if_neg (by decide), ib_nI (by omega), gd_dec (by omega), nI_clamp (by omega), h5, nI_l (by omega), lN10 _ hc, lN_mul, lN_mul, lN_mul, lN_mul, lN_add, lN_add]
      exact e
theorem or_loop {v : Nat → Nat} {N a : Nat} {s : jM} {k5 : Int64 → Int64 → Option (Int32 × jM)} (h : OkV v) (hR : RM s 54 0 v) (ha : a < 256) : ∀ (m i q : Nat), v 99 - i = m → i ≤ v 99 → m < q → lp_X8_odd_23 N s (nI a) k5 q (lN (ods v a i).1) (lN (ods v a i).2) (nI i) = k5 (lN (ods v a (v 99)).1) (lN (ods v a (v 99)).2) := by
  intro m
  induction m with
  | zero =>
    intro i q hm hi hq
    obtain ⟨q, rfl⟩ : ∃ r, q = r + 1 := ⟨q - 1, by omega⟩
    have := h.1
    rw [lp_X8_odd_23, walkers_ok hR, Option.bind_some, if_pos (by rw [nI_leI (by omega) (by omega)]; omega), show i = v 99 from by omega]
  | succ m ih =>
    intro i q hm hi hq
    obtain ⟨q, rfl⟩ : ∃ r, q = r + 1 := ⟨q - 1, by omega⟩
    have h8 := h.1
    have e := ih (i + 1) q (by omega) (by omega) (by omega)
    simp only [ods] at e
    rw [lp_X8_odd_23, walkers_ok hR, Option.bind_some, if_neg (by rw [nI_leI (by omega) (by omega)]; omega)]
    simp only [jn_, lt_]
    rw [hold_bit a ha i (by omega), nI_1]
    cases hb : a.testBit i with
    | false =>
      rw [hb] at e
      rw [if_neg (by decide)]
      exact e
    | true =>
      have hc := (h.2.2.2.2.2.1 i (by omega)).2.2.2.2
      rw [hb] at e
      simp only [if_true] at e
      rw [if_pos (by decide), show f_X8_of (nI i) (3 : Int32) s = some (nI (v (4 * i + 3))) from of_ok (k := 3) (by omega) (by omega) hR, Option.bind_some, show (10 : Int32) - nI (v (4 * i + 3)) = nI (10 - v (4 * i + 3)) from pk_sub (a := 10) hc, nI_l (by omega), nI_l (by omega), lN_mul, lN_mul, lN_mul, lN_mul, lN_add, lN_add]
      exact e
theorem OP_odd {N : Nat} {a : Int32} {s : jM} (hN : 2 ^ 40 < N) (h : INV s) : OPI (f_X7_odd N a s) (f_X8_odd N a) := by
  obtain ⟨v, h⟩ := h
  have hO := h.1
  have h8 := hO.1
  have hS := h.2.1.1
  rcases set_ok a hO hS.1 with ⟨e1, e2⟩ | ⟨n, hn, hnf, rfl, e1, e2⟩
  · refine op_bad h ?_ (fun t hR => ?_)
    · simp only [f_X7_odd, jn_]; rw [e1, Option.bind_some, if_pos rfl]; rfl
    · simp only [f_X8_odd, jn_]; rw [e2 t hR, Option.bind_some, if_pos rfl]; rfl
  · obtain ⟨o1, o2⟩ := ods_sum (a := n) hO (v 99) (Nat.le_refl _)
    have o3 : 10 ^ v 99 ≤ 10 ^ 8 := Nat.pow_le_pow_right (by omega) h8
    generalize hx : lN ((ods v n (v 99)).1 / Nat.gcd (ods v n (v 99)).1 ((ods v n (v 99)).1 + (ods v n (v 99)).2)) = x
    generalize hy : lN (((ods v n (v 99)).1 + (ods v n (v 99)).2) / Nat.gcd (ods v n (v 99)).1 ((ods v n (v 99)).1 + (ods v n (v 99)).2)) = y
    have hR1 : RM (pL (pL s 50 0 x) 50 1 y) 54 0 v := h.2.2.1.fr (fun i => rfl)
    refine ⟨1, pL (pL s 50 0 x) 50 1 y, pL (pL (pL (pL s 50 0 x) 50 1 y) 53 4 x) 53 5 y, ?_, ?_, v, ?_⟩
    · simp only [f_X7_odd, jn_]
      rw [e1, Option.bind_some, if_neg (by decide)]
      have := oc_loop (N := N) (s := s) (a := n) (k5 := fun y3 y4 => Option.bind (f_X2_become N y3 (y3 + y4) s) fun r6 => some ((1 : Int32), r6)) hO hS hn (ful_bit hnf) 8 0 N rfl (by omega) (by omega)
      refine Eq.trans this ?_
      rw [lN_add, become_ok (by omega) (by omega) o1 (by omega), hx, hy]
      rfl
    · simp only [f_X8_odd, jn_]
      rw [e2 _ hR1, Option.bind_some, if_neg (by decide)]
      have := or_loop (N := N) (s := pL (pL s 50 0 x) 50 1 y) (a := n) (k5 := fun y3 y4 => Option.bind (f_X8_tells N y3 (y3 + y4) (pL (pL s 50 0 x) 50 1 y)) fun r6 => some (r6.1, r6.2)) hO hR1 hn (v 99) 0 N (by omega) (by omega) (by omega)
      refine Eq.trans this ?_
      rw [lN_add, tells_ok hN (by omega) o1 (by omega), hx, hy]
      rfl
    · refine h.gen (fr_pL (fr_pL (fr_pL (fr_pL FrL.rf (by decide)) (by decide)) (by decide)) (by decide)) h.2.2.2.2.1 ?_
      constructor
      · rw [gL_pL_ne (by decide), gL_pL_ne (by decide), gL_pL_cell, if_neg (by decide), gL_pL_eq, gL_pL_cell, if_neg (by decide), gL_pL_eq]
      · rw [gL_pL_ne (by decide), gL_pL_ne (by decide), gL_pL_eq, gL_pL_eq]
