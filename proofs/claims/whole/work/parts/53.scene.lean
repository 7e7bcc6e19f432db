/-! the two scenes, and what a set brings -/
def OkV (v : Nat → Nat) : Prop := v 99 ≤ 8 ∧ v 100 ≤ 8 ∧ v 34 ≤ 40 ∧ v 32 ≤ 19 ∧ v 33 ≤ 99 ∧
  (∀ i, i < v 99 → v (4 * i) ≤ 7 ∧ 1 ≤ v (4 * i + 1) ∧ v (4 * i + 1) ≤ 20 ∧ v (4 * i + 2) ≤ 99 ∧ v (4 * i + 3) ≤ 10) ∧
  (∀ i, i < v 34 → v (35 + i) < 128) ∧ (∀ i, i < v 100 → v (75 + 3 * i) < v 99 ∧ v (75 + 3 * i + 1) ≤ v (75 + 3 * i + 2) ∧ v (75 + 3 * i + 2) ≤ 62)
/-- the class's scene: its object b, its arrays after it -/
def SC (s : jM) (b : Nat) (v : Nat → Nat) : Prop := gI s b 4 = nI (v 99) ∧ gI s b 5 = nI (v 32) ∧ gI s b 6 = nI (v 33) ∧ gI s b 8 = nI (v 34) ∧ gI s b 12 = nI (v 100) ∧
  (∀ i, i < v 99 → gI s (b + 1) i = nI (v (4 * i)) ∧ gI s (b + 2) i = nI (v (4 * i + 1)) ∧ gI s (b + 3) i = nI (v (4 * i + 2)) ∧ gI s (b + 4) i = nI (v (4 * i + 3))) ∧
  (∀ i, i < v 34 → gI s (b + 5) i = nI (v (35 + i))) ∧
  (∀ i, i < v 100 → gI s (b + 6) i = nI (v (75 + 3 * i)) ∧ gI s (b + 7) i = nI (v (75 + 3 * i + 1)) ∧ gI s (b + 8) i = nI (v (75 + 3 * i + 2)))
/-- the reference's, in cell c from o on -/
def RM (s : jM) (c o : Nat) (v : Nat → Nat) : Prop := ∀ i, i < 101 → gI s c (o + i) = nI (v i)
def Tv (v : Nat → Nat) (i : Nat) : Nat := if i < v 34 then v (35 + i) else 0
theorem Tv_lt {v : Nat → Nat} (h : OkV v) (i : Nat) : Tv v i < 128 := by
  unfold Tv
  split
  · rename_i hi; exact h.2.2.2.2.2.2.1 i hi
  · omega
theorem MT_of {v : Nat → Nat} {s : jM} (h : OkV v) (hR : RM s 54 0 v) : MT (Tv v) (v 34) s := by
  refine ⟨h.2.2.1, Tv_lt h, ?_, fun i hi => ?_⟩
  · have := hR 34 (by omega); rw [Nat.zero_add] at this; exact this
  · have := hR (35 + i) (by have := h.2.2.1; omega); rw [Nat.zero_add] at this; rw [this]; unfold Tv; rw [if_pos hi]
theorem VT_of {v : Nat → Nat} {s : jM} (h : OkV v) (hS : SC s 1 v) : VT (Tv v) (v 34) s := by
  refine ⟨h.2.2.1, Tv_lt h, hS.2.2.2.1, fun i hi => ?_⟩
  have := hS.2.2.2.2.2.2.1 i hi
  rw [this]; unfold Tv; rw [if_pos hi]
theorem RM.at {v : Nat → Nat} {s : jM} {c i : Nat} (h : RM s c 0 v) (hi : i < 101) : gI s c i = nI (v i) := by
  have := h i hi; rw [Nat.zero_add] at this; exact this
theorem RM.fr {v : Nat → Nat} {s t : jM} {c o : Nat} (h : RM s c o v) (hc : ∀ i, gI t c i = gI s c i) : RM t c o v := fun i hi => by rw [hc]; exact h i hi
def brt (k w : Nat) : Nat := if w = 0 then (if k = 5 then 0 else 1) else if w = 1 then (if k = 2 then 2 else if k = 7 then 1 else 0) else if w = 2 then (if k = 1 then 1 else if k = 7 then 2 else 0) else if w = 3 then (if k = 3 ∨ k = 6 then 1 else 0) else (if k = 4 then 1 else if k = 6 then 2 else 0)
theorem bringsOf_ok : ∀ k, k < 8 → ∀ w, w < 5 → f_X8_bringsOf (nI k) (nI w) = some (nI (brt k w)) := by decide +kernel
theorem brS_ok : ∀ k, k < 8 → ∀ w, w < 5 → brS.getD (5 * k + w) 0 = nI (brt k w) := by decide +kernel
theorem brt_le : ∀ k, k < 8 → ∀ w, w < 5 → brt k w ≤ 2 := by decide +kernel
theorem hold_bit : ∀ a, a < 256 → ∀ i, i < 8 → (((nI a >>> (nI i &&& 31)) &&& (1 : Int32)) = if a.testBit i then 1 else 0) := by decide +kernel
def brs (v : Nat → Nat) (a w : Nat) : Nat → Nat
  | 0 => 0
  | i + 1 => brs v a w i + (if a.testBit i then brt (v (4 * i)) w else 0)
def br (v : Nat → Nat) (a w : Nat) : Nat := brs v a w (v 99)
theorem brs_le {v : Nat → Nat} {a w : Nat} (h : OkV v) (hw : w < 5) : ∀ i, i ≤ v 99 → brs v a w i ≤ 2 * i := by
  intro i
  induction i with
  | zero => intro _; exact Nat.le_refl _
  | succ i ih =>
    intro hi
    have h1 := ih (by omega)
    have h2 := brt_le (v (4 * i)) (by have := (h.2.2.2.2.2.1 i (by omega)).1; omega) w hw
    show brs v a w i + _ ≤ _
    split <;> omega
theorem br_le {v : Nat → Nat} {a w : Nat} (h : OkV v) (hw : w < 5) : br v a w ≤ 16 := by
  have h1 := brs_le (a := a) h hw (v 99) (Nat.le_refl _)
  have h2 := h.1
  unfold br
  omega
theorem walkers_ok {v : Nat → Nat} {s : jM} (hR : RM s 54 0 v) : f_X8_walkers s = some (nI (v 99)) := by
  simp only [f_X8_walkers]
  rw [show ib (99 : Int32) 101 = true from by decide, show Int32.toNatClampNeg (99 : Int32) = 99 from rfl, hR.at (by omega)]
  rfl
theorem of_ok {v : Nat → Nat} {s : jM} {i k : Nat} (hi : i < 8) (hk : k < 4) (hR : RM s 54 0 v) : f_X8_of (nI i) (nI k) s = some (nI (v (4 * i + k))) := by
  simp only [f_X8_of]
  rw [show ((0 : Int32) + 4 * nI i) + nI k = nI (4 * i + k) from by rw [lit_nI 4, pk_mul, show (0 : Int32) = nI 0 from rfl, nI_add, nI_add, Nat.zero_add], ib_nI (by omega), gd_dec (by omega), nI_clamp (by omega), hR.at (by omega)]
theorem bb_loop {v : Nat → Nat} {N a w : Nat} {s : jM} {k2 : Int32 → Option Int32} (h : OkV v) (hR : RM s 54 0 v) (ha : a < 256) (hw : w < 5) : ∀ (m i q : Nat), v 99 - i = m → i ≤ v 99 → m < q → lp_X8_broughtBy_5 N s (nI a) (nI w) k2 q (nI (brs v a w i)) (nI i) = k2 (nI (br v a w)) := by
  intro m
  induction m with
  | zero =>
    intro i q hm hi hq
    obtain ⟨q, rfl⟩ : ∃ r, q = r + 1 := ⟨q - 1, by omega⟩
    have := h.1
    rw [lp_X8_broughtBy_5, walkers_ok hR, Option.bind_some, if_pos (by rw [nI_leI (by omega) (by omega)]; omega), show i = v 99 from by omega]
    rfl
  | succ m ih =>
    intro i q hm hi hq
    obtain ⟨q, rfl⟩ : ∃ r, q = r + 1 := ⟨q - 1, by omega⟩
    have h8 := h.1
    have hk := (h.2.2.2.2.2.1 i (by omega)).1
    rw [lp_X8_broughtBy_5, walkers_ok hR, Option.bind_some, if_neg (by rw [nI_leI (by omega) (by omega)]; omega)]
    simp only [jn_, lt_]
    rw [hold_bit a ha i (by omega), nI_1]
    have e := ih (i + 1) q (by omega) (by omega) (by omega)
    cases hb : a.testBit i with
    | true =>
      have e2 : brs v a w (i + 1) = brs v a w i + brt (v (4 * i)) w := by show brs v a w i + (if a.testBit i then _ else _) = _; rw [hb]; rfl
      rw [if_pos (by decide), show (0 : Int32) = nI 0 from rfl, of_ok (by omega) (by omega) hR, Option.bind_some, Nat.add_zero, bringsOf_ok _ (by omega) w hw, Option.bind_some, nI_add, ← e2]
      exact e
    | false =>
      have e2 : brs v a w (i + 1) = brs v a w i := by show brs v a w i + (if a.testBit i then _ else _) = _; rw [hb]; rfl
      rw [if_neg (by decide), show (0 : Int32) = nI 0 from rfl, nI_add, Nat.add_zero, ← e2]
      exact e
theorem broughtBy_ok {v : Nat → Nat} {N a w : Nat} {s : jM} (hN : 60 < N) (h : OkV v) (hR : RM s 54 0 v) (ha : a < 256) (hw : w < 5) : f_X8_broughtBy N (nI a) (nI w) s = some (nI (br v a w)) := by
  have h8 := h.1
  simp only [f_X8_broughtBy, jn_]
  exact bb_loop h hR ha hw (v 99) 0 N (by omega) (by omega) (by omega)
theorem holds_ok {a i : Nat} (ha : a < 256) (hi : i < 8) : f_X7_holds (nI a) (nI i) = some (if a.testBit i then 1 else 0) := by
  simp only [f_X7_holds]
  rw [hold_bit a ha i hi]
  cases a.testBit i <;> rfl
theorem sb_loop {v : Nat → Nat} {N a w : Nat} {s : jM} {k2 : Int32 → Option Int32} (h : OkV v) (hS : SC s 1 v) (ha : a < 256) (hw : w < 5) : ∀ (m i q : Nat), v 99 - i = m → i ≤ v 99 → m < q → lp_X5_sumBrought_5 N s (nI a) (nI w) k2 q (nI (brs v a w i)) (nI i) = k2 (nI (br v a w)) := by
  intro m
  induction m with
  | zero =>
    intro i q hm hi hq
    obtain ⟨q, rfl⟩ : ∃ r, q = r + 1 := ⟨q - 1, by omega⟩
    have := h.1
    rw [lp_X5_sumBrought_5, hS.1, if_pos (by rw [nI_leI (by omega) (by omega)]; omega), show i = v 99 from by omega]
    rfl
  | succ m ih =>
    intro i q hm hi hq
    obtain ⟨q, rfl⟩ : ∃ r, q = r + 1 := ⟨q - 1, by omega⟩
    have h8 := h.1
    have hk := (h.2.2.2.2.2.1 i (by omega)).1
    have hki := (hS.2.2.2.2.2.1 i (by omega)).1
    have hki' : gI s 2 i = nI (v (4 * i)) := hki
    rw [lp_X5_sumBrought_5, hS.1, if_neg (by rw [nI_leI (by omega) (by omega)]; omega), if_neg (by rw [c_le (by omega) (by omega)]; omega)]
    simp only [jn_, lt_]
    rw [ib_nI (by omega), gd_dec (by omega), nI_clamp (by omega), hki', show nI (v (4 * i)) * (5 : Int32) + nI w = nI (5 * v (4 * i) + w) from by rw [lit_nI 5, pk_mul, nI_add, Nat.mul_comm], holds_ok ha (by omega), Option.bind_some, nI_1]
    have e := ih (i + 1) q (by omega) (by omega) (by omega)
    cases hb : a.testBit i with
    | true =>
      have e2 : brs v a w (i + 1) = brs v a w i + brt (v (4 * i)) w := by show brs v a w i + (if a.testBit i then _ else _) = _; rw [hb]; rfl
      rw [if_neg (by decide), if_neg (by rw [show (0 : Int32) = nI 0 from rfl, nI_ltI (by omega) (by omega)]; omega), if_neg (by rw [c_le (by omega) (by omega)]; omega), ib_nI (by omega), gd_dec (by omega), nI_clamp (by omega), brS_ok _ (by omega) w hw, nI_add, ← e2]
      exact e
    | false =>
      have e2 : brs v a w (i + 1) = brs v a w i := by show brs v a w i + (if a.testBit i then _ else _) = _; rw [hb]; rfl
      rw [if_pos (by decide), ← e2]
      exact e
theorem sumBrought_ok {v : Nat → Nat} {N a w : Nat} {s : jM} (hN : 60 < N) (h : OkV v) (hS : SC s 1 v) (ha : a < 256) (hw : w < 5) : f_X5_sumBrought N (nI a) (nI w) s = some (nI (br v a w)) := by
  have h8 := h.1
  simp only [f_X5_sumBrought, jn_]
  exact sb_loop h hS ha hw (v 99) 0 N (by omega) (by omega) (by omega)
