/-! the feast in the class -/
def FC (s : jM) (v on off : Nat → Nat) : Prop := gI s 37 5 = nI (onset v on off) ∧ ∀ i, i < 8 → gI s 39 i = enc (on i) ∧ gI s 40 i = enc (off i)
theorem SC.tm {s : jM} {v : Nat → Nat} {i : Nat} (h : SC s 1 v) (hi : i < v 99) : gI s 3 i = nI (v (4 * i + 1)) ∧ gI s 4 i = nI (v (4 * i + 2)) := ⟨(h.2.2.2.2.2.1 i hi).2.1, (h.2.2.2.2.2.1 i hi).2.2.1⟩
theorem ms_loop {v on off : Nat → Nat} {N m : Nat} {s : jM} {k2 : Int32 → Option Int32} (h : OkV v) (hS : SC s 1 v) (hC : FC s v on off) (hF : FOK v m on off) (hm : m < 200) : ∀ (j i q : Nat), v 99 - i = j → i ≤ v 99 → j < q → lp_X1_mayStep_4 N s (nI m) k2 q (nI (msk (mayb v m on off) i)) (nI i) = k2 (nI (may v m on off)) := by
  intro j
  induction j with
  | zero =>
    intro i q hj hi hq
    obtain ⟨q, rfl⟩ : ∃ r, q = r + 1 := ⟨q - 1, by omega⟩
    have := h.1
    rw [lp_X1_mayStep_4, hS.1, if_pos (by rw [nI_leI (by omega) (by omega)]; omega), show i = v 99 from by omega]
    rfl
  | succ j ih =>
    intro i q hj hi hq
    obtain ⟨q, rfl⟩ : ∃ r, q = r + 1 := ⟨q - 1, by omega⟩
    have h8 := h.1
    have hiW : i < v 99 := by omega
    obtain ⟨t1, t2⟩ := hS.tm hiW
    obtain ⟨c1, c2, c3, c4, c5⟩ := h.2.2.2.2.2.1 i hiW
    obtain ⟨f1, f2, f3, f4⟩ := hF i
    obtain ⟨g1, g2⟩ := hC.2 i (by omega)
    have e := ih (i + 1) q (by omega) (by omega) (by omega)
    rw [← msk_step] at e
    rw [lp_X1_mayStep_4, hS.1, if_neg (by rw [nI_leI (by omega) (by omega)]; omega), if_neg (by rw [c_le (by omega) (by omega)]; omega)]
    simp only [jn_, lt_]
    rw [hC.1, holds_ok (onset_lt h) (by omega), Option.bind_some, on_bit, ib_nI (by omega), nI_clamp (by omega), t1, t2, g1, one_shlI i (by omega), nI_1]
    simp only [gd_dec (show i < 8 by omega)]
    have hmb : mayb v m on off i = ((isOn on off i && decide (v (4 * i + 1) ≤ m - (on i - 1))) || (decide (on i = 0) && decide (v (4 * i + 2) ≤ m))) := rfl
    have hbi : (decide (i < v 99) && isOn on off i) = isOn on off i := by simp [hiW]
    rw [hbi]
    have e0 : mayb v m on off i = false → lp_X1_mayStep_4 N s (nI m) k2 q (nI (msk (mayb v m on off) i)) (nI (i + 1)) = k2 (nI (may v m on off)) := fun hT => by
      rw [hT] at e
      simp only [Bool.false_eq_true, if_false] at e
      rw [nI_or, Nat.or_zero] at e
      exact e
    have e1 : mayb v m on off i = true → lp_X1_mayStep_4 N s (nI m) k2 q (nI (msk (mayb v m on off) i) ||| nI (2 ^ i)) (nI (i + 1)) = k2 (nI (may v m on off)) := fun hT => by
      rw [hT] at e
      simp only [if_true] at e
      exact e
    by_cases h0 : on i = 0
    · have ho : isOn on off i = false := by simp [isOn, h0]
      rw [ho] at hmb ⊢
      rw [h0]
      rw [show enc 0 = -1 from rfl]
      simp only [Bool.false_eq_true, if_false, if_true]
      by_cases hcm : v (4 * i + 2) ≤ m
      · rw [if_neg (by rw [nI_ltI (by omega) (by omega)]; omega), if_neg (by decide)]
        exact e1 (by rw [hmb]; simp [h0, hcm])
      · rw [if_pos (by rw [nI_ltI (by omega) (by omega)]; omega)]
        exact e0 (by rw [hmb]; simp [h0, hcm])
    · have hpos : 0 < on i := by omega
      rw [enc_pos hpos, if_neg (nI_ne_m1 (by omega))]
      cases ho : isOn on off i with
      | false =>
        rw [ho] at hmb
        simp only [Bool.false_eq_true, if_false, if_true]
        exact e0 (by rw [hmb]; simp [h0])
      | true =>
        rw [ho] at hmb
        simp only [if_true]
        rw [if_neg (by decide), pk_sub (by omega)]
        by_cases htm : v (4 * i + 1) ≤ m - (on i - 1)
        · rw [if_neg (by rw [nI_ltI (by omega) (by omega)]; omega), if_neg (nI_ne_m1 (by omega)), if_neg (by decide)]
          exact e1 (by rw [hmb]; simp [htm])
        · rw [if_pos (by rw [nI_ltI (by omega) (by omega)]; omega)]
          exact e0 (by rw [hmb]; simp [htm, h0])
theorem mayStep_ok {v on off : Nat → Nat} {N m : Nat} {s : jM} (hN : 60 < N) (h : OkV v) (hS : SC s 1 v) (hC : FC s v on off) (hF : FOK v m on off) (hm : m < 200) : f_X1_mayStep N (nI m) s = some (nI (may v m on off)) := by
  have := h.1
  simp only [f_X1_mayStep, jn_]
  exact ms_loop h hS hC hF hm (v 99) 0 N (by omega) (by omega) (by omega)
