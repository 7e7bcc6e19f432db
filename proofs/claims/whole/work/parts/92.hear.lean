/-! disputes -/
def sayb (v : Nat → Nat) (but m i : Nat) : Bool := !but.testBit i && (decide (v (75 + 3 * i + 1) ≤ m) && decide (m ≤ v (75 + 3 * i + 2)))
def sO (v : Nat → Nat) (but m : Nat) : Nat → Nat
  | 0 => 0
  | i + 1 => if sayb v but m i then sO v but m i ||| 2 ^ v (75 + 3 * i) else sO v but m i
def onB (v : Nat → Nat) (but m : Nat) : Nat := sO v but m (v 100)
theorem sO_lt {v : Nat → Nat} {but m : Nat} (h : OkV v) : ∀ i, i ≤ v 100 → sO v but m i < 256 := by
  intro i
  induction i with
  | zero => intro _; show 0 < 256; omega
  | succ i ih =>
    intro hi
    have h1 := ih (by omega)
    have h2 := (h.2.2.2.2.2.2.2 i (by omega)).1
    have h8 := h.1
    have h3 : 2 ^ v (75 + 3 * i) < 2 ^ 8 := Nat.pow_lt_pow_right (by omega) (by omega)
    simp only [sO]
    split
    · exact Nat.or_lt_two_pow (n := 8) h1 h3
    · exact h1
theorem onB_lt {v : Nat → Nat} {but m : Nat} (h : OkV v) : onB v but m < 256 := sO_lt h _ (Nat.le_refl _)
theorem cb_loop {v : Nat → Nat} {N but m : Nat} {s : jM} {k2 : Int32 → Option Int32} (h : OkV v) (hS : SC s 1 v) (hb : but < 256) (hm : m < 63) : ∀ (j i q : Nat), v 100 - i = j → i ≤ v 100 → j < q → lp_X3_onBut_5 N s (nI but) (nI m) k2 q (nI (sO v but m i)) (nI i) = k2 (nI (onB v but m)) := by
  intro j
  induction j with
  | zero =>
    intro i q hj hi hq
    obtain ⟨q, rfl⟩ : ∃ r, q = r + 1 := ⟨q - 1, by omega⟩
    have := h.2.1
    rw [lp_X3_onBut_5, hS.2.2.2.2.1, if_pos (by rw [nI_leI (by omega) (by omega)]; omega), show i = v 100 from by omega]
    rfl
  | succ j ih =>
    intro i q hj hi hq
    obtain ⟨q, rfl⟩ : ∃ r, q = r + 1 := ⟨q - 1, by omega⟩
    have hs8 := h.2.1
    have h8 := h.1
    obtain ⟨o1, o2, o3⟩ := h.2.2.2.2.2.2.2 i (by omega)
    obtain ⟨c1, c2, c3⟩ := hS.2.2.2.2.2.2.2 i (by omega)
    have c1' : gI s 7 i = nI (v (75 + 3 * i)) := c1
    have c2' : gI s 8 i = nI (v (75 + 3 * i + 1)) := c2
    have c3' : gI s 9 i = nI (v (75 + 3 * i + 2)) := c3
    have e := ih (i + 1) q (by omega) (by omega) (by omega)
    simp only [sO] at e
    have hsb : sayb v but m i = (!but.testBit i && (decide (v (75 + 3 * i + 1) ≤ m) && decide (m ≤ v (75 + 3 * i + 2)))) := rfl
    rw [lp_X3_onBut_5, hS.2.2.2.2.1, if_neg (by rw [nI_leI (by omega) (by omega)]; omega), if_neg (by rw [c_le (by omega) (by omega)]; omega)]
    simp only [jn_, lt_]
    rw [holds_ok hb (by omega), Option.bind_some, nI_1, ib_nI (by omega), gd_dec (by omega), gd_dec (by omega), gd_dec (by omega), nI_clamp (by omega), c1', c2', c3', one_shlI _ (by omega), nI_or]
    cases hbi : but.testBit i with
    | true =>
      rw [hbi] at hsb
      rw [if_neg (by decide)]
      rw [show sayb v but m i = false from by rw [hsb]; rfl] at e
      exact e
    | false =>
      rw [hbi] at hsb
      rw [if_pos (by decide)]
      by_cases h1 : v (75 + 3 * i + 1) ≤ m
      · rw [if_neg (by rw [nI_ltI (by omega) (by omega)]; omega)]
        by_cases h2 : m ≤ v (75 + 3 * i + 2)
        · rw [if_neg (by rw [nI_ltI (by omega) (by omega)]; omega)]
          rw [show sayb v but m i = true from by rw [hsb]; simp [h1, h2]] at e
          exact e
        · rw [if_pos (by rw [nI_ltI (by omega) (by omega)]; omega)]
          rw [show sayb v but m i = false from by rw [hsb]; simp [h2]] at e
          exact e
      · rw [if_pos (by rw [nI_ltI (by omega) (by omega)]; omega)]
        rw [show sayb v but m i = false from by rw [hsb]; simp [h1]] at e
        exact e
theorem onBut_ok {v : Nat → Nat} {N but m : Nat} {s : jM} (hN : 60 < N) (h : OkV v) (hS : SC s 1 v) (hb : but < 256) (hm : m < 63) : f_X3_onBut N (nI but) (nI m) s = some (nI (onB v but m)) := by
  have := h.2.1
  simp only [f_X3_onBut, jn_]
  exact cb_loop h hS hb hm (v 100) 0 N (by omega) (by omega) (by omega)
theorem rb_loop {v : Nat → Nat} {N but m : Nat} {s : jM} {k2 : Int32 → Option Int32} (h : OkV v) (hR : RM s 54 0 v) (hb : but < 256) (hm : m < 63) : ∀ (j i q : Nat), v 100 - i = j → i ≤ v 100 → j < q → lp_X8_onBy_5 N s (nI m) (nI but) k2 q (nI (sO v but m i)) (nI i) = k2 (nI (onB v but m)) := by
  intro j
  induction j with
  | zero =>
    intro i q hj hi hq
    obtain ⟨q, rfl⟩ : ∃ r, q = r + 1 := ⟨q - 1, by omega⟩
    have := h.2.1
    rw [lp_X8_onBy_5, said_ok hR, Option.bind_some, if_pos (by rw [nI_leI (by omega) (by omega)]; omega), show i = v 100 from by omega]
    rfl
  | succ j ih =>
    intro i q hj hi hq
    obtain ⟨q, rfl⟩ : ∃ r, q = r + 1 := ⟨q - 1, by omega⟩
    have hs8 := h.2.1
    have h8 := h.1
    obtain ⟨o1, o2, o3⟩ := h.2.2.2.2.2.2.2 i (by omega)
    have e := ih (i + 1) q (by omega) (by omega) (by omega)
    simp only [sO] at e
    have i0 : (75 : Int32) + (3 : Int32) * nI i = nI (75 + 3 * i) := by rw [lit_nI 3, pk_mul, lit_nI 75, nI_add]
    have hin : f_X8_in (Int32.toInt64 (nI m)) (Int32.toInt64 (nI (v (75 + 3 * i + 1)))) (Int32.toInt64 (nI (v (75 + 3 * i + 2)))) = some (if v (75 + 3 * i + 1) ≤ m ∧ m ≤ v (75 + 3 * i + 2) then 1 else 0) := by
      rw [in_eq, within_n (by omega) (by omega) (by omega)]
    have hsb : sayb v but m i = (!but.testBit i && (decide (v (75 + 3 * i + 1) ≤ m) && decide (m ≤ v (75 + 3 * i + 2)))) := rfl
    rw [lp_X8_onBy_5, said_ok hR, Option.bind_some, if_neg (by rw [nI_leI (by omega) (by omega)]; omega)]
    simp only [jn_, lt_]
    rw [hold_bit but hb i (by omega), i0, show nI (75 + 3 * i) + (1 : Int32) = nI (75 + 3 * i + 1) from nI_1 _, show nI (75 + 3 * i) + (2 : Int32) = nI (75 + 3 * i + 2) from nI_add _ 2, ib_nI (by omega), ib_nI (by omega), ib_nI (by omega)]
    simp only [gd_dec (show 75 + 3 * i < 101 by omega), gd_dec (show 75 + 3 * i + 1 < 101 by omega), gd_dec (show 75 + 3 * i + 2 < 101 by omega)]
    rw [nI_clamp (by omega), nI_clamp (by omega), nI_clamp (by omega), hR.at (by omega), hR.at (by omega), hR.at (by omega), hin, Option.bind_some, one_shlI _ (by omega), nI_or, nI_1, show nI (sO v but m i) ||| (0 : Int32) = nI (sO v but m i) from by rw [show (0 : Int32) = nI 0 from rfl, nI_or, Nat.or_zero]]
    cases hbi : but.testBit i with
    | true =>
      rw [hbi] at hsb
      rw [if_neg (by decide), if_pos trivial]
      rw [show sayb v but m i = false from by rw [hsb]; rfl] at e
      exact e
    | false =>
      rw [hbi] at hsb
      rw [if_pos (by decide)]
      by_cases h1 : v (75 + 3 * i + 1) ≤ m ∧ m ≤ v (75 + 3 * i + 2)
      · rw [if_pos h1, if_neg (by decide), if_neg (by decide)]
        rw [show sayb v but m i = true from by rw [hsb]; simp [h1.1, h1.2]] at e
        exact e
      · rw [if_neg h1, if_pos rfl, if_pos trivial]
        rw [show sayb v but m i = false from by rw [hsb]; simp; omega] at e
        exact e
theorem onBy_ok {v : Nat → Nat} {N but m : Nat} {s : jM} (hN : 60 < N) (h : OkV v) (hR : RM s 54 0 v) (hb : but < 256) (hm : m < 63) : f_X8_onBy N (nI m) (nI but) s = some (nI (onB v but m)) := by
  have := h.2.1
  simp only [f_X8_onBy, jn_]
  exact rb_loop h hR hb hm (v 100) 0 N (by omega) (by omega) (by omega)
noncomputable def wlM (v : Nat → Nat) (but m : Nat) : Bool := wellB v (onB v but m) 0 m
noncomputable def dB (v : Nat → Nat) (but : Nat) : Nat → Int64
  | 0 => 0
  | m + 1 => if wlM v but m then dB v but m else dB v but m ||| lN (2 ^ m)
noncomputable def aB (v : Nat → Nat) (but : Nat) : Nat → Bool
  | 0 => true
  | m + 1 => aB v but m && wlM v but m
theorem dB_s (v : Nat → Nat) (but i : Nat) : dB v but (i + 1) = if wlM v but i then dB v but i else dB v but i ||| lN (2 ^ i) := rfl
theorem dB_hb {v : Nat → Nat} {but c : Nat} (hc : c < 64) : ∀ n, n ≤ 63 → hb (dB v but n) c = (decide (c < n) && !wlM v but c) := by
  intro n
  induction n with
  | zero => intro _; rw [show dB v but 0 = 0 from rfl, hb_zero]; simp
  | succ n ih =>
    intro hn
    have h := ih (by omega)
    simp only [dB]
    cases hw : wlM v but n with
    | true =>
      rw [if_pos rfl, h]
      by_cases hcn : c = n
      · rw [hcn, hw]; simp
      · have : (c < n + 1) = (c < n) := by apply propext; omega
        simp only [this]
    | false =>
      rw [if_neg (by decide), hb_or (by omega), h]
      by_cases hcn : c = n
      · rw [hcn, hw]; simp
      · have : (c < n + 1) = (c < n) := by apply propext; omega
        simp only [this]
        simp [hcn]
theorem dB_aB {v : Nat → Nat} {but : Nat} : ∀ n, n ≤ 63 → (dB v but n = 0 ↔ aB v but n = true) := by
  intro n
  induction n with
  | zero => intro _; exact ⟨fun _ => rfl, fun _ => rfl⟩
  | succ n ih =>
    intro hn
    have h := ih (by omega)
    cases hw : wlM v but n with
    | true =>
      simp only [dB, aB]
      rw [hw, if_pos rfl, Bool.and_true]
      exact h
    | false =>
      refine ⟨fun z => ?_, fun z => by simp only [aB] at z; rw [hw] at z; simp at z⟩
      have := dB_hb (v := v) (but := but) (c := n) (by omega) (n + 1) hn
      rw [z, hb_zero, hw] at this
      simp at this
theorem aB_mono {v : Nat → Nat} {but k : Nat} : ∀ n, k ≤ n → aB v but n = true → aB v but k = true := by
  intro n
  induction n with
  | zero => intro hk _; rw [show k = 0 from by omega]; rfl
  | succ n ih =>
    intro hk h
    by_cases hkn : k = n + 1
    · rw [hkn]; exact h
    · simp only [aB, Bool.and_eq_true] at h
      exact ih (by omega) h.1
theorem mu_loop {v : Nat → Nat} {N but : Nat} (hN : 1000 < N) (h : OkV v) (hb : but < 256) : ∀ (j i : Nat) (s : jM) (q : Nat), 63 - i = j → i ≤ 63 → j < q → KN s v →
    ∃ s', (∀ k3, lp_X3_minutesUnwell_5 N (nI but) k3 q (dB v but i) (nI i) s = k3 (dB v but 63) s') ∧ FrJ s s' ∧ JI s' v := by
  intro j
  induction j with
  | zero =>
    intro i s q hj hi hq hK
    obtain ⟨q, rfl⟩ : ∃ r, q = r + 1 := ⟨q - 1, by omega⟩
    refine ⟨s, fun k3 => ?_, FrJ.rf, hK.2.2⟩
    rw [lp_X3_minutesUnwell_5, if_pos (by rw [c_le (by omega) (by omega)]; omega), show i = 63 from by omega]
  | succ j ih =>
    intro i s q hj hi hq hK
    obtain ⟨q, rfl⟩ : ∃ r, q = r + 1 := ⟨q - 1, by omega⟩
    obtain ⟨t, t1, t2, t3⟩ := judgeB (N := N) (a := onB v but i) (m := i) hN h hK.1 hK.2.1 hK.2.2 (onB_lt h) (by omega)
    obtain ⟨s', e1, e2, e3⟩ := ih (i + 1) t q (by omega) (by omega) (by omega) (hK.j t2 t3)
    refine ⟨s', fun k3 => ?_, t2.tr e2, e3⟩
    have e := e1 k3
    rw [dB_s v but i] at e
    rw [lp_X3_minutesUnwell_5, if_neg (by rw [c_le (by omega) (by omega)]; omega)]
    simp only [jn_, lt_]
    rw [onBut_ok (by omega) h hK.1 hb (by omega), Option.bind_some, t1, Option.bind_some, nI_1, one_shl i (by omega)]
    have hw : wlM v but i = wellB v (onB v but i) 0 i := rfl
    rw [hw] at e
    cases hq : wellB v (onB v but i) 0 i with
    | true =>
      rw [hq] at e
      simp only [if_true] at e ⊢
      rw [if_neg (by decide)]
      exact e
    | false =>
      rw [hq] at e
      simp only [Bool.false_eq_true, if_false, if_true] at e ⊢
      exact e
theorem minutesUnwell_ok {v : Nat → Nat} {N but : Nat} {s : jM} (hN : 1000 < N) (h : OkV v) (hb : but < 256) (hK : KN s v) : ∃ s', f_X3_minutesUnwell N (nI but) s = some (dB v but 63, s') ∧ FrJ s s' ∧ JI s' v := by
  obtain ⟨s', e1, e2, e3⟩ := mu_loop (N := N) hN h hb 63 0 s N rfl (by omega) (by omega) hK
  refine ⟨s', ?_, e2, e3⟩
  simp only [f_X3_minutesUnwell, jn_]
  exact e1 (fun y1 s2 => some (y1, s2))
theorem do_loop {v : Nat → Nat} {N but : Nat} (hN : 1000 < N) (h : OkV v) (hb : but < 256) : ∀ (j i : Nat) (s : jM) (q : Nat), 63 - i = j → i ≤ 63 → j < q → RM s 54 0 v →
    ∃ s', (∀ k3, lp_X8_disputeOf_5 N (nI but) k3 q (dB v but i) (nI i) s = k3 (dB v but 63) s') ∧ FrW s s' := by
  intro j
  induction j with
  | zero =>
    intro i s q hj hi hq hK
    obtain ⟨q, rfl⟩ : ∃ r, q = r + 1 := ⟨q - 1, by omega⟩
    refine ⟨s, fun k3 => ?_, FrW.rf⟩
    rw [lp_X8_disputeOf_5, if_pos (by rw [c_le (by omega) (by omega)]; omega), show i = 63 from by omega]
  | succ j ih =>
    intro i s q hj hi hq hK
    obtain ⟨q, rfl⟩ : ∃ r, q = r + 1 := ⟨q - 1, by omega⟩
    obtain ⟨t, t1, t2⟩ := wellBR (N := N) (a := onB v but i) (m := i) (by omega) h hK (onB_lt h) (by omega)
    obtain ⟨s', e1, e2⟩ := ih (i + 1) t q (by omega) (by omega) (by omega) (hK.w t2 (by decide))
    refine ⟨s', fun k3 => ?_, t2.tr e2⟩
    have e := e1 k3
    rw [dB_s v but i] at e
    rw [lp_X8_disputeOf_5, if_neg (by rw [c_le (by omega) (by omega)]; omega)]
    simp only [jn_, lt_]
    rw [onBy_ok (by omega) h hK hb (by omega), Option.bind_some, t1, Option.bind_some, nI_1, one_shl i (by omega), Int64.or_zero]
    have hw : wlM v but i = wellB v (onB v but i) 0 i := rfl
    rw [hw] at e
    cases hq : wellB v (onB v but i) 0 i with
    | true =>
      rw [hq] at e
      simp only [if_true] at e ⊢
      rw [if_neg (by decide)]
      exact e
    | false =>
      rw [hq] at e
      simp only [Bool.false_eq_true, if_false, if_true] at e ⊢
      exact e
theorem disputeOf_ok {v : Nat → Nat} {N but : Nat} {s : jM} (hN : 1000 < N) (h : OkV v) (hb : but < 256) (hK : RM s 54 0 v) : ∃ s', f_X8_disputeOf N (nI but) s = some (dB v but 63, s') ∧ FrW s s' := by
  obtain ⟨s', e1, e2⟩ := do_loop (N := N) hN h hb 63 0 s N rfl (by omega) (by omega) hK
  refine ⟨s', ?_, e2⟩
  simp only [f_X8_disputeOf, jn_]
  exact e1 (fun y1 s2 => some (y1, s2))
theorem al_loop {v : Nat → Nat} {N but : Nat} (hN : 1000 < N) (h : OkV v) (hb : but < 256) : ∀ (j i : Nat) (s : jM) (q : Nat), 63 - i = j → i ≤ 63 → j < q → KN s v → aB v but i = true →
    ∃ s', lp_X3_allWellBut_2 N (nI but) q (nI i) s = some (if aB v but 63 then 1 else 0, s') ∧ FrJ s s' ∧ JI s' v := by
  intro j
  induction j with
  | zero =>
    intro i s q hj hi hq hK ha
    obtain ⟨q, rfl⟩ : ∃ r, q = r + 1 := ⟨q - 1, by omega⟩
    refine ⟨s, ?_, FrJ.rf, hK.2.2⟩
    rw [show i = 63 from by omega] at ha
    rw [lp_X3_allWellBut_2, if_pos (by rw [c_le (by omega) (by omega)]; omega), ha]
    rfl
  | succ j ih =>
    intro i s q hj hi hq hK ha
    obtain ⟨q, rfl⟩ : ∃ r, q = r + 1 := ⟨q - 1, by omega⟩
    obtain ⟨t, t1, t2, t3⟩ := judgeB (N := N) (a := onB v but i) (m := i) hN h hK.1 hK.2.1 hK.2.2 (onB_lt h) (by omega)
    have hw : wlM v but i = wellB v (onB v but i) 0 i := rfl
    rw [lp_X3_allWellBut_2, if_neg (by rw [c_le (by omega) (by omega)]; omega), onBut_ok (by omega) h hK.1 hb (by omega), Option.bind_some, t1, Option.bind_some]
    simp only [lt_]
    rw [nI_1]
    cases hq : wellB v (onB v but i) 0 i with
    | true =>
      obtain ⟨s', e1, e2, e3⟩ := ih (i + 1) t q (by omega) (by omega) (by omega) (hK.j t2 t3) (by simp only [aB]; rw [ha, hw, hq]; rfl)
      refine ⟨s', ?_, t2.tr e2, e3⟩
      simp only [if_true]
      rw [if_neg (by decide)]
      exact e1
    | false =>
      refine ⟨t, ?_, t2, t3⟩
      simp only [Bool.false_eq_true, if_false, if_true]
      have : aB v but 63 = false := by
        cases hz : aB v but 63 with
        | false => rfl
        | true =>
          have := aB_mono (k := i + 1) 63 (by omega) hz
          simp only [aB] at this
          rw [hw, hq] at this
          simp at this
      rw [this]
      rfl
theorem allWellBut_ok {v : Nat → Nat} {N but : Nat} {s : jM} (hN : 1000 < N) (h : OkV v) (hb : but < 256) (hK : KN s v) : ∃ s', f_X3_allWellBut N (nI but) s = some (if aB v but 63 then 1 else 0, s') ∧ FrJ s s' ∧ JI s' v := by
  simp only [f_X3_allWellBut]
  exact al_loop (N := N) hN h hb 63 0 s N rfl (by omega) (by omega) hK rfl
