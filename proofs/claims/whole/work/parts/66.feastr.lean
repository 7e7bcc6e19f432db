/-! the feast in the reference: who is on, who may, who is ahead -/
def RC (s : jM) (on off : Nat → Nat) : Prop := ∀ i, i < 8 → gI s 61 i = enc (on i) ∧ gI s 62 i = enc (off i)
theorem RC.fr {s t : jM} {on off : Nat → Nat} (h : RC s on off) (h1 : ∀ i, gI t 61 i = gI s 61 i) (h2 : ∀ i, gI t 62 i = gI s 62 i) : RC t on off := fun i hi => by rw [h1, h2]; exact h i hi
theorem RC.w {s t : jM} {on off : Nat → Nat} (h : RC s on off) (hf : FrW s t) : RC t on off := h.fr (fun i => fr_gI hf.1 (by decide)) (fun i => fr_gI hf.1 (by decide))
theorem rmsk {f : Nat → Bool} {i : Nat} : nI (msk f i) ||| (if f i then nI (2 ^ i) else 0) = nI (msk f (i + 1)) := msk_step f i
theorem on_loop {v on off : Nat → Nat} {N : Nat} {s : jM} {k2 : Int32 → Option Int32} (h : OkV v) (hR : RM s 54 0 v) (hC : RC s on off) (hF : FOK v 200 on off) : ∀ (j i q : Nat), v 99 - i = j → i ≤ v 99 → j < q → lp_X8_onNow_4 N s k2 q (nI (msk (isOn on off) i)) (nI i) = k2 (nI (onset v on off)) := by
  intro j
  induction j with
  | zero =>
    intro i q hj hi hq
    obtain ⟨q, rfl⟩ : ∃ r, q = r + 1 := ⟨q - 1, by omega⟩
    have := h.1
    rw [lp_X8_onNow_4, walkers_ok hR, Option.bind_some, if_pos (by rw [nI_leI (by omega) (by omega)]; omega), show i = v 99 from by omega]
    rfl
  | succ j ih =>
    intro i q hj hi hq
    obtain ⟨q, rfl⟩ : ∃ r, q = r + 1 := ⟨q - 1, by omega⟩
    have h8 := h.1
    obtain ⟨f1, f2, f3, f4⟩ := hF i
    obtain ⟨g1, g2⟩ := hC i (by omega)
    have e := ih (i + 1) q (by omega) (by omega) (by omega)
    rw [← rmsk] at e
    rw [lp_X8_onNow_4, walkers_ok hR, Option.bind_some, if_neg (by rw [nI_leI (by omega) (by omega)]; omega)]
    simp only [jn_, lt_]
    rw [ib_nI (by omega), gd_dec (by omega), gd_dec (by omega), nI_clamp (by omega), g1, g2, one_shlI i (by omega), nI_1]
    by_cases h0 : on i = 0
    · rw [h0, show enc 0 = -1 from rfl, if_pos rfl]
      have : isOn on off i = false := by simp [isOn, h0]
      rw [this] at e
      exact e
    · rw [enc_pos (by omega), if_neg (nI_ne_m1 (by omega))]
      by_cases h1 : off i = 0
      · rw [h1, show enc 0 = -1 from rfl, if_pos rfl]
        have : isOn on off i = true := by simp [isOn, h1]; omega
        rw [this] at e
        exact e
      · rw [if_neg (fun z => h1 ((enc_m1 (by omega)).mp z))]
        have : isOn on off i = false := by simp [isOn, h1]
        rw [this] at e
        exact e
theorem onNow_ok {v on off : Nat → Nat} {N : Nat} {s : jM} (hN : 60 < N) (h : OkV v) (hR : RM s 54 0 v) (hC : RC s on off) (hF : FOK v 200 on off) : f_X8_onNow N s = some (nI (onset v on off)) := by
  have := h.1
  simp only [f_X8_onNow, jn_]
  exact on_loop h hR hC hF (v 99) 0 N (by omega) (by omega) (by omega)
theorem of1 {v : Nat → Nat} {s : jM} {i : Nat} (hi : i < 8) (hR : RM s 54 0 v) : f_X8_of (nI i) (1 : Int32) s = some (nI (v (4 * i + 1))) := of_ok (k := 1) hi (by omega) hR
theorem of2 {v : Nat → Nat} {s : jM} {i : Nat} (hi : i < 8) (hR : RM s 54 0 v) : f_X8_of (nI i) (2 : Int32) s = some (nI (v (4 * i + 2))) := of_ok (k := 2) hi (by omega) hR
theorem mr_loop {v on off : Nat → Nat} {N m : Nat} {s : jM} {k2 : Int32 → Option Int32} (h : OkV v) (hR : RM s 54 0 v) (hC : RC s on off) (hF : FOK v m on off) (hm : m < 200) : ∀ (j i q : Nat), v 99 - i = j → i ≤ v 99 → j < q → lp_X8_mayStep_4 N s (nI m) k2 q (nI (msk (mayb v m on off) i)) (nI i) = k2 (nI (may v m on off)) := by
  intro j
  induction j with
  | zero =>
    intro i q hj hi hq
    obtain ⟨q, rfl⟩ : ∃ r, q = r + 1 := ⟨q - 1, by omega⟩
    have := h.1
    rw [lp_X8_mayStep_4, walkers_ok hR, Option.bind_some, if_pos (by rw [nI_leI (by omega) (by omega)]; omega), show i = v 99 from by omega]
    rfl
  | succ j ih =>
    intro i q hj hi hq
    obtain ⟨q, rfl⟩ : ∃ r, q = r + 1 := ⟨q - 1, by omega⟩
    have h8 := h.1
    obtain ⟨c1, c2, c3, c4, c5⟩ := h.2.2.2.2.2.1 i (by omega)
    obtain ⟨f1, f2, f3, f4⟩ := hF i
    obtain ⟨g1, g2⟩ := hC i (by omega)
    have e := ih (i + 1) q (by omega) (by omega) (by omega)
    rw [← rmsk] at e
    have hmb : mayb v m on off i = ((isOn on off i && decide (v (4 * i + 1) ≤ m - (on i - 1))) || (decide (on i = 0) && decide (v (4 * i + 2) ≤ m))) := rfl
    rw [lp_X8_mayStep_4, walkers_ok hR, Option.bind_some, if_neg (by rw [nI_leI (by omega) (by omega)]; omega)]
    simp only [jn_, lt_]
    rw [ib_nI (by omega)]
    simp only [gd_dec (show i < 8 by omega)]
    rw [nI_clamp (by omega), g1, g2, of1 (by omega) hR, Option.bind_some, of2 (by omega) hR, Option.bind_some, one_shlI i (by omega), nI_1]
    by_cases h0 : on i = 0
    · have ho : isOn on off i = false := by simp [isOn, h0]
      rw [ho] at hmb
      rw [h0, show enc 0 = -1 from rfl]
      simp only [if_true]
      by_cases hcm : v (4 * i + 2) ≤ m
      · rw [if_neg (by rw [nI_ltI (by omega) (by omega)]; omega)]
        have : mayb v m on off i = true := by rw [hmb]; simp [h0, hcm]
        rw [this] at e
        exact e
      · rw [if_pos (by rw [nI_ltI (by omega) (by omega)]; omega)]
        have : mayb v m on off i = false := by rw [hmb]; simp [h0, hcm]
        rw [this] at e
        exact e
    · rw [enc_pos (by omega), if_neg (nI_ne_m1 (by omega))]
      by_cases h1 : off i = 0
      · have ho : isOn on off i = true := by simp [isOn, h1]; omega
        rw [ho] at hmb
        rw [h1, show enc 0 = -1 from rfl]
        simp only [if_true]
        rw [pk_sub (by omega)]
        by_cases htm : v (4 * i + 1) ≤ m - (on i - 1)
        · rw [if_neg (by rw [nI_ltI (by omega) (by omega)]; omega)]
          have : mayb v m on off i = true := by rw [hmb]; simp [htm]
          rw [this] at e
          rw [if_neg (by decide)]
          exact e
        · rw [if_pos (by rw [nI_ltI (by omega) (by omega)]; omega)]
          have : mayb v m on off i = false := by rw [hmb]; simp [htm, h0]
          rw [this] at e
          try rw [if_neg (nI_ne_m1 (by omega))]
          exact e
      · have ho : isOn on off i = false := by simp [isOn, h1]
        rw [ho] at hmb
        rw [if_neg (fun z => h1 ((enc_m1 (by omega)).mp z))]
        have : mayb v m on off i = false := by rw [hmb]; simp [h0]
        rw [this] at e
        simp only [if_true]
        try rw [if_neg (nI_ne_m1 (by omega))]
        exact e
theorem mayStepR_ok {v on off : Nat → Nat} {N m : Nat} {s : jM} (hN : 60 < N) (h : OkV v) (hR : RM s 54 0 v) (hC : RC s on off) (hF : FOK v m on off) (hm : m < 200) : f_X8_mayStep N (nI m) s = some (nI (may v m on off)) := by
  have := h.1
  simp only [f_X8_mayStep, jn_]
  exact mr_loop h hR hC hF hm (v 99) 0 N (by omega) (by omega) (by omega)
theorem ar_loop {v on off : Nat → Nat} {N m S : Nat} {s : jM} {k2 : Int32 → Option Int32} (h : OkV v) (hR : RM s 54 0 v) (hC : RC s on off) (hF : FOK v m on off) (hm : m < 200) (hS : S < 256) : ∀ (j i q : Nat), v 99 - i = j → i ≤ v 99 → j < q → lp_X8_ahead__5 N s (nI S) (nI m) k2 q (nI (msk (fun i => S.testBit i && ahb v m on i) i)) (nI i) = k2 (nI (ahd v m on S)) := by
  intro j
  induction j with
  | zero =>
    intro i q hj hi hq
    obtain ⟨q, rfl⟩ : ∃ r, q = r + 1 := ⟨q - 1, by omega⟩
    have := h.1
    rw [lp_X8_ahead__5, walkers_ok hR, Option.bind_some, if_pos (by rw [nI_leI (by omega) (by omega)]; omega), show i = v 99 from by omega]
    rfl
  | succ j ih =>
    intro i q hj hi hq
    obtain ⟨q, rfl⟩ : ∃ r, q = r + 1 := ⟨q - 1, by omega⟩
    have h8 := h.1
    have hw := h.2.2.2.1
    obtain ⟨f1, f2, f3, f4⟩ := hF i
    obtain ⟨g1, g2⟩ := hC i (by omega)
    have e := ih (i + 1) q (by omega) (by omega) (by omega)
    rw [← rmsk] at e
    rw [lp_X8_ahead__5, walkers_ok hR, Option.bind_some, if_neg (by rw [nI_leI (by omega) (by omega)]; omega)]
    simp only [jn_, lt_]
    rw [hold_bit S hS i (by omega), ib_nI (by omega)]
    simp only [gd_dec (show i < 8 by omega)]
    rw [nI_clamp (by omega), g1, show ib (32 : Int32) 101 = true from by decide, gd_true, show Int32.toNatClampNeg (32 : Int32) = 32 from rfl, hR.at (by omega), one_shlI i (by omega), nI_1]
    cases hb : S.testBit i with
    | false =>
      rw [hb] at e
      exact e
    | true =>
      rw [hb] at e
      simp only [if_true, Bool.true_and] at e ⊢
      by_cases h0 : on i = 0
      · rw [h0, show enc 0 = -1 from rfl, if_pos rfl]
        have : ahb v m on i = true := by simp [ahb, h0]
        rw [this] at e
        exact e
      · rw [enc_pos (by omega), if_neg (nI_ne_m1 (by omega)), pk_sub (by omega)]
        by_cases ht : v 32 ≤ m - (on i - 1)
        · rw [if_pos (by rw [nI_leI (by omega) (by omega)]; exact ht)]
          have : ahb v m on i = false := by simp [ahb, h0]; omega
          rw [this] at e
          exact e
        · rw [if_neg (by rw [nI_leI (by omega) (by omega)]; exact ht)]
          have : ahb v m on i = true := by simp [ahb]; omega
          rw [this] at e
          exact e
theorem aheadR_ok {v on off : Nat → Nat} {N m S : Nat} {s : jM} (hN : 60 < N) (h : OkV v) (hR : RM s 54 0 v) (hC : RC s on off) (hF : FOK v m on off) (hm : m < 200) (hS : S < 256) : f_X8_ahead_ N (nI S) (nI m) s = some (nI (ahd v m on S)) := by
  have := h.1
  simp only [f_X8_ahead_, jn_]
  exact ar_loop h hR hC hF hm hS (v 99) 0 N (by omega) (by omega) (by omega)
theorem wellBR {v : Nat → Nat} {N a m : Nat} {s : jM} (hN : 60 < N) (h : OkV v) (hR : RM s 54 0 v) (ha : a < 256) (hm : m < 200) : ∃ s', f_X8_isWell N (nI a) (nI m) (0 : Int32) s = some (if wellB v a 0 m then 1 else 0, s') ∧ FrW s s' := by
  obtain ⟨s', r, r1, r2, r3, r4⟩ := isWell_ok (k := 0) hN h hR ha (show m < 2 ^ 31 by omega) (by omega)
  have r1' : f_X8_isWell N (nI a) (nI m) (0 : Int32) s = some (r, s') := r1
  refine ⟨s', ?_, r2⟩
  rw [r1']
  cases hb : wellB v a 0 m with
  | true => rw [r4.mpr (wellB_iff.mp hb)]; rfl
  | false =>
    rcases r3 with hr | hr
    · rw [hr]; rfl
    · have := wellB_iff.mpr (r4.mp hr); rw [this] at hb; cases hb
theorem isWellOn_ok {v on off : Nat → Nat} {N m S : Nat} {s : jM} (hN : 60 < N) (h : OkV v) (hR : RM s 54 0 v) (hC : RC s on off) (hF : FOK v m on off) (hm : m < 200) (hS : S < 256) (hSW : ∀ i, S.testBit i = true → i < v 99) :
    ∃ s', f_X8_isWellOn N (nI S) (nI m) s = some (if wellOn v m on S then 1 else 0, s') ∧ FrW s s' := by
  have hw := h.2.2.2.1
  simp only [f_X8_isWellOn, jn_]
  rw [show ib (32 : Int32) 101 = true from by decide, gd_true, show Int32.toNatClampNeg (32 : Int32) = 32 from rfl, hR.at (by omega)]
  unfold wellOn
  by_cases h0 : v 32 = 0
  · rw [h0, if_pos (by decide), if_pos rfl]
    obtain ⟨t, t1, t2⟩ := wellBR hN h hR hS hm
    refine ⟨t, ?_, t2⟩
    rw [t1, Option.bind_some]
    cases wellB v S 0 m <;> rfl
  · rw [if_neg (nI_ne0 (by omega) (by omega)), if_neg h0, aheadR_ok hN h hR hC hF hm hS, Option.bind_some]
    have l1 : ahd v m on S < 256 := msk_256 h
    have l2 : bhd v m on S < 256 := msk_256 h
    have e2 : nI S &&& (nI (ahd v m on S) ^^^ (-1)) = nI (bhd v m on S) := by
      rw [and_not hS]
      congr 1
      apply Nat.eq_of_testBit_eq
      intro i
      unfold bhd ahd
      rw [msk_bit, msk_bit, msk_bit]
      cases hb : S.testBit i with
      | false => simp
      | true =>
        have h1 := hSW i hb
        have h2 := h.1
        have h3 : i < 8 := by omega
        simp [h1, h3]
    obtain ⟨t, t1, t2⟩ := wellBR hN h hR l1 hm
    obtain ⟨u, u1, u2⟩ := wellBR hN h (hR.w t2 (by decide)) l2 hm
    rw [t1, Option.bind_some, e2]
    simp only
    cases hw1 : wellB v (ahd v m on S) 0 m with
    | false =>
      exact ⟨t, rfl, t2⟩
    | true =>
      rw [if_neg (by decide), u1, Option.bind_some]
      cases hw2 : wellB v (bhd v m on S) 0 m with
      | false => exact ⟨u, rfl, t2.tr u2⟩
      | true => exact ⟨u, rfl, t2.tr u2⟩
