/-! all over in companies, in the reference: times and prices -/
theorem tr_loop {v : Nat → Nat} {N a : Nat} {s : jM} {k2 : Int32 → Option Int32} (h : OkV v) (hR : RM s 54 0 v) (ha : a < 256) : ∀ (m i q : Nat), v 99 - i = m → i ≤ v 99 → m < q → lp_X8_timeOf_4 N s (nI a) k2 q (nI (tms v a i)) (nI i) = k2 (nI (tim v a)) := by
  intro m
  induction m with
  | zero =>
    intro i q hm hi hq
    obtain ⟨q, rfl⟩ : ∃ r, q = r + 1 := ⟨q - 1, by omega⟩
    have := h.1
    rw [lp_X8_timeOf_4, walkers_ok hR, Option.bind_some, if_pos (by rw [nI_leI (by omega) (by omega)]; omega), show i = v 99 from by omega]
    rfl
  | succ m ih =>
    intro i q hm hi hq
    obtain ⟨q, rfl⟩ : ∃ r, q = r + 1 := ⟨q - 1, by omega⟩
    have h8 := h.1
    have h20 := (h.2.2.2.2.2.1 i (by omega)).2.2.1
    have ht := tms_le (a := a) h i (by omega)
    have e := ih (i + 1) q (by omega) (by omega) (by omega)
    simp only [tms] at e
    rw [lp_X8_timeOf_4, walkers_ok hR, Option.bind_some, if_neg (by rw [nI_leI (by omega) (by omega)]; omega)]
    simp only [jn_, lt_]
    rw [hold_bit a ha i (by omega), of1 (by omega) hR, Option.bind_some, Option.bind_some, nI_1]
    cases hb : a.testBit i with
    | false =>
      rw [hb] at e
      rw [if_neg (by decide)]
      exact e
    | true =>
      rw [hb, Bool.true_and] at e
      rw [if_pos (by decide)]
      by_cases hlt : tms v a i < v (4 * i + 1)
      · rw [if_neg (by rw [nI_leI (by omega) (by omega)]; omega)]
        rw [if_pos (by simpa using hlt)] at e
        exact e
      · rw [if_pos (by rw [nI_leI (by omega) (by omega)]; omega)]
        rw [if_neg (by simpa using hlt)] at e
        exact e
theorem timeOf_ok {v : Nat → Nat} {N a : Nat} {s : jM} (hN : 60 < N) (h : OkV v) (hR : RM s 54 0 v) (ha : a < 256) : f_X8_timeOf N (nI a) s = some (nI (tim v a)) := by
  have := h.1
  simp only [f_X8_timeOf, jn_]
  exact tr_loop h hR ha (v 99) 0 N (by omega) (by omega) (by omega)
theorem all_ok {v : Nat → Nat} {s : jM} (h : OkV v) (hR : RM s 54 0 v) : f_X8_all s = some (nI (ful v)) := by
  simp only [f_X8_all]
  rw [walkers_ok hR, Option.bind_some, ful_I _ (by have := h.1; omega)]
  rfl
/-- what the reference says of a company's price -/
noncomputable def prR (v : Nat → Nat) (a : Nat) : Int32 := if beg v a < 2 then nI (beg v a * v 33) else nI 1000000
def FrP (s t : jM) : Prop := FrL [53, 58, 59, 60, 64, 65, 66, 67, 68] s t ∧ (∀ i, i ≠ 6 → i ≠ 7 → i ≠ 9 → i ≠ 11 → i ≠ 23 → gI t 53 i = gI s 53 i) ∧ (∀ i, i ≠ 13 → gL t 53 i = gL s 53 i)
theorem FrP.rf {s : jM} : FrP s s := ⟨FrL.rf, fun _ _ _ _ _ _ => rfl, fun _ _ => rfl⟩
theorem FrP.tr {s t u : jM} (h1 : FrP s t) (h2 : FrP t u) : FrP s u := ⟨fr_tr h1.1 h2.1, fun i a b c d e => (h2.2.1 i a b c d e).trans (h1.2.1 i a b c d e), fun i a => (h2.2.2 i a).trans (h1.2.2 i a)⟩
theorem FrW.p {s t : jM} (h : FrW s t) : FrP s t := ⟨fr_mono h.1 (by decide), fun i a b c d _ => h.2.1 i a b c d, h.2.2⟩
theorem FrP.of {s t : jM} {L : List Nat} (h : FrL L s t) (hL : ∀ c ∈ L, c ∈ [64, 65, 66, 67, 68]) : FrP s t :=
  ⟨fr_mono h (fun c hc => by have := hL c hc; simp at this ⊢; omega), fun i _ _ _ _ _ => fr_gI h (fun z => by have := hL 53 z; simp at this), fun i _ => fr_gL h (fun z => by have := hL 53 z; simp at this)⟩
theorem FrP.f {s t : jM} {x : Int32} (h : FrP s t) : FrP s (pI t 53 23 x) :=
  ⟨fr_pI h.1 (by decide), fun j a b c d e => by rw [gI_pI_cell, if_neg (by omega)]; exact h.2.1 j a b c d e, fun j a => h.2.2 j a⟩
theorem RM.p {v : Nat → Nat} {s t : jM} {c o : Nat} (h : RM s c o v) (hf : FrP s t) (hc : c ∉ [53, 58, 59, 60, 64, 65, 66, 67, 68]) : RM t c o v := h.fr (fun i => fr_gI hf.1 hc)
theorem wellBR1 {v : Nat → Nat} {N a k : Nat} {s : jM} (hN : 60 < N) (h : OkV v) (hR : RM s 54 0 v) (ha : a < 256) (hk : k < 2) : ∃ s', f_X8_isWell N (nI a) (0 : Int32) (nI k) s = some (if wellB v a k 0 then 1 else 0, s') ∧ FrW s s' := by
  obtain ⟨s', r, r1, r2, r3, r4⟩ := isWell_ok (k := k) (m := 0) hN h hR ha (by omega) (by omega)
  have r1' : f_X8_isWell N (nI a) (0 : Int32) (nI k) s = some (r, s') := r1
  refine ⟨s', ?_, r2⟩
  rw [r1']
  cases hb : wellB v a k 0 with
  | true => rw [r4.mpr (wellB_iff.mp hb)]; rfl
  | false =>
    rcases r3 with hr | hr
    · rw [hr]; rfl
    · have := wellB_iff.mpr (r4.mp hr); rw [this] at hb; cases hb
theorem fp_loop {v : Nat → Nat} {N : Nat} (hN : 60 < N) (h : OkV v) : ∀ (m n : Nat) (s : jM) (q : Nat), ful v - n = m → n ≤ ful v → m < q → RM s 54 0 v → (∀ i, 1 ≤ i → i ≤ n → gI s 67 i = prR v i) →
    ∃ s', lp_X8_findPrices_2 N q (nI (n + 1)) s = some s' ∧ FrP s s' ∧ (∀ i, 1 ≤ i → i ≤ ful v → gI s' 67 i = prR v i) := by
  have hf := ful_lt h
  intro m
  induction m with
  | zero =>
    intro n s q hm hn hq hR hP
    obtain ⟨q, rfl⟩ : ∃ r, q = r + 1 := ⟨q - 1, by omega⟩
    have e : n = ful v := by omega
    subst e
    refine ⟨s, ?_, FrP.rf, hP⟩
    rw [lp_X8_findPrices_2, all_ok h hR, Option.bind_some, if_pos (by rw [nI_ltI (by omega) (by omega)]; omega)]
  | succ m ih =>
    intro n s q hm hn hq hR hP
    obtain ⟨q, rfl⟩ : ∃ r, q = r + 1 := ⟨q - 1, by omega⟩
    rw [lp_X8_findPrices_2, all_ok h hR, Option.bind_some, if_neg (by rw [nI_ltI (by omega) (by omega)]; omega)]
    simp only [jn_, lt_]
    have fin : ∀ u z, FrW s u → z = prR v (n + 1) → ∃ s', (gd (ib (nI (n + 1)) 256) (lp_X8_findPrices_2 N q (nI (n + 1) + 1) (pI u 67 (Int32.toNatClampNeg (nI (n + 1))) z))) = some s' ∧ FrP s s' ∧ (∀ i, 1 ≤ i → i ≤ ful v → gI s' 67 i = prR v i) := by
      intro u z hu hz
      rw [ib_nI (by omega), gd_dec (by omega), nI_clamp (by omega), nI_1]
      have f2 : FrP s (pI u 67 (n + 1) z) := hu.p.tr (FrP.of (L := [67]) (fr_pI FrL.rf (by decide)) (by decide))
      obtain ⟨s', e1, e2, e3⟩ := ih (n + 1) (pI u 67 (n + 1) z) q (by omega) (by omega) (by omega) (hR.p f2 (by decide)) (fun i i1 i2 => by
        rw [gI_pI_cell]
        by_cases hi : i = n + 1
        · rw [if_pos hi, hz, hi]
        · rw [if_neg hi, fr_gI hu.1 (by decide)]; exact hP i i1 (by omega))
      exact ⟨s', e1, f2.tr e2, e3⟩
    obtain ⟨t, t1, t2⟩ := wellBR1 (a := n + 1) (k := 0) hN h hR (by omega) (by omega)
    have t1' : f_X8_isWell N (nI (n + 1)) (0 : Int32) (0 : Int32) s = some (if wellB v (n + 1) 0 0 = true then 1 else 0, t) := t1
    rw [t1', Option.bind_some]
    simp only
    cases hw : wellB v (n + 1) 0 0 with
    | true =>
      rw [if_pos rfl, if_neg (by decide)]
      refine fin t 0 t2 ?_
      unfold prR beg
      rw [hw, if_pos rfl, if_pos (by decide), Nat.zero_mul]
      rfl
    | false =>
      rw [if_pos (by decide)]
      obtain ⟨u, u1, u2⟩ := wellBR1 (a := n + 1) (k := 1) hN h (hR.w t2 (by decide)) (by omega) (by omega)
      have u1' : f_X8_isWell N (nI (n + 1)) (0 : Int32) (1 : Int32) t = some (if wellB v (n + 1) 1 0 = true then 1 else 0, u) := u1
      rw [u1', Option.bind_some]
      simp only
      cases hw1 : wellB v (n + 1) 1 0 with
      | true =>
        rw [if_pos rfl, if_neg (by decide), show ib (33 : Int32) 101 = true from by decide, gd_true, show Int32.toNatClampNeg (33 : Int32) = 33 from rfl, (hR.w (t2.tr u2) (by decide)).at (by omega)]
        refine fin u _ (t2.tr u2) ?_
        unfold prR beg
        rw [hw, hw1]
        simp
      | false =>
        rw [if_pos (by decide)]
        refine fin u _ (t2.tr u2) ?_
        unfold prR beg
        rw [hw, hw1]
        rfl
theorem findPrices_ok {v : Nat → Nat} {N : Nat} {s : jM} (hN : 1000 < N) (h : OkV v) (hR : RM s 54 0 v) : ∃ s', f_X8_findPrices N s = some s' ∧ FrP s s' ∧ (∀ i, 1 ≤ i → i ≤ ful v → gI s' 67 i = prR v i) := by
  have hf := ful_lt h
  simp only [f_X8_findPrices]
  exact fp_loop (N := N) (by omega) h (ful v) 0 s N (by omega) (by omega) (by omega) hR (fun i i1 i2 => by omega)
theorem prR_lt {v : Nat → Nat} {a : Nat} (h : OkV v) : (1000000 : Int32) ≤ prR v a ↔ ¬ beg v a < 2 := by
  unfold prR
  by_cases hb : beg v a < 2
  · have := pay_le h hb
    rw [if_pos hb, c_le (by omega) (by omega)]
    exact ⟨fun z => by omega, fun z => (z hb).elim⟩
  · rw [if_neg hb, c_le (by omega) (by omega)]
    exact ⟨fun _ => hb, fun _ => Nat.le_refl _⟩
theorem mayGo_ok {v : Nat → Nat} {a l : Nat} {s : jM} (h : OkV v) (ha : a < 256) (hl : l < 256) (hP : gI s 67 a = prR v a) : f_X8_mayGo (nI a) (nI l) s = some (if fit v l a then 1 else 0) := by
  simp only [f_X8_mayGo, jn_]
  have hsub : (nI a &&& (nI l ^^^ (-1)) = 0) ↔ sub8 a l = true := decide_eq_true_iff.symm
  have e : nI a &&& nI l &&& -nI l = nI (a &&& lead l) := by rw [Int32.and_assoc, lead_ok l hl, nI_and]
  rw [e, ib_nI (by omega), gd_dec ha, nI_clamp (by omega), hP]
  have hle : a &&& lead l ≤ a := Nat.and_le_left
  by_cases hs : sub8 a l = true
  · rw [if_pos (hsub.mpr hs)]
    by_cases hld : a &&& lead l = 0
    · rw [hld, if_pos (by decide)]
      unfold fit
      rw [hld]
      simp
    · rw [if_neg (nI_ne0 (by omega) (by omega))]
      by_cases hb : beg v a < 2
      · rw [if_neg (by rw [prR_lt h]; omega)]
        unfold fit
        rw [hs]
        simp [hld, hb]
      · rw [if_pos (by rw [prR_lt h]; omega)]
        unfold fit
        simp [hb]
  · rw [if_neg (fun z => hs (hsub.mp z))]
    unfold fit
    simp [hs]
