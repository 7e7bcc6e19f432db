/-! all over in companies, in the class: planned -/
def ful (v : Nat → Nat) : Nat := 2 ^ v 99 - 1
theorem ful_I : ∀ w, w < 9 → ((1 : Int32) <<< (nI w &&& 31)) - 1 = nI (2 ^ w - 1) := by decide +kernel
theorem ful_I2 : ∀ w, w < 9 → (((1 : Int32) <<< (nI w &&& 31)) - 1) &&& 255 = nI (2 ^ w - 1) := by decide +kernel
theorem ful_lt {v : Nat → Nat} (h : OkV v) : ful v < 256 := by
  have h2 := Nat.pow_le_pow_right (show 0 < 2 by omega) h.1
  have h3 := Nat.two_pow_pos (v 99)
  unfold ful
  omega
theorem ful_bit {v : Nat → Nat} {a : Nat} (ha : a ≤ ful v) : ∀ i, v 99 ≤ i → a.testBit i = false := by
  intro i hi
  have h2 := Nat.pow_le_pow_right (show 0 < 2 by omega) hi
  have h3 := Nat.two_pow_pos (v 99)
  unfold ful at ha
  exact Nat.testBit_lt_two_pow (by omega)
def CZ (s : jM) : Prop := gI s 44 0 = 0 ∧ gI s 45 0 = 0 ∧ gI s 47 0 = 0
def PL (s : jM) (v : Nat → Nat) : Prop :=
  (TT v (ful v) = none → gI s 41 10 = 0 ∧ gI s 41 11 = -1 ∧ gI s 41 12 = -1 ∧ gI s 41 13 = -1 ∧ gI s 41 9 = 0) ∧
  ∀ e, TT v (ful v) = some e → gI s 41 10 = 1 ∧ gI s 41 11 = nI e.1 ∧ gI s 41 12 = nI e.2.1 ∧ gI s 41 13 = nI e.2.2.2 ∧ ∃ c, CNT v (ful v) c ∧ c ≤ 8 ∧ gI s 41 9 = nI c ∧ ∀ j, j < c → gI s 48 j = nI (rcode v (fstE v (lft v (ful v) j)) (beg v (fstE v (lft v (ful v) j))))
def CI (s : jM) (v : Nat → Nat) : Prop := gI s 41 14 ≠ 0 → PL s v
theorem CE_0 {s : jM} {v : Nat → Nat} : CE s 0 (TT v 0) ↔ CZ s := by
  rw [TT_0]
  exact ⟨fun h => ⟨h.1, h.2.1, h.2.2.1⟩, fun h => ⟨h.1, h.2.1, h.2.2, fun e _ z => (z rfl).elim⟩⟩
theorem pn_loop {v : Nat → Nat} {N : Nat} (hN : 1000 < N) (h : OkV v) : ∀ (m n : Nat) (s : jM) (q : Nat), ful v - n = m → n ≤ ful v → m < q → KN s v → (∀ i, 1 ≤ i → i ≤ n → gI s 42 i = encB (beg v i) ∧ gI s 43 i = nI (tim v i)) → (∀ i, i ≤ n → CE s i (TT v i)) →
    ∃ s', (∀ k5, lp_X0_plan_31 N (nI (ful v)) k5 q (nI (n + 1)) s = k5 s') ∧ KN s' v ∧ (∀ i, 1 ≤ i → i ≤ ful v → gI s' 42 i = encB (beg v i) ∧ gI s' 43 i = nI (tim v i)) ∧ (∀ i, i ≤ ful v → CE s' i (TT v i)) ∧ FrL [29, 32, 33, 34, 35, 36, 42, 43, 44, 45, 46, 47] s s' ∧ Fr29 s s' := by
  have hf := ful_lt h
  intro m
  induction m with
  | zero =>
    intro n s q hm hn hq hK hB hT
    obtain ⟨q, rfl⟩ : ∃ r, q = r + 1 := ⟨q - 1, by omega⟩
    have e : n = ful v := by omega
    subst e
    refine ⟨s, fun k5 => ?_, hK, hB, hT, FrL.rf, fun _ _ => rfl⟩
    rw [lp_X0_plan_31, if_pos (by rw [nI_ltI (by omega) (by omega)]; omega)]
  | succ m ih =>
    intro n s q hm hn hq hK hB hT
    obtain ⟨q, rfl⟩ : ∃ r, q = r + 1 := ⟨q - 1, by omega⟩
    obtain ⟨t, t1, t2, t3, t4, t5, t6, t7⟩ := lookAtCompany_ok (N := N) (a := n + 1) hN h (by omega) (ful_bit (by omega)) hK
    have tB : ∀ i, 1 ≤ i → i ≤ n + 1 → gI t 42 i = encB (beg v i) ∧ gI t 43 i = nI (tim v i) := by
      intro i i1 i2
      by_cases hi : i = n + 1
      · rw [hi]; exact ⟨t5, t6⟩
      · rw [(t7 i hi).1, (t7 i hi).2]; exact hB i i1 (by omega)
    have tT : ∀ i, i ≤ n → CE t i (TT v i) := fun i hi => by
      have := hT i hi
      exact ⟨by rw [fr_gI t3 (by decide)]; exact this.1, by rw [fr_gI t3 (by decide)]; exact this.2.1, by rw [fr_gI t3 (by decide)]; exact this.2.2.1, fun e he h0 => by rw [fr_gI t3 (by decide)]; exact this.2.2.2 e he h0⟩
    obtain ⟨u, u1, u2, u3⟩ := lookAtLeft_ok (N := N) (n := n) hN h (by omega) t2.1.2.2.1 tB tT
    obtain ⟨s', e1, e2, e3, e4, e5, e6⟩ := ih (n + 1) u q (by omega) (by omega) (by omega) (t2.c u2.1 (by decide)) (fun i i1 i2 => by rw [fr_gI u2.1 (by decide), fr_gI u2.1 (by decide)]; exact tB i i1 i2) (fun i hi => by
      by_cases hin : i = n + 1
      · rw [hin]; exact u3
      · exact (tT i (by omega)).fr (fun c => u2.2 c i hin))
    refine ⟨s', fun k5 => ?_, e2, e3, e4, fr_tr (fr_mono t3 (by decide)) (fr_tr (fr_mono u2.1 (by decide)) e5), fun i hi => (e6 i hi).trans ((fr_gI u2.1 (by decide)).trans (t4 i hi))⟩
    rw [lp_X0_plan_31, if_neg (by rw [nI_ltI (by omega) (by omega)]; omega), t1, Option.bind_some, u1, Option.bind_some]
    simp only [lt_]
    rw [nI_1]
    exact e1 k5
theorem plan_ok {v : Nat → Nat} {N : Nat} {s : jM} (hN : 1000 < N) (h : OkV v) (hK : KN s v) (hI : CI s v) (hZ : CZ s) :
    ∃ s', f_X0_plan N s = some s' ∧ KN s' v ∧ PL s' v ∧ CZ s' ∧ FrC s s' := by
  have hf := ful_lt h
  simp only [f_X0_plan, jn_, lt_]
  by_cases h14 : gI s 41 14 = 0
  · rw [if_pos h14]
    generalize hs1 : pI s 41 14 1 = s1
    have f1 : FrL [41] s s1 := by rw [← hs1]; exact fr_pI FrL.rf (by decide)
    have k1 : KN s1 v := hK.c f1 (by decide)
    have z1 : CZ s1 := ⟨by rw [fr_gI f1 (by decide)]; exact hZ.1, by rw [fr_gI f1 (by decide)]; exact hZ.2.1, by rw [fr_gI f1 (by decide)]; exact hZ.2.2⟩
    rw [k1.1.1, show (((1 : Int32) <<< (nI (v 99) &&& 31)) - 1) &&& 255 = nI (ful v) from ful_I2 _ (by have := h.1; omega)]
    have e14 : gI s1 41 14 = 1 := by rw [← hs1]; exact gI_pI_eq
    obtain ⟨t, t1, t2, t3, t4, t5, t6⟩ := pn_loop (N := N) hN h (ful v) 0 s1 N (by omega) (by omega) (by omega) k1 (fun i i1 i2 => by omega) (fun i hi => by rw [show i = 0 from by omega]; exact CE_0.mpr z1)
    have t1' : ∀ k5, lp_X0_plan_31 N (nI (ful v)) k5 N (1 : Int32) s1 = k5 t := t1
    rw [t1']
    have fT : FrC s t := (FrC.of f1 (by decide)).tr ⟨fr_mono t5 (by decide), t6⟩
    have zT : CZ t := CE_0.mp (t4 0 (Nat.zero_le _))
    have eF := t4 (ful v) (Nat.le_refl _)
    simp only [ib_nI (show ful v < 2 ^ 31 by omega), gd_dec hf, nI_clamp (show ful v < 2 ^ 31 by omega), show zb 0 = true from by decide, show zb 1 = true from by decide, gd_true]
    have fin : ∀ x : Int32, FrL [41] t (pI (pI (pI (pI (pI t 41 10 x) 41 11 (gI (pI t 41 10 x) 44 (ful v))) 41 12 (gI (pI (pI t 41 10 x) 41 11 (gI (pI t 41 10 x) 44 (ful v))) 45 (ful v))) 41 13 (gI (pI (pI (pI t 41 10 x) 41 11 (gI (pI t 41 10 x) 44 (ful v))) 41 12 (gI (pI (pI t 41 10 x) 41 11 (gI (pI t 41 10 x) 44 (ful v))) 45 (ful v))) 47 (ful v))) 41 9 0) := fun x => fr_pI (fr_pI (fr_pI (fr_pI (fr_pI FrL.rf (by decide)) (by decide)) (by decide)) (by decide)) (by decide)
    cases he : TT v (ful v) with
    | none =>
      rw [he] at eF
      rw [if_pos (by rw [eF.1]; rfl), if_pos (by simp [gI_pI_cell])]
      refine ⟨_, rfl, t2.c (fin 0) (by decide), ⟨fun _ => ?_, fun e z => by rw [he] at z; cases z⟩, ⟨by rw [fr_gI (fin 0) (by decide)]; exact zT.1, by rw [fr_gI (fin 0) (by decide)]; exact zT.2.1, by rw [fr_gI (fin 0) (by decide)]; exact zT.2.2⟩, fT.tr (FrC.of (fin 0) (by decide))⟩
      have n1 : gI t 44 (ful v) = -1 := eF.1
      have n2 : gI t 45 (ful v) = -1 := eF.2.1
      have n3 : gI t 47 (ful v) = -1 := eF.2.2.1
      simp [gI_pI_cell, gI_pI_ne, n1, n2, n3]
    | some e =>
      rw [he] at eF
      have n1 : gI t 44 (ful v) = nI e.1 := eF.1
      have n2 : gI t 45 (ful v) = nI e.2.1 := eF.2.1
      have n3 : gI t 47 (ful v) = nI e.2.2.2 := eF.2.2.1
      have hb := TT_ok h _ e he
      rw [if_neg (by rw [n1]; exact nI_ne_m1 (by omega)), if_neg (by simp [gI_pI_cell])]
      obtain ⟨u, c, u1, u2, u3, u4, u5, u6, u7⟩ := lineUp_ok (v := v) (N := N) (l := ful v) (s := pI (pI (pI (pI (pI t 41 10 1) 41 11 (gI (pI t 41 10 1) 44 (ful v))) 41 12 (gI (pI (pI t 41 10 1) 41 11 (gI (pI t 41 10 1) 44 (ful v))) 45 (ful v))) 41 13 (gI (pI (pI (pI t 41 10 1) 41 11 (gI (pI t 41 10 1) 44 (ful v))) 41 12 (gI (pI (pI t 41 10 1) 41 11 (gI (pI t 41 10 1) 44 (ful v))) 45 (ful v))) 47 (ful v))) 41 9 0) (by omega) hf (by rw [he]; exact fun z => (by cases z)) (fun a a1 a2 => by rw [fr_gI (fin 1) (by decide)]; exact (t3 a a1 a2).1)
        (fun a ha => ⟨by rw [fr_gI (fin 1) (by decide)]; exact (t4 a ha).1, by rw [fr_gI (fin 1) (by decide)]; exact (t4 a ha).2.1, by rw [fr_gI (fin 1) (by decide)]; exact (t4 a ha).2.2.1, fun e he h0 => by rw [fr_gI (fin 1) (by decide)]; exact (t4 a ha).2.2.2 e he h0⟩) gI_pI_eq
      rw [u1, Option.bind_some]
      have fu := fr_tr (fr_mono (fin 1) (l' := [41, 48]) (by decide)) u2
      refine ⟨u, rfl, t2.c fu (by decide), ⟨fun z => (by rw [he] at z; cases z), fun e' z => ?_⟩, ⟨by rw [fr_gI fu (by decide)]; exact zT.1, by rw [fr_gI fu (by decide)]; exact zT.2.1, by rw [fr_gI fu (by decide)]; exact zT.2.2⟩, fT.tr (FrC.of fu (by decide))⟩
      rw [he] at z
      cases z
      refine ⟨?_, ?_, ?_, ?_, c, u4, u5, u6, u7⟩
      · rw [u3 10 (by decide)]; simp [gI_pI_cell]
      · rw [u3 11 (by decide)]; simp [gI_pI_cell, gI_pI_ne, n1]
      · rw [u3 12 (by decide)]; simp [gI_pI_cell, gI_pI_ne, n2]
      · rw [u3 13 (by decide)]; simp [gI_pI_cell, gI_pI_ne, n3]
  · rw [if_neg h14]
    exact ⟨s, rfl, hK, hI h14, hZ, FrC.rf⟩
