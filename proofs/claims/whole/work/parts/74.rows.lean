/-! the row: who is left after so many companies -/
noncomputable def fstE (v : Nat → Nat) (l : Nat) : Nat := match TT v l with
  | none => 0
  | some e => e.2.2.1
noncomputable def lft (v : Nat → Nat) (l : Nat) : Nat → Nat
  | 0 => l
  | i + 1 => rmn (lft v l i) (fstE v (lft v l i))
def CNT (v : Nat → Nat) (l c : Nat) : Prop := lft v l c = 0 ∧ ∀ j, j < c → lft v l j ≠ 0
theorem CNT_un {v : Nat → Nat} {l c d : Nat} (h1 : CNT v l c) (h2 : CNT v l d) : c = d := by
  by_cases h : c < d
  · exact (h2.2 c h h1.1).elim
  · by_cases h3 : d < c
    · exact (h1.2 d h3 h2.1).elim
    · omega
theorem lft_256 {v : Nat → Nat} {l : Nat} (hl : l < 256) : ∀ i, lft v l i < 256 := by
  intro i
  cases i with
  | zero => exact hl
  | succ i => exact rmn_256 _ _
theorem lead_low2 : ∀ l, l < 256 → ∀ i, i < 8 → (∀ j, j < i → l.testBit j = false) → l.testBit i = true → lead l = 2 ^ i := by decide +kernel
/-- what the first company of a set that can go over is -/
theorem fstE_spec {v : Nat → Nat} {l : Nat} {e : Nat × Nat × Nat × Nat} (h0 : 0 < l) (hl : l < 256) (he : TT v l = some e) :
    fstE v l = e.2.2.1 ∧ 1 ≤ fstE v l ∧ fstE v l ≤ l ∧ fit v l (fstE v l) = true ∧ (∃ g, TT v (rmn l (fstE v l)) = some g ∧ e.1 = tim v (fstE v l) + g.1 ∧ e.2.1 = beg v (fstE v l) * v 33 + g.2.1) ∧
    (∀ y, 1 ≤ y → y < fstE v l → fit v l y = true → ∀ g, TT v (rmn l y) = some g → ¬ (tim v y + g.1 = e.1 ∧ beg v y * v 33 + g.2.1 = e.2.1)) := by
  have e1 : fstE v l = e.2.2.1 := by unfold fstE; rw [he]
  obtain ⟨a, b, c, d, f, s⟩ := (TT_sp (v := v) h0 hl).2 e he
  rw [e1]
  exact ⟨rfl, a, by omega, c, d, fun y y1 y2 yf g hg z => by have := s y y1 y2 yf g hg; omega⟩
theorem lft_some {v : Nat → Nat} {l : Nat} (hl : l < 256) (ht : TT v l ≠ none) : ∀ i, (∀ j, j < i → lft v l j ≠ 0) → TT v (lft v l i) ≠ none := by
  intro i
  induction i with
  | zero => intro _; exact ht
  | succ i ih =>
    intro h
    have h1 := ih (fun j hj => h j (by omega))
    have h2 := h i (by omega)
    cases he : TT v (lft v l i) with
    | none => exact (h1 he).elim
    | some e =>
      obtain ⟨_, _, _, _, ⟨g, g1, _⟩, _⟩ := fstE_spec (by omega) (lft_256 hl i) he
      show TT v (rmn (lft v l i) (fstE v (lft v l i))) ≠ none
      rw [g1]
      exact fun z => by cases z
theorem lft_low {v : Nat → Nat} {l : Nat} (hl : l < 256) (ht : TT v l ≠ none) : ∀ i, i ≤ 8 → (∀ j, j < i → lft v l j ≠ 0) → ∀ j, j < i → (lft v l i).testBit j = false := by
  intro i
  induction i with
  | zero => intro _ _ j hj; omega
  | succ i ih =>
    intro hi8 h j hj
    have h1 := ih (by omega) (fun j hj => h j (by omega))
    have h2 := h i (by omega)
    have h3 := lft_some hl ht i (fun j hj => h j (by omega))
    have h4 := lft_256 (v := v) hl i
    show (rmn (lft v l i) (fstE v (lft v l i))).testBit j = false
    rw [rmn_bit h4]
    by_cases hji : j < i
    · rw [h1 j hji]; rfl
    · have hj2 : j = i := by omega
      subst hj2
      cases hb : (lft v l j).testBit j with
      | false => rfl
      | true =>
        cases he : TT v (lft v l j) with
        | none => exact (h3 he).elim
        | some e =>
          obtain ⟨_, _, _, f4, _, _⟩ := fstE_spec (by omega) h4 he
          have f5 := (fit_spec f4).2.1
          rw [lead_low2 _ h4 j (by omega) h1 hb] at f5
          cases hx : (fstE v (lft v l j)).testBit j with
          | true => rfl
          | false =>
            refine (f5 ?_).elim
            apply Nat.eq_of_testBit_eq
            intro k
            rw [Nat.testBit_and, Nat.testBit_two_pow, Nat.zero_testBit]
            by_cases hk : j = k
            · rw [← hk, hx]; rfl
            · simp [hk]
theorem lft_8 {v : Nat → Nat} {l : Nat} (hl : l < 256) (ht : TT v l ≠ none) (h : ∀ j, j < 8 → lft v l j ≠ 0) : lft v l 8 = 0 := by
  apply Nat.eq_of_testBit_eq
  intro i
  rw [Nat.zero_testBit]
  by_cases hi : i < 8
  · exact lft_low hl ht 8 (Nat.le_refl _) h i hi
  · exact bit_lt256 (lft_256 hl 8) (by omega)
def rcode (v : Nat → Nat) (f : Nat) (b : Nat) : Nat := f + 256 * b
/-! the row in the class -/
theorem nI_low8 : ∀ x, x < 256 → nI x &&& (255 : Int32) = nI x := by decide +kernel
theorem lu_loop {v : Nat → Nat} {N l : Nat} (hl : l < 256) (ht : TT v l ≠ none) : ∀ (m i : Nat) (s : jM) (q : Nat), 8 - i = m → i ≤ 8 → m < q → (∀ j, j < i → lft v l j ≠ 0) → (∀ a, 1 ≤ a → a ≤ l → gI s 42 a = encB (beg v a)) → (∀ a, a ≤ l → CE s a (TT v a)) → lft v l i ≤ l → gI s 41 9 = nI i → (∀ j, j < i → gI s 48 j = nI (rcode v (fstE v (lft v l j)) (beg v (fstE v (lft v l j))))) →
    ∃ s' c, lp_X0_lineUp_4 N q (nI (lft v l i)) (nI i) s = some s' ∧ FrL [41, 48] s s' ∧ (∀ k, k ≠ 9 → gI s' 41 k = gI s 41 k) ∧ CNT v l c ∧ c ≤ 8 ∧ gI s' 41 9 = nI c ∧ ∀ j, j < c → gI s' 48 j = nI (rcode v (fstE v (lft v l j)) (beg v (fstE v (lft v l j)))) := by
  intro m
  induction m with
  | zero =>
    intro i s q hm hi hq hz _ _ _ h9 h48
    obtain ⟨q, rfl⟩ : ∃ r, q = r + 1 := ⟨q - 1, by omega⟩
    have e : i = 8 := by omega
    subst e
    refine ⟨s, 8, ?_, FrL.rf, fun _ _ => rfl, ⟨lft_8 hl ht hz, hz⟩, Nat.le_refl _, h9, h48⟩
    rw [lp_X0_lineUp_4, if_pos (by decide)]
  | succ m ih =>
    intro i s q hm hi hq hz hB hT hle h9 h48
    obtain ⟨q, rfl⟩ : ∃ r, q = r + 1 := ⟨q - 1, by omega⟩
    have h4 := lft_256 (v := v) hl i
    rw [lp_X0_lineUp_4, if_neg (by rw [c_le (by omega) (by omega)]; omega)]
    by_cases h0 : lft v l i = 0
    · rw [h0, if_pos (by decide)]
      exact ⟨s, i, rfl, FrL.rf, fun _ _ => rfl, ⟨h0, hz⟩, by omega, h9, h48⟩
    · rw [if_neg (nI_nle (by omega) (by omega)), if_neg (by rw [c_le (by omega) (by omega)]; omega)]
      simp only [jn_, lt_]
      have h3 := lft_some hl ht i hz
      cases he : TT v (lft v l i) with
      | none => exact (h3 he).elim
      | some e =>
        obtain ⟨f1, f2, f3, f4, _, _⟩ := fstE_spec (by omega) h4 he
        have hbg := (fit_spec f4).2.2
        have h46 : gI s 46 (lft v l i) = nI (fstE v (lft v l i)) := by rw [f1]; exact (hT _ hle).2.2.2 e he h0
        have hf8 : fstE v (lft v l i) < 256 := by omega
        rw [ib_nI (by omega), gd_dec h4, nI_clamp (by omega), h46, nI_low8 _ hf8, ib_nI (by omega), gd_dec hf8, nI_clamp (by omega), hB _ f2 (by omega), ib_nI (by omega), gd_dec (by omega), gd_dec (by omega), nI_clamp (by omega), nI_1,
          show nI (lft v l i) &&& (nI (fstE v (lft v l i)) ^^^ (-1)) = nI (lft v l (i + 1)) from and_not h4]
        have go : ∀ (z : Int32), z = nI (rcode v (fstE v (lft v l i)) (beg v (fstE v (lft v l i)))) →
            ∃ s' c, lp_X0_lineUp_4 N q (nI (lft v l (i + 1))) (nI (i + 1)) (pI (pI s 48 i z) 41 9 (gI (pI s 48 i z) 41 9 + 1)) = some s' ∧ FrL [41, 48] s s' ∧ (∀ k, k ≠ 9 → gI s' 41 k = gI s 41 k) ∧ CNT v l c ∧ c ≤ 8 ∧ gI s' 41 9 = nI c ∧ ∀ j, j < c → gI s' 48 j = nI (rcode v (fstE v (lft v l j)) (beg v (fstE v (lft v l j)))) := by
          intro z hzz
          have f : FrL [41, 48] s (pI (pI s 48 i z) 41 9 (gI (pI s 48 i z) 41 9 + 1)) := fr_pI (fr_pI FrL.rf (by decide)) (by decide)
          obtain ⟨s', c, e1, e2, e3, e4⟩ := ih (i + 1) (pI (pI s 48 i z) 41 9 (gI (pI s 48 i z) 41 9 + 1)) q (by omega) (by omega) (by omega) (fun j hj => by
              by_cases hji : j = i
              · rw [hji]; exact h0
              · exact hz j (by omega)) (fun a a1 a2 => by rw [fr_gI f (by decide)]; exact hB a a1 a2)
            (fun a ha => ⟨by rw [fr_gI f (by decide)]; exact (hT a ha).1, by rw [fr_gI f (by decide)]; exact (hT a ha).2.1, by rw [fr_gI f (by decide)]; exact (hT a ha).2.2.1, fun e he h0 => by rw [fr_gI f (by decide)]; exact (hT a ha).2.2.2 e he h0⟩)
            (Nat.le_trans (rmn_le h4) hle) (by rw [gI_pI_eq, gI_pI_ne (by decide), h9, nI_1]) (fun j hj => by
              rw [gI_pI_ne (by decide), gI_pI_cell]
              by_cases hji : j = i
              · rw [if_pos hji, hzz, hji]
              · rw [if_neg hji]; exact h48 j (by omega))
          refine ⟨s', c, e1, fr_tr f e2, fun k hk => ?_, e4⟩
          rw [e3 k hk, gI_pI_cell, if_neg hk, gI_pI_ne (by decide)]
        have hb2 : beg v (fstE v (lft v l i)) = 0 ∨ beg v (fstE v (lft v l i)) = 1 := by omega
        unfold encB
        rcases hb2 with hb2 | hb2
        · rw [hb2] at go ⊢
          rw [if_neg (by decide)]
          exact go _ (by unfold rcode; rfl)
        · rw [hb2] at go ⊢
          rw [if_pos (by decide)]
          exact go _ (by unfold rcode; rw [show (256 : Int32) = nI 256 from rfl, nI_add])
theorem lineUp_ok {v : Nat → Nat} {N l : Nat} {s : jM} (hN : 60 < N) (hl : l < 256) (ht : TT v l ≠ none) (hB : ∀ a, 1 ≤ a → a ≤ l → gI s 42 a = encB (beg v a)) (hT : ∀ a, a ≤ l → CE s a (TT v a)) (h9 : gI s 41 9 = 0) :
    ∃ s' c, f_X0_lineUp N (nI l) s = some s' ∧ FrL [41, 48] s s' ∧ (∀ k, k ≠ 9 → gI s' 41 k = gI s 41 k) ∧ CNT v l c ∧ c ≤ 8 ∧ gI s' 41 9 = nI c ∧ ∀ j, j < c → gI s' 48 j = nI (rcode v (fstE v (lft v l j)) (beg v (fstE v (lft v l j)))) := by
  simp only [f_X0_lineUp]
  exact lu_loop (N := N) hl ht 8 0 s N rfl (by omega) (by omega) (fun j hj => by omega) hB hT (Nat.le_refl _) h9 (fun j hj => by omega)
