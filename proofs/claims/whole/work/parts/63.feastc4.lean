/-! the feast in the class: gone through -/
def FrG (s t : jM) : Prop := FrL [29, 32, 33, 34, 35, 36, 37, 38, 39, 40] s t ∧ Fr29 s t
theorem FrG.tr {s t u : jM} (h1 : FrG s t) (h2 : FrG t u) : FrG s u := ⟨fr_tr h1.1 h2.1, fun i hi => (h2.2 i hi).trans (h1.2 i hi)⟩
theorem FrG.rf {s : jM} : FrG s s := ⟨FrL.rf, fun _ _ => rfl⟩
theorem FrJ.g {s t : jM} (h : FrJ s t) : FrG s t := ⟨fr_mono h.1 (by decide), h.2⟩
theorem FrG.l {s t : jM} {c i : Nat} {x : Int32} (h : FrG s t) (hc : c ∈ [37, 38, 39, 40]) : FrG s (pI t c i x) := by
  refine ⟨fr_pI h.1 (by simp at hc ⊢; omega), fun j hj => ?_⟩
  rw [gI_pI_ne (by simp at hc; omega)]
  exact h.2 j hj
theorem KN.l {s : jM} {v : Nat → Nat} {c i : Nat} {x : Int32} (h : KN s v) (hc : c ∈ [37, 38, 39, 40]) : KN (pI s c i x) v := by
  have hf : FrL [37, 38, 39, 40] s (pI s c i x) := fr_pI FrL.rf hc
  refine ⟨h.1.frl hf (fun j hj => by simp; omega), h.2.1.fr (fun i _ => fr_gI hf (by decide)) (fun i => fr_gI hf (by decide)) (fun i => fr_gI hf (by decide)), ?_⟩
  intro h5 c b hc hb hh
  rw [fr_gI hf (by decide)] at h5
  rw [fr_gL hf (by decide)] at hh ⊢
  exact h.2.2 h5 c b hc hb hh
theorem sp_loop {v on off : Nat → Nat} {N m x : Nat} {k2 : jM → Option jM} (h : OkV v) (hx : x < 256) (hm : m < 200) : ∀ (j i : Nat) (s : jM) (q : Nat), 8 - i = j → i ≤ 8 → j < q → KN s v → gI s 37 5 = nI (onset v on off) →
    (∀ k, k < 8 → gI s 39 k = enc (if k < i ∧ (x.testBit k && !(onset v on off).testBit k) = true then m + 1 else on k) ∧ gI s 40 k = enc (if k < i ∧ (x.testBit k && (onset v on off).testBit k) = true then m + 1 else off k)) →
    ∃ s', lp_X1_step_2 N (nI x) (nI m) k2 q (nI i) s = k2 s' ∧ FrL [39, 40] s s' ∧ KN s' v ∧
      (∀ k, k < 8 → gI s' 39 k = enc (if (x.testBit k && !(onset v on off).testBit k) = true then m + 1 else on k) ∧ gI s' 40 k = enc (if (x.testBit k && (onset v on off).testBit k) = true then m + 1 else off k)) := by
  have hO := onset_lt (on := on) (off := off) h
  intro j
  induction j with
  | zero =>
    intro i s q hj hi hq hK h5 hC
    obtain ⟨q, rfl⟩ : ∃ r, q = r + 1 := ⟨q - 1, by omega⟩
    refine ⟨s, ?_, FrL.rf, hK, fun k hk => ?_⟩
    · rw [lp_X1_step_2, if_pos (by rw [c_le (by omega) (by omega)]; omega)]
    · have := hC k hk
      have hki : k < i := by omega
      simpa [hki] using this
  | succ j ih =>
    intro i s q hj hi hq hK h5 hC
    obtain ⟨q, rfl⟩ : ∃ r, q = r + 1 := ⟨q - 1, by omega⟩
    have hi8 : i < 8 := by omega
    rw [lp_X1_step_2, if_neg (by rw [c_le (by omega) (by omega)]; omega)]
    simp only [jn_, lt_]
    rw [holds_ok hx hi8, Option.bind_some, h5, holds_ok hO hi8, Option.bind_some, ib_nI (by omega), nI_clamp (by omega), gd_dec hi8, gd_dec hi8, nI_1]
    cases hxi : x.testBit i with
    | false =>
      simp only [Bool.false_eq_true, if_false, if_true, Option.bind_some]
      obtain ⟨s', e1, e2, e3, e4⟩ := ih (i + 1) s q (by omega) (by omega) (by omega) hK h5 (fun k hk => by
        have := hC k hk
        by_cases hki : k = i
        · subst hki; rw [hxi] at this ⊢; simpa using this
        · have : (k < i + 1) = (k < i) := by apply propext; omega
          simp only [this]; exact hC k hk)
      exact ⟨s', e1, e2, e3, e4⟩
    | true =>
      cases hoi : (onset v on off).testBit i with
      | true =>
        simp only [if_true, Option.bind_some]
        rw [if_neg (by decide), if_neg (by decide)]
        have hf : FrL [39, 40] s (pI s 40 i (nI m)) := fr_pI FrL.rf (by decide)
        obtain ⟨s', e1, e2, e3, e4⟩ := ih (i + 1) (pI s 40 i (nI m)) q (by omega) (by omega) (by omega) (hK.l (by decide)) (by rw [gI_pI_ne (by decide)]; exact h5) (fun k hk => by
          have := hC k hk
          rw [gI_pI_ne (by decide), gI_pI_cell]
          by_cases hki : k = i
          · subst hki; rw [hxi, hoi] at this ⊢; simp at this ⊢; exact ⟨this.1, rfl⟩
          · have e : (k < i + 1) = (k < i) := by apply propext; omega
            simp only [e, if_neg hki]; exact this)
        exact ⟨s', e1, fr_tr hf e2, e3, e4⟩
      | false =>
        simp only [Bool.false_eq_true, if_false, if_true, Option.bind_some]
        rw [if_neg (by decide)]
        have hf : FrL [39, 40] s (pI s 39 i (nI m)) := fr_pI FrL.rf (by decide)
        obtain ⟨s', e1, e2, e3, e4⟩ := ih (i + 1) (pI s 39 i (nI m)) q (by omega) (by omega) (by omega) (hK.l (by decide)) (by rw [gI_pI_ne (by decide)]; exact h5) (fun k hk => by
          have := hC k hk
          rw [gI_pI_cell, gI_pI_ne (c' := 40) (by decide)]
          by_cases hki : k = i
          · subst hki; rw [hxi, hoi] at this ⊢; simp at this ⊢; exact ⟨rfl, this.2⟩
          · have e : (k < i + 1) = (k < i) := by apply propext; omega
            simp only [e, if_neg hki]; exact this)
        exact ⟨s', e1, fr_tr hf e2, e3, e4⟩
theorem step_ok {v : Nat → Nat} {p : (Nat → Nat) × (Nat → Nat)} {N m x : Nat} {s : jM} (hN : 60 < N) (h : OkV v) (hm : m < 200) (hK : KN s v) (hC : FC s v p.1 p.2) (hF : FOK v m p.1 p.2) (hc : choice v m p.1 p.2 = some x) :
    ∃ s', f_X1_step N (nI x) (nI m) s = some s' ∧ FrL [37, 39, 40] s s' ∧ (∀ i, i ≠ 5 → gI s' 37 i = gI s 37 i) ∧ KN s' v ∧ FC s' v (fstp v m p).1 (fstp v m p).2 := by
  have hx := (choice_sub h hc).2
  simp only [f_X1_step, jn_, lt_]
  obtain ⟨t, e1, e2, e3, e4⟩ := sp_loop (N := N) (on := p.1) (off := p.2) (k2 := fun s1 => some (pI s1 37 5 (gI s1 37 5 ^^^ nI x))) h hx hm 8 0 s N (by omega) (by omega) (by omega) hK hC.1 (fun k hk => by simpa using hC.2 k hk)
  have h5 : gI t 37 5 = nI (onset v p.1 p.2) := by rw [fr_gI e2 (by decide)]; exact hC.1
  have e : fstp v m p = (fun i => if x.testBit i && !(onset v p.1 p.2).testBit i then m + 1 else p.1 i, fun i => if x.testBit i && (onset v p.1 p.2).testBit i then m + 1 else p.2 i) := by
    unfold fstp; rw [hc]
  refine ⟨_, e1, fr_pI (fr_mono e2 (by decide)) (by decide), fun i hi => by rw [gI_pI_cell, if_neg hi]; exact fr_gI e2 (by decide), e3.l (by decide), ?_, fun i hi => ?_⟩
  · rw [gI_pI_eq, h5, nI_xor, onset_step h hF hc]
  · rw [gI_pI_ne (by decide), gI_pI_ne (by decide), e]
    exact e4 i hi
