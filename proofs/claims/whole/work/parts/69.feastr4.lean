/-! the feast in the reference: celebrated -/
theorem ci_loop {N : Nat} {k2 : jM → Option jM} : ∀ (j i : Nat) (s : jM) (q : Nat), 8 - i = j → i ≤ 8 → j < q → (∀ k, k < i → gI s 61 k = -1 ∧ gI s 62 k = -1) →
    ∃ s', lp_X8_celebrate_2 N k2 q (nI i) s = k2 s' ∧ FrL [61, 62] s s' ∧ ∀ k, k < 8 → gI s' 61 k = -1 ∧ gI s' 62 k = -1 := by
  intro j
  induction j with
  | zero =>
    intro i s q hj hi hq hC
    obtain ⟨q, rfl⟩ : ∃ r, q = r + 1 := ⟨q - 1, by omega⟩
    refine ⟨s, ?_, FrL.rf, fun k hk => hC k (by omega)⟩
    rw [lp_X8_celebrate_2, if_pos (by rw [c_le (by omega) (by omega)]; omega)]
  | succ j ih =>
    intro i s q hj hi hq hC
    obtain ⟨q, rfl⟩ : ∃ r, q = r + 1 := ⟨q - 1, by omega⟩
    have hf : FrL [61, 62] s (pI (pI s 61 i (-1)) 62 i (-1)) := fr_pI (fr_pI FrL.rf (by decide)) (by decide)
    obtain ⟨s', e1, e2, e3⟩ := ih (i + 1) (pI (pI s 61 i (-1)) 62 i (-1)) q (by omega) (by omega) (by omega) (fun k hk => by
      rw [gI_pI_cell, gI_pI_ne (show 61 ≠ 62 by decide), gI_pI_ne (show 62 ≠ 61 by decide), gI_pI_cell]
      by_cases hki : k = i
      · rw [if_pos hki, if_pos hki]; exact ⟨rfl, rfl⟩
      · rw [if_neg hki, if_neg hki]; exact hC k (by omega))
    refine ⟨s', ?_, fr_tr hf e2, e3⟩
    rw [lp_X8_celebrate_2, if_neg (by rw [c_le (by omega) (by omega)]; omega), ib_nI (by omega), gd_dec (by omega)]
    simp only [lt_]
    rw [gd_dec (by omega), nI_clamp (by omega), nI_1]
    exact e1
theorem celebrate_ok {v : Nat → Nat} {N : Nat} {s : jM} (hN : 1000 < N) (h : OkV v) (hR : RM s 54 0 v) : ∃ s', f_X8_celebrate N s = some s' ∧ RS s' v 200 ∧ FrK s s' := by
  simp only [f_X8_celebrate, jn_, lt_]
  obtain ⟨t, t1, t2, t3⟩ := ci_loop (N := N) (k2 := fun s1 => lp_X8_celebrate_40 N N (0 : Int32) (pI (pI s1 53 17 0) 53 18 (-1))) 8 0 s N (by omega) (by omega) (by omega) (fun k hk => by omega)
  have f1 : FrK s t := ⟨fr_mono t2 (by decide), fun j _ _ _ _ _ _ => fr_gI t2 (by decide), fun j _ => fr_gL t2 (by decide)⟩
  have f2 : FrK s (pI (pI t 53 17 0) 53 18 (-1)) := (f1.f (by omega)).f (by omega)
  have hG : RS (pI (pI t 53 17 0) 53 18 (-1)) v 0 := by
    refine ⟨fun i hi => ?_, ?_, ?_, fun j hj => by omega⟩
    · rw [gI_pI_ne (by decide), gI_pI_ne (by decide), gI_pI_ne (by decide), gI_pI_ne (by decide)]
      exact t3 i hi
    · rw [gI_pI_cell, if_neg (by decide), gI_pI_eq]; rfl
    · rw [gI_pI_eq]; rfl
  obtain ⟨s', e1, e2, e3⟩ := cel_loop (N := N) (by omega) h 200 0 _ N rfl (by omega) (by omega) (hR.k f2 (by decide)) hG
  exact ⟨s', t1.trans e1, e2, f2.tr e3⟩
