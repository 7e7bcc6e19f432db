/-! images taken over -/
theorem gI_pI_a {σ : jM} {c i c' i' : Nat} {x : Int32} : gI (pI σ c i x) c' i' = if c' = c then (if i' = i then x else gI σ c' i') else gI σ c' i' := by
  by_cases h : c' = c
  · subst h; rw [if_pos rfl, gI_pI_cell]
  · rw [if_neg h, gI_pI_ne h]
theorem gI_cpI {σ : jM} {p q n c i : Nat} : gI (cpI σ p q 0 0 n) c i = if c = q then (if i < n then gI σ p i else gI σ c i) else gI σ c i := by
  by_cases h : c = q
  · subst h
    rw [if_pos rfl]
    simp only [gI, cpI, if_true]
    by_cases hi : i < n
    · rw [if_pos hi, pk_cpy_in (by omega) (by omega)]
      simp
    · rw [if_neg hi, pk_cpy_out (by omega)]
  · rw [if_neg h]
    simp only [gI, cpI, if_neg h]
theorem fr_cpI {l : List Nat} {s t : jM} (h : FrL l s t) {a b sp dp n : Nat} (hc : b ∈ l) : FrL l s (cpI t a b sp dp n) := fun c ha => by
  have e : ¬ c = b := fun e => ha (e ▸ hc)
  exact ⟨by simp only [cpI, if_neg e]; exact (h c ha).1, (h c ha).2⟩
theorem bec_10_1 {s : jM} {w : Nat → Nat} (hO : OkV w) (hS : SC s 1 w) : ∃ u, f_X5_become_10_1 s = some u ∧ SC u 10 w ∧ FrL [10, 11, 12, 13, 14, 15, 16, 17, 18] s u := by
  have h8 := hO.1
  have hs8 := hO.2.1
  have h40 := hO.2.2.1
  obtain ⟨a1, a2, a3, a4, a5, a6, a7, a8⟩ := hS
  simp only [f_X5_become_10_1, lt_]
  simp only [show Int32.toNatClampNeg (0 : Int32) = 0 from rfl, show Int32.toNatClampNeg (8 : Int32) = 8 from rfl, show Int32.toNatClampNeg (40 : Int32) = 40 from rfl]
  refine ⟨_, rfl, ⟨?_, ?_, ?_, ?_, ?_, fun i hi => ?_, fun i hi => ?_, fun i hi => ?_⟩, ?_⟩
  · simp [gI_pI_a, gI_cpI]; exact a1
  · simp [gI_pI_a, gI_cpI]; exact a2
  · simp [gI_pI_a, gI_cpI]; exact a3
  · simp [gI_pI_a, gI_cpI]; exact a4
  · simp [gI_pI_a, gI_cpI]; exact a5
  · have hi8 : i < 8 := by omega
    simp [gI_pI_a, gI_cpI, hi8]; exact a6 i hi
  · have hi8 : i < 40 := by omega
    simp [gI_pI_a, gI_cpI, hi8]; exact a7 i hi
  · have hi8 : i < 8 := by omega
    simp [gI_pI_a, gI_cpI, hi8]; exact a8 i hi
  · exact fr_pI (fr_cpI (fr_cpI (fr_cpI (fr_pI (fr_cpI (fr_pI (fr_pI (fr_pI (fr_cpI (fr_cpI (fr_cpI (fr_cpI FrL.rf (by decide)) (by decide)) (by decide)) (by decide)) (by decide)) (by decide)) (by decide)) (by decide)) (by decide)) (by decide)) (by decide)) (by decide)) (by decide)
theorem bec_19_1 {s : jM} {w : Nat → Nat} (hO : OkV w) (hS : SC s 1 w) : ∃ u, f_X5_become_19_1 s = some u ∧ SC u 19 w ∧ FrL [19, 20, 21, 22, 23, 24, 25, 26, 27] s u := by
  have h8 := hO.1
  have hs8 := hO.2.1
  have h40 := hO.2.2.1
  obtain ⟨a1, a2, a3, a4, a5, a6, a7, a8⟩ := hS
  simp only [f_X5_become_19_1, lt_]
  simp only [show Int32.toNatClampNeg (0 : Int32) = 0 from rfl, show Int32.toNatClampNeg (8 : Int32) = 8 from rfl, show Int32.toNatClampNeg (40 : Int32) = 40 from rfl]
  refine ⟨_, rfl, ⟨?_, ?_, ?_, ?_, ?_, fun i hi => ?_, fun i hi => ?_, fun i hi => ?_⟩, ?_⟩
  · simp [gI_pI_a, gI_cpI]; exact a1
  · simp [gI_pI_a, gI_cpI]; exact a2
  · simp [gI_pI_a, gI_cpI]; exact a3
  · simp [gI_pI_a, gI_cpI]; exact a4
  · simp [gI_pI_a, gI_cpI]; exact a5
  · have hi8 : i < 8 := by omega
    simp [gI_pI_a, gI_cpI, hi8]; exact a6 i hi
  · have hi8 : i < 40 := by omega
    simp [gI_pI_a, gI_cpI, hi8]; exact a7 i hi
  · have hi8 : i < 8 := by omega
    simp [gI_pI_a, gI_cpI, hi8]; exact a8 i hi
  · exact fr_pI (fr_cpI (fr_cpI (fr_cpI (fr_pI (fr_cpI (fr_pI (fr_pI (fr_pI (fr_cpI (fr_cpI (fr_cpI (fr_cpI FrL.rf (by decide)) (by decide)) (by decide)) (by decide)) (by decide)) (by decide)) (by decide)) (by decide)) (by decide)) (by decide)) (by decide)) (by decide)) (by decide)
theorem bec_1_10 {s : jM} {w : Nat → Nat} (hO : OkV w) (hS : SC s 10 w) : ∃ u, f_X5_become_1_10 s = some u ∧ SC u 1 w ∧ FrL [1, 2, 3, 4, 5, 6, 7, 8, 9] s u := by
  have h8 := hO.1
  have hs8 := hO.2.1
  have h40 := hO.2.2.1
  obtain ⟨a1, a2, a3, a4, a5, a6, a7, a8⟩ := hS
  simp only [f_X5_become_1_10, lt_]
  simp only [show Int32.toNatClampNeg (0 : Int32) = 0 from rfl, show Int32.toNatClampNeg (8 : Int32) = 8 from rfl, show Int32.toNatClampNeg (40 : Int32) = 40 from rfl]
  refine ⟨_, rfl, ⟨?_, ?_, ?_, ?_, ?_, fun i hi => ?_, fun i hi => ?_, fun i hi => ?_⟩, ?_⟩
  · simp [gI_pI_a, gI_cpI]; exact a1
  · simp [gI_pI_a, gI_cpI]; exact a2
  · simp [gI_pI_a, gI_cpI]; exact a3
  · simp [gI_pI_a, gI_cpI]; exact a4
  · simp [gI_pI_a, gI_cpI]; exact a5
  · have hi8 : i < 8 := by omega
    simp [gI_pI_a, gI_cpI, hi8]; exact a6 i hi
  · have hi8 : i < 40 := by omega
    simp [gI_pI_a, gI_cpI, hi8]; exact a7 i hi
  · have hi8 : i < 8 := by omega
    simp [gI_pI_a, gI_cpI, hi8]; exact a8 i hi
  · exact fr_pI (fr_cpI (fr_cpI (fr_cpI (fr_pI (fr_cpI (fr_pI (fr_pI (fr_pI (fr_cpI (fr_cpI (fr_cpI (fr_cpI FrL.rf (by decide)) (by decide)) (by decide)) (by decide)) (by decide)) (by decide)) (by decide)) (by decide)) (by decide)) (by decide)) (by decide)) (by decide)) (by decide)
theorem bec_1_19 {s : jM} {w : Nat → Nat} (hO : OkV w) (hS : SC s 19 w) : ∃ u, f_X5_become_1_19 s = some u ∧ SC u 1 w ∧ FrL [1, 2, 3, 4, 5, 6, 7, 8, 9] s u := by
  have h8 := hO.1
  have hs8 := hO.2.1
  have h40 := hO.2.2.1
  obtain ⟨a1, a2, a3, a4, a5, a6, a7, a8⟩ := hS
  simp only [f_X5_become_1_19, lt_]
  simp only [show Int32.toNatClampNeg (0 : Int32) = 0 from rfl, show Int32.toNatClampNeg (8 : Int32) = 8 from rfl, show Int32.toNatClampNeg (40 : Int32) = 40 from rfl]
  refine ⟨_, rfl, ⟨?_, ?_, ?_, ?_, ?_, fun i hi => ?_, fun i hi => ?_, fun i hi => ?_⟩, ?_⟩
  · simp [gI_pI_a, gI_cpI]; exact a1
  · simp [gI_pI_a, gI_cpI]; exact a2
  · simp [gI_pI_a, gI_cpI]; exact a3
  · simp [gI_pI_a, gI_cpI]; exact a4
  · simp [gI_pI_a, gI_cpI]; exact a5
  · have hi8 : i < 8 := by omega
    simp [gI_pI_a, gI_cpI, hi8]; exact a6 i hi
  · have hi8 : i < 40 := by omega
    simp [gI_pI_a, gI_cpI, hi8]; exact a7 i hi
  · have hi8 : i < 8 := by omega
    simp [gI_pI_a, gI_cpI, hi8]; exact a8 i hi
  · exact fr_pI (fr_cpI (fr_cpI (fr_cpI (fr_pI (fr_cpI (fr_pI (fr_pI (fr_pI (fr_cpI (fr_cpI (fr_cpI (fr_cpI FrL.rf (by decide)) (by decide)) (by decide)) (by decide)) (by decide)) (by decide)) (by decide)) (by decide)) (by decide)) (by decide)) (by decide)) (by decide)) (by decide)
/-- the vow read anew, and what hangs on it forgotten -/
theorem rr_ok {N : Nat} {s u : jM} {v v' : Nat → Nat} (hN : 1000 < N) (h : INVv s v) (hO : OkV v') (hf : FrL L9 s u) (hS : SC u 1 v') :
    ∃ u' t, f_X6_read N u = some u' ∧ f_X7_forgetWhatFollows u' = some t ∧ FrL [29, 30, 31, 33, 37, 41] u t ∧ ∀ z, FrL [54] t z → RM z 54 0 v' → INVv z v' := by
  obtain ⟨u', u1, u2, u3⟩ := read_ok (N := N) (by omega) (VT_of hO hS)
  refine ⟨u', pI (pI (pI u' 33 5 1) 37 8 0) 41 14 0, u1, forget_ok u', fr_pI (fr_pI (fr_pI (fr_mono u2 (by decide)) (by decide)) (by decide)) (by decide), fun z hz hR => ?_⟩
  have f1 : FrL [33, 37, 41] u' (pI (pI (pI u' 33 5 1) 37 8 0) 41 14 0) := fr_pI (fr_pI (fr_pI FrL.rf (by decide)) (by decide)) (by decide)
  have f2 : FrL [29, 30, 31, 33, 37, 41, 54] u z := fr_tr (fr_mono u2 (by decide)) (fr_tr (fr_mono f1 (by decide)) (fr_mono hz (by decide)))
  refine h.chg hO (fr_tr (fr_mono hf (by decide)) (fr_mono f2 (by decide))) (hS.frl f2 (fun j hj => by simp; omega)) hR ((u3.fr (fun i _ => fr_gI f1 (by decide)) (fun i => fr_gI f1 (by decide)) (fun i => fr_gI f1 (by decide))).fr (fun i _ => fr_gI hz (by decide)) (fun i => fr_gI hz (by decide)) (fun i => fr_gI hz (by decide))) (fun y => ?_) (fun y => ?_) (fun y => ?_)
  · rw [fr_gI hz (by decide), gI_pI_ne (by decide), gI_pI_ne (by decide), gI_pI_eq] at y
    exact absurd y (by decide)
  · rw [fr_gI hz (by decide), gI_pI_ne (by decide), gI_pI_eq] at y
    exact (y rfl).elim
  · rw [fr_gI hz (by decide), gI_pI_eq] at y
    exact (y rfl).elim
theorem OP_erase {N : Nat} {s : jM} (hN : 1000 < N) (h : INV s) : OPI (f_X7_erase N s) f_X8_erase := by
  obtain ⟨v, h⟩ := h
  have hO := h.1
  have hS := h.2.1.1
  have ne : ∀ j, j ≠ 34 → vset v 34 0 j = v j := fun j hj => vset_ne hj
  have e34 : vset v 34 0 34 = 0 := vset_eq
  have h8 := hO.1
  have hO' : OkV (vset v 34 0) := by
    refine ⟨by rw [ne _ (by omega)]; exact hO.1, by rw [ne _ (by omega)]; exact hO.2.1, by rw [e34]; omega, by rw [ne _ (by omega)]; exact hO.2.2.2.1, by rw [ne _ (by omega)]; exact hO.2.2.2.2.1, fun i hi => ?_, fun i hi => ?_, fun i hi => ?_⟩
    · rw [ne _ (by omega)] at hi
      rw [ne _ (by omega), ne _ (by omega), ne _ (by omega), ne _ (by omega)]
      exact hO.2.2.2.2.2.1 i hi
    · rw [e34] at hi
      omega
    · rw [ne _ (by omega)] at hi
      rw [ne _ (by omega), ne _ (by omega), ne _ (by omega), ne _ (by omega)]
      exact hO.2.2.2.2.2.2.2 i hi
  have g : ∀ c i, c ≠ 1 → gI (pI s 1 8 0) c i = gI s c i := fun c i c1 => gI_pI_ne c1
  have g1 : ∀ i, i ≠ 8 → gI (pI s 1 8 0) 1 i = gI s 1 i := fun i hi => by rw [gI_pI_cell, if_neg hi]
  have hS' : SC (pI s 1 8 0) 1 (vset v 34 0) := by
    refine ⟨by rw [g1 _ (by decide), ne _ (by omega)]; exact hS.1, by rw [g1 _ (by decide), ne _ (by omega)]; exact hS.2.1, by rw [g1 _ (by decide), ne _ (by omega)]; exact hS.2.2.1, by rw [gI_pI_eq, e34]; rfl, by rw [g1 _ (by decide), ne _ (by omega)]; exact hS.2.2.2.2.1, fun i hi => ?_, fun i hi => ?_, fun i hi => ?_⟩
    · rw [ne _ (by omega)] at hi
      rw [ne _ (by omega), ne _ (by omega), ne _ (by omega), ne _ (by omega), g _ _ (by decide), g _ _ (by decide), g _ _ (by decide), g _ _ (by decide)]
      exact hS.2.2.2.2.2.1 i hi
    · rw [e34] at hi
      omega
    · rw [ne _ (by omega)] at hi
      rw [ne _ (by omega), ne _ (by omega), ne _ (by omega), g _ _ (by decide), g _ _ (by decide), g _ _ (by decide)]
      exact hS.2.2.2.2.2.2.2 i hi
  have hf1 : FrL L9 s (pI s 1 8 0) := fr_pI FrL.rf (by decide)
  obtain ⟨u', t, u1, u2, u3, u4⟩ := rr_ok (N := N) hN h hO' hf1 hS'
  have hRt : RM t 54 0 v := (h.2.2.1.o (by decide)).fr (fun i => fr_gI u3 (by decide))
  refine ⟨nI (v 34), t, pI t 54 34 0, ?_, ?_, vset v 34 0, u4 _ (fr_pI FrL.rf (by decide)) (RM.set (x := 0) hRt)⟩
  · simp only [f_X7_erase, lt_]
    rw [u1, Option.bind_some, u2, Option.bind_some, hS.2.2.2.1]
  · simp only [f_X8_erase, lt_]
    rw [show ib (34 : Int32) 101 = true from by decide, gd_true, gd_true, show Int32.toNatClampNeg (34 : Int32) = 34 from rfl, hRt.at (by omega)]
theorem OP_write {N : Nat} {a : Int32} {s : jM} (hN : 1000 < N) (h : INV s) : OPI (f_X7_write N a s) (f_X8_write a) := by
  obtain ⟨v, h⟩ := h
  have hO := h.1
  have hS := h.2.1.1
  have h8 := hO.1
  have h40 := hO.2.2.1
  have ea : f_X8_in (Int32.toInt64 a) (0 : Int64) (127 : Int64) = f_X7_isWithin a (0 : Int32) (127 : Int32) := in_eq a 0 127
  have wa : (f_X7_isWithin a (0 : Int32) (127 : Int32) = some 0) ∨ ∃ n, 0 ≤ n ∧ n ≤ 127 ∧ a = nI n ∧ f_X7_isWithin a (0 : Int32) (127 : Int32) = some 1 := within_ok a (lo := 0) (hi := 127) (by omega) (by omega)
  rcases wa with xa | ⟨c, _, hc, rfl, xa⟩
  · refine op_bad h ?_ (fun t hR => ?_)
    · simp only [f_X7_write]; rw [xa, Option.bind_some, if_pos rfl]; rfl
    · simp only [f_X8_write]; rw [ea, xa, Option.bind_some, if_pos rfl]; rfl
  · have hl : gI s 1 8 = nI (v 34) := hS.2.2.2.1
    have i34 : ib (34 : Int32) 101 = true := by decide
    have c34 : Int32.toNatClampNeg (34 : Int32) = 34 := rfl
    by_cases hful : v 34 = 40
    · refine op_full h ?_ (fun t hR => ?_)
      · simp only [f_X7_write]
        rw [xa, Option.bind_some, if_neg (by decide), hl, hful, if_neg (by decide)]; rfl
      · simp only [f_X8_write]
        rw [ea, xa, Option.bind_some, if_neg (by decide), i34, gd_true, c34, hR.at (by omega), hful, if_pos (by decide)]; rfl
    · have hk : v 34 < 40 := by omega
      generalize hkk : v 34 = k at *
      generalize hw : vset (vset v (35 + k) c) 34 (k + 1) = w
      have ne : ∀ j, j ≠ 34 → j ≠ 35 + k → w j = v j := fun j h1 h2 => by rw [← hw, vset_ne h1, vset_ne h2]
      have e34 : w 34 = k + 1 := by rw [← hw, vset_eq]
      have eN : w (35 + k) = c := by rw [← hw, vset_ne (by omega), vset_eq]
      have hO' : OkV w := by
        refine ⟨by rw [ne _ (by omega) (by omega)]; exact hO.1, by rw [ne _ (by omega) (by omega)]; exact hO.2.1, by rw [e34]; omega, by rw [ne _ (by omega) (by omega)]; exact hO.2.2.2.1, by rw [ne _ (by omega) (by omega)]; exact hO.2.2.2.2.1, fun i hi => ?_, fun i hi => ?_, fun i hi => ?_⟩
        · rw [ne _ (by omega) (by omega)] at hi
          rw [ne _ (by omega) (by omega), ne _ (by omega) (by omega), ne _ (by omega) (by omega), ne _ (by omega) (by omega)]
          exact hO.2.2.2.2.2.1 i hi
        · rw [e34] at hi
          by_cases hik : i = k
          · rw [hik, eN]; omega
          · rw [ne _ (by omega) (by omega)]
            exact hO.2.2.2.2.2.2.1 i (by omega)
        · rw [ne _ (by omega) (by omega)] at hi
          rw [ne (75 + 3 * i) (by omega) (by omega), ne 99 (by omega) (by omega), ne (75 + 3 * i + 1) (by omega) (by omega), ne (75 + 3 * i + 2) (by omega) (by omega)]
          exact hO.2.2.2.2.2.2.2 i hi
      generalize hu : pI (pI s 6 k (nI c)) 1 8 (nI (k + 1)) = u
      have g : ∀ c i, c ≠ 1 → c ≠ 6 → gI u c i = gI s c i := fun c i c1 c2 => by rw [← hu, gI_pI_ne c1, gI_pI_ne c2]
      have g1 : ∀ i, i ≠ 8 → gI u 1 i = gI s 1 i := fun i hi => by rw [← hu, gI_pI_cell, if_neg hi, gI_pI_ne (by decide)]
      have hS' : SC u 1 w := by
        refine ⟨by rw [g1 _ (by decide), ne _ (by omega) (by omega)]; exact hS.1, by rw [g1 _ (by decide), ne _ (by omega) (by omega)]; exact hS.2.1, by rw [g1 _ (by decide), ne _ (by omega) (by omega)]; exact hS.2.2.1, by rw [← hu, gI_pI_eq, e34], by rw [g1 _ (by decide), ne _ (by omega) (by omega)]; exact hS.2.2.2.2.1, fun i hi => ?_, fun i hi => ?_, fun i hi => ?_⟩
        · rw [ne _ (by omega) (by omega)] at hi
          rw [ne _ (by omega) (by omega), ne _ (by omega) (by omega), ne _ (by omega) (by omega), ne _ (by omega) (by omega), g _ _ (by decide) (by decide), g _ _ (by decide) (by decide), g _ _ (by decide) (by decide), g _ _ (by decide) (by decide)]
          exact hS.2.2.2.2.2.1 i hi
        · rw [e34] at hi
          show gI u 6 i = _
          rw [← hu, gI_pI_ne (by decide), gI_pI_cell]
          by_cases hik : i = k
          · rw [if_pos hik, hik, eN]
          · rw [if_neg hik, ne _ (by omega) (by omega)]
            exact hS.2.2.2.2.2.2.1 i (by omega)
        · rw [ne _ (by omega) (by omega)] at hi
          rw [ne _ (by omega) (by omega), ne _ (by omega) (by omega), ne _ (by omega) (by omega), g _ _ (by decide) (by decide), g _ _ (by decide) (by decide), g _ _ (by decide) (by decide)]
          exact hS.2.2.2.2.2.2.2 i hi
      have hf1 : FrL L9 s u := by rw [← hu]; exact fr_pI (fr_pI FrL.rf (by decide)) (by decide)
      obtain ⟨u', t, u1, u2, u3, u4⟩ := rr_ok (N := N) hN h hO' hf1 hS'
      have hRt : RM t 54 0 v := (h.2.2.1.fr (fun i => by rw [← hu, gI_pI_ne (by decide), gI_pI_ne (by decide)])).fr (fun i => fr_gI u3 (by decide))
      have i0 : (35 : Int32) + nI k = nI (35 + k) := by rw [lit_nI 35, nI_add]
      refine ⟨nI (k + 1), t, pI (pI t 54 (35 + k) (nI c)) 54 34 (nI (k + 1)), ?_, ?_, w, u4 _ (fr_pI (fr_pI FrL.rf (by decide)) (by decide)) (by rw [← hw]; exact (hRt.set).set)⟩
      · simp only [f_X7_write, f_X5_addLetter, lt_]
        simp only [gI_pI_ne (show (1 : Nat) ≠ 6 by decide)]
        have e8 : gI t 1 8 = nI (k + 1) := by rw [fr_gI u3 (by decide), ← hu, gI_pI_eq]
        rw [xa, Option.bind_some, if_neg (by decide), hl, if_pos (by rw [lt_c (by omega) (by omega)]; omega), if_neg (by rw [c_le (by omega) (by omega)]; omega), ib_nI (by omega), gd_dec hk, nI_clamp (by omega), i2c_nI (by omega), nI_1, Option.bind_some, hu, u1, Option.bind_some, u2, Option.bind_some, e8]
      · simp only [f_X8_write, lt_]
        rw [ea, xa, Option.bind_some, if_neg (by decide), i34, gd_true, gd_true, gd_true, gd_true, gd_true, c34, hRt.at (by omega), hkk, if_neg (by rw [eq_c (by omega) (by omega)]; omega), i0, ib_nI (by omega), gd_dec (by omega), nI_clamp (by omega), gI_pI_eq, gI_pI_cell, if_neg (by omega), hRt.at (by omega), hkk, nI_1]
