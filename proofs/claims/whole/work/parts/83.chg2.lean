/-! doubt, put -/
theorem within_n {n lo hi : Nat} (hn : n < 2 ^ 31) (hl : lo < 2 ^ 31) (hh : hi < 2 ^ 31) : f_X7_isWithin (nI n) (nI lo) (nI hi) = some (if lo ≤ n ∧ n ≤ hi then 1 else 0) := by
  simp only [f_X7_isWithin, jn_]
  by_cases h1 : n < lo
  · rw [if_pos (by rw [nI_ltI hn hl]; exact h1), if_neg (by omega)]
  · rw [if_neg (by rw [nI_ltI hn hl]; exact h1)]
    by_cases h2 : hi < n
    · rw [if_pos (by rw [nI_ltI hh hn]; exact h2), if_neg (by omega)]
    · rw [if_neg (by rw [nI_ltI hh hn]; exact h2), if_pos (by omega)]
theorem idx4 (i k : Nat) : ((0 : Int32) + (4 : Int32) * nI i) + nI k = nI (4 * i + k) := by
  rw [lit_nI 4, pk_mul, show (0 : Int32) = nI 0 from rfl, nI_add, nI_add, Nat.zero_add]
theorem OP_doubt {a b : Int32} {s : jM} (h : INV s) : OPI (f_X7_doubt a b s) (f_X8_doubt a b) := by
  obtain ⟨v, h⟩ := h
  have hO := h.1
  have hS := h.2.1.1
  have h8 := hO.1
  have e0 : f_X8_in (Int32.toInt64 b) (0 : Int64) (10 : Int64) = f_X7_isWithin b (0 : Int32) (10 : Int32) := in_eq b 0 10
  have w0 : (f_X7_isWithin b (0 : Int32) (10 : Int32) = some 0) ∨ ∃ n, 0 ≤ n ∧ n ≤ 10 ∧ b = nI n ∧ f_X7_isWithin b (0 : Int32) (10 : Int32) = some 1 := within_ok b (lo := 0) (hi := 10) (by omega) (by omega)
  rcases walk_ok a hO hS.1 with ⟨e1, e2⟩ | ⟨n, hn, rfl, e1, e2⟩
  · refine op_bad h ?_ (fun t hR => ?_)
    · simp only [f_X7_doubt, jn_]; rw [e1, Option.bind_some, if_pos rfl]; rfl
    · simp only [f_X8_doubt, jn_]; rw [e2 t hR, Option.bind_some, if_pos rfl]; rfl
  · rcases w0 with w | ⟨m, _, hm, rfl, w⟩
    · refine op_bad h ?_ (fun t hR => ?_)
      · simp only [f_X7_doubt, jn_]; rw [e1, Option.bind_some, if_neg (by decide), w, Option.bind_some, if_pos rfl]; rfl
      · simp only [f_X8_doubt, jn_]; rw [e2 t hR, Option.bind_some, if_neg (by decide), e0, w, Option.bind_some, if_pos rfl]; rfl
    · have hf1 : FrL L9 s (pI s 5 n (nI m)) := fr_pI FrL.rf (by decide)
      have hR1 : RM (pI s 5 n (nI m)) 54 0 v := h.2.2.1.o (by decide)
      have h5 : gI s 5 n = nI (v (4 * n + 3)) := (hS.2.2.2.2.2.1 n hn).2.2.2
      refine ⟨nI (v (4 * n + 3)), pI s 5 n (nI m), pI (pI s 5 n (nI m)) 54 (4 * n + 3) (nI m), ?_, ?_, vset v (4 * n + 3) m, ?_⟩
      · simp only [f_X7_doubt, jn_, lt_]
        rw [e1, Option.bind_some, if_neg (by decide), w, Option.bind_some, if_neg (by decide), ib_nI (by omega), gd_dec (by omega), gd_dec (by omega), nI_clamp (by omega), h5]
      · simp only [f_X8_doubt, jn_, lt_]
        rw [e2 _ hR1, Option.bind_some, if_neg (by decide), e0, w, Option.bind_some, if_neg (by decide), show f_X8_of (nI n) (3 : Int32) (pI s 5 n (nI m)) = some (nI (v (4 * n + 3))) from of_ok (k := 3) (by omega) (by omega) hR1, Option.bind_some,
          show ((0 : Int32) + (4 : Int32) * nI n) + (3 : Int32) = nI (4 * n + 3) from idx4 n 3, ib_nI (by omega), gd_dec (by omega), nI_clamp (by omega)]
      · have ne : ∀ j, j ≠ 4 * n + 3 → vset v (4 * n + 3) m j = v j := fun j hj => vset_ne hj
        have e99 := ne 99 (by omega)
        have e34 := ne 34 (by omega)
        have e33 := ne 33 (by omega)
        have e32 := ne 32 (by omega)
        have e100 := ne 100 (by omega)
        have hw : ∀ i k, k < 3 → vset v (4 * n + 3) m (4 * i + k) = v (4 * i + k) := fun i k hk => ne _ (by omega)
        have hw0 : ∀ i, vset v (4 * n + 3) m (4 * i) = v (4 * i) := fun i => hw i 0 (by omega)
        have ht : ∀ i, vset v (4 * n + 3) m (35 + i) = v (35 + i) := fun i => ne _ (by omega)
        have hs : ∀ i, vset v (4 * n + 3) m (75 + i) = v (75 + i) := fun i => ne _ (by omega)
        have hEF : EqF v (vset v (4 * n + 3) m) := ⟨⟨e99.symm, e34.symm, fun i hi => (hw0 i).symm, fun i hi => (ht i).symm⟩, e32.symm, fun i hi => ⟨(hw i 1 (by omega)).symm, (hw i 2 (by omega)).symm⟩⟩
        refine h.same ?_ (fr_pI hf1 (by decide)) ?_ ?_ hEF ⟨hEF.1, e33.symm, fun i hi => (hw i 1 (by omega)).symm⟩
        · refine ⟨by rw [e99]; exact hO.1, by rw [e100]; exact hO.2.1, by rw [e34]; exact hO.2.2.1, by rw [e32]; exact hO.2.2.2.1, by rw [e33]; exact hO.2.2.2.2.1, fun i hi => ?_, fun i hi => ?_, fun i hi => ?_⟩
          · rw [e99] at hi
            have := hO.2.2.2.2.2.1 i hi
            rw [hw0 i, hw i 1 (by omega), hw i 2 (by omega)]
            refine ⟨this.1, this.2.1, this.2.2.1, this.2.2.2.1, ?_⟩
            by_cases hin : i = n
            · rw [hin, vset_eq]; exact hm
            · rw [ne _ (by omega)]; exact this.2.2.2.2
          · rw [e34] at hi
            rw [ht i]
            exact hO.2.2.2.2.2.2.1 i hi
          · rw [e100] at hi
            rw [Nat.add_assoc, Nat.add_assoc, hs, hs, hs, e99, ← Nat.add_assoc, ← Nat.add_assoc]
            exact hO.2.2.2.2.2.2.2 i hi
        · have g : ∀ c i, c ≠ 54 → c ≠ 5 → gI (pI (pI s 5 n (nI m)) 54 (4 * n + 3) (nI m)) c i = gI s c i := fun c i c1 c2 => by rw [gI_pI_ne c1, gI_pI_ne c2]
          refine ⟨by rw [g _ _ (by decide) (by decide), e99]; exact hS.1, by rw [g _ _ (by decide) (by decide), e32]; exact hS.2.1, by rw [g _ _ (by decide) (by decide), e33]; exact hS.2.2.1, by rw [g _ _ (by decide) (by decide), e34]; exact hS.2.2.2.1, by rw [g _ _ (by decide) (by decide), e100]; exact hS.2.2.2.2.1, fun i hi => ?_, fun i hi => ?_, fun i hi => ?_⟩
          · rw [e99] at hi
            have := hS.2.2.2.2.2.1 i hi
            rw [hw0 i, hw i 1 (by omega), hw i 2 (by omega), g _ _ (by decide) (by decide), g _ _ (by decide) (by decide), g _ _ (by decide) (by decide)]
            refine ⟨this.1, this.2.1, this.2.2.1, ?_⟩
            rw [gI_pI_ne (by decide)]
            show gI (pI s 5 n (nI m)) 5 i = _
            rw [gI_pI_cell]
            by_cases hin : i = n
            · rw [if_pos hin, hin, vset_eq]
            · rw [if_neg hin, ne _ (by omega)]; exact this.2.2.2
          · rw [e34] at hi
            rw [ht i, g _ _ (by decide) (by decide)]
            exact hS.2.2.2.2.2.2.1 i hi
          · rw [e100] at hi
            rw [Nat.add_assoc, Nat.add_assoc, hs, hs, hs, g _ _ (by decide) (by decide), g _ _ (by decide) (by decide), g _ _ (by decide) (by decide), ← Nat.add_assoc, ← Nat.add_assoc]
            exact hS.2.2.2.2.2.2.2 i hi
        · exact RM.set hR1
/-- one of the two of put -/
theorem put_scene {s : jM} {v : Nat → Nat} {i j m : Nat} (h8 : v 99 ≤ 8) (hS : SC s 1 v) (hij : (i = 5 ∧ j = 32) ∨ (i = 6 ∧ j = 33)) : SC (pI s 1 i (nI m)) 1 (vset v j m) := by
  have ne : ∀ k, k ≠ j → vset v j m k = v k := fun j hj => vset_ne hj
  have g : ∀ c k, c ≠ 1 → gI (pI s 1 i (nI m)) c k = gI s c k := fun c k hc => gI_pI_ne hc
  refine ⟨?_, ?_, ?_, ?_, ?_, fun k hk => ?_, fun k hk => ?_, fun k hk => ?_⟩
  · rw [gI_pI_cell, if_neg (by omega), ne _ (by omega)]; exact hS.1
  · rw [gI_pI_cell]
    rcases hij with ⟨rfl, rfl⟩ | ⟨rfl, rfl⟩
    · rw [if_pos rfl, vset_eq]
    · rw [if_neg (by decide), ne _ (by decide)]; exact hS.2.1
  · rw [gI_pI_cell]
    rcases hij with ⟨rfl, rfl⟩ | ⟨rfl, rfl⟩
    · rw [if_neg (by decide), ne _ (by decide)]; exact hS.2.2.1
    · rw [if_pos rfl, vset_eq]
  · rw [gI_pI_cell, if_neg (by omega), ne _ (by omega)]; exact hS.2.2.2.1
  · rw [gI_pI_cell, if_neg (by omega), ne _ (by omega)]; exact hS.2.2.2.2.1
  · rw [ne _ (by omega)] at hk
    rw [ne _ (by omega), ne _ (by omega), ne _ (by omega), ne _ (by omega), g _ _ (by decide), g _ _ (by decide), g _ _ (by decide), g _ _ (by decide)]
    exact hS.2.2.2.2.2.1 k hk
  · rw [ne _ (by omega)] at hk
    rw [ne _ (by omega), g _ _ (by decide)]
    exact hS.2.2.2.2.2.2.1 k hk
  · rw [ne _ (by omega)] at hk
    rw [ne _ (by omega), ne _ (by omega), ne _ (by omega), g _ _ (by decide), g _ _ (by decide), g _ _ (by decide)]
    exact hS.2.2.2.2.2.2.2 k hk
theorem put_okv {v : Nat → Nat} {j m : Nat} (h : OkV v) (hj : (j = 32 ∧ m ≤ 19) ∨ (j = 33 ∧ m ≤ 99)) : OkV (vset v j m) := by
  have h8 := h.1
  have ne : ∀ k, k ≠ j → vset v j m k = v k := fun j hj => vset_ne hj
  refine ⟨by rw [ne _ (by omega)]; exact h.1, by rw [ne _ (by omega)]; exact h.2.1, by rw [ne _ (by omega)]; exact h.2.2.1, ?_, ?_, fun k hk => ?_, fun k hk => ?_, fun k hk => ?_⟩
  · rcases hj with ⟨rfl, hm⟩ | ⟨rfl, hm⟩
    · rw [vset_eq]; exact hm
    · rw [ne _ (by decide)]; exact h.2.2.2.1
  · rcases hj with ⟨rfl, hm⟩ | ⟨rfl, hm⟩
    · rw [ne _ (by decide)]; exact h.2.2.2.2.1
    · rw [vset_eq]; exact hm
  · rw [ne _ (by omega)] at hk
    rw [ne _ (by omega), ne _ (by omega), ne _ (by omega), ne _ (by omega)]
    exact h.2.2.2.2.2.1 k hk
  · rw [ne _ (by omega)] at hk
    rw [ne _ (by omega)]
    exact h.2.2.2.2.2.2.1 k hk
  · rw [ne _ (by omega)] at hk
    rw [ne _ (by omega), ne _ (by omega), ne _ (by omega), ne _ (by omega)]
    exact h.2.2.2.2.2.2.2 k hk
theorem OP_put {a b : Int32} {s : jM} (h : INV s) : OPI (f_X7_put a b s) (f_X8_put a b) := by
  obtain ⟨v, h⟩ := h
  have hO := h.1
  have hS := h.2.1.1
  have h8 := hO.1
  have ea : f_X8_in (Int32.toInt64 a) (0 : Int64) (1 : Int64) = f_X7_isWithin a (0 : Int32) (1 : Int32) := in_eq a 0 1
  have e19 : f_X8_in (Int32.toInt64 b) (0 : Int64) (19 : Int64) = f_X7_isWithin b (0 : Int32) (19 : Int32) := in_eq b 0 19
  have e99 : f_X8_in (Int32.toInt64 b) (0 : Int64) (99 : Int64) = f_X7_isWithin b (0 : Int32) (99 : Int32) := in_eq b 0 99
  have w19 : (f_X7_isWithin b (0 : Int32) (19 : Int32) = some 0) ∨ ∃ n, 0 ≤ n ∧ n ≤ 19 ∧ b = nI n ∧ f_X7_isWithin b (0 : Int32) (19 : Int32) = some 1 := within_ok b (lo := 0) (hi := 19) (by omega) (by omega)
  have w99 : (f_X7_isWithin b (0 : Int32) (99 : Int32) = some 0) ∨ ∃ n, 0 ≤ n ∧ n ≤ 99 ∧ b = nI n ∧ f_X7_isWithin b (0 : Int32) (99 : Int32) = some 1 := within_ok b (lo := 0) (hi := 99) (by omega) (by omega)
  by_cases a0 : a = 0
  · subst a0
    have wa : f_X7_isWithin (0 : Int32) (0 : Int32) (1 : Int32) = some 1 := by decide
    rcases w19 with w | ⟨m, _, hm, rfl, w⟩
    · refine op_bad h ?_ (fun t hR => ?_)
      · simp only [f_X7_put, jn_]; rw [if_pos trivial, w, Option.bind_some, if_pos rfl, if_neg (by decide)]; rfl
      · simp only [f_X8_put, jn_]; rw [ea, wa, Option.bind_some, if_neg (by decide), if_pos trivial, e19, w, Option.bind_some, if_pos rfl]; rfl
    · have hR1 : RM (pI (pI s 1 5 (nI m)) 37 8 0) 54 0 v := (h.2.2.1.o (by decide)).o (by decide)
      have ne : ∀ k, k ≠ 32 → vset v 32 m k = v k := fun j hj => vset_ne hj
      have hT : EqT v (vset v 32 m) := ⟨(ne _ (by decide)).symm, (ne _ (by decide)).symm, fun i hi => (ne _ (by omega)).symm, fun i hi => (ne _ (by omega)).symm⟩
      have hC : EqC v (vset v 32 m) := ⟨hT, (ne _ (by decide)).symm, fun i hi => (ne _ (by omega)).symm⟩
      have hf : FrL [1, 37, 54] s (pI (pI (pI s 1 5 (nI m)) 37 8 0) 54 32 (nI m)) := fr_pI (fr_pI (fr_pI FrL.rf (by decide)) (by decide)) (by decide)
      refine ⟨nI (v 32), pI (pI s 1 5 (nI m)) 37 8 0, pI (pI (pI s 1 5 (nI m)) 37 8 0) 54 32 (nI m), ?_, ?_, vset v 32 m, ?_⟩
      · simp only [f_X7_put, jn_, lt_]
        rw [if_pos trivial, w, Option.bind_some, if_neg (by decide), hS.2.1]
      · simp only [f_X8_put, jn_, lt_]
        rw [ea, wa, Option.bind_some, if_neg (by decide), if_pos trivial, e19, w, Option.bind_some, if_neg (by decide), show ib ((32 : Int32) + 0) 101 = true from by decide, gd_true, gd_true, show Int32.toNatClampNeg ((32 : Int32) + 0) = 32 from by decide, hR1.at (by omega)]
      · refine h.chg (put_okv hO (Or.inl ⟨rfl, hm⟩)) (fr_mono hf (by decide)) ?_ (RM.set hR1) (hT.vw (h.2.1.2.1.frl hf (by decide) (by decide) (by decide))) (hT.ji (h.2.1.2.2.frl hf (by decide) (by decide) (by decide))) (fun z => ?_) (hC.ci (h.2.2.2.2.2.2.2.1.fr hf (by decide) (by decide)))
        · exact (put_scene h8 hS (Or.inl ⟨rfl, rfl⟩)).frl (l := [37, 54]) (fr_pI (fr_pI FrL.rf (by decide)) (by decide)) (fun j hj => by simp; omega)
        · rw [gI_pI_ne (by decide), gI_pI_eq] at z
          exact (z rfl).elim
  · by_cases a1 : a = 1
    · subst a1
      have wa : f_X7_isWithin (1 : Int32) (0 : Int32) (1 : Int32) = some 1 := by decide
      rcases w99 with w | ⟨m, _, hm, rfl, w⟩
      · refine op_bad h ?_ (fun t hR => ?_)
        · simp only [f_X7_put, jn_]; rw [if_neg (by decide), if_pos trivial, w, Option.bind_some, if_pos rfl]; rfl
        · simp only [f_X8_put, jn_]; rw [ea, wa, Option.bind_some, if_neg (by decide), if_neg (by decide), e99, w, Option.bind_some, if_pos rfl]; rfl
      · have hR1 : RM (pI (pI s 1 6 (nI m)) 41 14 0) 54 0 v := (h.2.2.1.o (by decide)).o (by decide)
        have ne : ∀ k, k ≠ 33 → vset v 33 m k = v k := fun j hj => vset_ne hj
        have hT : EqT v (vset v 33 m) := ⟨(ne _ (by decide)).symm, (ne _ (by decide)).symm, fun i hi => (ne _ (by omega)).symm, fun i hi => (ne _ (by omega)).symm⟩
        have hF : EqF v (vset v 33 m) := ⟨hT, (ne _ (by decide)).symm, fun i hi => ⟨(ne _ (by omega)).symm, (ne _ (by omega)).symm⟩⟩
        have hf : FrL [1, 41, 54] s (pI (pI (pI s 1 6 (nI m)) 41 14 0) 54 33 (nI m)) := fr_pI (fr_pI (fr_pI FrL.rf (by decide)) (by decide)) (by decide)
        refine ⟨nI (v 33), pI (pI s 1 6 (nI m)) 41 14 0, pI (pI (pI s 1 6 (nI m)) 41 14 0) 54 33 (nI m), ?_, ?_, vset v 33 m, ?_⟩
        · simp only [f_X7_put, jn_, lt_]
          rw [if_neg (by decide), if_pos trivial, w, Option.bind_some, if_neg (by decide), hS.2.2.1]
        · simp only [f_X8_put, jn_, lt_]
          rw [ea, wa, Option.bind_some, if_neg (by decide), if_neg (by decide), e99, w, Option.bind_some, if_neg (by decide), show ib ((32 : Int32) + 1) 101 = true from by decide, gd_true, gd_true, show Int32.toNatClampNeg ((32 : Int32) + 1) = 33 from by decide, hR1.at (by omega)]
        · refine h.chg (put_okv hO (Or.inr ⟨rfl, hm⟩)) (fr_mono hf (by decide)) ?_ (RM.set hR1) (hT.vw (h.2.1.2.1.frl hf (by decide) (by decide) (by decide))) (hT.ji (h.2.1.2.2.frl hf (by decide) (by decide) (by decide))) (hF.fi (h.2.2.2.2.2.2.1.fr hf (by decide) (by decide) (by decide) (by decide))) (fun z => ?_)
          · exact (put_scene h8 hS (Or.inr ⟨rfl, rfl⟩)).frl (l := [41, 54]) (fr_pI (fr_pI FrL.rf (by decide)) (by decide)) (fun j hj => by simp; omega)
          · rw [gI_pI_ne (by decide), gI_pI_eq] at z
            exact (z rfl).elim
    · have wa : f_X7_isWithin a (0 : Int32) (1 : Int32) = some 0 := by
        have wa : (f_X7_isWithin a (0 : Int32) (1 : Int32) = some 0) ∨ ∃ n, 0 ≤ n ∧ n ≤ 1 ∧ a = nI n ∧ f_X7_isWithin a (0 : Int32) (1 : Int32) = some 1 := within_ok a (lo := 0) (hi := 1) (by omega) (by omega)
        rcases wa with wa | ⟨n, _, hn, rfl, _⟩
        · exact wa
        · have : n = 0 ∨ n = 1 := by omega
          rcases this with rfl | rfl
          · exact (a0 rfl).elim
          · exact (a1 rfl).elim
      refine op_bad h ?_ (fun t hR => ?_)
      · simp only [f_X7_put, jn_]; rw [if_neg a0, if_neg a1]; rfl
      · simp only [f_X8_put, jn_]; rw [ea, wa, Option.bind_some, if_pos rfl]; rfl
