/-! whether a set is well: the class, and what it remembers -/
theorem SC.fr {s t : jM} {b : Nat} {v : Nat → Nat} (h : SC s b v) (hc : ∀ j, j ≤ 8 → ∀ i, gI t (b + j) i = gI s (b + j) i) : SC t b v := by
  have h0 := hc 0 (by omega)
  rw [Nat.add_zero] at h0
  refine ⟨by rw [h0]; exact h.1, by rw [h0]; exact h.2.1, by rw [h0]; exact h.2.2.1, by rw [h0]; exact h.2.2.2.1, by rw [h0]; exact h.2.2.2.2.1, fun i hi => ?_, fun i hi => ?_, fun i hi => ?_⟩
  · rw [hc 1 (by omega), hc 2 (by omega), hc 3 (by omega), hc 4 (by omega)]; exact h.2.2.2.2.2.1 i hi
  · rw [hc 5 (by omega)]; exact h.2.2.2.2.2.2.1 i hi
  · rw [hc 6 (by omega), hc 7 (by omega), hc 8 (by omega)]; exact h.2.2.2.2.2.2.2 i hi
theorem SC.frl {s t : jM} {b : Nat} {v : Nat → Nat} {l : List Nat} (h : SC s b v) (hf : FrL l s t) (hc : ∀ j, j ≤ 8 → b + j ∉ l) : SC t b v := h.fr (fun j hj i => fr_gI hf (hc j hj))
theorem fillL_loop {N b0 n0 : Nat} {x : Int64} (hn : n0 < 2 ^ 31) : ∀ (m i : Nat) (s : jM) (q : Nat), n0 - i = m → i ≤ n0 → m < q → (∀ j, j < i → gL s b0 j = x) →
    ∃ t, lp_J7_fill_d0a16_6 N b0 n0 x (nI n0) q (nI i) s = some t ∧ FrL [b0] s t ∧ ∀ j, j < n0 → gL t b0 j = x := by
  intro m
  induction m with
  | zero =>
    intro i s q hm hi hq hj
    obtain ⟨q, rfl⟩ : ∃ r, q = r + 1 := ⟨q - 1, by omega⟩
    refine ⟨s, ?_, FrL.rf, fun j hjn => hj j (by omega)⟩
    rw [lp_J7_fill_d0a16_6, if_pos (by rw [nI_leI (by omega) (by omega)]; omega)]
  | succ m ih =>
    intro i s q hm hi hq hj
    obtain ⟨q, rfl⟩ : ∃ r, q = r + 1 := ⟨q - 1, by omega⟩
    have hf : FrL [b0] s (pL s b0 i x) := fr_pL FrL.rf (by simp)
    obtain ⟨t, e1, e2, e3⟩ := ih (i + 1) (pL s b0 i x) q (by omega) (by omega) (by omega) (fun j hj2 => by
      rw [gL_pL_cell]
      by_cases h : j = i
      · rw [if_pos h]
      · rw [if_neg h]; exact hj j (by omega))
    refine ⟨t, ?_, fr_tr hf e2, e3⟩
    rw [lp_J7_fill_d0a16_6, if_neg (by rw [nI_leI (by omega) (by omega)]; omega), ib_nI (by omega), gd_dec (by omega)]
    simp only [lt_]
    rw [nI_clamp (by omega), nI_1]
    exact e1
theorem fillL_ok {N b0 n0 : Nat} {x : Int64} {s : jM} (hn : n0 < 2 ^ 31) (hN : n0 < N) : ∃ t, f_J7_fill_d0a16 N b0 n0 x s = some t ∧ FrL [b0] s t ∧ ∀ j, j < n0 → gL t b0 j = x := by
  simp only [f_J7_fill_d0a16, lt_]
  exact fillL_loop hn n0 0 s N (by omega) (by omega) (by omega) (fun j hj => by omega)
def Fr29 (s t : jM) : Prop := ∀ i, i ≠ 5 → gI t 29 i = gI s 29 i
theorem jo_loop {v : Nat → Nat} {N a : Nat} {k2 : jM → Option (Int32 × jM)} (hN : 60 < N) (h : OkV v) (ha : a < 256) : ∀ (m i : Nat) (s : jM) (q : Nat), 5 - i = m → i ≤ 5 → m < q → SC s 1 v → (∀ j, j < i → gI s 34 j = nI (br v a j)) →
    ∃ s', lp_X4_isOdd_3 N (nI a) k2 q (nI i) s = k2 s' ∧ FrL [34] s s' ∧ ∀ j, j < 5 → gI s' 34 j = nI (br v a j) := by
  intro m
  induction m with
  | zero =>
    intro i s q hm hi hq hS hj
    obtain ⟨q, rfl⟩ : ∃ r, q = r + 1 := ⟨q - 1, by omega⟩
    refine ⟨s, ?_, FrL.rf, fun j hj5 => hj j (by omega)⟩
    rw [lp_X4_isOdd_3, if_pos (by rw [c_le (by omega) (by omega)]; omega)]
  | succ m ih =>
    intro i s q hm hi hq hS hj
    obtain ⟨q, rfl⟩ : ∃ r, q = r + 1 := ⟨q - 1, by omega⟩
    have hf : FrL [34] s (pI s 34 i (nI (br v a i))) := fr_pI FrL.rf (by decide)
    obtain ⟨s', e1, e2, e3⟩ := ih (i + 1) (pI s 34 i (nI (br v a i))) q (by omega) (by omega) (by omega) (hS.frl hf (by decide)) (fun j hj2 => by
      rw [gI_pI_cell]
      by_cases hji : j = i
      · rw [if_pos hji, hji]
      · rw [if_neg hji]; exact hj j (by omega))
    refine ⟨s', ?_, fr_tr hf e2, e3⟩
    rw [lp_X4_isOdd_3, if_neg (by rw [c_le (by omega) (by omega)]; omega), sumBrought_ok hN h hS ha (by omega), Option.bind_some, ib_nI (by omega), gd_dec (by omega)]
    simp only [lt_]
    rw [nI_clamp (by omega), nI_1]
    exact e1
theorem and1 (x : Int64) : x &&& 1 = 0 ∨ x &&& 1 = 1 := by
  have e : (1 : Int64).toBitVec = BitVec.twoPow 64 0 := by decide
  have h : x &&& 1 = if x.toBitVec.getLsbD 0 then 1 else 0 := by
    apply Int64.toBitVec_inj.mp
    rw [Int64.toBitVec_and, e, BitVec.and_twoPow]
    split
    · rw [e]
    · rfl
  rw [h]
  split
  · exact Or.inr rfl
  · exact Or.inl rfl
theorem isOddC_ok {v : Nat → Nat} {N a k m : Nat} {s : jM} (hN : 60 < N) (h : OkV v) (hS : SC s 1 v) (hW : VW (Tv v) (v 34) s) (ha : a < 256) (hm : m < 2 ^ 31) (hk : k < 1000) :
    ∃ s' r, f_X4_isOdd N (nI a) (nI k) (nI m) s = some (r, s') ∧ FrL [29, 32, 34] s s' ∧ Fr29 s s' ∧ (r = 0 ∨ r = 1) ∧ (r = 1 ↔ ODD v a k m) := by
  simp only [f_X4_isOdd, jn_, lt_]
  have hbr := br_le (a := a) (w := 0) h (by omega)
  obtain ⟨t, e1, e2, e3⟩ := jo_loop (N := N) (a := a) (k2 := fun s1 => gd (ib 0 5) (gd (ib 0 5) (Option.bind (f_X6_value N (nI m) (pI s1 34 (Int32.toNatClampNeg 0) (gI s1 34 (Int32.toNatClampNeg 0) + nI k))) fun r4 => if (r4.1 &&& 1) = 0 then some ((0 : Int32), r4.2) else some ((1 : Int32), r4.2)))) hN h ha 5 0 s N rfl (by omega) (by omega) hS (fun j hj => by omega)
  have hf2 : FrL [29, 32, 34] s (pI t 34 0 (gI t 34 0 + nI k)) := fr_pI (fr_mono e2 (by decide)) (by decide)
  have h29 : ∀ i, gI (pI t 34 0 (gI t 34 0 + nI k)) 29 i = gI s 29 i := fun i => by rw [gI_pI_ne (by decide)]; exact fr_gI e2 (by decide)
  have hW2 : VW (Tv v) (v 34) (pI t 34 0 (gI t 34 0 + nI k)) := hW.fr (fun i _ => h29 i) (fun i => fr_gI hf2 (by decide)) (fun i => fr_gI hf2 (by decide))
  obtain ⟨x, u, u1, u2, u3⟩ := value_ok (N := N) (a2 := nI m) (lt := ltv v a k m) (by omega) hW2 (fun j hj => by
    unfold ltv
    rw [gI_pI_cell]
    by_cases hj0 : j = 0
    · rw [if_pos hj0, if_pos hj0, e3 0 (by omega), nI_add, nI_l (by omega)]
    · have := br_le (a := a) (w := j) h hj
      rw [if_neg hj0, if_neg hj0, if_pos hj, e3 j hj, nI_l (by omega)]) (by rw [nI_l hm]; rfl)
  have hTV : TV (Tv v) (v 34) (ltv v a k m) x := by
    rcases u3 with ⟨_, u3⟩ | ⟨f, _, _, u3, u4⟩
    · exact Or.inl u3
    · exact Or.inr ⟨f, u3, u4⟩
  refine ⟨u, if x &&& 1 = 0 then 0 else 1, e1.trans ?_, fr_tr hf2 (fr_mono u2.1 (by decide)), fun i hi => (u2.2 i hi).trans (h29 i), ?_, ?_⟩
  · simp only [show ib (0 : Int32) 5 = true from by decide, gd_true, show Int32.toNatClampNeg (0 : Int32) = 0 from rfl]
    rw [u1, Option.bind_some]
    split <;> rfl
  · split
    · exact Or.inl rfl
    · exact Or.inr rfl
  · rw [ODD_iff hTV]
    rcases and1 x with hx | hx
    · rw [if_pos hx, hx]; decide
    · rw [if_neg (by rw [hx]; decide), hx]; decide
