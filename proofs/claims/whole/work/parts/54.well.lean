/-! whether a set is well: the reference -/
def ltv (v : Nat → Nat) (a k m : Nat) (j : Nat) : Int64 := if j = 0 then lN (br v a 0 + k) else if j < 5 then lN (br v a j) else lN m
def ODD (v : Nat → Nat) (a k m : Nat) : Prop := ∃ x, TV (Tv v) (v 34) (ltv v a k m) x ∧ x &&& 1 = 1
def WELL (v : Nat → Nat) (a k m : Nat) : Prop := (a = 0 ∧ k = 0) ∨ ODD v a k m
theorem ODD_iff {v : Nat → Nat} {a k m : Nat} {x : Int64} (h : TV (Tv v) (v 34) (ltv v a k m) x) : ODD v a k m ↔ x &&& 1 = 1 :=
  ⟨fun ⟨y, h1, h2⟩ => by rw [TV_un h h1]; exact h2, fun h2 => ⟨x, h, h2⟩⟩
def FrW (s t : jM) : Prop := FrL [53, 58, 59, 60] s t ∧ (∀ i, i ≠ 6 → i ≠ 7 → i ≠ 9 → i ≠ 11 → gI t 53 i = gI s 53 i) ∧ (∀ i, i ≠ 13 → gL t 53 i = gL s 53 i)
theorem FrW.rf {s : jM} : FrW s s := ⟨FrL.rf, fun _ _ _ _ _ => rfl, fun _ _ => rfl⟩
theorem FrW.tr {s t u : jM} (h1 : FrW s t) (h2 : FrW t u) : FrW s u := ⟨fr_tr h1.1 h2.1, fun i a b c d => (h2.2.1 i a b c d).trans (h1.2.1 i a b c d), fun i a => (h2.2.2 i a).trans (h1.2.2 i a)⟩
theorem FrR.w {s t : jM} (h : FrR s t) : FrW s t := ⟨fr_mono h.1 (by decide), h.2.1, h.2.2⟩
theorem FrW.l60 {s t : jM} (h : FrW s t) {i : Nat} {x : Int64} : FrW s (pL t 60 i x) := ⟨fr_pL h.1 (by decide), h.2.1, fun j hj => by rw [gL_pL_ne (by decide)]; exact h.2.2 j hj⟩
theorem RM.w {v : Nat → Nat} {s t : jM} {c o : Nat} (h : RM s c o v) (hf : FrW s t) (hc : c ∉ [53, 58, 59, 60]) : RM t c o v := h.fr (fun i => fr_gI hf.1 hc)
theorem iw_loop {v : Nat → Nat} {N a : Nat} {k3 : jM → Option (Int32 × jM)} (hN : 60 < N) (h : OkV v) (ha : a < 256) : ∀ (m i : Nat) (s : jM) (q : Nat), 5 - i = m → i ≤ 5 → m < q → RM s 54 0 v → (∀ j, j < i → gL s 60 j = lN (br v a j)) →
    ∃ s', lp_X8_isWell_13 N (nI a) k3 q (nI i) s = k3 s' ∧ FrW s s' ∧ ∀ j, j < 5 → gL s' 60 j = lN (br v a j) := by
  intro m
  induction m with
  | zero =>
    intro i s q hm hi hq hR hj
    obtain ⟨q, rfl⟩ : ∃ r, q = r + 1 := ⟨q - 1, by omega⟩
    refine ⟨s, ?_, FrW.rf, fun j hj5 => hj j (by omega)⟩
    rw [lp_X8_isWell_13, if_pos (by rw [c_lt (by omega) (by omega)]; omega)]
  | succ m ih =>
    intro i s q hm hi hq hR hj
    obtain ⟨q, rfl⟩ : ∃ r, q = r + 1 := ⟨q - 1, by omega⟩
    have hb := br_le (a := a) (w := i) h (by omega)
    have hf : FrW s (pL s 60 i (lN (br v a i))) := FrW.rf.l60
    obtain ⟨s', e1, e2, e3⟩ := ih (i + 1) (pL s 60 i (lN (br v a i))) q (by omega) (by omega) (by omega) (hR.w hf (by decide)) (fun j hj2 => by
      rw [gL_pL_cell]
      by_cases hji : j = i
      · rw [if_pos hji, hji]
      · rw [if_neg hji]; exact hj j (by omega))
    refine ⟨s', ?_, hf.tr e2, e3⟩
    rw [lp_X8_isWell_13, if_neg (by rw [c_lt (by omega) (by omega)]; omega), broughtBy_ok hN h hR ha (by omega), Option.bind_some, ib_nI (by omega), gd_dec (by omega)]
    simp only [lt_]
    rw [nI_clamp (by omega), nI_l (by omega), nI_1]
    exact e1
theorem isWell_ok {v : Nat → Nat} {N a m k : Nat} {s : jM} (hN : 60 < N) (h : OkV v) (hR : RM s 54 0 v) (ha : a < 256) (hm : m < 2 ^ 31) (hk : k < 1000) :
    ∃ s' r, f_X8_isWell N (nI a) (nI m) (nI k) s = some (r, s') ∧ FrW s s' ∧ (r = 0 ∨ r = 1) ∧ (r = 1 ↔ WELL v a k m) := by
  simp only [f_X8_isWell, jn_, lt_]
  by_cases h0 : a = 0 ∧ k = 0
  · rw [if_pos (by rw [h0.1]; rfl), if_pos (by rw [h0.2]; rfl)]
    exact ⟨s, 1, rfl, FrW.rf, Or.inr rfl, fun _ => Or.inl h0, fun _ => rfl⟩
  · have hbr := br_le (a := a) (w := 0) h (by omega)
    obtain ⟨t, e1, e2, e3⟩ := iw_loop (N := N) (a := a) (k3 := fun s2 => gd (ib 0 6) (gd (ib 0 6) (gd (ib 5 6) (Option.bind (f_X8_reads N (pL (pL s2 60 (Int32.toNatClampNeg 0) (gL s2 60 (Int32.toNatClampNeg 0) + Int32.toInt64 (nI k))) 60 (Int32.toNatClampNeg 5) (Int32.toInt64 (nI m)))) fun r10 => if r10.1 = 0 then (gd (ib (0 : Int32) 6) (if (gL r10.2 60 (Int32.toNatClampNeg 0)) &&& 1 = 1 then some (1, r10.2) else some (0, r10.2))) else (if (gL r10.2 53 13) &&& 1 = 1 then some (1, r10.2) else some (0, r10.2)))))) hN h ha 5 0 s N rfl (by omega) (by omega) hR (fun j hj => by omega)
    have ej : ∀ (X Y : Option (Int32 × jM)), (if nI a = 0 then (if nI k = 0 then Y else X) else X) = X := by
      intro X Y
      by_cases h1 : a = 0
      · rw [if_pos (by rw [h1]; rfl), if_neg (nI_ne0 (by omega) (by omega))]
      · rw [if_neg (nI_ne0 (by omega) (by omega))]
    have hf2 : FrW s (pL (pL t 60 0 (gL t 60 0 + Int32.toInt64 (nI k))) 60 5 (Int32.toInt64 (nI m))) := e2.l60.l60
    have hL : ∀ j, j < 6 → gL (pL (pL t 60 0 (gL t 60 0 + Int32.toInt64 (nI k))) 60 5 (Int32.toInt64 (nI m))) 60 j = ltv v a k m j := by
      intro j hj
      unfold ltv
      rw [gL_pL_cell, gL_pL_cell]
      by_cases h5 : j = 5
      · rw [if_pos h5, if_neg (by omega), if_neg (by omega), nI_l hm]
      · rw [if_neg h5]
        by_cases hj0 : j = 0
        · rw [if_pos hj0, if_pos hj0, e3 0 (by omega), nI_l (by omega), lN_add]
        · rw [if_neg hj0, if_neg hj0, if_pos (by omega)]; exact e3 j (by omega)
    obtain ⟨u, r, u1, u2, u3⟩ := reads_ok (N := N) (lt := ltv v a k m) hN (MT_of h (hR.w hf2 (by decide))) hL
    have key : ∀ x : Int64, TV (Tv v) (v 34) (ltv v a k m) x → ((if x &&& 1 = 1 then (1 : Int32) else 0) = 1 ↔ WELL v a k m) := by
      intro x hx
      have := ODD_iff hx
      by_cases hx1 : x &&& 1 = 1
      · rw [if_pos hx1]; exact ⟨fun _ => Or.inr (this.mpr hx1), fun _ => rfl⟩
      · rw [if_neg hx1]; exact ⟨fun z => absurd z (by decide), fun z => by
          rcases z with z | z
          · exact absurd z h0
          · exact absurd (this.mp z) hx1⟩
    have e60 : gL u 60 0 = ltv v a k m 0 := by rw [fr_gL u2.1 (by decide)]; exact hL 0 (by omega)
    have e1' := e1.trans (show _ = some ((if (if r = 0 then gL u 60 0 else gL u 53 13) &&& 1 = 1 then (1 : Int32) else 0), u) from by
      simp only [show ib (0 : Int32) 6 = true from by decide, show ib (5 : Int32) 6 = true from by decide, gd_true, show Int32.toNatClampNeg (0 : Int32) = 0 from rfl, show Int32.toNatClampNeg (5 : Int32) = 5 from rfl]
      rw [u1, Option.bind_some]
      simp only
      by_cases hr : r = 0
      · rw [if_pos hr, if_pos hr]; split <;> rfl
      · rw [if_neg hr, if_neg hr]; split <;> rfl)
    refine ⟨u, _, (ej _ _).trans e1', hf2.tr u2.w, ?_, key _ ?_⟩
    · have : ∀ (P : Prop) [Decidable P], (if P then (1 : Int32) else 0) = 0 ∨ (if P then (1 : Int32) else 0) = 1 := by
        intro P _
        by_cases hP : P
        · exact Or.inr (if_pos hP)
        · exact Or.inl (if_neg hP)
      exact this _
    · rcases u3 with ⟨f, f1, f2, f3, f4⟩ | ⟨f1, f2, f3⟩
      · rw [if_pos f2]; exact Or.inr ⟨f, f4, e60⟩
      · rw [if_neg (by rw [f1]; decide)]; exact Or.inl f3
