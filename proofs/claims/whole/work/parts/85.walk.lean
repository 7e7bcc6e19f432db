/-! walker -/
theorem Tv_eq {v w : Nat → Nat} (h : v 34 = w 34) (ht : ∀ i, i < v 34 → v (35 + i) = w (35 + i)) : Tv v = Tv w := by
  funext i
  unfold Tv
  rw [← h]
  by_cases hi : i < v 34
  · rw [if_pos hi, if_pos hi]; exact ht i hi
  · rw [if_neg hi, if_neg hi]
theorem forget_ok (s : jM) : f_X7_forgetWhatFollows s = some (pI (pI (pI s 33 5 1) 37 8 0) 41 14 0) := rfl
theorem OP_walker {a b c : Int32} {s : jM} (h : INV s) : OPI (f_X7_walker a b c s) (f_X8_walker a b c) := by
  obtain ⟨v, h⟩ := h
  have hO := h.1
  have hS := h.2.1.1
  have h8 := hO.1
  have ea : f_X8_in (Int32.toInt64 a) (0 : Int64) (7 : Int64) = f_X7_isWithin a (0 : Int32) (7 : Int32) := in_eq a 0 7
  have eb : f_X8_in (Int32.toInt64 b) (1 : Int64) (20 : Int64) = f_X7_isWithin b (1 : Int32) (20 : Int32) := in_eq b 1 20
  have ec : f_X8_in (Int32.toInt64 c) (0 : Int64) (99 : Int64) = f_X7_isWithin c (0 : Int32) (99 : Int32) := in_eq c 0 99
  have wa : (f_X7_isWithin a (0 : Int32) (7 : Int32) = some 0) ∨ ∃ n, 0 ≤ n ∧ n ≤ 7 ∧ a = nI n ∧ f_X7_isWithin a (0 : Int32) (7 : Int32) = some 1 := within_ok a (lo := 0) (hi := 7) (by omega) (by omega)
  have wb : (f_X7_isWithin b (1 : Int32) (20 : Int32) = some 0) ∨ ∃ n, 1 ≤ n ∧ n ≤ 20 ∧ b = nI n ∧ f_X7_isWithin b (1 : Int32) (20 : Int32) = some 1 := within_ok b (lo := 1) (hi := 20) (by omega) (by omega)
  have wc : (f_X7_isWithin c (0 : Int32) (99 : Int32) = some 0) ∨ ∃ n, 0 ≤ n ∧ n ≤ 99 ∧ c = nI n ∧ f_X7_isWithin c (0 : Int32) (99 : Int32) = some 1 := within_ok c (lo := 0) (hi := 99) (by omega) (by omega)
  rcases wa with xa | ⟨p, _, hp, rfl, xa⟩
  · refine op_bad h ?_ (fun t hR => ?_)
    · simp only [f_X7_walker, jn_]; rw [xa, Option.bind_some, if_pos rfl]; rfl
    · simp only [f_X8_walker, jn_]; rw [ea, xa, Option.bind_some, if_pos rfl]; rfl
  · rcases wb with xb | ⟨q, hq1, hq, rfl, xb⟩
    · refine op_bad h ?_ (fun t hR => ?_)
      · simp only [f_X7_walker, jn_]; rw [xa, Option.bind_some, if_neg (by decide), xb, Option.bind_some, if_pos rfl]; rfl
      · simp only [f_X8_walker, jn_]; rw [ea, xa, Option.bind_some, if_neg (by decide), eb, xb, Option.bind_some, if_pos rfl]; rfl
    · rcases wc with xc | ⟨r, _, hr, rfl, xc⟩
      · refine op_bad h ?_ (fun t hR => ?_)
        · simp only [f_X7_walker, jn_]; rw [xa, Option.bind_some, if_neg (by decide), xb, Option.bind_some, if_neg (by decide), xc, Option.bind_some, if_pos rfl]; rfl
        · simp only [f_X8_walker, jn_]; rw [ea, xa, Option.bind_some, if_neg (by decide), eb, xb, Option.bind_some, if_neg (by decide), ec, xc, Option.bind_some, if_pos rfl]; rfl
      · have h4 : gI s 1 4 = nI (v 99) := hS.1
        by_cases hful : v 99 = 8
        · refine op_full h ?_ (fun t hR => ?_)
          · simp only [f_X7_walker, jn_]
            rw [xa, Option.bind_some, if_neg (by decide), xb, Option.bind_some, if_neg (by decide), xc, Option.bind_some, if_neg (by decide), h4, hful, if_neg (by decide)]; rfl
          · simp only [f_X8_walker, jn_]
            rw [ea, xa, Option.bind_some, if_neg (by decide), eb, xb, Option.bind_some, if_neg (by decide), ec, xc, Option.bind_some, if_neg (by decide), walkers_ok hR, Option.bind_some, hful, if_pos (by decide)]; rfl
        · have hk : v 99 < 8 := by omega
          generalize hkk : v 99 = k at *
          generalize hu : pI (pI (pI (pI (pI s 2 k (nI p)) 3 k (nI q)) 4 k (nI r)) 5 k 10) 1 4 (nI (k + 1)) = u
          generalize ht : pI (pI (pI u 33 5 1) 37 8 0) 41 14 0 = t
          have hfu : FrL [1, 2, 3, 4, 5] s u := by rw [← hu]; exact fr_pI (fr_pI (fr_pI (fr_pI (fr_pI FrL.rf (by decide)) (by decide)) (by decide)) (by decide)) (by decide)
          have hft : FrL [33, 37, 41] u t := by rw [← ht]; exact fr_pI (fr_pI (fr_pI FrL.rf (by decide)) (by decide)) (by decide)
          have hRt : RM t 54 0 v := (h.2.2.1.fr (fun i => fr_gI hfu (by decide))).fr (fun i => fr_gI hft (by decide))
          have i0 : (0 : Int32) + (4 : Int32) * nI k = nI (4 * k) := by rw [lit_nI 4, pk_mul, show (0 : Int32) = nI 0 from rfl, nI_add, Nat.zero_add]
          refine ⟨nI k, t, pI (pI (pI (pI (pI t 54 (4 * k) (nI p)) 54 (4 * k + 1) (nI q)) 54 (4 * k + 2) (nI r)) 54 (4 * k + 3) (nI 10)) 54 99 (nI (k + 1)), ?_, ?_, vset (vset (v4set v (4 * k) p q r) (4 * k + 3) 10) 99 (k + 1), ?_⟩
          · simp only [f_X7_walker, jn_, lt_, f_X5_addWalker]
            simp only [gI_pI_ne (show (1 : Nat) ≠ 2 by decide), gI_pI_ne (show (1 : Nat) ≠ 3 by decide), gI_pI_ne (show (1 : Nat) ≠ 4 by decide), gI_pI_ne (show (1 : Nat) ≠ 5 by decide)]
            rw [xa, Option.bind_some, if_neg (by decide), xb, Option.bind_some, if_neg (by decide), xc, Option.bind_some, if_neg (by decide), h4, if_pos (by rw [lt_c (by omega) (by omega)]; omega), if_neg (by rw [c_le (by omega) (by omega)]; omega), ib_nI (by omega), gd_dec hk, gd_dec hk, gd_dec hk, gd_dec hk, nI_clamp (by omega), nI_1, Option.bind_some, hu, forget_ok, Option.bind_some, ht]
          · simp only [f_X8_walker, jn_, lt_]
            rw [ea, xa, Option.bind_some, if_neg (by decide), eb, xb, Option.bind_some, if_neg (by decide), ec, xc, Option.bind_some, if_neg (by decide), walkers_ok hRt, Option.bind_some, hkk, if_neg (by rw [eq_c (by omega) (by omega)]; omega), i0,
              show nI (4 * k) + (1 : Int32) = nI (4 * k + 1) from nI_1 _, show nI (4 * k) + (2 : Int32) = nI (4 * k + 2) from nI_add _ 2, show nI (4 * k) + (3 : Int32) = nI (4 * k + 3) from nI_add _ 3, ib_nI (by omega), ib_nI (by omega), ib_nI (by omega), ib_nI (by omega), gd_dec (by omega), gd_dec (by omega), gd_dec (by omega), gd_dec (by omega), nI_clamp (by omega), nI_clamp (by omega), nI_clamp (by omega), nI_clamp (by omega), show ib (99 : Int32) 101 = true from by decide, gd_true, gd_true, show Int32.toNatClampNeg (99 : Int32) = 99 from rfl,
              gI_pI_cell, if_neg (by omega), gI_pI_cell, if_neg (by omega), gI_pI_cell, if_neg (by omega), gI_pI_cell, if_neg (by omega), hRt.at (by omega), hkk, nI_1]
            rfl
          · generalize hw : vset (vset (v4set v (4 * k) p q r) (4 * k + 3) 10) 99 (k + 1) = w
            have ne : ∀ j, (j < 4 * k ∨ 4 * k + 3 < j) → j ≠ 99 → w j = v j := fun j hj h9 => by rw [← hw, vset_ne h9, vset_ne (by omega), v4_ne (by omega)]
            have e99 : w 99 = k + 1 := by rw [← hw, vset_eq]
            have new : w (4 * k) = p ∧ w (4 * k + 1) = q ∧ w (4 * k + 2) = r ∧ w (4 * k + 3) = 10 := by
              rw [← hw]
              exact ⟨by rw [vset_ne (by omega), vset_ne (by omega), v4_0], by rw [vset_ne (by omega), vset_ne (by omega), v4_1], by rw [vset_ne (by omega), vset_ne (by omega), v4_2], by rw [vset_ne (by omega), vset_eq]⟩
            have h40 := hO.2.2.1
            have hsd := hO.2.1
            have hg : FrL LSc s (pI (pI (pI (pI (pI t 54 (4 * k) (nI p)) 54 (4 * k + 1) (nI q)) 54 (4 * k + 2) (nI r)) 54 (4 * k + 3) (nI 10)) 54 99 (nI (k + 1))) := fr_pI (fr_pI (fr_pI (fr_pI (fr_pI (fr_tr (fr_mono hfu (by decide)) (fr_mono hft (by decide))) (by decide)) (by decide)) (by decide)) (by decide)) (by decide)
            have hlast : FrL [33, 37, 41, 54] u (pI (pI (pI (pI (pI t 54 (4 * k) (nI p)) 54 (4 * k + 1) (nI q)) 54 (4 * k + 2) (nI r)) 54 (4 * k + 3) (nI 10)) 54 99 (nI (k + 1))) := fr_pI (fr_pI (fr_pI (fr_pI (fr_pI (fr_mono hft (by decide)) (by decide)) (by decide)) (by decide)) (by decide)) (by decide)
            have g54 : ∀ c i, c ≠ 54 → gI (pI (pI (pI (pI (pI t 54 (4 * k) (nI p)) 54 (4 * k + 1) (nI q)) 54 (4 * k + 2) (nI r)) 54 (4 * k + 3) (nI 10)) 54 99 (nI (k + 1))) c i = gI t c i := fun c i hc => by rw [gI_pI_ne hc, gI_pI_ne hc, gI_pI_ne hc, gI_pI_ne hc, gI_pI_ne hc]
            have hTv : Tv v = Tv w := Tv_eq (ne _ (by omega) (by omega)).symm (fun i hi => (ne _ (by omega) (by omega)).symm)
            refine h.chg ?_ hg ?_ ?_ ?_ (fun z => ?_) (fun z => ?_) (fun z => ?_)
            · refine ⟨by rw [e99]; omega, by rw [ne _ (by omega) (by omega)]; exact hO.2.1, by rw [ne _ (by omega) (by omega)]; exact hO.2.2.1, by rw [ne _ (by omega) (by omega)]; exact hO.2.2.2.1, by rw [ne _ (by omega) (by omega)]; exact hO.2.2.2.2.1, fun i hi => ?_, fun i hi => ?_, fun i hi => ?_⟩
              · rw [e99] at hi
                by_cases hik : i = k
                · rw [hik, new.1, new.2.1, new.2.2.1, new.2.2.2]
                  omega
                · rw [ne _ (by omega) (by omega), ne _ (by omega) (by omega), ne _ (by omega) (by omega), ne _ (by omega) (by omega)]
                  exact hO.2.2.2.2.2.1 i (by omega)
              · rw [ne _ (by omega) (by omega)] at hi
                rw [ne _ (by omega) (by omega)]
                exact hO.2.2.2.2.2.2.1 i hi
              · rw [ne _ (by omega) (by omega)] at hi
                rw [ne (75 + 3 * i) (by omega) (by omega), ne (75 + 3 * i + 1) (by omega) (by omega), ne (75 + 3 * i + 2) (by omega) (by omega), e99]
                have := hO.2.2.2.2.2.2.2 i hi
                omega
            · have su : SC u 1 w := by
                have g : ∀ c i, c ≠ 1 → c ≠ 2 → c ≠ 3 → c ≠ 4 → c ≠ 5 → gI u c i = gI s c i := fun c i c1 c2 c3 c4 c5 => by rw [← hu, gI_pI_ne c1, gI_pI_ne c5, gI_pI_ne c4, gI_pI_ne c3, gI_pI_ne c2]
                have g1 : ∀ i, i ≠ 4 → gI u 1 i = gI s 1 i := fun i hi => by rw [← hu, gI_pI_cell, if_neg hi, gI_pI_ne (by decide), gI_pI_ne (by decide), gI_pI_ne (by decide), gI_pI_ne (by decide)]
                refine ⟨by rw [← hu, gI_pI_eq, e99], by rw [g1 5 (by decide), ne _ (by omega) (by omega)]; exact hS.2.1, by rw [g1 6 (by decide), ne _ (by omega) (by omega)]; exact hS.2.2.1, by rw [g1 8 (by decide), ne _ (by omega) (by omega)]; exact hS.2.2.2.1, by rw [g1 12 (by decide), ne _ (by omega) (by omega)]; exact hS.2.2.2.2.1, fun i hi => ?_, fun i hi => ?_, fun i hi => ?_⟩
                · rw [e99] at hi
                  show gI u 2 i = _ ∧ gI u 3 i = _ ∧ gI u 4 i = _ ∧ gI u 5 i = _
                  rw [← hu, gI_pI_ne (show (2 : Nat) ≠ 1 by decide), gI_pI_ne (show (2 : Nat) ≠ 5 by decide), gI_pI_ne (show (2 : Nat) ≠ 4 by decide), gI_pI_ne (show (2 : Nat) ≠ 3 by decide), gI_pI_cell, gI_pI_ne (show (3 : Nat) ≠ 1 by decide), gI_pI_ne (show (3 : Nat) ≠ 5 by decide), gI_pI_ne (show (3 : Nat) ≠ 4 by decide), gI_pI_cell, gI_pI_ne (show (3 : Nat) ≠ 2 by decide), gI_pI_ne (show (4 : Nat) ≠ 1 by decide), gI_pI_ne (show (4 : Nat) ≠ 5 by decide), gI_pI_cell, gI_pI_ne (show (4 : Nat) ≠ 3 by decide), gI_pI_ne (show (4 : Nat) ≠ 2 by decide), gI_pI_ne (show (5 : Nat) ≠ 1 by decide), gI_pI_cell, gI_pI_ne (show (5 : Nat) ≠ 4 by decide), gI_pI_ne (show (5 : Nat) ≠ 3 by decide), gI_pI_ne (show (5 : Nat) ≠ 2 by decide)]
                  by_cases hik : i = k
                  · rw [if_pos hik, if_pos hik, if_pos hik, if_pos hik, hik, new.1, new.2.1, new.2.2.1, new.2.2.2]
                    exact ⟨rfl, rfl, rfl, rfl⟩
                  · rw [if_neg hik, if_neg hik, if_neg hik, if_neg hik, ne _ (by omega) (by omega), ne _ (by omega) (by omega), ne _ (by omega) (by omega), ne _ (by omega) (by omega)]
                    exact hS.2.2.2.2.2.1 i (by omega)
                · rw [ne _ (by omega) (by omega)] at hi
                  rw [ne _ (by omega) (by omega), g _ _ (by decide) (by decide) (by decide) (by decide) (by decide)]
                  exact hS.2.2.2.2.2.2.1 i hi
                · rw [ne _ (by omega) (by omega)] at hi
                  rw [ne _ (by omega) (by omega), ne _ (by omega) (by omega), ne _ (by omega) (by omega), g _ _ (by decide) (by decide) (by decide) (by decide) (by decide), g _ _ (by decide) (by decide) (by decide) (by decide) (by decide), g _ _ (by decide) (by decide) (by decide) (by decide) (by decide)]
                  exact hS.2.2.2.2.2.2.2 i hi
              exact su.frl hlast (fun j hj => by simp; omega)
            · rw [← hw]
              exact ((((hRt.set).set).set).set (x := 10)).set
            · rw [← hTv, ne 34 (by omega) (by omega)]
              exact (h.2.1.2.1.frl (fr_mono hfu (l' := [1, 2, 3, 4, 5]) (fun c hc => hc)) (by decide) (by decide) (by decide)).frl hlast (by decide) (by decide) (by decide)
            · rw [g54 _ _ (by decide), ← ht, gI_pI_ne (by decide), gI_pI_ne (by decide), gI_pI_eq] at z
              exact absurd z (by decide)
            · rw [g54 _ _ (by decide), ← ht, gI_pI_ne (by decide), gI_pI_eq] at z
              exact (z rfl).elim
            · rw [g54 _ _ (by decide), ← ht, gI_pI_eq] at z
              exact (z rfl).elim
