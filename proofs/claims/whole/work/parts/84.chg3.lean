/-! say, walker -/
theorem within_lo {a : Int32} {lo hi : Nat} (hl : lo < 2 ^ 31) (hh : hi < 2 ^ 31) (h : f_X7_isWithin a (nI 0) (nI hi) = some 0) : f_X7_isWithin a (nI lo) (nI hi) = some 0 := by
  rcases within_ok a hl hh with w | ⟨n, n1, n2, rfl, w⟩
  · exact w
  · rw [within_n (by omega) (by omega) hh, if_pos ⟨Nat.zero_le _, n2⟩] at h
    cases h
def v4set (v : Nat → Nat) (i a b c : Nat) : Nat → Nat := vset (vset (vset v i a) (i + 1) b) (i + 2) c
theorem v4_ne {v : Nat → Nat} {i a b c j : Nat} (h : j < i ∨ i + 2 < j) : v4set v i a b c j = v j := by
  unfold v4set
  rw [vset_ne (by omega), vset_ne (by omega), vset_ne (by omega)]
theorem v4_0 {v : Nat → Nat} {i a b c : Nat} : v4set v i a b c i = a := by unfold v4set; rw [vset_ne (by omega), vset_ne (by omega), vset_eq]
theorem v4_1 {v : Nat → Nat} {i a b c : Nat} : v4set v i a b c (i + 1) = b := by unfold v4set; rw [vset_ne (by omega), vset_eq]
theorem v4_2 {v : Nat → Nat} {i a b c : Nat} : v4set v i a b c (i + 2) = c := by unfold v4set; rw [vset_eq]
theorem OP_say {a b c : Int32} {s : jM} (h : INV s) : OPI (f_X7_say a b c s) (f_X8_say a b c) := by
  obtain ⟨v, h⟩ := h
  have hO := h.1
  have hS := h.2.1.1
  have h8 := hO.1
  have hsd := hO.2.1
  have ec : f_X8_in (Int32.toInt64 c) (0 : Int64) (62 : Int64) = f_X7_isWithin c (0 : Int32) (62 : Int32) := in_eq c 0 62
  have eb : f_X8_in (Int32.toInt64 b) (0 : Int64) (Int32.toInt64 c) = f_X7_isWithin b (0 : Int32) c := in_eq b 0 c
  have wb : (f_X7_isWithin b (0 : Int32) (62 : Int32) = some 0) ∨ ∃ n, 0 ≤ n ∧ n ≤ 62 ∧ b = nI n ∧ f_X7_isWithin b (0 : Int32) (62 : Int32) = some 1 := within_ok b (lo := 0) (hi := 62) (by omega) (by omega)
  have wc : (f_X7_isWithin c (0 : Int32) (62 : Int32) = some 0) ∨ ∃ n, 0 ≤ n ∧ n ≤ 62 ∧ c = nI n ∧ f_X7_isWithin c (0 : Int32) (62 : Int32) = some 1 := within_ok c (lo := 0) (hi := 62) (by omega) (by omega)
  rcases walk_ok a hO hS.1 with ⟨e1, e2⟩ | ⟨n, hn, rfl, e1, e2⟩
  · refine op_bad h ?_ (fun t hR => ?_)
    · simp only [f_X7_say, jn_]; rw [e1, Option.bind_some, if_pos rfl]; rfl
    · simp only [f_X8_say, jn_]; rw [e2 t hR, Option.bind_some, if_pos rfl]; rfl
  · rcases wc with xc | ⟨q, _, hq, rfl, xc⟩
    · -- c is not as told
      refine op_bad h ?_ (fun t hR => ?_)
      · simp only [f_X7_say, jn_]
        rw [e1, Option.bind_some, if_neg (by decide)]
        rcases wb with xb | ⟨p, _, hp, rfl, xb⟩
        · rw [xb, Option.bind_some, if_pos rfl]; rfl
        · rw [xb, Option.bind_some, if_neg (by decide), show f_X7_isWithin c (nI p) (62 : Int32) = some 0 from within_lo (lo := p) (hi := 62) (by omega) (by omega) xc, Option.bind_some, if_pos rfl]; rfl
      · simp only [f_X8_say, jn_]
        rw [e2 t hR, Option.bind_some, if_neg (by decide), ec, xc, Option.bind_some, if_pos rfl]; rfl
    · have wq : (f_X7_isWithin b (0 : Int32) (nI q) = some 0) ∨ ∃ n, 0 ≤ n ∧ n ≤ q ∧ b = nI n ∧ f_X7_isWithin b (0 : Int32) (nI q) = some 1 := within_ok b (lo := 0) (hi := q) (by omega) (by omega)
      rcases wq with yb | ⟨p, _, hp, rfl, yb⟩
      · refine op_bad h ?_ (fun t hR => ?_)
        · simp only [f_X7_say, jn_]
          rw [e1, Option.bind_some, if_neg (by decide)]
          rcases wb with xb | ⟨p, _, hp, rfl, xb⟩
          · rw [xb, Option.bind_some, if_pos rfl]; rfl
          · have hpq : ¬ p ≤ q := fun z => by
              have := within_n (n := p) (lo := 0) (hi := q) (by omega) (by omega) (by omega)
              rw [show nI 0 = (0 : Int32) from rfl, yb, if_pos ⟨Nat.zero_le _, z⟩] at this
              cases this
            have : f_X7_isWithin (nI q) (nI p) (62 : Int32) = some 0 := by
              have := within_n (n := q) (lo := p) (hi := 62) (by omega) (by omega) (by omega)
              rw [if_neg (by omega)] at this
              exact this
            rw [xb, Option.bind_some, if_neg (by decide), this, Option.bind_some, if_pos rfl]; rfl
        · simp only [f_X8_say, jn_]
          rw [e2 t hR, Option.bind_some, if_neg (by decide), ec, xc, Option.bind_some, if_neg (by decide), eb, yb, Option.bind_some, if_pos rfl]; rfl
      · have xb : f_X7_isWithin (nI p) (0 : Int32) (62 : Int32) = some 1 := by
          have := within_n (n := p) (lo := 0) (hi := 62) (by omega) (by omega) (by omega)
          rw [if_pos (by omega)] at this
          exact this
        have xq : f_X7_isWithin (nI q) (nI p) (62 : Int32) = some 1 := by
          have := within_n (n := q) (lo := p) (hi := 62) (by omega) (by omega) (by omega)
          rw [if_pos (by omega)] at this
          exact this
        have h12 : gI s 1 12 = nI (v 100) := hS.2.2.2.2.1
        by_cases hful : v 100 = 8
        · refine op_full h ?_ (fun t hR => ?_)
          · simp only [f_X7_say, jn_]
            rw [e1, Option.bind_some, if_neg (by decide), xb, Option.bind_some, if_neg (by decide), xq, Option.bind_some, if_neg (by decide), h12, hful, if_neg (by decide)]; rfl
          · simp only [f_X8_say, jn_]
            rw [e2 t hR, Option.bind_some, if_neg (by decide), ec, xc, Option.bind_some, if_neg (by decide), eb, yb, Option.bind_some, if_neg (by decide), said_ok hR, Option.bind_some, hful, if_pos (by decide)]; rfl
        · have hk : v 100 < 8 := by omega
          generalize hkk : v 100 = k at *
          have hf1 : FrL L9 s (pI (pI (pI (pI s 7 k (nI n)) 8 k (nI p)) 9 k (nI q)) 1 12 (nI (k + 1))) := fr_pI (fr_pI (fr_pI (fr_pI FrL.rf (by decide)) (by decide)) (by decide)) (by decide)
          have hR1 : RM (pI (pI (pI (pI s 7 k (nI n)) 8 k (nI p)) 9 k (nI q)) 1 12 (nI (k + 1))) 54 0 v := (((h.2.2.1.o (by decide)).o (by decide)).o (by decide)).o (by decide)
          have i0 : (75 : Int32) + (3 : Int32) * nI k = nI (75 + 3 * k) := by rw [lit_nI 3, pk_mul, lit_nI 75, nI_add]
          refine ⟨nI k, pI (pI (pI (pI s 7 k (nI n)) 8 k (nI p)) 9 k (nI q)) 1 12 (nI (k + 1)), pI (pI (pI (pI (pI (pI (pI (pI s 7 k (nI n)) 8 k (nI p)) 9 k (nI q)) 1 12 (nI (k + 1))) 54 (75 + 3 * k) (nI n)) 54 (75 + 3 * k + 1) (nI p)) 54 (75 + 3 * k + 2) (nI q)) 54 100 (nI (k + 1)), ?_, ?_, vset (v4set v (75 + 3 * k) n p q) 100 (k + 1), ?_⟩
          · simp only [f_X7_say, jn_, lt_, f_X5_addSaid]
            simp only [gI_pI_ne (show (1 : Nat) ≠ 7 by decide), gI_pI_ne (show (1 : Nat) ≠ 8 by decide), gI_pI_ne (show (1 : Nat) ≠ 9 by decide)]
            rw [e1, Option.bind_some, if_neg (by decide), xb, Option.bind_some, if_neg (by decide), xq, Option.bind_some, if_neg (by decide), h12, if_pos (by rw [lt_c (by omega) (by omega)]; omega), if_neg (by rw [c_le (by omega) (by omega)]; omega), ib_nI (by omega), gd_dec hk, gd_dec hk, gd_dec hk, nI_clamp (by omega), nI_1]
            rfl
          · simp only [f_X8_say, jn_, lt_]
            rw [e2 _ hR1, Option.bind_some, if_neg (by decide), ec, xc, Option.bind_some, if_neg (by decide), eb, yb, Option.bind_some, if_neg (by decide), said_ok hR1, Option.bind_some, hkk, if_neg (by rw [eq_c (by omega) (by omega)]; omega), i0,
              show nI (75 + 3 * k) + (1 : Int32) = nI (75 + 3 * k + 1) from nI_1 _, show nI (75 + 3 * k) + (2 : Int32) = nI (75 + 3 * k + 2) from nI_add _ 2, ib_nI (by omega), ib_nI (by omega), ib_nI (by omega), gd_dec (by omega), gd_dec (by omega), gd_dec (by omega), nI_clamp (by omega), nI_clamp (by omega), nI_clamp (by omega), show ib (100 : Int32) 101 = true from by decide, gd_true, gd_true, show Int32.toNatClampNeg (100 : Int32) = 100 from rfl,
              gI_pI_cell, if_neg (by omega), gI_pI_cell, if_neg (by omega), gI_pI_cell, if_neg (by omega), hR1.at (by omega), hkk, nI_1]
          · have ne : ∀ j, j < 75 → vset (v4set v (75 + 3 * k) n p q) 100 (k + 1) j = v j := fun j hj => by rw [vset_ne (by omega), v4_ne (by omega)]
            have e99 : vset (v4set v (75 + 3 * k) n p q) 100 (k + 1) 99 = v 99 := by rw [vset_ne (by omega), v4_ne (by omega)]
            have e100 : vset (v4set v (75 + 3 * k) n p q) 100 (k + 1) 100 = k + 1 := vset_eq
            have h40 := hO.2.2.1
            have old : ∀ i, i < k → vset (v4set v (75 + 3 * k) n p q) 100 (k + 1) (75 + 3 * i) = v (75 + 3 * i) ∧ vset (v4set v (75 + 3 * k) n p q) 100 (k + 1) (75 + 3 * i + 1) = v (75 + 3 * i + 1) ∧ vset (v4set v (75 + 3 * k) n p q) 100 (k + 1) (75 + 3 * i + 2) = v (75 + 3 * i + 2) := fun i hi =>
              ⟨by rw [vset_ne (by omega), v4_ne (by omega)], by rw [vset_ne (by omega), v4_ne (by omega)], by rw [vset_ne (by omega), v4_ne (by omega)]⟩
            have new : vset (v4set v (75 + 3 * k) n p q) 100 (k + 1) (75 + 3 * k) = n ∧ vset (v4set v (75 + 3 * k) n p q) 100 (k + 1) (75 + 3 * k + 1) = p ∧ vset (v4set v (75 + 3 * k) n p q) 100 (k + 1) (75 + 3 * k + 2) = q :=
              ⟨by rw [vset_ne (by omega), v4_0], by rw [vset_ne (by omega), v4_1], by rw [vset_ne (by omega), v4_2]⟩
            have hEF : EqF v (vset (v4set v (75 + 3 * k) n p q) 100 (k + 1)) := ⟨⟨e99.symm, (ne _ (by omega)).symm, fun i hi => (ne _ (by omega)).symm, fun i hi => (ne _ (by omega)).symm⟩, (ne _ (by omega)).symm, fun i hi => ⟨(ne _ (by omega)).symm, (ne _ (by omega)).symm⟩⟩
            refine h.same ?_ (fr_pI (fr_pI (fr_pI (fr_pI hf1 (by decide)) (by decide)) (by decide)) (by decide)) ?_ ?_ hEF ⟨hEF.1, (ne _ (by omega)).symm, fun i hi => (ne _ (by omega)).symm⟩
            · refine ⟨by rw [e99]; exact hO.1, by rw [e100]; omega, by rw [ne _ (by omega)]; exact hO.2.2.1, by rw [ne _ (by omega)]; exact hO.2.2.2.1, by rw [ne _ (by omega)]; exact hO.2.2.2.2.1, fun i hi => ?_, fun i hi => ?_, fun i hi => ?_⟩
              · rw [e99] at hi
                rw [ne _ (by omega), ne _ (by omega), ne _ (by omega), ne _ (by omega)]
                exact hO.2.2.2.2.2.1 i hi
              · rw [ne _ (by omega)] at hi
                rw [ne _ (by omega)]
                exact hO.2.2.2.2.2.2.1 i hi
              · rw [e100] at hi
                rw [e99]
                by_cases hik : i = k
                · rw [hik, new.1, new.2.1, new.2.2]
                  exact ⟨hn, hp, hq⟩
                · obtain ⟨o1, o2, o3⟩ := old i (by omega)
                  rw [o1, o2, o3]
                  exact hO.2.2.2.2.2.2.2 i (by omega)
            · have g : ∀ c i, c ≠ 54 → c ≠ 1 → c ≠ 7 → c ≠ 8 → c ≠ 9 → gI (pI (pI (pI (pI (pI (pI (pI (pI s 7 k (nI n)) 8 k (nI p)) 9 k (nI q)) 1 12 (nI (k + 1))) 54 (75 + 3 * k) (nI n)) 54 (75 + 3 * k + 1) (nI p)) 54 (75 + 3 * k + 2) (nI q)) 54 100 (nI (k + 1))) c i = gI s c i := fun c i c1 c2 c3 c4 c5 => by rw [gI_pI_ne c1, gI_pI_ne c1, gI_pI_ne c1, gI_pI_ne c1, gI_pI_ne c2, gI_pI_ne c5, gI_pI_ne c4, gI_pI_ne c3]
              have g1 : ∀ i, i ≠ 12 → gI (pI (pI (pI (pI (pI (pI (pI (pI s 7 k (nI n)) 8 k (nI p)) 9 k (nI q)) 1 12 (nI (k + 1))) 54 (75 + 3 * k) (nI n)) 54 (75 + 3 * k + 1) (nI p)) 54 (75 + 3 * k + 2) (nI q)) 54 100 (nI (k + 1))) 1 i = gI s 1 i := fun i hi => by rw [gI_pI_ne (by decide), gI_pI_ne (by decide), gI_pI_ne (by decide), gI_pI_ne (by decide), gI_pI_cell, if_neg hi, gI_pI_ne (by decide), gI_pI_ne (by decide), gI_pI_ne (by decide)]
              refine ⟨by rw [g1 4 (by decide), e99]; exact hS.1, by rw [g1 5 (by decide), ne _ (by omega)]; exact hS.2.1, by rw [g1 6 (by decide), ne _ (by omega)]; exact hS.2.2.1, by rw [g1 8 (by decide), ne _ (by omega)]; exact hS.2.2.2.1, by rw [gI_pI_ne (by decide), gI_pI_ne (by decide), gI_pI_ne (by decide), gI_pI_ne (by decide), gI_pI_eq, e100], fun i hi => ?_, fun i hi => ?_, fun i hi => ?_⟩
              · rw [e99] at hi
                rw [ne _ (by omega), ne _ (by omega), ne _ (by omega), ne _ (by omega), g _ _ (by decide) (by decide) (by decide) (by decide) (by decide), g _ _ (by decide) (by decide) (by decide) (by decide) (by decide), g _ _ (by decide) (by decide) (by decide) (by decide) (by decide), g _ _ (by decide) (by decide) (by decide) (by decide) (by decide)]
                exact hS.2.2.2.2.2.1 i hi
              · rw [ne _ (by omega)] at hi
                rw [ne _ (by omega), g _ _ (by decide) (by decide) (by decide) (by decide) (by decide)]
                exact hS.2.2.2.2.2.2.1 i hi
              · rw [e100] at hi
                have r : ∀ c, c = 7 ∨ c = 8 ∨ c = 9 → gI (pI (pI (pI (pI (pI (pI (pI (pI s 7 k (nI n)) 8 k (nI p)) 9 k (nI q)) 1 12 (nI (k + 1))) 54 (75 + 3 * k) (nI n)) 54 (75 + 3 * k + 1) (nI p)) 54 (75 + 3 * k + 2) (nI q)) 54 100 (nI (k + 1))) c i = gI (pI (pI (pI s 7 k (nI n)) 8 k (nI p)) 9 k (nI q)) c i := fun c hc => by rw [gI_pI_ne (by omega), gI_pI_ne (by omega), gI_pI_ne (by omega), gI_pI_ne (by omega), gI_pI_ne (by omega)]
                rw [r _ (by omega), r _ (by omega), r _ (by omega)]
                show gI (pI (pI (pI s 7 k (nI n)) 8 k (nI p)) 9 k (nI q)) 7 i = _ ∧ gI (pI (pI (pI s 7 k (nI n)) 8 k (nI p)) 9 k (nI q)) 8 i = _ ∧ gI (pI (pI (pI s 7 k (nI n)) 8 k (nI p)) 9 k (nI q)) 9 i = _
                rw [gI_pI_ne (show (7 : Nat) ≠ 9 by decide), gI_pI_ne (show (7 : Nat) ≠ 8 by decide), gI_pI_cell, gI_pI_ne (show (8 : Nat) ≠ 9 by decide), gI_pI_cell, gI_pI_ne (show (8 : Nat) ≠ 7 by decide), gI_pI_cell, gI_pI_ne (show (9 : Nat) ≠ 8 by decide), gI_pI_ne (show (9 : Nat) ≠ 7 by decide)]
                by_cases hik : i = k
                · rw [if_pos hik, if_pos hik, if_pos hik, hik, new.1, new.2.1, new.2.2]
                  exact ⟨rfl, rfl, rfl⟩
                · obtain ⟨o1, o2, o3⟩ := old i (by omega)
                  rw [if_neg hik, if_neg hik, if_neg hik, o1, o2, o3]
                  exact hS.2.2.2.2.2.2.2 i (by omega)
            · exact (((hR1.set).set).set).set
