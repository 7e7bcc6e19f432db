/-! the feast in the class: all its minutes -/
def GS (s : jM) (v : Nat → Nat) (m : Nat) : Prop := FC s v (fst_ v m).1 (fst_ v m).2 ∧ gI s 37 6 = nI (fnum v m) ∧ gI s 37 7 = enc (ffst v m) ∧ ∀ j, j < m → gI s 38 j = nI (onset v (fst_ v (j + 1)).1 (fst_ v (j + 1)).2)
theorem fnum_le (v : Nat → Nat) : ∀ m, fnum v m ≤ m := by
  intro m
  induction m with
  | zero => exact Nat.le_refl _
  | succ m ih => simp only [fnum]; split <;> omega
theorem fstp_none {v : Nat → Nat} {m : Nat} {p : (Nat → Nat) × (Nat → Nat)} (h : choice v m p.1 p.2 = none) : fstp v m p = p := by unfold fstp; rw [h]
theorem KN.g {s t : jM} {v : Nat → Nat} (h : KN s v) (hf : FrL [37, 38, 39, 40] s t) : KN t v := by
  refine ⟨h.1.frl hf (fun j hj => by simp; omega), h.2.1.fr (fun i _ => fr_gI hf (by decide)) (fun i => fr_gI hf (by decide)) (fun i => fr_gI hf (by decide)), ?_⟩
  intro h5 c b hc hb hh
  rw [fr_gI hf (by decide)] at h5
  rw [fr_gL hf (by decide)] at hh ⊢
  exact h.2.2 h5 c b hc hb hh
theorem fbad_iff {v : Nat → Nat} {m : Nat} : fbad v m = true ↔ choice v m (fst_ v m).1 (fst_ v m).2 = none := decide_eq_true_iff
theorem go_loop {v : Nat → Nat} {N : Nat} (hN : 1000 < N) (h : OkV v) : ∀ (k m : Nat) (s : jM) (q : Nat), 200 - m = k → m ≤ 200 → k < q → KN s v → GS s v m →
    ∃ s', lp_X1_goThrough_46 N q (nI m) s = some s' ∧ KN s' v ∧ GS s' v 200 ∧ FrG s s' ∧ gI s' 37 8 = gI s 37 8 := by
  intro k
  induction k with
  | zero =>
    intro m s q hk hm hq hK hG
    obtain ⟨q, rfl⟩ : ∃ r, q = r + 1 := ⟨q - 1, by omega⟩
    have e : m = 200 := by omega
    subst e
    refine ⟨s, ?_, hK, hG, FrG.rf, rfl⟩
    rw [lp_X1_goThrough_46, if_pos (by decide)]
  | succ k ih =>
    intro m s q hk hm hq hK hG
    obtain ⟨q, rfl⟩ : ∃ r, q = r + 1 := ⟨q - 1, by omega⟩
    have hF := FOK_st h m
    have hnl := fnum_le v m
    obtain ⟨g1, g2, g3, g4⟩ := hG
    obtain ⟨t, t1, t2, t3⟩ := bestSteps_ok (m := m) hN h hK g1 hF (by omega)
    have hKt := hK.j t2 t3
    have hCt := g1.j t2
    rw [lp_X1_goThrough_46, if_neg (by rw [c_le (by omega) (by omega)]; omega)]
    simp only [jn_, lt_]
    rw [t1, Option.bind_some]
    simp only
    -- the end of a minute
    have fin : ∀ u, KN u v → FC u v (fst_ v (m + 1)).1 (fst_ v (m + 1)).2 → gI u 37 6 = nI (fnum v (m + 1)) → gI u 37 7 = enc (ffst v (m + 1)) → FrG s u → gI u 37 8 = gI s 37 8 → (∀ i, gI u 38 i = gI s 38 i) →
        ∃ s', (gd (ib (nI m) 200) (lp_X1_goThrough_46 N q (nI m + 1) (pI u 38 (Int32.toNatClampNeg (nI m)) (gI u 37 5)))) = some s' ∧ KN s' v ∧ GS s' v 200 ∧ FrG s s' ∧ gI s' 37 8 = gI s 37 8 := by
      intro u uK uC u6 u7 uf u8 u38
      rw [ib_nI (by omega), gd_dec (by omega), nI_clamp (by omega), nI_1, uC.1]
      have hG2 : GS (pI u 38 m (nI (onset v (fst_ v (m + 1)).1 (fst_ v (m + 1)).2))) v (m + 1) := by
        refine ⟨uC.fr (by rw [gI_pI_ne (by decide)]) (fun i => by rw [gI_pI_ne (by decide)]) (fun i => by rw [gI_pI_ne (by decide)]), by rw [gI_pI_ne (by decide)]; exact u6, by rw [gI_pI_ne (by decide)]; exact u7, fun j hj => ?_⟩
        rw [gI_pI_cell]
        by_cases hjm : j = m
        · rw [if_pos hjm, hjm]
        · rw [if_neg hjm, u38]; exact g4 j (by omega)
      obtain ⟨s', e1, e2, e3, e4, e5⟩ := ih (m + 1) _ q (by omega) (by omega) (by omega) (uK.l (by decide)) hG2
      exact ⟨s', e1, e2, e3, (uf.l (by decide)).tr e4, by rw [e5, gI_pI_ne (by decide)]; exact u8⟩
    have t6 : gI t 37 6 = nI (fnum v m) := by rw [fr_gI t2.1 (by decide)]; exact g2
    have t7 : gI t 37 7 = enc (ffst v m) := by rw [fr_gI t2.1 (by decide)]; exact g3
    have t8 : gI t 37 8 = gI s 37 8 := fr_gI t2.1 (by decide)
    have t38 : ∀ i, gI t 38 i = gI s 38 i := fun i => fr_gI t2.1 (by decide)
    cases hc : choice v m (fst_ v m).1 (fst_ v m).2 with
    | none =>
      have hb := fbad_iff.mpr hc
      have est : fst_ v (m + 1) = fst_ v m := fstp_none hc
      have en : fnum v (m + 1) = fnum v m + 1 := by simp only [fnum]; rw [hb]; rfl
      rw [show encO none = -1 from rfl, if_pos rfl, t6]
      have go : ∀ (z : Int32), z = enc (ffst v (m + 1)) → ∃ s', (gd (ib (nI m) 200) (lp_X1_goThrough_46 N q (nI m + 1) (pI (pI (pI t 37 7 z) 37 6 (gI (pI t 37 7 z) 37 6 + 1)) 38 (Int32.toNatClampNeg (nI m)) (gI (pI (pI t 37 7 z) 37 6 (gI (pI t 37 7 z) 37 6 + 1)) 37 5)))) = some s' ∧ KN s' v ∧ GS s' v 200 ∧ FrG s s' ∧ gI s' 37 8 = gI s 37 8 := by
        intro z hz
        refine fin _ ((hKt.l (by decide)).l (by decide)) ?_ ?_ ?_ ((t2.g.l (by decide)).l (by decide)) ?_ ?_
        · rw [est]; exact hCt.fr (by rw [gI_pI_cell, if_neg (by decide), gI_pI_cell, if_neg (by decide)]) (fun i => by rw [gI_pI_ne (by decide), gI_pI_ne (by decide)]) (fun i => by rw [gI_pI_ne (by decide), gI_pI_ne (by decide)])
        · rw [gI_pI_eq, gI_pI_cell, if_neg (by decide), t6, nI_1, en]
        · rw [gI_pI_cell, if_neg (by decide), gI_pI_eq, hz]
        · rw [gI_pI_cell, if_neg (by decide), gI_pI_cell, if_neg (by decide)]; exact t8
        · intro i; rw [gI_pI_ne (by decide), gI_pI_ne (by decide)]; exact t38 i
      by_cases hz : fnum v m = 0
      · rw [hz, if_pos (by decide)]
        exact go (nI m) (by simp only [ffst]; rw [hb, if_pos rfl, if_pos hz]; rfl)
      · rw [if_neg (nI_ne0 (by omega) (by omega))]
        exact go (gI t 37 7) (by rw [t7]; simp only [ffst]; rw [hb, if_pos rfl, if_neg hz])
    | some x =>
      have hb : fbad v m = false := by
        cases hf : fbad v m with
        | true => rw [fbad_iff.mp hf] at hc; cases hc
        | false => rfl
      have hx := (choice_sub h hc).2
      obtain ⟨u, u1, u2, u3, u4, u5⟩ := step_ok (p := fst_ v m) (N := N) (by omega) h (by omega) hKt hCt hF hc
      rw [show encO (some x) = nI x from rfl, if_neg (nI_ne_m1 (by omega)), u1, Option.bind_some]
      have huG : FrG t u := ⟨fr_mono u2 (by decide), fun i hi => fr_gI u2 (by decide)⟩
      refine fin u u4 u5 ?_ ?_ (t2.g.tr huG) (by rw [u3 8 (by decide)]; exact t8) (fun i => by rw [fr_gI u2 (by decide)]; exact t38 i)
      · rw [u3 6 (by decide), t6]; simp only [fnum]; rw [hb]; rfl
      · rw [u3 7 (by decide), t7]; simp only [ffst]; rw [hb]; rfl
