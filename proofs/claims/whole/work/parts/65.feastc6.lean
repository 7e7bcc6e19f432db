/-! the feast in the class: asked for -/
theorem fillI_loop {N b0 n0 : Nat} {x : Int32} (hn : n0 < 2 ^ 31) : ∀ (m i : Nat) (s : jM) (q : Nat), n0 - i = m → i ≤ n0 → m < q → (∀ j, j < i → gI s b0 j = x) →
    ∃ t, lp_J7_fill_53178_5 N b0 n0 x (nI n0) q (nI i) s = some t ∧ FrL [b0] s t ∧ ∀ j, j < n0 → gI t b0 j = x := by
  intro m
  induction m with
  | zero =>
    intro i s q hm hi hq hj
    obtain ⟨q, rfl⟩ : ∃ r, q = r + 1 := ⟨q - 1, by omega⟩
    refine ⟨s, ?_, FrL.rf, fun j hjn => hj j (by omega)⟩
    rw [lp_J7_fill_53178_5, if_pos (by rw [nI_leI (by omega) (by omega)]; omega)]
  | succ m ih =>
    intro i s q hm hi hq hj
    obtain ⟨q, rfl⟩ : ∃ r, q = r + 1 := ⟨q - 1, by omega⟩
    have hf : FrL [b0] s (pI s b0 i x) := fr_pI FrL.rf (by simp)
    obtain ⟨t, e1, e2, e3⟩ := ih (i + 1) (pI s b0 i x) q (by omega) (by omega) (by omega) (fun j hj2 => by
      rw [gI_pI_cell]
      by_cases h : j = i
      · rw [if_pos h]
      · rw [if_neg h]; exact hj j (by omega))
    refine ⟨t, ?_, fr_tr hf e2, e3⟩
    rw [lp_J7_fill_53178_5, if_neg (by rw [nI_leI (by omega) (by omega)]; omega), ib_nI (by omega), gd_dec (by omega)]
    simp only [lt_]
    rw [nI_clamp (by omega), nI_1]
    exact e1
theorem fillI_ok {N b0 n0 : Nat} {x : Int32} {s : jM} (hn : n0 < 2 ^ 31) (hN : n0 < N) : ∃ t, f_J7_fill_53178 N b0 n0 x s = some t ∧ FrL [b0] s t ∧ ∀ j, j < n0 → gI t b0 j = x := by
  simp only [f_J7_fill_53178, lt_]
  exact fillI_loop hn n0 0 s N (by omega) (by omega) (by omega) (fun j hj => by omega)
def FI (s : jM) (v : Nat → Nat) : Prop := gI s 37 8 ≠ 0 → GS s v 200
theorem onset0 (v : Nat → Nat) : onset v (fun _ => 0) (fun _ => 0) = 0 := by
  unfold onset
  have : ∀ n, msk (isOn (fun _ => 0) (fun _ => 0)) n = 0 := by
    intro n
    induction n with
    | zero => rfl
    | succ n ih => simp only [msk]; rw [ih]; rfl
  exact this _
theorem goThrough_ok {v : Nat → Nat} {N : Nat} {s : jM} (hN : 1000 < N) (h : OkV v) (hK : KN s v) (hI : FI s v) :
    ∃ s', f_X1_goThrough N s = some s' ∧ KN s' v ∧ GS s' v 200 ∧ FrG s s' := by
  simp only [f_X1_goThrough, lt_]
  by_cases h8 : gI s 37 8 = 0
  · rw [if_pos h8]
    generalize hs1 : pI (pI (pI (pI s 37 8 1) 37 5 0) 37 6 0) 37 7 (-1) = s1
    have f1 : FrG s s1 := by rw [← hs1]; exact (((FrG.rf.l (by decide)).l (by decide)).l (by decide)).l (by decide)
    have g1 : FrL [37, 38, 39, 40] s s1 := by rw [← hs1]; exact fr_pI (fr_pI (fr_pI (fr_pI FrL.rf (by decide)) (by decide)) (by decide)) (by decide)
    obtain ⟨t, t1, t2, t3⟩ := fillI_ok (N := N) (b0 := 39) (n0 := 8) (x := -1) (s := s1) (by omega) (by omega)
    obtain ⟨u, u1, u2, u3⟩ := fillI_ok (N := N) (b0 := 40) (n0 := 8) (x := -1) (s := t) (by omega) (by omega)
    rw [t1, Option.bind_some, u1, Option.bind_some]
    have e37 : ∀ i, gI u 37 i = gI s1 37 i := fun i => (fr_gI u2 (by decide)).trans (fr_gI t2 (by decide))
    have gu : FrL [37, 38, 39, 40] s u := fr_tr g1 (fr_tr (fr_mono t2 (by decide)) (fr_mono u2 (by decide)))
    have fu : FrG s u := ⟨fr_mono gu (by decide), fun i _ => fr_gI gu (by decide)⟩
    have hG : GS u v 0 := by
      refine ⟨⟨?_, fun i hi => ⟨?_, u3 i hi⟩⟩, ?_, ?_, fun j hj => by omega⟩
      · rw [e37, ← hs1, show (fst_ v 0).1 = fun _ => 0 from rfl, show (fst_ v 0).2 = fun _ => 0 from rfl, onset0]
        simp [gI_pI_cell]; rfl
      · rw [fr_gI u2 (by decide)]; exact t3 i hi
      · rw [e37, ← hs1]; simp [gI_pI_cell]; rfl
      · rw [e37, ← hs1]; simp [gI_pI_cell]; rfl
    obtain ⟨s', e1, e2, e3, e4, e5⟩ := go_loop hN h 200 0 u N rfl (by omega) (by omega) (hK.g gu) hG
    exact ⟨s', e1, e2, e3, fu.tr e4⟩
  · rw [if_neg h8]
    exact ⟨s, rfl, hK, hI h8, FrG.rf⟩
