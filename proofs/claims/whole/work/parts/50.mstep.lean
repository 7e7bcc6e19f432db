/-! the reference's reading: what stands, letters, digits -/
theorem letterOf_ok : ∀ c, c < 128 → f_X8_letterOf (nI c) = some (match lix c with | some j => nI j | none => -1) := by decide +kernel
theorem isFigure_ok : ∀ c, c < 128 → f_X8_isFigure (nI c) = some (if isD c = true then 1 else 0) := by decide +kernel
theorem isFigure_m1 : f_X8_isFigure (-1) = some 0 := by decide +kernel
theorem letterOf_m1 : f_X8_letterOf (-1) = some (-1) := by decide +kernel
/-- the signs that may stand on the stack -/
def gS : Bool → List Nat → Nat → Prop
  | _, [], o => o = 0
  | w, c :: S, o => (c < 128 ∧ 0 < rk c ∧ gS false S o) ∨ (c = 1000 ∧ 0 < o ∧ gS true S (o - 1)) ∨ (w = true ∧ (c = 1001 ∨ c = 1002) ∧ gS true S o)
theorem gS_w {S : List Nat} {o : Nat} (h : gS false S o) : gS true S o := by
  cases S with
  | nil => exact h
  | cons c S =>
    rcases h with h | h | h
    · exact Or.inl h
    · exact Or.inr (Or.inl h)
    · cases h.1
theorem gS_sd : ∀ (S : List Nat) (o : Nat) (v : Int64), gS true S o → gS false (sd S v).2 o ∧ nbS (sd S v).2 = nbS S ∧ (sd S v).2.length ≤ S.length := by
  intro S
  induction S with
  | nil => intro o v h; exact ⟨h, rfl, Nat.le_refl _⟩
  | cons c S ih =>
    intro o v h
    by_cases hc : 1000 < c
    · have e : sd (c :: S) v = sd S (s1 c v) := if_pos hc
      have hn : nbS (c :: S) = nbS S := by show (if c < 1000 then 1 else 0) + nbS S = _; rw [if_neg (by omega)]; omega
      rw [e, hn]
      rcases h with h | h | h
      · omega
      · omega
      · obtain ⟨a1, a2, a3⟩ := ih o (s1 c v) h.2.2
        exact ⟨a1, a2, by simp only [List.length_cons]; omega⟩
    · have e : sd (c :: S) v = (v, c :: S) := if_neg hc
      rw [e]
      refine ⟨?_, rfl, Nat.le_refl _⟩
      rcases h with h | h | h
      · exact Or.inl h
      · exact Or.inr (Or.inl h)
      · omega
theorem gS_wd {r : Nat} (hr : 0 < r) : ∀ (S : List Nat) (o : Nat) (V : List Int64), gS false S o → gS false (wd r S V).2 o ∧ (wd r S V).2.length ≤ S.length ∧ (∀ c S', (wd r S V).2 = c :: S' → c = 1000 ∨ rk c < r) := by
  intro S
  induction S with
  | nil => intro o V h; exact ⟨h, Nat.le_refl _, fun c S' h => by cases h⟩
  | cons c S ih =>
    intro o V h
    by_cases hc : c < 1000 ∧ r ≤ rk c
    · have e : wd r (c :: S) V = wd r S (wk c (V.tail.headD 0) (V.headD 0) :: V.tail.tail) := if_pos hc
      rw [e]
      rcases h with h | h | h
      · obtain ⟨a1, a2, a3⟩ := ih o (wk c (V.tail.headD 0) (V.headD 0) :: V.tail.tail) h.2.2
        exact ⟨a1, by simp only [List.length_cons]; omega, a3⟩
      · omega
      · cases h.1
    · have e : wd r (c :: S) V = (V, c :: S) := if_neg hc
      rw [e]
      refine ⟨h, Nat.le_refl _, fun c' S' hh => ?_⟩
      cases hh
      rcases h with h | h | h
      · right; have := h.1; omega
      · left; exact h.1
      · cases h.1
theorem gS_okc : ∀ (S : List Nat) (w : Bool) (o : Nat), gS w S o → ∀ c, c ∈ S → okc c := by
  intro S
  induction S with
  | nil => intro w o h c hc; simp at hc
  | cons d S ih =>
    intro w o h c hc
    rcases List.mem_cons.mp hc with rfl | hc
    · rcases h with h | h | h
      · exact Or.inl h.1
      · exact Or.inr (by omega)
      · exact Or.inr (by omega)
    · rcases h with h | h | h
      · exact ih _ _ h.2.2 c hc
      · exact ih _ _ h.2.2 c hc
      · exact ih _ _ h.2.2 c hc
theorem nbS_le : ∀ S : List Nat, nbS S ≤ S.length := by
  intro S
  induction S with
  | nil => exact Nat.le_refl _
  | cons c S ih => show (if c < 1000 then 1 else 0) + nbS S ≤ _; simp only [List.length_cons]; split <;> omega
theorem st_loop {N : Nat} {k3 : Int64 → jM → Option jM} : ∀ (S : List Nat) (v : Int64) (s : jM) (q : Nat) (V : List Int64), MV s V → MS s S → S.length < q →
    ∃ s', lp_X8_stands_2 N k3 q v s = k3 (sd S v).1 s' ∧ MV s' V ∧ MS s' (sd S v).2 ∧ FrR s s' ∧ gI s' 53 6 = gI s 53 6 ∧ gI s' 53 7 = gI s 53 7 := by
  intro S
  induction S with
  | nil =>
    intro v s q V hV hS hq
    obtain ⟨q, rfl⟩ : ∃ r, q = r + 1 := ⟨q - 1, by omega⟩
    refine ⟨s, ?_, hV, hS, FrR.rf, rfl, rfl⟩
    rw [lp_X8_stands_2, hS.1, if_pos (by decide)]
    rfl
  | cons c S ih =>
    intro v s q V hV hS hq
    obtain ⟨q, rfl⟩ : ∃ r, q = r + 1 := ⟨q - 1, by omega⟩
    have hl2 := hS.2.1
    simp only [List.length_cons] at hl2 hq
    have e11 : gI s 53 11 = nI (S.length + 1) := hS.1
    obtain ⟨htop, hok⟩ := hS.top
    have hc2 : c < 2000 := by rcases hok with h | h <;> omega
    rw [lp_X8_stands_2, e11, if_neg (nI_nle (by omega) (by omega)), nI_pred, ib_nI (by omega), gd_dec (by omega), nI_clamp (by omega), htop]
    by_cases hlt : 1000 < c
    · have e : sd (c :: S) v = sd S (s1 c v) := if_pos hlt
      rw [e, if_neg (by rw [le_c (by omega) (by omega)]; omega)]
      simp only [jn_, lt_]
      rw [gd_dec (by omega)]
      obtain ⟨s2, w1, w2, w3, w4, w5, w6⟩ := ih (s1 c v) (pI s 53 11 (nI S.length)) q V (hV.keep (t := pI s 53 11 (nI S.length)) (by rw [gI_pI_cell]; rfl) (fun i => rfl)) hS.pop (by omega)
      refine ⟨s2, ?_, w2, w3, (FrR.rf.pI53 (by omega)).tr w4, by rw [w5, gI_pI_cell]; rfl, by rw [w6, gI_pI_cell]; rfl⟩
      rw [← w1]
      by_cases h1 : c = 1001
      · subst h1
        rw [if_pos (by decide)]
        by_cases hv : v = 0
        · rw [if_pos hv, show s1 1001 v = 1 from by simp [s1, hv]]
        · rw [if_neg hv, show s1 1001 v = 0 from by simp [s1, hv]]
      · rw [if_neg (fun z => h1 ((eq_c (by omega) (by omega)).mp z)), show s1 c v = -v from if_neg h1]
    · have e : sd (c :: S) v = (v, c :: S) := if_neg hlt
      rw [e, if_pos (by rw [le_c (by omega) (by omega)]; omega)]
      exact ⟨s, rfl, hV, hS, FrR.rf, rfl, rfl⟩
theorem stands_ok {N : Nat} {s : jM} {V : List Int64} {S : List Nat} {v : Int64} (hN : 60 < N) (hV : MV s V) (hS : MS s S) (hl : V.length < 60) :
    ∃ s', f_X8_stands N v s = some s' ∧ MV s' ((sd S v).1 :: V) ∧ MS s' (sd S v).2 ∧ FrR s s' ∧ gI s' 53 6 = gI s 53 6 ∧ gI s' 53 7 = gI s 53 7 := by
  have hq := hS.2.1
  simp only [f_X8_stands, jn_, lt_]
  obtain ⟨s2, w1, w2, w3, w4, w5, w6⟩ := st_loop (N := N) (k3 := fun y1 s2 => gd (ib (gI s2 53 9) 64) <| some (pI (pL s2 58 (Int32.toNatClampNeg (gI s2 53 9)) y1) 53 9 (gI (pL s2 58 (Int32.toNatClampNeg (gI s2 53 9)) y1) 53 9 + 1))) S v s N V hV hS (by omega)
  have e9 : gI s2 53 9 = nI V.length := w2.1
  refine ⟨pI (pL s2 58 V.length (sd S v).1) 53 9 (nI (V.length + 1)), ?_, w2.push hl, w3.keep (by rw [gI_pI_cell]; rfl) (fun i => by rw [gI_pI_ne (by decide)]; rfl), w4.pL58.pI53 (by omega), by rw [gI_pI_cell]; exact w5, by rw [gI_pI_cell]; exact w6⟩
  refine Eq.trans w1 ?_
  rw [gI_pL, e9, ib_nI (by omega), gd_dec (by omega), nI_clamp (by omega), nI_1]
theorem mdg_loop {T : Nat → Nat} {n N p0 : Nat} {k4 : Int64 → jM → Option (Int64 × jM)} {k6 : jM → Option (Int64 × jM)} : ∀ (m p a : Nat) (s : jM) (q : Nat), MT T n s → gI s 53 6 = nI p → p0 + (6 - m) = p → m ≤ 6 → p ≤ n → m < q →
    (∃ (a' p' : Nat) (s' : jM), dgs T n m p a = (some a', p') ∧ lp_X8_digits_7 N (nI p0) k4 k6 q (lN a) s = k4 (lN a') s' ∧ gI s' 53 6 = nI p' ∧ (∀ i, i ≠ 6 → gI s' 53 i = gI s 53 i) ∧ FrL [53] s s' ∧ FrR s s' ∧ p ≤ p' ∧ p' ≤ n) ∨
    (∃ (p' : Nat) (s' : jM), dgs T n m p a = (none, p') ∧ lp_X8_digits_7 N (nI p0) k4 k6 q (lN a) s = k6 s' ∧ (∀ i, i ≠ 6 → gI s' 53 i = gI s 53 i) ∧ FrL [53] s s' ∧ FrR s s') := by
  intro m
  induction m with
  | zero =>
    intro p a s q hT hV hp hm hpn hq
    obtain ⟨q, rfl⟩ : ∃ r, q = r + 1 := ⟨q - 1, by omega⟩
    have hn := hT.1
    have hTp := hT.2.1 p
    rw [lp_X8_digits_7, textLong_ok hT, Option.bind_some, hV]
    by_cases hd : p < n ∧ isD (T p) = true
    · refine Or.inr ⟨p, s, if_pos hd, ?_, fun _ _ => rfl, FrL.rf, FrR.rf⟩
      rw [if_neg (by rw [nI_leI (by omega) (by omega)]; omega), charAt_ok hT (by omega), Option.bind_some, isFigure_ok _ hTp, Option.bind_some, if_pos hd.2, if_neg (by decide), pk_sub (by omega), if_pos (by rw [eq_c (by omega) (by omega)]; omega)]
    · refine Or.inl ⟨a, p, s, if_neg hd, ?_, hV, fun _ _ => rfl, FrL.rf, FrR.rf, Nat.le_refl _, hpn⟩
      by_cases h40 : n ≤ p
      · rw [if_pos (by rw [nI_leI (by omega) (by omega)]; omega)]
      · rw [if_neg (by rw [nI_leI (by omega) (by omega)]; omega), charAt_ok hT (by omega), Option.bind_some, isFigure_ok _ hTp, Option.bind_some, if_neg (fun z => hd ⟨by omega, z⟩), if_pos rfl]
  | succ m ih =>
    intro p a s q hT hV hp hm hpn hq
    obtain ⟨q, rfl⟩ : ∃ r, q = r + 1 := ⟨q - 1, by omega⟩
    have hn := hT.1
    have hTp := hT.2.1 p
    rw [lp_X8_digits_7, textLong_ok hT, Option.bind_some, hV]
    by_cases hd : p < n ∧ isD (T p) = true
    · have h48 : 48 ≤ T p ∧ T p ≤ 57 := by have := hd.2; simp [isD] at this; exact this
      have hf : FrR s (pI s 53 6 (nI (p + 1))) := FrR.rf.pI53 (by omega)
      have hf1 : FrL [53] s (pI s 53 6 (nI (p + 1))) := fr_pI FrL.rf (by decide)
      rw [if_neg (by rw [nI_leI (by omega) (by omega)]; omega), charAt_ok hT (by omega), Option.bind_some, isFigure_ok _ hTp, Option.bind_some, if_pos hd.2, if_neg (by decide), pk_sub (by omega), if_neg (by rw [eq_c (by omega) (by omega)]; omega), Option.bind_some]
      simp only [lt_]
      rw [nI_1, nI_l (by omega), show ((10 : Int64) * lN a + lN (T p) - 48) = lN (10 * a + (T p - 48)) from by
        rw [show (10 : Int64) = lN 10 from rfl, show (48 : Int64) = lN 48 from rfl, lN_mul, lN_add, lN_sub (by omega)]; congr 1; omega]
      have hds : dgs T n (m + 1) p a = dgs T n m (p + 1) (10 * a + (T p - 48)) := if_pos hd
      rw [hds]
      rcases ih (p + 1) (10 * a + (T p - 48)) (pI s 53 6 (nI (p + 1))) q (hT.fr hf) gI_pI_eq (by omega) (by omega) (by omega) (by omega) with ⟨a', p', s', r1, r2, r3, r4, r5, r6, r7, r8⟩ | ⟨p', s', r1, r2, r3, r9, r4⟩
      · exact Or.inl ⟨a', p', s', r1, r2, r3, fun i hi => by rw [r4 i hi, gI_pI_cell, if_neg hi], fr_tr hf1 r5, hf.tr r6, by omega, r8⟩
      · exact Or.inr ⟨p', s', r1, r2, fun i hi => by rw [r3 i hi, gI_pI_cell, if_neg hi], fr_tr hf1 r9, hf.tr r4⟩
    · refine Or.inl ⟨a, p, s, if_neg hd, ?_, hV, fun _ _ => rfl, FrL.rf, FrR.rf, Nat.le_refl _, hpn⟩
      by_cases h40 : n ≤ p
      · rw [if_pos (by rw [nI_leI (by omega) (by omega)]; omega)]
      · rw [if_neg (by rw [nI_leI (by omega) (by omega)]; omega), charAt_ok hT (by omega), Option.bind_some, isFigure_ok _ hTp, Option.bind_some, if_neg (fun z => hd ⟨by omega, z⟩), if_pos rfl]
theorem digits_ok {T : Nat → Nat} {n N p : Nat} {s : jM} (hN : 60 < N) (hT : MT T n s) (hp : gI s 53 6 = nI p) (hpn : p ≤ n) :
    (∃ (a' p' : Nat) (s' : jM), dgs T n 6 p 0 = (some a', p') ∧ f_X8_digits N s = some (lN a', s') ∧ gI s' 53 6 = nI p' ∧ (∀ i, i ≠ 6 → gI s' 53 i = gI s 53 i) ∧ FrL [53] s s' ∧ FrR s s' ∧ p ≤ p' ∧ p' ≤ n) ∨
    (∃ (p' : Nat) (s' : jM) (v : Int64), dgs T n 6 p 0 = (none, p') ∧ f_X8_digits N s = some (v, s') ∧ gI s' 53 7 = nI (10 * p + 2) ∧ (∀ i, i ≠ 6 → i ≠ 7 → gI s' 53 i = gI s 53 i) ∧ FrL [53] s s' ∧ FrR s s') := by
  simp only [f_X8_digits, jn_, lt_]
  rw [hp]
  rcases mdg_loop (N := N) (p0 := p) (k4 := fun y2 s3 => some (y2, s3)) (k6 := fun s5 => some ((0 : Int64), pI s5 53 7 ((10 : Int32) * nI p + 2))) 6 p 0 s N hT hp (by omega) (by omega) hpn (by omega) with ⟨a', p', s', r1, r2, r3, r4, r5, r6, r7, r8⟩ | ⟨p', s', r1, r2, r3, r9, r4⟩
  · exact Or.inl ⟨a', p', s', r1, r2, r3, r4, r5, r6, r7, r8⟩
  · refine Or.inr ⟨p', _, _, r1, r2, ?_, fun i h6 h7 => ?_, fr_pI r9 (by decide), r4.pI53 (by omega)⟩
    · rw [gI_pI_eq, lit_nI 10, lit_nI 2, pk_mul, nI_add]
    · rw [gI_pI_cell, if_neg h7]; exact r3 i h6
