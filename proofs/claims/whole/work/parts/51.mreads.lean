/-! the reference's reading: one turn of its loop is one step -/
def RI (T : Nat → Nat) (n : Nat) (s : jM) (pm : Nat) (w : Bool) (V : List Int64) (S : List Nat) (o : Nat) : Prop :=
  gI s 53 6 = nI pm ∧ pm ≤ n ∧ gI s 53 7 = -1 ∧ MV s V ∧ MS s S ∧ gS w S o ∧ V.length = nbS S + (cond w 0 1) ∧ S.length ≤ pm ∧ o ≤ 8
/-- what a turn leaves -/
def RT (T : Nat → Nat) (n : Nat) (s : jM) (pm : Nat) (x12 x13 x14 : Int32) : Out → Prop
  | .inl (w, p, V, S, o) => (∃ pm', nb T n pm' = p ∧ pm < pm' ∧ RI T n s pm' w V S o) ∧ x12 = nI o ∧ x13 = (cond w 1 0) ∧ x14 = 1
  | .inr (.inl f) => f < 1000 ∧ gI s 53 7 = nI f
  | .inr (.inr v) => x14 = 0 ∧ gI s 53 7 = -1 ∧ gL s 58 0 = v
theorem dgs_gt {T : Nat → Nat} {n p a a' p' : Nat} (hd : p < n ∧ isD (T p) = true) (h : dgs T n 6 p a = (some a', p')) : p < p' := by
  have e : dgs T n 6 p a = dgs T n 5 (p + 1) (10 * a + (T p - 48)) := if_pos hd
  rw [e] at h
  have : ∀ (m q b : Nat), q ≤ (dgs T n m q b).2 := by
    intro m
    induction m with
    | zero => intro q b; simp only [dgs]; split <;> exact Nat.le_refl _
    | succ m ih =>
      intro q b
      simp only [dgs]
      split
      · exact Nat.le_trans (Nat.le_succ q) (ih _ _)
      · exact Nat.le_refl _
  have h2 := this 5 (p + 1) (10 * a + (T p - 48))
  rw [h] at h2
  exact h2
theorem k10 {p : Nat} : (10 : Int32) * nI p + 1 = nI (10 * p + 1) := by rw [lit_nI 10, lit_nI 1, pk_mul, nI_add]
theorem k13 {p : Nat} : (10 : Int32) * nI p + 3 = nI (10 * p + 3) := by rw [lit_nI 10, lit_nI 3, pk_mul, nI_add]
theorem rd_W {T : Nat → Nat} {n N o pm : Nat} {k6 : jM → Option (Int32 × jM)} {lt : Nat → Int64} {s : jM} {V : List Int64} {S : List Nat} (hN : 60 < N) (hT : MT T n s) (hL : ∀ j, j < 6 → gL s 60 j = lt j) (h : RI T n s pm true V S o) (q : Nat) :
    ∃ s' x12 x13 x14, FrR s s' ∧ lp_X8_reads_26 N k6 (q + 1) (nI o) 1 1 s = lp_X8_reads_26 N k6 q x12 x13 x14 s' ∧ RT T n s' pm x12 x13 x14 (rstW lt T n (nb T n pm) V S o) := by
  obtain ⟨h1, h2, h3, h4, h5, h6, h7, h8, h9⟩ := h
  have hn := hT.1
  have hnS := nbS_le S
  obtain ⟨t, t1, t2, t3, t4, t5⟩ := ahead_ok (N := N) (by omega) h2 hT h1
  have hge := nb_ge' (T := T) (n := n) (p := pm)
  have hle := nb_le' (T := T) h2
  have hV : MV t V := h4.keep (t3 9 (by decide)) (fun i => by rw [fr_gL t4 (by decide)])
  have hS : MS t S := h5.keep (t3 11 (by decide)) (fun i => by rw [fr_gI t4 (by decide)])
  have hTt := hT.fr t5
  have hLt : ∀ j, j < 6 → gL t 60 j = lt j := fun j hj => by rw [fr_gL t5.1 (by decide)]; exact hL j hj
  have h3t : gI t 53 7 = -1 := by rw [t3 7 (by decide)]; exact h3
  have hid : nb T n (nb T n pm) = nb T n pm := nb_id
  simp only [cond] at h7
  rw [lp_X8_reads_26, if_neg (by decide), h3, if_pos rfl]
  simp only [jn_, lt_]
  rw [t1, Option.bind_some]
  simp only
  rw [if_neg (by decide)]
  generalize hp : nb T n pm = p at *
  by_cases hpn : p < n
  · rw [sgn_in hpn]
    have hTp := hTt.2.1 p
    have hc2 : T p < 2 ^ 31 := by omega
    rw [isFigure_ok _ hTp, Option.bind_some]
    have eW : rstW lt T n p V S o = (if isD (T p) = true then
      match dgs T n 6 p 0 with
      | (none, _) => .inr (.inl (10 * p + 2))
      | (some a, p') => .inl (false, nb T n p', (sd S (lN a)).1 :: V, (sd S (lN a)).2, o)
    else match lix (T p) with
      | some j => .inl (false, nb T n (p + 1), (sd S (lt j)).1 :: V, (sd S (lt j)).2, o)
      | none =>
        if T p = 33 then .inl (true, nb T n (p + 1), V, 1001 :: S, o)
        else if T p = 45 then .inl (true, nb T n (p + 1), V, 1002 :: S, o)
        else if T p = 40 ∧ o < 8 then .inl (true, nb T n (p + 1), V, 1000 :: S, o + 1)
        else .inr (.inl (10 * p + (if T p = 40 then 3 else 1)))) := if_pos hpn
    rw [eW]
    by_cases hd : isD (T p) = true
    · rw [if_pos hd, if_neg (by decide), if_pos hd]
      rcases digits_ok hN hTt t2 (by omega) with ⟨a', p', t', r1, r2, r3, r4, r5, r6, r7, r8⟩ | ⟨p', t', v, r1, r2, r3, r4, r9, r5⟩
      · have hV' : MV t' V := hV.keep (r4 9 (by decide)) (fun i => by rw [fr_gL r5 (by decide)])
        have hS' : MS t' S := hS.keep (r4 11 (by decide)) (fun i => by rw [fr_gI r5 (by decide)])
        obtain ⟨u, u1, u2, u3, u4, u5, u6⟩ := stands_ok (v := lN a') hN hV' hS' (by omega)
        obtain ⟨g1, g2, g3⟩ := gS_sd S o (lN a') h6
        have hgt := dgs_gt ⟨hpn, hd⟩ r1
        rw [r2, Option.bind_some]
        simp only
        rw [u1, Option.bind_some, r1]
        exact ⟨u, _, _, _, t5.tr (r6.tr u4), rfl, ⟨p', rfl, by omega, by rw [u5]; exact r3, r8, by rw [u6, r4 7 (by decide)]; exact h3t, u2, u3, g1, by simp only [List.length_cons, cond]; omega, by omega, h9⟩, rfl, rfl, rfl⟩
      · have hV' : MV t' V := hV.keep (r4 9 (by decide) (by decide)) (fun i => by rw [fr_gL r9 (by decide)])
        have hS' : MS t' S := hS.keep (r4 11 (by decide) (by decide)) (fun i => by rw [fr_gI r9 (by decide)])
        obtain ⟨u, u1, u2, u3, u4, u5, u6⟩ := stands_ok (v := v) hN hV' hS' (by omega)
        rw [r2, Option.bind_some]
        simp only
        rw [u1, Option.bind_some, r1]
        exact ⟨u, _, _, _, t5.tr (r5.tr u4), rfl, by omega, by rw [u6]; exact r3⟩
    · rw [if_neg hd, if_pos rfl, if_neg hd, letterOf_ok _ hTp, Option.bind_some]
      have hq1 : gI (pI t 53 6 (nI (p + 1))) 53 6 = nI (p + 1) := gI_pI_eq
      have hq11 : gI (pI t 53 6 (nI (p + 1))) 53 11 = nI S.length := by rw [gI_pI_cell]; exact hS.1
      have hq7 : gI (pI t 53 6 (nI (p + 1))) 53 7 = -1 := by rw [gI_pI_cell]; exact h3t
      have hVq : MV (pI t 53 6 (nI (p + 1))) V := hV.keep (by rw [gI_pI_cell]; rfl) (fun i => rfl)
      have hSq : MS (pI t 53 6 (nI (p + 1))) S := hS.keep (by rw [gI_pI_cell]; rfl) (fun i => by rw [gI_pI_ne (by decide)])
      have hfq : FrR t (pI t 53 6 (nI (p + 1))) := FrR.rf.pI53 (by omega)
      have hLq : ∀ j, j < 6 → gL (pI t 53 6 (nI (p + 1))) 60 j = lt j := fun j hj => hLt j hj
      -- a sign of one side is laid on
      have push : ∀ c, (c = 1000 ∨ c = 1001 ∨ c = 1002) → ∀ o', gS true (c :: S) o' → o' ≤ 8 → FrR s (pI (pI (pI t 53 6 (nI (p + 1))) 59 S.length (nI c)) 53 11 (nI (S.length + 1))) ∧
          ∃ pm', nb T n pm' = nb T n (p + 1) ∧ pm < pm' ∧ RI T n (pI (pI (pI t 53 6 (nI (p + 1))) 59 S.length (nI c)) 53 11 (nI (S.length + 1))) pm' true V (c :: S) o' := by
        intro c hc o' hg ho
        refine ⟨t5.tr (hfq.pI59.pI53 (by omega)), p + 1, rfl, by omega, ?_, by omega, ?_, ?_, hSq.push (Or.inr (by omega)) (by omega), hg, ?_, ?_, ho⟩
        · rw [gI_pI_cell, if_neg (by decide), gI_pI_ne (by decide)]; exact hq1
        · rw [gI_pI_cell, if_neg (by decide), gI_pI_ne (by decide)]; exact hq7
        · exact hVq.keep (by rw [gI_pI_cell, if_neg (by decide), gI_pI_ne (by decide)]) (fun i => rfl)
        · show V.length = (if c < 1000 then 1 else 0) + nbS S + 0
          rw [if_neg (by omega)]; omega
        · simp only [List.length_cons]; omega
      rw [t2, nI_1]
      generalize hu : pI t 53 6 (nI (p + 1)) = u at *
      cases hj : lix (T p) with
      | some j =>
        have hj6 : j < 6 := by have := lix_lt _ hTp; rw [hj] at this; exact this
        simp only
        rw [if_neg (nI_ne_m1 (by omega)), Option.bind_some]
        rw [ib_nI (by omega), gd_dec (by omega), nI_clamp (by omega), hLq j hj6]
        obtain ⟨u', u1, u2, u3, u4, u5, u6⟩ := stands_ok (v := lt j) hN hVq hSq (by omega)
        obtain ⟨g1, g2, g3⟩ := gS_sd S o (lt j) h6
        rw [u1, Option.bind_some]
        exact ⟨u', _, _, _, t5.tr (hfq.tr u4), rfl, ⟨p + 1, rfl, by omega, by rw [u5]; exact hq1, by omega, by rw [u6]; exact hq7, u2, u3, g1, by simp only [List.length_cons, cond]; omega, by omega, h9⟩, rfl, rfl, rfl⟩
      | none =>
        simp only
        rw [if_pos trivial, hq11, ib_nI (by omega), gd_dec (by omega), gd_dec (by omega), gd_dec (by omega), nI_clamp (by omega)]
        have q11 : ∀ v, gI (pI u 59 S.length v) 53 11 = nI S.length := fun v => by rw [gI_pI_ne (by decide)]; exact hq11
        simp only [q11, nI_1]
        by_cases h33 : T p = 33
        · rw [if_pos ((eq_c (by omega) hc2).mpr h33), if_pos ((eq_c (by omega) hc2).mpr h33), if_pos h33]
          obtain ⟨f1, f2⟩ := push 1001 (by omega) o (Or.inr (Or.inr ⟨rfl, Or.inl rfl, h6⟩)) h9
          exact ⟨_, _, _, _, f1, rfl, f2, rfl, rfl, rfl⟩
        rw [if_neg (fun z => h33 ((eq_c (by omega) hc2).mp z)), if_neg (fun z => h33 ((eq_c (by omega) hc2).mp z)), if_neg h33]
        by_cases h45 : T p = 45
        · rw [if_pos ((eq_c (by omega) hc2).mpr h45), if_pos h45]
          obtain ⟨f1, f2⟩ := push 1002 (by omega) o (Or.inr (Or.inr ⟨rfl, Or.inr rfl, h6⟩)) h9
          exact ⟨_, _, _, _, f1, rfl, f2, rfl, rfl, rfl⟩
        rw [if_neg (fun z => h45 ((eq_c (by omega) hc2).mp z)), if_neg h45]
        by_cases h40 : T p = 40
        · rw [if_pos ((eq_c (by omega) hc2).mpr h40), if_pos h40]
          by_cases ho : o < 8
          · rw [if_neg (by rw [c_le (by omega) (by omega)]; omega), if_pos ⟨h40, ho⟩]
            obtain ⟨f1, f2⟩ := push 1000 (by omega) (o + 1) (Or.inr (Or.inl ⟨rfl, by omega, h6⟩)) (by omega)
            exact ⟨_, _, _, _, f1, rfl, f2, rfl, rfl, rfl⟩
          · rw [if_pos (by rw [c_le (by omega) (by omega)]; omega), if_pos ((eq_c (by omega) hc2).mpr h40), if_neg (fun z => ho z.2), k13]
            exact ⟨_, _, _, _, t5.pI53 (by omega), rfl, by omega, gI_pI_eq⟩
        · rw [if_neg (fun z => h40 ((eq_c (by omega) hc2).mp z)), if_neg (fun z => h40 ((eq_c (by omega) hc2).mp z)), if_neg (fun z => h40 z.1), if_neg h40, k10]
          exact ⟨_, _, _, _, t5.pI53 (by omega), rfl, by omega, gI_pI_eq⟩
  · rw [sgn_out hpn]
    have eW : rstW lt T n p V S o = .inr (.inl (10 * p + 1)) := if_neg hpn
    rw [isFigure_m1, Option.bind_some, if_pos rfl, letterOf_m1, Option.bind_some, if_pos rfl, if_neg (by decide), if_neg (by decide), if_neg (by decide), if_neg (by decide), t2, k10, eW]
    exact ⟨_, _, _, _, t5.pI53 (by omega), rfl, by omega, gI_pI_eq⟩
