/-! digits, bare units -/
theorem VP.at {s : jM} {p p' : Nat} {fl : Int32} {cd : List (Nat × Nat)} {nm : Int32} (h : VP s p fl cd nm) : VP (pI s 29 6 (nI p')) p' fl cd nm :=
  ⟨gI_pI_eq, by rw [gI_pI_cell]; exact h.2.1, by rw [gI_pI_cell]; exact h.2.2.1, h.2.2.2.1, fun i x hx => by
    rw [gI_pI_ne (by decide), gI_pI_ne (by decide)]; exact h.2.2.2.2.1 i x hx, by rw [gI_pI_cell]; exact h.2.2.2.2.2⟩
theorem dg_loop {T : Nat → Nat} {n N p0 : Nat} {k4 : Int32 → jM → Option jM} {k7 : jM → Option jM} {cd : List (Nat × Nat)} {nm : Int32} : ∀ (m p a : Nat) (s : jM) (q : Nat), VT T n s → VP s p (-1) cd nm → p0 + (6 - m) = p → m ≤ 6 → p ≤ n → m < q → (a + 1) * 10 ^ m ≤ 1000000 →
    (∃ (a' p' : Nat) (s' : jM), dgs T n m p a = (some a', p') ∧ lp_X6_readDigits_7 N (nI p0) k4 k7 q (nI a) s = k4 (nI a') s' ∧ VP s' p' (-1) cd nm ∧ FrL [29] s s' ∧ a' < 1000000 ∧ p ≤ p' ∧ p' ≤ n) ∨
    (∃ (p' : Nat) (s' : jM), dgs T n m p a = (none, p') ∧ lp_X6_readDigits_7 N (nI p0) k4 k7 q (nI a) s = k7 s' ∧ (∃ pp, VP s' pp (-1) cd nm) ∧ FrL [29] s s') := by
  intro m
  induction m with
  | zero =>
    intro p a s q hT hV hp hm hpn hq ha
    obtain ⟨q, rfl⟩ : ∃ r, q = r + 1 := ⟨q - 1, by omega⟩
    have hn := hT.1
    rw [lp_X6_readDigits_7, hV.1]
    by_cases hd : p < n ∧ isD (T p) = true
    · refine Or.inr ⟨p, s, if_pos hd, ?_, ⟨p, hV⟩, FrL.rf⟩
      rw [if_neg (by rw [c_le (by omega) (by omega)]; omega), signAt_ok hT (by omega), Option.bind_some, isDigit_ok hT.2.1, Option.bind_some, if_pos hd, if_neg (by decide), pk_sub (by omega), if_neg (by rw [lt_c (by omega) (by omega)]; omega)]
    · refine Or.inl ⟨a, p, s, if_neg hd, ?_, hV, FrL.rf, by omega, Nat.le_refl _, hpn⟩
      by_cases h40 : 40 ≤ p
      · rw [if_pos (by rw [c_le (by omega) (by omega)]; omega)]
      · rw [if_neg (by rw [c_le (by omega) (by omega)]; omega), signAt_ok hT (by omega), Option.bind_some, isDigit_ok hT.2.1, Option.bind_some, if_neg hd, if_pos rfl]
  | succ m ih =>
    intro p a s q hT hV hp hm hpn hq ha
    obtain ⟨q, rfl⟩ : ∃ r, q = r + 1 := ⟨q - 1, by omega⟩
    have hn := hT.1
    rw [lp_X6_readDigits_7, hV.1]
    by_cases hd : p < n ∧ isD (T p) = true
    · have hTp := hT.2.1 p
      have h48 : 48 ≤ T p ∧ T p ≤ 57 := by have := hd.2; simp [isD] at this; exact this
      have hf : FrL [29] s (pI s 29 6 (nI (p + 1))) := fr_pI FrL.rf (by decide)
      have hb : (10 * a + (T p - 48) + 1) * 10 ^ m ≤ 1000000 := by
        have h1 : (10 * a + (T p - 48) + 1) * 10 ^ m ≤ (10 * (a + 1)) * 10 ^ m := Nat.mul_le_mul_right _ (by omega)
        have h2 : (10 * (a + 1)) * 10 ^ m = (a + 1) * 10 ^ (m + 1) := by rw [Nat.pow_succ, Nat.mul_comm (10 ^ m) 10, ← Nat.mul_assoc, Nat.mul_comm (a + 1) 10]
        omega
      have e : lp_X6_readDigits_7 N (nI p0) k4 k7 q (nI (10 * a + (T p - 48))) (pI s 29 6 (nI (p + 1))) = (if (40 : Int32) ≤ nI p then k4 (nI a) s else Option.bind (f_X6_signAt (nI p) s) fun r13 => Option.bind (f_X6_isDigit r13) fun r14 => if r14 = 0 then k4 (nI a) s else if nI p - nI p0 < (6 : Int32) then Option.bind (f_X6_signAt (nI p) s) fun r17 => lt_ (((10 : Int32) * nI a + r17) - (48 : Int32)) fun x18 => lt_ (pI s 29 6 (nI p + (1 : Int32))) fun s19 => lp_X6_readDigits_7 N (nI p0) k4 k7 q x18 s19 else k7 s) := by
        rw [if_neg (by rw [c_le (by omega) (by omega)]; omega), signAt_ok hT (by omega), Option.bind_some, isDigit_ok hT.2.1, Option.bind_some, if_pos hd, if_neg (by decide), pk_sub (by omega), if_pos (by rw [lt_c (by omega) (by omega)]; omega), Option.bind_some, sgn_in hd.1]
        simp only [lt_]
        rw [nI_1, lit_nI 10, lit_nI 48, pk_mul, nI_add, pk_sub (by omega)]
        congr 2
        omega
      rw [← e]
      have hds : dgs T n (m + 1) p a = dgs T n m (p + 1) (10 * a + (T p - 48)) := if_pos hd
      rw [hds]
      rcases ih (p + 1) (10 * a + (T p - 48)) (pI s 29 6 (nI (p + 1))) q (hT.fr hf (by decide) (by decide)) hV.at (by omega) (by omega) (by omega) (by omega) hb with ⟨a', p', s', r1, r2, r3, r4, r5, r6, r7⟩ | ⟨p', s', r1, r2, r3, r4⟩
      · exact Or.inl ⟨a', p', s', r1, r2, r3, fr_tr hf r4, r5, by omega, r7⟩
      · exact Or.inr ⟨p', s', r1, r2, r3, fr_tr hf r4⟩
    · refine Or.inl ⟨a, p, s, if_neg hd, ?_, hV, FrL.rf, ?_, Nat.le_refl _, hpn⟩
      · by_cases h40 : 40 ≤ p
        · rw [if_pos (by rw [c_le (by omega) (by omega)]; omega)]
        · rw [if_neg (by rw [c_le (by omega) (by omega)]; omega), signAt_ok hT (by omega), Option.bind_some, isDigit_ok hT.2.1, Option.bind_some, if_neg hd, if_pos rfl]
      · have h1 : (a + 1) * 1 ≤ (a + 1) * 10 ^ (m + 1) := Nat.mul_le_mul_left _ (Nat.pos_of_ne_zero (by simp))
        omega
theorem nb_self {T : Nat → Nat} {n p : Nat} (h : p < n) (h2 : ¬ T p = 32) : nb T n p = p := nb_stop (fun q => h2 q.2)
theorem flw_ne {f : Nat} (h : f < 1000) : ¬ nI f = (-1 : Int32) := nI_ne_m1 (by omega)
theorem ev_num {lt : Nat → Int64} {a : Nat} {st : List Int64} : evc lt [(35, a)] st = lN a :: st := rfl
/-- digits are a bare unit -/
theorem readDigits_ok {T : Nat → Nat} {n N o : Nat} {s : jM} {p : Nat} {cd : List (Nat × Nat)} {nm : Int32} (hN : 40 < N) (hT : VT T n s) (hV : VP s p (-1) cd nm) (hpn : p < n) (hd : isD (T p) = true) (hcd : cd.length ≤ p) :
    ∃ s', f_X6_readDigits N s = some s' ∧ FrL PF s s' ∧
    ((∃ (p' : Nat) (c : List (Nat × Nat)) (nm' : Int32), VP s' p' (-1) (cd ++ c) nm' ∧ p' ≤ n ∧ c.length + p ≤ p' ∧ (nm' = nm ∨ nm' = 1) ∧ cdp c nm' ∧
      ∀ lt : Nat → Int64, ∃ v : Int64, (∀ st, evc lt c st = v :: st) ∧ ∀ (V : List Int64) (S : List Nat), Rch lt T n (true, p, V, S, o) (false, nb T n p', (sd S v).1 :: V, (sd S v).2, o)) ∨
     (∃ f : Nat, f < 1000 ∧ VE s' (nI f) ∧ ∀ (lt : Nat → Int64) (V : List Int64) (S : List Nat), Flt lt T n (true, p, V, S, o) f)) := by
  have hn := hT.1
  have hmm : ∀ c ∈ ([29] : List Nat), c ∈ PF := by decide
  have hstep : dgs T n 6 p 0 = dgs T n 5 (p + 1) (T p - 48) := by
    show (if p < n ∧ isD (T p) = true then dgs T n 5 (p + 1) (10 * 0 + (T p - 48)) else (some 0, p)) = _
    rw [if_pos ⟨hpn, hd⟩]
    simp
  simp only [f_X6_readDigits, jn_, lt_, hV.1]
  rcases dg_loop (N := N) (p0 := p) (k4 := fun x2 s3 => Option.bind (f_X6_addSign (35 : Int32) x2 s3) fun r5 => some r5) (k7 := fun s6 => Option.bind (f_X6_setFlaw (nI p) (2 : Int32) s6) fun r8 => some r8) 6 p 0 s N hT hV (by omega) (by omega) (by omega) (by omega) (by decide) with ⟨a', p', s', r1, r2, r3, r4, r5, r6, r7⟩ | ⟨p', s', r1, r2, ⟨pp, r3⟩, r4⟩
  · have hp' : p + 1 ≤ p' := by
      rcases dg_loop (N := N) (p0 := p) (k4 := fun _ _ => none) (k7 := fun _ => none) 5 (p + 1) (T p - 48) (pI s 29 6 (nI (p + 1))) N (hT.fr (fr_pI FrL.rf (by decide)) (by decide : 1 ∉ [29]) (by decide)) hV.at (by omega) (by omega) (by omega) (by omega) (by have h48 : T p ≤ 57 := (by simp [isD] at hd; exact hd.2); have : (T p - 48 + 1) ≤ 10 := (by omega); exact Nat.le_trans (Nat.mul_le_mul_right _ this) (by decide)) with ⟨a2, p2, s2, q1, -, -, -, -, q6, -⟩ | ⟨p2, s2, q1, -⟩
      · rw [hstep, q1] at r1; cases r1; exact q6
      · rw [hstep, q1] at r1; cases r1
    obtain ⟨s2, t1, t2, t3⟩ := addSign_ok (c := 35) (v := a') (by omega) r3
    have t1' : f_X6_addSign (35 : Int32) (nI a') s' = some s2 := t1
    refine ⟨s2, ?_, fr_tr (fr_mono r4 hmm) t3, Or.inl ⟨p', [(35, a')], nm, t2, r7, by simp; omega, Or.inl rfl, cdp_one (by omega) r5 (fun h => by omega), fun lt => ⟨lN a', fun st => rfl, fun V S => Rch.st ?_⟩⟩⟩
    · have e0 : (0 : Int32) = nI 0 := rfl
      rw [e0, r2]
      simp only [t1', Option.bind_some]
    · show rstW lt T n p V S o = _
      unfold rstW
      rw [if_pos hpn, if_pos hd, r1]
  · have e0 : (0 : Int32) = nI 0 := rfl
    obtain ⟨s2, t1, t2, t3⟩ := setFlaw_ok (a := p) (k := 2) r3
    have t1' : f_X6_setFlaw (nI p) (2 : Int32) s' = some s2 := t1
    refine ⟨s2, ?_, fr_tr (fr_mono r4 hmm) (fr_mono t3 hmm), Or.inr ⟨10 * p + 2, by omega, t2.e (flw_ne (by omega)), fun lt V S => Flt.st ?_⟩⟩
    · rw [e0, r2]
      simp only [t1', Option.bind_some]
    · show rstW lt T n p V S o = _
      unfold rstW
      rw [if_pos hpn, if_pos hd, r1]
theorem rst_S {lt : Nat → Int64} {T : Nat → Nat} {n p o : Nat} {V : List Int64} {S : List Nat} (h0 : ¬ (p < n ∧ T p = 41 ∧ 0 < o)) (h1 : p < n → ¬ 0 < rk (T p)) (h2 : p < n ∨ ¬ o = 0) : Flt lt T n (false, p, V, S, o) (10 * p + 1) := by
  refine Flt.st ?_
  show rstS T n p V S o = _
  unfold rstS
  by_cases hp : p < n
  · rw [if_pos hp, if_neg (fun q => h0 ⟨hp, q⟩), if_neg (h1 hp)]
  · rw [if_neg hp, if_neg (h2.resolve_left hp)]
/-- a bracket -/
theorem readOpened_ok {T : Nat → Nat} {n N o : Nat} {rv : Int32 → jM → Option jM} {s : jM} {p : Nat} {cd : List (Nat × Nat)} {nm : Int32} (hN : 40 < N) (ho : o ≤ 8) (hrv : o < 8 → PXs T n 1 (o + 1) (rv (nI (o + 1)))) (hT : VT T n s) (hV : VP s p (-1) cd nm) (hpn : p < n) (hc : T p = 40) (hcd : cd.length ≤ p) :
    ∃ s', f_X6_readOpened N rv (nI o) s = some s' ∧ FrL PF s s' ∧
    ((∃ (p' : Nat) (c : List (Nat × Nat)) (nm' : Int32), VP s' p' (-1) (cd ++ c) nm' ∧ p' ≤ n ∧ c.length + p ≤ p' ∧ (nm' = nm ∨ nm' = 1) ∧ cdp c nm' ∧
      ∀ lt : Nat → Int64, ∃ v : Int64, (∀ st, evc lt c st = v :: st) ∧ ∀ (V : List Int64) (S : List Nat), Rch lt T n (true, p, V, S, o) (false, nb T n p', (sd S v).1 :: V, (sd S v).2, o)) ∨
     (∃ f : Nat, f < 1000 ∧ VE s' (nI f) ∧ ∀ (lt : Nat → Int64) (V : List Int64) (S : List Nat), Flt lt T n (true, p, V, S, o) f)) := by
  have hn := hT.1
  have hmm : ∀ c ∈ ([29] : List Nat), c ∈ PF := by decide
  have hnd : ¬ isD (T p) = true := by rw [hc]; decide
  have hlx : lix (T p) = none := by rw [hc]; decide
  simp only [f_X6_readOpened, lt_]
  by_cases h8 : o < 8
  · rw [if_pos (by rw [lt_c (by omega) (by omega)]; exact h8), hV.1, nI_1, nI_1]
    have hf : FrL [29] s (pI s 29 6 (nI (p + 1))) := fr_pI FrL.rf (by decide)
    have hT2 := hT.fr hf (by decide) (by decide)
    obtain ⟨s3, e1, e2, e3⟩ := hrv h8 _ (p + 1) cd nm hT2 hV.at (by omega) (by omega)
    have hT3 := hT2.fr e2 (by decide) (by decide)
    have hopen : ∀ (lt : Nat → Int64) (V : List Int64) (S : List Nat), Rch lt T n (true, p, V, S, o) (true, nb T n (p + 1), V, 1000 :: S, o + 1) := by
      intro lt V S
      refine Rch.st ?_
      show rstW lt T n p V S o = _
      unfold rstW
      rw [if_pos hpn, if_neg hnd, hlx]
      simp only
      rw [if_neg (by omega), if_neg (by omega), if_pos ⟨hc, h8⟩]
    rw [e1, Option.bind_some]
    rcases e3 with ⟨p3, c, nm', g1, g2, g3, g4, g5, g6⟩ | ⟨f, g1, g2, g3⟩
    · by_cases hy : nb T n p3 < n ∧ T (nb T n p3) ∈ chS.getD 1 []
      · obtain ⟨s4, t1, t2, t3⟩ := take_yes hN (by omega : 1 < 8) g2 hT3 g1 hy.1 hy.2
        have h41 : T (nb T n p3) = 41 := by simpa [chS] using hy.2
        refine ⟨s4, ?_, fr_tr (fr_mono hf hmm) (fr_tr e2 (fr_mono t3 hmm)), Or.inl ⟨nb T n p3 + 1, c, nm', t2, hy.1, by have := nb_ge' (T := T) (n := n) (p := p3); omega, g4, g5, fun lt => ?_⟩⟩
        · rw [t1, Option.bind_some]
          simp only
          rw [if_neg (nI_ne_m1 (by have := hT.2.1 (nb T n p3); omega))]
        · obtain ⟨v, q1, q2⟩ := g6 lt
          refine ⟨v, q1, fun V S => ?_⟩
          obtain ⟨V', S', q3, q4, -⟩ := q2 V (1000 :: S) (Or.inl rfl)
          refine (hopen lt V S).tr (q3.tr (Rch.st ?_))
          show rstS T n (nb T n p3) V' S' (o + 1) = _
          unfold rstS
          have hw : wd 1 S' V' = (v :: V, 1000 :: S) := by rw [q4 1 (Nat.le_refl _)]; exact if_neg (by omega)
          rw [if_pos hy.1, if_pos ⟨h41, by omega⟩, hw]
          simp
      · obtain ⟨s4, t1, t2, t3⟩ := take_not hN (by omega : 1 < 8) g2 hT3 g1 hy
        obtain ⟨s5, u1, u2, u3⟩ := setFlaw_ok (a := nb T n p3) (k := 1) t2
        have hle := nb_le' (T := T) g2
        have u1' : f_X6_setFlaw (gI s4 29 6) (1 : Int32) s4 = some s5 := by rw [t2.1]; exact u1
        refine ⟨s5, ?_, fr_tr (fr_mono hf hmm) (fr_tr e2 (fr_tr (fr_mono t3 hmm) (fr_mono u3 hmm))), Or.inr ⟨10 * nb T n p3 + 1, by omega, u2.e (flw_ne (by omega)), fun lt V S => ?_⟩⟩
        · rw [t1, Option.bind_some]
          simp only
          rw [if_pos trivial, u1', Option.bind_some]
        · obtain ⟨v, q1, q2⟩ := g6 lt
          obtain ⟨V', S', q3, q4, q5⟩ := q2 V (1000 :: S) (Or.inl rfl)
          refine (hopen lt V S).flt (q3.flt ?_)
          by_cases hr : nb T n p3 < n ∧ 0 < rk (T (nb T n p3))
          · exact q5 hr.1 hr.2
          · refine rst_S (fun q => hy ⟨q.1, ?_⟩) (fun q1 q2 => hr ⟨q1, q2⟩) (Or.inr (by omega))
            rw [q.2.1]; decide
    · have hne : ¬ gI s3 29 7 = -1 := g2.no
      refine ⟨s3, ?_, fr_tr (fr_mono hf hmm) e2, Or.inr ⟨f, g1, g2, fun lt V S => (hopen lt V S).flt (g3 lt V (1000 :: S) (Or.inl rfl))⟩⟩
      rw [take_no hne, Option.bind_some]
      simp only
      rw [if_pos trivial, setFlaw_no hne, Option.bind_some]
  · obtain ⟨s2, u1, u2, u3⟩ := setFlaw_ok (a := p) (k := 3) hV
    have u1' : f_X6_setFlaw (gI s 29 6) (3 : Int32) s = some s2 := by rw [hV.1]; exact u1
    refine ⟨s2, ?_, fr_mono u3 hmm, Or.inr ⟨10 * p + 3, by omega, u2.e (flw_ne (by omega)), fun lt V S => Flt.st ?_⟩⟩
    · rw [if_neg (by rw [lt_c (by omega) (by omega)]; exact h8), u1', Option.bind_some]
    · show rstW lt T n p V S o = _
      unfold rstW
      rw [if_pos hpn, if_neg hnd, hlx]
      simp only
      rw [if_neg (by omega), if_neg (by omega), if_neg (fun q => h8 q.2), if_pos hc]
