/-! a bare unit, a unit -/
theorem lix_mem : ∀ c, c < 128 → (c ∈ chS.getD 2 [] ↔ ∃ j, j < 5 ∧ lix c = some j) := by decide +kernel
theorem VP.nm1 {s : jM} {p : Nat} {fl nm : Int32} {cd : List (Nat × Nat)} (h : VP s p fl cd nm) : VP (pI s 29 8 1) p fl cd 1 :=
  ⟨by rw [gI_pI_cell]; exact h.1, by rw [gI_pI_cell]; exact h.2.1, by rw [gI_pI_cell]; exact h.2.2.1, h.2.2.2.1, fun i x hx => by
    rw [gI_pI_ne (by decide), gI_pI_ne (by decide)]; exact h.2.2.2.2.1 i x hx, gI_pI_eq⟩
theorem rstW_let {lt : Nat → Int64} {T : Nat → Nat} {n p o j : Nat} {V : List Int64} {S : List Nat} (hp : p < n) (hd : ¬ isD (T p) = true) (hj : lix (T p) = some j) : Rch lt T n (true, p, V, S, o) (false, nb T n (p + 1), (sd S (lt j)).1 :: V, (sd S (lt j)).2, o) := by
  refine Rch.st ?_
  show rstW lt T n p V S o = _
  unfold rstW
  rw [if_pos hp, if_neg hd, hj]
theorem rstW_bad {lt : Nat → Int64} {T : Nat → Nat} {n p o : Nat} {V : List Int64} {S : List Nat} (h : p < n → ¬ isD (T p) = true ∧ lix (T p) = none ∧ ¬ T p = 33 ∧ ¬ T p = 45 ∧ ¬ T p = 40) : Flt lt T n (true, p, V, S, o) (10 * p + 1) := by
  refine Flt.st ?_
  show rstW lt T n p V S o = _
  unfold rstW
  by_cases hp : p < n
  · obtain ⟨h1, h2, h3, h4, h5⟩ := h hp
    rw [if_pos hp, if_neg h1, h2]
    simp only
    rw [if_neg h3, if_neg h4, if_neg (fun q => h5 q.1), if_neg h5]
  · rw [if_neg hp]
theorem ev_let {lt : Nat → Int64} {c j : Nat} {st : List Int64} (h : lix c = some j) : evc lt [(c, 0)] st = lt j :: st := by
  have hc : ¬ c = 35 := fun e => by rw [e] at h; cases h
  show ev1 lt (c, 0) st = _
  unfold ev1
  rw [if_neg hc, h]
theorem readBareUnit_ok {T : Nat → Nat} {n N o : Nat} {rv : Int32 → jM → Option jM} (hN : 40 < N) (ho : o ≤ 8) (hrv : o < 8 → PXs T n 1 (o + 1) (rv (nI (o + 1)))) : PBs T n o (f_X6_readBareUnit N rv (nI o)) := by
  intro s p cd nm hT hV hp hcd hnp
  have hn := hT.1
  have hmm : ∀ c ∈ ([29] : List Nat), c ∈ PF := by decide
  obtain ⟨s1, e1, e2, e3⟩ := nextSign_ok (N := N) hN hp hT hV
  have hT1 := hT.fr e3 (by decide) (by decide)
  have hq := nb_le' (T := T) hp
  have hpq := nb_ge' (T := T) (n := n) (p := p)
  generalize nb T n p = q at *
  have hTq := hT.2.1 q
  simp only [f_X6_readBareUnit, lt_, jn_, e1, Option.bind_some, isDigit_ok hT.2.1]
  by_cases hd : q < n ∧ isD (T q) = true
  · obtain ⟨s2, t1, t2, t3⟩ := readDigits_ok (o := o) (N := N) hN hT1 e2 hd.1 hd.2 (by omega)
    refine ⟨s2, by rw [if_pos hd, if_neg (by decide), t1, Option.bind_some], fr_tr (fr_mono e3 hmm) t2, ?_⟩
    rcases t3 with ⟨p', c, nm', g1, g2, g3, g4⟩ | g
    · exact Or.inl ⟨p', c, nm', g1, g2, by omega, g4⟩
    · exact Or.inr g
  · rw [if_neg hd, if_pos rfl]
    by_cases h40 : q < n ∧ T q = 40
    · rw [if_pos ((sgn_c hT.2.1 (by omega)).mpr h40)]
      obtain ⟨s2, t1, t2, t3⟩ := readOpened_ok (o := o) (N := N) hN ho hrv hT1 e2 h40.1 h40.2 (by omega)
      refine ⟨s2, by rw [t1, Option.bind_some], fr_tr (fr_mono e3 hmm) t2, ?_⟩
      rcases t3 with ⟨p', c, nm', g1, g2, g3, g4⟩ | g
      · exact Or.inl ⟨p', c, nm', g1, g2, by omega, g4⟩
      · exact Or.inr g
    · rw [if_neg (fun z => h40 ((sgn_c hT.2.1 (by omega)).mp z))]
      by_cases h109 : q < n ∧ T q = 109
      · rw [if_pos ((sgn_c hT.2.1 (by omega)).mpr h109)]
        have hV2 : VP (pI (pI s1 29 8 1) 29 6 (nI (q + 1))) (q + 1) (-1) cd 1 := e2.nm1.at
        obtain ⟨s2, u1, u2, u3⟩ := addSign_ok (c := 109) (v := 0) (by omega) hV2
        have u1' : f_X6_addSign (109 : Int32) (0 : Int32) (pI (pI s1 29 8 1) 29 6 (gI (pI s1 29 8 1) 29 6 + 1)) = some s2 := by rw [e2.nm1.1, nI_1]; exact u1
        refine ⟨s2, by rw [u1', Option.bind_some], fr_tr (fr_pI (fr_pI (fr_mono e3 hmm) (by decide)) (by decide)) u3, Or.inl ⟨q + 1, [(109, 0)], 1, u2, h109.1, by simp; omega, Or.inr rfl, cdp_one (by omega) (by omega) (fun _ => rfl), fun lt => ⟨lt 5, fun st => ev_let rfl, fun V S => rstW_let h109.1 (fun z => hd ⟨h109.1, z⟩) (by rw [h109.2]; rfl)⟩⟩⟩
      · rw [if_neg (fun z => h109 ((sgn_c hT.2.1 (by omega)).mp z))]
        obtain ⟨s2, u1, u2, u3⟩ := setFlaw_ok (a := q) (k := 1) e2
        have u1' : f_X6_setFlaw (gI s1 29 6) (1 : Int32) s1 = some s2 := by rw [e2.1]; exact u1
        have bad : (q < n → lix (T q) = none) → (∃ s', some s2 = some s' ∧ FrL PF s s' ∧ ((∃ (p' : Nat) (c : List (Nat × Nat)) (nm' : Int32), VP s' p' (-1) (cd ++ c) nm' ∧ p' ≤ n ∧ c.length + p ≤ p' ∧ (nm' = nm ∨ nm' = 1) ∧ cdp c nm' ∧
      ∀ lt : Nat → Int64, ∃ v : Int64, (∀ st, evc lt c st = v :: st) ∧ ∀ (V : List Int64) (S : List Nat), Rch lt T n (true, q, V, S, o) (false, nb T n p', (sd S v).1 :: V, (sd S v).2, o)) ∨
     (∃ f : Nat, f < 1000 ∧ VE s' (nI f) ∧ ∀ (lt : Nat → Int64) (V : List Int64) (S : List Nat), Flt lt T n (true, q, V, S, o) f))) := fun hl =>
          ⟨s2, rfl, fr_tr (fr_mono e3 hmm) (fr_mono u3 hmm), Or.inr ⟨10 * q + 1, by omega, u2.e (flw_ne (by omega)), fun lt V S => rstW_bad (fun hlt => ⟨fun z => hd ⟨hlt, z⟩, hl hlt, fun z => hnp ⟨hlt, Or.inl z⟩, fun z => hnp ⟨hlt, Or.inr z⟩, fun z => h40 ⟨hlt, z⟩⟩)⟩⟩
        by_cases hlt : q < n
        · rw [if_neg (fun z => (sgn_m1 hT.2.1).mp z hlt), sgn_in hlt, i2c_nI (by omega), indexOf_ok hN (by omega : 2 < 8) hTq, Option.bind_some]
          by_cases hm : T q ∈ chS.getD 2 []
          · obtain ⟨j, hj, hlj⟩ := (lix_mem _ hTq).mp hm
            rw [if_neg (Int32.not_lt.mpr ((ixS_mem 2 (by omega) _ hTq).mpr hm))]
            have hV2 : VP (pI s1 29 6 (nI (q + 1))) (q + 1) (-1) cd nm := e2.at
            obtain ⟨s3, v1, v2, v3⟩ := addSign_ok (c := T q) (v := 0) (by omega) hV2
            have v1' : f_X6_addSign (nI (T q)) (0 : Int32) (pI s1 29 6 (gI s1 29 6 + 1)) = some s3 := by rw [e2.1, nI_1]; exact v1
            refine ⟨s3, by rw [v1', Option.bind_some], fr_tr (fr_pI (fr_mono e3 hmm) (by decide)) v3, Or.inl ⟨q + 1, [(T q, 0)], nm, v2, hlt, by simp; omega, Or.inl rfl, cdp_one hTq (by omega) (fun z2 => absurd ⟨hlt, z2⟩ h109), fun lt => ⟨lt j, fun st => ev_let hlj, fun V S => rstW_let hlt (fun z => hd ⟨hlt, z⟩) hlj⟩⟩⟩
          · have hlt2 : ixS 2 (T q) < 0 := Int32.not_le.mp (fun z => hm ((ixS_mem 2 (by omega) _ hTq).mp z))
            rw [if_pos hlt2, u1', Option.bind_some]
            refine bad (fun _ => ?_)
            cases hl : lix (T q) with
            | none => rfl
            | some j =>
              have h5 : j < 5 ∨ T q = 109 := (by decide +kernel : ∀ c, c < 128 → ∀ j, j < 6 → lix c = some j → j < 5 ∨ c = 109) (T q) hTq j (by
                have := (by decide +kernel : ∀ c, c < 128 → (lix c).getD 0 < 6) (T q) hTq
                rw [hl] at this; exact this) hl
              rcases h5 with h5 | h5
              · exact absurd ((lix_mem _ hTq).mpr ⟨j, h5, hl⟩) hm
              · exact absurd ⟨hlt, h5⟩ h109
        · rw [if_pos ((sgn_m1 hT.2.1).mpr hlt), u1', Option.bind_some]
          exact bad (fun z => absurd z hlt)
