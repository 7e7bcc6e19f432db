/-! SUM, HELD, BOTH, VALUE -/
theorem sum_loop {T : Nat → Nat} {n N o p : Nat} {rv : Int32 → jM → Option jM} {cd : List (Nat × Nat)} {nm : Int32} (hN : 40 < N) (hg : PXs T n 5 o (f_X6_readTerm N rv (nI o))) (hcd : cd.length ≤ p) : ∀ (m p2 b j : Nat) (s : jM) (q : Nat), n - p2 = m → VT T n s → opr 4 b → OKT T n 4 o p cd nm s b p2 → m + 1 < q → j + (n - p2) ≤ 39 →
    ∃ s', lp_X6_readSum_14 N rv (nI o) q (nI b) (nI j) s = some s' ∧ FrL PF s s' ∧ (OKX T n 4 o p cd nm s' ∨ ERX T n 4 o p s') := by
  intro m
  induction m using Nat.strongRecOn with
  | ind m ih =>
    intro p2 b j s q hm hT hop hK hq hj
    obtain ⟨q, rfl⟩ : ∃ r, q = r + 1 := ⟨q - 1, by omega⟩
    have hmm : ∀ c ∈ ([29] : List Nat), c ∈ PF := by decide
    have hb := hop.1
    have hn := hT.1
    obtain ⟨s3, e1, s4, e2, e3, e4⟩ := ch_next (r := 4) hg hop hcd hT hK
    have hT4 := hT.fr e3 (by decide) (by decide)
    rw [lp_X6_readSum_14, if_neg (by rw [c_le (by omega) (by omega)]; omega), if_neg (nI_ne_m1 (by omega)), e1, Option.bind_some, i2c_nI (by omega), e2, Option.bind_some]
    obtain ⟨q, rfl⟩ : ∃ r, q = r + 1 := ⟨q - 1, by omega⟩
    rcases e4 with ⟨p3, h23, h3n, hY⟩ | hE
    · rcases ch_try hN (by omega : 4 < 8) ch4 (by omega) (by omega) hT4 hY with ⟨b2, s5, t1, t2, t3, t4⟩ | ⟨s5, t1, t2, t3⟩
      · have hp3 := nb_ge' (T := T) (n := n) (p := p3)
        have hp3n : nb T n p3 + 1 ≤ n := by obtain ⟨_, _, _, hz, _⟩ := t4; exact hz
        obtain ⟨s6, v1, v2, v3⟩ := ih (n - (nb T n p3 + 1)) (by omega) (nb T n p3 + 1) b2 (j + 1) s5 (q + 1) rfl (hT4.fr t3 (by decide) (by decide)) t2 t4 (by omega) (by omega)
        refine ⟨s6, ?_, fr_tr e3 (fr_tr (fr_mono t3 hmm) v2), v3⟩
        rw [t1, Option.bind_some]
        simp only [lt_]
        rw [nI_1]
        exact v1
      · refine ⟨s5, ?_, fr_tr e3 (fr_mono t2 hmm), Or.inl t3⟩
        rw [t1, Option.bind_some]
        simp only [lt_]
        rw [lp_X6_readSum_14]
        split
        · rfl
        · rw [if_pos rfl]
    · obtain ⟨f, f1, f2, f3⟩ := id hE
      refine ⟨s4, ?_, e3, Or.inr hE⟩
      rw [take_no f2.no, Option.bind_some]
      simp only [lt_]
      rw [lp_X6_readSum_14]
      split
      · rfl
      · rw [if_pos rfl]
theorem readSum_ok {T : Nat → Nat} {n N o : Nat} {rv : Int32 → jM → Option jM} (hN : 40 < N) (hg : PXs T n 5 o (f_X6_readTerm N rv (nI o))) : PXs T n 4 o (f_X6_readSum N rv (nI o)) := by
  intro s p cd nm hT hV hp hcd
  have hmm : ∀ c ∈ ([29] : List Nat), c ∈ PF := by decide
  obtain ⟨s3, e1, e2, e3⟩ := hg s p cd nm hT hV hp hcd
  have hT3 := hT.fr e2 (by decide) (by decide)
  have hn := hT.1
  obtain ⟨M, hM⟩ : ∃ r, N = r + 1 := ⟨N - 1, by omega⟩
  have stop : ∀ s5, lp_X6_readSum_14 N rv (nI o) N (-1) 0 s5 = some s5 := by
    intro s5
    have : ∀ K, K = M + 1 → lp_X6_readSum_14 N rv (nI o) K (-1) 0 s5 = some s5 := by
      intro K hK
      rw [hK, lp_X6_readSum_14, if_neg (by decide), if_pos rfl]
    exact this N hM
  simp only [f_X6_readSum, lt_, e1, Option.bind_some]
  rcases e3 with hX | hE
  · obtain ⟨p', hY⟩ := OKX_Y hX
    rcases ch_try hN (by omega : 4 < 8) ch4 (by omega) (by omega) hT3 hY with ⟨b2, s5, t1, t2, t3, t4⟩ | ⟨s5, t1, t2, t3⟩
    · have hp3n : nb T n p' + 1 ≤ n := by obtain ⟨_, _, _, hz, _⟩ := t4; exact hz
      obtain ⟨s6, v1, v2, v3⟩ := sum_loop hN hg hcd _ (nb T n p' + 1) b2 0 s5 N rfl (hT3.fr t3 (by decide) (by decide)) t2 t4 (by omega) (by omega)
      exact ⟨s6, by rw [t1, Option.bind_some]; exact v1, fr_tr e2 (fr_tr (fr_mono t3 hmm) v2), v3⟩
    · exact ⟨s5, by rw [t1, Option.bind_some]; exact stop s5, fr_tr e2 (fr_mono t2 hmm), Or.inl t3⟩
  · obtain ⟨f, f1, f2, f3⟩ := id hE
    exact ⟨s3, by rw [take_no f2.no, Option.bind_some]; exact stop s3, e2, Or.inr (ERX_mono (by omega) hE)⟩

theorem opr_op {r b : Nat} (hb : b < 128) (hr : rk b = r) (h0 : 0 < r) : opr r b := ⟨hb, hr, h0, opr_of b hb (by omega)⟩
theorem readHeld_ok {T : Nat → Nat} {n N o : Nat} {rv : Int32 → jM → Option jM} (hN : 40 < N) (hg : PXs T n 4 o (f_X6_readSum N rv (nI o))) : PXs T n 3 o (f_X6_readHeld N rv (nI o)) := by
  intro s p cd nm hT hV hp hcd
  have hmm : ∀ c ∈ ([29] : List Nat), c ∈ PF := by decide
  obtain ⟨s3, e1, e2, e3⟩ := hg s p cd nm hT hV hp hcd
  have hT3 := hT.fr e2 (by decide) (by decide)
  have hn := hT.1
  simp only [f_X6_readHeld, lt_, e1, Option.bind_some]
  rcases e3 with ⟨p1, c, nm', h1, h2, h3, h4, h5, h6⟩ | hE
  · have hpq := nb_ge' (T := T) (n := n) (p := p1)
    have hTq := hT.2.1 (nb T n p1)
    by_cases hy : nb T n p1 < n ∧ T (nb T n p1) ∈ chS.getD 5 []
    · obtain ⟨s5, t1, t2, t3⟩ := take_yes hN (by omega : 5 < 8) h2 hT3 h1 hy.1 hy.2
      have hrk := (ch3 _ hTq).mp hy.2
      have hop : opr 3 (T (nb T n p1)) := opr_op hTq hrk (by omega)
      have hT5 := hT3.fr t3 (by decide) (by decide)
      have hK : OKT T n 3 o p cd nm s5 (T (nb T n p1)) (nb T n p1 + 1) := by
        refine ⟨c, nm', t2, hy.1, by omega, h4, h5, fun lt => ?_⟩
        obtain ⟨v, q1, q2⟩ := h6 lt
        refine ⟨v, q1, fun V S hb => ?_⟩
        obtain ⟨V', S', w1, w2, w3⟩ := q2 V S (blk_mono hb (by omega))
        refine w1.tr (Rch.st ?_)
        show rstS T n (nb T n p1) V' S' o = _
        unfold rstS
        have hw : wd 4 S' V' = (v :: V, S) := by rw [w2 4 (Nat.le_refl _), blk_wd (blk_mono hb (by omega))]
        rw [if_pos hy.1, if_neg (fun z => hop.2.2.2.1 z.1), if_pos (by omega), if_pos hrk, hw, if_neg]
        intro z
        cases S with
        | nil => exact absurd z.1 (by simp)
        | cons a S =>
          simp only [List.headD_cons] at z
          rcases hb with hb | hb <;> omega
      obtain ⟨s6, g1, s7, g2, g3, g4⟩ := ch_next (r := 3) hg hop hcd hT5 hK
      refine ⟨s7, ?_, fr_tr e2 (fr_tr (fr_mono t3 hmm) g3), ?_⟩
      · rw [t1, Option.bind_some]
        simp only
        rw [if_neg (nI_ne_m1 (by omega)), g1, Option.bind_some, i2c_nI (by omega), g2, Option.bind_some]
      · rcases g4 with ⟨p3, h23, h3n, hY⟩ | hE
        · -- behind a comparison another one is a fault
          refine Or.inl ?_
          obtain ⟨c0, nm0, k1, k2, k3, k4, k5, k6⟩ := hK
          obtain ⟨s6', j1, -, j3⟩ := hg s5 (nb T n p1 + 1) (cd ++ c0) nm0 hT5 k1 k2 (by rw [List.length_append]; omega)
          have : s6' = s6 := by rw [j1] at g1; cases g1; rfl
          subst this
          rcases j3 with ⟨p4, c2, nm2, l1, l2, l3, l4, l5, l6⟩ | ⟨f, l1, l2, l3⟩
          · obtain ⟨s8, u1, u2, u3⟩ := addSign_ok (c := T (nb T n p1)) (v := 0) (by rw [List.length_append, List.length_append]; omega) l1
            have e8 : s8 = s7 := by
              have u1' : f_X6_addSign (nI (T (nb T n p1))) (0 : Int32) s6' = some s8 := u1
              rw [u1'] at g2; cases g2; rfl
            subst e8
            refine ⟨p4, c0 ++ c2 ++ [(T (nb T n p1), 0)], nm2, by rw [List.append_assoc, List.append_assoc, ← List.append_assoc] at u2; rw [List.append_assoc, ← List.append_assoc]; exact u2, l2, by rw [List.length_append, List.length_append]; simp; omega, ?_, cdp_app (cdp_app k5 l5 l4) (cdp_one hop.1 (by omega) (fun h => absurd h hop.2.2.2.2.2.2.2.2)) (Or.inl rfl), fun lt => ?_⟩
            · rcases l4 with rfl | rfl
              · exact k4
              · exact Or.inr rfl
            · obtain ⟨v, q1, q2⟩ := k6 lt
              obtain ⟨w, q3, q4⟩ := l6 lt
              refine ⟨wk (T (nb T n p1)) v w, fun st => by rw [evc_app, evc_app, q1, q3, ev_op hop], fun V S hb => ?_⟩
              have hb4 : blk 4 (T (nb T n p1) :: S) := Or.inr ⟨by omega, by omega⟩
              obtain ⟨V', S', w1, w2, w3⟩ := q4 (v :: V) (T (nb T n p1) :: S) hb4
              refine ⟨V', S', (q2 V S hb).tr w1, fun r' hr => ?_, fun hlt hr => ?_⟩
              · rw [w2 r' (by omega)]
                show (if T (nb T n p1) < 1000 ∧ r' ≤ rk (T (nb T n p1)) then _ else _) = _
                rw [if_pos ⟨by omega, by omega⟩]
                rfl
              · by_cases h4r : 4 ≤ rk (T (nb T n p4))
                · exact w3 hlt h4r
                · have hr3 : rk (T (nb T n p4)) = 3 := by omega
                  have hTp4 := hT.2.1 (nb T n p4)
                  refine Flt.st ?_
                  show rstS T n (nb T n p4) V' S' o = _
                  unfold rstS
                  have hw : wd 4 S' V' = (w :: v :: V, T (nb T n p1) :: S) := by rw [w2 4 (Nat.le_refl _), blk_wd hb4]
                  rw [if_pos hlt, if_neg (fun z => (opr_of _ hTp4 (by omega)).1 z.1), if_pos (by omega), if_pos hr3, hw, if_pos ⟨by simp; omega, hrk⟩]
          · obtain ⟨c5, nm5, m1, -⟩ := hY
            obtain ⟨s8, u1, u2, u3⟩ := addSign_any (c := nI (T (nb T n p1))) (v := 0) l2
            have e8 : s8 = s7 := by rw [u1] at g2; cases g2; rfl
            subst e8
            exact absurd (u2.1.symm.trans m1.2.1) u2.2.1
        · exact Or.inr hE
    · obtain ⟨s5, t1, t2, t3⟩ := take_not hN (by omega : 5 < 8) h2 hT3 h1 hy
      refine ⟨s5, ?_, fr_tr e2 (fr_mono t3 hmm), Or.inl ⟨nb T n p1, c, nm', t2, nb_le' h2, by omega, h4, h5, fun lt => ?_⟩⟩
      · rw [t1, Option.bind_some]
        simp only
        rw [if_pos trivial]
      · obtain ⟨v, q1, q2⟩ := h6 lt
        refine ⟨v, q1, fun V S hb => ?_⟩
        obtain ⟨V', S', w1, w2, w3⟩ := q2 V S (blk_mono hb (by omega))
        rw [nb_id]
        refine ⟨V', S', w1, fun r' hr => w2 r' (by omega), fun hlt hr => w3 hlt ?_⟩
        have : ¬ rk (T (nb T n p1)) = 3 := fun z => hy ⟨hlt, (ch3 _ hTq).mpr z⟩
        omega
  · obtain ⟨f, f1, f2, f3⟩ := id hE
    refine ⟨s3, ?_, e2, Or.inr (ERX_mono (by omega) hE)⟩
    rw [take_no f2.no, Option.bind_some]
    simp only
    rw [if_pos trivial]

theorem both_loop {T : Nat → Nat} {n N o p : Nat} {rv : Int32 → jM → Option jM} {cd : List (Nat × Nat)} {nm : Int32} (hN : 40 < N) (hg : PXs T n 3 o (f_X6_readHeld N rv (nI o))) (hcd : cd.length ≤ p) : ∀ (m p1 j : Nat) (s : jM) (q : Nat), n - p1 = m → VT T n s → OKY T n 2 3 o p cd nm s p1 → m + 1 < q → j + (n - p1) ≤ 40 →
    ∃ s', lp_X6_readBoth_7 N rv (nI o) q (nI j) s = some s' ∧ FrL PF s s' ∧ (OKX T n 2 o p cd nm s' ∨ ERX T n 2 o p s') := by
  intro m
  induction m using Nat.strongRecOn with
  | ind m ih =>
    intro p1 j s q hm hT hY hq hj
    obtain ⟨q, rfl⟩ : ∃ r, q = r + 1 := ⟨q - 1, by omega⟩
    have hmm : ∀ c ∈ ([29] : List Nat), c ∈ PF := by decide
    have hn := hT.1
    have hp1 := nb_ge' (T := T) (n := n) (p := p1)
    rw [lp_X6_readBoth_7]
    rcases ch_try hN (by omega : 6 < 8) ch2 (by omega) (by omega) hT hY with ⟨b2, s5, t1, t2, t3, t4⟩ | ⟨s5, t1, t2, t3⟩
    · have hp1n : nb T n p1 + 1 ≤ n := by obtain ⟨_, _, _, hz, _⟩ := t4; exact hz
      have hb2 : b2 = 38 := (by decide +kernel : ∀ b, b < 128 → rk b = 2 → b = 38) b2 t2.1 t2.2.1
      subst hb2
      have hT5 := hT.fr t3 (by decide) (by decide)
      obtain ⟨s6, e1, s7, e2, e3, e4⟩ := ch_next (r := 2) hg t2 hcd hT5 t4
      have e2' : f_X6_addSign (38 : Int32) (0 : Int32) s6 = some s7 := e2
      have hT7 := hT5.fr e3 (by decide) (by decide)
      rw [if_neg (by rw [c_le (by omega) (by omega)]; omega), t1, Option.bind_some]
      simp only
      rw [if_neg (nI_ne_m1 (by omega)), e1, Option.bind_some, e2', Option.bind_some]
      simp only [lt_]
      rw [nI_1]
      rcases e4 with ⟨p3, h23, h3n, hY2⟩ | hE
      · obtain ⟨s8, v1, v2, v3⟩ := ih (n - p3) (by omega) p3 (j + 1) s7 q rfl hT7 hY2 (by omega) (by omega)
        exact ⟨s8, v1, fr_tr (fr_mono t3 hmm) (fr_tr e3 v2), v3⟩
      · obtain ⟨f, f1, f2, f3⟩ := id hE
        obtain ⟨q, rfl⟩ : ∃ r, q = r + 1 := ⟨q - 1, by omega⟩
        refine ⟨s7, ?_, fr_tr (fr_mono t3 hmm) e3, Or.inr hE⟩
        rw [lp_X6_readBoth_7, take_no f2.no, Option.bind_some]
        simp only
        split
        · rfl
        · rw [if_pos trivial]
    · by_cases h40 : 40 ≤ j
      · -- the bound is met at the text's end alone
        have h0 : ¬ p1 < n := by omega
        refine ⟨s, ?_, FrL.rf, Or.inl ?_⟩
        · rw [if_pos (by rw [c_le (by omega) (by omega)]; omega)]
        · obtain ⟨c, nm', h1, h2, h3, h4, h5, h6⟩ := hY
          refine ⟨p1, c, nm', h1, h2, h3, h4, h5, fun lt => ?_⟩
          obtain ⟨v, q1, q2⟩ := h6 lt
          refine ⟨v, q1, fun V S hb => ?_⟩
          obtain ⟨V', S', w1, w2, w3⟩ := q2 V S hb
          exact ⟨V', S', w1, w2, fun hlt _ => absurd hlt (by omega)⟩
      · refine ⟨s5, ?_, fr_mono t2 hmm, Or.inl t3⟩
        rw [if_neg (by rw [c_le (by omega) (by omega)]; omega), t1, Option.bind_some]
        simp only
        rw [if_pos trivial]
theorem both_any {N : Nat} {rv : Int32 → jM → Option jM} {a : Int32} {fl : Int32} {s : jM} (hN : 40 < N) (h : VE s fl) : lp_X6_readBoth_7 N rv a N (0 : Int32) s = some s := by
  have : ∀ K, 0 < K → lp_X6_readBoth_7 N rv a K (0 : Int32) s = some s := by
    intro K hK
    obtain ⟨M, rfl⟩ : ∃ r, K = r + 1 := ⟨K - 1, by omega⟩
    rw [lp_X6_readBoth_7, if_neg (by decide), take_no h.no, Option.bind_some]
    simp only
    rw [if_pos trivial]
  exact this N (by omega)
theorem readBoth_ok {T : Nat → Nat} {n N o : Nat} {rv : Int32 → jM → Option jM} (hN : 50 < N) (hg : PXs T n 3 o (f_X6_readHeld N rv (nI o))) : PXs T n 2 o (f_X6_readBoth N rv (nI o)) := by
  intro s p cd nm hT hV hp hcd
  obtain ⟨s3, e1, e2, e3⟩ := hg s p cd nm hT hV hp hcd
  have hT3 := hT.fr e2 (by decide) (by decide)
  have hn := hT.1
  simp only [f_X6_readBoth, e1, Option.bind_some]
  rcases e3 with hX | hE
  · obtain ⟨p', hY⟩ := OKX_Y hX
    obtain ⟨s6, v1, v2, v3⟩ := both_loop (show 40 < N by omega) hg hcd _ p' 0 s3 N rfl hT3 hY (by omega) (by omega)
    exact ⟨s6, v1, fr_tr e2 v2, v3⟩
  · obtain ⟨f, f1, f2, f3⟩ := id hE
    exact ⟨s3, both_any (show 40 < N by omega) f2, e2, Or.inr (ERX_mono (by omega) hE)⟩

theorem value_loop {T : Nat → Nat} {n N o p : Nat} {rv : Int32 → jM → Option jM} {cd : List (Nat × Nat)} {nm : Int32} (hN : 40 < N) (hg : PXs T n 2 o (f_X6_readBoth N rv (nI o))) (hcd : cd.length ≤ p) : ∀ (m p1 j : Nat) (s : jM) (q : Nat), n - p1 = m → VT T n s → OKY T n 1 2 o p cd nm s p1 → m + 1 < q → j + (n - p1) ≤ 40 →
    ∃ s', lp_X6_readValue_7 N rv (nI o) q (nI j) s = some s' ∧ FrL PF s s' ∧ (OKX T n 1 o p cd nm s' ∨ ERX T n 1 o p s') := by
  intro m
  induction m using Nat.strongRecOn with
  | ind m ih =>
    intro p1 j s q hm hT hY hq hj
    obtain ⟨q, rfl⟩ : ∃ r, q = r + 1 := ⟨q - 1, by omega⟩
    have hmm : ∀ c ∈ ([29] : List Nat), c ∈ PF := by decide
    have hn := hT.1
    have hp1 := nb_ge' (T := T) (n := n) (p := p1)
    rw [lp_X6_readValue_7]
    rcases ch_try hN (by omega : 7 < 8) ch1 (by omega) (by omega) hT hY with ⟨b2, s5, t1, t2, t3, t4⟩ | ⟨s5, t1, t2, t3⟩
    · have hp1n : nb T n p1 + 1 ≤ n := by obtain ⟨_, _, _, hz, _⟩ := t4; exact hz
      have hb2 : b2 = 124 := (by decide +kernel : ∀ b, b < 128 → rk b = 1 → b = 124) b2 t2.1 t2.2.1
      subst hb2
      have hT5 := hT.fr t3 (by decide) (by decide)
      obtain ⟨s6, e1, s7, e2, e3, e4⟩ := ch_next (r := 1) hg t2 hcd hT5 t4
      have e2' : f_X6_addSign (124 : Int32) (0 : Int32) s6 = some s7 := e2
      have hT7 := hT5.fr e3 (by decide) (by decide)
      rw [if_neg (by rw [c_le (by omega) (by omega)]; omega), t1, Option.bind_some]
      simp only
      rw [if_neg (nI_ne_m1 (by omega)), e1, Option.bind_some, e2', Option.bind_some]
      simp only [lt_]
      rw [nI_1]
      rcases e4 with ⟨p3, h23, h3n, hY2⟩ | hE
      · obtain ⟨s8, v1, v2, v3⟩ := ih (n - p3) (by omega) p3 (j + 1) s7 q rfl hT7 hY2 (by omega) (by omega)
        exact ⟨s8, v1, fr_tr (fr_mono t3 hmm) (fr_tr e3 v2), v3⟩
      · obtain ⟨f, f1, f2, f3⟩ := id hE
        obtain ⟨q, rfl⟩ : ∃ r, q = r + 1 := ⟨q - 1, by omega⟩
        refine ⟨s7, ?_, fr_tr (fr_mono t3 hmm) e3, Or.inr hE⟩
        rw [lp_X6_readValue_7, take_no f2.no, Option.bind_some]
        simp only
        split
        · rfl
        · rw [if_pos trivial]
    · by_cases h40 : 40 ≤ j
      · -- the bound is met at the text's end alone
        have h0 : ¬ p1 < n := by omega
        refine ⟨s, ?_, FrL.rf, Or.inl ?_⟩
        · rw [if_pos (by rw [c_le (by omega) (by omega)]; omega)]
        · obtain ⟨c, nm', h1, h2, h3, h4, h5, h6⟩ := hY
          refine ⟨p1, c, nm', h1, h2, h3, h4, h5, fun lt => ?_⟩
          obtain ⟨v, q1, q2⟩ := h6 lt
          refine ⟨v, q1, fun V S hb => ?_⟩
          obtain ⟨V', S', w1, w2, w3⟩ := q2 V S hb
          exact ⟨V', S', w1, w2, fun hlt _ => absurd hlt (by omega)⟩
      · refine ⟨s5, ?_, fr_mono t2 hmm, Or.inl t3⟩
        rw [if_neg (by rw [c_le (by omega) (by omega)]; omega), t1, Option.bind_some]
        simp only
        rw [if_pos trivial]
theorem value_any {N : Nat} {rv : Int32 → jM → Option jM} {a : Int32} {fl : Int32} {s : jM} (hN : 40 < N) (h : VE s fl) : lp_X6_readValue_7 N rv a N (0 : Int32) s = some s := by
  have : ∀ K, 0 < K → lp_X6_readValue_7 N rv a K (0 : Int32) s = some s := by
    intro K hK
    obtain ⟨M, rfl⟩ : ∃ r, K = r + 1 := ⟨K - 1, by omega⟩
    rw [lp_X6_readValue_7, if_neg (by decide), take_no h.no, Option.bind_some]
    simp only
    rw [if_pos trivial]
  exact this N (by omega)
theorem readValueG_ok {T : Nat → Nat} {n N o : Nat} {rv : Int32 → jM → Option jM} (hN : 50 < N) (hg : PXs T n 2 o (f_X6_readBoth N rv (nI o))) : PXs T n 1 o (g_X6_readValue N rv (nI o)) := by
  intro s p cd nm hT hV hp hcd
  obtain ⟨s3, e1, e2, e3⟩ := hg s p cd nm hT hV hp hcd
  have hT3 := hT.fr e2 (by decide) (by decide)
  have hn := hT.1
  simp only [g_X6_readValue, e1, Option.bind_some]
  rcases e3 with hX | hE
  · obtain ⟨p', hY⟩ := OKX_Y hX
    obtain ⟨s6, v1, v2, v3⟩ := value_loop (show 40 < N by omega) hg hcd _ p' 0 s3 N rfl hT3 hY (by omega) (by omega)
    exact ⟨s6, v1, fr_tr e2 v2, v3⟩
  · obtain ⟨f, f1, f2, f3⟩ := id hE
    exact ⟨s3, value_any (show 40 < N by omega) f2, e2, Or.inr (ERX_mono (by omega) hE)⟩
/-- VALUE, at every depth -/
theorem readValue_ok {T : Nat → Nat} {n N : Nat} (hN : 50 < N) : ∀ (q o : Nat), o ≤ 8 → 8 < o + q → PXs T n 1 o (f_X6_readValue N q (nI o)) := by
  intro q
  induction q with
  | zero => intro o h1 h2; omega
  | succ q ih =>
    intro o h1 h2
    have hrv : o < 8 → PXs T n 1 (o + 1) (f_X6_readValue N q (nI (o + 1))) := fun h => ih (o + 1) h (by omega)
    exact readValueG_ok hN (readBoth_ok hN (readHeld_ok (show 40 < N by omega) (readSum_ok (show 40 < N by omega) (readTerm_ok (show 40 < N by omega) (readUnit_ok (show 40 < N by omega) h1 hrv)))))
