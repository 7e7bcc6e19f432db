/-! chains: TERM, SUM, BOTH, VALUE -/
def OKY (T : Nat → Nat) (n r ρ o p : Nat) (cd : List (Nat × Nat)) (nm : Int32) (s' : jM) (p' : Nat) : Prop :=
  ∃ (c : List (Nat × Nat)) (nm' : Int32), VP s' p' (-1) (cd ++ c) nm' ∧ p' ≤ n ∧ c.length + p ≤ p' ∧ (nm' = nm ∨ nm' = 1) ∧ cdp c nm' ∧
    ∀ lt : Nat → Int64, ∃ v : Int64, (∀ st, evc lt c st = v :: st) ∧ ∀ (V : List Int64) (S : List Nat), blk r S → ∃ (V' : List Int64) (S' : List Nat), Rch lt T n (true, nb T n p, V, S, o) (false, nb T n p', V', S', o) ∧ (∀ r', r' ≤ r → wd r' S' V' = wd r' S (v :: V)) ∧ (nb T n p' < n → ρ ≤ rk (T (nb T n p')) → Flt lt T n (false, nb T n p', V', S', o) (10 * nb T n p' + 1))
def OKT (T : Nat → Nat) (n r o p : Nat) (cd : List (Nat × Nat)) (nm : Int32) (s' : jM) (b p' : Nat) : Prop :=
  ∃ (c : List (Nat × Nat)) (nm' : Int32), VP s' p' (-1) (cd ++ c) nm' ∧ p' ≤ n ∧ c.length + 1 + p ≤ p' ∧ (nm' = nm ∨ nm' = 1) ∧ cdp c nm' ∧
    ∀ lt : Nat → Int64, ∃ v : Int64, (∀ st, evc lt c st = v :: st) ∧ ∀ (V : List Int64) (S : List Nat), blk r S → Rch lt T n (true, nb T n p, V, S, o) (true, nb T n p', v :: V, b :: S, o)
theorem OKX_Y {T : Nat → Nat} {n r o p : Nat} {cd : List (Nat × Nat)} {nm : Int32} {s' : jM} (h : OKX T n (r + 1) o p cd nm s') : ∃ p', OKY T n r (r + 1) o p cd nm s' p' := by
  obtain ⟨p', c, nm', h1, h2, h3, h4, h5, h6⟩ := h
  refine ⟨p', c, nm', h1, h2, h3, h4, h5, fun lt => ?_⟩
  obtain ⟨v, q1, q2⟩ := h6 lt
  refine ⟨v, q1, fun V S hb => ?_⟩
  obtain ⟨V', S', w1, w2, w3⟩ := q2 V S (blk_mono hb (by omega))
  exact ⟨V', S', w1, fun r' hr => w2 r' (by omega), w3⟩
theorem ERX_mono {T : Nat → Nat} {n r r' o p : Nat} {s' : jM} (hr : r' ≤ r) (h : ERX T n r o p s') : ERX T n r' o p s' := by
  obtain ⟨f, h1, h2, h3⟩ := h
  exact ⟨f, h1, h2, fun lt V S hb => h3 lt V S (blk_mono hb hr)⟩
def opr (r b : Nat) : Prop := b < 128 ∧ rk b = r ∧ 0 < r ∧ ¬ b = 41 ∧ ¬ b = 35 ∧ lix b = none ∧ ¬ b = 33 ∧ ¬ b = 126 ∧ ¬ b = 109
theorem opr_of : ∀ b, b < 128 → 0 < rk b → (¬ b = 41 ∧ ¬ b = 35 ∧ lix b = none ∧ ¬ b = 33 ∧ ¬ b = 126 ∧ ¬ b = 109) := by decide +kernel
theorem ev_op {lt : Nat → Int64} {r b : Nat} {v w : Int64} {st : List Int64} (h : opr r b) : evc lt [(b, 0)] (w :: v :: st) = wk b v w :: st := by
  obtain ⟨-, -, -, -, h35, hl, h33, h126, -⟩ := h
  show ev1 lt (b, 0) (w :: v :: st) = _
  unfold ev1
  rw [if_neg h35, hl]
  simp only
  rw [if_neg h33, if_neg h126]
  rfl
/-- a sign is taken, or there is none: then it ends -/
theorem ch_try {T : Nat → Nat} {n N r o p w p1 : Nat} {cd : List (Nat × Nat)} {nm : Int32} {s : jM} (hN : 40 < N) (hw : w < 8) (hch : ∀ c, c < 128 → (c ∈ chS.getD w [] ↔ rk c = r)) (hr0 : 0 < r) (hr3 : ¬ r = 3) (hT : VT T n s) (h : OKY T n r (r + 1) o p cd nm s p1) :
    (∃ b s2, f_X6_take N w s = some (nI b, s2) ∧ opr r b ∧ FrL [29] s s2 ∧ OKT T n r o p cd nm s2 b (nb T n p1 + 1)) ∨ (∃ s2, f_X6_take N w s = some (-1, s2) ∧ FrL [29] s s2 ∧ OKX T n r o p cd nm s2) := by
  obtain ⟨c, nm', h1, h2, h3, h4, h5, h6⟩ := h
  have hpq := nb_ge' (T := T) (n := n) (p := p1)
  have hTq := hT.2.1 (nb T n p1)
  by_cases hy : nb T n p1 < n ∧ T (nb T n p1) ∈ chS.getD w []
  · obtain ⟨s2, t1, t2, t3⟩ := take_yes hN hw h2 hT h1 hy.1 hy.2
    have hrk := (hch _ hTq).mp hy.2
    have hop : opr r (T (nb T n p1)) := ⟨hTq, hrk, hr0, opr_of _ hTq (by omega)⟩
    refine Or.inl ⟨T (nb T n p1), s2, t1, hop, t3, c, nm', t2, hy.1, by omega, h4, h5, fun lt => ?_⟩
    obtain ⟨v, q1, q2⟩ := h6 lt
    refine ⟨v, q1, fun V S hb => ?_⟩
    obtain ⟨V', S', w1, w2, w3⟩ := q2 V S hb
    refine w1.tr (Rch.st ?_)
    show rstS T n (nb T n p1) V' S' o = _
    unfold rstS
    rw [if_pos hy.1, if_neg (fun z => hop.2.2.2.1 z.1), if_pos (by omega), hrk, if_neg hr3, w2 r (Nat.le_refl _), blk_wd hb]
  · obtain ⟨s2, t1, t2, t3⟩ := take_not hN hw h2 hT h1 hy
    refine Or.inr ⟨s2, t1, t3, nb T n p1, c, nm', t2, nb_le' h2, by omega, h4, h5, fun lt => ?_⟩
    obtain ⟨v, q1, q2⟩ := h6 lt
    refine ⟨v, q1, fun V S hb => ?_⟩
    obtain ⟨V', S', w1, w2, w3⟩ := q2 V S hb
    rw [nb_id]
    refine ⟨V', S', w1, w2, fun hlt hr => w3 hlt ?_⟩
    have : ¬ rk (T (nb T n p1)) = r := fun z => hy ⟨hlt, (hch _ hTq).mpr z⟩
    omega
/-- what follows a sign, and the sign behind it -/
theorem ch_next {T : Nat → Nat} {n r o p b p2 : Nat} {g : jM → Option jM} {cd : List (Nat × Nat)} {nm : Int32} {s : jM} (hg : PXs T n (r + 1) o g) (hop : opr r b) (hcd : cd.length ≤ p) (hT : VT T n s) (h : OKT T n r o p cd nm s b p2) :
    ∃ s3, g s = some s3 ∧ ∃ s4, f_X6_addSign (nI b) (0 : Int32) s3 = some s4 ∧ FrL PF s s4 ∧ ((∃ p3, p2 ≤ p3 ∧ p3 ≤ n ∧ OKY T n r (r + 1) o p cd nm s4 p3) ∨ ERX T n r o p s4) := by
  obtain ⟨c, nm', h1, h2, h3, h4, h5, h6⟩ := h
  obtain ⟨s3, e1, e2, e3⟩ := hg s p2 (cd ++ c) nm' hT h1 h2 (by rw [List.length_append]; omega)
  have hn := hT.1
  refine ⟨s3, e1, ?_⟩
  rcases e3 with ⟨p3, c2, nm2, g1, g2, g3, g4, g5, g6⟩ | ⟨f, g1, g2, g3⟩
  · obtain ⟨s4, u1, u2, u3⟩ := addSign_ok (c := b) (v := 0) (by rw [List.length_append, List.length_append]; omega) g1
    refine ⟨s4, u1, fr_tr e2 u3, Or.inl ⟨p3, by omega, g2, c ++ c2 ++ [(b, 0)], nm2, by rw [List.append_assoc, List.append_assoc, ← List.append_assoc] at u2; rw [List.append_assoc, ← List.append_assoc]; exact u2, g2, by rw [List.length_append, List.length_append]; simp; omega, ?_, cdp_app (cdp_app h5 g5 g4) (cdp_one hop.1 (by omega) (fun h => absurd h hop.2.2.2.2.2.2.2.2)) (Or.inl rfl), fun lt => ?_⟩⟩
    · rcases g4 with rfl | rfl
      · exact h4
      · exact Or.inr rfl
    · obtain ⟨v, q1, q2⟩ := h6 lt
      obtain ⟨w, q3, q4⟩ := g6 lt
      refine ⟨wk b v w, fun st => by rw [evc_app, evc_app, q1, q3, ev_op hop], fun V S hb => ?_⟩
      obtain ⟨V', S', w1, w2, w3⟩ := q4 (v :: V) (b :: S) (Or.inr ⟨by have := hop.1; omega, by have := hop.2.1; omega⟩)
      refine ⟨V', S', (q2 V S hb).tr w1, fun r' hr => ?_, w3⟩
      rw [w2 r' (by omega)]
      show (if b < 1000 ∧ r' ≤ rk b then _ else _) = _
      rw [if_pos ⟨by have := hop.1; omega, by have := hop.2.1; omega⟩]
      rfl
  · obtain ⟨s4, u1, u2, u3⟩ := addSign_any (c := nI b) (v := 0) g2
    refine ⟨s4, u1, fr_tr e2 u3, Or.inr ⟨f, g1, u2, fun lt V S hb => ?_⟩⟩
    obtain ⟨v, q1, q2⟩ := h6 lt
    exact (q2 V S hb).flt (g3 lt (v :: V) (b :: S) (Or.inr ⟨by have := hop.1; omega, by have := hop.2.1; omega⟩))
theorem ch5 : ∀ c, c < 128 → (c ∈ chS.getD 3 [] ↔ rk c = 5) := by decide +kernel
theorem ch4 : ∀ c, c < 128 → (c ∈ chS.getD 4 [] ↔ rk c = 4) := by decide +kernel
theorem ch3 : ∀ c, c < 128 → (c ∈ chS.getD 5 [] ↔ rk c = 3) := by decide +kernel
theorem ch2 : ∀ c, c < 128 → (c ∈ chS.getD 6 [] ↔ rk c = 2) := by decide +kernel
theorem ch1 : ∀ c, c < 128 → (c ∈ chS.getD 7 [] ↔ rk c = 1) := by decide +kernel
theorem term_loop {T : Nat → Nat} {n N o p : Nat} {rv : Int32 → jM → Option jM} {cd : List (Nat × Nat)} {nm : Int32} (hN : 40 < N) (hg : PXs T n 6 o (f_X6_readUnit N rv (nI o))) (hcd : cd.length ≤ p) : ∀ (m p2 b j : Nat) (s : jM) (q : Nat), n - p2 = m → VT T n s → opr 5 b → OKT T n 5 o p cd nm s b p2 → m + 1 < q → j + (n - p2) ≤ 39 →
    ∃ s', lp_X6_readTerm_14 N rv (nI o) q (nI b) (nI j) s = some s' ∧ FrL PF s s' ∧ (OKX T n 5 o p cd nm s' ∨ ERX T n 5 o p s') := by
  intro m
  induction m using Nat.strongRecOn with
  | ind m ih =>
    intro p2 b j s q hm hT hop hK hq hj
    obtain ⟨q, rfl⟩ : ∃ r, q = r + 1 := ⟨q - 1, by omega⟩
    have hmm : ∀ c ∈ ([29] : List Nat), c ∈ PF := by decide
    have hb := hop.1
    have hn := hT.1
    obtain ⟨s3, e1, s4, e2, e3, e4⟩ := ch_next (r := 5) hg hop hcd hT hK
    have hT4 := hT.fr e3 (by decide) (by decide)
    rw [lp_X6_readTerm_14, if_neg (by rw [c_le (by omega) (by omega)]; omega), if_neg (nI_ne_m1 (by omega)), e1, Option.bind_some, i2c_nI (by omega), e2, Option.bind_some]
    obtain ⟨q, rfl⟩ : ∃ r, q = r + 1 := ⟨q - 1, by omega⟩
    rcases e4 with ⟨p3, h23, h3n, hY⟩ | hE
    · rcases ch_try hN (by omega : 3 < 8) ch5 (by omega) (by omega) hT4 hY with ⟨b2, s5, t1, t2, t3, t4⟩ | ⟨s5, t1, t2, t3⟩
      · have hp3 := nb_ge' (T := T) (n := n) (p := p3)
        have hp3n : nb T n p3 + 1 ≤ n := by obtain ⟨_, _, _, hz, _⟩ := t4; exact hz
        obtain ⟨s6, v1, v2, v3⟩ := ih (n - (nb T n p3 + 1)) (by omega) (nb T n p3 + 1) b2 (j + 1) s5 (q + 1) rfl (hT4.fr t3 (by decide) (by decide)) t2 t4 (by omega) (by omega)
        refine ⟨s6, ?_, fr_tr e3 (fr_tr (fr_mono t3 hmm) v2), v3⟩
        rw [t1, Option.bind_some]
        simp only [lt_]
        rw [nI_1]
        exact v1
      · refine ⟨s5, ?_, fr_tr e3 (fr_mono t2 hmm), Or.inl t3⟩
        rw [t1, Option.bind_some]
        simp only [lt_]
        rw [lp_X6_readTerm_14]
        split
        · rfl
        · rw [if_pos rfl]
    · obtain ⟨f, f1, f2, f3⟩ := id hE
      refine ⟨s4, ?_, e3, Or.inr hE⟩
      rw [take_no f2.no, Option.bind_some]
      simp only [lt_]
      rw [lp_X6_readTerm_14]
      split
      · rfl
      · rw [if_pos rfl]
theorem readTerm_ok {T : Nat → Nat} {n N o : Nat} {rv : Int32 → jM → Option jM} (hN : 40 < N) (hg : PXs T n 6 o (f_X6_readUnit N rv (nI o))) : PXs T n 5 o (f_X6_readTerm N rv (nI o)) := by
  intro s p cd nm hT hV hp hcd
  have hmm : ∀ c ∈ ([29] : List Nat), c ∈ PF := by decide
  obtain ⟨s3, e1, e2, e3⟩ := hg s p cd nm hT hV hp hcd
  have hT3 := hT.fr e2 (by decide) (by decide)
  have hn := hT.1
  obtain ⟨M, hM⟩ : ∃ r, N = r + 1 := ⟨N - 1, by omega⟩
  have stop : ∀ s5, lp_X6_readTerm_14 N rv (nI o) N (-1) 0 s5 = some s5 := by
    intro s5
    have : ∀ K, K = M + 1 → lp_X6_readTerm_14 N rv (nI o) K (-1) 0 s5 = some s5 := by
      intro K hK
      rw [hK, lp_X6_readTerm_14, if_neg (by decide), if_pos rfl]
    exact this N hM
  simp only [f_X6_readTerm, lt_, e1, Option.bind_some]
  rcases e3 with hX | hE
  · obtain ⟨p', hY⟩ := OKX_Y hX
    rcases ch_try hN (by omega : 3 < 8) ch5 (by omega) (by omega) hT3 hY with ⟨b2, s5, t1, t2, t3, t4⟩ | ⟨s5, t1, t2, t3⟩
    · have hp3n : nb T n p' + 1 ≤ n := by obtain ⟨_, _, _, hz, _⟩ := t4; exact hz
      obtain ⟨s6, v1, v2, v3⟩ := term_loop hN hg hcd _ (nb T n p' + 1) b2 0 s5 N rfl (hT3.fr t3 (by decide) (by decide)) t2 t4 (by omega) (by omega)
      exact ⟨s6, by rw [t1, Option.bind_some]; exact v1, fr_tr e2 (fr_tr (fr_mono t3 hmm) v2), v3⟩
    · exact ⟨s5, by rw [t1, Option.bind_some]; exact stop s5, fr_tr e2 (fr_mono t2 hmm), Or.inl t3⟩
  · obtain ⟨f, f1, f2, f3⟩ := id hE
    exact ⟨s3, by rw [take_no f2.no, Option.bind_some]; exact stop s3, e2, Or.inr (ERX_mono (by omega) hE)⟩
