/-! the vow read whole; its value -/
def C0 (T : Nat → Nat) (n : Nat) : Cfg := (true, nb T n 0, [], [], 0)
def VC (s : jM) (c : List (Nat × Nat)) (nm : Int32) : Prop := gI s 29 7 = -1 ∧ gI s 29 3 = nI c.length ∧ c.length ≤ 40 ∧ (∀ i x, c[i]? = some x → gI s 30 i = nI x.1 ∧ gI s 31 i = nI x.2) ∧ gI s 29 8 = nm ∧ cdp c nm
def VW (T : Nat → Nat) (n : Nat) (s : jM) : Prop :=
  (∃ c nm, VC s c nm ∧ ∀ lt : Nat → Int64, ∃ v, (∀ st, evc lt c st = v :: st) ∧ Dne lt T n (C0 T n) v) ∨ (∃ f, f < 1000 ∧ gI s 29 7 = nI f ∧ ∀ lt : Nat → Int64, Flt lt T n (C0 T n) f)
theorem VW.fr {T : Nat → Nat} {n : Nat} {s t : jM} (h : VW T n s) (h29 : ∀ i, i ≠ 5 → gI t 29 i = gI s 29 i) (h30 : ∀ i, gI t 30 i = gI s 30 i) (h31 : ∀ i, gI t 31 i = gI s 31 i) : VW T n t := by
  rcases h with ⟨c, nm, ⟨a1, a2, a3, a4, a5, a6⟩, h2⟩ | ⟨f, h1, h2, h3⟩
  · exact Or.inl ⟨c, nm, ⟨by rw [h29 7 (by decide)]; exact a1, by rw [h29 3 (by decide)]; exact a2, a3, fun i x hx => by rw [h30, h31]; exact a4 i x hx, by rw [h29 8 (by decide)]; exact a5, a6⟩, h2⟩
  · exact Or.inr ⟨f, h1, by rw [h29 7 (by decide)]; exact h2, h3⟩
theorem read_ok {T : Nat → Nat} {n N : Nat} {s : jM} (hN : 50 < N) (hT : VT T n s) : ∃ s', f_X6_read N s = some s' ∧ FrL PF s s' ∧ VW T n s' := by
  have hmm : ∀ c ∈ ([29] : List Nat), c ∈ PF := by decide
  have hf4 : FrL [29] s (pI (pI (pI (pI s 29 6 0) 29 3 0) 29 7 (-1)) 29 8 0) := fr_pI (fr_pI (fr_pI (fr_pI FrL.rf (by decide)) (by decide)) (by decide)) (by decide)
  have hT4 := hT.fr hf4 (by decide) (by decide)
  have hV4 : VP (pI (pI (pI (pI s 29 6 0) 29 3 0) 29 7 (-1)) 29 8 0) 0 (-1) [] 0 := by
    refine ⟨?_, ?_, ?_, by simp, fun i x hx => by simp at hx, ?_⟩
    · simp [gI_pI_cell]; rfl
    · simp [gI_pI_cell]
    · simp [gI_pI_cell]; rfl
    · simp [gI_pI_cell]
  obtain ⟨s5, e1, e2, e3⟩ := readValue_ok (T := T) (n := n) hN 10 0 (by omega) (by omega) _ 0 [] 0 hT4 hV4 (by omega) (by simp)
  have e1' : f_X6_readValue N 10 (0 : Int32) (pI (pI (pI (pI s 29 6 0) 29 3 0) 29 7 (-1)) 29 8 0) = some s5 := e1
  have hT5 := hT4.fr e2 (by decide) (by decide)
  simp only [f_X6_read, lt_, e1', Option.bind_some]
  rcases e3 with ⟨p, c, nm, h1, h2, h3, h4, h5, h6⟩ | ⟨f, f1, f2, f3⟩
  · obtain ⟨s6, t1, t2, t3⟩ := nextSign_ok (N := N) (by omega) h2 hT5 h1
    have hTq := hT.2.1 (nb T n p)
    have hq := nb_le' (T := T) h2
    have hn := hT.1
    rw [t1, Option.bind_some]
    by_cases hlt : nb T n p < n
    · obtain ⟨s7, u1, u2, u3⟩ := setFlaw_ok (a := nb T n p) (k := 1) t2
      have u1' : f_X6_setFlaw (gI s6 29 6) (1 : Int32) s6 = some s7 := by rw [t2.1]; exact u1
      refine ⟨s7, ?_, fr_tr (fr_mono hf4 hmm) (fr_tr e2 (fr_tr (fr_mono t3 hmm) (fr_mono u3 hmm))), Or.inr ⟨10 * nb T n p + 1, by omega, u2.2.1, fun lt => ?_⟩⟩
      · simp only
        rw [sgn_in hlt, if_neg (nI_ne_m1 (by omega)), u1', Option.bind_some]
      · obtain ⟨v, q1, q2⟩ := h6 lt
        obtain ⟨V', S', w1, w2, w3⟩ := q2 [] [] trivial
        refine w1.flt ?_
        by_cases hr : 0 < rk (T (nb T n p))
        · exact w3 hlt hr
        · exact rst_S (fun z => absurd z.2.2 (by omega)) (fun _ => hr) (Or.inl hlt)
    · refine ⟨s6, ?_, fr_tr (fr_mono hf4 hmm) (fr_tr e2 (fr_mono t3 hmm)), Or.inl ⟨c, nm, ⟨t2.2.1, t2.2.2.1, t2.2.2.2.1, t2.2.2.2.2.1, t2.2.2.2.2.2, h5⟩, fun lt => ?_⟩⟩
      · simp only
        rw [sgn_out hlt, if_pos rfl]
      · obtain ⟨v, q1, q2⟩ := h6 lt
        obtain ⟨V', S', w1, w2, w3⟩ := q2 [] [] trivial
        refine ⟨v, q1, w1.dne (Dne.st ?_)⟩
        show rstS T n (nb T n p) V' S' 0 = _
        unfold rstS
        rw [if_neg hlt, if_pos rfl, w2 1 (Nat.le_refl _)]
        rfl
  · refine ⟨s5, ?_, fr_tr (fr_mono hf4 hmm) e2, Or.inr ⟨f, f1, f2.1, fun lt => f3 lt [] [] trivial⟩⟩
    rw [nextSign_no f2.no, Option.bind_some]
    simp only
    rw [if_pos trivial]
/-! the stack -/
def SK (s : jM) (st : List Int64) : Prop := gI s 29 5 = nI st.length ∧ st.length ≤ 40 ∧ ∀ i x, st[i]? = some x → gL s 32 (st.length - 1 - i) = x
def FrV (s t : jM) : Prop := FrL [29, 32] s t ∧ ∀ i, i ≠ 5 → gI t 29 i = gI s 29 i
theorem FrV.tr {s t u : jM} (h1 : FrV s t) (h2 : FrV t u) : FrV s u := ⟨fr_tr h1.1 h2.1, fun i hi => (h2.2 i hi).trans (h1.2 i hi)⟩
theorem FrV.rf {s : jM} : FrV s s := ⟨FrL.rf, fun _ _ => rfl⟩
theorem FrV.top {s t : jM} {v : Int32} (h : FrV s t) : FrV s (pI t 29 5 v) := ⟨fr_pI h.1 (by decide), fun i hi => by rw [gI_pI_cell, if_neg hi]; exact h.2 i hi⟩
theorem push_ok {s : jM} {st : List Int64} {v : Int64} (h : SK s st) (hl : st.length < 40) : ∃ s', f_X6_push v s = some s' ∧ SK s' (v :: st) ∧ FrV s s' := by
  refine ⟨pI (pL s 32 st.length v) 29 5 (nI st.length + 1), ?_, ⟨by rw [gI_pI_eq, nI_1]; rfl, hl, fun i x hx => ?_⟩, FrV.top ⟨fr_pL FrL.rf (by decide), fun i hi => rfl⟩⟩
  · simp only [f_X6_push, lt_, h.1]
    rw [if_neg (nI_pos (by omega)), if_neg (by rw [c_le (by omega) (by omega)]; omega), ib_nI (by omega), gd_dec hl, nI_clamp (by omega), gI_pL, h.1]
  · rw [gL_pI, gL_pL_cell]
    cases i with
    | zero => simp at hx ⊢; exact hx
    | succ i =>
      have hx2 : st[i]? = some x := by simpa using hx
      have hi := (List.getElem?_eq_some_iff.mp hx2).1
      rw [if_neg (by simp; omega)]
      have := h.2.2 i x hx2
      rw [← this]
      congr 1
      simp
      omega
theorem pop_ok {s : jM} {st : List Int64} (h : SK s st) : ∃ s', f_X6_pop s = some (st.headD 0, s') ∧ SK s' st.tail ∧ FrV s s' := by
  cases st with
  | nil =>
    refine ⟨s, ?_, h, FrV.rf⟩
    simp only [f_X6_pop, jn_, lt_, h.1]
    rw [if_pos (by decide)]
    rfl
  | cons v st =>
    have hl : st.length + 1 ≤ 40 := h.2.1
    have e : gI s 29 5 = nI (st.length + 1) := h.1
    refine ⟨pI s 29 5 (nI st.length), ?_, ⟨by rw [gI_pI_eq]; rfl, by simp; omega, fun i x hx => ?_⟩, FrV.rf.top⟩
    · simp only [f_X6_pop, jn_, lt_, e]
      rw [if_neg (nI_nle (by omega) (by omega)), if_pos (by rw [le_c (by omega) (by omega)]; omega), nI_pred, gI_pI_eq, ib_nI (by omega), gd_dec (by omega), nI_clamp (by omega), gL_pI]
      have := h.2.2 0 v rfl
      simp at this
      rw [this]
      rfl
    · rw [gL_pI]
      have hx2 : (v :: st)[i + 1]? = some x := hx
      have hi := (List.getElem?_eq_some_iff.mp hx).1
      have := h.2.2 (i + 1) x hx2
      rw [← this]
      congr 1
      simp
      simp at hi
      omega
theorem work_ok {b : Nat} {v w : Int64} (hb : b < 128) : f_X6_work (nI b) v w = some (wk b v w) := by
  unfold wk
  simp only [f_X6_work, jn_]
  by_cases h1 : b = 38
  · subst h1
    rw [if_pos (by decide)]
    by_cases hv : v = 0 <;> by_cases hw : w = 0 <;> simp [hv, hw]
  · rw [if_neg (fun z => h1 ((eq_c (by omega) (by omega)).mp z))]
    by_cases h2 : b = 42
    · subst h2; rfl
    · rw [if_neg (fun z => h2 ((eq_c (by omega) (by omega)).mp z))]
      by_cases h3 : b = 43
      · subst h3; rfl
      · rw [if_neg (fun z => h3 ((eq_c (by omega) (by omega)).mp z))]
        by_cases h4 : b = 45
        · subst h4; rfl
        · rw [if_neg (fun z => h4 ((eq_c (by omega) (by omega)).mp z))]
          by_cases h5 : b = 60
          · subst h5
            rw [if_pos (by decide)]
            by_cases hv : v < w
            · rw [if_neg (Int64.not_le.mpr hv)]; simp [hv]
            · rw [if_pos (Int64.not_lt.mp hv)]; simp [hv]
          · rw [if_neg (fun z => h5 ((eq_c (by omega) (by omega)).mp z))]
            by_cases h6 : b = 61
            · subst h6
              rw [if_pos (by decide)]
              by_cases hv : v = w <;> simp [hv]
            · rw [if_neg (fun z => h6 ((eq_c (by omega) (by omega)).mp z))]
              by_cases h7 : b = 62
              · subst h7
                rw [if_pos (by decide)]
                by_cases hv : w < v
                · rw [if_neg (Int64.not_le.mpr hv)]; simp [hv]
                · rw [if_pos (Int64.not_lt.mp hv)]; simp [hv]
              · rw [if_neg (fun z => h7 ((eq_c (by omega) (by omega)).mp z))]
                by_cases h8 : b = 124
                · subst h8
                  rw [if_pos (by decide)]
                  by_cases hv : v = 0 <;> by_cases hw : w = 0 <;> simp [hv, hw]
                · rw [if_neg (fun z => h8 ((eq_c (by omega) (by omega)).mp z)), if_neg h8, if_neg h1, if_neg h5, if_neg h7, if_neg h6, if_neg h3, if_neg h4, if_neg h2]
                  by_cases hw : w = 0
                  · rw [if_pos hw, if_pos hw]
                  · rw [if_neg hw, if_neg hw, gd_dec hw]
theorem ix_let : ∀ c, c < 128 → ∀ j, j < 5 → lix c = some j → ixS 2 c = nI j := by decide +kernel
theorem ix_not : ∀ c, c < 128 → (lix c).getD 5 = 5 → ixS 2 c = -1 := by decide +kernel
theorem lix_lt : ∀ c, c < 128 → (lix c).getD 0 < 6 := by decide +kernel
theorem lix_109 : ∀ c, c < 128 → (lix c = some 5 ↔ c = 109) := by decide +kernel
theorem vl_loop {N : Nat} {a2 : Int32} {k4 : jM → Option (Int64 × jM)} {lt : Nat → Int64} {c : List (Nat × Nat)} {nm : Int32} (hN : 40 < N) : ∀ (r : List (Nat × Nat)) (i : Nat) (st : List Int64) (s : jM) (q : Nat), c.drop i = r → i ≤ c.length → VC s c nm → (∀ j, j < 5 → lt j = (gI s 34 j).toInt64) → lt 5 = a2.toInt64 → SK s st → st.length ≤ i → r.length < q →
    ∃ s', lp_X6_value_20 N a2 k4 q (nI i) s = k4 s' ∧ SK s' (evc lt r st) ∧ FrV s s' ∧ VC s' c nm := by
  intro r
  induction r with
  | nil =>
    intro i st s q hd hi hC hlt h5 hS hsl hq
    obtain ⟨q, rfl⟩ : ∃ r, q = r + 1 := ⟨q - 1, by omega⟩
    have := List.drop_eq_nil_iff.mp hd
    have h40 := hC.2.2.1
    refine ⟨s, ?_, hS, FrV.rf, hC⟩
    rw [lp_X6_value_20, hC.2.1, if_pos (by rw [nI_leI (by omega) (by omega)]; omega)]
  | cons x r ih =>
    intro i st s q hd hi hC hlt h5 hS hsl hq
    obtain ⟨q, rfl⟩ : ∃ r, q = r + 1 := ⟨q - 1, by omega⟩
    have h40 := hC.2.2.1
    have hil : i < c.length := by
      rcases Nat.lt_or_ge i c.length with h | h
      · exact h
      · rw [List.drop_eq_nil_iff.mpr h] at hd; cases hd
    have hx : c[i]? = some x := by
      have := congrArg (fun l => l[0]?) hd
      simpa using this
    have hd2 : c.drop (i + 1) = r := by
      have := congrArg (List.drop 1) hd
      simpa [List.drop_drop, Nat.add_comm] using this
    obtain ⟨hb, hv⟩ := hC.2.2.2.2.2.1 x (List.mem_of_getElem? hx)
    obtain ⟨g30, g31⟩ := hC.2.2.2.1 i x hx
    have hgC : gC s 30 i = nI x.1 := by rw [gC_gI, g30, vch (by omega)]
    have keep : ∀ t, FrV s t → VC t c nm := fun t hf => ⟨by rw [hf.2 7 (by decide)]; exact hC.1, by rw [hf.2 3 (by decide)]; exact hC.2.1, h40, fun k y hy => by rw [fr_gI hf.1 (by decide), fr_gI hf.1 (by decide)]; exact hC.2.2.2.1 k y hy, by rw [hf.2 8 (by decide)]; exact hC.2.2.2.2.1, hC.2.2.2.2.2⟩
    have go : ∀ t st', FrV s t → SK t st' → st'.length ≤ i + 1 → ev1 lt x st = st' → ∃ s', (lt_ (nI i + (1 : Int32)) fun x13 => lp_X6_value_20 N a2 k4 q x13 t) = k4 s' ∧ SK s' (evc lt (x :: r) st) ∧ FrV s s' ∧ VC s' c nm := by
      intro t st' hf hst hl' he
      obtain ⟨s', w1, w2, w3, w4⟩ := ih (i + 1) st' t q hd2 hil (keep t hf) (fun j hj => by rw [fr_gI hf.1 (by decide)]; exact hlt j hj) h5 hst hl' (by simp at hq; omega)
      refine ⟨s', by simp only [lt_]; rw [nI_1]; exact w1, ?_, hf.tr w3, w4⟩
      show SK s' (evc lt r (ev1 lt x st))
      rw [he]
      exact w2
    rw [lp_X6_value_20, hC.2.1, if_neg (by rw [nI_leI (by omega) (by omega)]; omega), if_neg (by rw [c_le (by omega) (by omega)]; omega)]
    simp only [jn_]
    rw [ib_nI (by omega), gd_dec (by omega), nI_clamp (by omega), hgC]
    rw [show (lt_ (nI x.1) : (Int32 → Option (Int64 × jM)) → Option (Int64 × jM)) = fun f => f (nI x.1) from rfl]
    simp only
    rw [indexOf_ok hN (by omega : 2 < 8) hb, Option.bind_some, gd_dec (by omega)]
    by_cases hlet : ∃ j, j < 5 ∧ lix x.1 = some j
    · obtain ⟨j, hj, hl⟩ := hlet
      have h35 : ¬ x.1 = 35 := fun e => by rw [e] at hl; cases hl
      rw [ix_let _ hb j hj hl, if_neg (nI_pos (by omega)), if_neg (by rw [c_le (by omega) (by omega)]; omega), ib_nI (by omega), gd_dec hj, nI_clamp (by omega)]
      obtain ⟨t, u1, u2, u3⟩ := push_ok (v := (gI s 34 j).toInt64) hS (by omega)
      rw [u1, Option.bind_some]
      exact go t _ u3 u2 (by simp; omega) (by unfold ev1; rw [if_neg h35, hl]; simp only; rw [hlt j hj])
    · have hn5 : (lix x.1).getD 5 = 5 := by
        have h6 := lix_lt _ hb
        cases hl : lix x.1 with
        | none => rfl
        | some j =>
          rw [hl] at h6
          simp only [Option.getD_some] at h6 ⊢
          have : ¬ j < 5 := fun z => hlet ⟨j, z, hl⟩
          omega
      rw [ix_not _ hb hn5, if_pos (by decide)]
      by_cases h35 : x.1 = 35
      · rw [if_pos ((eq_c (by omega) (by omega)).mpr h35), g31]
        obtain ⟨t, u1, u2, u3⟩ := push_ok (v := (nI x.2).toInt64) hS (by omega)
        rw [u1, Option.bind_some]
        exact go t _ u3 u2 (by simp; omega) (by unfold ev1; rw [if_pos h35, nI_l (by omega)])
      · rw [if_neg (fun z => h35 ((eq_c (by omega) (by omega)).mp z))]
        by_cases h109 : x.1 = 109
        · rw [if_pos ((eq_c (by omega) (by omega)).mpr h109)]
          obtain ⟨t, u1, u2, u3⟩ := push_ok (v := a2.toInt64) hS (by omega)
          rw [u1, Option.bind_some]
          exact go t _ u3 u2 (by simp; omega) (by unfold ev1; rw [if_neg h35, h109]; simp only [← h5]; rfl)
        · rw [if_neg (fun z => h109 ((eq_c (by omega) (by omega)).mp z))]
          have hlx : lix x.1 = none := by
            cases hl : lix x.1 with
            | none => rfl
            | some j =>
              rw [hl] at hn5
              simp only [Option.getD_some] at hn5
              rw [hn5] at hl
              exact absurd ((lix_109 _ hb).mp hl) h109
          by_cases h33 : x.1 = 33
          · rw [if_pos ((eq_c (by omega) (by omega)).mpr h33)]
            obtain ⟨t, u1, u2, u3⟩ := pop_ok hS
            obtain ⟨t2, v1, v2, v3⟩ := push_ok (v := s1 1001 (st.headD 0)) u2 (by simp; omega)
            rw [u1, Option.bind_some]
            simp only
            have e : ∀ z : Int64, (if z = 0 then Option.bind (f_X6_push (1 : Int64) t) fun r30 => (lt_ (nI i + (1 : Int32)) fun x13 => lp_X6_value_20 N a2 k4 q x13 r30) else Option.bind (f_X6_push (0 : Int64) t) fun r30 => (lt_ (nI i + (1 : Int32)) fun x13 => lp_X6_value_20 N a2 k4 q x13 r30)) = Option.bind (f_X6_push (s1 1001 z) t) fun r30 => (lt_ (nI i + (1 : Int32)) fun x13 => lp_X6_value_20 N a2 k4 q x13 r30) := by
              intro z
              unfold s1
              rw [if_pos rfl]
              by_cases hz : z = 0
              · rw [if_pos hz, if_pos hz]
              · rw [if_neg hz, if_neg hz]
            rw [e, v1, Option.bind_some]
            exact go t2 _ (u3.tr v3) v2 (by simp; omega) (by unfold ev1; rw [if_neg h35, hlx]; simp only; rw [if_pos h33])
          · rw [if_neg (fun z => h33 ((eq_c (by omega) (by omega)).mp z))]
            by_cases h126 : x.1 = 126
            · rw [if_pos ((eq_c (by omega) (by omega)).mpr h126)]
              obtain ⟨t, u1, u2, u3⟩ := pop_ok hS
              obtain ⟨t2, v1, v2, v3⟩ := push_ok (v := s1 1002 (st.headD 0)) u2 (by simp; omega)
              have v1' : f_X6_push (-(st.headD 0)) t = some t2 := v1
              rw [u1, Option.bind_some]
              simp only
              rw [v1', Option.bind_some]
              exact go t2 _ (u3.tr v3) v2 (by simp; omega) (by unfold ev1; rw [if_neg h35, hlx]; simp only; rw [if_neg h33, if_pos h126])
            · rw [if_neg (fun z => h126 ((eq_c (by omega) (by omega)).mp z))]
              obtain ⟨t, u1, u2, u3⟩ := pop_ok hS
              obtain ⟨t2, v1, v2, v3⟩ := pop_ok u2
              obtain ⟨t3, w1, w2, w3⟩ := push_ok (v := wk x.1 (st.tail.headD 0) (st.headD 0)) v2 (by simp; omega)
              rw [u1, Option.bind_some]
              simp only [show ∀ (z : Int64) (f : Int64 → Option (Int64 × jM)), lt_ z f = f z from fun _ _ => rfl]
              rw [v1, Option.bind_some]
              simp only
              rw [work_ok hb, Option.bind_some, w1, Option.bind_some]
              exact go t3 _ (u3.tr (v3.tr w3)) w2 (by simp; omega) (by unfold ev1; rw [if_neg h35, hlx]; simp only; rw [if_neg h33, if_neg h126])
/-- the value, over the letters brought (cell 34) and the minute -/
theorem value_ok {T : Nat → Nat} {n N : Nat} {a2 : Int32} {lt : Nat → Int64} {s : jM} (hN : 50 < N) (hW : VW T n s) (hlt : ∀ j, j < 5 → lt j = (gI s 34 j).toInt64) (h5 : lt 5 = a2.toInt64) :
    ∃ (x : Int64) (s' : jM), f_X6_value N a2 s = some (x, s') ∧ FrV s s' ∧ ((gI s 29 7 = -1 ∧ Dne lt T n (C0 T n) x) ∨ (∃ f, f < 1000 ∧ gI s 29 7 = nI f ∧ Flt lt T n (C0 T n) f ∧ x = lt 0)) := by
  simp only [f_X6_value, lt_, jn_]
  rcases hW with ⟨c, nm, hC, hv⟩ | ⟨f, f1, f2, f3⟩
  · obtain ⟨v, q1, q2⟩ := hv lt
    have hC2 : VC (pI s 29 5 0) c nm := ⟨by rw [gI_pI_cell]; exact hC.1, by rw [gI_pI_cell]; exact hC.2.1, hC.2.2.1, fun i x hx => by rw [gI_pI_ne (by decide), gI_pI_ne (by decide)]; exact hC.2.2.2.1 i x hx, by rw [gI_pI_cell]; exact hC.2.2.2.2.1, hC.2.2.2.2.2⟩
    have hf : FrV s (pI s 29 5 0) := FrV.rf.top
    have h40 := hC.2.2.1
    obtain ⟨s', w1, w2, w3, w4⟩ := vl_loop (N := N) (a2 := a2) (k4 := fun s3 => Option.bind (f_X6_pop s3) fun r5 => some (r5.1, r5.2)) (lt := lt) (by omega) c 0 [] (pI s 29 5 0) N rfl (by omega) hC2 (fun j hj => by rw [gI_pI_ne (by decide)]; exact hlt j hj) h5 ⟨by rw [gI_pI_eq]; rfl, by simp, fun i x hx => by simp at hx⟩ (by simp) (by omega)
    rw [q1] at w2
    obtain ⟨s2, u1, u2, u3⟩ := pop_ok w2
    refine ⟨v, s2, ?_, hf.tr (w3.tr u3), Or.inl ⟨hC.1, q2⟩⟩
    have e0 : (0 : Int32) = nI 0 := rfl
    rw [if_pos hC.1, show lp_X6_value_20 N a2 (fun s3 => Option.bind (f_X6_pop s3) fun r5 => some (r5.1, r5.2)) N (0 : Int32) (pI s 29 5 0) = _ from w1, u1]
    rfl
  · refine ⟨lt 0, s, ?_, FrV.rf, Or.inr ⟨f, f1, f2, f3 lt, rfl⟩⟩
    rw [f2, if_neg (nI_ne_m1 (by omega)), show ib (0 : Int32) 5 = true from by decide, hlt 0 (by omega)]
    rfl
theorem itr_un {lt : Nat → Int64} {T : Nat → Nat} {n : Nat} {x y : Nat ⊕ Int64} : ∀ (k j : Nat) (a : Cfg), itr lt T n k a = .inr x → itr lt T n j a = .inr y → x = y := by
  intro k
  induction k with
  | zero => intro j a h; cases h
  | succ k ih =>
    intro j a h1 h2
    cases j with
    | zero => cases h2
    | succ j =>
      simp only [itr] at h1 h2
      cases hr : rst lt T n a with
      | inl b => rw [hr] at h1 h2; exact ih j b h1 h2
      | inr z => rw [hr] at h1 h2; cases h1; cases h2; rfl
theorem Dne_un {lt : Nat → Int64} {T : Nat → Nat} {n : Nat} {v w : Int64} {a : Cfg} (h1 : Dne lt T n a v) (h2 : Dne lt T n a w) : v = w := by
  obtain ⟨j, h1⟩ := h1
  obtain ⟨k, h2⟩ := h2
  exact Sum.inr.inj (itr_un j k a h1 h2)
theorem Flt_un {lt : Nat → Int64} {T : Nat → Nat} {n v w : Nat} {a : Cfg} (h1 : Flt lt T n a v) (h2 : Flt lt T n a w) : v = w := by
  obtain ⟨j, h1⟩ := h1
  obtain ⟨k, h2⟩ := h2
  exact Sum.inl.inj (itr_un j k a h1 h2)
theorem DF_un {lt : Nat → Int64} {T : Nat → Nat} {n v : Nat} {w : Int64} {a : Cfg} (h1 : Flt lt T n a v) (h2 : Dne lt T n a w) : False := by
  obtain ⟨j, h1⟩ := h1
  obtain ⟨k, h2⟩ := h2
  cases itr_un j k a h1 h2
/-- the vow's fault, and whether its value is odd: what the text and the letters say -/
def FW (T : Nat → Nat) (n : Nat) (x : Int32) : Prop := (x = -1 ∧ ∀ lt : Nat → Int64, ∃ v, Dne lt T n (C0 T n) v) ∨ (∃ f, f < 1000 ∧ x = nI f ∧ ∀ lt : Nat → Int64, Flt lt T n (C0 T n) f)
def TV (T : Nat → Nat) (n : Nat) (lt : Nat → Int64) (x : Int64) : Prop := Dne lt T n (C0 T n) x ∨ (∃ f, Flt lt T n (C0 T n) f ∧ x = lt 0)
theorem TV_un {T : Nat → Nat} {n : Nat} {lt : Nat → Int64} {x y : Int64} (h1 : TV T n lt x) (h2 : TV T n lt y) : x = y := by
  rcases h1 with h1 | ⟨f, h1, e1⟩
  · rcases h2 with h2 | ⟨g, h2, e2⟩
    · exact Dne_un h1 h2
    · exact (DF_un h2 h1).elim
  · rcases h2 with h2 | ⟨g, h2, e2⟩
    · exact (DF_un h1 h2).elim
    · rw [e1, e2]
theorem FW_un {T : Nat → Nat} {n : Nat} {x y : Int32} (h1 : FW T n x) (h2 : FW T n y) : x = y := by
  rcases h1 with ⟨e1, h1⟩ | ⟨f, _, e1, h1⟩
  · rcases h2 with ⟨e2, h2⟩ | ⟨g, _, e2, h2⟩
    · rw [e1, e2]
    · obtain ⟨v, hv⟩ := h1 (fun _ => 0)
      exact (DF_un (h2 _) hv).elim
  · rcases h2 with ⟨e2, h2⟩ | ⟨g, _, e2, h2⟩
    · obtain ⟨v, hv⟩ := h2 (fun _ => 0)
      exact (DF_un (h1 _) hv).elim
    · rw [e1, e2, Flt_un (h1 (fun _ => 0)) (h2 (fun _ => 0))]
theorem VW.fw {T : Nat → Nat} {n : Nat} {s : jM} (h : VW T n s) : FW T n (gI s 29 7) := by
  rcases h with ⟨c, nm, hC, hv⟩ | ⟨f, f1, f2, f3⟩
  · exact Or.inl ⟨hC.1, fun lt => by obtain ⟨v, -, q⟩ := hv lt; exact ⟨v, q⟩⟩
  · exact Or.inr ⟨f, f1, f2, f3⟩
/-- m is not named: the minute does not count -/
theorem evc_m {lt lt' : Nat → Int64} (h : ∀ j, j < 5 → lt j = lt' j) : ∀ (c : List (Nat × Nat)) (st : List Int64), (∀ x, x ∈ c → x.1 < 128) → (∀ x, x ∈ c → ¬ x.1 = 109) → evc lt c st = evc lt' c st := by
  intro c
  induction c with
  | nil => intro st _ _; rfl
  | cons x c ih =>
    intro st h1 h2
    have e : ev1 lt x st = ev1 lt' x st := by
      unfold ev1
      by_cases h35 : x.1 = 35
      · rw [if_pos h35, if_pos h35]
      · rw [if_neg h35, if_neg h35]
        cases hl : lix x.1 with
        | none => rfl
        | some j =>
          simp only
          have hj := lix_lt x.1 (h1 x List.mem_cons_self)
          rw [hl] at hj
          simp only [Option.getD_some] at hj
          have : ¬ j = 5 := fun e => h2 x List.mem_cons_self ((lix_109 _ (h1 x List.mem_cons_self)).mp (by rw [hl, e]))
          rw [h j (by omega)]
    show evc lt c (ev1 lt x st) = evc lt' c (ev1 lt' x st)
    rw [e]
    exact ih _ (fun y hy => h1 y (List.mem_cons_of_mem _ hy)) (fun y hy => h2 y (List.mem_cons_of_mem _ hy))
theorem VW.nm {T : Nat → Nat} {n : Nat} {s : jM} (h : VW T n s) (h8 : gI s 29 8 = 0) {lt lt' : Nat → Int64} (hl : ∀ j, j < 5 → lt j = lt' j) {x : Int64} (hx : TV T n lt x) : TV T n lt' x := by
  rcases h with ⟨c, nm, hC, hv⟩ | ⟨f, f1, f2, f3⟩
  · obtain ⟨v, q1, q2⟩ := hv lt
    obtain ⟨v', q3, q4⟩ := hv lt'
    have hm : ∀ x, x ∈ c → ¬ x.1 = 109 := fun y hy h9 => by
      have := hC.2.2.2.2.2.2 ⟨y, hy, h9⟩
      rw [hC.2.2.2.2.1, this] at h8
      cases h8
    have e : v = v' := by
      have := evc_m hl c [] (fun y hy => (hC.2.2.2.2.2.1 y hy).1) hm
      rw [q1, q3] at this
      exact (List.cons.inj this).1
    have : x = v := TV_un hx (Or.inl q2)
    rw [this, e]
    exact Or.inl q4
  · have : x = lt 0 := TV_un hx (Or.inr ⟨f, f3 lt, rfl⟩)
    exact Or.inr ⟨f, f3 lt', by rw [this, hl 0 (by omega)]⟩
