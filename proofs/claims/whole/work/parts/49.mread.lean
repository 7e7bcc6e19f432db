/-! the reference's reading in its cells: its scanner, its stacks -/
def MT (T : Nat → Nat) (n : Nat) (s : jM) : Prop := n ≤ 40 ∧ (∀ i, T i < 128) ∧ gI s 54 34 = nI n ∧ ∀ i, i < n → gI s 54 (35 + i) = nI (T i)
def FrR (s t : jM) : Prop := FrL [53, 58, 59] s t ∧ (∀ i, i ≠ 6 → i ≠ 7 → i ≠ 9 → i ≠ 11 → gI t 53 i = gI s 53 i) ∧ (∀ i, i ≠ 13 → gL t 53 i = gL s 53 i)
theorem FrR.rf {s : jM} : FrR s s := ⟨FrL.rf, fun _ _ _ _ _ => rfl, fun _ _ => rfl⟩
theorem FrR.tr {s t u : jM} (h1 : FrR s t) (h2 : FrR t u) : FrR s u := ⟨fr_tr h1.1 h2.1, fun i a b c d => (h2.2.1 i a b c d).trans (h1.2.1 i a b c d), fun i a => (h2.2.2 i a).trans (h1.2.2 i a)⟩
theorem FrR.pI53 {s t : jM} (h : FrR s t) {i : Nat} {v : Int32} (hi : i = 6 ∨ i = 7 ∨ i = 9 ∨ i = 11) : FrR s (pI t 53 i v) :=
  ⟨fr_pI h.1 (by decide), fun j a b c d => by rw [gI_pI_cell, if_neg (by omega)]; exact h.2.1 j a b c d, fun j a => h.2.2 j a⟩
theorem FrR.pI59 {s t : jM} (h : FrR s t) {i : Nat} {v : Int32} : FrR s (pI t 59 i v) :=
  ⟨fr_pI h.1 (by decide), fun j a b c d => by rw [gI_pI_ne (by decide)]; exact h.2.1 j a b c d, fun j a => h.2.2 j a⟩
theorem FrR.pL58 {s t : jM} (h : FrR s t) {i : Nat} {v : Int64} : FrR s (pL t 58 i v) :=
  ⟨fr_pL h.1 (by decide), fun j a b c d => h.2.1 j a b c d, fun j a => by rw [gL_pL_ne (by decide)]; exact h.2.2 j a⟩
theorem FrR.pL53 {s t : jM} (h : FrR s t) {v : Int64} : FrR s (pL t 53 13 v) :=
  ⟨fr_pL h.1 (by decide), fun j a b c d => h.2.1 j a b c d, fun j a => by rw [gL_pL_cell, if_neg a]; exact h.2.2 j a⟩
theorem MT.fr {T : Nat → Nat} {n : Nat} {s t : jM} (h : MT T n s) (hf : FrR s t) : MT T n t := ⟨h.1, h.2.1, by rw [fr_gI hf.1 (by decide)]; exact h.2.2.1, fun i hi => by rw [fr_gI hf.1 (by decide)]; exact h.2.2.2 i hi⟩
theorem textLong_ok {T : Nat → Nat} {n : Nat} {s : jM} (h : MT T n s) : f_X8_textLong s = some (nI n) := by
  simp only [f_X8_textLong]
  rw [show ib (34 : Int32) 101 = true from by decide, show Int32.toNatClampNeg (34 : Int32) = 34 from rfl, h.2.2.1]
  rfl
theorem charAt_ok {T : Nat → Nat} {n p : Nat} {s : jM} (h : MT T n s) (hp : p < n) : f_X8_charAt (nI p) s = some (nI (T p)) := by
  have hn := h.1
  simp only [f_X8_charAt]
  rw [lit_nI 35, nI_add, ib_nI (by omega), gd_dec (by omega), nI_clamp (by omega), h.2.2.2 p hp]
theorem mah_loop {T : Nat → Nat} {n N : Nat} {k2 : jM → Option (Int32 × jM)} : ∀ (m p : Nat) (s : jM) (q : Nat), n - p = m → p ≤ n → m < q → MT T n s → gI s 53 6 = nI p →
    ∃ s', lp_X8_ahead_0 N k2 q s = k2 s' ∧ gI s' 53 6 = nI (nb T n p) ∧ (∀ i, i ≠ 6 → gI s' 53 i = gI s 53 i) ∧ FrL [53] s s' ∧ FrR s s' := by
  intro m
  induction m with
  | zero =>
    intro p s q hm hp hq hT hV
    obtain ⟨q, rfl⟩ : ∃ r, q = r + 1 := ⟨q - 1, by omega⟩
    have hn := hT.1
    refine ⟨s, ?_, by rw [nb_stop (by omega)]; exact hV, fun _ _ => rfl, FrL.rf, FrR.rf⟩
    rw [lp_X8_ahead_0, textLong_ok hT, Option.bind_some, hV, if_pos (by rw [nI_leI (by omega) (by omega)]; omega)]
  | succ m ih =>
    intro p s q hm hp hq hT hV
    obtain ⟨q, rfl⟩ : ∃ r, q = r + 1 := ⟨q - 1, by omega⟩
    have hn := hT.1
    have hTp := hT.2.1 p
    rw [lp_X8_ahead_0, textLong_ok hT, Option.bind_some, hV, if_neg (by rw [nI_leI (by omega) (by omega)]; omega), charAt_ok hT (by omega), Option.bind_some]
    by_cases hb : p < n ∧ T p = 32
    · rw [if_pos ((eq_c (by omega) (by omega)).mpr hb.2)]
      simp only [lt_]
      rw [nI_1]
      have hf : FrR s (pI s 53 6 (nI (p + 1))) := FrR.rf.pI53 (Or.inl rfl)
      obtain ⟨s', e1, e2, e3, e4, e5⟩ := ih (p + 1) (pI s 53 6 (nI (p + 1))) q (by omega) (by omega) (by omega) (hT.fr hf) gI_pI_eq
      exact ⟨s', e1, by rw [nb_step hb]; exact e2, fun i hi => by rw [e3 i hi, gI_pI_cell, if_neg hi], fr_tr (fr_pI FrL.rf (by decide)) e4, hf.tr e5⟩
    · rw [if_neg (fun z => hb ⟨by omega, (eq_c (by omega) (by omega)).mp z⟩)]
      exact ⟨s, rfl, by rw [nb_stop hb]; exact hV, fun _ _ => rfl, FrL.rf, FrR.rf⟩
theorem ahead_ok {T : Nat → Nat} {n N p : Nat} {s : jM} (hN : 50 < N) (hp : p ≤ n) (hT : MT T n s) (hV : gI s 53 6 = nI p) :
    ∃ s', f_X8_ahead N s = some (sgn T n (nb T n p), s') ∧ gI s' 53 6 = nI (nb T n p) ∧ (∀ i, i ≠ 6 → gI s' 53 i = gI s 53 i) ∧ FrL [53] s s' ∧ FrR s s' := by
  have hn := hT.1
  simp only [f_X8_ahead, jn_]
  obtain ⟨s', e1, e2, e3, e4, e5⟩ := mah_loop (N := N) (k2 := fun s1 => Option.bind (f_X8_textLong s1) fun r3 => if r3 ≤ (gI s1 53 6) then (some ((-1 : Int32), s1)) else (Option.bind (f_X8_charAt (gI s1 53 6) s1) fun r5 => some (r5, s1))) _ p s N rfl hp (by omega) hT hV
  refine ⟨s', ?_, e2, e3, e4, e5⟩
  have hle := nb_le' (T := T) hp
  rw [e1, textLong_ok (hT.fr e5), Option.bind_some, e2]
  by_cases hlt : nb T n p < n
  · rw [if_neg (by rw [nI_leI (by omega) (by omega)]; omega), charAt_ok (hT.fr e5) hlt, sgn_in hlt]
    rfl
  · rw [if_pos (by rw [nI_leI (by omega) (by omega)]; omega), sgn_out hlt]
theorem rank_ok {c : Nat} (hc : c < 2000) : f_X8_rank (nI c) = some (nI (rk c)) := by
  unfold rk
  simp only [f_X8_rank]
  by_cases h1 : c = 38
  · subst h1; rfl
  rw [if_neg (fun z => h1 ((eq_c (by omega) (by omega)).mp z))]
  by_cases h2 : c = 42
  · subst h2; rfl
  rw [if_neg (fun z => h2 ((eq_c (by omega) (by omega)).mp z))]
  by_cases h3 : c = 43
  · subst h3; rfl
  rw [if_neg (fun z => h3 ((eq_c (by omega) (by omega)).mp z))]
  by_cases h4 : c = 45
  · subst h4; rfl
  rw [if_neg (fun z => h4 ((eq_c (by omega) (by omega)).mp z))]
  by_cases h5 : c = 47
  · subst h5; rfl
  rw [if_neg (fun z => h5 ((eq_c (by omega) (by omega)).mp z))]
  by_cases h6 : c = 60
  · subst h6; rfl
  rw [if_neg (fun z => h6 ((eq_c (by omega) (by omega)).mp z))]
  by_cases h7 : c = 61
  · subst h7; rfl
  rw [if_neg (fun z => h7 ((eq_c (by omega) (by omega)).mp z))]
  by_cases h8 : c = 62
  · subst h8; rfl
  rw [if_neg (fun z => h8 ((eq_c (by omega) (by omega)).mp z))]
  by_cases h9 : c = 124
  · subst h9; rfl
  rw [if_neg (fun z => h9 ((eq_c (by omega) (by omega)).mp z)), if_neg h9, if_neg h1, if_neg h6, if_neg h8, if_neg h7, if_neg h3, if_neg h4, if_neg h2, if_neg h5]
  rfl
theorem rank_m1 : f_X8_rank (-1) = some 0 := by decide
def MV (s : jM) (V : List Int64) : Prop := gI s 53 9 = nI V.length ∧ V.length ≤ 60 ∧ ∀ i x, V[i]? = some x → gL s 58 (V.length - 1 - i) = x
def okc (c : Nat) : Prop := c < 128 ∨ (1000 ≤ c ∧ c < 1003)
def MS (s : jM) (S : List Nat) : Prop := gI s 53 11 = nI S.length ∧ S.length ≤ 60 ∧ ∀ i c, S[i]? = some c → gI s 59 (S.length - 1 - i) = nI c ∧ okc c
theorem MV.keep {s t : jM} {V : List Int64} (h : MV s V) (h9 : gI t 53 9 = gI s 53 9) (h58 : ∀ i, gL t 58 i = gL s 58 i) : MV t V := ⟨by rw [h9]; exact h.1, h.2.1, fun i x hx => by rw [h58]; exact h.2.2 i x hx⟩
theorem MS.keep {s t : jM} {S : List Nat} (h : MS s S) (h11 : gI t 53 11 = gI s 53 11) (h59 : ∀ i, gI t 59 i = gI s 59 i) : MS t S := ⟨by rw [h11]; exact h.1, h.2.1, fun i c hc => by rw [h59]; exact h.2.2 i c hc⟩
theorem MS.top {s : jM} {c : Nat} {S : List Nat} (h : MS s (c :: S)) : gI s 59 S.length = nI c ∧ okc c := by
  have := h.2.2 0 c rfl
  simpa using this
theorem MS.pop {s : jM} {c : Nat} {S : List Nat} (h : MS s (c :: S)) : MS (pI s 53 11 (nI S.length)) S := by
  refine ⟨gI_pI_eq, by have := h.2.1; simp at this; omega, fun i x hx => ?_⟩
  rw [gI_pI_ne (by decide)]
  have hx2 : (c :: S)[i + 1]? = some x := hx
  have := h.2.2 (i + 1) x hx2
  have hi := (List.getElem?_eq_some_iff.mp hx).1
  have e : S.length - 1 - i = (c :: S).length - 1 - (i + 1) := by simp; omega
  rw [e]
  exact this
theorem MS.push {s : jM} {c : Nat} {S : List Nat} (h : MS s S) (hc : okc c) (hl : S.length < 60) : MS (pI (pI s 59 S.length (nI c)) 53 11 (nI (S.length + 1))) (c :: S) := by
  refine ⟨gI_pI_eq, hl, fun i x hx => ?_⟩
  rw [gI_pI_ne (by decide), gI_pI_cell]
  cases i with
  | zero =>
    simp at hx ⊢
    subst hx
    exact ⟨rfl, hc⟩
  | succ i =>
    have hx2 : S[i]? = some x := by simpa using hx
    have hi := (List.getElem?_eq_some_iff.mp hx2).1
    have := h.2.2 i x hx2
    have e : (c :: S).length - 1 - (i + 1) = S.length - 1 - i := by simp; omega
    rw [e, if_neg (by omega)]
    exact this
theorem MV.pop {s : jM} {v : Int64} {V : List Int64} (h : MV s (v :: V)) : MV (pI s 53 9 (nI V.length)) V := by
  refine ⟨gI_pI_eq, by have := h.2.1; simp at this; omega, fun i x hx => ?_⟩
  rw [gL_pI]
  have hx2 : (v :: V)[i + 1]? = some x := hx
  have := h.2.2 (i + 1) x hx2
  have hi := (List.getElem?_eq_some_iff.mp hx).1
  have e : V.length - 1 - i = (v :: V).length - 1 - (i + 1) := by simp; omega
  rw [e]
  exact this
theorem MV.top {s : jM} {v : Int64} {V : List Int64} (h : MV s (v :: V)) : gL s 58 V.length = v := by
  have := h.2.2 0 v rfl
  simpa using this
theorem MV.push {s : jM} {v : Int64} {V : List Int64} (h : MV s V) (hl : V.length < 60) : MV (pI (pL s 58 V.length v) 53 9 (nI (V.length + 1))) (v :: V) := by
  refine ⟨gI_pI_eq, hl, fun i x hx => ?_⟩
  rw [gL_pI, gL_pL_cell]
  cases i with
  | zero => simp at hx ⊢; exact hx
  | succ i =>
    have hx2 : V[i]? = some x := by simpa using hx
    have hi := (List.getElem?_eq_some_iff.mp hx2).1
    have := h.2.2 i x hx2
    have e : (v :: V).length - 1 - (i + 1) = V.length - 1 - i := by simp; omega
    rw [e, if_neg (by omega)]
    exact this
/-- the top value is replaced -/
theorem MV.set {s : jM} {v w : Int64} {V : List Int64} (h : MV s (v :: V)) : MV (pL s 58 V.length w) (w :: V) := by
  refine ⟨h.1, h.2.1, fun i x hx => ?_⟩
  rw [gL_pL_cell]
  cases i with
  | zero => simp at hx ⊢; exact hx
  | succ i =>
    have hx2 : V[i]? = some x := by simpa using hx
    have hi := (List.getElem?_eq_some_iff.mp hx2).1
    have := h.2.2 (i + 1) x hx2
    have e : (w :: V).length - 1 - (i + 1) = (v :: V).length - 1 - (i + 1) := rfl
    rw [if_neg (by simp; omega), e]
    exact this
theorem workOut_ok {s : jM} {a b : Int64} {V : List Int64} {c : Nat} {S : List Nat} (hV : MV s (b :: a :: V)) (hS : MS s (c :: S)) (hc : c < 128) :
    ∃ s', f_X8_workOut s = some s' ∧ MV s' (wk c a b :: V) ∧ MS s' S ∧ FrR s s' ∧ gI s' 53 6 = gI s 53 6 ∧ gI s' 53 7 = gI s 53 7 := by
  have hl := hV.2.1
  have hl2 := hS.2.1
  simp only [List.length_cons] at hl hl2
  have e11 : gI s 53 11 = nI (S.length + 1) := hS.1
  have e9 : gI s 53 9 = nI (V.length + 1 + 1) := hV.1
  have hV2 : MV (pI (pI s 53 11 (nI S.length)) 53 9 (nI (V.length + 1))) (a :: V) := MV.pop (s := pI s 53 11 (nI S.length)) (hV.keep (t := pI s 53 11 (nI S.length)) (by rw [gI_pI_cell]; rfl) (fun i => rfl))
  have hS2 : MS (pI (pI s 53 11 (nI S.length)) 53 9 (nI (V.length + 1))) S := hS.pop.keep (by rw [gI_pI_cell]; rfl) (fun i => by rw [gI_pI_ne (by decide)])
  have hb : gL (pI (pI s 53 11 (nI S.length)) 53 9 (nI (V.length + 1))) 58 (V.length + 1) = b := hV.top
  have ha : gL (pI (pI s 53 11 (nI S.length)) 53 9 (nI (V.length + 1))) 58 V.length = a := hV2.top
  have hcc : gI (pI (pI s 53 11 (nI S.length)) 53 9 (nI (V.length + 1))) 59 S.length = nI c := by rw [gI_pI_ne (by decide), gI_pI_ne (by decide)]; exact hS.top.1
  have q9 : gI (pI (pI s 53 11 (nI S.length)) 53 9 (nI (V.length + 1))) 53 9 = nI (V.length + 1) := gI_pI_eq
  have q11 : gI (pI (pI s 53 11 (nI S.length)) 53 9 (nI (V.length + 1))) 53 11 = nI S.length := by rw [gI_pI_cell, gI_pI_eq]; rfl
  have fr0 : FrR s (pI (pI s 53 11 (nI S.length)) 53 9 (nI (V.length + 1))) := (FrR.rf.pI53 (by omega)).pI53 (by omega)
  refine ⟨pL (pI (pI s 53 11 (nI S.length)) 53 9 (nI (V.length + 1))) 58 V.length (wk c a b), ?_, hV2.set, hS2.keep rfl (fun i => rfl), fr0.pL58, by rw [gI_pL, gI_pI_cell, gI_pI_cell]; rfl, by rw [gI_pL, gI_pI_cell, gI_pI_cell]; rfl⟩
  simp only [f_X8_workOut, jn_, lt_]
  rw [e11, nI_pred, show gI (pI s 53 11 (nI S.length)) 53 9 = nI (V.length + 1 + 1) from by rw [gI_pI_cell]; exact e9, nI_pred, q9, nI_pred, q11]
  generalize pI (pI s 53 11 (nI S.length)) 53 9 (nI (V.length + 1)) = t at *
  rw [ib_nI (by omega), gd_dec (by omega), ib_nI (by omega), gd_dec (by omega), ib_nI (by omega), gd_dec (by omega), nI_clamp (by omega), nI_clamp (by omega), nI_clamp (by omega), ha, hb, hcc]
  have fin : ∀ z, gd (ib (nI V.length) 64) (some (pL t 58 V.length z)) = some (pL t 58 V.length z) := fun z => by rw [ib_nI (by omega), gd_dec (by omega)]
  simp only [ib_nI (show V.length < 2 ^ 31 by omega), gd_dec (show V.length < 64 by omega)]
  unfold wk
  by_cases h1 : c = 38
  · subst h1
    rw [if_pos (by decide)]
    by_cases hv : a = 0 <;> by_cases hw : b = 0 <;> simp [hv, hw]
  rw [if_neg (fun z => h1 ((eq_c (by omega) (by omega)).mp z))]
  by_cases h2 : c = 42
  · subst h2; rfl
  rw [if_neg (fun z => h2 ((eq_c (by omega) (by omega)).mp z))]
  by_cases h3 : c = 43
  · subst h3; rfl
  rw [if_neg (fun z => h3 ((eq_c (by omega) (by omega)).mp z))]
  by_cases h4 : c = 45
  · subst h4; rfl
  rw [if_neg (fun z => h4 ((eq_c (by omega) (by omega)).mp z))]
  by_cases h5 : c = 60
  · subst h5
    rw [if_pos (by decide)]
    by_cases hv : a < b
    · rw [if_neg (Int64.not_le.mpr hv)]; simp [hv]
    · rw [if_pos (Int64.not_lt.mp hv)]; simp [hv]
  rw [if_neg (fun z => h5 ((eq_c (by omega) (by omega)).mp z))]
  by_cases h6 : c = 61
  · subst h6
    rw [if_pos (by decide)]
    by_cases hv : a = b <;> simp [hv]
  rw [if_neg (fun z => h6 ((eq_c (by omega) (by omega)).mp z))]
  by_cases h7 : c = 62
  · subst h7
    rw [if_pos (by decide)]
    by_cases hv : b < a
    · rw [if_neg (Int64.not_le.mpr hv)]; simp [hv]
    · rw [if_pos (Int64.not_lt.mp hv)]; simp [hv]
  rw [if_neg (fun z => h7 ((eq_c (by omega) (by omega)).mp z))]
  by_cases h8 : c = 124
  · subst h8
    rw [if_pos (by decide)]
    by_cases hv : a = 0 <;> by_cases hw : b = 0 <;> simp [hv, hw]
  rw [if_neg (fun z => h8 ((eq_c (by omega) (by omega)).mp z)), if_neg h8, if_neg h1, if_neg h5, if_neg h7, if_neg h6, if_neg h3, if_neg h4, if_neg h2]
  by_cases hw : b = 0
  · rw [if_pos hw, if_pos hw]
  · rw [if_neg hw, if_neg hw, gd_dec hw]
/-- how many signs of two sides -/
def nbS : List Nat → Nat
  | [] => 0
  | c :: S => (if c < 1000 then 1 else 0) + nbS S
theorem workDown_ok {N r : Nat} (hr : r ≤ 5) : ∀ (S : List Nat) (V : List Int64) (s : jM) (q : Nat), MV s V → MS s S → V.length = nbS S + 1 → S.length < q →
    ∃ s', lp_X8_workDown_0 N (nI r) q s = some s' ∧ MV s' (wd r S V).1 ∧ MS s' (wd r S V).2 ∧ FrR s s' ∧ gI s' 53 6 = gI s 53 6 ∧ gI s' 53 7 = gI s 53 7 ∧ (wd r S V).1.length = nbS (wd r S V).2 + 1 := by
  intro S
  induction S with
  | nil =>
    intro V s q hV hS hl hq
    obtain ⟨q, rfl⟩ : ∃ r, q = r + 1 := ⟨q - 1, by omega⟩
    refine ⟨s, ?_, hV, hS, FrR.rf, rfl, rfl, hl⟩
    rw [lp_X8_workDown_0, hS.1, if_pos (by decide)]
  | cons c S ih =>
    intro V s q hV hS hl hq
    obtain ⟨q, rfl⟩ : ∃ r, q = r + 1 := ⟨q - 1, by omega⟩
    have hl2 := hS.2.1
    simp only [List.length_cons] at hl2 hq
    have e11 : gI s 53 11 = nI (S.length + 1) := hS.1
    obtain ⟨htop, hok⟩ := hS.top
    have hc2 : c < 2000 := by rcases hok with h | h <;> omega
    have hrk5 := rk_le c
    rw [lp_X8_workDown_0, e11, if_neg (nI_nle (by omega) (by omega)), nI_pred, ib_nI (by omega), gd_dec (by omega), nI_clamp (by omega), htop]
    by_cases hlt : c < 1000
    · have hc128 : c < 128 := by rcases hok with h | h <;> omega
      rw [if_neg (by rw [c_le (by omega) (by omega)]; omega), gd_dec (by omega), rank_ok hc2, Option.bind_some]
      by_cases hrr : r ≤ rk c
      · rw [if_neg (by rw [nI_ltI (by omega) (by omega)]; omega)]
        have hn : nbS (c :: S) = 1 + nbS S := by show (if c < 1000 then 1 else 0) + nbS S = _; rw [if_pos hlt]
        match V, hV, hl with
        | b :: a :: V, hV, hl =>
          obtain ⟨s1, u1, u2, u3, u4, u5, u6⟩ := workOut_ok hV hS hc128
          obtain ⟨s2, w1, w2, w3, w4, w5, w6, w7⟩ := ih (wk c a b :: V) s1 q u2 u3 (by simp only [List.length_cons] at hl ⊢; omega) (by omega)
          have e : wd r (c :: S) (b :: a :: V) = wd r S (wk c a b :: V) := if_pos ⟨hlt, hrr⟩
          rw [e]
          exact ⟨s2, by rw [u1, Option.bind_some]; exact w1, w2, w3, u4.tr w4, w5.trans u5, w6.trans u6, w7⟩
        | [b], hV, hl => simp only [List.length_cons, List.length_nil] at hl; omega
        | [], hV, hl => simp only [List.length_nil] at hl; omega
      · rw [if_pos (by rw [nI_ltI (by omega) (by omega)]; omega)]
        have e : wd r (c :: S) V = (V, c :: S) := if_neg (fun z => hrr z.2)
        rw [e]
        exact ⟨s, rfl, hV, hS, FrR.rf, rfl, rfl, hl⟩
    · rw [if_pos (by rw [c_le (by omega) (by omega)]; omega)]
      have e : wd r (c :: S) V = (V, c :: S) := if_neg (fun z => hlt z.1)
      rw [e]
      exact ⟨s, rfl, hV, hS, FrR.rf, rfl, rfl, hl⟩
