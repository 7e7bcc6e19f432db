/-! the vow as a text: T its characters, n how many; the class's scanner -/
def VT (T : Nat → Nat) (n : Nat) (s : jM) : Prop := n ≤ 40 ∧ (∀ i, T i < 128) ∧ gI s 1 8 = nI n ∧ ∀ i, i < n → gI s 6 i = nI (T i)
theorem VT.fr {T : Nat → Nat} {n : Nat} {s t : jM} {l : List Nat} (h : VT T n s) (hf : FrL l s t) (h1 : 1 ∉ l) (h6 : 6 ∉ l) : VT T n t :=
  ⟨h.1, h.2.1, by rw [fr_gI hf h1]; exact h.2.2.1, fun i hi => by rw [fr_gI hf h6]; exact h.2.2.2 i hi⟩
def sgn (T : Nat → Nat) (n p : Nat) : Int32 := if p < n then nI (T p) else -1
theorem sgn_in {T : Nat → Nat} {n p : Nat} (h : p < n) : sgn T n p = nI (T p) := if_pos h
theorem sgn_out {T : Nat → Nat} {n p : Nat} (h : ¬ p < n) : sgn T n p = -1 := if_neg h
theorem sgn_eq {T : Nat → Nat} {n p c : Nat} (hT : ∀ i, T i < 128) (hc : c < 128) : sgn T n p = nI c ↔ p < n ∧ T p = c := by
  have hTp := hT p
  by_cases h : p < n
  · rw [sgn_in h, nI_inj (by omega) (by omega)]
    exact ⟨fun e => ⟨h, e⟩, fun e => e.2⟩
  · rw [sgn_out h]
    exact ⟨fun e => absurd e (m1_ne_nI (by omega)), fun e => absurd e.1 h⟩
theorem sgn_c {T : Nat → Nat} {n p c : Nat} (hT : ∀ i, T i < 128) (hc : (OfNat.ofNat c : Nat) < 128) : sgn T n p = (no_index (OfNat.ofNat c) : Int32) ↔ p < n ∧ T p = (OfNat.ofNat c : Nat) := sgn_eq hT hc
theorem sgn_m1 {T : Nat → Nat} {n p : Nat} (hT : ∀ i, T i < 128) : sgn T n p = -1 ↔ ¬ p < n := by
  have hTp := hT p
  by_cases h : p < n
  · rw [sgn_in h]
    exact ⟨fun e => absurd e (nI_ne_m1 (by omega)), fun e => absurd h e⟩
  · rw [sgn_out h]
    exact ⟨fun _ => h, fun _ => rfl⟩
def nbk (T : Nat → Nat) (n : Nat) : Nat → Nat → Nat
  | 0, p => p
  | k + 1, p => if p < n ∧ T p = 32 then nbk T n k (p + 1) else p
def nb (T : Nat → Nat) (n p : Nat) : Nat := nbk T n (n - p) p
theorem nb_stop {T : Nat → Nat} {n p : Nat} (h : ¬ (p < n ∧ T p = 32)) : nb T n p = p := by
  unfold nb
  cases n - p with
  | zero => rfl
  | succ k => exact if_neg h
theorem nb_step {T : Nat → Nat} {n p : Nat} (h : p < n ∧ T p = 32) : nb T n p = nb T n (p + 1) := by
  unfold nb
  have e : n - p = (n - (p + 1)) + 1 := by omega
  rw [e]
  exact if_pos h
theorem nb_ge : ∀ {T : Nat → Nat} {n : Nat} (m p : Nat), n - p = m → p ≤ nb T n p := by
  intro T n m
  induction m with
  | zero => intro p h; rw [nb_stop (by omega)]; exact Nat.le_refl _
  | succ m ih =>
    intro p h
    by_cases hb : p < n ∧ T p = 32
    · rw [nb_step hb]
      have := ih (p + 1) (by omega)
      omega
    · rw [nb_stop hb]; exact Nat.le_refl _
theorem nb_le : ∀ {T : Nat → Nat} {n : Nat} (m p : Nat), n - p = m → p ≤ n → nb T n p ≤ n := by
  intro T n m
  induction m with
  | zero => intro p h hp; rw [nb_stop (by omega)]; exact hp
  | succ m ih =>
    intro p h hp
    by_cases hb : p < n ∧ T p = 32
    · rw [nb_step hb]
      exact ih (p + 1) (by omega) (by omega)
    · rw [nb_stop hb]; exact hp
theorem nb_nb : ∀ {T : Nat → Nat} {n : Nat} (m p : Nat), n - p = m → nb T n (nb T n p) = nb T n p := by
  intro T n m
  induction m with
  | zero => intro p h; rw [nb_stop (p := p) (by omega), nb_stop (by omega)]
  | succ m ih =>
    intro p h
    by_cases hb : p < n ∧ T p = 32
    · rw [nb_step hb]
      exact ih (p + 1) (by omega)
    · rw [nb_stop (p := p) hb, nb_stop hb]
theorem nb_ge' {T : Nat → Nat} {n p : Nat} : p ≤ nb T n p := nb_ge _ p rfl
theorem nb_le' {T : Nat → Nat} {n p : Nat} (h : p ≤ n) : nb T n p ≤ n := nb_le _ p rfl h
theorem nb_id {T : Nat → Nat} {n p : Nat} : nb T n (nb T n p) = nb T n p := nb_nb _ p rfl
/-- the reading's own cells: the place, the flaw, the code, whether m was named -/
def VP (s : jM) (p : Nat) (fl : Int32) (cd : List (Nat × Nat)) (nm : Int32) : Prop :=
  gI s 29 6 = nI p ∧ gI s 29 7 = fl ∧ gI s 29 3 = nI cd.length ∧ cd.length ≤ 40 ∧ (∀ i x, cd[i]? = some x → gI s 30 i = nI x.1 ∧ gI s 31 i = nI x.2) ∧ gI s 29 8 = nm
abbrev PF : List Nat := [29, 30, 31]
theorem signAt_ok {T : Nat → Nat} {n p : Nat} {s : jM} (h : VT T n s) (hp : p < 2 ^ 31) : f_X6_signAt (nI p) s = some (sgn T n p) := by
  obtain ⟨hn, hT, h1, h2⟩ := h
  have hTp := hT p
  simp only [f_X6_signAt, jn_]
  rw [if_neg (nI_pos hp), h1]
  by_cases hlt : p < n
  · rw [if_neg (by rw [nI_leI (by omega) hp]; omega), if_neg (by rw [c_le (by omega) hp]; omega), ib_nI hp, gd_dec (by omega), nI_clamp hp, gC_gI, h2 p hlt, vch (by omega), sgn_in hlt]
  · rw [if_pos (by rw [nI_leI (by omega) hp]; omega), sgn_out hlt]
theorem ns_loop {T : Nat → Nat} {n N : Nat} {k3 : jM → Option (Int32 × jM)} {cd : List (Nat × Nat)} {nm fl : Int32} : ∀ (m p : Nat) (s : jM) (q : Nat), n - p = m → p ≤ n → m < q → VT T n s → VP s p fl cd nm →
    ∃ s', lp_X6_nextSign_10 N k3 q s = k3 s' ∧ VP s' (nb T n p) fl cd nm ∧ FrL [29] s s' := by
  intro m
  induction m with
  | zero =>
    intro p s q hm hp hq hT hV
    obtain ⟨q, rfl⟩ : ∃ r, q = r + 1 := ⟨q - 1, by omega⟩
    have hn := hT.1
    refine ⟨s, ?_, by rw [nb_stop (by omega)]; exact hV, FrL.rf⟩
    rw [lp_X6_nextSign_10, hV.1]
    by_cases h40 : (40 : Int32) ≤ nI p
    · rw [if_pos h40]
    · rw [if_neg h40, signAt_ok hT (by omega), Option.bind_some, if_neg]
      rw [sgn_out (by omega)]
      decide
  | succ m ih =>
    intro p s q hm hp hq hT hV
    obtain ⟨q, rfl⟩ : ∃ r, q = r + 1 := ⟨q - 1, by omega⟩
    have hn := hT.1
    rw [lp_X6_nextSign_10, hV.1, if_neg (by rw [c_le (by omega) (by omega)]; omega), signAt_ok hT (by omega), Option.bind_some]
    by_cases hb : p < n ∧ T p = 32
    · rw [if_pos ((sgn_c hT.2.1 (by omega)).mpr hb)]
      have hf : FrL [29] s (pI s 29 6 (nI p + 1)) := fr_pI FrL.rf (by decide)
      obtain ⟨s', e1, e2, e3⟩ := ih (p + 1) (pI s 29 6 (nI p + 1)) q (by omega) (by omega) (by omega) (hT.fr hf (by decide) (by decide)) ⟨by rw [gI_pI_eq, nI_1], by rw [gI_pI_cell]; exact hV.2.1, by rw [gI_pI_cell]; exact hV.2.2.1, hV.2.2.2.1, fun i x hx => by
        rw [gI_pI_ne (by decide), gI_pI_ne (by decide)]; exact hV.2.2.2.2.1 i x hx, by rw [gI_pI_cell]; exact hV.2.2.2.2.2⟩
      exact ⟨s', e1, by rw [nb_step hb]; exact e2, fr_tr hf e3⟩
    · rw [if_neg (fun h => hb ((sgn_c hT.2.1 (by omega)).mp h))]
      exact ⟨s, rfl, by rw [nb_stop hb]; exact hV, FrL.rf⟩
theorem nextSign_ok {T : Nat → Nat} {n N p : Nat} {cd : List (Nat × Nat)} {nm : Int32} {s : jM} (hN : 40 < N) (hp : p ≤ n) (hT : VT T n s) (hV : VP s p (-1) cd nm) : ∃ s', f_X6_nextSign N s = some (sgn T n (nb T n p), s') ∧ VP s' (nb T n p) (-1) cd nm ∧ FrL [29] s s' := by
  have hn := hT.1
  simp only [f_X6_nextSign, jn_]
  rw [hV.2.1, if_pos rfl]
  obtain ⟨s', e1, e2, e3⟩ := ns_loop (N := N) (k3 := fun s2 => Option.bind (f_X6_signAt (gI s2 29 6) s2) fun r4 => some (r4, s2)) _ p s N rfl hp (by omega) hT hV
  refine ⟨s', ?_, e2, e3⟩
  have hle := nb_le' (T := T) hp
  rw [e1, e2.1, signAt_ok (hT.fr e3 (by decide) (by decide)) (by omega)]
  rfl
theorem nextSign_no {N : Nat} {s : jM} (hf : ¬ gI s 29 7 = -1) : f_X6_nextSign N s = some (-1, s) := by
  simp only [f_X6_nextSign, jn_]
  rw [if_neg hf]
/-! indexOf of the claim's texts -/
def ixF (x : Int32) : List Int32 → Nat → Option Nat
  | [], _ => none
  | b :: l, k => if b = x then some k else ixF x l (k + 1)
theorem ix_loop {N w : Nat} {x : Int32} {k3 : Int32 → Option Int32} (hw : w < 8) : ∀ (l : List Int32) (k q : Nat), (byS.getD w []).drop k = l → k ≤ leS.getD w 0 → l.length < q →
    lp_J1_indexOfChar_4cfef_7 N w (nI (leS.getD w 0)) x k3 q (nI k) = (match ixF x l k with | some j => k3 (nI j) | none => some (-1)) := by
  have hle : leS.getD w 0 = (byS.getD w []).length ∧ leS.getD w 0 ≤ 5 := (by decide : ∀ w, w < 8 → leS.getD w 0 = (byS.getD w []).length ∧ leS.getD w 0 ≤ 5) w hw
  intro l
  induction l with
  | nil =>
    intro k q hd hk hq
    obtain ⟨q, rfl⟩ : ∃ r, q = r + 1 := ⟨q - 1, by omega⟩
    have := List.drop_eq_nil_iff.mp hd
    rw [lp_J1_indexOfChar_4cfef_7, if_pos (by rw [nI_leI (by omega) (by omega)]; omega)]
    rfl
  | cons b l ih =>
    intro k q hd hk hq
    obtain ⟨q, rfl⟩ : ∃ r, q = r + 1 := ⟨q - 1, by omega⟩
    have hlt : k < (byS.getD w []).length := by
      rcases Nat.lt_or_ge k (byS.getD w []).length with h | h
      · exact h
      · rw [List.drop_eq_nil_iff.mpr h] at hd; cases hd
    have hb : (byS.getD w []).getD k 0 = b := by
      rw [List.getD_eq_getElem?_getD]
      have := congrArg (fun l => l[0]?) hd
      simp only [List.getElem?_drop, Nat.add_zero, List.getElem?_cons_zero] at this
      rw [this]; rfl
    have hd2 : (byS.getD w []).drop (k + 1) = l := by
      have := congrArg (List.drop 1) hd
      simpa [List.drop_drop, Nat.add_comm] using this
    rw [lp_J1_indexOfChar_4cfef_7, if_neg (by rw [nI_leI (by omega) (by omega)]; omega), ib_nI (by omega), gd_dec (by omega), nI_clamp (by omega), hb]
    unfold ixF
    by_cases hx : b = x
    · rw [if_pos hx, if_pos hx]
    · rw [if_neg hx, if_neg hx]
      simp only [lt_]
      rw [nI_1, ih (k + 1) q hd2 (by omega) (by simp at hq; omega)]
def ixS (w : Nat) (c : Nat) : Int32 := match ixF (nI c) (byS.getD w []) 0 with
  | some j => nI j
  | none => -1
def chS : List (List Nat) := [[33, 45], [41], [112, 98, 117, 100, 108], [42, 47], [43, 45], [60, 62, 61], [38], [124]]
theorem ixS_mem : ∀ w, w < 8 → ∀ c, c < 128 → (0 ≤ ixS w c ↔ c ∈ chS.getD w []) := by decide +kernel
theorem i8_nI : ∀ c, c < 128 → (Int32.toInt8 (nI c)).toInt32 = nI c := by decide +kernel
theorem indexOf_ok {N w c : Nat} (hN : 40 < N) (hw : w < 8) (hc : c < 128) : f_J0_indexOf_0f7a4 N w (nI c) = some (ixS w c) := by
  have hle : leS.getD w 0 = (byS.getD w []).length ∧ leS.getD w 0 ≤ 5 ∧ 0 < leS.getD w 0 := (by decide : ∀ w, w < 8 → leS.getD w 0 = (byS.getD w []).length ∧ leS.getD w 0 ≤ 5 ∧ 0 < leS.getD w 0) w hw
  have hcoder : f_J0_length_8abf5 w = some (nI (leS.getD w 0)) := by
    unfold f_J0_length_8abf5 f_J0_coder_7d493
    rw [if_neg (by decide), Option.bind_some]
    exact congrArg some (sc_shr0 (by omega))
  simp only [f_J0_indexOf_0f7a4, f_J0_indexOf_7cf53, f_J0_isLatin1_aae02, jn_]
  rw [if_pos trivial, if_neg (by decide), Option.bind_some, if_neg (by decide), hcoder]
  simp only [Option.bind_some]
  simp only [f_J1_indexOf_4cfef, f_J1_canEncode_9a6ad, jn_]
  rw [if_neg (nI_pos (by omega)), if_neg (by rw [c_lt (by omega) (by omega)]; omega), Option.bind_some, if_neg (by decide)]
  simp only [lt_]
  have e1 : (if (0 : Int32) < (0 : Int32) then (0 : Int32) else 0) = nI 0 := by rw [if_neg (by decide)]; rfl
  have e2 : (if Int32.ofNat (leS.getD w 0) < nI (leS.getD w 0) then Int32.ofNat (leS.getD w 0) else nI (leS.getD w 0)) = nI (leS.getD w 0) := by split <;> rfl
  rw [e1, e2, if_pos (by rw [nI_ltI (by omega) (by omega)]; omega)]
  simp only [f_J1_indexOfChar_4cfef, jn_, lt_]
  rw [i8_nI c hc, ix_loop hw (byS.getD w []) 0 N (by simp) (by omega) (by omega)]
  unfold ixS
  cases ixF (nI c) (byS.getD w []) 0 <;> rfl
/-! take, setFlaw, addSign, isDigit -/
theorem take_no {N w : Nat} {s : jM} (hf : ¬ gI s 29 7 = -1) : f_X6_take N w s = some (-1, s) := by
  simp only [f_X6_take, lt_, nextSign_no hf, Option.bind_some]
  rfl
/-- take at a place: a character of the text w is taken -/
theorem take_yes {T : Nat → Nat} {n N p w : Nat} {cd : List (Nat × Nat)} {nm : Int32} {s : jM} (hN : 40 < N) (hw : w < 8) (hp : p ≤ n) (hT : VT T n s) (hV : VP s p (-1) cd nm) (h1 : nb T n p < n) (h2 : T (nb T n p) ∈ chS.getD w []) :
    ∃ s', f_X6_take N w s = some (nI (T (nb T n p)), s') ∧ VP s' (nb T n p + 1) (-1) cd nm ∧ FrL [29] s s' := by
  obtain ⟨s1, e1, e2, e3⟩ := nextSign_ok hN hp hT hV
  have hc := hT.2.1 (nb T n p)
  have hn := hT.1
  refine ⟨pI s1 29 6 (gI s1 29 6 + 1), ?_, ?_, fr_pI e3 (by decide)⟩
  · simp only [f_X6_take, lt_, e1, Option.bind_some, sgn_in h1]
    rw [if_neg (nI_ne_m1 (by omega)), i2c_nI (by omega), indexOf_ok hN hw hc, Option.bind_some, if_pos ((ixS_mem w hw _ hc).mpr h2)]
  · exact ⟨by rw [gI_pI_eq, e2.1, nI_1], by rw [gI_pI_cell]; exact e2.2.1, by rw [gI_pI_cell]; exact e2.2.2.1, e2.2.2.2.1, fun i x hx => by
      rw [gI_pI_ne (by decide), gI_pI_ne (by decide)]; exact e2.2.2.2.2.1 i x hx, by rw [gI_pI_cell]; exact e2.2.2.2.2.2⟩
theorem take_not {T : Nat → Nat} {n N p w : Nat} {cd : List (Nat × Nat)} {nm : Int32} {s : jM} (hN : 40 < N) (hw : w < 8) (hp : p ≤ n) (hT : VT T n s) (hV : VP s p (-1) cd nm) (h : ¬ (nb T n p < n ∧ T (nb T n p) ∈ chS.getD w [])) :
    ∃ s', f_X6_take N w s = some (-1, s') ∧ VP s' (nb T n p) (-1) cd nm ∧ FrL [29] s s' := by
  obtain ⟨s1, e1, e2, e3⟩ := nextSign_ok hN hp hT hV
  have hc := hT.2.1 (nb T n p)
  refine ⟨s1, ?_, e2, e3⟩
  simp only [f_X6_take, lt_, e1, Option.bind_some]
  by_cases h1 : nb T n p < n
  · rw [sgn_in h1, if_neg (nI_ne_m1 (by omega)), i2c_nI (by omega), indexOf_ok hN hw hc, Option.bind_some, if_neg (fun q => h ⟨h1, (ixS_mem w hw _ hc).mp q⟩)]
  · rw [sgn_out h1, if_pos rfl]
theorem setFlaw_ok {p a k : Nat} {cd : List (Nat × Nat)} {nm : Int32} {s : jM} (hV : VP s p (-1) cd nm) : ∃ s', f_X6_setFlaw (nI a) (nI k) s = some s' ∧ VP s' p (nI (10 * a + k)) cd nm ∧ FrL [29] s s' := by
  refine ⟨pI s 29 7 (nI (10 * a + k)), ?_, ?_, fr_pI FrL.rf (by decide)⟩
  · simp only [f_X6_setFlaw, lt_]
    rw [hV.2.1, if_pos rfl, lit_nI, pk_mul, nI_add]
  · exact ⟨by rw [gI_pI_cell]; exact hV.1, by rw [gI_pI_eq], by rw [gI_pI_cell]; exact hV.2.2.1, hV.2.2.2.1, fun i x hx => by
      rw [gI_pI_ne (by decide), gI_pI_ne (by decide)]; exact hV.2.2.2.2.1 i x hx, by rw [gI_pI_cell]; exact hV.2.2.2.2.2⟩
theorem setFlaw_no {a k : Int32} {s : jM} (hf : ¬ gI s 29 7 = -1) : f_X6_setFlaw a k s = some s := by
  simp only [f_X6_setFlaw, lt_]
  rw [if_neg hf]
theorem addSign_ok {p c v : Nat} {cd : List (Nat × Nat)} {nm fl : Int32} {s : jM} (hl : cd.length < 40) (hV : VP s p fl cd nm) : ∃ s', f_X6_addSign (nI c) (nI v) s = some s' ∧ VP s' p fl (cd ++ [(c, v)]) nm ∧ FrL PF s s' := by
  have hb : ib (nI cd.length) 40 = true := by rw [ib_nI (by omega)]; exact decide_eq_true hl
  refine ⟨pI (pI (pI s 30 cd.length (nI c)) 31 cd.length (nI v)) 29 3 (nI cd.length + 1), ?_, ?_, fr_pI (fr_pI (fr_pI FrL.rf (by decide)) (by decide)) (by decide)⟩
  · simp only [f_X6_addSign, lt_]
    have e3 : gI (pI s 30 (Int32.toNatClampNeg (gI s 29 3)) (nI c)) 29 3 = nI cd.length := by rw [gI_pI_ne (by decide)]; exact hV.2.2.1
    rw [if_neg (by rw [hV.2.2.1, c_le (by omega) (by omega)]; omega), e3, hV.2.2.1, gd_t hb, gd_t hb, nI_clamp (by omega)]
    rw [gI_pI_ne (by decide), gI_pI_ne (by decide), hV.2.2.1]
  · refine ⟨by rw [gI_pI_cell, gI_pI_ne (by decide), gI_pI_ne (by decide)]; exact hV.1, by rw [gI_pI_cell, gI_pI_ne (by decide), gI_pI_ne (by decide)]; exact hV.2.1, by rw [gI_pI_eq, nI_1, List.length_append]; rfl, by rw [List.length_append]; exact hl, fun i x hx => ?_, by rw [gI_pI_cell, gI_pI_ne (by decide), gI_pI_ne (by decide)]; exact hV.2.2.2.2.2⟩
    rw [gI_pI_ne (by decide), gI_pI_ne (by decide), gI_pI_cell, gI_pI_ne (by decide), gI_pI_cell]
    by_cases hi : i = cd.length
    · subst hi
      rw [List.getElem?_concat_length] at hx
      cases hx
      rw [if_pos rfl, if_pos rfl]
      exact ⟨rfl, rfl⟩
    · rw [if_neg hi, if_neg hi]
      have hlt : i < cd.length := by
        have := (List.getElem?_eq_some_iff.mp hx).1
        rw [List.length_append] at this
        simp at this
        omega
      rw [List.getElem?_append_left hlt] at hx
      exact hV.2.2.2.2.1 i x hx
/-- where a flaw stands -/
def VE (s : jM) (fl : Int32) : Prop := gI s 29 7 = fl ∧ ¬ fl = -1 ∧ ∃ k, k ≤ 40 ∧ gI s 29 3 = nI k
theorem VE.no {s : jM} {fl : Int32} (h : VE s fl) : ¬ gI s 29 7 = -1 := by rw [h.1]; exact h.2.1
theorem VP.e {s : jM} {p : Nat} {fl : Int32} {cd : List (Nat × Nat)} {nm : Int32} (h : VP s p fl cd nm) (hf : ¬ fl = -1) : VE s fl := ⟨h.2.1, hf, cd.length, h.2.2.2.1, h.2.2.1⟩
/-- a sign more there: the flaw stays -/
theorem addSign_any {c v fl : Int32} {s : jM} (hV : VE s fl) : ∃ s', f_X6_addSign c v s = some s' ∧ VE s' fl ∧ FrL PF s s' := by
  obtain ⟨h1, h2, k, hk, h3⟩ := hV
  by_cases hl : k < 40
  · have hb : ib (nI k) 40 = true := by rw [ib_nI (by omega)]; exact decide_eq_true hl
    refine ⟨pI (pI (pI s 30 k c) 31 k v) 29 3 (nI k + 1), ?_, ⟨by rw [gI_pI_cell, gI_pI_ne (by decide), gI_pI_ne (by decide)]; exact h1, h2, k + 1, hl, by rw [gI_pI_eq, nI_1]⟩, fr_pI (fr_pI (fr_pI FrL.rf (by decide)) (by decide)) (by decide)⟩
    simp only [f_X6_addSign, lt_]
    have e3 : gI (pI s 30 (Int32.toNatClampNeg (gI s 29 3)) c) 29 3 = nI k := by rw [gI_pI_ne (by decide)]; exact h3
    rw [if_neg (by rw [h3, c_le (by omega) (by omega)]; omega), e3, h3, gd_t hb, gd_t hb, nI_clamp (by omega)]
    rw [gI_pI_ne (by decide), gI_pI_ne (by decide), h3]
  · refine ⟨s, ?_, ⟨h1, h2, k, hk, h3⟩, FrL.rf⟩
    simp only [f_X6_addSign, lt_]
    rw [if_pos (by rw [h3, c_le (by omega) (by omega)]; omega)]
def isD (c : Nat) : Bool := decide (48 ≤ c) && decide (c ≤ 57)
theorem isDigit_ok {T : Nat → Nat} {n p : Nat} (hT : ∀ i, T i < 128) : f_X6_isDigit (sgn T n p) = some (if p < n ∧ isD (T p) = true then 1 else 0) := by
  have hTp := hT p
  simp only [f_X6_isDigit, jn_]
  by_cases h : p < n
  · rw [sgn_in h]
    by_cases h1 : T p < 48
    · rw [if_pos (by rw [lt_c (by omega) (by omega)]; exact h1), if_neg]
      simp [isD]; omega
    · rw [if_neg (by rw [lt_c (by omega) (by omega)]; exact h1)]
      by_cases h2 : 57 < T p
      · rw [if_pos (by rw [c_lt (by omega) (by omega)]; exact h2), if_neg]
        simp [isD]; omega
      · rw [if_neg (by rw [c_lt (by omega) (by omega)]; exact h2), if_pos]
        simp [isD]; omega
  · rw [sgn_out h, if_pos (by decide), if_neg (fun q => h q.1)]
