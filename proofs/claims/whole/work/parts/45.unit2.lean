/-! a unit: what stands ahead of it -/
def pc (c : Nat) : List Nat := if c = 33 then [1001] else if c = 45 then [1002] else []
def ac (c : Nat) : List (Nat × Nat) := if c = 33 then [(33, 0)] else if c = 45 then [(126, 0)] else []
def pst (T : Nat → Nat) (p : Nat) : Nat → List Nat
  | 0 => []
  | k + 1 => pc (T (p + k)) ++ pst T p k
def asg (T : Nat → Nat) (p : Nat) : Nat → List (Nat × Nat)
  | 0 => []
  | k + 1 => ac (T (p + k)) ++ asg T p k
def ap : List Nat → Int64 → Int64
  | [], v => v
  | c :: l, v => ap l (s1 c v)
theorem pst_add {T : Nat → Nat} {p a : Nat} : ∀ b, pst T p (a + b) = pst T (p + a) b ++ pst T p a := by
  intro b
  induction b with
  | zero => rfl
  | succ b ih =>
    show pc (T (p + (a + b))) ++ pst T p (a + b) = (pc (T (p + a + b)) ++ pst T (p + a) b) ++ pst T p a
    rw [ih, List.append_assoc, Nat.add_assoc]
theorem pst_blank : ∀ {T : Nat → Nat} {n : Nat} (m p : Nat), n - p = m → pst T p (nb T n p - p) = [] := by
  intro T n m
  induction m with
  | zero => intro p h; rw [nb_stop (by omega), Nat.sub_self]; rfl
  | succ m ih =>
    intro p h
    by_cases hb : p < n ∧ T p = 32
    · rw [nb_step hb]
      have h1 := nb_ge' (T := T) (n := n) (p := p + 1)
      have e : nb T n (p + 1) - p = 1 + (nb T n (p + 1) - (p + 1)) := by omega
      rw [e, pst_add, ih (p + 1) (by omega)]
      show [] ++ (pc (T (p + 0)) ++ []) = []
      rw [Nat.add_zero, hb.2]
      rfl
    · rw [nb_stop hb, Nat.sub_self]; rfl
theorem pc_gt : ∀ c x, x ∈ pc c → 1000 < x := by
  intro c x h
  unfold pc at h
  split at h
  · simp at h; omega
  · split at h
    · simp at h; omega
    · simp at h
theorem pst_gt {T : Nat → Nat} {p : Nat} : ∀ k x, x ∈ pst T p k → 1000 < x := by
  intro k
  induction k with
  | zero => intro x h; cases h
  | succ k ih =>
    intro x h
    rcases List.mem_append.mp h with h | h
    · exact pc_gt _ x h
    · exact ih x h
theorem sd_app {S : List Nat} : ∀ (l : List Nat) (v : Int64), (∀ x ∈ l, 1000 < x) → sd (l ++ S) v = sd S (ap l v) := by
  intro l
  induction l with
  | nil => intro v _; rfl
  | cons c l ih =>
    intro v h
    show (if 1000 < c then sd (l ++ S) (s1 c v) else (v, c :: (l ++ S))) = _
    rw [if_pos (h c List.mem_cons_self)]
    exact ih _ (fun x hx => h x (List.mem_cons_of_mem _ hx))
theorem ap_app : ∀ (l m : List Nat) (v : Int64), ap (l ++ m) v = ap m (ap l v) := by
  intro l
  induction l with
  | nil => intro m v; rfl
  | cons c l ih => intro m v; exact ih m _
theorem ev_ac {lt : Nat → Int64} {c : Nat} {v : Int64} {st : List Int64} : evc lt (ac c) (v :: st) = ap (pc c) v :: st := by
  unfold ac pc
  split
  · rfl
  · split <;> rfl
theorem ev_asg {lt : Nat → Int64} {T : Nat → Nat} {p : Nat} {st : List Int64} : ∀ (k : Nat) (v : Int64), evc lt (asg T p k) (v :: st) = ap (pst T p k) v :: st := by
  intro k
  induction k with
  | zero => intro v; rfl
  | succ k ih =>
    intro v
    show evc lt (ac (T (p + k)) ++ asg T p k) (v :: st) = ap (pc (T (p + k)) ++ pst T p k) v :: st
    rw [evc_app, ev_ac, ih, ap_app]
theorem ac_len (c : Nat) : (ac c).length ≤ 1 := by unfold ac; split <;> (try split) <;> simp
theorem asg_len {T : Nat → Nat} {p : Nat} : ∀ k, (asg T p k).length ≤ k := by
  intro k
  induction k with
  | zero => exact Nat.le_refl _
  | succ k ih =>
    show (ac (T (p + k)) ++ asg T p k).length ≤ _
    have := ac_len (T (p + k))
    rw [List.length_append]
    omega
theorem cdp_asg {T : Nat → Nat} {p : Nat} {nm : Int32} : ∀ k, cdp (asg T p k) nm := by
  intro k
  induction k with
  | zero => exact cdp_nil
  | succ k ih =>
    show cdp (ac (T (p + k)) ++ asg T p k) nm
    refine cdp_app (nm := nm) ?_ ih (Or.inl rfl)
    unfold ac
    split
    · exact cdp_one (by omega) (by omega) (fun h => by omega)
    · split
      · exact cdp_one (by omega) (by omega) (fun h => by omega)
      · exact cdp_nil
/-- the signs ahead of a unit are passed -/
theorem pf_loop {T : Nat → Nat} {n N : Nat} {rv : Int32 → jM → Option jM} {k5 : jM → Option jM} {cd : List (Nat × Nat)} {nm : Int32} (hN : 40 < N) : ∀ (m p c j : Nat) (s : jM) (q : Nat), n - p = m → c < 128 → VT T n s → VP s p (-1) cd nm → p ≤ n → m + 1 < q → j + (n - p) ≤ 39 →
    ∃ (p' : Nat) (s' : jM), lp_X6_readUnit_15 N rv k5 q (nI c) (nI j) s = k5 s' ∧ VP s' p' (-1) cd nm ∧ FrL [29] s s' ∧ p ≤ p' ∧ p' ≤ n ∧ nb T n p' = p' ∧ ¬ (p' < n ∧ (T p' = 33 ∨ T p' = 45)) ∧ ∀ (lt : Nat → Int64) (V : List Int64) (S : List Nat) (o : Nat), Rch lt T n (true, nb T n p, V, S, o) (true, p', V, pst T p (p' - p) ++ S, o) := by
  intro m
  induction m using Nat.strongRecOn with
  | ind m ih =>
    intro p c j s q hm hc hT hV hp hq hj
    obtain ⟨q, rfl⟩ : ∃ r, q = r + 1 := ⟨q - 1, by omega⟩
    have hn := hT.1
    have hpq := nb_ge' (T := T) (n := n) (p := p)
    have hle := nb_le' (T := T) hp
    rw [lp_X6_readUnit_15, if_neg (by rw [c_le (by omega) (by omega)]; omega), if_neg (nI_ne_m1 (by omega))]
    by_cases hy : nb T n p < n ∧ T (nb T n p) ∈ chS.getD 0 []
    · obtain ⟨s2, t1, t2, t3⟩ := take_yes hN (by omega : 0 < 8) hp hT hV hy.1 hy.2
      have hTq := hT.2.1 (nb T n p)
      obtain ⟨p', s', g1, g2, g3, g4, g5, g6, g7, g8⟩ := ih (n - (nb T n p + 1)) (by omega) (nb T n p + 1) (T (nb T n p)) (j + 1) s2 q rfl hTq (hT.fr t3 (by decide) (by decide)) t2 hy.1 (by omega) (by omega)
      refine ⟨p', s', ?_, g2, fr_tr t3 g3, by omega, g5, g6, g7, fun lt V S o => ?_⟩
      · rw [t1, Option.bind_some]
        simp only [lt_]
        rw [nI_1]
        exact g1
      · have h2 : T (nb T n p) = 33 ∨ T (nb T n p) = 45 := by simpa [chS] using hy.2
        have e : p' - p = (nb T n p + 1 - p) + (p' - (nb T n p + 1)) := by omega
        have e2 : pst T p (nb T n p + 1 - p) = pc (T (nb T n p)) := by
          have e3 : nb T n p + 1 - p = (nb T n p - p) + 1 := by omega
          rw [e3]
          show pc (T (p + (nb T n p - p))) ++ pst T p (nb T n p - p) = _
          rw [pst_blank _ p rfl, List.append_nil]
          congr 2
          omega
        rw [e, pst_add, e2, List.append_assoc]
        have e4 : p + (nb T n p + 1 - p) = nb T n p + 1 := by omega
        rw [e4]
        refine Rch.tr (Rch.st ?_) (g8 lt V (pc (T (nb T n p)) ++ S) o)
        show rstW lt T n (nb T n p) V S o = _
        unfold rstW
        rcases h2 with h2 | h2
        · rw [if_pos hy.1, h2, if_neg (by decide)]
          rfl
        · rw [if_pos hy.1, h2, if_neg (by decide)]
          rfl
    · obtain ⟨s2, t1, t2, t3⟩ := take_not hN (by omega : 0 < 8) hp hT hV hy
      obtain ⟨q, rfl⟩ : ∃ r, q = r + 1 := ⟨q - 1, by omega⟩
      refine ⟨nb T n p, s2, ?_, t2, t3, hpq, hle, nb_id, fun z => hy ⟨z.1, by rcases z.2 with z | z <;> rw [z] <;> decide⟩, fun lt V S o => ?_⟩
      · rw [t1, Option.bind_some]
        simp only [lt_]
        rw [lp_X6_readUnit_15]
        split
        · rfl
        · rw [if_pos rfl]
      · rw [pst_blank _ p rfl]
        exact Rch.rf
/-- the signs ahead of a unit are put behind it -/
theorem ug_loop {T : Nat → Nat} {n N p pp : Nat} {rv : Int32 → jM → Option jM} {nm : Int32} : ∀ (k : Nat) (cd : List (Nat × Nat)) (s : jM) (q : Nat), VT T n s → VP s pp (-1) cd nm → p + k ≤ n → k < q → cd.length + k ≤ 40 →
    ∃ s', lp_X6_readUnit_57 N rv (nI p) q (nI (p + k) - 1) s = some s' ∧ VP s' pp (-1) (cd ++ asg T p k) nm ∧ FrL PF s s' := by
  intro k
  induction k with
  | zero =>
    intro cd s q hT hV hp hq hl
    obtain ⟨q, rfl⟩ : ∃ r, q = r + 1 := ⟨q - 1, by omega⟩
    have hn := hT.1
    refine ⟨s, ?_, by rw [show asg T p 0 = [] from rfl, List.append_nil]; exact hV, FrL.rf⟩
    rw [lp_X6_readUnit_57, if_pos]
    rw [Int32.lt_iff_toInt_lt, Nat.add_zero, lit_nI 1, pk_sub_toInt (by omega) (by omega), nI_toInt (by omega)]
    omega
  | succ k ih =>
    intro cd s q hT hV hp hq hl
    obtain ⟨q, rfl⟩ : ∃ r, q = r + 1 := ⟨q - 1, by omega⟩
    have hn := hT.1
    have e1 : nI (p + (k + 1)) - 1 = nI (p + k) := by rw [lit_nI 1, pk_sub (by omega)]; rfl
    have e2 : nI (p + k) + (-1 : Int32) = nI (p + k) - 1 := by
      apply Int32.toBitVec_inj.mp
      simp [Int32.sub_eq_add_neg]
    have hch : gC s 6 (p + k) = nI (T (p + k)) := by rw [gC_gI, hT.2.2.2 _ (by omega), vch (by have := hT.2.1 (p + k); omega)]
    have hTk := hT.2.1 (p + k)
    rw [e1, lp_X6_readUnit_57, if_neg (by rw [nI_ltI (by omega) (by omega)]; omega), if_neg (nI_pos (by omega)), if_neg (by rw [c_le (by omega) (by omega)]; omega)]
    simp only [jn_, lt_]
    rw [ib_nI (by omega), gd_dec (by omega), nI_clamp (by omega), hch, e2]
    have hap : cd ++ asg T p (k + 1) = (cd ++ ac (T (p + k))) ++ asg T p k := by rw [List.append_assoc]; rfl
    by_cases h33 : T (p + k) = 33
    · rw [if_pos ((eq_c (by omega) (by omega)).mpr h33)]
      obtain ⟨s2, u1, u2, u3⟩ := addSign_ok (c := 33) (v := 0) (by omega) hV
      have u1' : f_X6_addSign (33 : Int32) (0 : Int32) s = some s2 := u1
      obtain ⟨s3, v1, v2, v3⟩ := ih (cd ++ [(33, 0)]) s2 q (hT.fr u3 (by decide) (by decide)) u2 (by omega) (by omega) (by simp; omega)
      refine ⟨s3, by rw [u1', Option.bind_some]; exact v1, ?_, fr_tr u3 v3⟩
      rw [hap, h33]
      exact v2
    · rw [if_neg (fun z => h33 ((eq_c (by omega) (by omega)).mp z)), gd_dec (by omega)]
      by_cases h45 : T (p + k) = 45
      · rw [if_pos ((eq_c (by omega) (by omega)).mpr h45)]
        obtain ⟨s2, u1, u2, u3⟩ := addSign_ok (c := 126) (v := 0) (by omega) hV
        have u1' : f_X6_addSign (126 : Int32) (0 : Int32) s = some s2 := u1
        obtain ⟨s3, v1, v2, v3⟩ := ih (cd ++ [(126, 0)]) s2 q (hT.fr u3 (by decide) (by decide)) u2 (by omega) (by omega) (by simp; omega)
        refine ⟨s3, by rw [u1', Option.bind_some]; exact v1, ?_, fr_tr u3 v3⟩
        rw [hap, h45]
        exact v2
      · rw [if_neg (fun z => h45 ((eq_c (by omega) (by omega)).mp z))]
        obtain ⟨s3, v1, v2, v3⟩ := ih cd s q hT hV (by omega) (by omega) (by omega)
        refine ⟨s3, v1, ?_, v3⟩
        rw [hap]
        unfold ac
        rw [if_neg h33, if_neg h45, List.append_nil]
        exact v2
theorem ug_any {T : Nat → Nat} {n N p : Nat} {rv : Int32 → jM → Option jM} {fl : Int32} : ∀ (k : Nat) (s : jM) (q : Nat), VT T n s → VE s fl → p + k ≤ n → k < q →
    ∃ s', lp_X6_readUnit_57 N rv (nI p) q (nI (p + k) - 1) s = some s' ∧ VE s' fl ∧ FrL PF s s' := by
  intro k
  induction k with
  | zero =>
    intro s q hT hV hp hq
    obtain ⟨q, rfl⟩ : ∃ r, q = r + 1 := ⟨q - 1, by omega⟩
    have hn := hT.1
    refine ⟨s, ?_, hV, FrL.rf⟩
    rw [lp_X6_readUnit_57, if_pos]
    rw [Int32.lt_iff_toInt_lt, Nat.add_zero, lit_nI 1, pk_sub_toInt (by omega) (by omega), nI_toInt (by omega)]
    omega
  | succ k ih =>
    intro s q hT hV hp hq
    obtain ⟨q, rfl⟩ : ∃ r, q = r + 1 := ⟨q - 1, by omega⟩
    have hn := hT.1
    have e1 : nI (p + (k + 1)) - 1 = nI (p + k) := by rw [lit_nI 1, pk_sub (by omega)]; rfl
    have e2 : nI (p + k) + (-1 : Int32) = nI (p + k) - 1 := by
      apply Int32.toBitVec_inj.mp
      simp [Int32.sub_eq_add_neg]
    rw [e1, lp_X6_readUnit_57, if_neg (by rw [nI_ltI (by omega) (by omega)]; omega), if_neg (nI_pos (by omega)), if_neg (by rw [c_le (by omega) (by omega)]; omega)]
    simp only [jn_, lt_]
    rw [ib_nI (by omega), gd_dec (by omega), nI_clamp (by omega), e2]
    split
    · obtain ⟨s2, u1, u2, u3⟩ := addSign_any (c := 33) (v := 0) hV
      obtain ⟨s3, v1, v2, v3⟩ := ih s2 q (hT.fr u3 (by decide) (by decide)) u2 (by omega) (by omega)
      exact ⟨s3, by rw [u1, Option.bind_some]; exact v1, v2, fr_tr u3 v3⟩
    · rw [gd_dec (by omega)]
      split
      · obtain ⟨s2, u1, u2, u3⟩ := addSign_any (c := 126) (v := 0) hV
        obtain ⟨s3, v1, v2, v3⟩ := ih s2 q (hT.fr u3 (by decide) (by decide)) u2 (by omega) (by omega)
        exact ⟨s3, by rw [u1, Option.bind_some]; exact v1, v2, fr_tr u3 v3⟩
      · exact ih s q hT hV (by omega) (by omega)
theorem rk_le (c : Nat) : rk c ≤ 5 := by
  unfold rk
  repeat' split
  all_goals omega
theorem readUnit_ok {T : Nat → Nat} {n N o : Nat} {rv : Int32 → jM → Option jM} (hN : 40 < N) (ho : o ≤ 8) (hrv : o < 8 → PXs T n 1 (o + 1) (rv (nI (o + 1)))) : PXs T n 6 o (f_X6_readUnit N rv (nI o)) := by
  intro s p cd nm hT hV hp hcd
  have hn := hT.1
  have hmm : ∀ c ∈ ([29] : List Nat), c ∈ PF := by decide
  have hpq := nb_ge' (T := T) (n := n) (p := p)
  have hle := nb_le' (T := T) hp
  have pfx : ∀ k5 : jM → Option jM, ∃ (p' : Nat) (s' : jM), (Option.bind (f_X6_take N 0 s) fun r2 => lp_X6_readUnit_15 N rv k5 N r2.1 (0 : Int32) r2.2) = k5 s' ∧ VP s' p' (-1) cd nm ∧ FrL [29] s s' ∧ p ≤ p' ∧ p' ≤ n ∧ nb T n p' = p' ∧ ¬ (p' < n ∧ (T p' = 33 ∨ T p' = 45)) ∧ ∀ (lt : Nat → Int64) (V : List Int64) (S : List Nat) (o : Nat), Rch lt T n (true, nb T n p, V, S, o) (true, p', V, pst T p (p' - p) ++ S, o) := by
    intro k5
    by_cases hy : nb T n p < n ∧ T (nb T n p) ∈ chS.getD 0 []
    · obtain ⟨s2, t1, t2, t3⟩ := take_yes hN (by omega : 0 < 8) hp hT hV hy.1 hy.2
      have hTq := hT.2.1 (nb T n p)
      obtain ⟨p', s', g1, g2, g3, g4, g5, g6, g7, g8⟩ := pf_loop (N := N) (rv := rv) (k5 := k5) hN _ (nb T n p + 1) (T (nb T n p)) 0 s2 N rfl hTq (hT.fr t3 (by decide) (by decide)) t2 hy.1 (by omega) (by omega)
      refine ⟨p', s', by rw [t1, Option.bind_some]; exact g1, g2, fr_tr t3 g3, by omega, g5, g6, g7, fun lt V S o => ?_⟩
      have h2 : T (nb T n p) = 33 ∨ T (nb T n p) = 45 := by simpa [chS] using hy.2
      have e : p' - p = (nb T n p + 1 - p) + (p' - (nb T n p + 1)) := by omega
      have e2 : pst T p (nb T n p + 1 - p) = pc (T (nb T n p)) := by
        have e3 : nb T n p + 1 - p = (nb T n p - p) + 1 := by omega
        rw [e3]
        show pc (T (p + (nb T n p - p))) ++ pst T p (nb T n p - p) = _
        rw [pst_blank _ p rfl, List.append_nil]
        congr 2
        omega
      rw [e, pst_add, e2, List.append_assoc]
      have e4 : p + (nb T n p + 1 - p) = nb T n p + 1 := by omega
      rw [e4]
      refine Rch.tr (Rch.st ?_) (g8 lt V (pc (T (nb T n p)) ++ S) o)
      show rstW lt T n (nb T n p) V S o = _
      unfold rstW
      rcases h2 with h2 | h2
      · rw [if_pos hy.1, h2, if_neg (by decide)]
        rfl
      · rw [if_pos hy.1, h2, if_neg (by decide)]
        rfl
    · obtain ⟨s2, t1, t2, t3⟩ := take_not hN (by omega : 0 < 8) hp hT hV hy
      obtain ⟨M, hM⟩ : ∃ r, N = r + 1 := ⟨N - 1, by omega⟩
      refine ⟨nb T n p, s2, ?_, t2, t3, hpq, hle, nb_id, fun z => hy ⟨z.1, by rcases z.2 with z | z <;> rw [z] <;> decide⟩, fun lt V S o => ?_⟩
      · rw [t1, Option.bind_some]
        have : ∀ K, K = M + 1 → lp_X6_readUnit_15 N rv k5 K (-1) 0 s2 = k5 s2 := by
          intro K hK
          rw [hK, lp_X6_readUnit_15, if_neg (by decide), if_pos rfl]
        exact this N hM
      · rw [pst_blank _ p rfl]
        exact Rch.rf
  simp only [f_X6_readUnit, jn_, lt_, hV.1]
  obtain ⟨p', s4, g1, g2, g3, g4, g5, g6, g7, g8⟩ := pfx (fun s4 => Option.bind (f_X6_readBareUnit N rv (nI o) s4) fun r7 => lp_X6_readUnit_57 N rv (nI p) N (gI s4 29 6 - (1 : Int32)) r7)
  rw [g1, g2.1]
  have hT4 := hT.fr g3 (by decide) (by decide)
  obtain ⟨s5, b1, b2, b3⟩ := readBareUnit_ok (T := T) hN ho hrv s4 p' cd nm hT4 g2 g5 (by omega) (by rw [g6]; exact g7)
  have hT5 := hT4.fr b2 (by decide) (by decide)
  have ek : p' = p + (p' - p) := by omega
  rw [b1, Option.bind_some]
  rcases b3 with ⟨p2, c, nm', h1, h2, h3, h4, h5, h6⟩ | ⟨f, h1, h2, h3⟩
  · obtain ⟨s6, w1, w2, w3⟩ := ug_loop (N := N) (p := p) (rv := rv) (p' - p) (cd ++ c) s5 N hT5 h1 (by omega) (by omega) (by rw [List.length_append]; omega)
    refine ⟨s6, by rw [← w1, ← ek], fr_tr (fr_mono g3 hmm) (fr_tr b2 w3), Or.inl ⟨p2, c ++ asg T p (p' - p), nm', by rw [← List.append_assoc]; exact w2, h2, by have := asg_len (T := T) (p := p) (p' - p); rw [List.length_append]; omega, h4, cdp_app h5 (cdp_asg _) (Or.inl rfl), fun lt => ?_⟩⟩
    · obtain ⟨v, q1, q2⟩ := h6 lt
      refine ⟨ap (pst T p (p' - p)) v, fun st => by rw [evc_app, q1, ev_asg], fun V S hb => ⟨ap (pst T p (p' - p)) v :: V, S, ?_, fun r' _ => rfl, fun _ hr => absurd (rk_le (T (nb T n p2))) (by omega)⟩⟩
      have hsd : sd (pst T p (p' - p) ++ S) v = (ap (pst T p (p' - p)) v, S) := by rw [sd_app _ _ (fun x hx => pst_gt _ x hx), blk_sd hb]
      have h7 := q2 V (pst T p (p' - p) ++ S)
      rw [hsd, g6] at h7
      exact (g8 lt V S o).tr h7
  · obtain ⟨s6, w1, w2, w3⟩ := ug_any (N := N) (p := p) (rv := rv) (p' - p) s5 N hT5 h2 (by omega) (by omega)
    refine ⟨s6, by rw [← w1, ← ek], fr_tr (fr_mono g3 hmm) (fr_tr b2 w3), Or.inr ⟨f, h1, w2, fun lt V S hb => ?_⟩⟩
    have h7 := h3 lt V (pst T p (p' - p) ++ S)
    rw [g6] at h7
    exact (g8 lt V S o).flt h7
