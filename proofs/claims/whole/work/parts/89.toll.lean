/-! toll -/
def Pl (e : Nat) : Nat → Nat → Nat
  | 0, j => if j = 0 then 1 else 0
  | k + 1, j => Pl e k j * (20 - e) + (if j = 0 then 0 else Pl e k (j - 1) * e)
def wy (c : Nat) : Nat → Nat
  | 0 => 1
  | k + 1 => wy c k * (c - k) / (k + 1)
def prd (e k w : Nat) : Nat → Nat
  | 0 => w
  | j + 1 => prd e k w j * (if k ≤ j then 20 - e else e)
theorem toll_fin : ∀ c, c < 9 → ∀ e, e < 21 → ∀ j, j < 9 → prd e j (wy c j) c = Pl e c j ∧ Pl e c j ≤ 25600000000 ∧ (c < j → Pl e c j = 0) := by decide +kernel
theorem wy_le : ∀ c, c < 9 → ∀ k, k < 10 → wy c k ≤ 100 := by decide +kernel
def sm (e c : Nat) : Nat → Nat
  | 0 => 0
  | j + 1 => sm e c j + Pl e c j
def rsm (e c n : Nat) : Nat → Nat
  | 0 => 0
  | k + 1 => rsm e c n k + (if n < k then 0 else prd e k (wy c k) c)
theorem rsm_eq {e c n : Nat} (he : e < 21) (hc : c < 9) (hn : n < 9) : rsm e c n (c + 1) = sm e c (n + 1) := by
  have A : ∀ m, m ≤ n + 1 → rsm e c n m = sm e c m := by
    intro m
    induction m with
    | zero => intro _; rfl
    | succ m ih =>
      intro hm
      simp only [rsm, sm]
      rw [ih (by omega), if_neg (by omega), (toll_fin c hc e he m (by omega)).1]
  have B : ∀ k, rsm e c n (n + 1 + k) = rsm e c n (n + 1) := by
    intro k
    induction k with
    | zero => rfl
    | succ k ih =>
      rw [← Nat.add_assoc]
      show rsm e c n (n + 1 + k) + (if n < n + 1 + k then 0 else _) = _
      rw [ih, if_pos (by omega), Nat.add_zero]
  have C : ∀ k, c + 1 + k ≤ 9 → rsm e c n (c + 1 + k) = rsm e c n (c + 1) := by
    intro k
    induction k with
    | zero => intro _; rfl
    | succ k ih =>
      intro hk
      rw [← Nat.add_assoc]
      show rsm e c n (c + 1 + k) + _ = _
      rw [ih (by omega)]
      have : (if n < c + 1 + k then 0 else prd e (c + 1 + k) (wy c (c + 1 + k)) c) = 0 := by
        split
        · rfl
        · rw [(toll_fin c hc e he _ (by omega)).1]
          exact (toll_fin c hc e he _ (by omega)).2.2 (by omega)
      rw [this, Nat.add_zero]
  have h1 := C (8 - c) (by omega)
  have h2 := B (8 - n)
  rw [show c + 1 + (8 - c) = 9 from by omega] at h1
  rw [show n + 1 + (8 - n) = 9 from by omega] at h2
  rw [← h1, h2, A _ (Nat.le_refl _)]
theorem sm_le {e c : Nat} (he : e < 21) (hc : c < 9) : ∀ m, m ≤ 9 → sm e c m ≤ 25600000000 * m := by
  intro m
  induction m with
  | zero => intro _; exact Nat.le_refl _
  | succ m ih =>
    intro hm
    have h1 := ih (by omega)
    have h2 := (toll_fin c hc e he m (by omega)).2.1
    simp only [sm]
    omega
theorem i20 {e : Nat} (he : e < 21) : Int32.toInt64 ((20 : Int32) - nI e) = lN (20 - e) := by rw [show (20 : Int32) - nI e = nI (20 - e) from pk_sub (a := 20) (by omega), nI_l (by omega)]
theorem si_loop {N e k : Nat} (he : e < 21) : ∀ (i : Nat) (s : jM) (q : Nat), i ≤ 8 → i < q → (∀ j, j < 9 → gL s 51 j = lN (if i < j then Pl e (k + 1) j else Pl e k j)) →
    ∃ s', (∀ k12, lp_X7_spreadStops_30 N (nI e) k12 q (nI i) s = k12 s') ∧ FrL [51] s s' ∧ ∀ j, j < 9 → gL s' 51 j = lN (if 0 < j then Pl e (k + 1) j else Pl e k j) := by
  intro i
  induction i with
  | zero =>
    intro s q hi hq hP
    obtain ⟨q, rfl⟩ : ∃ r, q = r + 1 := ⟨q - 1, by omega⟩
    refine ⟨s, fun k12 => ?_, FrL.rf, hP⟩
    rw [lp_X7_spreadStops_30, if_pos (by decide)]
  | succ i ih =>
    intro s q hi hq hP
    obtain ⟨q, rfl⟩ : ∃ r, q = r + 1 := ⟨q - 1, by omega⟩
    have p1 := hP (i + 1) (by omega)
    have p0 := hP i (by omega)
    rw [if_neg (by omega)] at p1 p0
    have f : FrL [51] s (pL s 51 (i + 1) (lN (Pl e (k + 1) (i + 1)))) := fr_pL FrL.rf (by decide)
    obtain ⟨s', e1, e2, e3⟩ := ih (pL s 51 (i + 1) (lN (Pl e (k + 1) (i + 1)))) q (by omega) (by omega) (fun j hj => by
      rw [gL_pL_cell]
      by_cases hji : j = i + 1
      · rw [if_pos hji, if_pos (by omega), hji]
      · rw [if_neg hji, hP j hj]
        by_cases h1 : i + 1 < j
        · rw [if_pos h1, if_pos (by omega)]
        · rw [if_neg h1, if_neg (by omega)])
    refine ⟨s', fun k12 => ?_, fr_tr f e2, e3⟩
    have hval : lN (Pl e k (i + 1)) * lN (20 - e) + lN (Pl e k i) * lN e = lN (Pl e (k + 1) (i + 1)) := by
      rw [lN_mul, lN_mul, lN_add]
      simp only [Pl]
      rw [if_neg (by omega), Nat.add_sub_cancel]
    rw [lp_X7_spreadStops_30, if_neg (nI_nle (by omega) (by omega)), nI_pred, ib_nI (by omega), ib_nI (by omega), gd_dec (by omega), gd_dec (by omega), gd_dec (by omega), nI_clamp (by omega), nI_clamp (by omega), p1, p0, i20 he, nI_l (by omega), hval]
    simp only [lt_]
    rw [pk_m1]
    exact e1 k12
theorem so_loop {N e c : Nat} (hN : 60 < N) (he : e < 21) (hc : c < 9) : ∀ (m k : Nat) (s : jM) (q : Nat), c - k = m → k ≤ c → m < q → (∀ j, j < 9 → gL s 51 j = lN (Pl e k j)) →
    ∃ s', (∀ k5, lp_X7_spreadStops_20 N (nI e) (nI c) k5 q (lN (20 ^ k)) (nI k) s = k5 (lN (20 ^ c)) s') ∧ FrL [51] s s' ∧ ∀ j, j < 9 → gL s' 51 j = lN (Pl e c j) := by
  intro m
  induction m with
  | zero =>
    intro k s q hm hk hq hP
    obtain ⟨q, rfl⟩ : ∃ r, q = r + 1 := ⟨q - 1, by omega⟩
    have e1 : k = c := by omega
    subst e1
    refine ⟨s, fun k5 => ?_, FrL.rf, hP⟩
    rw [lp_X7_spreadStops_20, if_pos (by rw [nI_leI (by omega) (by omega)]; omega)]
  | succ m ih =>
    intro k s q hm hk hq hP
    obtain ⟨q, rfl⟩ : ∃ r, q = r + 1 := ⟨q - 1, by omega⟩
    obtain ⟨t, t1, t2, t3⟩ := si_loop (N := N) (k := k) he 8 s N (by omega) (by omega) (fun j hj => by rw [if_neg (by omega)]; exact hP j hj)
    have t0 : gL t 51 0 = lN (Pl e k 0) := by have := t3 0 (by omega); rw [if_neg (by omega)] at this; exact this
    have h0 : lN (Pl e k 0) * lN (20 - e) = lN (Pl e (k + 1) 0) := by
      rw [lN_mul]
      simp only [Pl]
      rw [if_pos trivial, Nat.add_zero]
    have f : FrL [51] s (pL t 51 0 (lN (Pl e (k + 1) 0))) := fr_pL t2 (by decide)
    obtain ⟨s', e1, e2, e3⟩ := ih (k + 1) (pL t 51 0 (lN (Pl e (k + 1) 0))) q (by omega) (by omega) (by omega) (fun j hj => by
      rw [gL_pL_cell]
      by_cases hj0 : j = 0
      · rw [if_pos hj0, hj0]
      · rw [if_neg hj0, t3 j hj, if_pos (by omega)])
    refine ⟨s', fun k5 => ?_, fr_tr f e2, e3⟩
    have t1' : ∀ k12, lp_X7_spreadStops_30 N (nI e) k12 N (8 : Int32) s = k12 t := t1
    rw [lp_X7_spreadStops_20, if_neg (by rw [nI_leI (by omega) (by omega)]; omega)]
    simp only [jn_, lt_]
    rw [t1', show ib (0 : Int32) 9 = true from by decide, gd_true, gd_true, show Int32.toNatClampNeg (0 : Int32) = 0 from rfl, t0, i20 he, h0, show lN (20 ^ k) * (20 : Int64) = lN (20 ^ (k + 1)) from by rw [show (20 : Int64) = lN 20 from rfl, lN_mul, Nat.pow_succ], nI_1]
    exact e1 k5
theorem spread_ok {N e c : Nat} {s : jM} (hN : 1000 < N) (he : e < 21) (hc : c < 9) : ∃ s', f_X7_spreadStops N (nI e) (nI c) s = some (lN (20 ^ c), s') ∧ FrL [51] s s' ∧ ∀ j, j < 9 → gL s' 51 j = lN (Pl e c j) := by
  obtain ⟨t, t1, t2, t3⟩ := fillL_ok (N := N) (b0 := 51) (n0 := 9) (x := 0) (s := s) (by omega) (by omega)
  have f : FrL [51] s (pL t 51 0 1) := fr_pL t2 (by decide)
  obtain ⟨s', e1, e2, e3⟩ := so_loop (N := N) (c := c) (by omega) he hc c 0 (pL t 51 0 1) N (by omega) (by omega) (by omega) (fun j hj => by
    rw [gL_pL_cell]
    simp only [Pl]
    by_cases hj0 : j = 0
    · rw [if_pos hj0, if_pos hj0]; rfl
    · rw [if_neg hj0, if_neg hj0]; exact t3 j hj)
  have e1' : ∀ k5, lp_X7_spreadStops_20 N (nI e) (nI c) k5 N (1 : Int64) (0 : Int32) (pL t 51 0 1) = k5 (lN (20 ^ c)) s' := e1
  refine ⟨s', ?_, fr_tr f e2, e3⟩
  simp only [f_X7_spreadStops, jn_, lt_]
  rw [t1, Option.bind_some, show ib (0 : Int32) 9 = true from by decide, gd_true, show Int32.toNatClampNeg (0 : Int32) = 0 from rfl, e1']
theorem ts_loop {N e c n : Nat} {r9 : Int64 × jM} {k12 : Int64 → Option (Int32 × jM)} (hn : n < 9) (hP : ∀ j, j < 9 → gL r9.2 51 j = lN (Pl e c j)) : ∀ (m i q : Nat), n + 1 - i = m → i ≤ n + 1 → m < q → lp_X7_toll_66 N (nI n) r9 k12 q (lN (sm e c i)) (nI i) = k12 (lN (sm e c (n + 1))) := by
  intro m
  induction m with
  | zero =>
    intro i q hm hi hq
    obtain ⟨q, rfl⟩ : ∃ r, q = r + 1 := ⟨q - 1, by omega⟩
    rw [lp_X7_toll_66, if_pos (by rw [nI_ltI (by omega) (by omega)]; omega), show i = n + 1 from by omega]
  | succ m ih =>
    intro i q hm hi hq
    obtain ⟨q, rfl⟩ : ∃ r, q = r + 1 := ⟨q - 1, by omega⟩
    have e1 := ih (i + 1) q (by omega) (by omega) (by omega)
    simp only [sm] at e1 ⊢
    rw [lp_X7_toll_66, if_neg (by rw [nI_ltI (by omega) (by omega)]; omega), ib_nI (by omega), gd_dec (by omega)]
    simp only [lt_]
    rw [nI_clamp (by omega), hP i (by omega), lN_add, nI_1]
    exact e1
theorem t7_loop {N e c k w : Nat} {r7 : Int32 × jM} {k20 : Int64 → Option (Int32 × jM)} (he : e < 21) (hc : c < 9) (hk : k < 10) (h23 : gI r7.2 53 23 = nI c) : ∀ (m j q : Nat), c - j = m → j ≤ c → m < q → lp_X8_toll_70 N (nI e) r7 (nI k) k20 q (lN (prd e k w j)) (nI j) = k20 (lN (prd e k w c)) := by
  intro m
  induction m with
  | zero =>
    intro j q hm hj hq
    obtain ⟨q, rfl⟩ : ∃ r, q = r + 1 := ⟨q - 1, by omega⟩
    rw [lp_X8_toll_70, h23, if_pos (by rw [nI_leI (by omega) (by omega)]; omega), show j = c from by omega]
  | succ m ih =>
    intro j q hm hj hq
    obtain ⟨q, rfl⟩ : ∃ r, q = r + 1 := ⟨q - 1, by omega⟩
    have e1 := ih (j + 1) q (by omega) (by omega) (by omega)
    simp only [prd] at e1
    rw [lp_X8_toll_70, h23, if_neg (by rw [nI_leI (by omega) (by omega)]; omega)]
    simp only [jn_, lt_]
    rw [i20 he, nI_l (by omega), nI_1, lN_mul, lN_mul]
    by_cases hkj : k ≤ j
    · rw [if_pos hkj] at e1
      rw [if_pos (by rw [nI_leI (by omega) (by omega)]; exact hkj)]
      exact e1
    · rw [if_neg hkj] at e1
      rw [if_neg (by rw [nI_leI (by omega) (by omega)]; exact hkj)]
      exact e1
def mnn (a b : Nat) : Nat := if a ≤ b then a else b
theorem t5_loop {N e c n : Nat} {r7 : Int32 × jM} {k11 : Int64 → Int64 → Option (Int32 × jM)} (hN : 60 < N) (he : e < 21) (hc : c < 9) (hn : n < 9) (h23 : gI r7.2 53 23 = nI c) : ∀ (m k q : Nat), c + 1 - k = m → k ≤ c + 1 → m < q → lp_X8_toll_54 N (nI e) (nI n) r7 k11 q (lN (rsm e c n k)) (lN (wy c k)) (lN (20 ^ mnn k c)) (nI k) = k11 (lN (rsm e c n (c + 1))) (lN (20 ^ c)) := by
  intro m
  induction m with
  | zero =>
    intro k q hm hk hq
    obtain ⟨q, rfl⟩ : ∃ r, q = r + 1 := ⟨q - 1, by omega⟩
    rw [lp_X8_toll_54, h23, if_pos (by rw [nI_ltI (by omega) (by omega)]; omega), show k = c + 1 from by omega]
    unfold mnn
    rw [if_neg (by omega)]
  | succ m ih =>
    intro k q hm hk hq
    obtain ⟨q, rfl⟩ : ∃ r, q = r + 1 := ⟨q - 1, by omega⟩
    have hkc : k ≤ c := by omega
    have hw := wy_le c hc k (by omega)
    have e1 := ih (k + 1) q (by omega) (by omega) (by omega)
    have hmk : mnn k c = k := by unfold mnn; rw [if_pos hkc]
    have hne : ¬ lN (k + 1) = 0 := fun z => by have := (pk_lEQ (a := k + 1) (b := 0) (by omega) (by omega)).mp z; omega
    have hle : wy c k * (c - k) ≤ 100 * 9 := Nat.mul_le_mul hw (by omega)
    have hways : lN (wy c k) * lN (c - k) / lN (k + 1) = lN (wy c (k + 1)) := by
      rw [lN_mul, pk_lDiv (by omega) (by omega) (by omega)]
      rfl
    rw [lp_X8_toll_54, h23, if_neg (by rw [nI_ltI (by omega) (by omega)]; omega)]
    simp only [jn_, lt_]
    have t7 : ∀ k20, lp_X8_toll_70 N (nI e) r7 (nI k) k20 N (lN (wy c k)) (0 : Int32) = k20 (lN (prd e k (wy c k) c)) := fun k20 => t7_loop (N := N) (k20 := k20) (w := wy c k) he hc (by omega) h23 c 0 N (by omega) (by omega) (by omega)
    rw [t7, nI_1, nI_l (by omega), gd_dec hne, gd_dec hne, pk_sub hkc, nI_l (by omega), hways, hmk]
    have hall : (if nI c ≤ nI k then lN (20 ^ k) * (1 : Int64) else lN (20 ^ k) * (20 : Int64)) = lN (20 ^ mnn (k + 1) c) := by
      unfold mnn
      by_cases hck : c ≤ k
      · rw [if_pos (by rw [nI_leI (by omega) (by omega)]; exact hck), if_neg (by omega), show (1 : Int64) = lN 1 from rfl, lN_mul, Nat.mul_one, show c = k from by omega]
      · rw [if_neg (by rw [nI_leI (by omega) (by omega)]; exact hck), if_pos (by omega), show (20 : Int64) = lN 20 from rfl, lN_mul, Nat.pow_succ]
    have fin : ∀ z, z = lN (rsm e c n (k + 1)) → (if nI c ≤ nI k then lp_X8_toll_54 N (nI e) (nI n) r7 k11 q z (lN (wy c (k + 1))) (lN (20 ^ k) * (1 : Int64)) (nI (k + 1)) else lp_X8_toll_54 N (nI e) (nI n) r7 k11 q z (lN (wy c (k + 1))) (lN (20 ^ k) * (20 : Int64)) (nI (k + 1))) = k11 (lN (rsm e c n (c + 1))) (lN (20 ^ c)) := by
      intro z hz
      rw [hz]
      by_cases hck : nI c ≤ nI k
      · rw [if_pos hck] at hall ⊢
        rw [hall]; exact e1
      · rw [if_neg hck] at hall ⊢
        rw [hall]; exact e1
    by_cases hnk : n < k
    · rw [if_pos (by rw [nI_ltI (by omega) (by omega)]; exact hnk)]
      refine fin _ ?_
      simp only [rsm]
      rw [if_pos hnk, show (0 : Int64) = lN 0 from rfl, lN_add]
    · rw [if_neg (by rw [nI_ltI (by omega) (by omega)]; exact hnk)]
      refine fin _ ?_
      simp only [rsm]
      rw [if_neg hnk, lN_add]
