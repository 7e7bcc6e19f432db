/-! home: the ways -/
def wup (s k : Nat) (f : Nat → Int32) : Nat → Int32 := fun i => if i = k then f k + f (k - s) else f i
def wi (s : Nat) : Nat → Nat → (Nat → Int32) → Nat → Int32
  | 0, _, f => f
  | m + 1, k, f => wi s m (k + 1) (wup s k f)
theorem wi_above {s : Nat} : ∀ (m k : Nat) (f : Nat → Int32) (i : Nat), i < k → wi s m k f i = f i := by
  intro m
  induction m with
  | zero => intro k f i _; rfl
  | succ m ih =>
    intro k f i hi
    show wi s m (k + 1) (wup s k f) i = f i
    rw [ih _ _ _ (by omega)]
    unfold wup
    rw [if_neg (by omega)]
theorem wi_split {s : Nat} : ∀ (a b k : Nat) (f : Nat → Int32), wi s (a + b) k f = wi s b (k + a) (wi s a k f) := by
  intro a
  induction a with
  | zero => intro b k f; rw [Nat.zero_add, Nat.add_zero]; rfl
  | succ a ih =>
    intro b k f
    rw [show a + 1 + b = (a + b) + 1 from by omega]
    show wi s (a + b) (k + 1) (wup s k f) = wi s b (k + (a + 1)) (wi s a (k + 1) (wup s k f))
    rw [ih, show k + 1 + a = k + (a + 1) from by omega]
theorem wi_agree {s p : Nat} : ∀ (m k : Nat) (f g : Nat → Int32), k + m ≤ p + 1 → (∀ i, i ≤ p → f i = g i) → ∀ i, i ≤ p → wi s m k f i = wi s m k g i := by
  intro m
  induction m with
  | zero => intro k f g _ h; exact h
  | succ m ih =>
    intro k f g hk h
    refine ih (k + 1) _ _ (by omega) (fun i hi => ?_)
    unfold wup
    rw [h k (by omega), h (k - s) (by omega), h i hi]
def wo (M : Nat → Nat) : Nat → Nat → Int32
  | 0 => fun i => if i = 0 then 1 else 0
  | j + 1 => wi (2 * j + 1) (M (2 * j + 1)) (2 * j + 1) (wo M j)
theorem wo_agree {p : Nat} (hp : p < 40) : ∀ j i, i ≤ p → wo (fun s => p + 1 - s) j i = wo (fun s => 40 - s) j i := by
  intro j
  induction j with
  | zero => intro i _; rfl
  | succ j ih =>
    intro i hi
    show wi (2 * j + 1) (p + 1 - (2 * j + 1)) (2 * j + 1) (wo (fun s => p + 1 - s) j) i = wi (2 * j + 1) (40 - (2 * j + 1)) (2 * j + 1) (wo (fun s => 40 - s) j) i
    by_cases hs : 2 * j + 1 ≤ p + 1
    · rw [show 40 - (2 * j + 1) = (p + 1 - (2 * j + 1)) + (39 - p) from by omega, wi_split, wi_above (39 - p) _ _ i (by omega)]
      exact wi_agree _ _ _ _ (by omega) ih i hi
    · rw [wi_above _ _ _ i (by omega), wi_above _ _ _ i (by omega)]
      exact ih i hi
theorem hw_in {N p s : Nat} (hp : p < 40) (h1 : 1 ≤ s) : ∀ (m k : Nat) (f : Nat → Int32) (t : jM) (q : Nat), p + 1 - k = m → s ≤ k → m < q → k < 2 ^ 30 → (∀ i, i < 40 → gI t 52 i = f i) →
    ∃ t', (∀ k10, lp_X7_waysHome_25 N (nI p) (nI s) k10 q (nI k) t = k10 t') ∧ FrL [52] t t' ∧ ∀ i, i < 40 → gI t' 52 i = wi s m k f i := by
  intro m
  induction m with
  | zero =>
    intro k f t q hm hk hq hb hf
    obtain ⟨q, rfl⟩ : ∃ r, q = r + 1 := ⟨q - 1, by omega⟩
    refine ⟨t, fun k10 => ?_, FrL.rf, hf⟩
    rw [lp_X7_waysHome_25, if_pos (by rw [nI_ltI (by omega) (by omega)]; omega)]
  | succ m ih =>
    intro k f t q hm hk hq hb hf
    obtain ⟨q, rfl⟩ : ∃ r, q = r + 1 := ⟨q - 1, by omega⟩
    have hfr : FrL [52] t (pI t 52 k (f k + f (k - s))) := fr_pI FrL.rf (by decide)
    obtain ⟨t', e1, e2, e3⟩ := ih (k + 1) (wup s k f) (pI t 52 k (f k + f (k - s))) q (by omega) (by omega) (by omega) (by omega) (fun i hi => by
      rw [gI_pI_cell]
      unfold wup
      by_cases hik : i = k
      · rw [if_pos hik, if_pos hik]
      · rw [if_neg hik, if_neg hik]; exact hf i hi)
    refine ⟨t', fun k10 => ?_, fr_tr hfr e2, e3⟩
    rw [lp_X7_waysHome_25, if_neg (by rw [nI_ltI (by omega) (by omega)]; omega), pk_sub hk, ib_nI (by omega), ib_nI (by omega), gd_dec (by omega), gd_dec (by omega), gd_dec (by omega), nI_clamp (by omega), nI_clamp (by omega), hf k (by omega), hf (k - s) (by omega)]
    simp only [lt_]
    rw [nI_1]
    exact e1 k10
theorem hw_out {N p r : Nat} (hN : 60 < N) (hp : p < 40) (hr : r ≤ 20) : ∀ (m j : Nat) (t : jM) (q : Nat), (r + 1) / 2 - j = m → j ≤ (r + 1) / 2 → m < q → (∀ i, i < 40 → gI t 52 i = wo (fun s => p + 1 - s) j i) →
    ∃ t', (∀ k4, lp_X7_waysHome_17 N (nI p) (nI r) k4 q (nI (2 * j + 1)) t = k4 t') ∧ FrL [52] t t' ∧ ∀ i, i < 40 → gI t' 52 i = wo (fun s => p + 1 - s) ((r + 1) / 2) i := by
  intro m
  induction m with
  | zero =>
    intro j t q hm hj hq hf
    obtain ⟨q, rfl⟩ : ∃ r, q = r + 1 := ⟨q - 1, by omega⟩
    have e : j = (r + 1) / 2 := by omega
    refine ⟨t, fun k4 => ?_, FrL.rf, by rw [← e]; exact hf⟩
    rw [lp_X7_waysHome_17, if_pos (by rw [nI_ltI (by omega) (by omega)]; omega)]
  | succ m ih =>
    intro j t q hm hj hq hf
    obtain ⟨q, rfl⟩ : ∃ r, q = r + 1 := ⟨q - 1, by omega⟩
    obtain ⟨u, u1, u2, u3⟩ := hw_in (N := N) (p := p) (s := 2 * j + 1) hp (by omega) (p + 1 - (2 * j + 1)) (2 * j + 1) (wo (fun s => p + 1 - s) j) t N rfl (Nat.le_refl _) (by omega) (by omega) hf
    obtain ⟨t', e1, e2, e3⟩ := ih (j + 1) u q (by omega) (by omega) (by omega) u3
    refine ⟨t', fun k4 => ?_, fr_tr u2 e2, e3⟩
    rw [lp_X7_waysHome_17, if_neg (by rw [nI_ltI (by omega) (by omega)]; omega)]
    simp only [jn_, lt_]
    rw [u1, show nI (2 * j + 1) + (2 : Int32) = nI (2 * (j + 1) + 1) from nI_add _ 2]
    exact e1 k4
theorem waysHome_ok {N p r : Nat} {s : jM} (hN : 1000 < N) (hp : p < 40) (hr : r ≤ 20) : ∃ s', f_X7_waysHome N (nI p) (nI r) s = some (wo (fun s => 40 - s) ((r + 1) / 2) p, s') ∧ FrL [52] s s' := by
  obtain ⟨t, t1, t2, t3⟩ := fillI_ok (N := N) (b0 := 52) (n0 := 40) (x := 0) (s := s) (by omega) (by omega)
  obtain ⟨u, u1, u2, u3⟩ := hw_out (N := N) (p := p) (r := r) (by omega) hp hr ((r + 1) / 2) 0 (pI t 52 0 1) N rfl (by omega) (by omega) (fun i hi => by
    rw [gI_pI_cell]
    show _ = if i = 0 then (1 : Int32) else 0
    by_cases h0 : i = 0
    · rw [if_pos h0, if_pos h0]
    · rw [if_neg h0, if_neg h0]; exact t3 i hi)
  have u1' : ∀ k4, lp_X7_waysHome_17 N (nI p) (nI r) k4 N (1 : Int32) (pI t 52 0 1) = k4 u := u1
  refine ⟨u, ?_, fr_tr (fr_pI t2 (by decide)) u2⟩
  simp only [f_X7_waysHome, jn_, lt_]
  rw [t1, Option.bind_some, show ib (0 : Int32) 40 = true from by decide, gd_true, show Int32.toNatClampNeg (0 : Int32) = 0 from rfl, u1', ib_nI (by omega), gd_dec hp, nI_clamp (by omega), u3 p hp, wo_agree hp _ p (Nat.le_refl _)]
/-! home: the fewest -/
def fs (s k : Nat) (l : List Nat) : List Nat := l.set k (if l.getD k 0 ≤ l.getD (k - s) 0 + 1 then l.getD k 0 else l.getD (k - s) 0 + 1)
def fi_ (s : Nat) : Nat → Nat → List Nat → List Nat
  | 0, _, l => l
  | m + 1, k, l => fi_ s m (k + 1) (fs s k l)
def fo : Nat → List Nat
  | 0 => 0 :: List.replicate 39 1000000
  | j + 1 => fi_ (2 * j + 1) (40 - (2 * j + 1)) (2 * j + 1) (fo j)
def cls (L k : Nat) : Nat → Nat → Nat
  | 0, c => c
  | m + 1, c => if k ≤ c * L ∧ (k - c) % 2 = 0 then c else cls L k m (c + 1)
theorem fo_cls : ∀ j, j < 11 → 1 ≤ j → fo j = (List.range 40).map (fun k => cls (2 * j - 1) k k 0) := by decide +kernel
theorem fo_at {j k : Nat} (hj : j < 11) (h1 : 1 ≤ j) (hk : k < 40) : (fo j).getD k 0 = cls (2 * j - 1) k k 0 := by
  rw [fo_cls j hj h1]
  simp [hk]
theorem cls_le {L k : Nat} : ∀ m c, cls L k m c ≤ c + m := by
  intro m
  induction m with
  | zero => intro c; exact Nat.le_refl _
  | succ m ih =>
    intro c
    simp only [cls]
    split
    · omega
    · have := ih (c + 1); omega
theorem fh_loop {N L k : Nat} {k4 : Int32 → Option Int32} (hL : L < 100) (hL1 : 1 ≤ L) (hk : k < 40) : ∀ (m c q : Nat), k - c = m → c ≤ k → m < q → lp_X7_fewestHome_16 N (nI k) (nI L) k4 q (nI c) = k4 (nI (cls L k m c)) := by
  intro m
  induction m with
  | zero =>
    intro c q hm hc hq
    obtain ⟨q, rfl⟩ : ∃ r, q = r + 1 := ⟨q - 1, by omega⟩
    have e : c = k := by omega
    subst e
    have hcl : c * L < 2 ^ 30 := Nat.lt_of_le_of_lt (Nat.mul_le_mul (show c ≤ 40 by omega) (show L ≤ 100 by omega)) (by omega)
    have hle : c ≤ c * L := Nat.le_mul_of_pos_right _ hL1
    rw [lp_X7_fewestHome_16, if_neg (by rw [nI_ltI (by omega) (by omega)]; omega)]
    simp only [jn_]
    rw [pk_mul, if_neg (by rw [nI_ltI (by omega) (by omega)]; omega), gd_dec (by decide), pk_sub (Nat.le_refl c), Nat.sub_self, if_pos (by decide)]
    rfl
  | succ m ih =>
    intro c q hm hc hq
    obtain ⟨q, rfl⟩ : ∃ r, q = r + 1 := ⟨q - 1, by omega⟩
    have hcl : c * L < 2 ^ 30 := Nat.lt_of_le_of_lt (Nat.mul_le_mul (show c ≤ 40 by omega) (show L ≤ 100 by omega)) (by omega)
    have e := ih (c + 1) q (by omega) (by omega) (by omega)
    rw [lp_X7_fewestHome_16, if_neg (by rw [nI_ltI (by omega) (by omega)]; omega)]
    simp only [jn_, lt_, cls]
    rw [pk_mul, nI_1, pk_sub hc, show nI (k - c) - nI (k - c) / (2 : Int32) * (2 : Int32) = nI ((k - c) % 2) from pk_rem (d := 2) (by omega) (by omega) (by omega), gd_dec (by decide)]
    by_cases h1 : k ≤ c * L
    · rw [if_neg (by rw [nI_ltI (by omega) (by omega)]; omega)]
      by_cases h2 : (k - c) % 2 = 0
      · rw [h2, if_pos (by decide), if_pos ⟨h1, rfl⟩]
      · rw [if_neg (nI_ne0 (by omega) (by omega)), if_neg (fun z => h2 z.2)]
        exact e
    · rw [if_pos (by rw [nI_ltI (by omega) (by omega)]; omega), if_neg (fun z => h1 z.1)]
      exact e
theorem fewestHome_ok {N p r : Nat} (hN : 1000 < N) (hp : p < 40) (hr : r ≤ 20) (hr1 : 1 ≤ r) : f_X7_fewestHome N (nI p) (nI r) = some (nI ((fo ((r + 1) / 2)).getD p 0)) := by
  simp only [f_X7_fewestHome, jn_]
  rw [gd_dec (by decide), show nI r - nI r / (2 : Int32) * (2 : Int32) = nI (r % 2) from pk_rem (d := 2) (by omega) (by omega) (by omega), fo_at (by omega) (by omega) hp]
  by_cases h2 : r % 2 = 0
  · rw [h2, if_pos (by decide), show nI r - (1 : Int32) = nI (r - 1) from pk_sub (b := 1) hr1, show (0 : Int32) = nI 0 from rfl, fh_loop (by omega) (by omega) hp p 0 N rfl (by omega) (by omega), show 2 * ((r + 1) / 2) - 1 = r - 1 from by omega]
  · rw [if_neg (nI_ne0 (by omega) (by omega)), show (0 : Int32) = nI 0 from rfl, fh_loop (by omega) (by omega) hp p 0 N rfl (by omega) (by omega), show 2 * ((r + 1) / 2) - 1 = r from by omega]
/-! home in the reference -/
def HR (t : jM) (f : Nat → Int32) (l : List Nat) : Prop := l.length = 40 ∧ (∀ i, l.getD i 0 ≤ 1000000) ∧ ∀ i, i < 40 → gI t 69 i = f i ∧ gI t 70 i = nI (l.getD i 0)
theorem getD_set {l : List Nat} {k x i : Nat} (hk : k < l.length) : (l.set k x).getD i 0 = if i = k then x else l.getD i 0 := by
  rw [List.getD_eq_getElem?_getD, List.getD_eq_getElem?_getD, List.getElem?_set]
  by_cases h : i = k
  · subst h; simp [hk]
  · rw [if_neg h, if_neg (fun z => h z.symm)]
theorem h5_loop {N s : Nat} (h1 : 1 ≤ s) (hs : s < 40) : ∀ (m k : Nat) (f : Nat → Int32) (l : List Nat) (t : jM) (q : Nat), 40 - k = m → k ≤ 40 → s ≤ k → m < q → HR t f l →
    ∃ t', (∀ k20, lp_X8_home_105 N (nI s) k20 q (nI k) t = k20 t') ∧ FrL [69, 70] t t' ∧ HR t' (wi s m k f) (fi_ s m k l) := by
  intro m
  induction m with
  | zero =>
    intro k f l t q hm hk hsk hq hH
    obtain ⟨q, rfl⟩ : ∃ r, q = r + 1 := ⟨q - 1, by omega⟩
    refine ⟨t, fun k20 => ?_, FrL.rf, hH⟩
    rw [lp_X8_home_105, if_pos (by rw [c_le (by omega) (by omega)]; omega)]
  | succ m ih =>
    intro k f l t q hm hk hsk hq hH
    obtain ⟨q, rfl⟩ : ∃ r, q = r + 1 := ⟨q - 1, by omega⟩
    obtain ⟨hl, hb, hv⟩ := hH
    have b1 := hb k
    have b2 := hb (k - s)
    obtain ⟨a1, a2⟩ := hv k (by omega)
    obtain ⟨a3, a4⟩ := hv (k - s) (by omega)
    generalize hx : (if l.getD k 0 ≤ l.getD (k - s) 0 + 1 then l.getD k 0 else l.getD (k - s) 0 + 1) = x
    have hx1 : x ≤ 1000000 := by rw [← hx]; split <;> omega
    have hfr : FrL [69, 70] t (pI (pI t 69 k (f k + f (k - s))) 70 k (nI x)) := fr_pI (fr_pI FrL.rf (by decide)) (by decide)
    have hgd : ∀ i, (fs s k l).getD i 0 = if i = k then x else l.getD i 0 := fun i => by unfold fs; rw [hx]; exact getD_set (by omega)
    obtain ⟨t', e1, e2, e3⟩ := ih (k + 1) (wup s k f) (fs s k l) (pI (pI t 69 k (f k + f (k - s))) 70 k (nI x)) q (by omega) (by omega) (by omega) (by omega)
      ⟨by unfold fs; rw [List.length_set]; exact hl, fun i => by rw [hgd]; split; exact hx1; exact hb i, fun i hi => by
        obtain ⟨v1, v2⟩ := hv i hi
        rw [gI_pI_ne (show (69 : Nat) ≠ 70 by decide), gI_pI_cell, gI_pI_cell, gI_pI_ne (show (70 : Nat) ≠ 69 by decide), hgd]
        unfold wup
        by_cases hik : i = k
        · rw [if_pos hik, if_pos hik, if_pos hik, if_pos hik]; exact ⟨rfl, rfl⟩
        · rw [if_neg hik, if_neg hik, if_neg hik, if_neg hik]; exact ⟨v1, v2⟩⟩
    refine ⟨t', fun k20 => ?_, fr_tr hfr e2, e3⟩
    rw [lp_X8_home_105, if_neg (by rw [c_le (by omega) (by omega)]; omega)]
    simp only [jn_, lt_]
    simp only [gI_pI_ne (show (70 : Nat) ≠ 69 by decide)]
    rw [pk_sub hsk, ib_nI (by omega), ib_nI (by omega)]
    simp only [gd_dec (show k < 40 by omega), gd_dec (show k - s < 40 by omega)]
    rw [nI_clamp (by omega), nI_clamp (by omega), a1, a2, a3, a4, nI_1, nI_1]
    by_cases hc : l.getD k 0 ≤ l.getD (k - s) 0 + 1
    · rw [if_pos hc] at hx
      rw [if_pos (by rw [nI_leI (by omega) (by omega)]; exact hc), hx]
      exact e1 k20
    · rw [if_neg hc] at hx
      rw [if_neg (by rw [nI_leI (by omega) (by omega)]; exact hc), hx]
      exact e1 k20
theorem h9_loop {N r : Nat} (hN : 60 < N) (hr : r ≤ 20) : ∀ (m j : Nat) (t : jM) (q : Nat), (r + 1) / 2 - j = m → j ≤ (r + 1) / 2 → m < q → HR t (wo (fun s => 40 - s) j) (fo j) →
    ∃ t', (∀ k12, lp_X8_home_95 N (nI r) k12 q (nI (2 * j + 1)) t = k12 t') ∧ FrL [69, 70] t t' ∧ HR t' (wo (fun s => 40 - s) ((r + 1) / 2)) (fo ((r + 1) / 2)) := by
  intro m
  induction m with
  | zero =>
    intro j t q hm hj hq hf
    obtain ⟨q, rfl⟩ : ∃ r, q = r + 1 := ⟨q - 1, by omega⟩
    have e : j = (r + 1) / 2 := by omega
    refine ⟨t, fun k4 => ?_, FrL.rf, by rw [← e]; exact hf⟩
    rw [lp_X8_home_95, if_pos (by rw [nI_ltI (by omega) (by omega)]; omega)]
  | succ m ih =>
    intro j t q hm hj hq hf
    obtain ⟨q, rfl⟩ : ∃ r, q = r + 1 := ⟨q - 1, by omega⟩
    obtain ⟨u, u1, u2, u3⟩ := h5_loop (N := N) (s := 2 * j + 1) (by omega) (by omega) (40 - (2 * j + 1)) (2 * j + 1) (wo (fun s => 40 - s) j) (fo j) t N rfl (by omega) (Nat.le_refl _) (by omega) hf
    obtain ⟨t', e1, e2, e3⟩ := ih (j + 1) u q (by omega) (by omega) (by omega) u3
    refine ⟨t', fun k4 => ?_, fr_tr u2 e2, e3⟩
    rw [lp_X8_home_95, if_neg (by rw [nI_ltI (by omega) (by omega)]; omega)]
    simp only [jn_, lt_]
    rw [u1, show nI (2 * j + 1) + (2 : Int32) = nI (2 * (j + 1) + 1) from nI_add _ 2]
    exact e1 k4
theorem fo0_at : ∀ i, i < 40 → (fo 0).getD i 0 = if i = 0 then 0 else 1000000 := by decide +kernel
theorem fo0_le (i : Nat) : (fo 0).getD i 0 ≤ 1000000 := by
  by_cases h : i < 40
  · rw [fo0_at i h]; split <;> omega
  · have : (fo 0)[i]? = none := List.getElem?_eq_none (by show (0 :: List.replicate 39 1000000).length ≤ i; simp; omega)
    rw [List.getD_eq_getElem?_getD, this]
    exact Nat.zero_le _
theorem h4_loop {N : Nat} : ∀ (m k : Nat) (t : jM) (q : Nat), 40 - k = m → k ≤ 40 → m < q → (∀ i, i < k → gI t 69 i = wo (fun s => 40 - s) 0 i ∧ gI t 70 i = nI ((fo 0).getD i 0)) →
    ∃ t', (∀ k10, lp_X8_home_44 N k10 q (nI k) t = k10 t') ∧ FrL [69, 70] t t' ∧ HR t' (wo (fun s => 40 - s) 0) (fo 0) := by
  intro m
  induction m with
  | zero =>
    intro k t q hm hk hq hv
    obtain ⟨q, rfl⟩ : ∃ r, q = r + 1 := ⟨q - 1, by omega⟩
    refine ⟨t, fun k10 => ?_, FrL.rf, rfl, fo0_le, fun i hi => hv i (by omega)⟩
    rw [lp_X8_home_44, if_pos (by rw [c_le (by omega) (by omega)]; omega)]
  | succ m ih =>
    intro k t q hm hk hq hv
    obtain ⟨q, rfl⟩ : ∃ r, q = r + 1 := ⟨q - 1, by omega⟩
    have hf0 := fo0_at k (by omega)
    generalize hx : (if k = 0 then 0 else 1000000) = x at hf0
    have hfr : FrL [69, 70] t (pI (pI t 69 k (wo (fun s => 40 - s) 0 k)) 70 k (nI x)) := fr_pI (fr_pI FrL.rf (by decide)) (by decide)
    obtain ⟨t', e1, e2, e3⟩ := ih (k + 1) (pI (pI t 69 k (wo (fun s => 40 - s) 0 k)) 70 k (nI x)) q (by omega) (by omega) (by omega) (fun i hi => by
      rw [gI_pI_ne (show (69 : Nat) ≠ 70 by decide), gI_pI_cell, gI_pI_cell, gI_pI_ne (show (70 : Nat) ≠ 69 by decide)]
      by_cases hik : i = k
      · rw [if_pos hik, if_pos hik, hik, hf0]; exact ⟨rfl, rfl⟩
      · rw [if_neg hik, if_neg hik]; exact hv i (by omega))
    refine ⟨t', fun k10 => ?_, fr_tr hfr e2, e3⟩
    rw [lp_X8_home_44, if_neg (by rw [c_le (by omega) (by omega)]; omega)]
    simp only [jn_, lt_]
    rw [ib_nI (by omega)]
    simp only [gd_dec (show k < 40 by omega)]
    rw [nI_clamp (by omega), nI_1]
    have hw : wo (fun s => 40 - s) 0 k = if k = 0 then (1 : Int32) else 0 := rfl
    rw [hw] at e1
    by_cases h0 : k = 0
    · subst h0
      rw [if_pos rfl] at e1 hx
      rw [if_pos (by decide), if_pos (by decide)]
      rw [← hx] at e1
      exact e1 k10
    · rw [if_neg h0] at e1 hx
      rw [if_neg (nI_ne0 (by omega) (by omega)), if_neg (nI_ne0 (by omega) (by omega))]
      rw [← hx] at e1
      exact e1 k10
theorem OP_home {N : Nat} {a b c : Int32} {s : jM} (hN : 1000 < N) (h : INV s) : OPI (f_X7_home N a b c s) (f_X8_home N a b c) := by
  obtain ⟨v, h⟩ := h
  have ea : f_X8_in (Int32.toInt64 a) (1 : Int64) (40 : Int64) = f_X7_isWithin a (1 : Int32) (40 : Int32) := in_eq a 1 40
  have eb : f_X8_in (Int32.toInt64 b) (1 : Int64) (20 : Int64) = f_X7_isWithin b (1 : Int32) (20 : Int32) := in_eq b 1 20
  have ec : f_X8_in (Int32.toInt64 c) (0 : Int64) (1 : Int64) = f_X7_isWithin c (0 : Int32) (1 : Int32) := in_eq c 0 1
  have wa : (f_X7_isWithin a (1 : Int32) (40 : Int32) = some 0) ∨ ∃ n, 1 ≤ n ∧ n ≤ 40 ∧ a = nI n ∧ f_X7_isWithin a (1 : Int32) (40 : Int32) = some 1 := within_ok a (lo := 1) (hi := 40) (by omega) (by omega)
  have wb : (f_X7_isWithin b (1 : Int32) (20 : Int32) = some 0) ∨ ∃ n, 1 ≤ n ∧ n ≤ 20 ∧ b = nI n ∧ f_X7_isWithin b (1 : Int32) (20 : Int32) = some 1 := within_ok b (lo := 1) (hi := 20) (by omega) (by omega)
  have wc : (f_X7_isWithin c (0 : Int32) (1 : Int32) = some 0) ∨ ∃ n, 0 ≤ n ∧ n ≤ 1 ∧ c = nI n ∧ f_X7_isWithin c (0 : Int32) (1 : Int32) = some 1 := within_ok c (lo := 0) (hi := 1) (by omega) (by omega)
  rcases wa with xa | ⟨n, hn1, hn, rfl, xa⟩
  · refine op_bad h ?_ (fun t hR => ?_)
    · simp only [f_X7_home, jn_]; rw [xa, Option.bind_some, if_pos rfl]; rfl
    · simp only [f_X8_home, jn_]; rw [ea, xa, Option.bind_some, if_pos rfl]; rfl
  · rcases wb with xb | ⟨r, hr1, hr, rfl, xb⟩
    · refine op_bad h ?_ (fun t hR => ?_)
      · simp only [f_X7_home, jn_]; rw [xa, Option.bind_some, if_neg (by decide), xb, Option.bind_some, if_pos rfl]; rfl
      · simp only [f_X8_home, jn_]; rw [ea, xa, Option.bind_some, if_neg (by decide), eb, xb, Option.bind_some, if_pos rfl]; rfl
    · rcases wc with xc | ⟨z, _, hz, rfl, xc⟩
      · refine op_bad h ?_ (fun t hR => ?_)
        · simp only [f_X7_home, jn_]; rw [xa, Option.bind_some, if_neg (by decide), xb, Option.bind_some, if_neg (by decide), xc, Option.bind_some, if_pos rfl]; rfl
        · simp only [f_X8_home, jn_]; rw [ea, xa, Option.bind_some, if_neg (by decide), eb, xb, Option.bind_some, if_neg (by decide), ec, xc, Option.bind_some, if_pos rfl]; rfl
      · have hp : n - 1 < 40 := by omega
        have hn0 : nI n - (1 : Int32) = nI (n - 1) := pk_sub (b := 1) hn1
        have B : ∀ t, ∃ u, f_X8_home N (nI n) (nI r) (nI z) t = some (if nI z = 0 then wo (fun s => 40 - s) ((r + 1) / 2) (n - 1) else nI ((fo ((r + 1) / 2)).getD (n - 1) 0), u) ∧ FrL [69, 70] t u := by
          intro t
          obtain ⟨u, u1, u2, u3⟩ := h4_loop (N := N) 40 0 t N rfl (by omega) (by omega) (fun i hi => by omega)
          obtain ⟨w, w1, w2, w3⟩ := h9_loop (N := N) (r := r) (by omega) hr ((r + 1) / 2) 0 u N rfl (by omega) (by omega) u3
          have u1' : ∀ k10, lp_X8_home_44 N k10 N (0 : Int32) t = k10 u := u1
          have w1' : ∀ k12, lp_X8_home_95 N (nI r) k12 N (1 : Int32) u = k12 w := w1
          obtain ⟨v1, v2⟩ := w3.2.2 (n - 1) hp
          have hval := fo_at (j := (r + 1) / 2) (k := n - 1) (by omega) (by omega) hp
          have hle := cls_le (L := 2 * ((r + 1) / 2) - 1) (k := n - 1) (n - 1) 0
          have hlt : nI ((fo ((r + 1) / 2)).getD (n - 1) 0) < (1000000 : Int32) := by rw [lt_c (by omega) (by omega)]; omega
          refine ⟨w, ?_, fr_tr u2 w2⟩
          simp only [f_X8_home, jn_]
          rw [ea, xa, Option.bind_some, if_neg (by decide), eb, xb, Option.bind_some, if_neg (by decide), ec, xc, Option.bind_some, if_neg (by decide), u1', w1', hn0, ib_nI (by omega), gd_dec hp, gd_dec hp, gd_dec hp, nI_clamp (by omega), v1, v2, if_pos hlt]
          split <;> rfl
        have hz2 : z = 0 ∨ z = 1 := by omega
        rcases hz2 with rfl | rfl
        · obtain ⟨t, t1, t2⟩ := waysHome_ok (N := N) (p := n - 1) (r := r) (s := s) hN hp hr
          have ht : INVv t v := h.cls (fr_mono t2 (by decide)) (h.2.1.c t2 (by decide)) (h.2.2.2.2.2.2.1.fr t2 (by decide) (by decide) (by decide) (by decide)) (h.2.2.2.2.2.2.2.1.fr t2 (by decide) (by decide)) (h.2.2.2.2.2.2.2.2.fr t2 (by decide) (by decide) (by decide))
          obtain ⟨u, u1, u2⟩ := B t
          refine ⟨wo (fun s => 40 - s) ((r + 1) / 2) (n - 1), t, u, ?_, ?_, v, ht.ref (fr_mono u2 (by decide)) (fr_gL u2 (by decide)) (fr_gL u2 (by decide))⟩
          · simp only [f_X7_home, jn_]
            rw [xa, Option.bind_some, if_neg (by decide), xb, Option.bind_some, if_neg (by decide), xc, Option.bind_some, if_neg (by decide), if_pos (by decide), hn0, t1]
            rfl
          · rw [u1, if_pos (by decide)]
        · obtain ⟨u, u1, u2⟩ := B s
          refine ⟨nI ((fo ((r + 1) / 2)).getD (n - 1) 0), s, u, ?_, ?_, v, h.ref (fr_mono u2 (by decide)) (fr_gL u2 (by decide)) (fr_gL u2 (by decide))⟩
          · simp only [f_X7_home, jn_]
            rw [xa, Option.bind_some, if_neg (by decide), xb, Option.bind_some, if_neg (by decide), xc, Option.bind_some, if_neg (by decide), if_neg (by decide), hn0, fewestHome_ok hN hp hr hr1]
            rfl
          · rw [u1, if_neg (by decide)]
