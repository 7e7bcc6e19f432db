/-! all over in companies, as numbers -/
def rmn (l x : Nat) : Nat := msk (fun j => l.testBit j && !x.testBit j) 8
def lead (l : Nat) : Nat := l &&& (256 - l)
theorem lead_ok : ∀ l, l < 256 → nI l &&& -(nI l) = nI (lead l) := by decide +kernel
theorem lead_pos : ∀ l, l < 256 → 0 < l → 0 < lead l ∧ lead l ≤ l := by decide +kernel
theorem lead_low : ∀ l, l < 256 → ∀ x, x < lead l → x &&& lead l = 0 := by decide +kernel
theorem rmn_256 (l x : Nat) : rmn l x < 256 := msk_lt _ 8
theorem rmn_bit {l x i : Nat} (hl : l < 256) : (rmn l x).testBit i = (l.testBit i && !x.testBit i) := by
  unfold rmn
  rw [msk_bit]
  by_cases h : i < 8
  · simp [h]
  · rw [bit_lt256 hl (by omega)]; simp
theorem rmn_le {l x : Nat} (hl : l < 256) : rmn l x ≤ l := by
  have e : rmn l x &&& l = rmn l x := by
    apply Nat.eq_of_testBit_eq
    intro i
    rw [Nat.testBit_and, rmn_bit hl]
    cases l.testBit i <;> simp
  rw [← e]
  exact Nat.and_le_right
theorem rmn_lt {l x : Nat} (hl : l < 256) (h : ¬ x &&& lead l = 0) : rmn l x < l := by
  obtain ⟨i, hi⟩ := Nat.exists_testBit_of_ne_zero h
  rw [Nat.testBit_and] at hi
  unfold lead at hi
  rw [Nat.testBit_and] at hi
  simp only [Bool.and_eq_true] at hi
  have h1 := rmn_le (x := x) hl
  have h2 : rmn l x ≠ l := fun z => by
    have := rmn_bit (x := x) (i := i) hl
    rw [z, hi.1, hi.2.1] at this
    cases this
  omega
noncomputable def beg (v : Nat → Nat) (a : Nat) : Nat := if wellB v a 0 0 then 0 else if wellB v a 1 0 then 1 else 2
def tms (v : Nat → Nat) (a : Nat) : Nat → Nat
  | 0 => 0
  | i + 1 => if a.testBit i && decide (tms v a i < v (4 * i + 1)) then v (4 * i + 1) else tms v a i
def tim (v : Nat → Nat) (a : Nat) : Nat := tms v a (v 99)
theorem tms_le {v : Nat → Nat} {a : Nat} (h : OkV v) : ∀ i, i ≤ v 99 → tms v a i ≤ 20 := by
  intro i
  induction i with
  | zero => intro _; exact Nat.zero_le _
  | succ i ih =>
    intro hi
    have h1 := ih (by omega)
    have h2 := (h.2.2.2.2.2.1 i (by omega)).2.2.1
    simp only [tms]
    split <;> omega
theorem tim_le {v : Nat → Nat} {a : Nat} (h : OkV v) : tim v a ≤ 20 := tms_le h _ (Nat.le_refl _)
theorem tms_more {v : Nat → Nat} {a : Nat} (ha : ∀ i, v 99 ≤ i → a.testBit i = false) : ∀ k, tms v a (v 99 + k) = tim v a := by
  intro k
  induction k with
  | zero => rfl
  | succ k ih =>
    rw [← Nat.add_assoc]
    simp only [tms]
    rw [ha _ (by omega), ih]
    rfl
abbrev TE : Type := Option (Nat × Nat × Nat × Nat)
noncomputable def fit (v : Nat → Nat) (l x : Nat) : Bool := sub8 x l && decide (¬ x &&& lead l = 0) && decide (beg v x < 2)
def bet (m p : Nat) : TE → Bool
  | none => true
  | some e => decide (m < e.1) || (decide (m = e.1) && decide (p < e.2.1))
def upe (m p x q : Nat) : TE → Nat × Nat × Nat × Nat
  | none => (m, p, x, q)
  | some e => (if bet m p (some e) then m else e.1, if bet m p (some e) then p else e.2.1, if bet m p (some e) then x else e.2.2.1, if q < e.2.2.2 then q else e.2.2.2)
noncomputable def ent (v : Nat → Nat) (T : Nat → TE) (l x : Nat) (t : TE) : TE := if fit v l x then (match T (rmn l x) with
  | none => t
  | some g => some (upe (tim v x + g.1) (beg v x * v 33 + g.2.1) x (beg v x * v 33 + g.2.2.2) t)) else t
theorem ent_no {v : Nat → Nat} {T : Nat → TE} {l x : Nat} {t : TE} (h : fit v l x = false) : ent v T l x t = t := by unfold ent; rw [h]; rfl
theorem ent_none {v : Nat → Nat} {T : Nat → TE} {l x : Nat} {t : TE} (h : T (rmn l x) = none) : ent v T l x t = t := by
  unfold ent; rw [h]; split <;> rfl
theorem ent_some {v : Nat → Nat} {T : Nat → TE} {l x : Nat} {t : TE} {g : Nat × Nat × Nat × Nat} (h : fit v l x = true) (hT : T (rmn l x) = some g) : ent v T l x t = some (upe (tim v x + g.1) (beg v x * v 33 + g.2.1) x (beg v x * v 33 + g.2.2.2) t) := by
  unfold ent; rw [h, hT]; rfl
noncomputable def scanE (v : Nat → Nat) (T : Nat → TE) (l : Nat) : Nat → Nat → TE → TE
  | 0, _, t => t
  | k + 1, x, t => scanE v T l k (x + 1) (ent v T l x t)
theorem scanE_skip {v : Nat → Nat} {T : Nat → TE} {l k : Nat} {t : TE} : ∀ j x, (∀ y, x ≤ y → y < x + j → fit v l y = false) → scanE v T l (k + j) x t = scanE v T l k (x + j) t := by
  intro j
  induction j with
  | zero => intro x _; rfl
  | succ j ih =>
    intro x h
    rw [← Nat.add_assoc]
    simp only [scanE]
    rw [ent_no (h x (Nat.le_refl _) (by omega)), ih (x + 1) (fun y h1 h2 => h y (by omega) (by omega))]
    congr 1
    omega
noncomputable def Tb (v : Nat → Nat) : Nat → Nat → TE
  | 0 => fun i => if i = 0 then some (0, 0, 0, 0) else none
  | n + 1 => fun i => if i = n + 1 then scanE v (Tb v n) (n + 1) (n + 1) 1 none else Tb v n i
theorem Tb_same {v : Nat → Nat} {n i : Nat} (h : i ≤ n) : ∀ k, Tb v (n + k) i = Tb v n i := by
  intro k
  induction k with
  | zero => rfl
  | succ k ih =>
    rw [← Nat.add_assoc]
    simp only [Tb]
    rw [if_neg (by omega), ih]
theorem Tb_new {v : Nat → Nat} {n : Nat} : Tb v (n + 1) (n + 1) = scanE v (Tb v n) (n + 1) (n + 1) 1 none := by simp only [Tb]; rw [if_pos trivial]
/-- not so much, and never more -/
def okE (l : Nat) (t : TE) : Prop := ∀ e, t = some e → e.1 ≤ 20 * l ∧ e.2.1 ≤ 99 * l ∧ e.2.2.2 ≤ 99 * l
theorem beg_le {v : Nat → Nat} {a : Nat} : beg v a ≤ 2 := by unfold beg; split; omega; split <;> omega
theorem fit_spec {v : Nat → Nat} {l x : Nat} (h : fit v l x = true) : sub8 x l = true ∧ (¬ x &&& lead l = 0) ∧ beg v x < 2 := by
  unfold fit at h
  simp only [Bool.and_eq_true, decide_eq_true_eq] at h
  exact ⟨h.1.1, h.1.2, h.2⟩
theorem pay_le {v : Nat → Nat} {a : Nat} (h : OkV v) (hb : beg v a < 2) : beg v a * v 33 ≤ 99 := by
  have h1 := h.2.2.2.2.1
  have h2 : beg v a = 0 ∨ beg v a = 1 := by omega
  rcases h2 with h2 | h2 <;> rw [h2] <;> omega
theorem okE_ent {v : Nat → Nat} {T : Nat → TE} {l x : Nat} {t : TE} (h : OkV v) (hl : l < 256) (hT : ∀ i, i < l → okE i (T i)) (ht : okE l t) : okE l (ent v T l x t) := by
  cases hf : fit v l x with
  | false => rw [ent_no hf]; exact ht
  | true =>
    obtain ⟨f1, f2, f3⟩ := fit_spec hf
    cases hg : T (rmn l x) with
    | none => rw [ent_none hg]; exact ht
    | some g =>
      rw [ent_some hf hg]
      have hr := rmn_lt hl f2
      obtain ⟨g1, g2, g3⟩ := hT _ hr g hg
      have ht1 := tim_le (a := x) h
      have hp := pay_le h f3
      generalize hk : beg v x * v 33 = k at *
      have a1 : tim v x + g.1 ≤ 20 * l := by omega
      have a2 : k + g.2.1 ≤ 99 * l := by omega
      have a3 : k + g.2.2.2 ≤ 99 * l := by omega
      intro e he
      cases he
      cases t with
      | none => exact ⟨a1, a2, a3⟩
      | some c =>
        obtain ⟨c1, c2, c3⟩ := ht c rfl
        simp only [upe]
        refine ⟨?_, ?_, ?_⟩ <;> split <;> omega
theorem okE_scan {v : Nat → Nat} {T : Nat → TE} {l : Nat} (h : OkV v) (hl : l < 256) (hT : ∀ i, i < l → okE i (T i)) : ∀ (k x : Nat) (t : TE), okE l t → okE l (scanE v T l k x t) := by
  intro k
  induction k with
  | zero => intro x t ht; exact ht
  | succ k ih => intro x t ht; exact ih _ _ (okE_ent h hl hT ht)
theorem okE_Tb {v : Nat → Nat} (h : OkV v) : ∀ n, n < 256 → ∀ i, okE i (Tb v n i) := by
  intro n
  induction n with
  | zero =>
    intro _ i e he
    simp only [Tb] at he
    split at he
    · cases he; simp
    · cases he
  | succ n ih =>
    intro hn i
    by_cases hi : i = n + 1
    · rw [hi, Tb_new]
      exact okE_scan h hn (fun j _ => ih (by omega) j) _ _ _ (fun e he => by cases he)
    · have e : Tb v (n + 1) i = Tb v n i := by simp only [Tb]; rw [if_neg hi]
      rw [e]
      exact ih (by omega) i
/-- what the scan found -/
def SP (v : Nat → Nat) (T : Nat → TE) (l k : Nat) (t : TE) : Prop :=
  (t = none → ∀ y, 1 ≤ y → y < k → fit v l y = true → T (rmn l y) = none) ∧
  ∀ e, t = some e → 1 ≤ e.2.2.1 ∧ e.2.2.1 < k ∧ fit v l e.2.2.1 = true ∧ (∃ g, T (rmn l e.2.2.1) = some g ∧ e.1 = tim v e.2.2.1 + g.1 ∧ e.2.1 = beg v e.2.2.1 * v 33 + g.2.1) ∧
    (∀ y, 1 ≤ y → y < k → fit v l y = true → ∀ g, T (rmn l y) = some g → e.1 < tim v y + g.1 ∨ (e.1 = tim v y + g.1 ∧ e.2.1 ≤ beg v y * v 33 + g.2.1)) ∧
    (∀ y, 1 ≤ y → y < e.2.2.1 → fit v l y = true → ∀ g, T (rmn l y) = some g → e.1 < tim v y + g.1 ∨ (e.1 = tim v y + g.1 ∧ e.2.1 < beg v y * v 33 + g.2.1))
theorem SP_ent {v : Nat → Nat} {T : Nat → TE} {l k : Nat} {t : TE} (hk : 1 ≤ k) (hS : SP v T l k t) : SP v T l (k + 1) (ent v T l k t) := by
  obtain ⟨h1, h2⟩ := hS
  have stay : (∀ g, fit v l k = true → T (rmn l k) = some g → False) → SP v T l (k + 1) t := by
    intro hno
    refine ⟨fun ht y y1 y2 yf => ?_, fun e he => ?_⟩
    · by_cases hy : y = k
      · subst hy
        cases hg : T (rmn l y) with
        | none => rfl
        | some g => exact (hno g yf hg).elim
      · exact h1 ht y y1 (by omega) yf
    · obtain ⟨a, b, c, d, f, g⟩ := h2 e he
      refine ⟨a, by omega, c, d, fun y y1 y2 yf gg hg => ?_, g⟩
      by_cases hy : y = k
      · subst hy; exact (hno gg yf hg).elim
      · exact f y y1 (by omega) yf gg hg
  cases hf : fit v l k with
  | false => rw [ent_no hf]; exact stay (fun g z _ => by rw [hf] at z; cases z)
  | true =>
    cases hg : T (rmn l k) with
    | none => rw [ent_none hg]; exact stay (fun g _ z => by rw [hg] at z; cases z)
    | some g =>
      rw [ent_some hf hg]
      refine ⟨fun z => (by cases z), fun e he => ?_⟩
      cases he
      cases t with
      | none =>
        refine ⟨hk, Nat.lt_succ_self _, hf, ⟨g, hg, rfl, rfl⟩, fun y y1 y2 yf gg hgg => ?_, fun y y1 y2 yf gg hgg => ?_⟩
        · by_cases hy : y = k
          · subst hy
            rw [hg] at hgg; cases hgg
            exact Or.inr ⟨rfl, Nat.le_refl _⟩
          · rw [h1 rfl y y1 (by omega) yf] at hgg; cases hgg
        · have y2' : y < k := y2
          rw [h1 rfl y y1 y2' yf] at hgg; cases hgg
      | some c =>
        obtain ⟨a, b, cf, d, f, s⟩ := h2 c rfl
        cases hb : bet (tim v k + g.1) (beg v k * v 33 + g.2.1) (some c) with
        | true =>
          have hb2 : tim v k + g.1 < c.1 ∨ (tim v k + g.1 = c.1 ∧ beg v k * v 33 + g.2.1 < c.2.1) := by simpa [bet] using hb
          simp only [upe, hb, if_true]
          have all : ∀ y, 1 ≤ y → y < k → fit v l y = true → ∀ gg, T (rmn l y) = some gg → tim v k + g.1 < tim v y + gg.1 ∨ (tim v k + g.1 = tim v y + gg.1 ∧ beg v k * v 33 + g.2.1 < beg v y * v 33 + gg.2.1) := by
            intro y y1 y2 yf gg hgg
            have := f y y1 y2 yf gg hgg
            omega
          refine ⟨hk, Nat.lt_succ_self _, hf, ⟨g, hg, rfl, rfl⟩, fun y y1 y2 yf gg hgg => ?_, all⟩
          by_cases hy : y = k
          · subst hy
            rw [hg] at hgg; cases hgg
            exact Or.inr ⟨rfl, Nat.le_refl _⟩
          · have := all y y1 (by omega) yf gg hgg
            omega
        | false =>
          have hb2 : ¬ (tim v k + g.1 < c.1 ∨ (tim v k + g.1 = c.1 ∧ beg v k * v 33 + g.2.1 < c.2.1)) := by simpa [bet] using hb
          simp only [upe, hb, Bool.false_eq_true, if_false]
          refine ⟨a, by omega, cf, d, fun y y1 y2 yf gg hgg => ?_, s⟩
          by_cases hy : y = k
          · subst hy
            rw [hg] at hgg; cases hgg
            omega
          · exact f y y1 (by omega) yf gg hgg
theorem SP_scan {v : Nat → Nat} {T : Nat → TE} {l : Nat} : ∀ (k x : Nat) (t : TE), 1 ≤ x → SP v T l x t → SP v T l (x + k) (scanE v T l k x t) := by
  intro k
  induction k with
  | zero => intro x t _ h; exact h
  | succ k ih =>
    intro x t hx h
    have := ih (x + 1) (ent v T l x t) (by omega) (SP_ent hx h)
    rw [show x + (k + 1) = x + 1 + k from by omega]
    exact this
theorem SP_Tb {v : Nat → Nat} {n : Nat} : SP v (Tb v n) (n + 1) (n + 2) (Tb v (n + 1) (n + 1)) := by
  rw [Tb_new]
  have := SP_scan (v := v) (T := Tb v n) (l := n + 1) (n + 1) 1 none (Nat.le_refl _) ⟨fun _ y y1 y2 => by omega, fun e he => by cases he⟩
  rw [show 1 + (n + 1) = n + 2 from by omega] at this
  exact this
/-- the table whole -/
noncomputable def TT (v : Nat → Nat) (i : Nat) : TE := Tb v 255 i
theorem TT_of {v : Nat → Nat} {n i : Nat} (hn : n ≤ 255) (hi : i ≤ n) : Tb v n i = TT v i := by
  unfold TT
  have := Tb_same (v := v) hi (255 - n)
  rw [show n + (255 - n) = 255 from by omega] at this
  exact this.symm
theorem TT_0 {v : Nat → Nat} : TT v 0 = some (0, 0, 0, 0) := by
  rw [← TT_of (n := 0) (by omega) (Nat.le_refl _)]
  simp only [Tb]
  rw [if_pos trivial]
theorem TT_ok {v : Nat → Nat} (h : OkV v) (i : Nat) : okE i (TT v i) := okE_Tb h 255 (by omega) i
theorem TT_sp {v : Nat → Nat} {l : Nat} (h0 : 0 < l) (hl : l < 256) : SP v (TT v) l (l + 1) (TT v l) := by
  obtain ⟨n, rfl⟩ : ∃ n, l = n + 1 := ⟨l - 1, by omega⟩
  have := SP_Tb (v := v) (n := n)
  rw [TT_of (n := n + 1) (by omega) (Nat.le_refl _)] at this
  have e : ∀ y, fit v (n + 1) y = true → Tb v n (rmn (n + 1) y) = TT v (rmn (n + 1) y) := fun y hy => TT_of (by omega) (by have := rmn_lt hl (fit_spec hy).2.1; omega)
  obtain ⟨h1, h2⟩ := this
  refine ⟨fun ht y y1 y2 yf => by rw [← e y yf]; exact h1 ht y y1 y2 yf, fun c hc => ?_⟩
  obtain ⟨a, b, d, f, g, s⟩ := h2 c hc
  refine ⟨a, b, d, ?_, fun y y1 y2 yf gg hg => g y y1 y2 yf gg (by rw [e y yf]; exact hg), fun y y1 y2 yf gg hg => s y y1 y2 yf gg (by rw [e y yf]; exact hg)⟩
  rw [← e _ d]
  exact f
theorem ent_congr {v : Nat → Nat} {T T' : Nat → TE} {l x : Nat} {t : TE} (h : fit v l x = true → T (rmn l x) = T' (rmn l x)) : ent v T l x t = ent v T' l x t := by
  cases hf : fit v l x with
  | false => rw [ent_no hf, ent_no hf]
  | true => unfold ent; rw [h hf]
theorem scanE_congr {v : Nat → Nat} {T T' : Nat → TE} {l : Nat} (h : ∀ y, fit v l y = true → T (rmn l y) = T' (rmn l y)) : ∀ (k x : Nat) (t : TE), scanE v T l k x t = scanE v T' l k x t := by
  intro k
  induction k with
  | zero => intro x t; rfl
  | succ k ih => intro x t; simp only [scanE]; rw [ent_congr (h x), ih]
theorem TT_new {v : Nat → Nat} {n : Nat} (hn : n + 1 < 256) : TT v (n + 1) = scanE v (TT v) (n + 1) (n + 1) 1 none := by
  rw [← TT_of (n := n + 1) (by omega) (Nat.le_refl _), Tb_new]
  exact scanE_congr (fun y hy => TT_of (by omega) (by have := rmn_lt hn (fit_spec hy).2.1; omega)) _ _ _
