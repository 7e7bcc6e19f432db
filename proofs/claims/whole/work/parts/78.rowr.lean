/-! the row in the reference -/
theorem isNext_ok {v : Nat → Nat} {N x l : Nat} {s : jM} {e : Nat × Nat × Nat × Nat} (hN : 60 < N) (h : OkV v) (hl : l < 256) (h0 : 0 < l) (hx : x < 256) (h1 : 1 ≤ x) (hxf : x ≤ fstE v l) (hR : RM s 54 0 v) (hP : gI s 67 x = prR v x) (hT : ∀ i, i ≤ l → RTE s i (TT v i)) (he : TT v l = some e) :
    f_X8_isNext N (nI x) (nI l) s = some (if x = fstE v l then 1 else 0) := by
  obtain ⟨f1, f2, f3, f4, ⟨g, g1, g2, g3⟩, f5⟩ := fstE_spec h0 hl he
  have hr8 := rmn_256 l x
  have ho := TT_ok h l e he
  have hL := hT l (Nat.le_refl _)
  rw [he] at hL
  have l1 : gI s 64 l = nI e.1 := hL.1
  have l2 : gI s 65 l = nI e.2.1 := hL.2.1
  simp only [f_X8_isNext, jn_, lt_]
  rw [show nI l &&& (nI x ^^^ (-1)) = nI (rmn l x) from and_not hl, mayGo_ok h hx hl hP, Option.bind_some]
  cases hf : fit v l x with
  | false =>
    rw [if_pos (by decide)]
    have : ¬ x = fstE v l := fun z => by rw [z, f4] at hf; cases hf
    rw [if_neg this]
  | true =>
    obtain ⟨_, k2, k3⟩ := fit_spec hf
    have hrl := rmn_lt hl k2
    have hRT := hT _ (Nat.le_of_lt hrl)
    rw [if_pos rfl, if_neg (by decide), timeOf_ok hN h hR hx, Option.bind_some]
    simp only [ib_nI (show x < 2 ^ 31 by omega), ib_nI (show l < 2 ^ 31 by omega), ib_nI (show rmn l x < 2 ^ 31 by omega), gd_dec hx, gd_dec hl, gd_dec hr8, nI_clamp (show x < 2 ^ 31 by omega), nI_clamp (show l < 2 ^ 31 by omega), nI_clamp (show rmn l x < 2 ^ 31 by omega)]
    have p1 := tim_le (a := x) h
    have p2 := pay_le h k3
    have g0 : gI s 67 x = nI (beg v x * v 33) := by rw [hP]; unfold prR; rw [if_pos k3]
    rw [hRT.1, hRT.2.1, l1, l2, g0]
    cases hg : TT v (rmn l x) with
    | none =>
      have : ¬ x = fstE v l := fun z => by rw [← z] at g1; rw [g1] at hg; cases hg
      rw [show rE (fun e => e.1) none = nI 1000000 from rfl, nI_add, if_neg (by rw [nI_eq (by omega) (by omega)]; omega), if_neg this]
    | some g' =>
      obtain ⟨o1, o2, o3⟩ := TT_ok h _ g' hg
      rw [show rE (fun e => e.1) (some g') = nI g'.1 from rfl, show rE (fun e => e.2.1) (some g') = nI g'.2.1 from rfl, nI_add, nI_add]
      by_cases hxe : x = fstE v l
      · rw [← hxe] at g1 g2 g3
        rw [g1] at hg
        cases hg
        rw [if_pos (by rw [g2]), if_pos (by rw [g3]), if_pos hxe]
      · rw [if_neg hxe]
        have hno := f5 x h1 (by omega) hf g' hg
        by_cases hm : tim v x + g'.1 = e.1
        · rw [if_pos (by rw [hm]), if_neg (by rw [nI_eq (by omega) (by omega)]; exact fun z => hno ⟨hm, z⟩)]
        · rw [if_neg (by rw [nI_eq (by omega) (by omega)]; exact hm)]
theorem nx_loop {v : Nat → Nat} {N l : Nat} {s : jM} {k10 : Int32 → Option (Int32 × jM)} {e : Nat × Nat × Nat × Nat} (hN : 60 < N) (h : OkV v) (hl : l < 256) (h0 : 0 < l) (hR : RM s 54 0 v) (hP : ∀ i, 1 ≤ i → i ≤ l → gI s 67 i = prR v i) (hT : ∀ i, i ≤ l → RTE s i (TT v i)) (he : TT v l = some e) :
    ∀ (m x q : Nat), fstE v l - x = m → 1 ≤ x → x ≤ fstE v l → m < q → lp_X8_layRow_33 N (nI l) s k10 q (nI x) = k10 (nI (fstE v l)) := by
  obtain ⟨f1, f2, f3, f4, _, _⟩ := fstE_spec h0 hl he
  intro m
  induction m with
  | zero =>
    intro x q hm h1 hx hq
    obtain ⟨q, rfl⟩ : ∃ r, q = r + 1 := ⟨q - 1, by omega⟩
    rw [lp_X8_layRow_33, isNext_ok hN h hl h0 (by omega) h1 hx hR (hP x h1 (by omega)) hT he, Option.bind_some, if_pos (show x = fstE v l by omega), if_neg (by decide), show x = fstE v l from by omega]
  | succ m ih =>
    intro x q hm h1 hx hq
    obtain ⟨q, rfl⟩ : ∃ r, q = r + 1 := ⟨q - 1, by omega⟩
    rw [lp_X8_layRow_33, isNext_ok hN h hl h0 (by omega) h1 hx hR (hP x h1 (by omega)) hT he, Option.bind_some, if_neg (show ¬ x = fstE v l by omega), if_pos rfl]
    simp only [lt_]
    rw [nI_1]
    exact ih (x + 1) q (by omega) (by omega) (by omega) (by omega)
theorem lr_loop {v : Nat → Nat} {N l : Nat} (hN : 1000 < N) (h : OkV v) (hl : l < 256) (ht : TT v l ≠ none) : ∀ (m i : Nat) (s : jM) (q : Nat), 8 - i = m → i ≤ 8 → m < q → (∀ j, j < i → lft v l j ≠ 0) → RM s 54 0 v → (∀ a, 1 ≤ a → a ≤ l → gI s 67 a = prR v a) → (∀ a, a ≤ l → RTE s a (TT v a)) → lft v l i ≤ l → gI s 53 23 = nI i → (∀ j, j < i → gI s 68 j = nI (fstE v (lft v l j))) →
    ∃ s' c, lp_X8_layRow_27 N q (nI (lft v l i)) s = some (1, s') ∧ FrP s s' ∧ (∀ a, a ≤ l → RTE s' a (TT v a)) ∧ CNT v l c ∧ c ≤ 8 ∧ gI s' 53 23 = nI c ∧ ∀ j, j < c → gI s' 68 j = nI (fstE v (lft v l j)) := by
  intro m
  induction m with
  | zero =>
    intro i s q hm hi hq hz hR hP hT hle h23 h68
    obtain ⟨q, rfl⟩ : ∃ r, q = r + 1 := ⟨q - 1, by omega⟩
    have e : i = 8 := by omega
    subst e
    have e8 := lft_8 hl ht hz
    refine ⟨s, 8, ?_, FrP.rf, hT, ⟨e8, hz⟩, Nat.le_refl _, h23, h68⟩
    rw [e8, lp_X8_layRow_27, if_pos (by decide)]
  | succ m ih =>
    intro i s q hm hi hq hz hR hP hT hle h23 h68
    obtain ⟨q, rfl⟩ : ∃ r, q = r + 1 := ⟨q - 1, by omega⟩
    have h4 := lft_256 (v := v) hl i
    by_cases h0 : lft v l i = 0
    · refine ⟨s, i, ?_, FrP.rf, hT, ⟨h0, hz⟩, by omega, h23, h68⟩
      rw [h0, lp_X8_layRow_27, if_pos (by decide)]
    · rw [lp_X8_layRow_27, if_neg (nI_ne0 (by omega) (by omega))]
      simp only [jn_, lt_]
      have h3 := lft_some hl ht i hz
      cases he : TT v (lft v l i) with
      | none => exact (h3 he).elim
      | some e =>
        obtain ⟨f1, f2, f3, f4, _, _⟩ := fstE_spec (by omega) h4 he
        have nx : ∀ k10, lp_X8_layRow_33 N (nI (lft v l i)) s k10 N (1 : Int32) = k10 (nI (fstE v (lft v l i))) := fun k10 => nx_loop (k10 := k10) (by omega) h h4 (by omega) hR (fun a a1 a2 => hP a a1 (by omega)) (fun a ha => hT a (by omega)) he (fstE v (lft v l i) - 1) 1 N rfl (Nat.le_refl _) f2 (by omega)
        rw [nx, h23, ib_nI (by omega), gd_dec (by omega), nI_clamp (by omega), show nI (lft v l i) &&& (nI (fstE v (lft v l i)) ^^^ (-1)) = nI (lft v l (i + 1)) from and_not h4, gI_pI_ne (show (53 : Nat) ≠ 68 by decide), h23, nI_1]
        have f : FrP s (pI (pI s 68 i (nI (fstE v (lft v l i)))) 53 23 (nI (i + 1))) := (FrP.of (L := [68]) (fr_pI FrL.rf (by decide)) (by decide)).f
        have g : ∀ c, c ≠ 53 → c ≠ 68 → ∀ j, gI (pI (pI s 68 i (nI (fstE v (lft v l i)))) 53 23 (nI (i + 1))) c j = gI s c j := fun c c1 c2 j => by rw [gI_pI_ne c1, gI_pI_ne c2]
        obtain ⟨s', c, e1, e2, e3, e4⟩ := ih (i + 1) (pI (pI s 68 i (nI (fstE v (lft v l i)))) 53 23 (nI (i + 1))) q (by omega) (by omega) (by omega) (fun j hj => by
            by_cases hji : j = i
            · rw [hji]; exact h0
            · exact hz j (by omega)) (hR.p f (by decide)) (fun a a1 a2 => by rw [g 67 (by decide) (by decide)]; exact hP a a1 a2)
          (fun a ha => ⟨by rw [g 64 (by decide) (by decide)]; exact (hT a ha).1, by rw [g 65 (by decide) (by decide)]; exact (hT a ha).2.1, by rw [g 66 (by decide) (by decide)]; exact (hT a ha).2.2⟩)
          (Nat.le_trans (rmn_le h4) hle) gI_pI_eq (fun j hj => by
            rw [gI_pI_ne (by decide), gI_pI_cell]
            by_cases hji : j = i
            · rw [if_pos hji, hji]
            · rw [if_neg hji]; exact h68 j (by omega))
        exact ⟨s', c, e1, f.tr e2, e3, e4⟩
def LR (s : jM) (v : Nat → Nat) : Prop := RTE s (ful v) (TT v (ful v)) ∧ ∀ e, TT v (ful v) = some e → ∃ c, CNT v (ful v) c ∧ c ≤ 8 ∧ gI s 53 23 = nI c ∧ ∀ j, j < c → gI s 68 j = nI (fstE v (lft v (ful v) j))
noncomputable def hasR (v : Nat → Nat) : Bool := (TT v (ful v)).isSome
theorem layRow_ok {v : Nat → Nat} {N : Nat} {s : jM} (hN : 1000 < N) (h : OkV v) (hR : RM s 54 0 v) : ∃ s', f_X8_layRow N s = some (if hasR v then 1 else 0, s') ∧ FrP s s' ∧ LR s' v := by
  have hf := ful_lt h
  obtain ⟨t, t1, t2, t3, t4⟩ := findLeast_ok hN h hR
  simp only [f_X8_layRow, lt_]
  have f : FrP t (pI t 53 23 0) := FrP.rf.f
  have g : ∀ c, c ≠ 53 → ∀ j, gI (pI t 53 23 0) c j = gI t c j := fun c c1 j => by rw [gI_pI_ne c1]
  have u4 : ∀ a, a ≤ ful v → RTE (pI t 53 23 0) a (TT v a) := fun a ha => ⟨by rw [g 64 (by decide)]; exact (t4 a ha).1, by rw [g 65 (by decide)]; exact (t4 a ha).2.1, by rw [g 66 (by decide)]; exact (t4 a ha).2.2⟩
  have hR2 : RM (pI t 53 23 0) 54 0 v := hR.p (t2.tr f) (by decide)
  rw [t1, Option.bind_some, all_ok h hR2, Option.bind_some, ib_nI (by omega), gd_dec hf, nI_clamp (by omega), (u4 _ (Nat.le_refl _)).1]
  unfold hasR
  cases he : TT v (ful v) with
  | none =>
    rw [show rE (fun e => e.1) none = nI 1000000 from rfl, if_pos (by decide)]
    refine ⟨_, rfl, t2.tr f, ?_, fun e z => by rw [he] at z; cases z⟩
    exact u4 _ (Nat.le_refl _)
  | some e =>
    have ho := TT_ok h _ e he
    rw [show rE (fun e => e.1) (some e) = nI e.1 from rfl, if_neg (by rw [eq_c (by omega) (by omega)]; omega)]
    obtain ⟨s', c, e1, e2, e3, e4⟩ := lr_loop (N := N) hN h hf (by rw [he]; exact fun z => (by cases z)) 8 0 (pI t 53 23 0) N rfl (by omega) (by omega) (fun j hj => by omega) hR2 (fun a a1 a2 => by rw [g 67 (by decide)]; exact t3 a a1 a2) u4 (Nat.le_refl _) gI_pI_eq (fun j hj => by omega)
    exact ⟨s', e1, t2.tr (f.tr e2), e3 _ (Nat.le_refl _), fun e' z => ⟨c, e4⟩⟩
