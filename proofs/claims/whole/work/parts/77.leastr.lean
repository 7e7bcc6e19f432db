/-! all over in companies, in the reference: the table -/
def rE (k : Nat × Nat × Nat × Nat → Nat) : TE → Int32
  | none => nI 1000000
  | some e => nI (k e)
def RTE (s : jM) (i : Nat) (t : TE) : Prop := gI s 64 i = rE (fun e => e.1) t ∧ gI s 65 i = rE (fun e => e.2.1) t ∧ gI s 66 i = rE (fun e => e.2.2.2) t
theorem RTE.fr {s u : jM} {i : Nat} {t : TE} (h : RTE s i t) (hc : ∀ c, gI u c i = gI s c i) : RTE u i t := ⟨by rw [hc]; exact h.1, by rw [hc]; exact h.2.1, by rw [hc]; exact h.2.2⟩
theorem fl_loop {v : Nat → Nat} {N l : Nat} {k14 : jM → Option jM} {Q : jM → Prop} (hN : 60 < N) (h : OkV v) (hl : l < 256) (h0 : 0 < l) : ∀ (k x : Nat) (t : TE) (s : jM) (q : Nat), x + k = l + 1 → 1 ≤ x → k < q → RM s 54 0 v → (∀ i, 1 ≤ i → i ≤ l → gI s 67 i = prR v i) → (∀ i, i < l → RTE s i (TT v i)) → RTE s l t → okE l t →
    (∀ s', Ol [64, 65, 66] l s s' → RTE s' l (scanE v (TT v) l k x t) → ∃ r, k14 s' = some r ∧ Q r) → ∃ r, lp_X8_findLeast_61 N (nI l) k14 q (nI x) s = some r ∧ Q r := by
  intro k
  induction k with
  | zero =>
    intro x t s q hx h1 hq _ _ _ ht _ hk
    obtain ⟨q, rfl⟩ : ∃ r, q = r + 1 := ⟨q - 1, by omega⟩
    rw [lp_X8_findLeast_61, if_pos (by rw [nI_ltI (by omega) (by omega)]; omega)]
    exact hk s Ol.rf ht
  | succ k ih =>
    intro x t s q hx h1 hq hR hP hT ht ho hk
    obtain ⟨q, rfl⟩ : ∃ r, q = r + 1 := ⟨q - 1, by omega⟩
    have hx8 : x < 256 := by omega
    have hr8 := rmn_256 l x
    have next : ∀ u, Ol [64, 65, 66] l s u → RTE u l (ent v (TT v) l x t) → ∃ r, lp_X8_findLeast_61 N (nI l) k14 q (nI (x + 1)) u = some r ∧ Q r := by
      intro u hu hcu
      exact ih (x + 1) (ent v (TT v) l x t) u q (by omega) (by omega) (by omega) (hR.fr (fun i => fr_gI hu.1 (by decide))) (fun i i1 i2 => by rw [fr_gI hu.1 (by decide)]; exact hP i i1 i2) (fun i hi => (hT i hi).fr (fun c => hu.2 c i (by omega))) hcu (okE_ent h hl (fun i _ => TT_ok h i) ho) (fun s' f1 f2 => hk s' (hu.tr f1) f2)
    have skip : ent v (TT v) l x t = t → ∃ r, lp_X8_findLeast_61 N (nI l) k14 q (nI (x + 1)) s = some r ∧ Q r := fun e => next s Ol.rf (by rw [e]; exact ht)
    rw [lp_X8_findLeast_61, if_neg (by rw [nI_ltI (by omega) (by omega)]; omega)]
    simp only [jn_, lt_]
    rw [show nI l &&& (nI x ^^^ (-1)) = nI (rmn l x) from and_not hl, mayGo_ok h hx8 hl (hP x h1 (by omega)), Option.bind_some, nI_1]
    cases hf : fit v l x with
    | false =>
      rw [if_pos (by decide)]
      exact skip (ent_no hf)
    | true =>
      obtain ⟨f1, f2, f3⟩ := fit_spec hf
      have hrl := rmn_lt hl f2
      have hRT := hT _ hrl
      rw [if_pos rfl, if_neg (by decide)]
      simp only [ib_nI (show x < 2 ^ 31 by omega), ib_nI (show l < 2 ^ 31 by omega), ib_nI (show rmn l x < 2 ^ 31 by omega), gd_dec hx8, gd_dec hl, gd_dec hr8, nI_clamp (show x < 2 ^ 31 by omega), nI_clamp (show l < 2 ^ 31 by omega), nI_clamp (show rmn l x < 2 ^ 31 by omega)]
      rw [hRT.1]
      cases hg : TT v (rmn l x) with
      | none =>
        rw [show rE (fun e => e.1) none = nI 1000000 from rfl, if_pos (by decide)]
        exact skip (ent_none hg)
      | some g =>
        rw [hg] at hRT
        have g1 : gI s 64 (rmn l x) = nI g.1 := hRT.1
        have g2 : gI s 65 (rmn l x) = nI g.2.1 := hRT.2.1
        have g3 : gI s 66 (rmn l x) = nI g.2.2.2 := hRT.2.2
        obtain ⟨o1, o2, o3⟩ := TT_ok h _ g hg
        have p1 := tim_le (a := x) h
        have p2 := pay_le h f3
        have g0 : gI s 67 x = nI (beg v x * v 33) := by rw [hP x h1 (by omega)]; unfold prR; rw [if_pos f3]
        rw [show rE (fun e => e.1) (some g) = nI g.1 from rfl, if_neg (by rw [c_le (by omega) (by omega)]; omega), timeOf_ok hN h hR hx8, Option.bind_some]
        simp only [gI_pI_ne (show (66 : Nat) ≠ 65 by decide), gI_pI_ne (show (66 : Nat) ≠ 64 by decide), gI_pI_ne (show (67 : Nat) ≠ 65 by decide), gI_pI_ne (show (67 : Nat) ≠ 64 by decide), gI_pI_ne (show (65 : Nat) ≠ 64 by decide)]
        rw [g0, g2, g3, nI_add, nI_add, nI_add]
        have hent := ent_some (T := TT v) (t := t) hf hg
        generalize hM : tim v x + g.1 = M at *
        generalize hkk : beg v x * v 33 = kk at *
        generalize hPP : kk + g.2.1 = P at *
        generalize hQQ : kk + g.2.2.2 = q3 at *
        have fin : ∀ A B C : Int32, A = nI (upe M P x q3 t).1 → B = nI (upe M P x q3 t).2.1 → C = nI (upe M P x q3 t).2.2.2 → ∃ r, lp_X8_findLeast_61 N (nI l) k14 q (nI (x + 1)) (pI (pI (pI s 64 l A) 65 l B) 66 l C) = some r ∧ Q r := by
          intro A B C hA hB hC
          refine next _ (((Ol.rf.p (by decide)).p (by decide)).p (by decide)) ?_
          rw [hent]
          refine ⟨?_, ?_, ?_⟩
          · rw [gI_pI_ne (by decide), gI_pI_ne (by decide), gI_pI_eq, hA]; rfl
          · rw [gI_pI_ne (by decide), gI_pI_eq, hB]; rfl
          · rw [gI_pI_eq, hC]; rfl
        cases t with
        | none =>
          have t1 : gI s 64 l = nI 1000000 := ht.1
          have t3 : gI s 66 l = nI 1000000 := ht.2.2
          rw [t1, t3, if_pos (by rw [nI_ltI (by omega) (by omega)]; omega), if_neg (by decide), if_neg (by decide), if_neg (by rw [nI_leI (by omega) (by omega)]; omega)]
          exact fin _ _ _ rfl rfl rfl
        | some c =>
          obtain ⟨c1, c2, c3⟩ := ho c rfl
          have t1 : gI s 64 l = nI c.1 := ht.1
          have t2 : gI s 65 l = nI c.2.1 := ht.2.1
          have t3 : gI s 66 l = nI c.2.2.2 := ht.2.2
          have qz : (if nI c.2.2.2 ≤ nI q3 then nI c.2.2.2 else nI q3) = nI (upe M P x q3 (some c)).2.2.2 := by
            simp only [upe]
            by_cases hq3 : c.2.2.2 ≤ q3
            · rw [if_pos (by rw [nI_leI (by omega) (by omega)]; exact hq3), if_neg (by omega)]
            · rw [if_neg (by rw [nI_leI (by omega) (by omega)]; exact hq3), if_pos (by omega)]
          have fin2 : ∀ A B : Int32, A = nI (upe M P x q3 (some c)).1 → B = nI (upe M P x q3 (some c)).2.1 → ∃ r, (if nI c.2.2.2 ≤ nI q3 then lp_X8_findLeast_61 N (nI l) k14 q (nI (x + 1)) (pI (pI (pI s 64 l A) 65 l B) 66 l (nI c.2.2.2)) else lp_X8_findLeast_61 N (nI l) k14 q (nI (x + 1)) (pI (pI (pI s 64 l A) 65 l B) 66 l (nI q3))) = some r ∧ Q r := by
            intro A B hA hB
            by_cases hq3 : nI c.2.2.2 ≤ nI q3
            · rw [if_pos hq3] at qz ⊢
              exact fin A B _ hA hB qz
            · rw [if_neg hq3] at qz ⊢
              exact fin A B _ hA hB qz
          have move : bet M P (some c) = true → ∃ r, (if nI c.2.2.2 ≤ nI q3 then lp_X8_findLeast_61 N (nI l) k14 q (nI (x + 1)) (pI (pI (pI s 64 l (nI M)) 65 l (nI P)) 66 l (nI c.2.2.2)) else lp_X8_findLeast_61 N (nI l) k14 q (nI (x + 1)) (pI (pI (pI s 64 l (nI M)) 65 l (nI P)) 66 l (nI q3))) = some r ∧ Q r := fun hb => fin2 _ _ (by simp only [upe, hb, if_true]) (by simp only [upe, hb, if_true])
          have stay : bet M P (some c) = false → ∃ r, (if nI c.2.2.2 ≤ nI q3 then lp_X8_findLeast_61 N (nI l) k14 q (nI (x + 1)) (pI (pI (pI s 64 l (nI c.1)) 65 l (nI c.2.1)) 66 l (nI c.2.2.2)) else lp_X8_findLeast_61 N (nI l) k14 q (nI (x + 1)) (pI (pI (pI s 64 l (nI c.1)) 65 l (nI c.2.1)) 66 l (nI q3))) = some r ∧ Q r := fun hb => fin2 _ _ (by simp only [upe, hb, Bool.false_eq_true, if_false]) (by simp only [upe, hb, Bool.false_eq_true, if_false])
          rw [t1, t2, t3]
          by_cases hlt : M < c.1
          · rw [if_pos (by rw [nI_ltI (by omega) (by omega)]; exact hlt), if_neg (by decide), if_neg (by decide)]
            exact move (by simp [bet]; omega)
          · rw [if_neg (by rw [nI_ltI (by omega) (by omega)]; exact hlt)]
            by_cases heq : M = c.1
            · rw [if_pos (by rw [heq])]
              by_cases hp : c.2.1 ≤ P
              · rw [if_pos (by rw [nI_leI (by omega) (by omega)]; exact hp), if_pos trivial, if_pos trivial]
                exact stay (by simp [bet]; omega)
              · rw [if_neg (by rw [nI_leI (by omega) (by omega)]; exact hp), if_neg (by decide), if_neg (by decide)]
                exact move (by simp [bet]; omega)
            · rw [if_neg (by rw [nI_eq (by omega) (by omega)]; exact heq), if_pos trivial, if_pos trivial]
              exact stay (by simp [bet]; omega)
theorem ol_loop {v : Nat → Nat} {N : Nat} (hN : 1000 < N) (h : OkV v) : ∀ (m n : Nat) (s : jM) (q : Nat), ful v - n = m → n ≤ ful v → m < q → RM s 54 0 v → (∀ i, 1 ≤ i → i ≤ ful v → gI s 67 i = prR v i) → (∀ i, i ≤ n → RTE s i (TT v i)) →
    ∃ s', lp_X8_findLeast_27 N q (nI (n + 1)) s = some s' ∧ FrL [64, 65, 66] s s' ∧ (∀ i, i ≤ ful v → RTE s' i (TT v i)) := by
  have hf := ful_lt h
  intro m
  induction m with
  | zero =>
    intro n s q hm hn hq hR hP hT
    obtain ⟨q, rfl⟩ : ∃ r, q = r + 1 := ⟨q - 1, by omega⟩
    have e : n = ful v := by omega
    subst e
    refine ⟨s, ?_, FrL.rf, hT⟩
    rw [lp_X8_findLeast_27, all_ok h hR, Option.bind_some, if_pos (by rw [nI_ltI (by omega) (by omega)]; omega)]
  | succ m ih =>
    intro n s q hm hn hq hR hP hT
    obtain ⟨q, rfl⟩ : ∃ r, q = r + 1 := ⟨q - 1, by omega⟩
    have hn8 : n + 1 < 256 := by omega
    rw [lp_X8_findLeast_27, all_ok h hR, Option.bind_some, if_neg (by rw [nI_ltI (by omega) (by omega)]; omega)]
    simp only [jn_, lt_]
    rw [ib_nI (by omega), gd_dec hn8, gd_dec hn8, gd_dec hn8, nI_clamp (by omega), nI_1]
    have o1 : Ol [64, 65, 66] (n + 1) s (pI (pI (pI s 64 (n + 1) 1000000) 65 (n + 1) 1000000) 66 (n + 1) 1000000) := ((Ol.rf.p (by decide)).p (by decide)).p (by decide)
    refine fl_loop (N := N) (l := n + 1) (by omega) h hn8 (by omega) (n + 1) 1 none _ N (by omega) (Nat.le_refl _) (by omega) (hR.fr (fun i => fr_gI o1.1 (by decide))) (fun i i1 i2 => by rw [fr_gI o1.1 (by decide)]; exact hP i i1 (by omega)) (fun i hi => (hT i (by omega)).fr (fun c => o1.2 c i (by omega)))
      ⟨by rw [gI_pI_ne (by decide), gI_pI_ne (by decide), gI_pI_eq]; rfl, by rw [gI_pI_ne (by decide), gI_pI_eq]; rfl, by rw [gI_pI_eq]; rfl⟩ (fun e he => by cases he) ?_
    intro u u1 u2
    rw [← TT_new hn8] at u2
    have o2 := o1.tr u1
    obtain ⟨s', e1, e2, e3⟩ := ih (n + 1) u q (by omega) (by omega) (by omega) (hR.fr (fun i => fr_gI o2.1 (by decide))) (fun i i1 i2 => by rw [fr_gI o2.1 (by decide)]; exact hP i i1 i2) (fun i hi => by
      by_cases hin : i = n + 1
      · rw [hin]; exact u2
      · exact (hT i (by omega)).fr (fun c => o2.2 c i hin))
    exact ⟨s', e1, fr_tr o2.1 e2, e3⟩
theorem findLeast_ok {v : Nat → Nat} {N : Nat} {s : jM} (hN : 1000 < N) (h : OkV v) (hR : RM s 54 0 v) :
    ∃ s', f_X8_findLeast N s = some s' ∧ FrP s s' ∧ (∀ i, 1 ≤ i → i ≤ ful v → gI s' 67 i = prR v i) ∧ (∀ i, i ≤ ful v → RTE s' i (TT v i)) := by
  have hf := ful_lt h
  obtain ⟨t, t1, t2, t3⟩ := findPrices_ok hN h hR
  simp only [f_X8_findLeast, lt_]
  rw [t1, Option.bind_some]
  simp only [show ib (0 : Int32) 256 = true from by decide, gd_true, show Int32.toNatClampNeg (0 : Int32) = 0 from rfl]
  have o1 : FrL [64, 65, 66] t (pI (pI (pI t 64 0 0) 65 0 0) 66 0 0) := fr_pI (fr_pI (fr_pI FrL.rf (by decide)) (by decide)) (by decide)
  obtain ⟨s', e1, e2, e3⟩ := ol_loop (N := N) hN h (ful v) 0 (pI (pI (pI t 64 0 0) 65 0 0) 66 0 0) N (by omega) (by omega) (by omega) ((hR.p t2 (by decide)).fr (fun i => fr_gI o1 (by decide))) (fun i i1 i2 => by rw [fr_gI o1 (by decide)]; exact t3 i i1 i2) (fun i hi => by
    rw [show i = 0 from by omega, TT_0]
    exact ⟨by rw [gI_pI_ne (by decide), gI_pI_ne (by decide), gI_pI_eq]; rfl, by rw [gI_pI_ne (by decide), gI_pI_eq]; rfl, by rw [gI_pI_eq]; rfl⟩)
  have o2 := fr_tr o1 e2
  exact ⟨s', e1, t2.tr (FrP.of o2 (by decide)), fun i i1 i2 => by rw [fr_gI o2 (by decide)]; exact t3 i i1 i2, e3⟩
