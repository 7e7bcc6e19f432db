/-! all over in companies, in the class: a company tried first, those that may be left -/
def Ol (L : List Nat) (l : Nat) (s t : jM) : Prop := FrL L s t ∧ ∀ c i, i ≠ l → gI t c i = gI s c i
theorem Ol.rf {L : List Nat} {l : Nat} {s : jM} : Ol L l s s := ⟨FrL.rf, fun _ _ _ => rfl⟩
theorem Ol.tr {L : List Nat} {l : Nat} {s t u : jM} (h1 : Ol L l s t) (h2 : Ol L l t u) : Ol L l s u := ⟨fr_tr h1.1 h2.1, fun c i hi => (h2.2 c i hi).trans (h1.2 c i hi)⟩
theorem Ol.mono {L L' : List Nat} {l : Nat} {s t : jM} (h : Ol L l s t) (hs : ∀ c ∈ L, c ∈ L') : Ol L' l s t := ⟨fr_mono h.1 hs, h.2⟩
theorem Ol.p {L : List Nat} {l c : Nat} {s t : jM} {x : Int32} (h : Ol L l s t) (hc : c ∈ L) : Ol L l s (pI t c l x) := ⟨fr_pI h.1 hc, fun a i hi => by
  by_cases ha : a = c
  · rw [ha, gI_pI_cell, if_neg hi]; exact h.2 c i hi
  · rw [gI_pI_ne ha]; exact h.2 a i hi⟩
def eTC (k : Nat × Nat × Nat × Nat → Nat) : TE → Int32
  | none => -1
  | some e => nI (k e)
def CE (s : jM) (i : Nat) (t : TE) : Prop := gI s 44 i = eTC (fun e => e.1) t ∧ gI s 45 i = eTC (fun e => e.2.1) t ∧ gI s 47 i = eTC (fun e => e.2.2.2) t ∧ ∀ e, t = some e → i ≠ 0 → gI s 46 i = nI e.2.2.1
theorem CE.fr {s u : jM} {i : Nat} {t : TE} (h : CE s i t) (hc : ∀ c, gI u c i = gI s c i) : CE u i t := ⟨by rw [hc]; exact h.1, by rw [hc]; exact h.2.1, by rw [hc]; exact h.2.2.1, fun e he hi => by rw [hc]; exact h.2.2.2 e he hi⟩
def tfE (k r l : Nat) (s7 : jM) : Option jM := if gI s7 47 l = (-1 : Int32) then some (pI s7 47 l (nI k + gI s7 47 r)) else if gI s7 47 l ≤ nI k + gI s7 47 r then some s7 else some (pI s7 47 l (nI k + gI s7 47 r))
def mnq (q : Nat) : TE → Nat
  | none => q
  | some e => if q < e.2.2.2 then q else e.2.2.2
theorem upe_q {m p x q : Nat} {t : TE} : (upe m p x q t).2.2.2 = mnq q t := by cases t <;> rfl
theorem tf_end {s : jM} {l r k q : Nat} {t : TE} (hq : gI s 47 r = nI q) (ht : gI s 47 l = eTC (fun e => e.2.2.2) t) (b : k + q < 2 ^ 31) (bt : ∀ e, t = some e → e.2.2.2 < 2 ^ 31) :
    ∃ s', tfE k r l s = some s' ∧ Ol [47] l s s' ∧ gI s' 47 l = nI (mnq (k + q) t) := by
  unfold tfE
  rw [hq, nI_add, ht]
  cases t with
  | none =>
    rw [show eTC (fun e => e.2.2.2) none = -1 from rfl, if_pos rfl]
    exact ⟨_, rfl, Ol.rf.p (by decide), gI_pI_eq⟩
  | some e =>
    have h1 := bt e rfl
    rw [show eTC (fun e => e.2.2.2) (some e) = nI e.2.2.2 from rfl, if_neg (nI_ne_m1 h1)]
    by_cases hle : e.2.2.2 ≤ k + q
    · rw [if_pos (by rw [nI_leI h1 b]; exact hle)]
      refine ⟨s, rfl, Ol.rf, ?_⟩
      rw [ht]
      simp only [mnq]
      rw [if_neg (by omega)]
      rfl
    · rw [if_neg (by rw [nI_leI h1 b]; exact hle)]
      refine ⟨_, rfl, Ol.rf.p (by decide), ?_⟩
      rw [gI_pI_eq]
      simp only [mnq]
      rw [if_pos (by omega)]
theorem tryFirst_ok {v : Nat → Nat} {x l : Nat} {t : TE} {g : Nat × Nat × Nat × Nat} {s : jM} (hx : x < 256) (hl : l < 256) (hr : rmn l x < l) (h6 : gI s 1 6 = nI (v 33)) (hb : gI s 42 x = nI (beg v x)) (ht : gI s 43 x = nI (tim v x)) (hg : CE s (rmn l x) (some g)) (hc : CE s l t)
    (b1 : tim v x + g.1 < 2 ^ 30) (b2 : beg v x * v 33 + g.2.1 < 2 ^ 30) (b3 : beg v x * v 33 + g.2.2.2 < 2 ^ 30) (bt : ∀ e, t = some e → e.1 < 2 ^ 30 ∧ e.2.1 < 2 ^ 30 ∧ e.2.2.2 < 2 ^ 30) :
    ∃ s', f_X0_tryFirst (nI x) (nI l) s = some s' ∧ Ol [44, 45, 46, 47] l s s' ∧ CE s' l (some (upe (tim v x + g.1) (beg v x * v 33 + g.2.1) x (beg v x * v 33 + g.2.2.2) t)) := by
  have hr8 := rmn_256 l x
  have g1 : gI s 44 (rmn l x) = nI g.1 := hg.1
  have g2 : gI s 45 (rmn l x) = nI g.2.1 := hg.2.1
  have g3 : gI s 47 (rmn l x) = nI g.2.2.2 := hg.2.2.1
  simp only [f_X0_tryFirst, jn_, lt_]
  rw [show nI l &&& (nI x ^^^ (-1)) = nI (rmn l x) from and_not hl]
  simp only [ib_nI (show x < 2 ^ 31 by omega), ib_nI (show l < 2 ^ 31 by omega), ib_nI (show rmn l x < 2 ^ 31 by omega), gd_dec hx, gd_dec hl, gd_dec hr8, nI_clamp (show x < 2 ^ 31 by omega), nI_clamp (show l < 2 ^ 31 by omega), nI_clamp (show rmn l x < 2 ^ 31 by omega)]
  rw [hb, h6, pk_mul, ht, g1, g2, nI_add, nI_add]
  generalize hM : tim v x + g.1 = M at *
  generalize hk : beg v x * v 33 = k at *
  generalize hP : k + g.2.1 = P at *
  have hne : rmn l x ≠ l := by omega
  have move : bet M P t = true → ∃ s', tfE k (rmn l x) l (pI (pI (pI s 44 l (nI M)) 45 l (nI P)) 46 l (nI x)) = some s' ∧ Ol [44, 45, 46, 47] l s s' ∧ CE s' l (some (upe M P x (k + g.2.2.2) t)) := by
    intro hbt
    have o1 : Ol [44, 45, 46, 47] l s (pI (pI (pI s 44 l (nI M)) 45 l (nI P)) 46 l (nI x)) := ((Ol.rf.p (by decide)).p (by decide)).p (by decide)
    obtain ⟨s', e1, e2, e3⟩ := tf_end (s := pI (pI (pI s 44 l (nI M)) 45 l (nI P)) 46 l (nI x)) (l := l) (r := rmn l x) (k := k) (q := g.2.2.2) (t := t) (by rw [o1.2 47 _ hne]; exact g3) (by rw [gI_pI_ne (by decide), gI_pI_ne (by decide), gI_pI_ne (by decide)]; exact hc.2.2.1) (by omega) (fun e he => by have := bt e he; omega)
    refine ⟨s', e1, o1.tr (e2.mono (by decide)), ?_, ?_, ?_, fun e he _ => ?_⟩
    · rw [fr_gI e2.1 (by decide), gI_pI_ne (by decide), gI_pI_ne (by decide), gI_pI_eq]
      cases t with
      | none => rfl
      | some c => simp only [eTC, upe, hbt, if_true]
    · rw [fr_gI e2.1 (by decide), gI_pI_ne (by decide), gI_pI_eq]
      cases t with
      | none => rfl
      | some c => simp only [eTC, upe, hbt, if_true]
    · rw [e3]; simp only [eTC]; rw [upe_q]
    · cases he
      rw [fr_gI e2.1 (by decide), gI_pI_eq]
      cases t with
      | none => rfl
      | some c => simp only [upe, hbt, if_true]
  cases t with
  | none =>
    have h44 : gI s 44 l = -1 := hc.1
    rw [h44, if_pos rfl, if_neg (by decide)]
    exact move rfl
  | some c =>
    have h44 : gI s 44 l = nI c.1 := hc.1
    have h45 : gI s 45 l = nI c.2.1 := hc.2.1
    obtain ⟨c1, c2, c3⟩ := bt c rfl
    have stay : bet M P (some c) = false → ∃ s', tfE k (rmn l x) l s = some s' ∧ Ol [44, 45, 46, 47] l s s' ∧ CE s' l (some (upe M P x (k + g.2.2.2) (some c))) := by
      intro hbt
      obtain ⟨s', e1, e2, e3⟩ := tf_end (s := s) (l := l) (r := rmn l x) (k := k) (q := g.2.2.2) (t := some c) g3 hc.2.2.1 (by omega) (fun e he => by have := bt e he; omega)
      refine ⟨s', e1, e2.mono (by decide), ?_, ?_, ?_, fun e he h0 => ?_⟩
      · rw [fr_gI e2.1 (by decide), h44]; simp only [eTC, upe, hbt, Bool.false_eq_true, if_false]
      · rw [fr_gI e2.1 (by decide), h45]; simp only [eTC, upe, hbt, Bool.false_eq_true, if_false]
      · rw [e3]; simp only [eTC]; rw [upe_q]
      · cases he
        rw [fr_gI e2.1 (by decide), hc.2.2.2 c rfl h0]; simp only [upe, hbt, Bool.false_eq_true, if_false]
    rw [h44, h45, if_neg (nI_ne_m1 (by omega))]
    by_cases hle : c.1 ≤ M
    · rw [if_pos (by rw [nI_leI (by omega) (by omega)]; exact hle), if_pos trivial]
      by_cases heq : M = c.1
      · rw [if_pos (by rw [heq])]
        by_cases hp : c.2.1 ≤ P
        · rw [if_pos (by rw [nI_leI (by omega) (by omega)]; exact hp)]
          exact stay (by simp [bet]; omega)
        · rw [if_neg (by rw [nI_leI (by omega) (by omega)]; exact hp)]
          exact move (by simp [bet]; omega)
      · rw [if_neg (by rw [nI_eq (by omega) (by omega)]; exact heq)]
        exact stay (by simp [bet]; omega)
    · rw [if_neg (by rw [nI_leI (by omega) (by omega)]; exact hle), if_neg (by decide)]
      exact move (by simp [bet]; omega)
def encB (b : Nat) : Int32 := if b < 2 then nI b else -1
theorem ll_loop {v : Nat → Nat} {N n : Nat} (h : OkV v) (hn : n + 1 < 256) : ∀ (k x : Nat) (t : TE) (s : jM) (q : Nat), x + k = n + 2 → 1 ≤ x → k < q → gI s 1 6 = nI (v 33) → (∀ i, 1 ≤ i → i ≤ n + 1 → gI s 42 i = encB (beg v i) ∧ gI s 43 i = nI (tim v i)) → (∀ i, i ≤ n → CE s i (TT v i)) → CE s (n + 1) t → okE (n + 1) t →
    ∃ s', lp_X0_lookAtLeft_28 N (nI (n + 1)) (nI (lead (n + 1))) q (nI x) s = some s' ∧ Ol [44, 45, 46, 47] (n + 1) s s' ∧ CE s' (n + 1) (scanE v (TT v) (n + 1) k x t) := by
  intro k
  induction k with
  | zero =>
    intro x t s q hx h1 hq _ _ _ ht _
    obtain ⟨q, rfl⟩ : ∃ r, q = r + 1 := ⟨q - 1, by omega⟩
    refine ⟨s, ?_, Ol.rf, ht⟩
    rw [lp_X0_lookAtLeft_28, if_pos (by rw [nI_ltI (by omega) (by omega)]; omega)]
  | succ k ih =>
    intro x t s q hx h1 hq h6 hB hT ht hk
    obtain ⟨q, rfl⟩ : ∃ r, q = r + 1 := ⟨q - 1, by omega⟩
    have hx8 : x < 256 := by omega
    have hr8 := rmn_256 (n + 1) x
    have next : ∀ u, Ol [44, 45, 46, 47] (n + 1) s u → CE u (n + 1) (ent v (TT v) (n + 1) x t) → ∃ s', lp_X0_lookAtLeft_28 N (nI (n + 1)) (nI (lead (n + 1))) q (nI (x + 1)) u = some s' ∧ Ol [44, 45, 46, 47] (n + 1) s s' ∧ CE s' (n + 1) (scanE v (TT v) (n + 1) (k + 1) x t) := by
      intro u hu hcu
      obtain ⟨s', e1, e2, e3⟩ := ih (x + 1) (ent v (TT v) (n + 1) x t) u q (by omega) (by omega) (by omega) (by rw [fr_gI hu.1 (by decide)]; exact h6) (fun i i1 i2 => by rw [fr_gI hu.1 (by decide), fr_gI hu.1 (by decide)]; exact hB i i1 i2) (fun i hi => (hT i hi).fr (fun c => hu.2 c i (by omega))) hcu (okE_ent h hn (fun i _ => TT_ok h i) hk)
      exact ⟨s', e1, hu.tr e2, e3⟩
    have skip : ent v (TT v) (n + 1) x t = t → ∃ s', lp_X0_lookAtLeft_28 N (nI (n + 1)) (nI (lead (n + 1))) q (nI (x + 1)) s = some s' ∧ Ol [44, 45, 46, 47] (n + 1) s s' ∧ CE s' (n + 1) (scanE v (TT v) (n + 1) (k + 1) x t) := fun e => next s Ol.rf (by rw [e]; exact ht)
    rw [lp_X0_lookAtLeft_28, if_neg (by rw [nI_ltI (by omega) (by omega)]; omega)]
    simp only [jn_, lt_]
    rw [nI_1, nI_and, show nI (n + 1) &&& (nI x ^^^ (-1)) = nI (rmn (n + 1) x) from and_not hn]
    have hsub : (nI x &&& (nI (n + 1) ^^^ (-1)) = 0) ↔ sub8 x (n + 1) = true := decide_eq_true_iff.symm
    have hle : x &&& lead (n + 1) ≤ x := Nat.and_le_left
    obtain ⟨B1, B2⟩ := hB x h1 (by omega)
    by_cases hs : sub8 x (n + 1) = true
    · rw [if_pos (hsub.mpr hs)]
      by_cases hld : x &&& lead (n + 1) = 0
      · rw [hld, if_pos (by decide), if_pos trivial]
        exact skip (ent_no (by unfold fit; rw [hld]; simp))
      · rw [if_neg (nI_ne0 (by omega) (by omega)), if_neg (by decide), ib_nI (by omega), gd_dec (by omega), nI_clamp (by omega), B1]
        by_cases hbg : beg v x < 2
        · have hfit : fit v (n + 1) x = true := by unfold fit; rw [hs]; simp [hld, hbg]
          have hrl := rmn_lt hn hld
          have hR := hT (rmn (n + 1) x) (by omega)
          unfold encB
          rw [if_pos hbg, if_neg (nI_ne_m1 (by omega)), ib_nI (by omega), gd_dec (by omega), nI_clamp (by omega), hR.1]
          cases hg : TT v (rmn (n + 1) x) with
          | none =>
            rw [show eTC (fun e => e.1) none = -1 from rfl, if_pos rfl]
            exact skip (ent_none hg)
          | some g =>
            rw [hg] at hR
            obtain ⟨o1, o2, o3⟩ := TT_ok h _ g hg
            have p1 := tim_le (a := x) h
            have p2 := pay_le h hbg
            rw [show eTC (fun e => e.1) (some g) = nI g.1 from rfl, if_neg (nI_ne_m1 (by omega))]
            obtain ⟨u, u1, u2, u3⟩ := tryFirst_ok (v := v) (x := x) (l := n + 1) (t := t) (g := g) (s := s) hx8 hn hrl h6 (by rw [B1]; unfold encB; rw [if_pos hbg]) B2 hR ht (by omega) (by omega) (by omega) (fun e he => by have := hk e he; omega)
            rw [u1, Option.bind_some]
            exact next u u2 (by rw [ent_some hfit hg]; exact u3)
        · unfold encB
          rw [if_neg hbg, if_pos rfl]
          exact skip (ent_no (by unfold fit; simp [hbg]))
    · rw [if_neg (fun z => hs (hsub.mp z)), if_pos trivial]
      exact skip (ent_no (by unfold fit; simp [hs]))
theorem lookAtLeft_ok {v : Nat → Nat} {N n : Nat} {s : jM} (hN : 1000 < N) (h : OkV v) (hn : n + 1 < 256) (h6 : gI s 1 6 = nI (v 33)) (hB : ∀ i, 1 ≤ i → i ≤ n + 1 → gI s 42 i = encB (beg v i) ∧ gI s 43 i = nI (tim v i)) (hT : ∀ i, i ≤ n → CE s i (TT v i)) :
    ∃ s', f_X0_lookAtLeft N (nI (n + 1)) s = some s' ∧ Ol [44, 45, 46, 47] (n + 1) s s' ∧ CE s' (n + 1) (TT v (n + 1)) := by
  simp only [f_X0_lookAtLeft, lt_]
  obtain ⟨l1, l2⟩ := lead_pos (n + 1) hn (by omega)
  rw [lead_ok _ hn, ib_nI (by omega), gd_dec hn, gd_dec hn, gd_dec hn, nI_clamp (by omega)]
  have o1 : Ol [44, 45, 46, 47] (n + 1) s (pI (pI (pI s 44 (n + 1) (-1)) 45 (n + 1) (-1)) 47 (n + 1) (-1)) := ((Ol.rf.p (by decide)).p (by decide)).p (by decide)
  obtain ⟨s', e1, e2, e3⟩ := ll_loop (N := N) h hn (n + 2 - lead (n + 1)) (lead (n + 1)) none (pI (pI (pI s 44 (n + 1) (-1)) 45 (n + 1) (-1)) 47 (n + 1) (-1)) N (by omega) (by omega) (by omega) (by rw [fr_gI o1.1 (by decide)]; exact h6) (fun i i1 i2 => by rw [fr_gI o1.1 (by decide), fr_gI o1.1 (by decide)]; exact hB i i1 i2) (fun i hi => (hT i hi).fr (fun c => o1.2 c i (by omega)))
    ⟨by rw [gI_pI_ne (by decide), gI_pI_ne (by decide), gI_pI_eq]; rfl, by rw [gI_pI_ne (by decide), gI_pI_eq]; rfl, by rw [gI_pI_eq]; rfl, fun e he => by cases he⟩ (fun e he => by cases he)
  refine ⟨s', e1, o1.tr e2, ?_⟩
  rw [TT_new hn]
  have := scanE_skip (v := v) (T := TT v) (l := n + 1) (k := n + 2 - lead (n + 1)) (t := none) (lead (n + 1) - 1) 1 (fun y y1 y2 => by unfold fit; rw [lead_low _ hn y (by omega)]; simp)
  rw [show n + 2 - lead (n + 1) + (lead (n + 1) - 1) = n + 1 from by omega, show 1 + (lead (n + 1) - 1) = lead (n + 1) from by omega] at this
  rw [this]
  exact e3
