/-! the reference's reading: a turn where a sign is wanted; all turns -/
theorem down_ok {N r : Nat} (hN : 60 < N) (hr : r ≤ 5) {S : List Nat} {V : List Int64} {s : jM} (hV : MV s V) (hS : MS s S) (hl : V.length = nbS S + 1) :
    ∃ s', f_X8_workDown N (nI r) s = some s' ∧ MV s' (wd r S V).1 ∧ MS s' (wd r S V).2 ∧ FrR s s' ∧ gI s' 53 6 = gI s 53 6 ∧ gI s' 53 7 = gI s 53 7 ∧ (wd r S V).1.length = nbS (wd r S V).2 + 1 := by
  have h := hS.2.1
  exact workDown_ok hr S V s N hV hS hl (by omega)
theorem rd_S {T : Nat → Nat} {n N o pm : Nat} {k6 : jM → Option (Int32 × jM)} {s : jM} {V : List Int64} {S : List Nat} (hN : 60 < N) (hT : MT T n s) (h : RI T n s pm false V S o) (q : Nat) :
    ∃ s' x12 x13 x14, FrR s s' ∧ lp_X8_reads_26 N k6 (q + 1) (nI o) 0 1 s = lp_X8_reads_26 N k6 q x12 x13 x14 s' ∧ RT T n s' pm x12 x13 x14 (rstS T n (nb T n pm) V S o) := by
  obtain ⟨h1, h2, h3, h4, h5, h6, h7, h8, h9⟩ := h
  have hn := hT.1
  have hnS := nbS_le S
  obtain ⟨t, t1, t2, t3, t4, t5⟩ := ahead_ok (N := N) (by omega) h2 hT h1
  have hge := nb_ge' (T := T) (n := n) (p := pm)
  have hle := nb_le' (T := T) h2
  have hV : MV t V := h4.keep (t3 9 (by decide)) (fun i => by rw [fr_gL t4 (by decide)])
  have hS : MS t S := h5.keep (t3 11 (by decide)) (fun i => by rw [fr_gI t4 (by decide)])
  have hTt := hT.fr t5
  have h3t : gI t 53 7 = -1 := by rw [t3 7 (by decide)]; exact h3
  simp only [cond] at h7
  rw [lp_X8_reads_26, if_neg (by decide), h3, if_pos rfl]
  simp only [jn_, lt_]
  rw [t1, Option.bind_some]
  simp only
  rw [if_pos trivial]
  generalize hp : nb T n pm = p at *
  -- a sign of two sides is laid on
  have push : ∀ (u : jM) (V' : List Int64) (S' : List Nat), T p < 128 → 0 < rk (T p) → MV u V' → MS u S' → FrR t u → gI u 53 6 = nI p → gI u 53 7 = -1 → p < n → V'.length = nbS S' + 1 → gS false S' o → S'.length ≤ pm →
      gd (ib (gI (pI u 53 6 (gI u 53 6 + 1)) 53 11) 128) (lp_X8_reads_26 N k6 q (nI o) 1 1 (pI (pI (pI u 53 6 (gI u 53 6 + 1)) 59 (gI (pI u 53 6 (gI u 53 6 + 1)) 53 11).toNatClampNeg (nI (T p))) 53 11 (gI (pI (pI u 53 6 (gI u 53 6 + 1)) 59 (gI (pI u 53 6 (gI u 53 6 + 1)) 53 11).toNatClampNeg (nI (T p))) 53 11 + 1))) =
        lp_X8_reads_26 N k6 q (nI o) 1 1 (pI (pI (pI u 53 6 (nI (p + 1))) 59 S'.length (nI (T p))) 53 11 (nI (S'.length + 1))) ∧
      FrR s (pI (pI (pI u 53 6 (nI (p + 1))) 59 S'.length (nI (T p))) 53 11 (nI (S'.length + 1))) ∧
      ∃ pm', nb T n pm' = nb T n (p + 1) ∧ pm < pm' ∧ RI T n (pI (pI (pI u 53 6 (nI (p + 1))) 59 S'.length (nI (T p))) 53 11 (nI (S'.length + 1))) pm' true V' (T p :: S') o := by
    intro u V' S' hc hrk uV uS uf u6 u7 hpn hl hg hSl
    have hSq : MS (pI u 53 6 (nI (p + 1))) S' := uS.keep (by rw [gI_pI_cell]; rfl) (fun i => by rw [gI_pI_ne (by decide)])
    have e1 : gI (pI u 53 6 (nI (p + 1))) 53 11 = nI S'.length := hSq.1
    refine ⟨?_, t5.tr (((uf.pI53 (by omega)).pI59).pI53 (by omega)), p + 1, rfl, by omega, ?_, by omega, ?_, ?_, hSq.push (Or.inl hc) (by omega), Or.inl ⟨hc, hrk, hg⟩, ?_, ?_, h9⟩
    · rw [u6, nI_1, e1, nI_clamp (by omega), ib_nI (by omega), gd_dec (by omega), gI_pI_ne (by decide), e1, nI_1]
    · rw [gI_pI_cell, if_neg (by decide), gI_pI_ne (by decide)]; exact gI_pI_eq
    · rw [gI_pI_cell, if_neg (by decide), gI_pI_ne (by decide), gI_pI_cell]; exact u7
    · exact uV.keep (by rw [gI_pI_cell, if_neg (by decide), gI_pI_ne (by decide), gI_pI_cell]; rfl) (fun i => rfl)
    · show V'.length = (if T p < 1000 then 1 else 0) + nbS S' + 0
      rw [if_pos (by omega)]; omega
    · simp only [List.length_cons]; omega
  by_cases hpn : p < n
  · rw [sgn_in hpn]
    have hTp := hTt.2.1 p
    have hc2 : T p < 2 ^ 31 := by omega
    have hr5 := rk_le (T p)
    have eS : rstS T n p V S o = (if T p = 41 ∧ 0 < o then .inl (false, nb T n (p + 1), (sd (wd 1 S V).2.tail ((wd 1 S V).1.headD 0)).1 :: (wd 1 S V).1.tail, (sd (wd 1 S V).2.tail ((wd 1 S V).1.headD 0)).2, o - 1)
    else if 0 < rk (T p) then
      if rk (T p) = 3 then
        if ((wd 4 S V).2.headD 1000) < 1000 ∧ rk ((wd 4 S V).2.headD 1000) = 3 then .inr (.inl (10 * p + 1))
        else .inl (true, nb T n (p + 1), (wd 4 S V).1, T p :: (wd 4 S V).2, o)
      else .inl (true, nb T n (p + 1), (wd (rk (T p)) S V).1, T p :: (wd (rk (T p)) S V).2, o)
    else .inr (.inl (10 * p + 1))) := if_pos hpn
    rw [eS]
    by_cases h41 : T p = 41 ∧ 0 < o
    · rw [if_pos h41, if_pos ((eq_c (by omega) hc2).mpr h41.1), if_neg (nI_nle h41.2 (by omega)), t2, nI_1]
      have hVq : MV (pI t 53 6 (nI (p + 1))) V := hV.keep (by rw [gI_pI_cell]; rfl) (fun i => rfl)
      have hSq : MS (pI t 53 6 (nI (p + 1))) S := hS.keep (by rw [gI_pI_cell]; rfl) (fun i => by rw [gI_pI_ne (by decide)])
      obtain ⟨u, u1, u2, u3, u4, u5, u6, u7⟩ := down_ok (r := 1) hN (by omega) hVq hSq (by omega)
      obtain ⟨g1, g2, g3⟩ := gS_wd (r := 1) (by omega) S o V h6
      have hu1 : f_X8_workDown N 1 (pI t 53 6 (nI (p + 1))) = some u := u1
      rw [hu1, Option.bind_some]
      have hne : (wd 1 S V).2 ≠ [] := fun z => by rw [z] at g1; exact absurd g1 (by show ¬ o = 0; omega)
      have hnv : (wd 1 S V).1 ≠ [] := fun z => by rw [z] at u7; simp only [List.length_nil] at u7; omega
      obtain ⟨c, S', eS'⟩ := List.exists_cons_of_ne_nil hne
      obtain ⟨v, V', eV'⟩ := List.exists_cons_of_ne_nil hnv
      rw [eS'] at u3 u7 g1 g2 g3
      rw [eV'] at u2 u7
      rw [eS', eV']
      simp only [List.tail_cons, List.headD_cons]
      have hc : c = 1000 := by
        rcases g3 c S' rfl with h | h
        · exact h
        · rcases g1 with g | g | g
          · omega
          · exact g.1
          · cases g.1
      subst hc
      have hg : gS true S' (o - 1) := by
        rcases g1 with g | g | g
        · omega
        · exact g.2.2
        · cases g.1
      have hnb : nbS (1000 :: S') = nbS S' := by show (if 1000 < 1000 then 1 else 0) + nbS S' = _; rw [if_neg (by omega)]; omega
      rw [hnb] at u7
      simp only [List.length_cons] at u7 g2
      have hnS' := nbS_le S'
      have e11 : gI u 53 11 = nI (S'.length + 1) := u3.1
      have e9 : gI u 53 9 = nI (V'.length + 1) := u2.1
      have hS2 : MS (pI (pI u 53 11 (nI S'.length)) 53 9 (nI V'.length)) S' := u3.pop.keep (by rw [gI_pI_cell]; rfl) (fun i => by rw [gI_pI_ne (by decide)])
      have hV2 : MV (pI (pI u 53 11 (nI S'.length)) 53 9 (nI V'.length)) V' := MV.pop (s := pI u 53 11 (nI S'.length)) (u2.keep (t := pI u 53 11 (nI S'.length)) (by rw [gI_pI_cell]; rfl) (fun i => rfl))
      have htop : gL (pI (pI u 53 11 (nI S'.length)) 53 9 (nI V'.length)) 58 V'.length = v := u2.top
      have hf2 : FrR t (pI (pI u 53 11 (nI S'.length)) 53 9 (nI V'.length)) := ((FrR.rf.pI53 (by omega)).tr u4 |>.pI53 (by omega)).pI53 (by omega)
      have e6 : gI (pI (pI u 53 11 (nI S'.length)) 53 9 (nI V'.length)) 53 6 = nI (p + 1) := by rw [gI_pI_cell, if_neg (by decide), gI_pI_cell, if_neg (by decide), u5]; exact gI_pI_eq
      have e7 : gI (pI (pI u 53 11 (nI S'.length)) 53 9 (nI V'.length)) 53 7 = -1 := by rw [gI_pI_cell, if_neg (by decide), gI_pI_cell, if_neg (by decide), u6, gI_pI_cell, if_neg (by decide)]; exact h3t
      have e99 : gI (pI (pI u 53 11 (nI S'.length)) 53 9 (nI V'.length)) 53 9 = nI V'.length := gI_pI_eq
      rw [e11, nI_pred, show gI (pI u 53 11 (nI S'.length)) 53 9 = nI (V'.length + 1) from by rw [gI_pI_cell]; exact e9, nI_pred, e99, nI_clamp (by omega), ib_nI (by omega), gd_dec (by omega), htop]
      obtain ⟨x, x1, x2, x3, x4, x5, x6⟩ := stands_ok (v := v) hN hV2 hS2 (by omega)
      obtain ⟨y1, y2, y3⟩ := gS_sd S' (o - 1) v hg
      rw [x1, Option.bind_some]
      refine ⟨x, _, _, _, t5.tr (hf2.tr x4), rfl, ⟨p + 1, rfl, by omega, by rw [x5]; exact e6, by omega, by rw [x6]; exact e7, x2, x3, y1, by simp only [List.length_cons, cond]; omega, by omega, by omega⟩, ?_, rfl, rfl⟩
      obtain ⟨o, rfl⟩ : ∃ r, o = r + 1 := ⟨o - 1, by omega⟩
      show nI (o + 1) + (-1 : Int32) = nI o
      rw [show nI (o + 1) + (-1 : Int32) = nI (o + 1) - 1 from (Int32.sub_eq_add_neg (nI (o + 1)) 1).symm]
      exact nI_pred o
    · rw [if_neg h41]
      have ej : ∀ (X Y : Option (Int32 × jM)), (if nI (T p) = 41 then (if nI o ≤ 0 then X else Y) else X) = X := by
        intro X Y
        by_cases h1 : T p = 41
        · rw [if_pos ((eq_c (by omega) hc2).mpr h1), if_pos (by rw [show o = 0 from by omega]; decide)]
        · rw [if_neg (fun z => h1 ((eq_c (by omega) hc2).mp z))]
      rw [ej, rank_ok (by omega), Option.bind_some, Option.bind_some]
      by_cases hrk : 0 < rk (T p)
      · rw [if_neg (nI_nle hrk (by omega)), if_pos hrk]
        by_cases h3r : rk (T p) = 3
        · rw [if_pos h3r, h3r, if_pos (by decide)]
          obtain ⟨u, u1, u2, u3, u4, u5, u6, u7⟩ := down_ok (r := 4) hN (by omega) hV hS (by omega)
          obtain ⟨g1, g2, g3⟩ := gS_wd (r := 4) (by omega) S o V h6
          have hu1 : f_X8_workDown N 4 t = some u := u1
          obtain ⟨p1, p2, p3⟩ := push u _ _ hTp hrk u2 u3 u4 (by rw [u5]; exact t2) (by rw [u6]; exact h3t) hpn u7 g1 (by omega)
          rw [hu1, Option.bind_some, Option.bind_some, if_pos (by decide)]
          rw [p1]
          cases hw : (wd 4 S V).2 with
          | nil =>
            rw [hw] at u3 p2 p3
            rw [u3.1, if_pos (by decide), if_neg (fun z => absurd z.1 (by decide))]
            exact ⟨_, _, _, _, p2, rfl, p3, rfl, rfl, rfl⟩
          | cons c S' =>
            rw [hw] at u3 p2 p3 g2 g1
            obtain ⟨c1, c2⟩ := u3.top
            simp only [List.length_cons] at g2
            have hcc : c < 2000 := by rcases c2 with h | h <;> omega
            have e11 : gI u 53 11 = nI (S'.length + 1) := u3.1
            have hrk5 := rk_le c
            rw [e11, if_neg (nI_nle (by omega) (by omega)), nI_pred, ib_nI (by omega), gd_dec (by omega), gd_dec (by omega), nI_clamp (by omega), c1, rank_ok hcc, Option.bind_some]
            rw [show (c :: S').headD 1000 = c from rfl]
            by_cases hc1 : 1000 ≤ c
            · rw [if_pos (by rw [c_le (by omega) (by omega)]; omega), if_neg (by omega)]
              exact ⟨_, _, _, _, p2, rfl, p3, rfl, rfl, rfl⟩
            · rw [if_neg (by rw [c_le (by omega) (by omega)]; omega)]
              by_cases hc3 : rk c = 3
              · rw [if_pos (by rw [eq_c (by omega) (by omega)]; exact hc3), if_pos ⟨by omega, hc3⟩, u5, t2, k10]
                exact ⟨_, _, _, _, t5.tr (u4.pI53 (by omega)), rfl, by omega, gI_pI_eq⟩
              · rw [if_neg (by rw [eq_c (by omega) (by omega)]; exact hc3), if_neg (fun z => hc3 z.2)]
                exact ⟨_, _, _, _, p2, rfl, p3, rfl, rfl, rfl⟩
        · rw [if_neg h3r, if_neg (by rw [eq_c (by omega) (by omega)]; exact h3r), Option.bind_some]
          obtain ⟨u, u1, u2, u3, u4, u5, u6, u7⟩ := down_ok (r := rk (T p)) hN hr5 hV hS (by omega)
          obtain ⟨g1, g2, g3⟩ := gS_wd (r := rk (T p)) hrk S o V h6
          obtain ⟨p1, p2, p3⟩ := push u _ _ hTp hrk u2 u3 u4 (by rw [u5]; exact t2) (by rw [u6]; exact h3t) hpn u7 g1 (by omega)
          rw [u1, Option.bind_some, Option.bind_some, if_neg (by rw [eq_c (by omega) (by omega)]; exact h3r), p1]
          exact ⟨_, _, _, _, p2, rfl, p3, rfl, rfl, rfl⟩
      · rw [if_neg hrk, if_pos (by rw [show rk (T p) = 0 from by omega]; decide), if_neg (nI_ne_m1 (by omega)), t2, k10]
        exact ⟨_, _, _, _, t5.pI53 (by omega), rfl, by omega, gI_pI_eq⟩
  · rw [sgn_out hpn]
    have eS : rstS T n p V S o = (if o = 0 then .inr (.inr ((wd 1 S V).1.headD 0)) else .inr (.inl (10 * p + 1))) := if_neg hpn
    rw [if_neg (by decide), rank_m1, Option.bind_some, if_pos (by decide), if_pos rfl, eS]
    by_cases ho : o = 0
    · subst ho
      rw [if_pos rfl, if_pos (by decide)]
      obtain ⟨u, u1, u2, u3, u4, u5, u6, u7⟩ := down_ok (r := 1) hN (by omega) hV hS (by omega)
      obtain ⟨g1, g2, g3⟩ := gS_wd (r := 1) (by omega) S 0 V h6
      have hu1 : f_X8_workDown N 1 t = some u := u1
      rw [hu1, Option.bind_some]
      refine ⟨u, _, _, _, t5.tr u4, rfl, rfl, by rw [u6]; exact h3t, ?_⟩
      have hnil : (wd 1 S V).2 = [] := by
        cases hw : (wd 1 S V).2 with
        | nil => rfl
        | cons c S' =>
          exfalso
          rw [hw] at g1 g3
          have := g3 c S' rfl
          rcases g1 with g | g | g
          · omega
          · omega
          · cases g.1
      rw [hnil] at u7
      match hv : (wd 1 S V).1, u7 with
      | [v], _ => rw [hv] at u2; exact u2.top
      | [], h => simp [nbS] at h
      | _ :: _ :: _, h => simp [nbS] at h
    · rw [if_neg ho, if_neg (nI_ne0 (by omega) (by omega)), t2, k10]
      exact ⟨_, _, _, _, t5.pI53 (by omega), rfl, by omega, gI_pI_eq⟩
/-- all turns -/
theorem rd_all {T : Nat → Nat} {n N : Nat} {k6 : jM → Option (Int32 × jM)} {lt : Nat → Int64} (hN : 60 < N) : ∀ (m pm : Nat) (w : Bool) (V : List Int64) (S : List Nat) (o : Nat) (s : jM) (q : Nat), n - pm = m → MT T n s → (∀ j, j < 6 → gL s 60 j = lt j) → RI T n s pm w V S o → m + 1 < q →
    ∃ s', lp_X8_reads_26 N k6 q (nI o) (cond w 1 0) 1 s = k6 s' ∧ FrR s s' ∧ ((∃ f, f < 1000 ∧ gI s' 53 7 = nI f ∧ Flt lt T n (w, nb T n pm, V, S, o) f) ∨ (gI s' 53 7 = -1 ∧ Dne lt T n (w, nb T n pm, V, S, o) (gL s' 58 0))) := by
  intro m
  induction m using Nat.strongRecOn with
  | _ m ih =>
  intro pm w V S o s q hm hT hL h hq
  obtain ⟨q, rfl⟩ : ∃ r, q = r + 1 + 1 := ⟨q - 2, by omega⟩
  have key : ∃ s' x12 x13 x14, FrR s s' ∧ lp_X8_reads_26 N k6 (q + 1 + 1) (nI o) (cond w 1 0) 1 s = lp_X8_reads_26 N k6 (q + 1) x12 x13 x14 s' ∧ RT T n s' pm x12 x13 x14 (rst lt T n (w, nb T n pm, V, S, o)) := by
    cases w with
    | true => exact rd_W hN hT hL h (q + 1)
    | false => exact rd_S hN hT h (q + 1)
  obtain ⟨s', x12, x13, x14, r1, r2, r3⟩ := key
  rw [r2]
  cases hr : rst lt T n (w, nb T n pm, V, S, o) with
  | inl b =>
    obtain ⟨w', p', V', S', o'⟩ := b
    rw [hr] at r3
    obtain ⟨⟨pm', e1, e2, e3⟩, rfl, rfl, rfl⟩ := r3
    have hle := e3.2.1
    obtain ⟨u, u1, u2, u3⟩ := ih (n - pm') (by omega) pm' w' V' S' o' s' (q + 1) rfl (hT.fr r1) (fun j hj => by rw [fr_gL r1.1 (by decide)]; exact hL j hj) e3 (by omega)
    refine ⟨u, u1, r1.tr u2, ?_⟩
    rw [e1] at u3
    rcases u3 with ⟨f, f1, f2, f3⟩ | ⟨f1, f2⟩
    · exact Or.inl ⟨f, f1, f2, (Rch.st hr).flt f3⟩
    · exact Or.inr ⟨f1, (Rch.st hr).dne f2⟩
  | inr x =>
    rw [hr] at r3
    cases x with
    | inl f =>
      obtain ⟨f1, f2⟩ := r3
      refine ⟨s', ?_, r1, Or.inl ⟨f, f1, f2, Flt.st hr⟩⟩
      rw [lp_X8_reads_26, f2, if_neg (nI_ne_m1 (by omega))]
      split <;> rfl
    | inr v =>
      obtain ⟨f1, f2, f3⟩ := r3
      refine ⟨s', ?_, r1, Or.inr ⟨f2, ?_⟩⟩
      · rw [lp_X8_reads_26, f1, if_pos rfl]
      · rw [f3]; exact Dne.st hr
/-- the reference's reading -/
theorem reads_ok {T : Nat → Nat} {n N : Nat} {lt : Nat → Int64} {s : jM} (hN : 60 < N) (hT : MT T n s) (hL : ∀ j, j < 6 → gL s 60 j = lt j) :
    ∃ s' r, f_X8_reads N s = some (r, s') ∧ FrR s s' ∧ ((∃ f, f < 1000 ∧ r = 0 ∧ gI s' 53 7 = nI f ∧ Flt lt T n (C0 T n) f) ∨ (r = 1 ∧ gI s' 53 7 = -1 ∧ Dne lt T n (C0 T n) (gL s' 53 13))) := by
  have hf : FrR s (pI (pI (pI (pI s 53 6 0) 53 7 (-1)) 53 9 0) 53 11 0) := ((((FrR.rf.pI53 (by omega)).pI53 (by omega)).pI53 (by omega)).pI53 (by omega))
  have hR : RI T n (pI (pI (pI (pI s 53 6 0) 53 7 (-1)) 53 9 0) 53 11 0) 0 true [] [] 0 := by
    refine ⟨?_, by omega, ?_, ⟨?_, by decide, fun i x hx => by simp at hx⟩, ⟨?_, by decide, fun i x hx => by simp at hx⟩, rfl, rfl, by simp, by omega⟩
    · simp [gI_pI_cell]; rfl
    · simp [gI_pI_cell]
    · simp [gI_pI_cell]; rfl
    · simp [gI_pI_cell]; rfl
  have hn := hT.1
  simp only [f_X8_reads, lt_, jn_]
  obtain ⟨u, u1, u2, u3⟩ := rd_all (lt := lt) (k6 := fun s5 => if gI s5 53 7 = -1 then gd (ib 0 64) (if gI (pL s5 53 13 (gL s5 58 (Int32.toNatClampNeg 0))) 53 7 = -1 then some ((1 : Int32), pL s5 53 13 (gL s5 58 (Int32.toNatClampNeg 0))) else some ((0 : Int32), pL s5 53 13 (gL s5 58 (Int32.toNatClampNeg 0)))) else (if gI (pL s5 53 13 0) 53 7 = -1 then some ((1 : Int32), pL s5 53 13 0) else some ((0 : Int32), pL s5 53 13 0))) hN _ 0 true [] [] 0 _ N rfl (hT.fr hf) (fun j hj => by rw [fr_gL hf.1 (by decide)]; exact hL j hj) hR (by omega)
  refine Exists.imp (fun s' h => h) ?_
  rcases u3 with ⟨f, f1, f2, f3⟩ | ⟨f1, f2⟩
  · refine ⟨pL u 53 13 0, 0, ?_, (hf.tr u2).pL53, Or.inl ⟨f, f1, rfl, f2, f3⟩⟩
    refine Eq.trans u1 ?_
    rw [f2, if_neg (nI_ne_m1 (by omega)), gI_pL, f2, if_neg (nI_ne_m1 (by omega))]
  · refine ⟨pL u 53 13 (gL u 58 0), 1, ?_, (hf.tr u2).pL53, Or.inr ⟨rfl, f1, by rw [gL_pL_eq]; exact f2⟩⟩
    refine Eq.trans u1 ?_
    rw [f1, if_pos rfl, gI_pL, f1, if_pos rfl]
    rfl
