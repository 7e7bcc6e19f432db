/-! the reference's reading: a turn where a sign is wanted; all turns -/
theorem down_ok {N r : Nat} (hN : 60 < N) (hr : r ≤ 5) {S : List Nat} {V : List Int64} {s : jM} (hV : MV s V) (hS : MS s S) (hl : V.length = nbS S + 1) :
    ∃ s', f_X8_workDown N (nI r) s = some s' ∧ MV s' (wd r S V).1 ∧ MS s' (wd r S V).2 ∧ FrR s s' ∧ gI s' 53 6 = gI s 53 6 ∧ gI s' 53 7 = gI s 53 7 ∧ (wd r S V).1.length = nbS (wd r S V).2 + 1 := by
  have h := hS.2.1
  exact workDown_ok hr S V s N hV hS hl (by omega)
theorem rd_S {T : Nat → Nat} {n N o pm : Nat} {k6 : jM → Option (Int32 × jM)} {lt : Nat → Int64} {s : jM} {V : List Int64} {S : List Nat} (hN : 60 < N) (hT : MT T n s) (h : RI T n s pm false V S o) (q : Nat) :
    ∃ s' x12 x13 x14, FrR s s' ∧ lp_X8_reads_26 N k6 (q + 1) (nI o) 0 1 s = lp_X8_reads_26 N k6 q x12 x13 x14 s' ∧ RT T n s' pm x12 x13 x14 (rstS T n (nb T n pm) V S o) := by
  obtain ⟨h1, h2, h3, h4, h5, h6, h7, h8, h9⟩ := h
  have hn := hT.1
  have hnS := nbS_le S
  obtain ⟨t, t1, t2, t3, t4, t5⟩ := ahead_ok (N := N) (by omega) h2 hT h1
  have hge := nb_ge' (T := T) (n := n) (p := pm)
  have hle := nb_le' (T := T) h2
  have hV : MV t V := h4.keep (t3 9 (by decide)) (fun i => by rw [fr_gL t4 (by decide)])
  have hS : MS t S := h5.keep (t3 11 (by decide)) (fun i => by rw [fr_gI t4 (by decide)])
  have hTt := hT.fr t5
  have h3t : gI t 53 7 = -1 := by rw [t3 7 (by decide)]; exact h3
  simp only [cond] at h7
  rw [lp_X8_reads_26, if_neg (by decide), h3, if_pos rfl]
  simp only [jn_, lt_]
  rw [t1, Option.bind_some]
  simp only
  rw [if_pos trivial]
  generalize hp : nb T n pm = p at *
  -- a sign of two sides is laid on
  have push : ∀ (u : jM) (V' : List Int64) (S' : List Nat), T p < 128 → 0 < rk (T p) → MV u V' → MS u S' → FrR t u → gI u 53 6 = nI p → gI u 53 7 = -1 → p < n → V'.length = nbS S' + 1 → gS false S' o → S'.length ≤ pm →
      gd (ib (gI (pI u 53 6 (gI u 53 6 + 1)) 53 11) 128) (lp_X8_reads_26 N k6 q (nI o) 1 1 (pI (pI (pI u 53 6 (gI u 53 6 + 1)) 59 (gI (pI u 53 6 (gI u 53 6 + 1)) 53 11).toNatClampNeg (nI (T p))) 53 11 (gI (pI (pI u 53 6 (gI u 53 6 + 1)) 59 (gI (pI u 53 6 (gI u 53 6 + 1)) 53 11).toNatClampNeg (nI (T p))) 53 11 + 1))) =
        lp_X8_reads_26 N k6 q (nI o) 1 1 (pI (pI (pI u 53 6 (nI (p + 1))) 59 S'.length (nI (T p))) 53 11 (nI (S'.length + 1))) ∧
      FrR s (pI (pI (pI u 53 6 (nI (p + 1))) 59 S'.length (nI (T p))) 53 11 (nI (S'.length + 1))) ∧
      ∃ pm', nb T n pm' = nb T n (p + 1) ∧ pm < pm' ∧ RI T n (pI (pI (pI u 53 6 (nI (p + 1))) 59 S'.length (nI (T p))) 53 11 (nI (S'.length + 1))) pm' true V' (T p :: S') o := by
    intro u V' S' hc hrk uV uS uf u6 u7 hpn hl hg hSl
    have hSq : MS (pI u 53 6 (nI (p + 1))) S' := uS.keep (by rw [gI_pI_cell]; rfl) (fun i => by rw [gI_pI_ne (by decide)])
    have e1 : gI (pI u 53 6 (nI (p + 1))) 53 11 = nI S'.length := hSq.1
    refine ⟨?_, t5.tr (((uf.pI53 (by omega)).pI59).pI53 (by omega)), p + 1, rfl, by omega, ?_, by omega, ?_, ?_, hSq.push (Or.inl hc) (by omega), Or.inl ⟨hc, hrk, hg⟩, ?_, ?_, h9⟩
    · rw [u6, nI_1, e1, nI_clamp (by omega), ib_nI (by omega), gd_dec (by omega), gI_pI_ne (by decide), e1, nI_1]
    · rw [gI_pI_cell, if_neg (by decide), gI_pI_ne (by decide)]; exact gI_pI_eq
    · rw [gI_pI_cell, if_neg (by decide), gI_pI_ne (by decide), gI_pI_cell]; exact u7
    · exact uV.keep (by rw [gI_pI_cell, if_neg (by decide), gI_pI_ne (by decide), gI_pI_cell]; rfl) (fun i => rfl)
    · show V'.length = (if T p < 1000 then 1 else 0) + nbS S' + 0
      rw [if_pos (by omega)]; omega
    · simp only [List.length_cons]; omega
  by_cases hpn : p < n
  · rw [sgn_in hpn]
    have hTp := hTt.2.1 p
    have hc2 : T p < 2 ^ 31 := by omega
    have hr5 := rk_le (T p)
    have eS : rstS T n p V S o = (if T p = 41 ∧ 0 < o then .inl (false, nb T n (p + 1), (sd (wd 1 S V).2.tail ((wd 1 S V).1.headD 0)).1 :: (wd 1 S V).1.tail, (sd (wd 1 S V).2.tail ((wd 1 S V).1.headD 0)).2, o - 1)
    else if 0 < rk (T p) then
      if rk (T p) = 3 then
        if ((wd 4 S V).2.headD 1000) < 1000 ∧ rk ((wd 4 S V).2.headD 1000) = 3 then .inr (.inl (10 * p + 1))
        else .inl (true, nb T n (p + 1), (wd 4 S V).1, T p :: (wd 4 S V).2, o)
      else .inl (true, nb T n (p + 1), (wd (rk (T p)) S V).1, T p :: (wd (rk (T p)) S V).2, o)
    else .inr (.inl (10 * p + 1))) := if_pos hpn
    rw [eS]
    by_cases h41 : T p = 41 ∧ 0 < o
    · rw [if_pos h41, if_pos ((eq_c (by omega) hc2).mpr h41.1), if_neg (nI_nle h41.2 (by omega)), t2, nI_1]
      have hVq : MV (pI t 53 6 (nI (p + 1))) V := hV.keep (by rw [gI_pI_cell]; rfl) (fun i => rfl)
      have hSq : MS (pI t 53 6 (nI (p + 1))) S := hS.keep (by rw [gI_pI_cell]; rfl) (fun i => by rw [gI_pI_ne (by decide)])
      obtain ⟨u, u1, u2, u3, u4, u5, u6, u7⟩ := down_ok (r := 1) hN (by omega) hVq hSq (by omega)
      obtain ⟨g1, g2, g3⟩ := gS_wd (r := 1) (by omega) S o V h6
      rw [show (1 : Int32) = nI 1 from rfl] at *
      rw [u1, Option.bind_some]
      match hS1 : (wd 1 S V).2, hV1 : (wd 1 S V).1, u2, u3, u7, g1, g2, g3 with
      | [], _, _, _, _, g1, _, _ => exact absurd g1 (by show ¬ o = 0; omega)
      | c :: S', [], _, _, u7, _, _, _ => simp only [List.length_nil] at u7; omega
      | c :: S', v :: V', u2, u3, u7, g1, g2, g3 =>
        sorry
    · rw [if_neg h41]
      sorry
  · rw [sgn_out hpn]
    have eS : rstS T n p V S o = (if o = 0 then .inr (.inr ((wd 1 S V).1.headD 0)) else .inr (.inl (10 * p + 1))) := if_neg hpn
    rw [if_neg (by decide), rank_m1, Option.bind_some, if_pos (by decide), if_pos trivial, eS]
    sorry
