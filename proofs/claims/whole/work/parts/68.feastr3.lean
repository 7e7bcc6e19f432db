/-! the feast in the reference: all its minutes -/
def RS (s : jM) (v : Nat → Nat) (m : Nat) : Prop := RC s (fst_ v m).1 (fst_ v m).2 ∧ gI s 53 17 = nI (fnum v m) ∧ gI s 53 18 = enc (ffst v m) ∧ ∀ j, j < m → gI s 63 j = nI (onset v (fst_ v (j + 1)).1 (fst_ v (j + 1)).2)
theorem FOK_200 {v : Nat → Nat} {m : Nat} (h : OkV v) (hm : m ≤ 200) : FOK v 200 (fst_ v m).1 (fst_ v m).2 := fun i => by
  obtain ⟨a, b, c, d⟩ := FOK_st h m i
  exact ⟨by omega, by omega, c, d⟩
theorem cel_loop {v : Nat → Nat} {N : Nat} (hN : 300 < N) (h : OkV v) : ∀ (k m : Nat) (s : jM) (q : Nat), 200 - m = k → m ≤ 200 → k < q → RM s 54 0 v → RS s v m →
    ∃ s', lp_X8_celebrate_40 N q (nI m) s = some s' ∧ RS s' v 200 ∧ FrK s s' := by
  intro k
  induction k with
  | zero =>
    intro m s q hk hm hq hR hG
    obtain ⟨q, rfl⟩ : ∃ r, q = r + 1 := ⟨q - 1, by omega⟩
    have e : m = 200 := by omega
    subst e
    refine ⟨s, ?_, hG, FrK.rf⟩
    rw [lp_X8_celebrate_40, if_pos (by decide)]
  | succ k ih =>
    intro m s q hk hm hq hR hG
    obtain ⟨q, rfl⟩ : ∃ r, q = r + 1 := ⟨q - 1, by omega⟩
    have hF := FOK_st h m
    have hnl := fnum_le v m
    obtain ⟨g1, g2, g3, g4⟩ := hG
    have hM : may v m (fst_ v m).1 (fst_ v m).2 < 256 := msk_256 h
    have hO := onset_lt (on := (fst_ v m).1) (off := (fst_ v m).2) h
    rw [lp_X8_celebrate_40, if_neg (by rw [c_le (by omega) (by omega)]; omega), onNow_ok (by omega) h hR g1 (FOK_200 h (by omega)), Option.bind_some, mayStepR_ok (by omega) h hR g1 hF (by omega), Option.bind_some]
    simp only [jn_, lt_]
    -- the end of a minute, with the steps x
    have fin : ∀ (x : Nat) (t : jM), x < 256 → (∀ i, v 99 ≤ i → x.testBit i = false) →
        (∀ i, i < 8 → (if (x.testBit i && !(onset v (fst_ v m).1 (fst_ v m).2).testBit i) = true then m + 1 else (fst_ v m).1 i) = (fst_ v (m + 1)).1 i ∧ (if (x.testBit i && (onset v (fst_ v m).1 (fst_ v m).2).testBit i) = true then m + 1 else (fst_ v m).2 i) = (fst_ v (m + 1)).2 i) →
        onset v (fst_ v m).1 (fst_ v m).2 ^^^ x = onset v (fst_ v (m + 1)).1 (fst_ v (m + 1)).2 →
        RM t 54 0 v → RC t (fst_ v m).1 (fst_ v m).2 → gI t 53 17 = nI (fnum v (m + 1)) → gI t 53 18 = enc (ffst v (m + 1)) → FrK s t → (∀ i, gI t 63 i = gI s 63 i) →
        ∃ s', lp_X8_celebrate_178 N (nI m) (nI (onset v (fst_ v m).1 (fst_ v m).2)) (nI x) (fun s17 => gd (ib (nI m) 200) (lp_X8_celebrate_40 N q (nI m + 1) (pI s17 63 (Int32.toNatClampNeg (nI m)) (nI (onset v (fst_ v m).1 (fst_ v m).2) ^^^ nI x)))) N (0 : Int32) t = some s' ∧ RS s' v 200 ∧ FrK s s' := by
      intro x t hx hxW hst hon tR tC t17 t18 tf t63
      have h8 := h.1
      obtain ⟨u, u1, u2, u3⟩ := wr_loop (N := N) (m := m) (k18 := fun s17 => gd (ib (nI m) 200) (lp_X8_celebrate_40 N q (nI m + 1) (pI s17 63 (Int32.toNatClampNeg (nI m)) (nI (onset v (fst_ v m).1 (fst_ v m).2) ^^^ nI x)))) h hx hxW (v 99) 0 t N (by omega) (by omega) (by omega) tR (fun k hk => by simpa using tC k hk)
      rw [show (0 : Int32) = nI 0 from rfl, u1, ib_nI (by omega), gd_dec (by omega), nI_clamp (by omega), nI_1, nI_xor, hon]
      have uf : FrK s u := tf.tr ⟨fr_mono u2 (by decide), fun j _ _ _ _ _ _ => fr_gI u2 (by decide), fun j _ => fr_gL u2 (by decide)⟩
      have hG2 : RS (pI u 63 m (nI (onset v (fst_ v (m + 1)).1 (fst_ v (m + 1)).2))) v (m + 1) := by
        refine ⟨fun i hi => ?_, ?_, ?_, fun j hj => ?_⟩
        · rw [gI_pI_ne (by decide), gI_pI_ne (by decide)]
          have := u3 i hi
          rw [(hst i hi).1, (hst i hi).2] at this
          exact this
        · rw [gI_pI_ne (by decide), fr_gI u2 (by decide)]; exact t17
        · rw [gI_pI_ne (by decide), fr_gI u2 (by decide)]; exact t18
        · rw [gI_pI_cell]
          by_cases hjm : j = m
          · rw [if_pos hjm, hjm]
          · rw [if_neg hjm, fr_gI u2 (by decide), t63]; exact g4 j (by omega)
      obtain ⟨s', e1, e2, e3⟩ := ih (m + 1) _ q (by omega) (by omega) (by omega) ((hR.k uf (by decide)).fr (fun i => by rw [gI_pI_ne (by decide)])) hG2
      exact ⟨s', e1, e2, (uf.l (by decide)).tr e3⟩
    obtain ⟨t, t1, t2⟩ := scr_loop (N := N) (k13 := fun x11 s12 => if x11 = -1 then (if gI s12 53 17 = 0 then lp_X8_celebrate_178 N (nI m) (nI (onset v (fst_ v m).1 (fst_ v m).2)) 0 (fun s17 => gd (ib (nI m) 200) (lp_X8_celebrate_40 N q (nI m + 1) (pI s17 63 (Int32.toNatClampNeg (nI m)) (nI (onset v (fst_ v m).1 (fst_ v m).2) ^^^ 0)))) N 0 (pI (pI s12 53 18 (nI m)) 53 17 (gI (pI s12 53 18 (nI m)) 53 17 + 1)) else lp_X8_celebrate_178 N (nI m) (nI (onset v (fst_ v m).1 (fst_ v m).2)) 0 (fun s17 => gd (ib (nI m) 200) (lp_X8_celebrate_40 N q (nI m + 1) (pI s17 63 (Int32.toNatClampNeg (nI m)) (nI (onset v (fst_ v m).1 (fst_ v m).2) ^^^ 0)))) N 0 (pI (pI s12 53 18 (gI s12 53 18)) 53 17 (gI (pI s12 53 18 (gI s12 53 18)) 53 17 + 1))) else lp_X8_celebrate_178 N (nI m) (nI (onset v (fst_ v m).1 (fst_ v m).2)) x11 (fun s17 => gd (ib (nI m) 200) (lp_X8_celebrate_40 N q (nI m + 1) (pI s17 63 (Int32.toNatClampNeg (nI m)) (nI (onset v (fst_ v m).1 (fst_ v m).2) ^^^ x11)))) N 0 s12) (by omega) h hF (by omega) (may v m (fst_ v m).1 (fst_ v m).2 + 1) 0 none s N (by omega) (by omega) hR g1 (fun y hy => by cases hy)
    have hch : scn (fun x => wellOn v m (fst_ v m).1 (onset v (fst_ v m).1 (fst_ v m).2 ^^^ x)) (may v m (fst_ v m).1 (fst_ v m).2) (may v m (fst_ v m).1 (fst_ v m).2 + 1) 0 none = choice v m (fst_ v m).1 (fst_ v m).2 := rfl
    rw [hch] at t1
    have t17 : gI t 53 17 = nI (fnum v m) := by rw [t2.2.1 17 (by decide) (by decide) (by decide) (by decide)]; exact g2
    have t18 : gI t 53 18 = enc (ffst v m) := by rw [t2.2.1 18 (by decide) (by decide) (by decide) (by decide)]; exact g3
    have t63 : ∀ i, gI t 63 i = gI s 63 i := fun i => fr_gI t2.1 (by decide)
    have tR : RM t 54 0 v := hR.w t2 (by decide)
    have tC := g1.w t2
    suffices hs : ∃ s', _ = some s' ∧ RS s' v 200 ∧ FrK s s' by
      obtain ⟨s', e1, e2, e3⟩ := hs
      exact ⟨s', Eq.trans t1 e1, e2, e3⟩
    cases hc : choice v m (fst_ v m).1 (fst_ v m).2 with
    | none =>
      have hb := fbad_iff.mpr hc
      have est : fst_ v (m + 1) = fst_ v m := fstp_none hc
      have en : fnum v (m + 1) = fnum v m + 1 := by simp only [fnum]; rw [hb]; rfl
      rw [show encO none = -1 from rfl, if_pos rfl, t17]
      have go : ∀ (z : Int32), z = enc (ffst v (m + 1)) → ∃ s', lp_X8_celebrate_178 N (nI m) (nI (onset v (fst_ v m).1 (fst_ v m).2)) 0 (fun s17 => gd (ib (nI m) 200) (lp_X8_celebrate_40 N q (nI m + 1) (pI s17 63 (Int32.toNatClampNeg (nI m)) (nI (onset v (fst_ v m).1 (fst_ v m).2) ^^^ 0)))) N 0 (pI (pI t 53 18 z) 53 17 (gI (pI t 53 18 z) 53 17 + 1)) = some s' ∧ RS s' v 200 ∧ FrK s s' := by
        intro z hz
        refine fin 0 _ (by omega) (fun i _ => Nat.zero_testBit i) (fun i hi => ?_) ?_ (tR.fr (fun i => by rw [gI_pI_ne (by decide), gI_pI_ne (by decide)])) (tC.fr (fun i => by rw [gI_pI_ne (by decide), gI_pI_ne (by decide)]) (fun i => by rw [gI_pI_ne (by decide), gI_pI_ne (by decide)])) ?_ ?_ ((t2.k.f (by omega)).f (by omega)) (fun i => by rw [gI_pI_ne (by decide), gI_pI_ne (by decide)]; exact t63 i)
        · rw [est, Nat.zero_testBit]; simp
        · rw [est, Nat.xor_zero]
        · rw [gI_pI_eq, gI_pI_cell, if_neg (by decide), t17, nI_1, en]
        · rw [gI_pI_cell, if_neg (by decide), gI_pI_eq, hz]
      by_cases hz : fnum v m = 0
      · rw [hz, if_pos (by decide)]
        exact go (nI m) (by simp only [ffst]; rw [hb, if_pos rfl, if_pos hz]; rfl)
      · rw [if_neg (nI_ne0 (by omega) (by omega))]
        exact go (gI t 53 18) (by rw [t18]; simp only [ffst]; rw [hb, if_pos rfl, if_neg hz])
    | some x =>
      have hb : fbad v m = false := by
        cases hf : fbad v m with
        | true => rw [fbad_iff.mp hf] at hc; cases hc
        | false => rfl
      have hx := (choice_sub h hc).2
      have e : fst_ v (m + 1) = (fun i => if x.testBit i && !(onset v (fst_ v m).1 (fst_ v m).2).testBit i then m + 1 else (fst_ v m).1 i, fun i => if x.testBit i && (onset v (fst_ v m).1 (fst_ v m).2).testBit i then m + 1 else (fst_ v m).2 i) := by
        show fstp v m (fst_ v m) = _
        unfold fstp; rw [hc]
      rw [show encO (some x) = nI x from rfl, if_neg (nI_ne_m1 (by omega))]
      refine fin x t hx (fun i hi => ?_) (fun i hi => ?_) ?_ tR tC ?_ ?_ t2.k t63
      · cases hxi : x.testBit i with
        | true => have := (mayb_bit h hc hxi).1; omega
        | false => rfl
      · rw [e]; exact ⟨rfl, rfl⟩
      · exact (onset_step h hF hc).symm
      · rw [t17]; simp only [fnum]; rw [hb]; rfl
      · rw [t18]; simp only [ffst]; rw [hb]; rfl
