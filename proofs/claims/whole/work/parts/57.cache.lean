/-! what the judge remembers -/
def JI (s : jM) (v : Nat → Nat) : Prop := gI s 33 5 = 0 → ∀ c b, c < 800 → b < 64 → hb (gL s 35 c) b = true → (hb (gL s 36 c) b = true ↔ ODD v ((64 * c + b) % 256) 0 ((64 * c + b) / 256))
def FrJ (s t : jM) : Prop := FrL [29, 32, 33, 34, 35, 36] s t ∧ Fr29 s t
theorem FrJ.tr {s t u : jM} (h1 : FrJ s t) (h2 : FrJ t u) : FrJ s u := ⟨fr_tr h1.1 h2.1, fun i hi => (h2.2 i hi).trans (h1.2 i hi)⟩
theorem FrJ.rf {s : jM} : FrJ s s := ⟨FrL.rf, fun _ _ => rfl⟩
theorem VW.j {v : Nat → Nat} {s t : jM} (h : VW (Tv v) (v 34) s) (hf : FrJ s t) : VW (Tv v) (v 34) t := h.fr hf.2 (fun i => fr_gI hf.1 (by decide)) (fun i => fr_gI hf.1 (by decide))
theorem SC.j {v : Nat → Nat} {s t : jM} {b : Nat} (h : SC s b v) (hf : FrJ s t) (hb : b + 8 < 29) : SC t b v := h.frl hf.1 (fun j hj => by simp; omega)
theorem ODD_nm {v : Nat → Nat} {a k m m' : Nat} {s : jM} (h : VW (Tv v) (v 34) s) (h8 : gI s 29 8 = 0) : ODD v a k m ↔ ODD v a k m' := by
  have hl : ∀ m m', ∀ j, j < 5 → ltv v a k m j = ltv v a k m' j := by
    intro m m' j hj
    unfold ltv
    by_cases h0 : j = 0
    · rw [if_pos h0, if_pos h0]
    · rw [if_neg h0, if_neg h0, if_pos hj, if_pos hj]
  exact ⟨fun ⟨x, h1, h2⟩ => ⟨x, h.nm h8 (hl _ _) h1, h2⟩, fun ⟨x, h1, h2⟩ => ⟨x, h.nm h8 (hl _ _) h1, h2⟩⟩
/-- the judge asked at one key -/
theorem jw_key {v : Nat → Nat} {N a m K : Nat} {s : jM} {P : Prop} (hN : 60 < N) (h : OkV v) (hS : SC s 1 v) (hW : VW (Tv v) (v 34) s) (hJ : JI s v) (h5 : gI s 33 5 = 0) (ha : a < 256) (hm : m < 2 ^ 31) (hK : K < 51200) (hKo : ODD v (K % 256) 0 (K / 256) ↔ P) (hP : ODD v a 0 m ↔ P) :
    ∃ s' r, (if nI (K / 64) < 0 then (some ((0 : Int32), s)) else (if nI (K / 64) < (800 : Int32) then (
      gd (ib (nI (K / 64)) 800) <| if ((gL s 35 (Int32.toNatClampNeg (nI (K / 64)))) &&& lN (2 ^ (K % 64))) = (0 : Int64) then (
        gd (ib (nI (K / 64)) 800) <| gd (ib (nI (K / 64)) 800) <| Option.bind (f_X4_isOdd N (nI a) (0 : Int32) (nI m) (pL s 35 (Int32.toNatClampNeg (nI (K / 64))) ((gL s 35 (Int32.toNatClampNeg (nI (K / 64)))) ||| lN (2 ^ (K % 64))))) fun r22 =>
          if r22.1 = 0 then (gd (ib (nI (K / 64)) 800) <| gd (ib (nI (K / 64)) 800) <| gd (ib (nI (K / 64)) 800) <| if ((gL (pL r22.2 36 (Int32.toNatClampNeg (nI (K / 64))) ((gL r22.2 36 (Int32.toNatClampNeg (nI (K / 64)))) &&& (lN (2 ^ (K % 64)) ^^^ (-1 : Int64)))) 36 (Int32.toNatClampNeg (nI (K / 64)))) &&& lN (2 ^ (K % 64))) = (0 : Int64) then (some ((0 : Int32), pL r22.2 36 (Int32.toNatClampNeg (nI (K / 64))) ((gL r22.2 36 (Int32.toNatClampNeg (nI (K / 64)))) &&& (lN (2 ^ (K % 64)) ^^^ (-1 : Int64))))) else (some ((1 : Int32), pL r22.2 36 (Int32.toNatClampNeg (nI (K / 64))) ((gL r22.2 36 (Int32.toNatClampNeg (nI (K / 64)))) &&& (lN (2 ^ (K % 64)) ^^^ (-1 : Int64))))))
          else (gd (ib (nI (K / 64)) 800) <| gd (ib (nI (K / 64)) 800) <| gd (ib (nI (K / 64)) 800) <| if ((gL (pL r22.2 36 (Int32.toNatClampNeg (nI (K / 64))) ((gL r22.2 36 (Int32.toNatClampNeg (nI (K / 64)))) ||| lN (2 ^ (K % 64)))) 36 (Int32.toNatClampNeg (nI (K / 64)))) &&& lN (2 ^ (K % 64))) = (0 : Int64) then (some ((0 : Int32), pL r22.2 36 (Int32.toNatClampNeg (nI (K / 64))) ((gL r22.2 36 (Int32.toNatClampNeg (nI (K / 64)))) ||| lN (2 ^ (K % 64))))) else (some ((1 : Int32), pL r22.2 36 (Int32.toNatClampNeg (nI (K / 64))) ((gL r22.2 36 (Int32.toNatClampNeg (nI (K / 64)))) ||| lN (2 ^ (K % 64)))))))
      else (gd (ib (nI (K / 64)) 800) <| if ((gL s 36 (Int32.toNatClampNeg (nI (K / 64)))) &&& lN (2 ^ (K % 64))) = (0 : Int64) then (some ((0 : Int32), s)) else (some ((1 : Int32), s)))) else (some ((0 : Int32), s)))) = some (r, s') ∧ FrJ s s' ∧ JI s' v ∧ (r = 0 ∨ r = 1) ∧ (r = 1 ↔ P) := by
  have hb64 : K % 64 < 64 := Nat.mod_lt _ (by omega)
  have hc8 : K / 64 < 800 := by omega
  have eK : 64 * (K / 64) + K % 64 = K := Nat.div_add_mod K 64
  rw [if_neg (by rw [show (0 : Int32) = nI 0 from rfl, nI_ltI (by omega) (by omega)]; omega), if_pos (by rw [lt_c (by omega) (by omega)]; omega), nI_clamp (by omega)]
  simp only [ib_nI (show K / 64 < 2 ^ 31 by omega), gd_dec hc8]
  by_cases hask : hb (gL s 35 (K / 64)) (K % 64) = true
  · have hj := hJ h5 (K / 64) (K % 64) hc8 hb64 hask
    rw [eK, hKo] at hj
    rw [if_neg (fun z => by rw [hb_and hb64, hask] at z; cases z)]
    by_cases hf : hb (gL s 36 (K / 64)) (K % 64) = true
    · rw [if_neg (fun z => by rw [hb_and hb64, hf] at z; cases z)]
      exact ⟨s, 1, rfl, FrJ.rf, hJ, Or.inr rfl, fun _ => hj.mp hf, fun _ => rfl⟩
    · rw [if_pos (by rw [hb_and hb64]; simpa using hf)]
      exact ⟨s, 0, rfl, FrJ.rf, hJ, Or.inl rfl, fun z => absurd z (by decide), fun z => absurd (hj.mpr z) hf⟩
  · rw [if_pos (by rw [hb_and hb64]; simpa using hask)]
    generalize hs1 : pL s 35 (K / 64) (gL s 35 (K / 64) ||| lN (2 ^ (K % 64))) = s1
    have f1 : FrL [35] s s1 := by rw [← hs1]; exact fr_pL FrL.rf (by decide)
    have hS1 : SC s1 1 v := hS.frl f1 (fun j hj => by simp; omega)
    have hW1 : VW (Tv v) (v 34) s1 := hW.fr (fun i _ => fr_gI f1 (by decide)) (fun i => fr_gI f1 (by decide)) (fun i => fr_gI f1 (by decide))
    obtain ⟨u, r, u1, u2, u3, u4, u5⟩ := isOddC_ok (N := N) (k := 0) hN h hS1 hW1 ha hm (by omega)
    have u1' : f_X4_isOdd N (nI a) (0 : Int32) (nI m) s1 = some (r, u) := u1
    rw [hP] at u5
    rw [u1', Option.bind_some]
    simp only
    have key : ∀ (y : Int64), (∀ b, b < 64 → ¬ b = K % 64 → hb y b = hb (gL s 36 (K / 64)) b) → (hb y (K % 64) = true ↔ P) → FrJ s (pL u 36 (K / 64) y) ∧ JI (pL u 36 (K / 64) y) v := by
      intro y hy1 hy2
      have fj : FrJ s (pL u 36 (K / 64) y) := ⟨fr_pL (fr_tr (fr_mono f1 (by decide)) (fr_mono u2 (by decide))) (by decide), fun i hi => by rw [gI_pL, u3 i hi]; exact fr_gI f1 (by decide)⟩
      refine ⟨fj, fun _ c b hc hb6 hh => ?_⟩
      have e35 : gL (pL u 36 (K / 64) y) 35 c = gL s1 35 c := by rw [gL_pL_ne (by decide)]; exact fr_gL u2 (by decide)
      have e36 : gL u 36 c = gL s 36 c := (fr_gL u2 (by decide)).trans (fr_gL f1 (by decide))
      rw [e35, ← hs1, gL_pL_cell] at hh
      rw [gL_pL_cell]
      by_cases hcK : c = K / 64
      · rw [if_pos hcK] at hh ⊢
        by_cases hbK : b = K % 64
        · rw [hbK, hcK, eK, hKo]; exact hy2
        · rw [hb_or hb64] at hh
          have hh2 : hb (gL s 35 c) b = true := by rw [hcK]; simpa [hbK] using hh
          rw [hy1 b hb6 hbK, ← hcK]
          exact hJ h5 c b hc hb6 hh2
      · rw [if_neg hcK] at hh ⊢
        rw [e36]
        exact hJ h5 c b hc hb6 hh
    have e36 : gL u 36 (K / 64) = gL s 36 (K / 64) := (fr_gL u2 (by decide)).trans (fr_gL f1 (by decide))
    rcases u4 with hr | hr
    · have hnP : ¬ P := fun z => by rw [u5.mpr z] at hr; cases hr
      have hq : hb (gL u 36 (K / 64) &&& (lN (2 ^ (K % 64)) ^^^ (-1))) (K % 64) = false := by rw [hb_not hb64 hb64]; simp
      obtain ⟨k1, k2⟩ := key (gL u 36 (K / 64) &&& (lN (2 ^ (K % 64)) ^^^ (-1))) (fun b hb1 hb2 => by rw [hb_not hb64 hb1, e36]; simp [hb2]) ⟨fun z => absurd (z.symm.trans hq) (by decide), fun z => absurd z hnP⟩
      rw [if_pos hr, gL_pL_eq, if_pos (by rw [hb_and hb64]; exact hq)]
      exact ⟨_, 0, rfl, k1, k2, Or.inl rfl, fun z => absurd z (by decide), fun z => absurd z hnP⟩
    · have hyP : P := u5.mp hr
      have hq : hb (gL u 36 (K / 64) ||| lN (2 ^ (K % 64))) (K % 64) = true := by rw [hb_or hb64]; simp
      obtain ⟨k1, k2⟩ := key (gL u 36 (K / 64) ||| lN (2 ^ (K % 64))) (fun b hb1 hb2 => by rw [hb_or hb64, e36]; simp [hb2]) ⟨fun _ => hyP, fun _ => hq⟩
      rw [if_neg (by rw [hr]; decide), gL_pL_eq, if_neg (fun z => by rw [hb_and hb64, hq] at z; cases z)]
      exact ⟨_, 1, rfl, k1, k2, Or.inr rfl, fun _ => hyP, fun _ => rfl⟩
theorem judge_ok {v : Nat → Nat} {N a m : Nat} {s : jM} (hN : 1000 < N) (h : OkV v) (hS : SC s 1 v) (hW : VW (Tv v) (v 34) s) (hJ : JI s v) (ha : a < 256) (hm : m < 200) :
    ∃ s' r, f_X4_isWell N (nI a) (nI m) s = some (r, s') ∧ FrJ s s' ∧ JI s' v ∧ (r = 0 ∨ r = 1) ∧ (r = 1 ↔ WELL v a 0 m) := by
  by_cases h0 : a = 0
  · subst h0
    exact ⟨s, 1, rfl, FrJ.rf, hJ, Or.inr rfl, fun _ => Or.inl ⟨rfl, rfl⟩, fun _ => rfl⟩
  · have hwl : WELL v a 0 m ↔ ODD v a 0 m := ⟨fun z => z.resolve_left (fun y => h0 y.1), Or.inr⟩
    rw [hwl]
    simp only [f_X4_isWell, jn_, lt_]
    rw [if_neg (nI_ne0 (by omega) (by omega))]
    by_cases h5 : gI s 33 5 = 0
    · rw [if_pos h5]
      obtain ⟨t, ht, f1, f2, f3⟩ : ∃ t, t = s ∧ FrJ s t ∧ JI t v ∧ gI t 33 5 = 0 := ⟨s, rfl, FrJ.rf, hJ, h5⟩
      rw [← ht]
      have hS2 : SC t 1 v := hS.j f1 (by omega)
      have hW2 := hW.j f1
      by_cases h8 : gI t 29 8 = 0
      · rw [if_pos h8, show (0 : Int32) * 256 + nI a = nI a from by rw [show (0 : Int32) = nI 0 from rfl, lit_nI 256, pk_mul, nI_add]; congr 1; omega, nI_shr6 (by omega), key_bit]
        obtain ⟨s', r, r1, r2, r3, r4, r5⟩ := jw_key (N := N) (K := a) (m := m) (P := ODD v a 0 m) (by omega) h hS2 hW2 f2 f3 ha (by omega) (by omega) (by rw [Nat.mod_eq_of_lt ha]; exact ODD_nm hW2 h8) Iff.rfl
        exact ⟨s', r, r1, by first | exact f1.tr r2 | exact r2, r3, r4, r5⟩
      · rw [if_neg h8, show nI m * (256 : Int32) + nI a = nI (256 * m + a) from by rw [lit_nI 256, pk_mul, nI_add, Nat.mul_comm], nI_shr6 (by omega), key_bit]
        obtain ⟨s', r, r1, r2, r3, r4, r5⟩ := jw_key (N := N) (K := 256 * m + a) (m := m) (P := ODD v a 0 m) (by omega) h hS2 hW2 f2 f3 ha (by omega) (by omega) (by rw [show (256 * m + a) % 256 = a from by omega, show (256 * m + a) / 256 = m from by omega]) Iff.rfl
        exact ⟨s', r, r1, by first | exact f1.tr r2 | exact r2, r3, r4, r5⟩
    · obtain ⟨t0, t1, t2, t3⟩ := fillL_ok (N := N) (b0 := 35) (n0 := 800) (x := 0) (s := s) (by omega) (by omega)
      rw [if_neg h5, t1, Option.bind_some]
      obtain ⟨t, ht, f1, f2, f3⟩ : ∃ t, t = pI t0 33 5 0 ∧ FrJ s t ∧ JI t v ∧ gI t 33 5 = 0 := by
        refine ⟨pI t0 33 5 0, rfl, ⟨fr_pI (fr_mono t2 (by decide)) (by decide), fun i hi => by rw [gI_pI_ne (by decide)]; exact fr_gI t2 (by decide)⟩, ?_, gI_pI_eq⟩
        intro _ c b hc hb6 hh
        rw [gL_pI, t3 c hc, hb_zero] at hh
        cases hh
      rw [← ht]
      have hS2 : SC t 1 v := hS.j f1 (by omega)
      have hW2 := hW.j f1
      by_cases h8 : gI t 29 8 = 0
      · rw [if_pos h8, show (0 : Int32) * 256 + nI a = nI a from by rw [show (0 : Int32) = nI 0 from rfl, lit_nI 256, pk_mul, nI_add]; congr 1; omega, nI_shr6 (by omega), key_bit]
        obtain ⟨s', r, r1, r2, r3, r4, r5⟩ := jw_key (N := N) (K := a) (m := m) (P := ODD v a 0 m) (by omega) h hS2 hW2 f2 f3 ha (by omega) (by omega) (by rw [Nat.mod_eq_of_lt ha]; exact ODD_nm hW2 h8) Iff.rfl
        exact ⟨s', r, r1, by first | exact f1.tr r2 | exact r2, r3, r4, r5⟩
      · rw [if_neg h8, show nI m * (256 : Int32) + nI a = nI (256 * m + a) from by rw [lit_nI 256, pk_mul, nI_add, Nat.mul_comm], nI_shr6 (by omega), key_bit]
        obtain ⟨s', r, r1, r2, r3, r4, r5⟩ := jw_key (N := N) (K := 256 * m + a) (m := m) (P := ODD v a 0 m) (by omega) h hS2 hW2 f2 f3 ha (by omega) (by omega) (by rw [show (256 * m + a) % 256 = a from by omega, show (256 * m + a) / 256 = m from by omega]) Iff.rfl
        exact ⟨s', r, r1, by first | exact f1.tr r2 | exact r2, r3, r4, r5⟩
