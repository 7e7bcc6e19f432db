/-! all over in companies, in the class: a company looked at -/
def BL : List Nat := [0, 28, 37, 38, 39, 40, 41, 42, 43, 44, 45, 46, 47, 48, 50, 51, 52, 53, 54, 55, 56, 57, 58, 59, 60, 61, 62, 63, 64, 65, 66, 67, 68, 69, 70]
theorem KN.b {s t : jM} {v : Nat → Nat} (h : KN s v) (hf : FrL BL s t) : KN t v := by
  refine ⟨h.1.frl hf (fun j hj => by simp [BL]; omega), h.2.1.fr (fun i _ => fr_gI hf (by decide)) (fun i => fr_gI hf (by decide)) (fun i => fr_gI hf (by decide)), ?_⟩
  intro h5 c b hc hb hh
  rw [fr_gI hf (by decide)] at h5
  rw [fr_gL hf (by decide)] at hh ⊢
  exact h.2.2 h5 c b hc hb hh
def FrC (s t : jM) : Prop := FrL [29, 32, 33, 34, 35, 36, 41, 42, 43, 44, 45, 46, 47, 48] s t ∧ Fr29 s t
theorem FrC.tr {s t u : jM} (h1 : FrC s t) (h2 : FrC t u) : FrC s u := ⟨fr_tr h1.1 h2.1, fun i hi => (h2.2 i hi).trans (h1.2 i hi)⟩
theorem FrC.rf {s : jM} : FrC s s := ⟨FrL.rf, fun _ _ => rfl⟩
theorem FrJ.c {s t : jM} (h : FrJ s t) : FrC s t := ⟨fr_mono h.1 (by decide), h.2⟩
theorem FrC.of {s t : jM} {L : List Nat} (h : FrL L s t) (hL : ∀ c ∈ L, c ∈ [41, 42, 43, 44, 45, 46, 47, 48]) : FrC s t :=
  ⟨fr_mono h (fun c hc => by have := hL c hc; simp at this ⊢; omega), fun i _ => fr_gI h (fun z => by have := hL 29 z; simp at this)⟩
theorem FrC.l {s t : jM} {c i : Nat} {x : Int32} (h : FrC s t) (hc : c ∈ [41, 42, 43, 44, 45, 46, 47, 48]) : FrC s (pI t c i x) := h.tr (FrC.of (L := [c]) (fr_pI FrL.rf (by simp)) (fun d hd => by simp at hd; rw [hd]; exact hc))
theorem KN.c {s t : jM} {v : Nat → Nat} {L : List Nat} (h : KN s v) (hf : FrL L s t) (hL : ∀ c ∈ L, c ∈ BL) : KN t v := h.b (fr_mono hf hL)
theorem tms_full {v : Nat → Nat} {a : Nat} (h : OkV v) (ha : ∀ i, v 99 ≤ i → a.testBit i = false) : tms v a 8 = tim v a := by
  have := tms_more ha (8 - v 99)
  rw [show v 99 + (8 - v 99) = 8 from by have := h.1; omega] at this
  exact this
theorem tms_le8 {v : Nat → Nat} {a i : Nat} (h : OkV v) (ha : ∀ i, v 99 ≤ i → a.testBit i = false) : tms v a i ≤ 20 := by
  by_cases hi : i ≤ v 99
  · exact tms_le h i hi
  · have := tms_more ha (i - v 99)
    rw [show v 99 + (i - v 99) = i from by omega] at this
    rw [this]; exact tim_le h
theorem lc_loop {v : Nat → Nat} {N a : Nat} (h : OkV v) (ha : a < 256) (haW : ∀ i, v 99 ≤ i → a.testBit i = false) : ∀ (m i : Nat) (s : jM) (q : Nat), 8 - i = m → i ≤ 8 → m < q → SC s 1 v → gI s 43 a = nI (tms v a i) →
    ∃ s', lp_X0_lookAtCompany_58 N (nI a) q (nI i) s = some s' ∧ Ol [43] a s s' ∧ gI s' 43 a = nI (tim v a) := by
  intro m
  induction m with
  | zero =>
    intro i s q hm hi hq hS h43
    obtain ⟨q, rfl⟩ : ∃ r, q = r + 1 := ⟨q - 1, by omega⟩
    refine ⟨s, ?_, Ol.rf, ?_⟩
    · rw [lp_X0_lookAtCompany_58, if_pos (by rw [c_le (by omega) (by omega)]; omega)]
    · rw [h43, show i = 8 from by omega, tms_full h haW]
  | succ m ih =>
    intro i s q hm hi hq hS h43
    obtain ⟨q, rfl⟩ : ∃ r, q = r + 1 := ⟨q - 1, by omega⟩
    rw [lp_X0_lookAtCompany_58, if_neg (by rw [c_le (by omega) (by omega)]; omega)]
    simp only [jn_, lt_]
    rw [holds_ok ha (by omega), Option.bind_some, nI_1]
    cases hb : a.testBit i with
    | false =>
      rw [if_pos (by decide)]
      exact ih (i + 1) s q (by omega) (by omega) (by omega) hS (by rw [h43]; simp only [tms]; rw [hb]; rfl)
    | true =>
      have hiW : i < v 99 := by
        by_cases hw : v 99 ≤ i
        · rw [haW i hw] at hb; cases hb
        · omega
      have htm : gI s 3 i = nI (v (4 * i + 1)) := (hS.tm hiW).1
      have h20 := (h.2.2.2.2.2.1 i hiW).2.2.1
      have ht := tms_le8 (i := i) h haW
      rw [if_pos rfl, if_neg (by decide), ib_nI (by omega), ib_nI (by omega), gd_dec ha, gd_dec (by omega), gd_dec ha, nI_clamp (by omega), nI_clamp (by omega), htm, h43]
      have o1 : ∀ x, Ol [43] a s (pI s 43 a x) := fun x => Ol.rf.p (by decide)
      have go : ∀ x, x = nI (tms v a (i + 1)) → ∃ s', lp_X0_lookAtCompany_58 N (nI a) q (nI (i + 1)) (pI s 43 a x) = some s' ∧ Ol [43] a s s' ∧ gI s' 43 a = nI (tim v a) := by
        intro x hx
        obtain ⟨s', e1, e2, e3⟩ := ih (i + 1) (pI s 43 a x) q (by omega) (by omega) (by omega) (hS.frl (o1 x).1 (fun j hj => by simp; omega)) (by rw [gI_pI_eq]; exact hx)
        exact ⟨s', e1, (o1 x).tr e2, e3⟩
      refine go _ ?_
      simp only [tms]
      rw [hb, Bool.true_and]
      by_cases hlt : tms v a i < v (4 * i + 1)
      · rw [if_pos (by rw [nI_ltI (by omega) (by omega)]; exact hlt), if_pos (by simpa using hlt)]
      · rw [if_neg (by rw [nI_ltI (by omega) (by omega)]; exact hlt), if_neg (by simpa using hlt)]
theorem lookAtCompany_ok {v : Nat → Nat} {N a : Nat} {s : jM} (hN : 1000 < N) (h : OkV v) (ha : a < 256) (haW : ∀ i, v 99 ≤ i → a.testBit i = false) (hK : KN s v) :
    ∃ s', f_X0_lookAtCompany N (nI a) s = some s' ∧ KN s' v ∧ FrL [29, 32, 33, 34, 35, 36, 42, 43] s s' ∧ Fr29 s s' ∧ gI s' 42 a = encB (beg v a) ∧ gI s' 43 a = nI (tim v a) ∧ ∀ i, i ≠ a → gI s' 42 i = gI s 42 i ∧ gI s' 43 i = gI s 43 i := by
  simp only [f_X0_lookAtCompany, jn_, lt_]
  simp only [ib_nI (show a < 2 ^ 31 by omega), gd_dec ha, nI_clamp (show a < 2 ^ 31 by omega)]
  have o1 : Ol [42] a s (pI s 42 a (-1)) := Ol.rf.p (by decide)
  have k1 : KN (pI s 42 a (-1)) v := hK.c o1.1 (by decide)
  have fin : ∀ u, KN u v → FrL [29, 32, 33, 34, 35, 36, 42] s u → Fr29 s u → gI u 42 a = encB (beg v a) → (∀ i, i ≠ a → gI u 42 i = gI s 42 i) →
      ∃ s', lp_X0_lookAtCompany_58 N (nI a) N (0 : Int32) (pI u 43 a 0) = some s' ∧ KN s' v ∧ FrL [29, 32, 33, 34, 35, 36, 42, 43] s s' ∧ Fr29 s s' ∧ gI s' 42 a = encB (beg v a) ∧ gI s' 43 a = nI (tim v a) ∧ ∀ i, i ≠ a → gI s' 42 i = gI s 42 i ∧ gI s' 43 i = gI s 43 i := by
    intro u uK uf u29 u42 uo
    have o2 : Ol [43] a u (pI u 43 a 0) := Ol.rf.p (by decide)
    have k2 := uK.c o2.1 (by decide)
    obtain ⟨s', e1, e2, e3⟩ := lc_loop (N := N) h ha haW 8 0 (pI u 43 a 0) N rfl (by omega) (by omega) k2.1 gI_pI_eq
    have o3 := o2.tr e2
    exact ⟨s', e1, uK.c o3.1 (by decide), fr_tr (fr_mono uf (by decide)) (fr_mono o3.1 (by decide)), fun i hi => (fr_gI o3.1 (by decide)).trans (u29 i hi), by rw [fr_gI o3.1 (by decide)]; exact u42, e3, fun i hi => ⟨(fr_gI o3.1 (by decide)).trans (uo i hi), by rw [o3.2 43 i hi]; exact fr_gI uf (by decide)⟩⟩
  obtain ⟨t, t1, t2, t3⟩ := judgeB (m := 0) hN h k1.1 k1.2.1 k1.2.2 ha (by omega)
  have t1' : f_X4_isWell N (nI a) (0 : Int32) (pI s 42 a (-1)) = some (if wellB v a 0 0 = true then 1 else 0, t) := t1
  have kt := k1.j t2 t3
  have ft : FrL [29, 32, 33, 34, 35, 36, 42] s t := fr_tr (fr_mono o1.1 (by decide)) (fr_mono t2.1 (by decide))
  have f29 : Fr29 s t := fun i hi => (t2.2 i hi).trans (fr_gI o1.1 (by decide))
  have f42 : ∀ i, i ≠ a → gI t 42 i = gI s 42 i := fun i hi => (fr_gI t2.1 (by decide)).trans (o1.2 42 i hi)
  rw [t1', Option.bind_some]
  simp only
  cases hw : wellB v a 0 0 with
  | true =>
    rw [if_pos rfl, if_neg (by decide)]
    have o2 : Ol [42] a t (pI t 42 a 0) := Ol.rf.p (by decide)
    refine fin (pI t 42 a 0) (kt.c o2.1 (by decide)) (fr_tr ft (fr_mono o2.1 (by decide))) (fun i hi => (fr_gI o2.1 (by decide)).trans (f29 i hi)) ?_ (fun i hi => (o2.2 42 i hi).trans (f42 i hi))
    rw [gI_pI_eq]; unfold beg; rw [hw]; rfl
  | false =>
    rw [if_pos (by decide)]
    obtain ⟨u, r, u1, u2, u3, u4, u5⟩ := isOddC_ok (N := N) (k := 1) (m := 0) (by omega) h kt.1 kt.2.1 ha (by omega) (by omega)
    have u1' : f_X4_isOdd N (nI a) (1 : Int32) (0 : Int32) t = some (r, u) := u1
    have hwl : wellB v a 1 0 = true ↔ r = 1 := wellB_iff.trans ⟨fun z => u5.mpr (z.resolve_left (fun y => by omega)), fun z => Or.inr (u5.mp z)⟩
    have uJ : FrJ t u := ⟨fr_mono u2 (by decide), u3⟩
    have uK : KN u v := ⟨kt.1.j uJ (by omega), kt.2.1.j uJ, fun h5 c b hc hb6 hh => by
      rw [fr_gI u2 (by decide)] at h5
      rw [fr_gL u2 (by decide)] at hh ⊢
      exact kt.2.2 h5 c b hc hb6 hh⟩
    have gu : FrL [29, 32, 33, 34, 35, 36, 42] s u := fr_tr ft (fr_mono u2 (by decide))
    have gu29 : Fr29 s u := fun i hi => (u3 i hi).trans (f29 i hi)
    have gu42 : ∀ i, i ≠ a → gI u 42 i = gI s 42 i := fun i hi => (fr_gI u2 (by decide)).trans (f42 i hi)
    rw [u1', Option.bind_some]
    simp only
    rcases u4 with hr | hr
    · rw [if_pos hr]
      have hw1 : wellB v a 1 0 = false := by
        cases hq : wellB v a 1 0 with
        | false => rfl
        | true => rw [hr] at hwl; exact absurd (hwl.mp hq) (by decide)
      refine fin u uK gu gu29 ?_ gu42
      rw [fr_gI u2 (by decide), fr_gI t2.1 (by decide), gI_pI_eq]
      unfold beg
      rw [hw, hw1]; rfl
    · rw [if_neg (by rw [hr]; decide)]
      have hw1 : wellB v a 1 0 = true := hwl.mpr hr
      have o2 : Ol [42] a u (pI u 42 a 1) := Ol.rf.p (by decide)
      refine fin (pI u 42 a 1) (uK.c o2.1 (by decide)) (fr_tr gu (fr_mono o2.1 (by decide))) (fun i hi => (fr_gI o2.1 (by decide)).trans (gu29 i hi)) ?_ (fun i hi => (o2.2 42 i hi).trans (gu42 i hi))
      rw [gI_pI_eq]; unfold beg; rw [hw, hw1]; rfl
