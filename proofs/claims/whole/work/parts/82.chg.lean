/-! what the crossing hangs on -/
def EqC (v w : Nat → Nat) : Prop := EqT v w ∧ v 33 = w 33 ∧ ∀ i, i < v 99 → v (4 * i + 1) = w (4 * i + 1)
theorem EqC.ebeg {v w : Nat → Nat} (h : EqC v w) (a : Nat) : beg v a = beg w a := by unfold beg; rw [h.1.ewellB, h.1.ewellB]
theorem EqC.etim {v w : Nat → Nat} (h : EqC v w) (a : Nat) : tim v a = tim w a := by
  unfold tim
  rw [← h.1.1]
  have : ∀ i, i ≤ v 99 → tms v a i = tms w a i := by
    intro i
    induction i with
    | zero => intro _; rfl
    | succ i ih => intro hi; simp only [tms]; rw [ih (by omega), h.2.2 i (by omega)]
  exact this _ (Nat.le_refl _)
theorem EqC.efit {v w : Nat → Nat} (h : EqC v w) (l x : Nat) : fit v l x = fit w l x := by unfold fit; rw [h.ebeg]
theorem EqC.eent {v w : Nat → Nat} (h : EqC v w) (T : Nat → TE) (l x : Nat) (t : TE) : ent v T l x t = ent w T l x t := by unfold ent; rw [h.efit, h.etim, h.ebeg, h.2.1]
theorem EqC.escan {v w : Nat → Nat} (h : EqC v w) (T : Nat → TE) (l : Nat) : ∀ (k x : Nat) (t : TE), scanE v T l k x t = scanE w T l k x t := by
  intro k
  induction k with
  | zero => intro x t; rfl
  | succ k ih => intro x t; simp only [scanE]; rw [h.eent, ih]
theorem EqC.eTb {v w : Nat → Nat} (h : EqC v w) : ∀ n, Tb v n = Tb w n := by
  intro n
  induction n with
  | zero => rfl
  | succ n ih => funext i; simp only [Tb]; rw [ih, h.escan]
theorem EqC.eTT {v w : Nat → Nat} (h : EqC v w) (i : Nat) : TT v i = TT w i := by unfold TT; rw [h.eTb]
theorem EqC.efst {v w : Nat → Nat} (h : EqC v w) (l : Nat) : fstE v l = fstE w l := by unfold fstE; rw [h.eTT]
theorem EqC.elft {v w : Nat → Nat} (h : EqC v w) (l : Nat) : ∀ i, lft v l i = lft w l i := by
  intro i
  induction i with
  | zero => rfl
  | succ i ih => simp only [lft]; rw [ih, h.efst]
theorem EqC.eful {v w : Nat → Nat} (h : EqC v w) : ful v = ful w := by unfold ful; rw [h.1.1]
theorem EqC.cnt {v w : Nat → Nat} {l c : Nat} (h : EqC v w) (hc : CNT v l c) : CNT w l c := ⟨by rw [← h.elft]; exact hc.1, fun j hj => by rw [← h.elft]; exact hc.2 j hj⟩
theorem EqC.pl {v w : Nat → Nat} {s : jM} (h : EqC v w) (hP : PL s v) : PL s w := by
  unfold PL at hP ⊢
  rw [h.eTT, h.eful] at hP
  refine ⟨hP.1, fun e he => ?_⟩
  obtain ⟨a, b, c, d, k, k1, k2, k3, k4⟩ := hP.2 e he
  exact ⟨a, b, c, d, k, h.cnt k1, k2, k3, fun j hj => by rw [← h.elft, ← h.efst, ← h.ebeg]; exact k4 j hj⟩
theorem EqC.ci {v w : Nat → Nat} {s : jM} (h : EqC v w) (hI : CI s v) : CI s w := fun h14 => h.pl (hI h14)
/-! one number of the scene changed -/
def vset (v : Nat → Nat) (i x : Nat) : Nat → Nat := fun j => if j = i then x else v j
theorem vset_eq {v : Nat → Nat} {i x : Nat} : vset v i x i = x := if_pos rfl
theorem vset_ne {v : Nat → Nat} {i x j : Nat} (h : j ≠ i) : vset v i x j = v j := if_neg h
theorem RM.set {s : jM} {v : Nat → Nat} {c i x : Nat} (h : RM s c 0 v) : RM (pI s c i (nI x)) c 0 (vset v i x) := fun j hj => by
  rw [Nat.zero_add, gI_pI_cell]
  by_cases hji : j = i
  · rw [if_pos hji, hji, vset_eq]
  · rw [if_neg hji, vset_ne hji]; exact h.at hj
theorem RM.o {s : jM} {v : Nat → Nat} {c o c' i : Nat} {x : Int32} (h : RM s c o v) (hc : c ≠ c') : RM (pI s c' i x) c o v := h.fr (fun _ => gI_pI_ne hc)
def LSc : List Nat := [1, 2, 3, 4, 5, 6, 7, 8, 9, 29, 30, 31, 33, 37, 41, 54]
theorem INVv.chg {s t : jM} {v v' : Nat → Nat} (h : INVv s v) (hO : OkV v') (hf : FrL LSc s t) (hS : SC t 1 v') (hR : RM t 54 0 v') (hW : VW (Tv v') (v' 34) t) (hJ : JI t v') (hF : FI t v') (hC : CI t v') : INVv t v' := by
  obtain ⟨_, _, _, ⟨d, d'⟩, e, f, _, _, l⟩ := h
  exact ⟨hO, ⟨hS, hW, hJ⟩, hR, ⟨d.fr hf (by decide) (by decide) (by decide) (fun j hj => by simp [LSc]; omega), d'.fr hf (by decide) (by decide) (by decide) (fun j hj => by simp [LSc]; omega)⟩, e.fr hf (by decide) (by decide), f.fr hf (by decide) (by decide), hF, hC, l.fr hf (by decide) (by decide) (by decide)⟩
theorem VW.frl {v : Nat → Nat} {s t : jM} {L : List Nat} (h : VW (Tv v) (v 34) s) (hf : FrL L s t) (h1 : 29 ∉ L) (h2 : 30 ∉ L) (h3 : 31 ∉ L) : VW (Tv v) (v 34) t := h.fr (fun i _ => fr_gI hf h1) (fun i => fr_gI hf h2) (fun i => fr_gI hf h3)
theorem JI.frl {v : Nat → Nat} {s t : jM} {L : List Nat} (h : JI s v) (hf : FrL L s t) (h1 : 33 ∉ L) (h2 : 35 ∉ L) (h3 : 36 ∉ L) : JI t v := fun h5 c b hc hb hh => by
  rw [fr_gI hf h1] at h5
  rw [fr_gL hf h2] at hh
  rw [fr_gL hf h3]
  exact h h5 c b hc hb hh
/-- a change on which neither the vow nor the feast nor the crossing hangs -/
def L9 : List Nat := [1, 2, 3, 4, 5, 6, 7, 8, 9, 54]
theorem INVv.same {s t : jM} {v v' : Nat → Nat} (h : INVv s v) (hO : OkV v') (hf : FrL L9 s t) (hS : SC t 1 v') (hR : RM t 54 0 v') (hEF : EqF v v') (hEC : EqC v v') : INVv t v' :=
  h.chg hO (fr_mono hf (by decide)) hS hR (hEF.1.vw (h.2.1.2.1.frl hf (by decide) (by decide) (by decide))) (hEF.1.ji (h.2.1.2.2.frl hf (by decide) (by decide) (by decide))) (hEF.fi (h.2.2.2.2.2.2.1.fr hf (by decide) (by decide) (by decide) (by decide))) (hEC.ci (h.2.2.2.2.2.2.2.1.fr hf (by decide) (by decide)))
theorem said_ok {s : jM} {v : Nat → Nat} (hR : RM s 54 0 v) : f_X8_said s = some (nI (v 100)) := by
  simp only [f_X8_said]
  rw [show ib (100 : Int32) 101 = true from by decide, gd_true, show Int32.toNatClampNeg (100 : Int32) = 100 from rfl, hR.at (by omega)]
theorem OP_hush {s : jM} (h : INV s) : OPI (f_X7_hush s) f_X8_hush := by
  obtain ⟨v, h⟩ := h
  have hS := h.2.1.1
  have hO := h.1
  have hf1 : FrL L9 s (pI s 1 12 0) := fr_pI FrL.rf (by decide)
  have hR1 : RM (pI s 1 12 0) 54 0 v := h.2.2.1.o (by decide)
  refine ⟨nI (v 100), pI s 1 12 0, pI (pI s 1 12 0) 54 100 0, ?_, ?_, vset v 100 0, ?_⟩
  · simp only [f_X7_hush, lt_]
    rw [hS.2.2.2.2.1]
  · simp only [f_X8_hush, lt_]
    rw [said_ok hR1, Option.bind_some, show ib (100 : Int32) 101 = true from by decide, gd_true]
    rfl
  · have e99 : vset v 100 0 99 = v 99 := vset_ne (by omega)
    have e34 : vset v 100 0 34 = v 34 := vset_ne (by omega)
    have e33 : vset v 100 0 33 = v 33 := vset_ne (by omega)
    have e32 : vset v 100 0 32 = v 32 := vset_ne (by omega)
    have e100 : vset v 100 0 100 = 0 := vset_eq
    have hw : ∀ i k, i < v 99 → k < 4 → vset v 100 0 (4 * i + k) = v (4 * i + k) := fun i k hi hk => vset_ne (by have := hO.1; omega)
    have hw0 : ∀ i, i < v 99 → vset v 100 0 (4 * i) = v (4 * i) := fun i hi => hw i 0 hi (by omega)
    have ht : ∀ i, i < v 34 → vset v 100 0 (35 + i) = v (35 + i) := fun i hi => vset_ne (by have := hO.2.2.1; omega)
    have hEF : EqF v (vset v 100 0) := ⟨⟨e99.symm, e34.symm, fun i hi => (hw0 i hi).symm, fun i hi => (ht i hi).symm⟩, e32.symm, fun i hi => ⟨(hw i 1 hi (by omega)).symm, (hw i 2 hi (by omega)).symm⟩⟩
    refine h.same ?_ (fr_pI hf1 (by decide)) ?_ ?_ hEF ⟨hEF.1, e33.symm, fun i hi => (hw i 1 hi (by omega)).symm⟩
    · refine ⟨by rw [e99]; exact hO.1, by rw [e100]; omega, by rw [e34]; exact hO.2.2.1, by rw [e32]; exact hO.2.2.2.1, by rw [e33]; exact hO.2.2.2.2.1, fun i hi => ?_, fun i hi => ?_, fun i hi => ?_⟩
      · rw [e99] at hi
        rw [hw0 i hi, hw i 1 hi (by omega), hw i 2 hi (by omega), hw i 3 hi (by omega)]
        exact hO.2.2.2.2.2.1 i hi
      · rw [e34] at hi
        rw [ht i hi]
        exact hO.2.2.2.2.2.2.1 i hi
      · rw [e100] at hi
        omega
    · have g : ∀ c i, c ≠ 54 → c ≠ 1 → gI (pI (pI s 1 12 0) 54 100 0) c i = gI s c i := fun c i c1 c2 => by rw [gI_pI_ne c1, gI_pI_ne c2]
      have g1 : ∀ i, i ≠ 12 → gI (pI (pI s 1 12 0) 54 100 0) 1 i = gI s 1 i := fun i hi => by rw [gI_pI_ne (by decide), gI_pI_cell, if_neg hi]
      refine ⟨by rw [g1 4 (by decide), e99]; exact hS.1, by rw [g1 5 (by decide), e32]; exact hS.2.1, by rw [g1 6 (by decide), e33]; exact hS.2.2.1, by rw [g1 8 (by decide), e34]; exact hS.2.2.2.1, by rw [gI_pI_ne (by decide), gI_pI_eq, e100]; rfl, fun i hi => ?_, fun i hi => ?_, fun i hi => ?_⟩
      · rw [e99] at hi
        rw [hw0 i hi, hw i 1 hi (by omega), hw i 2 hi (by omega), hw i 3 hi (by omega), g _ _ (by decide) (by decide), g _ _ (by decide) (by decide), g _ _ (by decide) (by decide), g _ _ (by decide) (by decide)]
        exact hS.2.2.2.2.2.1 i hi
      · rw [e34] at hi
        rw [ht i hi, g _ _ (by decide) (by decide)]
        exact hS.2.2.2.2.2.2.1 i hi
      · rw [e100] at hi
        omega
    · exact RM.set (x := 0) hR1
