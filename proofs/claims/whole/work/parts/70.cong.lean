/-! what the feast and the judge hang on -/
def EqT (v w : Nat → Nat) : Prop := v 99 = w 99 ∧ v 34 = w 34 ∧ (∀ i, i < v 99 → v (4 * i) = w (4 * i)) ∧ (∀ i, i < v 34 → v (35 + i) = w (35 + i))
theorem EqT.tv {v w : Nat → Nat} (h : EqT v w) : Tv v = Tv w := by
  funext i
  unfold Tv
  rw [← h.2.1]
  by_cases hi : i < v 34
  · rw [if_pos hi, if_pos hi]; exact h.2.2.2 i hi
  · rw [if_neg hi, if_neg hi]
theorem EqT.ebr {v w : Nat → Nat} (h : EqT v w) (a j : Nat) : br v a j = br w a j := by
  unfold br
  rw [← h.1]
  have : ∀ i, i ≤ v 99 → brs v a j i = brs w a j i := by
    intro i
    induction i with
    | zero => intro _; rfl
    | succ i ih => intro hi; simp only [brs]; rw [ih (by omega), h.2.2.1 i (by omega)]
  exact this _ (Nat.le_refl _)
theorem EqT.eltv {v w : Nat → Nat} (h : EqT v w) (a k m : Nat) : ltv v a k m = ltv w a k m := by
  funext j
  unfold ltv
  rw [h.ebr, h.ebr]
theorem EqT.odd {v w : Nat → Nat} (h : EqT v w) (a k m : Nat) : ODD v a k m ↔ ODD w a k m := by
  unfold ODD
  rw [h.tv, h.2.1, h.eltv]
theorem EqT.well {v w : Nat → Nat} (h : EqT v w) (a k m : Nat) : WELL v a k m ↔ WELL w a k m := by
  unfold WELL
  rw [h.odd]
theorem EqT.ewellB {v w : Nat → Nat} (h : EqT v w) (a k m : Nat) : wellB v a k m = wellB w a k m := by
  cases h1 : wellB w a k m with
  | true => exact wellB_iff.mpr ((h.well a k m).mpr (wellB_iff.mp h1))
  | false =>
    cases h2 : wellB v a k m with
    | true => rw [wellB_iff.mpr ((h.well a k m).mp (wellB_iff.mp h2))] at h1; cases h1
    | false => rfl
theorem EqT.vw {v w : Nat → Nat} {s : jM} (h : EqT v w) (hW : VW (Tv v) (v 34) s) : VW (Tv w) (w 34) s := by rw [← h.tv, ← h.2.1]; exact hW
theorem EqT.ji {v w : Nat → Nat} {s : jM} (h : EqT v w) (hJ : JI s v) : JI s w := fun h5 c b hc hb hh => by rw [← h.odd]; exact hJ h5 c b hc hb hh
/-- and the feast on wall, times and comings too -/
def EqF (v w : Nat → Nat) : Prop := EqT v w ∧ v 32 = w 32 ∧ ∀ i, i < v 99 → v (4 * i + 1) = w (4 * i + 1) ∧ v (4 * i + 2) = w (4 * i + 2)
theorem EqF.eonset {v w : Nat → Nat} (h : EqF v w) (on off : Nat → Nat) : onset v on off = onset w on off := by unfold onset; rw [← h.1.1]
theorem EqF.emay {v w : Nat → Nat} (h : EqF v w) (m : Nat) (on off : Nat → Nat) : may v m on off = may w m on off := by
  unfold may
  rw [← h.1.1]
  refine msk_congr (fun j hj => ?_)
  unfold mayb
  rw [(h.2.2 j hj).1, (h.2.2 j hj).2]
theorem EqF.eahb {v w : Nat → Nat} (h : EqF v w) (m : Nat) (on : Nat → Nat) (i : Nat) : ahb v m on i = ahb w m on i := by unfold ahb; rw [h.2.1]
theorem EqF.ewellOn {v w : Nat → Nat} (h : EqF v w) (m : Nat) (on : Nat → Nat) (S : Nat) : wellOn v m on S = wellOn w m on S := by
  have e1 : ahd v m on S = ahd w m on S := by unfold ahd; rw [← h.1.1]; exact msk_congr (fun j _ => by rw [h.eahb])
  have e2 : bhd v m on S = bhd w m on S := by unfold bhd; rw [← h.1.1]; exact msk_congr (fun j _ => by rw [h.eahb])
  unfold wellOn
  rw [e1, e2, h.2.1, h.1.ewellB, h.1.ewellB, h.1.ewellB]
theorem EqF.echoice {v w : Nat → Nat} (h : EqF v w) (m : Nat) (on off : Nat → Nat) : choice v m on off = choice w m on off := by
  unfold choice
  rw [h.emay, h.eonset]
  congr 1
  funext x
  exact h.ewellOn m on _
theorem EqF.efstp {v w : Nat → Nat} (h : EqF v w) (m : Nat) (p : (Nat → Nat) × (Nat → Nat)) : fstp v m p = fstp w m p := by
  unfold fstp
  rw [h.echoice, h.eonset]
theorem EqF.st {v w : Nat → Nat} (h : EqF v w) : ∀ m, fst_ v m = fst_ w m := by
  intro m
  induction m with
  | zero => rfl
  | succ m ih => simp only [fst_]; rw [ih, h.efstp]
theorem EqF.bad {v w : Nat → Nat} (h : EqF v w) (m : Nat) : fbad v m = fbad w m := by unfold fbad; rw [h.st, h.echoice]
theorem EqF.num {v w : Nat → Nat} (h : EqF v w) : ∀ m, fnum v m = fnum w m := by
  intro m
  induction m with
  | zero => rfl
  | succ m ih => simp only [fnum]; rw [ih, h.bad]
theorem EqF.ff {v w : Nat → Nat} (h : EqF v w) : ∀ m, ffst v m = ffst w m := by
  intro m
  induction m with
  | zero => rfl
  | succ m ih => simp only [ffst]; rw [ih, h.bad, h.num]
theorem EqF.gs {v w : Nat → Nat} {s : jM} {m : Nat} (h : EqF v w) (hG : GS s v m) : GS s w m := by
  obtain ⟨⟨a, b⟩, c, d, e⟩ := hG
  refine ⟨⟨?_, fun i hi => ?_⟩, ?_, ?_, fun j hj => ?_⟩
  · rw [← h.st, ← h.eonset]; exact a
  · rw [← h.st]; exact b i hi
  · rw [← h.num]; exact c
  · rw [← h.ff]; exact d
  · rw [← h.st, ← h.eonset]; exact e j hj
theorem EqF.fi {v w : Nat → Nat} {s : jM} (h : EqF v w) (hI : FI s v) : FI s w := fun h8 => h.gs (hI h8)
