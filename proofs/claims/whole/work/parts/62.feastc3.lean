/-! the feast in the class: the best steps -/
theorem FC.fr {s t : jM} {v on off : Nat → Nat} (h : FC s v on off) (h5 : gI t 37 5 = gI s 37 5) (h39 : ∀ i, gI t 39 i = gI s 39 i) (h40 : ∀ i, gI t 40 i = gI s 40 i) : FC t v on off := ⟨by rw [h5]; exact h.1, fun i hi => by rw [h39, h40]; exact h.2 i hi⟩
theorem FC.j {s t : jM} {v on off : Nat → Nat} (h : FC s v on off) (hf : FrJ s t) : FC t v on off := h.fr (fr_gI hf.1 (by decide)) (fun i => fr_gI hf.1 (by decide)) (fun i => fr_gI hf.1 (by decide))
def encO : Option Nat → Int32
  | none => -1
  | some x => nI x
/-- the judge, as a number -/
theorem judgeB {v : Nat → Nat} {N a m : Nat} {s : jM} (hN : 1000 < N) (h : OkV v) (hS : SC s 1 v) (hW : VW (Tv v) (v 34) s) (hJ : JI s v) (ha : a < 256) (hm : m < 200) :
    ∃ s', f_X4_isWell N (nI a) (nI m) s = some (if wellB v a 0 m then 1 else 0, s') ∧ FrJ s s' ∧ JI s' v := by
  obtain ⟨s', r, r1, r2, r3, r4, r5⟩ := judge_ok hN h hS hW hJ ha hm
  refine ⟨s', ?_, r2, r3⟩
  rw [r1]
  cases hb : wellB v a 0 m with
  | true => rw [r5.mpr (wellB_iff.mp hb)]; rfl
  | false =>
    rcases r4 with hr | hr
    · rw [hr]; rfl
    · have := wellB_iff.mpr (r5.mp hr); rw [this] at hb; cases hb
/-- what is well known of the class while it judges -/
def KN (s : jM) (v : Nat → Nat) : Prop := SC s 1 v ∧ VW (Tv v) (v 34) s ∧ JI s v
theorem KN.j {s t : jM} {v : Nat → Nat} (h : KN s v) (hf : FrJ s t) (hJ : JI t v) : KN t v := ⟨h.1.j hf (by omega), h.2.1.j hf, hJ⟩
theorem bs_loop {v on off : Nat → Nat} {N m : Nat} {k5 : Int32 → jM → Option (Int32 × jM)} (hN : 1000 < N) (h : OkV v) (hF : FOK v m on off) (hm : m < 200) : ∀ (k x : Nat) (b : Option Nat) (s : jM) (q : Nat), x + k = may v m on off + 1 → k < q → KN s v → FC s v on off → (∀ y, b = some y → y < 256) →
    ∃ s', lp_X1_bestSteps_18 N (nI m) (nI (may v m on off)) (nI (awl v m on off)) k5 q (encO b) (nI x) s = k5 (encO (scn (fun x => wellOn v m on (onset v on off ^^^ x)) (may v m on off) k x b)) s' ∧ FrJ s s' ∧ JI s' v := by
  have hM : may v m on off < 256 := msk_256 h
  have hA : awl v m on off < 256 := awl_lt
  have hO := onset_lt (on := on) (off := off) h
  intro k
  induction k with
  | zero =>
    intro x b s q hx hq hK hC hb
    obtain ⟨q, rfl⟩ : ∃ r, q = r + 1 := ⟨q - 1, by omega⟩
    refine ⟨s, ?_, FrJ.rf, hK.2.2⟩
    rw [lp_X1_bestSteps_18, if_pos (by rw [nI_ltI (by omega) (by omega)]; omega)]
    rfl
  | succ k ih =>
    intro x b s q hx hq hK hC hb
    obtain ⟨q, rfl⟩ : ∃ r, q = r + 1 := ⟨q - 1, by omega⟩
    have hx8 : x < 256 := by omega
    -- what comes of one turn
    have no : ∀ t, FrJ s t → JI t v → (sub8 x (may v m on off) && beats x b && wellOn v m on (onset v on off ^^^ x)) = false → ∃ s', lp_X1_bestSteps_18 N (nI m) (nI (may v m on off)) (nI (awl v m on off)) k5 q (encO b) (nI (x + 1)) t = k5 (encO (scn (fun x => wellOn v m on (onset v on off ^^^ x)) (may v m on off) (k + 1) x b)) s' ∧ FrJ s s' ∧ JI s' v := by
      intro t f1 f2 hc
      obtain ⟨s', e1, e2, e3⟩ := ih (x + 1) b t q (by omega) (by omega) (hK.j f1 f2) (hC.j f1) hb
      refine ⟨s', ?_, f1.tr e2, e3⟩
      rw [e1]
      simp only [scn]
      rw [hc]
      rfl
    have yes : ∀ t, FrJ s t → JI t v → (sub8 x (may v m on off) && beats x b && wellOn v m on (onset v on off ^^^ x)) = true → ∃ s', lp_X1_bestSteps_18 N (nI m) (nI (may v m on off)) (nI (awl v m on off)) k5 q (nI x) (nI (x + 1)) t = k5 (encO (scn (fun x => wellOn v m on (onset v on off ^^^ x)) (may v m on off) (k + 1) x b)) s' ∧ FrJ s s' ∧ JI s' v := by
      intro t f1 f2 hc
      obtain ⟨s', e1, e2, e3⟩ := ih (x + 1) (some x) t q (by omega) (by omega) (hK.j f1 f2) (hC.j f1) (fun y hy => by cases hy; exact hx8)
      refine ⟨s', ?_, f1.tr e2, e3⟩
      refine Eq.trans e1 ?_
      simp only [scn]
      rw [hc]
      rfl
    rw [lp_X1_bestSteps_18, if_neg (by rw [nI_ltI (by omega) (by omega)]; omega)]
    simp only [jn_, lt_]
    rw [nI_1]
    have hsub : (nI x &&& (nI (may v m on off) ^^^ (-1)) = 0) ↔ sub8 x (may v m on off) = true := decide_eq_true_iff.symm
    -- after the count
    have rest : beats x b = true → ∃ s', (if (1 : Int32) = 0 then lp_X1_bestSteps_18 N (nI m) (nI (may v m on off)) (nI (awl v m on off)) k5 q (encO b) (nI (x + 1)) s else
        if nI x &&& (nI (may v m on off) ^^^ (-1)) = 0 then
          Option.bind (f_X4_isWell N ((gI s 37 5 ^^^ nI x) &&& nI (awl v m on off)) (nI m) s) fun r26 => if r26.1 = 0 then lp_X1_bestSteps_18 N (nI m) (nI (may v m on off)) (nI (awl v m on off)) k5 q (encO b) (nI (x + 1)) r26.2 else
            Option.bind (f_X4_isWell N ((gI s 37 5 ^^^ nI x) &&& (nI (awl v m on off) ^^^ (-1))) (nI m) r26.2) fun r28 => if r28.1 = 0 then lp_X1_bestSteps_18 N (nI m) (nI (may v m on off)) (nI (awl v m on off)) k5 q (encO b) (nI (x + 1)) r28.2 else lp_X1_bestSteps_18 N (nI m) (nI (may v m on off)) (nI (awl v m on off)) k5 q (nI x) (nI (x + 1)) r28.2
        else lp_X1_bestSteps_18 N (nI m) (nI (may v m on off)) (nI (awl v m on off)) k5 q (encO b) (nI (x + 1)) s) = k5 (encO (scn (fun x => wellOn v m on (onset v on off ^^^ x)) (may v m on off) (k + 1) x b)) s' ∧ FrJ s s' ∧ JI s' v := by
      intro hbt
      rw [if_neg (by decide)]
      by_cases hs : sub8 x (may v m on off) = true
      · rw [if_pos (hsub.mpr hs), hC.1]
        obtain ⟨p1, p2, p3⟩ := parts_ok h hF hx8 hs
        rw [p1, p2]
        have l1 : (onset v on off ^^^ x) &&& awl v m on off < 256 := Nat.lt_of_le_of_lt Nat.and_le_right hA
        have l2 : msk (fun j => (onset v on off ^^^ x).testBit j && !(awl v m on off).testBit j) 8 < 256 := msk_lt _ 8
        obtain ⟨t, t1, t2, t3⟩ := judgeB hN h hK.1 hK.2.1 hK.2.2 l1 hm
        have hK2 := hK.j t2 t3
        obtain ⟨u, u1, u2, u3⟩ := judgeB hN h hK2.1 hK2.2.1 hK2.2.2 l2 hm
        rw [t1, Option.bind_some]
        simp only
        cases hw1 : wellB v ((onset v on off ^^^ x) &&& awl v m on off) 0 m with
        | false =>
          rw [if_pos (by decide)]
          exact no t t2 t3 (by rw [p3, hw1]; simp)
        | true =>
          rw [if_neg (by decide), u1, Option.bind_some]
          simp only
          cases hw2 : wellB v (msk (fun j => (onset v on off ^^^ x).testBit j && !(awl v m on off).testBit j) 8) 0 m with
          | false =>
            rw [if_pos (by decide)]
            exact no u (t2.tr u2) u3 (by rw [p3, hw2]; simp)
          | true =>
            rw [if_neg (by decide)]
            exact yes u (t2.tr u2) u3 (by rw [p3, hw1, hw2, hs, hbt]; rfl)
      · rw [if_neg (fun z => hs (hsub.mp z))]
        exact no s FrJ.rf hK.2.2 (by simp [hs])
    cases b with
    | none =>
      rw [show encO none = -1 from rfl, if_pos rfl]
      exact rest rfl
    | some y =>
      have hy := hb y rfl
      have p1 := pop8_le x
      have p2 := pop8_le y
      rw [show encO (some y) = nI y from rfl, if_neg (nI_ne_m1 (by omega)), bitCount_ok x hx8, Option.bind_some, bitCount_ok y hy, Option.bind_some]
      by_cases hc : pop8 x ≤ pop8 y
      · rw [if_pos (by rw [nI_leI (by omega) (by omega)]; exact hc), if_pos trivial]
        exact no s FrJ.rf hK.2.2 (by
          have : beats x (some y) = false := by simp [beats]; omega
          rw [this]; simp)
      · rw [if_neg (by rw [nI_leI (by omega) (by omega)]; exact hc)]
        exact rest (by simp [beats]; omega)
theorem bestSteps_ok {v on off : Nat → Nat} {N m : Nat} {s : jM} (hN : 1000 < N) (h : OkV v) (hK : KN s v) (hC : FC s v on off) (hF : FOK v m on off) (hm : m < 200) :
    ∃ s', f_X1_bestSteps N (nI m) s = some (encO (choice v m on off), s') ∧ FrJ s s' ∧ JI s' v := by
  have hM : may v m on off < 256 := msk_256 h
  simp only [f_X1_bestSteps, jn_]
  rw [mayStep_ok (by omega) h hK.1 hC hF hm, Option.bind_some, aheadOfWall_ok (by omega) h hK.1 hC hF hm, Option.bind_some]
  exact bs_loop (N := N) (k5 := fun x3 s4 => some (x3, s4)) hN h hF hm (may v m on off + 1) 0 none s N (by omega) (by omega) hK hC (fun y hy => by cases hy)
