/-! the feast in the reference: the choice, the steps -/
theorem scr_loop {v on off : Nat → Nat} {N m : Nat} {k13 : Int32 → jM → Option jM} (hN : 60 < N) (h : OkV v) (hF : FOK v m on off) (hm : m < 200) : ∀ (k x : Nat) (b : Option Nat) (s : jM) (q : Nat), x + k = may v m on off + 1 → k < q → RM s 54 0 v → RC s on off → (∀ y, b = some y → y < 256) →
    ∃ s', lp_X8_celebrate_64 N (nI m) (nI (onset v on off)) (nI (may v m on off)) k13 q (encO b) (nI x) s = k13 (encO (scn (fun x => wellOn v m on (onset v on off ^^^ x)) (may v m on off) k x b)) s' ∧ FrW s s' := by
  have hM : may v m on off < 256 := msk_256 h
  have hO := onset_lt (on := on) (off := off) h
  intro k
  induction k with
  | zero =>
    intro x b s q hx hq hR hC hb
    obtain ⟨q, rfl⟩ : ∃ r, q = r + 1 := ⟨q - 1, by omega⟩
    refine ⟨s, ?_, FrW.rf⟩
    rw [lp_X8_celebrate_64, if_pos (by rw [nI_ltI (by omega) (by omega)]; omega)]
    rfl
  | succ k ih =>
    intro x b s q hx hq hR hC hb
    obtain ⟨q, rfl⟩ : ∃ r, q = r + 1 := ⟨q - 1, by omega⟩
    have hx8 : x < 256 := by omega
    have no : ∀ t, FrW s t → (sub8 x (may v m on off) && beats x b && wellOn v m on (onset v on off ^^^ x)) = false → ∃ s', lp_X8_celebrate_64 N (nI m) (nI (onset v on off)) (nI (may v m on off)) k13 q (encO b) (nI (x + 1)) t = k13 (encO (scn (fun x => wellOn v m on (onset v on off ^^^ x)) (may v m on off) (k + 1) x b)) s' ∧ FrW s s' := by
      intro t f1 hc
      obtain ⟨s', e1, e2⟩ := ih (x + 1) b t q (by omega) (by omega) (hR.w f1 (by decide)) (hC.w f1) hb
      refine ⟨s', ?_, f1.tr e2⟩
      rw [e1]
      simp only [scn]
      rw [hc]
      rfl
    have yes : ∀ t, FrW s t → (sub8 x (may v m on off) && beats x b && wellOn v m on (onset v on off ^^^ x)) = true → ∃ s', lp_X8_celebrate_64 N (nI m) (nI (onset v on off)) (nI (may v m on off)) k13 q (nI x) (nI (x + 1)) t = k13 (encO (scn (fun x => wellOn v m on (onset v on off ^^^ x)) (may v m on off) (k + 1) x b)) s' ∧ FrW s s' := by
      intro t f1 hc
      obtain ⟨s', e1, e2⟩ := ih (x + 1) (some x) t q (by omega) (by omega) (hR.w f1 (by decide)) (hC.w f1) (fun y hy => by cases hy; exact hx8)
      refine ⟨s', ?_, f1.tr e2⟩
      refine Eq.trans e1 ?_
      simp only [scn]
      rw [hc]
      rfl
    rw [lp_X8_celebrate_64, if_neg (by rw [nI_ltI (by omega) (by omega)]; omega)]
    simp only [jn_, lt_]
    rw [nI_1, nI_xor]
    have hsub : (nI x &&& (nI (may v m on off) ^^^ (-1)) = 0) ↔ sub8 x (may v m on off) = true := decide_eq_true_iff.symm
    by_cases hs : sub8 x (may v m on off) = true
    · rw [if_pos (hsub.mpr hs)]
      have hX : onset v on off ^^^ x < 256 := xor_256 hO hx8
      have hSW : ∀ i, (onset v on off ^^^ x).testBit i = true → i < v 99 := by
        intro i hi
        rw [Nat.testBit_xor, on_bit] at hi
        cases hxi : x.testBit i with
        | true =>
          have := sub8_bit hx8 hs hxi
          unfold may at this
          rw [msk_bit] at this
          simp at this
          exact this.1
        | false => rw [hxi] at hi; simp at hi; exact hi.1
      obtain ⟨t, t1, t2⟩ := isWellOn_ok (N := N) hN h hR hC hF hm hX hSW
      rw [t1]
      simp only [Option.bind_some]
      have rest : beats x b = true → ∃ s', (if (1 : Int32) = 0 then lp_X8_celebrate_64 N (nI m) (nI (onset v on off)) (nI (may v m on off)) k13 q (encO b) (nI (x + 1)) s else
          if (if wellOn v m on (onset v on off ^^^ x) = true then (1 : Int32) else 0) = 0 then lp_X8_celebrate_64 N (nI m) (nI (onset v on off)) (nI (may v m on off)) k13 q (encO b) (nI (x + 1)) t else lp_X8_celebrate_64 N (nI m) (nI (onset v on off)) (nI (may v m on off)) k13 q (nI x) (nI (x + 1)) t) = k13 (encO (scn (fun x => wellOn v m on (onset v on off ^^^ x)) (may v m on off) (k + 1) x b)) s' ∧ FrW s s' := by
        intro hbt
        rw [if_neg (by decide)]
        cases hw : wellOn v m on (onset v on off ^^^ x) with
        | false => rw [if_pos (by decide)]; exact no t t2 (by rw [hw]; simp)
        | true => rw [if_neg (by decide)]; exact yes t t2 (by rw [hw, hs, hbt]; rfl)
      cases b with
      | none =>
        rw [show encO none = -1 from rfl, if_pos rfl]
        exact rest rfl
      | some y =>
        have hy := hb y rfl
        have p1 := pop8_le x
        have p2 := pop8_le y
        rw [show encO (some y) = nI y from rfl, if_neg (nI_ne_m1 (by omega)), manyIn_ok hN hx8, Option.bind_some, manyIn_ok hN hy, Option.bind_some]
        by_cases hc : pop8 x ≤ pop8 y
        · rw [if_pos (by rw [nI_leI (by omega) (by omega)]; exact hc)]
          exact no s FrW.rf (by
            have : beats x (some y) = false := by simp [beats]; omega
            rw [this]; simp)
        · rw [if_neg (by rw [nI_leI (by omega) (by omega)]; exact hc)]
          exact rest (by simp [beats]; omega)
    · rw [if_neg (fun z => hs (hsub.mp z))]
      exact no s FrW.rf (by simp [hs])
def FrK (s t : jM) : Prop := FrL [53, 58, 59, 60, 61, 62, 63] s t ∧ (∀ i, i ≠ 6 → i ≠ 7 → i ≠ 9 → i ≠ 11 → i ≠ 17 → i ≠ 18 → gI t 53 i = gI s 53 i) ∧ (∀ i, i ≠ 13 → gL t 53 i = gL s 53 i)
theorem FrK.rf {s : jM} : FrK s s := ⟨FrL.rf, fun _ _ _ _ _ _ _ => rfl, fun _ _ => rfl⟩
theorem FrK.tr {s t u : jM} (h1 : FrK s t) (h2 : FrK t u) : FrK s u := ⟨fr_tr h1.1 h2.1, fun i a b c d e f => (h2.2.1 i a b c d e f).trans (h1.2.1 i a b c d e f), fun i a => (h2.2.2 i a).trans (h1.2.2 i a)⟩
theorem FrW.k {s t : jM} (h : FrW s t) : FrK s t := ⟨fr_mono h.1 (by decide), fun i a b c d _ _ => h.2.1 i a b c d, h.2.2⟩
theorem FrK.l {s t : jM} {c i : Nat} {x : Int32} (h : FrK s t) (hc : c ∈ [61, 62, 63]) : FrK s (pI t c i x) := by
  have hc' : c ≠ 53 := by simp at hc; omega
  exact ⟨fr_pI h.1 (by simp at hc ⊢; omega), fun j a b c d e f => by rw [gI_pI_ne (Ne.symm hc')]; exact h.2.1 j a b c d e f, fun j a => h.2.2 j a⟩
theorem FrK.f {s t : jM} {i : Nat} {x : Int32} (h : FrK s t) (hi : i = 17 ∨ i = 18) : FrK s (pI t 53 i x) :=
  ⟨fr_pI h.1 (by decide), fun j a b c d e f => by rw [gI_pI_cell, if_neg (by omega)]; exact h.2.1 j a b c d e f, fun j a => h.2.2 j a⟩
theorem RM.k {v : Nat → Nat} {s t : jM} {c o : Nat} (h : RM s c o v) (hf : FrK s t) (hc : c ∉ [53, 58, 59, 60, 61, 62, 63]) : RM t c o v := h.fr (fun i => fr_gI hf.1 hc)
theorem wr_loop {v on off : Nat → Nat} {N m x : Nat} {k18 : jM → Option jM} (h : OkV v) (hx : x < 256) (hxW : ∀ i, v 99 ≤ i → x.testBit i = false) : ∀ (j i : Nat) (s : jM) (q : Nat), v 99 - i = j → i ≤ v 99 → j < q → RM s 54 0 v →
    (∀ k, k < 8 → gI s 61 k = enc (if k < i ∧ (x.testBit k && !(onset v on off).testBit k) = true then m + 1 else on k) ∧ gI s 62 k = enc (if k < i ∧ (x.testBit k && (onset v on off).testBit k) = true then m + 1 else off k)) →
    ∃ s', lp_X8_celebrate_178 N (nI m) (nI (onset v on off)) (nI x) k18 q (nI i) s = k18 s' ∧ FrL [61, 62] s s' ∧
      (∀ k, k < 8 → gI s' 61 k = enc (if (x.testBit k && !(onset v on off).testBit k) = true then m + 1 else on k) ∧ gI s' 62 k = enc (if (x.testBit k && (onset v on off).testBit k) = true then m + 1 else off k)) := by
  have hO := onset_lt (on := on) (off := off) h
  have hW8 := h.1
  intro j
  induction j with
  | zero =>
    intro i s q hj hi hq hR hC
    obtain ⟨q, rfl⟩ : ∃ r, q = r + 1 := ⟨q - 1, by omega⟩
    refine ⟨s, ?_, FrL.rf, fun k hk => ?_⟩
    · rw [lp_X8_celebrate_178, walkers_ok hR, Option.bind_some, if_pos (by rw [nI_leI (by omega) (by omega)]; omega)]
    · have := hC k hk
      by_cases hki : k < i
      · simpa [hki] using this
      · have hz := hxW k (by omega)
        rw [hz] at this ⊢
        simpa using this
  | succ j ih =>
    intro i s q hj hi hq hR hC
    obtain ⟨q, rfl⟩ : ∃ r, q = r + 1 := ⟨q - 1, by omega⟩
    have hi8 : i < 8 := by omega
    have hCi := hC i hi8
    rw [lp_X8_celebrate_178, walkers_ok hR, Option.bind_some, if_neg (by rw [nI_leI (by omega) (by omega)]; omega)]
    simp only [jn_, lt_]
    rw [hold_bit x hx i hi8, hold_bit _ hO i hi8, ib_nI (by omega), nI_clamp (by omega), nI_1]
    simp only [gd_dec hi8]
    have hni : ¬ (i < i) := Nat.lt_irrefl i
    simp only [hni, false_and, if_false] at hCi
    cases hxi : x.testBit i with
    | false =>
      simp only [Bool.false_eq_true, if_false]
      rw [if_neg (by decide)]
      obtain ⟨s', e1, e2, e4⟩ := ih (i + 1) s q (by omega) (by omega) (by omega) hR (fun k hk => by
        have := hC k hk
        by_cases hki : k = i
        · subst hki; rw [hxi] at this ⊢; simpa using this
        · have e : (k < i + 1) = (k < i) := by apply propext; omega
          simp only [e]; exact this)
      exact ⟨s', e1, e2, e4⟩
    | true =>
      simp only [if_true]
      cases hoi : (onset v on off).testBit i with
      | true =>
        simp only [if_true]
        rw [gI_pI_ne (show 61 ≠ 62 by decide), hCi.1]
        have hf : FrL [61, 62] s (pI (pI s 62 i (nI m)) 61 i (enc (on i))) := fr_pI (fr_pI FrL.rf (by decide)) (by decide)
        obtain ⟨s', e1, e2, e4⟩ := ih (i + 1) (pI (pI s 62 i (nI m)) 61 i (enc (on i))) q (by omega) (by omega) (by omega) (hR.fr (fun k => by rw [gI_pI_ne (by decide), gI_pI_ne (by decide)])) (fun k hk => by
          have := hC k hk
          rw [gI_pI_cell, gI_pI_ne (show 61 ≠ 62 by decide), gI_pI_ne (show 62 ≠ 61 by decide), gI_pI_cell]
          by_cases hki : k = i
          · subst hki; rw [hxi, hoi]; simp; rfl
          · have e : (k < i + 1) = (k < i) := by apply propext; omega
            simp only [e, if_neg hki]; exact this)
        exact ⟨s', e1, fr_tr hf e2, e4⟩
      | false =>
        simp only [Bool.false_eq_true, if_false]
        rw [if_neg (by decide), hCi.2]
        have hf : FrL [61, 62] s (pI (pI s 62 i (enc (off i))) 61 i (nI m)) := fr_pI (fr_pI FrL.rf (by decide)) (by decide)
        obtain ⟨s', e1, e2, e4⟩ := ih (i + 1) (pI (pI s 62 i (enc (off i))) 61 i (nI m)) q (by omega) (by omega) (by omega) (hR.fr (fun k => by rw [gI_pI_ne (by decide), gI_pI_ne (by decide)])) (fun k hk => by
          have := hC k hk
          rw [gI_pI_cell, gI_pI_ne (show 61 ≠ 62 by decide), gI_pI_ne (show 62 ≠ 61 by decide), gI_pI_cell]
          by_cases hki : k = i
          · subst hki; rw [hxi, hoi]; simp; rfl
          · have e : (k < i + 1) = (k < i) := by apply propext; omega
            simp only [e, if_neg hki]; exact this)
        refine ⟨s', ?_, fr_tr hf e2, e4⟩
        rw [← e1]
        first | rfl | (rw [if_neg (by decide)])
