/-! the feast in the class: ahead of the wall -/
theorem msk_congr {f g : Nat → Bool} : ∀ {n : Nat}, (∀ j, j < n → f j = g j) → msk f n = msk g n := by
  intro n
  induction n with
  | zero => intro _; rfl
  | succ n ih => intro h; simp only [msk]; rw [ih (fun j hj => h j (by omega)), h n (by omega)]
theorem msk_self {a : Nat} (ha : a < 256) : msk (fun j => a.testBit j) 8 = a := by
  apply Nat.eq_of_testBit_eq
  intro i
  rw [msk_bit]
  by_cases h : i < 8
  · simp [h]
  · rw [bit_lt256 ha (by omega)]; simp [h]
theorem and_not {a b : Nat} (ha : a < 256) : nI a &&& (nI b ^^^ (-1)) = nI (msk (fun j => a.testBit j && !b.testBit j) 8) := by
  apply Int32.toBitVec_inj.mp
  have e1 : (-1 : Int32).toBitVec = BitVec.allOnes 32 := by decide
  rw [Int32.toBitVec_and, Int32.toBitVec_xor, e1, nI_bv, nI_bv, nI_bv]
  apply BitVec.eq_of_getLsbD_eq
  intro i hi
  rw [BitVec.getLsbD_and, BitVec.getLsbD_xor, BitVec.getLsbD_ofNat, BitVec.getLsbD_ofNat, BitVec.getLsbD_ofNat, BitVec.getLsbD_allOnes, msk_bit]
  by_cases h8 : i < 8
  · simp [hi, h8]
  · rw [bit_lt256 ha (by omega)]; simp [h8]
def awf (v : Nat → Nat) (m : Nat) (on off : Nat → Nat) (j : Nat) : Bool := !(decide (0 < v 32) && (onset v on off).testBit j && decide (v 32 ≤ m - (on j - 1)))
def awl (v : Nat → Nat) (m : Nat) (on off : Nat → Nat) : Nat := msk (awf v m on off) 8
theorem aw_loop {v on off : Nat → Nat} {N m : Nat} {s : jM} {k2 : Int32 → Option Int32} (h : OkV v) (hS : SC s 1 v) (hC : FC s v on off) (hF : FOK v m on off) (hm : m < 200) : ∀ (j i q : Nat), 8 - i = j → i ≤ 8 → j < q → lp_X1_aheadOfWall_6 N s (nI m) k2 q (nI (msk (fun j => !decide (j < i) || awf v m on off j) 8)) (nI i) = k2 (nI (awl v m on off)) := by
  intro j
  induction j with
  | zero =>
    intro i q hj hi hq
    obtain ⟨q, rfl⟩ : ∃ r, q = r + 1 := ⟨q - 1, by omega⟩
    rw [lp_X1_aheadOfWall_6, if_pos (by rw [c_le (by omega) (by omega)]; omega), show i = 8 from by omega]
    unfold awl
    rw [msk_congr (g := awf v m on off) (fun j hj => by simp [hj])]
  | succ j ih =>
    intro i q hj hi hq
    obtain ⟨q, rfl⟩ : ∃ r, q = r + 1 := ⟨q - 1, by omega⟩
    have hw := h.2.2.2.1
    obtain ⟨f1, f2, f3, f4⟩ := hF i
    obtain ⟨g1, g2⟩ := hC.2 i (by omega)
    have e := ih (i + 1) q (by omega) (by omega) (by omega)
    have hf256 : msk (fun j => !decide (j < i) || awf v m on off j) 8 < 256 := msk_lt _ 8
    have e1 : awf v m on off i = true → lp_X1_aheadOfWall_6 N s (nI m) k2 q (nI (msk (fun j => !decide (j < i) || awf v m on off j) 8)) (nI (i + 1)) = k2 (nI (awl v m on off)) := fun hT => by
      rw [← e]
      congr 2
      apply msk_congr
      intro j hj
      by_cases hji : j = i
      · rw [hji, hT]; simp
      · have : (j < i + 1) = (j < i) := by apply propext; omega
        simp only [this]
    have e0 : awf v m on off i = false → lp_X1_aheadOfWall_6 N s (nI m) k2 q (nI (msk (fun j => !decide (j < i) || awf v m on off j) 8) &&& (nI (2 ^ i) ^^^ (-1))) (nI (i + 1)) = k2 (nI (awl v m on off)) := fun hT => by
      rw [← e, and_not hf256]
      congr 2
      apply msk_congr
      intro j hj
      rw [msk_bit, Nat.testBit_two_pow]
      by_cases hji : j = i
      · rw [hji, hT]; simp
      · have : (j < i + 1) = (j < i) := by apply propext; omega
        simp only [this]
        simp [hj, Ne.symm hji]
    have haw : awf v m on off i = !(decide (0 < v 32) && (onset v on off).testBit i && decide (v 32 ≤ m - (on i - 1))) := rfl
    rw [lp_X1_aheadOfWall_6, if_neg (by rw [c_le (by omega) (by omega)]; omega)]
    simp only [jn_, lt_]
    rw [hS.2.1, hC.1, holds_ok (onset_lt h) (by omega), Option.bind_some, ib_nI (by omega), nI_clamp (by omega), g1, one_shlI i (by omega), nI_1, gd_dec (by omega)]
    by_cases hw0 : v 32 = 0
    · rw [hw0, if_pos (by decide)]
      exact e1 (by rw [haw, hw0]; simp)
    · rw [if_neg (nI_nle (by omega) (by omega))]
      cases hb : (onset v on off).testBit i with
      | false =>
        simp only [Bool.false_eq_true, if_false, if_true]
        exact e1 (by rw [haw, hb]; simp)
      | true =>
        have hpos : 0 < on i := by
          rw [on_bit] at hb
          simp [isOn] at hb
          exact hb.2.1
        simp only [if_true]
        rw [if_neg (by decide), enc_pos hpos, pk_sub (by omega)]
        by_cases ht : v 32 ≤ m - (on i - 1)
        · rw [if_neg (by rw [nI_ltI (by omega) (by omega)]; omega)]
          exact e0 (by rw [haw, hb]; simp [ht]; omega)
        · rw [if_pos (by rw [nI_ltI (by omega) (by omega)]; omega)]
          exact e1 (by rw [haw, hb]; simp [ht])
theorem aheadOfWall_ok {v on off : Nat → Nat} {N m : Nat} {s : jM} (hN : 60 < N) (h : OkV v) (hS : SC s 1 v) (hC : FC s v on off) (hF : FOK v m on off) (hm : m < 200) : f_X1_aheadOfWall N (nI m) s = some (nI (awl v m on off)) := by
  simp only [f_X1_aheadOfWall, jn_]
  have := aw_loop (N := N) (k2 := fun x1 => some x1) h hS hC hF hm 8 0 N (by omega) (by omega) (by omega)
  rw [show msk (fun j => !decide (j < 0) || awf v m on off j) 8 = 255 from by rw [msk_congr (g := fun _ => true) (fun j _ => by simp)]; decide] at this
  exact this
theorem awl_lt {v on off : Nat → Nat} {m : Nat} : awl v m on off < 256 := msk_lt _ 8
/-- what the class asks of the judge is what wellOn asks -/
theorem parts_ok {v on off : Nat → Nat} {m x : Nat} (h : OkV v) (hF : FOK v m on off) (hx : x < 256) (hs : sub8 x (may v m on off) = true) :
    (nI (onset v on off) ^^^ nI x) &&& nI (awl v m on off) = nI ((onset v on off ^^^ x) &&& awl v m on off) ∧ (nI (onset v on off) ^^^ nI x) &&& (nI (awl v m on off) ^^^ (-1)) = nI (msk (fun j => (onset v on off ^^^ x).testBit j && !(awl v m on off).testBit j) 8) ∧
    (wellOn v m on (onset v on off ^^^ x) = (wellB v ((onset v on off ^^^ x) &&& awl v m on off) 0 m && wellB v (msk (fun j => (onset v on off ^^^ x).testBit j && !(awl v m on off).testBit j) 8) 0 m)) := by
  have hO := onset_lt (on := on) (off := off) h
  have hX : onset v on off ^^^ x < 256 := xor_256 hO hx
  have h8 := h.1
  refine ⟨by rw [nI_xor, nI_and], by rw [nI_xor, and_not hX], ?_⟩
  have hbit : ∀ j, (awl v m on off).testBit j = (decide (j < 8) && awf v m on off j) := fun j => msk_bit _ _ _
  unfold wellOn
  by_cases hw0 : v 32 = 0
  · rw [if_pos hw0]
    have ha : ∀ j, awf v m on off j = true := fun j => by unfold awf; rw [hw0]; simp
    have e1 : (onset v on off ^^^ x) &&& awl v m on off = onset v on off ^^^ x := by
      apply Nat.eq_of_testBit_eq
      intro i
      rw [Nat.testBit_and, hbit, ha]
      by_cases hi : i < 8
      · simp [hi]
      · rw [bit_lt256 hX (by omega)]; simp
    have e2 : msk (fun j => (onset v on off ^^^ x).testBit j && !(awl v m on off).testBit j) 8 = 0 := by
      rw [msk_congr (g := fun _ => false) (fun j hj => by rw [hbit, ha]; simp [hj])]
      decide
    rw [e1, e2]
    have : wellB v 0 0 m = true := wellB_iff.mpr (Or.inl ⟨rfl, rfl⟩)
    rw [this, Bool.and_true]
  · rw [if_neg hw0]
    have key : ∀ i, (onset v on off ^^^ x).testBit i = true → i < v 99 ∧ ahb v m on i = awf v m on off i := by
      intro i hi
      rw [Nat.testBit_xor, on_bit] at hi
      have hmb : x.testBit i = true → i < v 99 ∧ mayb v m on off i = true := fun hxi => by
        have := sub8_bit hx hs hxi
        unfold may at this
        rw [msk_bit] at this
        simpa using this
      have hiW : i < v 99 := by
        cases hxi : x.testBit i with
        | true => exact (hmb hxi).1
        | false => rw [hxi] at hi; simp at hi; exact hi.1
      refine ⟨hiW, ?_⟩
      unfold awf ahb
      rw [on_bit]
      cases ho : isOn on off i with
      | true =>
        have hpos : 0 < on i := by simp [isOn] at ho; exact ho.1
        have : ¬ on i = 0 := by omega
        by_cases hlt : m - (on i - 1) < v 32
        · have : ¬ v 32 ≤ m - (on i - 1) := by omega
          simp [hlt, this, hiW]
        · have h2 : v 32 ≤ m - (on i - 1) := by omega
          simp [hlt, h2, hiW, this]; omega
      | false =>
        rw [ho] at hi
        have hxi : x.testBit i = true := by simpa using hi
        have := (hmb hxi).2
        unfold mayb at this
        rw [ho] at this
        simp at this
        simp [this.1]
    have e1 : ahd v m on (onset v on off ^^^ x) = (onset v on off ^^^ x) &&& awl v m on off := by
      apply Nat.eq_of_testBit_eq
      intro i
      unfold ahd
      rw [msk_bit, Nat.testBit_and, hbit]
      cases hi : (onset v on off ^^^ x).testBit i with
      | false => simp
      | true =>
        obtain ⟨k1, k2⟩ := key i hi
        have : i < 8 := by omega
        simp [k1, k2, this]
    have e2 : bhd v m on (onset v on off ^^^ x) = msk (fun j => (onset v on off ^^^ x).testBit j && !(awl v m on off).testBit j) 8 := by
      apply Nat.eq_of_testBit_eq
      intro i
      unfold bhd
      rw [msk_bit, msk_bit, hbit]
      cases hi : (onset v on off ^^^ x).testBit i with
      | false => simp
      | true =>
        obtain ⟨k1, k2⟩ := key i hi
        have : i < 8 := by omega
        simp [k1, k2, this]
    rw [e1, e2]
