/-! small whole numbers as sets -/
theorem nI_bv (a : Nat) : (nI a).toBitVec = BitVec.ofNat 32 a := rfl
theorem nI_xor (a b : Nat) : nI a ^^^ nI b = nI (a ^^^ b) := by
  apply Int32.toBitVec_inj.mp
  rw [Int32.toBitVec_xor, nI_bv, nI_bv, nI_bv]
  apply BitVec.eq_of_toNat_eq
  rw [BitVec.toNat_xor, BitVec.toNat_ofNat, BitVec.toNat_ofNat, BitVec.toNat_ofNat, Nat.xor_mod_two_pow]
theorem nI_and (a b : Nat) : nI a &&& nI b = nI (a &&& b) := by
  apply Int32.toBitVec_inj.mp
  rw [Int32.toBitVec_and, nI_bv, nI_bv, nI_bv]
  apply BitVec.eq_of_toNat_eq
  rw [BitVec.toNat_and, BitVec.toNat_ofNat, BitVec.toNat_ofNat, BitVec.toNat_ofNat, Nat.and_mod_two_pow]
theorem nI_or (a b : Nat) : nI a ||| nI b = nI (a ||| b) := by
  apply Int32.toBitVec_inj.mp
  rw [Int32.toBitVec_or, nI_bv, nI_bv, nI_bv]
  apply BitVec.eq_of_toNat_eq
  rw [BitVec.toNat_or, BitVec.toNat_ofNat, BitVec.toNat_ofNat, BitVec.toNat_ofNat, Nat.or_mod_two_pow]
theorem one_shlI : ∀ i, i < 31 → (1 : Int32) <<< (nI i &&& 31) = nI (2 ^ i) := by decide +kernel
/-- the set of those below i that f takes -/
def msk (f : Nat → Bool) : Nat → Nat
  | 0 => 0
  | i + 1 => msk f i + (if f i then 2 ^ i else 0)
theorem msk_lt (f : Nat → Bool) : ∀ i, msk f i < 2 ^ i := by
  intro i
  induction i with
  | zero => show 0 < 1; omega
  | succ i ih => simp only [msk]; rw [Nat.pow_succ]; split <;> omega
theorem msk_or (f : Nat → Bool) (i : Nat) : msk f i ||| 2 ^ i = msk f i + 2 ^ i := by
  have hl := Nat.two_pow_add_eq_or_of_lt (msk_lt f i) 1
  rw [Nat.mul_one] at hl
  rw [Nat.or_comm, ← hl, Nat.add_comm]
theorem msk_bit (f : Nat → Bool) : ∀ n i, (msk f n).testBit i = (decide (i < n) && f i) := by
  intro n
  induction n with
  | zero => intro i; simp [msk]
  | succ n ih =>
    intro i
    simp only [msk]
    cases hf : f n with
    | true =>
      simp only [if_true]
      rw [← msk_or, Nat.testBit_or, ih, Nat.testBit_two_pow]
      by_cases h : i = n
      · rw [h, hf]; simp
      · have : (i < n + 1) = (i < n) := by apply propext; omega
        simp only [this]
        simp [Ne.symm h]
    | false =>
      simp only [Bool.false_eq_true, if_false, Nat.add_zero]
      rw [ih]
      by_cases h : i = n
      · rw [h, hf]; simp
      · have : (i < n + 1) = (i < n) := by apply propext; omega
        simp only [this]
/-- one more, laid on with or -/
theorem msk_step (f : Nat → Bool) (i : Nat) : nI (msk f i) ||| (if f i then nI (2 ^ i) else nI 0) = nI (msk f (i + 1)) := by
  simp only [msk]
  cases f i with
  | true => simp only [if_true]; rw [nI_or, msk_or]
  | false => simp only [Bool.false_eq_true, if_false]; rw [nI_or, Nat.or_zero, Nat.add_zero]
theorem lt256 {a : Nat} (h : ∀ i, 8 ≤ i → a.testBit i = false) : a < 256 := by
  have : a < 2 ^ 8 := Nat.lt_pow_two_of_testBit a h
  omega
theorem bit_lt256 {a i : Nat} (h : a < 256) (hi : 8 ≤ i) : a.testBit i = false := Nat.testBit_lt_two_pow (Nat.lt_of_lt_of_le h (by have := Nat.pow_le_pow_right (show 0 < 2 by omega) hi; omega))
/-- how many in a set -/
def pcn (a : Nat) : Nat → Nat
  | 0 => 0
  | i + 1 => pcn a i + (if a.testBit i then 1 else 0)
def pop8 (a : Nat) : Nat := pcn a 8
theorem bitCount_ok : ∀ a, a < 256 → f_J6_bitCount_0f7a4 (nI a) = some (nI (pop8 a)) := by decide +kernel
theorem pcn_le (a : Nat) : ∀ i, pcn a i ≤ i := by
  intro i
  induction i with
  | zero => exact Nat.le_refl _
  | succ i ih => simp only [pcn]; split <;> omega
theorem pop8_le (a : Nat) : pop8 a ≤ 8 := pcn_le a 8
theorem many_loop {N a : Nat} {k2 : Int32 → Option Int32} (ha : a < 256) : ∀ (m i q : Nat), 8 - i = m → i ≤ 8 → m < q → lp_X8_manyIn_4 N (nI a) k2 q (nI (pcn a i)) (nI i) = k2 (nI (pop8 a)) := by
  intro m
  induction m with
  | zero =>
    intro i q hm hi hq
    obtain ⟨q, rfl⟩ : ∃ r, q = r + 1 := ⟨q - 1, by omega⟩
    rw [lp_X8_manyIn_4, if_pos (by rw [c_le (by omega) (by omega)]; omega), show i = 8 from by omega]
    rfl
  | succ m ih =>
    intro i q hm hi hq
    obtain ⟨q, rfl⟩ : ∃ r, q = r + 1 := ⟨q - 1, by omega⟩
    rw [lp_X8_manyIn_4, if_neg (by rw [c_le (by omega) (by omega)]; omega)]
    simp only [lt_]
    rw [hold_bit a ha i (by omega), nI_1, ← ih (i + 1) q (by omega) (by omega) (by omega)]
    simp only [pcn]
    cases a.testBit i with
    | true => simp only [if_true]; rw [show (1 : Int32) = nI 1 from rfl, nI_add]
    | false => simp only [Bool.false_eq_true, if_false]; rw [show (0 : Int32) = nI 0 from rfl, nI_add]
theorem manyIn_ok {N a : Nat} (hN : 60 < N) (ha : a < 256) : f_X8_manyIn N (nI a) = some (nI (pop8 a)) := by
  simp only [f_X8_manyIn, jn_]
  exact many_loop ha 8 0 N (by omega) (by omega) (by omega)
/-- a within b -/
def sub8 (a b : Nat) : Bool := decide (nI a &&& (nI b ^^^ (-1)) = 0)
theorem sub8_bit {a b i : Nat} (ha : a < 256) (h : sub8 a b = true) (hi : a.testBit i = true) : b.testBit i = true := by
  have hi8 : i < 8 := by
    by_cases h8 : 8 ≤ i
    · rw [bit_lt256 ha h8] at hi; cases hi
    · omega
  have h2 : nI a &&& (nI b ^^^ (-1)) = 0 := of_decide_eq_true h
  have h3 := congrArg (fun x : Int32 => x.toBitVec.getLsbD i) h2
  have e1 : (-1 : Int32).toBitVec = BitVec.allOnes 32 := by decide
  simp only [Int32.toBitVec_and, Int32.toBitVec_xor, e1, nI_bv, BitVec.getLsbD_and, BitVec.getLsbD_xor, BitVec.getLsbD_ofNat, BitVec.getLsbD_allOnes] at h3
  have h32 : i < 32 := by omega
  simp [h32, hi] at h3
  exact h3
