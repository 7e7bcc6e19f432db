/-! bits of a long -/
def hb (x : Int64) (b : Nat) : Bool := x.toBitVec.getLsbD b
theorem lN_two : ∀ b, b < 64 → (lN (2 ^ b)).toBitVec = BitVec.twoPow 64 b := by decide +kernel
theorem one_shl : ∀ b, b < 64 → (1 : Int64) <<< (Int32.toInt64 (nI b) &&& 63) = lN (2 ^ b) := by decide +kernel
theorem hb_and {x : Int64} {b : Nat} (hbb : b < 64) : x &&& lN (2 ^ b) = 0 ↔ hb x b = false := by
  rw [← Int64.toBitVec_inj, Int64.toBitVec_and, lN_two b hbb, BitVec.and_twoPow]
  unfold hb
  cases h : x.toBitVec.getLsbD b with
  | false => simp
  | true =>
    simp only [if_true]
    constructor
    · intro z
      have := congrArg (fun y => y.getLsbD b) z
      simp [hbb] at this
    · intro z; cases z
theorem hb_or {x : Int64} {b c : Nat} (hbb : b < 64) : hb (x ||| lN (2 ^ b)) c = (hb x c || decide (c = b)) := by
  unfold hb
  rw [Int64.toBitVec_or, lN_two b hbb, BitVec.getLsbD_or, BitVec.getLsbD_twoPow]
  by_cases h : c = b
  · simp [h, hbb]
  · simp [h, Ne.symm h]
theorem hb_not {x : Int64} {b c : Nat} (hbb : b < 64) (hc : c < 64) : hb (x &&& (lN (2 ^ b) ^^^ (-1))) c = (hb x c && !decide (c = b)) := by
  unfold hb
  rw [Int64.toBitVec_and, Int64.toBitVec_xor, lN_two b hbb, BitVec.getLsbD_and, BitVec.getLsbD_xor, BitVec.getLsbD_twoPow]
  have : (-1 : Int64).toBitVec.getLsbD c = true := by
    have h2 : (-1 : Int64).toBitVec = BitVec.allOnes 64 := by decide
    rw [h2, BitVec.getLsbD_allOnes]; simp [hc]
  rw [this]
  by_cases h : c = b
  · simp [h, hbb]
  · simp [h, Ne.symm h]
theorem hb_zero {c : Nat} : hb 0 c = false := by unfold hb; simp
theorem nI_low6 (k : Nat) : nI k &&& 63 = nI (k % 64) := by
  apply Int32.toBitVec_inj.mp
  rw [Int32.toBitVec_and]
  show BitVec.ofNat 32 k &&& 63#32 = BitVec.ofNat 32 (k % 64)
  apply BitVec.eq_of_toNat_eq
  rw [BitVec.toNat_and, BitVec.toNat_ofNat, BitVec.toNat_ofNat, BitVec.toNat_ofNat]
  have e : (63 % 2 ^ 32 : Nat) = 2 ^ 6 - 1 := by decide
  rw [e, Nat.and_two_pow_sub_one_eq_mod]
  omega
theorem nI_shr6 {k : Nat} (hk : k < 2 ^ 31) : nI k >>> ((6 : Int32) &&& 31) = nI (k / 64) := by
  rw [show ((6 : Int32) &&& 31) = nI 6 from by decide]
  apply Int32.toBitVec_inj.mp
  rw [Int32.toBitVec_shiftRight]
  apply BitVec.eq_of_toInt_eq
  have e0 : ((nI 6).toBitVec.smod 32) = 6#32 := by decide
  rw [e0, BitVec.sshiftRight_eq', BitVec.toInt_sshiftRight]
  have e1 : (nI k).toBitVec.toInt = (k : Int) := nI_toInt hk
  have e2 : (nI (k / 64)).toBitVec.toInt = ((k / 64 : Nat) : Int) := nI_toInt (by omega)
  rw [e1, e2, Int.shiftRight_eq_div_pow]
  show (k : Int) / ((2 ^ 6 : Nat) : Int) = _
  omega
/-- a key's bit -/
theorem key_bit (k : Nat) : (1 : Int64) <<< (Int32.toInt64 (nI k &&& (63 : Int32)) &&& 63) = lN (2 ^ (k % 64)) := by
  rw [nI_low6]; exact one_shl _ (by omega)
