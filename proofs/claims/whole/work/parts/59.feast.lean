/-! the feast, as numbers -/
def enc : Nat → Int32
  | 0 => -1
  | x + 1 => nI x
theorem enc_m1 {x : Nat} (hx : x < 2 ^ 31) : enc x = -1 ↔ x = 0 := by
  cases x with
  | zero => exact ⟨fun _ => rfl, fun _ => rfl⟩
  | succ x => exact ⟨fun h => absurd h (nI_ne_m1 (by omega)), fun h => by cases h⟩
theorem enc_pos {x : Nat} (h : 0 < x) : enc x = nI (x - 1) := by
  cases x with
  | zero => omega
  | succ x => rfl
noncomputable def wellB (v : Nat → Nat) (a k m : Nat) : Bool := @decide (WELL v a k m) (Classical.propDecidable _)
theorem wellB_iff {v : Nat → Nat} {a k m : Nat} : wellB v a k m = true ↔ WELL v a k m := @decide_eq_true_iff _ (Classical.propDecidable _)
def isOn (on off : Nat → Nat) (i : Nat) : Bool := decide (0 < on i) && decide (off i = 0)
def onset (v on off : Nat → Nat) : Nat := msk (isOn on off) (v 99)
def mayb (v : Nat → Nat) (m : Nat) (on off : Nat → Nat) (i : Nat) : Bool := (isOn on off i && decide (v (4 * i + 1) ≤ m - (on i - 1))) || (decide (on i = 0) && decide (v (4 * i + 2) ≤ m))
def may (v : Nat → Nat) (m : Nat) (on off : Nat → Nat) : Nat := msk (mayb v m on off) (v 99)
def ahb (v : Nat → Nat) (m : Nat) (on : Nat → Nat) (i : Nat) : Bool := decide (on i = 0) || decide (m - (on i - 1) < v 32)
def ahd (v : Nat → Nat) (m : Nat) (on : Nat → Nat) (S : Nat) : Nat := msk (fun i => S.testBit i && ahb v m on i) (v 99)
def bhd (v : Nat → Nat) (m : Nat) (on : Nat → Nat) (S : Nat) : Nat := msk (fun i => S.testBit i && !ahb v m on i) (v 99)
noncomputable def wellOn (v : Nat → Nat) (m : Nat) (on : Nat → Nat) (S : Nat) : Bool := if v 32 = 0 then wellB v S 0 m else (wellB v (ahd v m on S) 0 m && wellB v (bhd v m on S) 0 m)
def beats (x : Nat) : Option Nat → Bool
  | none => true
  | some b => decide (pop8 b < pop8 x)
def scn (ok : Nat → Bool) (mk : Nat) : Nat → Nat → Option Nat → Option Nat
  | 0, _, b => b
  | k + 1, x, b => scn ok mk k (x + 1) (if sub8 x mk && beats x b && ok x then some x else b)
noncomputable def choice (v : Nat → Nat) (m : Nat) (on off : Nat → Nat) : Option Nat := scn (fun x => wellOn v m on (onset v on off ^^^ x)) (may v m on off) (may v m on off + 1) 0 none
noncomputable def fstp (v : Nat → Nat) (m : Nat) (p : (Nat → Nat) × (Nat → Nat)) : (Nat → Nat) × (Nat → Nat) :=
  match choice v m p.1 p.2 with
  | none => p
  | some x => (fun i => if x.testBit i && !(onset v p.1 p.2).testBit i then m + 1 else p.1 i, fun i => if x.testBit i && (onset v p.1 p.2).testBit i then m + 1 else p.2 i)
noncomputable def fst_ (v : Nat → Nat) : Nat → (Nat → Nat) × (Nat → Nat)
  | 0 => (fun _ => 0, fun _ => 0)
  | m + 1 => fstp v m (fst_ v m)
noncomputable def fbad (v : Nat → Nat) (m : Nat) : Bool := decide (choice v m (fst_ v m).1 (fst_ v m).2 = none)
noncomputable def fnum (v : Nat → Nat) : Nat → Nat
  | 0 => 0
  | m + 1 => fnum v m + (if fbad v m then 1 else 0)
noncomputable def ffst (v : Nat → Nat) : Nat → Nat
  | 0 => 0
  | m + 1 => if fbad v m then (if fnum v m = 0 then m + 1 else ffst v m) else ffst v m
/-- what holds of those who stepped on and off before minute m -/
def FOK (v : Nat → Nat) (m : Nat) (on off : Nat → Nat) : Prop := ∀ i, on i ≤ m ∧ off i ≤ m ∧ (v 99 ≤ i → on i = 0 ∧ off i = 0) ∧ (on i = 0 → off i = 0)
theorem onset_lt {v on off : Nat → Nat} (h : OkV v) : onset v on off < 256 := by
  have h1 := msk_lt (isOn on off) (v 99)
  have h2 := Nat.pow_le_pow_right (show 0 < 2 by omega) h.1
  unfold onset
  omega
theorem msk_256 {v : Nat → Nat} {f : Nat → Bool} (h : OkV v) : msk f (v 99) < 256 := by
  have h1 := msk_lt f (v 99)
  have h2 := Nat.pow_le_pow_right (show 0 < 2 by omega) h.1
  omega
theorem xor_256 {a b : Nat} (ha : a < 256) (hb : b < 256) : a ^^^ b < 256 := by
  have : a ^^^ b < 2 ^ 8 := Nat.xor_lt_two_pow ha hb
  exact this
theorem scn_sub {ok : Nat → Bool} {mk : Nat} : ∀ (k x : Nat) (b : Option Nat), x + k ≤ 256 → (∀ y, b = some y → sub8 y mk = true ∧ y < 256) → ∀ y, scn ok mk k x b = some y → sub8 y mk = true ∧ y < 256 := by
  intro k
  induction k with
  | zero => intro x b _ hb y hy; exact hb y hy
  | succ k ih =>
    intro x b hx hb y hy
    refine ih (x + 1) _ (by omega) (fun z hz => ?_) y hy
    by_cases h : (sub8 x mk && beats x b && ok x) = true
    · rw [if_pos h] at hz
      cases hz
      simp only [Bool.and_eq_true] at h
      exact ⟨h.1.1, by omega⟩
    · rw [if_neg h] at hz
      exact hb z hz
theorem choice_sub {v : Nat → Nat} {m : Nat} {on off : Nat → Nat} {x : Nat} (h : OkV v) (hx : choice v m on off = some x) : sub8 x (may v m on off) = true ∧ x < 256 := by
  have hm : may v m on off < 256 := msk_256 h
  exact scn_sub _ _ _ (by omega) (fun y hy => by cases hy) x hx
theorem mayb_bit {v : Nat → Nat} {m : Nat} {on off : Nat → Nat} {x i : Nat} (h : OkV v) (hx : choice v m on off = some x) (hi : x.testBit i = true) : i < v 99 ∧ mayb v m on off i = true := by
  obtain ⟨h1, h2⟩ := choice_sub h hx
  have := sub8_bit h2 h1 hi
  unfold may at this
  rw [msk_bit] at this
  simpa using this
theorem on_bit {v on off : Nat → Nat} {i : Nat} : (onset v on off).testBit i = (decide (i < v 99) && isOn on off i) := msk_bit _ _ _
theorem FOK_step {v : Nat → Nat} {m : Nat} {p : (Nat → Nat) × (Nat → Nat)} (h : OkV v) (hF : FOK v m p.1 p.2) : FOK v (m + 1) (fstp v m p).1 (fstp v m p).2 := by
  unfold fstp
  cases hc : choice v m p.1 p.2 with
  | none => intro i; obtain ⟨a, b, c, d⟩ := hF i; exact ⟨Nat.le_succ_of_le a, Nat.le_succ_of_le b, c, d⟩
  | some x =>
    intro i
    obtain ⟨a, b, c, d⟩ := hF i
    have hb := fun hi => mayb_bit (i := i) h hc hi
    simp only
    refine ⟨by split <;> omega, by split <;> omega, fun hi => ?_, ?_⟩
    · have hn : ¬ x.testBit i = true := fun z => by have := (hb z).1; omega
      simp only [Bool.not_eq_true] at hn
      simp only [hn, Bool.false_and, Bool.false_eq_true, if_false]
      exact c hi
    · cases hxi : x.testBit i with
      | false => simp only [Bool.false_and, Bool.false_eq_true, if_false]; exact d
      | true =>
        rw [on_bit]
        have hiW := (hb hxi).1
        cases ho : isOn p.1 p.2 i with
        | true =>
          have : 0 < p.1 i := by simp [isOn] at ho; exact ho.1
          simp [hiW]; omega
        | false => simp [hiW]
theorem FOK_st {v : Nat → Nat} (h : OkV v) : ∀ m, FOK v m (fst_ v m).1 (fst_ v m).2 := by
  intro m
  induction m with
  | zero => intro i; exact ⟨Nat.le_refl _, Nat.le_refl _, fun _ => ⟨rfl, rfl⟩, fun _ => rfl⟩
  | succ m ih => exact FOK_step h ih
theorem onset_step {v : Nat → Nat} {m x : Nat} {p : (Nat → Nat) × (Nat → Nat)} (h : OkV v) (hF : FOK v m p.1 p.2) (hx : choice v m p.1 p.2 = some x) : onset v (fstp v m p).1 (fstp v m p).2 = onset v p.1 p.2 ^^^ x := by
  apply Nat.eq_of_testBit_eq
  intro i
  obtain ⟨a, b, c, d⟩ := hF i
  have hb := fun hi => mayb_bit (i := i) h hx hi
  rw [Nat.testBit_xor, on_bit]
  have e : fstp v m p = (fun i => if x.testBit i && !(onset v p.1 p.2).testBit i then m + 1 else p.1 i, fun i => if x.testBit i && (onset v p.1 p.2).testBit i then m + 1 else p.2 i) := by
    unfold fstp; rw [hx]
  rw [e]
  unfold isOn
  simp only [on_bit]
  cases hxi : x.testBit i with
  | false => simp [isOn]
  | true =>
    obtain ⟨hiW, hm⟩ := hb hxi
    cases ho : isOn p.1 p.2 i with
    | true =>
      simp [hiW]
    | false =>
      have h0 : p.1 i = 0 := by
        unfold mayb at hm
        rw [ho] at hm
        simp at hm
        exact hm.1
      simp [hiW, d h0]
