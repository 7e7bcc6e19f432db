/-! the reference's reading, over lists: what it does at a place -/
def rk (c : Nat) : Nat := if c = 124 then 1 else if c = 38 then 2 else if c = 60 then 3 else if c = 62 then 3 else if c = 61 then 3 else if c = 43 then 4 else if c = 45 then 4 else if c = 42 then 5 else if c = 47 then 5 else 0
def wk (c : Nat) (a b : Int64) : Int64 := if c = 124 then (if a = 0 ∧ b = 0 then 0 else 1) else if c = 38 then (if a = 0 ∨ b = 0 then 0 else 1) else if c = 60 then (if a < b then 1 else 0) else if c = 62 then (if b < a then 1 else 0) else if c = 61 then (if a = b then 1 else 0) else if c = 43 then a + b else if c = 45 then a - b else if c = 42 then a * b else if b = 0 then 0 else a / b
def wd (r : Nat) : List Nat → List Int64 → List Int64 × List Nat
  | [], V => (V, [])
  | c :: S, V => if c < 1000 ∧ r ≤ rk c then wd r S (wk c (V.tail.headD 0) (V.headD 0) :: V.tail.tail) else (V, c :: S)
def s1 (c : Nat) (v : Int64) : Int64 := if c = 1001 then (if v = 0 then 1 else 0) else -v
def sd : List Nat → Int64 → Int64 × List Nat
  | [], v => (v, [])
  | c :: S, v => if 1000 < c then sd S (s1 c v) else (v, c :: S)
def lix (c : Nat) : Option Nat := if c = 112 then some 0 else if c = 98 then some 1 else if c = 117 then some 2 else if c = 100 then some 3 else if c = 108 then some 4 else if c = 109 then some 5 else none
/-- digits from a place on: how many may still come, the place, the number so far -/
def dgs (T : Nat → Nat) (n : Nat) : Nat → Nat → Nat → Option Nat × Nat
  | 0, p, a => if p < n ∧ isD (T p) = true then (none, p) else (some a, p)
  | m + 1, p, a => if p < n ∧ isD (T p) = true then dgs T n m (p + 1) (10 * a + (T p - 48)) else (some a, p)
abbrev Cfg : Type := Bool × Nat × List Int64 × List Nat × Nat
abbrev Out : Type := Cfg ⊕ (Nat ⊕ Int64)
/-- one step where a unit is wanted -/
def rstW (lt : Nat → Int64) (T : Nat → Nat) (n p : Nat) (V : List Int64) (S : List Nat) (o : Nat) : Out :=
  if p < n then
    if isD (T p) = true then
      match dgs T n 6 p 0 with
      | (none, _) => .inr (.inl (10 * p + 2))
      | (some a, p') => .inl (false, nb T n p', (sd S (lN a)).1 :: V, (sd S (lN a)).2, o)
    else match lix (T p) with
      | some j => .inl (false, nb T n (p + 1), (sd S (lt j)).1 :: V, (sd S (lt j)).2, o)
      | none =>
        if T p = 33 then .inl (true, nb T n (p + 1), V, 1001 :: S, o)
        else if T p = 45 then .inl (true, nb T n (p + 1), V, 1002 :: S, o)
        else if T p = 40 ∧ o < 8 then .inl (true, nb T n (p + 1), V, 1000 :: S, o + 1)
        else .inr (.inl (10 * p + (if T p = 40 then 3 else 1)))
  else .inr (.inl (10 * p + 1))
/-- one step where a sign is wanted -/
def rstS (T : Nat → Nat) (n p : Nat) (V : List Int64) (S : List Nat) (o : Nat) : Out :=
  if p < n then
    if T p = 41 ∧ 0 < o then .inl (false, nb T n (p + 1), (sd (wd 1 S V).2.tail ((wd 1 S V).1.headD 0)).1 :: (wd 1 S V).1.tail, (sd (wd 1 S V).2.tail ((wd 1 S V).1.headD 0)).2, o - 1)
    else if 0 < rk (T p) then
      if rk (T p) = 3 then
        if ((wd 4 S V).2.headD 1000) < 1000 ∧ rk ((wd 4 S V).2.headD 1000) = 3 then .inr (.inl (10 * p + 1))
        else .inl (true, nb T n (p + 1), (wd 4 S V).1, T p :: (wd 4 S V).2, o)
      else .inl (true, nb T n (p + 1), (wd (rk (T p)) S V).1, T p :: (wd (rk (T p)) S V).2, o)
    else .inr (.inl (10 * p + 1))
  else if o = 0 then .inr (.inr ((wd 1 S V).1.headD 0))
  else .inr (.inl (10 * p + 1))
def rst (lt : Nat → Int64) (T : Nat → Nat) (n : Nat) (a : Cfg) : Out := if a.1 = true then rstW lt T n a.2.1 a.2.2.1 a.2.2.2.1 a.2.2.2.2 else rstS T n a.2.1 a.2.2.1 a.2.2.2.1 a.2.2.2.2
def itr (lt : Nat → Int64) (T : Nat → Nat) (n : Nat) : Nat → Cfg → Out
  | 0, a => .inl a
  | k + 1, a => match rst lt T n a with
    | .inl b => itr lt T n k b
    | .inr x => .inr x
def Rch (lt : Nat → Int64) (T : Nat → Nat) (n : Nat) (a b : Cfg) : Prop := ∃ k, itr lt T n k a = .inl b
def Flt (lt : Nat → Int64) (T : Nat → Nat) (n : Nat) (a : Cfg) (f : Nat) : Prop := ∃ k, itr lt T n k a = .inr (.inl f)
def Dne (lt : Nat → Int64) (T : Nat → Nat) (n : Nat) (a : Cfg) (v : Int64) : Prop := ∃ k, itr lt T n k a = .inr (.inr v)
theorem itr_add {lt : Nat → Int64} {T : Nat → Nat} {n k : Nat} {b : Cfg} {x : Out} (hb : itr lt T n k b = x) : ∀ (j : Nat) (a : Cfg), itr lt T n j a = .inl b → itr lt T n (j + k) a = x := by
  intro j
  induction j with
  | zero => intro a h; cases h; rw [Nat.zero_add]; exact hb
  | succ j ih =>
    intro a h
    rw [Nat.succ_add]
    simp only [itr] at h ⊢
    cases hr : rst lt T n a with
    | inl c => rw [hr] at h; exact ih c h
    | inr y => rw [hr] at h; cases h
theorem Rch.tr {lt : Nat → Int64} {T : Nat → Nat} {n : Nat} {a b c : Cfg} (h1 : Rch lt T n a b) (h2 : Rch lt T n b c) : Rch lt T n a c := by
  obtain ⟨j, h1⟩ := h1
  obtain ⟨k, h2⟩ := h2
  exact ⟨j + k, itr_add h2 j a h1⟩
theorem Rch.flt {lt : Nat → Int64} {T : Nat → Nat} {n f : Nat} {a b : Cfg} (h1 : Rch lt T n a b) (h2 : Flt lt T n b f) : Flt lt T n a f := by
  obtain ⟨j, h1⟩ := h1
  obtain ⟨k, h2⟩ := h2
  exact ⟨j + k, itr_add h2 j a h1⟩
theorem Rch.dne {lt : Nat → Int64} {T : Nat → Nat} {n : Nat} {v : Int64} {a b : Cfg} (h1 : Rch lt T n a b) (h2 : Dne lt T n b v) : Dne lt T n a v := by
  obtain ⟨j, h1⟩ := h1
  obtain ⟨k, h2⟩ := h2
  exact ⟨j + k, itr_add h2 j a h1⟩
theorem Rch.rf {lt : Nat → Int64} {T : Nat → Nat} {n : Nat} {a : Cfg} : Rch lt T n a a := ⟨0, rfl⟩
theorem Rch.st {lt : Nat → Int64} {T : Nat → Nat} {n : Nat} {a b : Cfg} (h : rst lt T n a = .inl b) : Rch lt T n a b := ⟨1, by simp only [itr, h]⟩
theorem Flt.st {lt : Nat → Int64} {T : Nat → Nat} {n f : Nat} {a : Cfg} (h : rst lt T n a = .inr (.inl f)) : Flt lt T n a f := ⟨1, by simp only [itr, h]⟩
theorem Dne.st {lt : Nat → Int64} {T : Nat → Nat} {n : Nat} {v : Int64} {a : Cfg} (h : rst lt T n a = .inr (.inr v)) : Dne lt T n a v := ⟨1, by simp only [itr, h]⟩
/-- the code's value -/
def ev1 (lt : Nat → Int64) (x : Nat × Nat) (st : List Int64) : List Int64 :=
  if x.1 = 35 then lN x.2 :: st else match lix x.1 with
    | some j => lt j :: st
    | none => if x.1 = 33 then s1 1001 (st.headD 0) :: st.tail else if x.1 = 126 then s1 1002 (st.headD 0) :: st.tail else wk x.1 (st.tail.headD 0) (st.headD 0) :: st.tail.tail
def evc (lt : Nat → Int64) : List (Nat × Nat) → List Int64 → List Int64
  | [], st => st
  | x :: c, st => evc lt c (ev1 lt x st)
theorem evc_app {lt : Nat → Int64} : ∀ (c d : List (Nat × Nat)) (st : List Int64), evc lt (c ++ d) st = evc lt d (evc lt c st) := by
  intro c
  induction c with
  | nil => intro d st; rfl
  | cons x c ih => intro d st; exact ih d _
/-- what a code holds; m in it is remembered -/
def cdp (c : List (Nat × Nat)) (nm : Int32) : Prop := (∀ x, x ∈ c → x.1 < 128 ∧ x.2 < 1000000) ∧ ((∃ x, x ∈ c ∧ x.1 = 109) → nm = 1)
theorem cdp_app {c d : List (Nat × Nat)} {nm nm' : Int32} (h1 : cdp c nm) (h2 : cdp d nm') (h : nm' = nm ∨ nm' = 1) : cdp (c ++ d) nm' := by
  refine ⟨fun x hx => ?_, fun ⟨x, hx, h9⟩ => ?_⟩
  · rcases List.mem_append.mp hx with hx | hx
    · exact h1.1 x hx
    · exact h2.1 x hx
  · rcases List.mem_append.mp hx with hx | hx
    · rcases h with h | h
      · rw [h]; exact h1.2 ⟨x, hx, h9⟩
      · exact h
    · exact h2.2 ⟨x, hx, h9⟩
theorem cdp_one {b v : Nat} {nm : Int32} (hb : b < 128) (hv : v < 1000000) (h : b = 109 → nm = 1) : cdp [(b, v)] nm := by
  refine ⟨fun x hx => ?_, fun ⟨x, hx, h9⟩ => ?_⟩
  · simp at hx; rw [hx]; exact ⟨hb, hv⟩
  · simp at hx; rw [hx] at h9; exact h h9
theorem cdp_nil {nm : Int32} : cdp [] nm := ⟨fun x hx => by simp at hx, fun ⟨x, hx, _⟩ => by simp at hx⟩
def blk (r : Nat) (S : List Nat) : Prop := match S with
  | [] => True
  | c :: _ => c = 1000 ∨ (c < 1000 ∧ rk c < r)
theorem blk_mono {r r' : Nat} {S : List Nat} (h : blk r S) (hr : r ≤ r') : blk r' S := by
  cases S with
  | nil => trivial
  | cons c S => exact h.imp id (fun q => ⟨q.1, by omega⟩)
theorem blk_wd {r : Nat} {S : List Nat} {V : List Int64} (h : blk r S) : wd r S V = (V, S) := by
  cases S with
  | nil => rfl
  | cons c S => exact if_neg (by rcases h with h | h <;> omega)
theorem blk_sd {r : Nat} {S : List Nat} {v : Int64} (h : blk r S) : sd S v = (v, S) := by
  cases S with
  | nil => rfl
  | cons c S => exact if_neg (by rcases h with h | h <;> omega)
/-- what a reading of rank r at depth o from place p on leaves, if it stands -/
def OKX (T : Nat → Nat) (n r o p : Nat) (cd : List (Nat × Nat)) (nm : Int32) (s' : jM) : Prop :=
  ∃ (p' : Nat) (c : List (Nat × Nat)) (nm' : Int32), VP s' p' (-1) (cd ++ c) nm' ∧ p' ≤ n ∧ c.length + p ≤ p' ∧ (nm' = nm ∨ nm' = 1) ∧ cdp c nm' ∧
    ∀ lt : Nat → Int64, ∃ v : Int64, (∀ st, evc lt c st = v :: st) ∧ ∀ (V : List Int64) (S : List Nat), blk r S → ∃ (V' : List Int64) (S' : List Nat), Rch lt T n (true, nb T n p, V, S, o) (false, nb T n p', V', S', o) ∧ (∀ r', r' ≤ r → wd r' S' V' = wd r' S (v :: V)) ∧ (nb T n p' < n → r ≤ rk (T (nb T n p')) → Flt lt T n (false, nb T n p', V', S', o) (10 * nb T n p' + 1))
/-- and if it does not -/
def ERX (T : Nat → Nat) (n r o p : Nat) (s' : jM) : Prop := ∃ f : Nat, f < 1000 ∧ VE s' (nI f) ∧ ∀ (lt : Nat → Int64) (V : List Int64) (S : List Nat), blk r S → Flt lt T n (true, nb T n p, V, S, o) f
def PXs (T : Nat → Nat) (n r o : Nat) (g : jM → Option jM) : Prop := ∀ (s : jM) (p : Nat) (cd : List (Nat × Nat)) (nm : Int32), VT T n s → VP s p (-1) cd nm → p ≤ n → cd.length ≤ p →
  ∃ s', g s = some s' ∧ FrL PF s s' ∧ (OKX T n r o p cd nm s' ∨ ERX T n r o p s')
/-- a bare unit, with what stands ahead of it still on the signs -/
def PBs (T : Nat → Nat) (n o : Nat) (g : jM → Option jM) : Prop := ∀ (s : jM) (p : Nat) (cd : List (Nat × Nat)) (nm : Int32), VT T n s → VP s p (-1) cd nm → p ≤ n → cd.length ≤ p → ¬ (nb T n p < n ∧ (T (nb T n p) = 33 ∨ T (nb T n p) = 45)) →
  ∃ s', g s = some s' ∧ FrL PF s s' ∧
    ((∃ (p' : Nat) (c : List (Nat × Nat)) (nm' : Int32), VP s' p' (-1) (cd ++ c) nm' ∧ p' ≤ n ∧ c.length + p ≤ p' ∧ (nm' = nm ∨ nm' = 1) ∧ cdp c nm' ∧
      ∀ lt : Nat → Int64, ∃ v : Int64, (∀ st, evc lt c st = v :: st) ∧ ∀ (V : List Int64) (S : List Nat), Rch lt T n (true, nb T n p, V, S, o) (false, nb T n p', (sd S v).1 :: V, (sd S v).2, o)) ∨
     (∃ f : Nat, f < 1000 ∧ VE s' (nI f) ∧ ∀ (lt : Nat → Int64) (V : List Int64) (S : List Nat), Flt lt T n (true, nb T n p, V, S, o) f))
