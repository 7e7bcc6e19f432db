/-! what holds between the calls -/
def IM (s : jM) (i b : Nat) : Prop := gI s 28 i = gI s 56 i ∧ (gI s 28 i = 0 ∨ (gI s 28 i = 1 ∧ ∃ w, OkV w ∧ SC s b w ∧ RM s 55 (101 * i) w))
def RB (s : jM) : Prop := gI s 0 12 = gI s 57 0 ∧ gI s 0 13 = gI s 57 1 ∧ gI s 0 14 = gI s 57 2
def FQ (s : jM) : Prop := gL s 50 0 = gL s 53 4 ∧ gL s 50 1 = gL s 53 5
def INVv (s : jM) (v : Nat → Nat) : Prop := OkV v ∧ KN s v ∧ RM s 54 0 v ∧ (IM s 0 10 ∧ IM s 1 19) ∧ RB s ∧ FQ s ∧ FI s v ∧ CI s v ∧ CZ s
def INV (s : jM) : Prop := ∃ v, INVv s v
theorem IM.fr {s t : jM} {i b : Nat} {L : List Nat} (h : IM s i b) (hf : FrL L s t) (h1 : 28 ∉ L) (h2 : 56 ∉ L) (h3 : 55 ∉ L) (h4 : ∀ j, j ≤ 8 → b + j ∉ L) : IM t i b := by
  refine ⟨by rw [fr_gI hf h1, fr_gI hf h2]; exact h.1, ?_⟩
  rw [fr_gI hf h1]
  rcases h.2 with h | ⟨h, w, w1, w2, w3⟩
  · exact Or.inl h
  · exact Or.inr ⟨h, w, w1, w2.frl hf h4, w3.fr (fun i => fr_gI hf h3)⟩
theorem GS.fr {s t : jM} {v : Nat → Nat} {m : Nat} (h : GS s v m) (h37 : ∀ i, i ≠ 8 → gI t 37 i = gI s 37 i) (h38 : ∀ i, gI t 38 i = gI s 38 i) (h39 : ∀ i, gI t 39 i = gI s 39 i) (h40 : ∀ i, gI t 40 i = gI s 40 i) : GS t v m :=
  ⟨h.1.fr (h37 5 (by decide)) h39 h40, by rw [h37 6 (by decide)]; exact h.2.1, by rw [h37 7 (by decide)]; exact h.2.2.1, fun j hj => by rw [h38]; exact h.2.2.2 j hj⟩
theorem FI.fr {s t : jM} {v : Nat → Nat} {L : List Nat} (h : FI s v) (hf : FrL L s t) (h1 : 37 ∉ L) (h2 : 38 ∉ L) (h3 : 39 ∉ L) (h4 : 40 ∉ L) : FI t v := fun h8 =>
  (h (by rw [← fr_gI hf h1]; exact h8)).fr (fun i _ => fr_gI hf h1) (fun i => fr_gI hf h2) (fun i => fr_gI hf h3) (fun i => fr_gI hf h4)
theorem PL.fr {s t : jM} {v : Nat → Nat} (h : PL s v) (h41 : ∀ i, i ≠ 14 → gI t 41 i = gI s 41 i) (h48 : ∀ i, gI t 48 i = gI s 48 i) : PL t v := by
  refine ⟨fun z => ?_, fun e he => ?_⟩
  · rw [h41 10 (by decide), h41 11 (by decide), h41 12 (by decide), h41 13 (by decide), h41 9 (by decide)]; exact h.1 z
  · obtain ⟨a, b, c, d, k, k1, k2, k3, k4⟩ := h.2 e he
    rw [h41 10 (by decide), h41 11 (by decide), h41 12 (by decide), h41 13 (by decide), h41 9 (by decide)]
    exact ⟨a, b, c, d, k, k1, k2, k3, fun j hj => by rw [h48]; exact k4 j hj⟩
theorem CI.fr {s t : jM} {v : Nat → Nat} {L : List Nat} (h : CI s v) (hf : FrL L s t) (h1 : 41 ∉ L) (h2 : 48 ∉ L) : CI t v := fun h14 =>
  (h (by rw [← fr_gI hf h1]; exact h14)).fr (fun i _ => fr_gI hf h1) (fun i => fr_gI hf h2)
theorem CZ.fr {s t : jM} {L : List Nat} (h : CZ s) (hf : FrL L s t) (h1 : 44 ∉ L) (h2 : 45 ∉ L) (h3 : 47 ∉ L) : CZ t := ⟨by rw [fr_gI hf h1]; exact h.1, by rw [fr_gI hf h2]; exact h.2.1, by rw [fr_gI hf h3]; exact h.2.2⟩
theorem RB.fr {s t : jM} {L : List Nat} (h : RB s) (hf : FrL L s t) (h1 : 0 ∉ L) (h2 : 57 ∉ L) : RB t := by
  unfold RB
  rw [fr_gI hf h1, fr_gI hf h1, fr_gI hf h1, fr_gI hf h2, fr_gI hf h2, fr_gI hf h2]
  exact h
theorem FQ.fr {s t : jM} {L : List Nat} (h : FQ s) (hf : FrL L s t) (h1 : 50 ∉ L) (h2 : 53 ∉ L) : FQ t := by
  unfold FQ
  rw [fr_gL hf h1, fr_gL hf h1, fr_gL hf h2, fr_gL hf h2]
  exact h
/-- the class's own work -/
def LC : List Nat := [29, 32, 33, 34, 35, 36, 37, 38, 39, 40, 41, 42, 43, 44, 45, 46, 47, 48, 51, 52]
theorem INVv.cls {s t : jM} {v : Nat → Nat} (h : INVv s v) (hf : FrL LC s t) (hK : KN t v) (hF : FI t v) (hC : CI t v) (hZ : CZ t) : INVv t v := by
  obtain ⟨a, b, c, ⟨d, d'⟩, e, f, _⟩ := h
  exact ⟨a, hK, c.fr (fun i => fr_gI hf (by decide)), ⟨d.fr hf (by decide) (by decide) (by decide) (fun j hj => by simp [LC]; omega), d'.fr hf (by decide) (by decide) (by decide) (fun j hj => by simp [LC]; omega)⟩, e.fr hf (by decide) (by decide), f.fr hf (by decide) (by decide), hF, hC, hZ⟩
/-- the reference's -/
def LM : List Nat := [53, 58, 59, 60, 61, 62, 63, 64, 65, 66, 67, 68, 69, 70]
theorem INVv.ref {s t : jM} {v : Nat → Nat} (h : INVv s v) (hf : FrL LM s t) (h4 : gL t 53 4 = gL s 53 4) (h5 : gL t 53 5 = gL s 53 5) : INVv t v := by
  obtain ⟨a, b, c, ⟨d, d'⟩, e, f, g, i, j⟩ := h
  exact ⟨a, b.c hf (by decide), c.fr (fun i => fr_gI hf (by decide)), ⟨d.fr hf (by decide) (by decide) (by decide) (fun j hj => by simp [LM]; omega), d'.fr hf (by decide) (by decide) (by decide) (fun j hj => by simp [LM]; omega)⟩, e.fr hf (by decide) (by decide), ⟨by rw [fr_gL hf (by decide), h4]; exact f.1, by rw [fr_gL hf (by decide), h5]; exact f.2⟩, g.fr hf (by decide) (by decide) (by decide) (by decide), i.fr hf (by decide) (by decide), j.fr hf (by decide) (by decide) (by decide)⟩
/-- a call of both, and what holds after it -/
def OPI (A : Option (Int32 × jM)) (B : jM → Option (Int32 × jM)) : Prop := ∃ r s1 s2, A = some (r, s1) ∧ B s1 = some (r, s2) ∧ INV s2
theorem INVv.refuse {s : jM} {v : Nat → Nat} {i j : Nat} (h : INVv s v) (hij : (i = 12 ∧ j = 0) ∨ (i = 13 ∧ j = 1) ∨ (i = 14 ∧ j = 2)) : INVv (pI (pI s 0 i (gI s 0 i + 1)) 57 j (gI s 57 j + 1)) v := by
  obtain ⟨a, b, c, ⟨d, d'⟩, e, f, g, k, l⟩ := h
  have hf : FrL [0, 57] s (pI (pI s 0 i (gI s 0 i + 1)) 57 j (gI s 57 j + 1)) := fr_pI (fr_pI FrL.rf (by decide)) (by decide)
  refine ⟨a, b.c hf (by decide), c.fr (fun i => fr_gI hf (by decide)), ⟨d.fr hf (by decide) (by decide) (by decide) (fun j hj => by simp; omega), d'.fr hf (by decide) (by decide) (by decide) (fun j hj => by simp; omega)⟩, ?_, f.fr hf (by decide) (by decide), g.fr hf (by decide) (by decide) (by decide) (by decide), k.fr hf (by decide) (by decide), l.fr hf (by decide) (by decide) (by decide)⟩
  obtain ⟨e1, e2, e3⟩ := e
  unfold RB
  rw [gI_pI_ne (show (0 : Nat) ≠ 57 by decide), gI_pI_ne (show (0 : Nat) ≠ 57 by decide), gI_pI_ne (show (0 : Nat) ≠ 57 by decide)]
  simp only [gI_pI_cell, gI_pI_ne (show (57 : Nat) ≠ 0 by decide)]
  rcases hij with ⟨rfl, rfl⟩ | ⟨rfl, rfl⟩ | ⟨rfl, rfl⟩ <;> simp [e1, e2, e3]
theorem bad_ok (x : Int32) (s : jM) : f_X8_bad x s = some (x, pI s 57 0 (gI s 57 0 + 1)) := rfl
theorem no_ok (s : jM) : f_X8_no s = some (-3, pI s 57 1 (gI s 57 1 + 1)) := rfl
theorem full_ok (s : jM) : f_X8_full s = some (-4, pI s 57 2 (gI s 57 2 + 1)) := rfl
theorem rbad_ok (s : jM) : f_X7_refuseAsBad s = some (-2, pI s 0 12 (gI s 0 12 + 1)) := rfl
theorem rno_ok (s : jM) : f_X7_refuseAsNo s = some (-3, pI s 0 13 (gI s 0 13 + 1)) := rfl
theorem rfull_ok (s : jM) : f_X7_refuseAsFull s = some (-4, pI s 0 14 (gI s 0 14 + 1)) := rfl
theorem INVv.bad {s : jM} {v : Nat → Nat} (h : INVv s v) : INV (pI (pI s 0 12 (gI s 0 12 + 1)) 57 0 (gI (pI s 0 12 (gI s 0 12 + 1)) 57 0 + 1)) := ⟨v, by rw [gI_pI_ne (by decide)]; exact h.refuse (Or.inl ⟨rfl, rfl⟩)⟩
theorem INVv.no {s : jM} {v : Nat → Nat} (h : INVv s v) : INV (pI (pI s 0 13 (gI s 0 13 + 1)) 57 1 (gI (pI s 0 13 (gI s 0 13 + 1)) 57 1 + 1)) := ⟨v, by rw [gI_pI_ne (by decide)]; exact h.refuse (Or.inr (Or.inl ⟨rfl, rfl⟩))⟩
theorem INVv.full {s : jM} {v : Nat → Nat} (h : INVv s v) : INV (pI (pI s 0 14 (gI s 0 14 + 1)) 57 2 (gI (pI s 0 14 (gI s 0 14 + 1)) 57 2 + 1)) := ⟨v, by rw [gI_pI_ne (by decide)]; exact h.refuse (Or.inr (Or.inr ⟨rfl, rfl⟩))⟩
/-! numbers as told, or not -/
theorem to64_lt (a b : Int32) : (a.toInt64 < b.toInt64) = (a < b) := by
  apply propext
  rw [Int64.lt_iff_toInt_lt, Int32.lt_iff_toInt_lt, Int32.toInt_toInt64, Int32.toInt_toInt64]
theorem in_eq (a b c : Int32) : f_X8_in a.toInt64 b.toInt64 c.toInt64 = f_X7_isWithin a b c := by
  simp only [f_X8_in, f_X7_isWithin, jn_]
  simp only [to64_lt]
/-- a number between two: told so by both, or by neither -/
theorem within_ok (a : Int32) {lo hi : Nat} (hl : lo < 2 ^ 31) (hh : hi < 2 ^ 31) : (f_X7_isWithin a (nI lo) (nI hi) = some 0) ∨ ∃ n, lo ≤ n ∧ n ≤ hi ∧ a = nI n ∧ f_X7_isWithin a (nI lo) (nI hi) = some 1 := by
  simp only [f_X7_isWithin, jn_]
  by_cases h1 : a < nI lo
  · rw [if_pos h1]; exact Or.inl rfl
  · rw [if_neg h1]
    by_cases h2 : nI hi < a
    · rw [if_pos h2]; exact Or.inl rfl
    · rw [if_neg h2]
      have h0 : ¬ a < 0 := fun z => h1 (by
        rw [Int32.lt_iff_toInt_lt] at z ⊢
        rw [nI_toInt hl]
        have : (0 : Int32).toInt = 0 := rfl
        omega)
      obtain ⟨n, hn, rfl⟩ := nI_of h0
      rw [nI_ltI hn hl] at h1
      rw [nI_ltI hh hn] at h2
      exact Or.inr ⟨n, by omega, by omega, rfl, rfl⟩
