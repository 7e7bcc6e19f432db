/-! the calls that only ask: what a set brings, whether it is well, the feast -/
theorem set_ok (a : Int32) {s : jM} {v : Nat → Nat} (h : OkV v) (h4 : gI s 1 4 = nI (v 99)) : (f_X7_isSetOf a (gI s 1 4) = some 0 ∧ ∀ t, RM t 54 0 v → f_X8_isSet a t = some 0) ∨ ∃ n, n < 256 ∧ n ≤ ful v ∧ a = nI n ∧ f_X7_isSetOf a (gI s 1 4) = some 1 ∧ ∀ t, RM t 54 0 v → f_X8_isSet a t = some 1 := by
  have hf := ful_lt h
  have h8 := h.1
  have h3 := Nat.two_pow_pos (v 99)
  have hs : ∀ t, RM t 54 0 v → f_X8_isSet a t = Option.bind (f_X7_isWithin a (nI 0) (nI (ful v))) fun r2 => gd (zb r2) (some r2) := fun t ht => by
    simp only [f_X8_isSet]
    rw [all_ok h ht, Option.bind_some, show f_X8_in (Int32.toInt64 a) (0 : Int64) (Int32.toInt64 (nI (ful v))) = f_X7_isWithin a (nI 0) (nI (ful v)) from in_eq a (nI 0) (nI (ful v))]
  have e1 : (1 : Int32) <<< (gI s 1 4 &&& 31) = nI (2 ^ v 99) := by rw [h4, one_shlI _ (by omega)]
  have hp : 2 ^ v 99 = ful v + 1 := by unfold ful; omega
  rcases within_ok a (lo := 0) (hi := ful v) (by omega) (by omega) with w | ⟨n, _, hn, rfl, w⟩
  · refine Or.inl ⟨?_, fun t ht => by rw [hs t ht, w]; rfl⟩
    simp only [f_X7_isSetOf, jn_]
    rw [e1, hp]
    by_cases h0 : a < 0
    · rw [if_pos h0]
    · rw [if_neg h0]
      obtain ⟨n, hn, rfl⟩ := nI_of h0
      by_cases hle : nI (ful v + 1) ≤ nI n
      · rw [if_pos hle]
      · rw [nI_leI (by omega) hn] at hle
        simp only [f_X7_isWithin, jn_] at w
        rw [if_neg (by rw [nI_ltI hn (by omega)]; omega), if_neg (by rw [nI_ltI (by omega) hn]; omega)] at w
        cases w
  · refine Or.inr ⟨n, by omega, hn, rfl, ?_, fun t ht => by rw [hs t ht, w]; rfl⟩
    simp only [f_X7_isSetOf, jn_]
    rw [e1, hp, if_neg (nI_pos (by omega)), if_neg (by rw [nI_leI (by omega) (by omega)]; omega)]
theorem walk_ok (a : Int32) {s : jM} {v : Nat → Nat} (h : OkV v) (h4 : gI s 1 4 = nI (v 99)) : (f_X7_isWalker a s = some 0 ∧ ∀ t, RM t 54 0 v → f_X8_isWalker a t = some 0) ∨ ∃ n, n < v 99 ∧ a = nI n ∧ f_X7_isWalker a s = some 1 ∧ ∀ t, RM t 54 0 v → f_X8_isWalker a t = some 1 := by
  have h8 := h.1
  have hs : ∀ t, RM t 54 0 v → f_X8_isWalker a t = Option.bind (f_X7_isWithin a 0 (nI (v 99) - 1)) fun r2 => gd (zb r2) (some r2) := fun t ht => by
    simp only [f_X8_isWalker]
    rw [walkers_ok ht, Option.bind_some, show f_X8_in (Int32.toInt64 a) (0 : Int64) (Int32.toInt64 (nI (v 99) - 1)) = f_X7_isWithin a 0 (nI (v 99) - 1) from in_eq a 0 (nI (v 99) - 1)]
  simp only [f_X7_isWalker, jn_]
  rw [h4]
  by_cases h0 : a < 0
  · rw [if_pos h0]
    refine Or.inl ⟨rfl, fun t ht => ?_⟩
    rw [hs t ht]
    simp only [f_X7_isWithin, jn_]
    rw [if_pos h0]
    rfl
  · obtain ⟨n, hn, rfl⟩ := nI_of h0
    rw [if_neg h0]
    by_cases hle : v 99 ≤ n
    · rw [if_pos (by rw [nI_leI (by omega) hn]; exact hle)]
      refine Or.inl ⟨rfl, fun t ht => ?_⟩
      rw [hs t ht]
      simp only [f_X7_isWithin, jn_]
      rw [if_neg h0]
      have : nI (v 99) - 1 < nI n := by
        cases hw : v 99 with
        | zero =>
          rw [Int32.lt_iff_toInt_lt, nI_toInt hn]
          have : (nI 0 - 1).toInt = -1 := by decide
          omega
        | succ w => rw [nI_pred, nI_ltI (by omega) hn]; omega
      rw [if_pos this]
      rfl
    · rw [if_neg (by rw [nI_leI (by omega) hn]; exact hle), if_neg (by rw [c_le (by omega) hn]; omega)]
      refine Or.inr ⟨n, by omega, rfl, rfl, fun t ht => ?_⟩
      rw [hs t ht]
      simp only [f_X7_isWithin, jn_]
      rw [if_neg h0]
      have : ¬ nI (v 99) - 1 < nI n := by
        obtain ⟨w, hw⟩ : ∃ w, v 99 = w + 1 := ⟨v 99 - 1, by omega⟩
        rw [hw, nI_pred, nI_ltI (by omega) hn]; omega
      rw [if_neg this]
      rfl
theorem op_bad {s : jM} {v : Nat → Nat} {A : Option (Int32 × jM)} {B : jM → Option (Int32 × jM)} (h : INVv s v) (hA : A = some (-2, pI s 0 12 (gI s 0 12 + 1))) (hB : ∀ t, RM t 54 0 v → B t = some (-2, pI t 57 0 (gI t 57 0 + 1))) : OPI A B :=
  ⟨_, _, _, hA, hB _ (h.2.2.1.fr (fun i => gI_pI_ne (by decide))), h.bad⟩
theorem op_full {s : jM} {v : Nat → Nat} {A : Option (Int32 × jM)} {B : jM → Option (Int32 × jM)} (h : INVv s v) (hA : A = some (-4, pI s 0 14 (gI s 0 14 + 1))) (hB : ∀ t, RM t 54 0 v → B t = some (-4, pI t 57 2 (gI t 57 2 + 1))) : OPI A B :=
  ⟨_, _, _, hA, hB _ (h.2.2.1.fr (fun i => gI_pI_ne (by decide))), h.full⟩
theorem INVv.j {s t : jM} {v : Nat → Nat} (h : INVv s v) (hf : FrJ s t) (hJ : JI t v) : INVv t v :=
  h.cls (fr_mono hf.1 (by decide)) (h.2.1.j hf hJ) (h.2.2.2.2.2.2.1.fr hf.1 (by decide) (by decide) (by decide) (by decide)) (h.2.2.2.2.2.2.2.1.fr hf.1 (by decide) (by decide)) (h.2.2.2.2.2.2.2.2.fr hf.1 (by decide) (by decide) (by decide))
theorem INVv.w {s t : jM} {v : Nat → Nat} (h : INVv s v) (hf : FrW s t) : INVv t v := h.ref (fr_mono hf.1 (by decide)) (hf.2.2 4 (by decide)) (hf.2.2 5 (by decide))
theorem INVv.k {s t : jM} {v : Nat → Nat} (h : INVv s v) (hf : FrK s t) : INVv t v := h.ref (fr_mono hf.1 (by decide)) (hf.2.2 4 (by decide)) (hf.2.2 5 (by decide))
theorem INVv.p {s t : jM} {v : Nat → Nat} (h : INVv s v) (hf : FrP s t) : INVv t v := h.ref (fr_mono hf.1 (by decide)) (hf.2.2 4 (by decide)) (hf.2.2 5 (by decide))
theorem OP_brings {N : Nat} {a b : Int32} {s : jM} (hN : 1000 < N) (h : INV s) : OPI (f_X7_brings N a b s) (f_X8_brings N a b) := by
  obtain ⟨v, h⟩ := h
  have hO := h.1
  have hS := h.2.1.1
  have e0 : f_X8_in (Int32.toInt64 b) (0 : Int64) (4 : Int64) = f_X7_isWithin b (0 : Int32) (4 : Int32) := in_eq b 0 4
  have w0 : (f_X7_isWithin b (0 : Int32) (4 : Int32) = some 0) ∨ ∃ n, 0 ≤ n ∧ n ≤ 4 ∧ b = nI n ∧ f_X7_isWithin b (0 : Int32) (4 : Int32) = some 1 := within_ok b (lo := 0) (hi := 4) (by omega) (by omega)
  rcases set_ok a hO hS.1 with ⟨e1, e2⟩ | ⟨n, hn, _, rfl, e1, e2⟩
  · refine op_bad h ?_ (fun t hR => ?_)
    · simp only [f_X7_brings, jn_]; rw [e1, Option.bind_some, if_pos rfl]; rfl
    · simp only [f_X8_brings, jn_]; rw [e2 t hR, Option.bind_some, if_pos rfl]; rfl
  · rcases w0 with w | ⟨m, _, hm, rfl, w⟩
    · refine op_bad h ?_ (fun t hR => ?_)
      · simp only [f_X7_brings, jn_]; rw [e1, Option.bind_some, if_neg (by decide), w, Option.bind_some, if_pos rfl]; rfl
      · simp only [f_X8_brings, jn_]; rw [e2 t hR, Option.bind_some, if_neg (by decide), e0, w, Option.bind_some, if_pos rfl]; rfl
    · refine ⟨nI (br v n m), s, s, ?_, ?_, v, h⟩
      · simp only [f_X7_brings, jn_]; rw [e1, Option.bind_some, if_neg (by decide), w, Option.bind_some, if_neg (by decide), sumBrought_ok (by omega) hO hS hn (by omega)]; rfl
      · simp only [f_X8_brings, jn_]; rw [e2 s h.2.2.1, Option.bind_some, if_neg (by decide), e0, w, Option.bind_some, if_neg (by decide), broughtBy_ok (by omega) hO h.2.2.1 hn (by omega)]; rfl
theorem OP_well {N : Nat} {a b : Int32} {s : jM} (hN : 1000 < N) (h : INV s) : OPI (f_X7_well N a b s) (f_X8_well N a b) := by
  obtain ⟨v, h⟩ := h
  have hO := h.1
  have hS := h.2.1.1
  have e0 : f_X8_in (Int32.toInt64 b) (0 : Int64) (199 : Int64) = f_X7_isWithin b (0 : Int32) (199 : Int32) := in_eq b 0 199
  have w0 : (f_X7_isWithin b (0 : Int32) (199 : Int32) = some 0) ∨ ∃ n, 0 ≤ n ∧ n ≤ 199 ∧ b = nI n ∧ f_X7_isWithin b (0 : Int32) (199 : Int32) = some 1 := within_ok b (lo := 0) (hi := 199) (by omega) (by omega)
  rcases set_ok a hO hS.1 with ⟨e1, e2⟩ | ⟨n, hn, _, rfl, e1, e2⟩
  · refine op_bad h ?_ (fun t hR => ?_)
    · simp only [f_X7_well, jn_]; rw [e1, Option.bind_some, if_pos rfl]; rfl
    · simp only [f_X8_well, jn_]; rw [e2 t hR, Option.bind_some, if_pos rfl]; rfl
  · rcases w0 with w | ⟨m, _, hm, rfl, w⟩
    · refine op_bad h ?_ (fun t hR => ?_)
      · simp only [f_X7_well, jn_]; rw [e1, Option.bind_some, if_neg (by decide), w, Option.bind_some, if_pos rfl]; rfl
      · simp only [f_X8_well, jn_]; rw [e2 t hR, Option.bind_some, if_neg (by decide), e0, w, Option.bind_some, if_pos rfl]; rfl
    · obtain ⟨t, t1, t2, t3⟩ := judgeB (N := N) (a := n) (m := m) hN hO hS h.2.1.2.1 h.2.1.2.2 hn (by omega)
      have ht := h.j t2 t3
      obtain ⟨u, u1, u2⟩ := wellBR (N := N) (a := n) (m := m) (by omega) hO ht.2.2.1 hn (by omega)
      refine ⟨if wellB v n 0 m = true then 1 else 0, t, u, ?_, ?_, v, ht.w u2⟩
      · simp only [f_X7_well, jn_]
        rw [e1, Option.bind_some, if_neg (by decide), w, Option.bind_some, if_neg (by decide), t1, Option.bind_some]
        cases wellB v n 0 m <;> rfl
      · simp only [f_X8_well, jn_]
        rw [e2 t ht.2.2.1, Option.bind_some, if_neg (by decide), e0, w, Option.bind_some, if_neg (by decide), u1, Option.bind_some]
        cases wellB v n 0 m <;> rfl
/-- both go through the feast -/
theorem feast_ok {N : Nat} {s : jM} {v : Nat → Nat} (hN : 1000 < N) (h : INVv s v) : ∃ t u, f_X1_goThrough N s = some t ∧ f_X8_celebrate N t = some u ∧ GS t v 200 ∧ RS u v 200 ∧ INVv t v ∧ INVv u v := by
  have hF := h.2.2.2.2.2.2.1
  obtain ⟨t, t1, t2, t3, t4⟩ := goThrough_ok hN h.1 h.2.1 hF
  have ht : INVv t v := h.cls (fr_mono t4.1 (by decide)) t2 (fun _ => t3) (h.2.2.2.2.2.2.2.1.fr t4.1 (by decide) (by decide)) (h.2.2.2.2.2.2.2.2.fr t4.1 (by decide) (by decide) (by decide))
  obtain ⟨u, u1, u2, u3⟩ := celebrate_ok hN h.1 ht.2.2.1
  exact ⟨t, u, t1, u1, t3, u2, ht, ht.k u3⟩
theorem OP_on {N : Nat} {a : Int32} {s : jM} (hN : 1000 < N) (h : INV s) : OPI (f_X7_on N a s) (f_X8_on N a) := by
  obtain ⟨v, h⟩ := h
  have e0 : f_X8_in (Int32.toInt64 a) (0 : Int64) (199 : Int64) = f_X7_isWithin a (0 : Int32) (199 : Int32) := in_eq a 0 199
  have w0 : (f_X7_isWithin a (0 : Int32) (199 : Int32) = some 0) ∨ ∃ n, 0 ≤ n ∧ n ≤ 199 ∧ a = nI n ∧ f_X7_isWithin a (0 : Int32) (199 : Int32) = some 1 := within_ok a (lo := 0) (hi := 199) (by omega) (by omega)
  rcases w0 with w | ⟨m, _, hm, rfl, w⟩
  · refine op_bad h ?_ (fun t hR => ?_)
    · simp only [f_X7_on]; rw [w, Option.bind_some, if_pos rfl]; rfl
    · simp only [f_X8_on]; rw [e0, w, Option.bind_some, if_pos rfl]; rfl
  · obtain ⟨t, u, t1, u1, t2, u2, t3, u3⟩ := feast_ok hN h
    refine ⟨nI (onset v (fst_ v (m + 1)).1 (fst_ v (m + 1)).2), t, u, ?_, ?_, v, u3⟩
    · simp only [f_X7_on]
      rw [w, Option.bind_some, if_neg (by decide), t1, Option.bind_some, ib_nI (by omega), gd_dec (by omega), nI_clamp (by omega), t2.2.2.2 m (by omega)]
    · simp only [f_X8_on]
      rw [e0, w, Option.bind_some, if_neg (by decide), u1, Option.bind_some, ib_nI (by omega), gd_dec (by omega), nI_clamp (by omega), u2.2.2.2 m (by omega)]
theorem OP_stepped {N : Nat} {a b : Int32} {s : jM} (hN : 1000 < N) (h : INV s) : OPI (f_X7_stepped N a b s) (f_X8_stepped N a b) := by
  obtain ⟨v, h⟩ := h
  have hO := h.1
  have h8 := hO.1
  have e0 : f_X8_in (Int32.toInt64 b) (0 : Int64) (1 : Int64) = f_X7_isWithin b (0 : Int32) (1 : Int32) := in_eq b 0 1
  have w0 : (f_X7_isWithin b (0 : Int32) (1 : Int32) = some 0) ∨ ∃ n, 0 ≤ n ∧ n ≤ 1 ∧ b = nI n ∧ f_X7_isWithin b (0 : Int32) (1 : Int32) = some 1 := within_ok b (lo := 0) (hi := 1) (by omega) (by omega)
  rcases walk_ok a hO h.2.1.1.1 with ⟨e1, e2⟩ | ⟨n, hn, rfl, e1, e2⟩
  · refine op_bad h ?_ (fun t hR => ?_)
    · simp only [f_X7_stepped, jn_]; rw [e1, Option.bind_some, if_pos rfl]; rfl
    · simp only [f_X8_stepped, jn_]; rw [e2 t hR, Option.bind_some, if_pos rfl]; rfl
  · rcases w0 with w | ⟨m, _, hm, rfl, w⟩
    · refine op_bad h ?_ (fun t hR => ?_)
      · simp only [f_X7_stepped, jn_]; rw [e1, Option.bind_some, if_neg (by decide), w, Option.bind_some, if_pos rfl]; rfl
      · simp only [f_X8_stepped, jn_]; rw [e2 t hR, Option.bind_some, if_neg (by decide), e0, w, Option.bind_some, if_pos rfl]; rfl
    · obtain ⟨t, u, t1, u1, t2, u2, t3, u3⟩ := feast_ok hN h
      have a1 := t2.1.2 n (by omega)
      have a2 := u2.1 n (by omega)
      have hm2 : m = 0 ∨ m = 1 := by omega
      have A : f_X7_stepped N (nI n) (nI m) s = some ((if nI m = 0 then gI t 39 n else gI t 40 n), t) := by
        simp only [f_X7_stepped, jn_]
        rw [e1, Option.bind_some, if_neg (by decide), w, Option.bind_some, if_neg (by decide), t1, Option.bind_some, ib_nI (by omega), gd_dec (by omega), gd_dec (by omega), nI_clamp (by omega)]
        split <;> rfl
      have B : f_X8_stepped N (nI n) (nI m) t = some ((if nI m = 0 then gI u 61 n else gI u 62 n), u) := by
        simp only [f_X8_stepped, jn_]
        rw [e2 t t3.2.2.1, Option.bind_some, if_neg (by decide), e0, w, Option.bind_some, if_neg (by decide), u1, Option.bind_some, ib_nI (by omega), gd_dec (by omega), gd_dec (by omega), nI_clamp (by omega)]
        split <;> rfl
      exact ⟨_, t, u, A, by rw [B, a1.1, a1.2, a2.1, a2.2], v, u3⟩
theorem OP_faulty {N : Nat} {a : Int32} {s : jM} (hN : 1000 < N) (h : INV s) : OPI (f_X7_faulty N a s) (f_X8_faulty N a) := by
  obtain ⟨v, h⟩ := h
  have e0 : f_X8_in (Int32.toInt64 a) (0 : Int64) (1 : Int64) = f_X7_isWithin a (0 : Int32) (1 : Int32) := in_eq a 0 1
  have w0 : (f_X7_isWithin a (0 : Int32) (1 : Int32) = some 0) ∨ ∃ n, 0 ≤ n ∧ n ≤ 1 ∧ a = nI n ∧ f_X7_isWithin a (0 : Int32) (1 : Int32) = some 1 := within_ok a (lo := 0) (hi := 1) (by omega) (by omega)
  rcases w0 with w | ⟨m, _, hm, rfl, w⟩
  · refine op_bad h ?_ (fun t hR => ?_)
    · simp only [f_X7_faulty]; rw [w, Option.bind_some, if_pos rfl]; rfl
    · simp only [f_X8_faulty]; rw [e0, w, Option.bind_some, if_pos rfl]; rfl
  · obtain ⟨t, u, t1, u1, t2, u2, t3, u3⟩ := feast_ok hN h
    refine ⟨if nI m = 0 then nI (fnum v 200) else enc (ffst v 200), t, u, ?_, ?_, v, u3⟩
    · simp only [f_X7_faulty]
      rw [w, Option.bind_some, if_neg (by decide), t1, Option.bind_some, t2.2.1, t2.2.2.1]
      split <;> rfl
    · simp only [f_X8_faulty]
      rw [e0, w, Option.bind_some, if_neg (by decide), u1, Option.bind_some, u2.2.1, u2.2.2.1]
      split <;> rfl
theorem OP_fault {N : Nat} {s : jM} (hN : 1000 < N) (h : INV s) : ∃ r s2, f_X7_fault s = some r ∧ f_X8_fault N s = some (r, s2) ∧ INV s2 := by
  obtain ⟨v, h⟩ := h
  obtain ⟨u, r, u1, u2, u3⟩ := reads_ok (N := N) (lt := fun j => gL s 60 j) (by omega) (MT_of h.1 h.2.2.1) (fun j _ => rfl)
  refine ⟨gI s 29 7, u, rfl, ?_, v, h.w u2.w⟩
  simp only [f_X8_fault, lt_]
  rw [u1, Option.bind_some]
  have hw := h.2.1.2.1.fw
  have e : gI u 53 7 = gI s 29 7 := by
    rcases hw with ⟨x1, x2⟩ | ⟨f, x1, x2, x3⟩
    · rcases u3 with ⟨g, _, _, _, g4⟩ | ⟨_, g2, _⟩
      · obtain ⟨y, hy⟩ := x2 (fun j => gL s 60 j)
        exact (DF_un g4 hy).elim
      · rw [x1, g2]
    · rcases u3 with ⟨g, _, _, g3, g4⟩ | ⟨_, _, g3⟩
      · rw [x2, g3, Flt_un g4 (x3 _)]
      · exact (DF_un (x3 _) g3).elim
  rw [e]
