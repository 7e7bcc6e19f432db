/-! image, from -/
theorem im_loop {v : Nat → Nat} {N i : Nat} (hi : i < 2) : ∀ (m j : Nat) (s : jM) (q : Nat), 101 - j = m → j ≤ 101 → m < q → RM s 54 0 v → (∀ k, k < j → gI s 55 (101 * i + k) = nI (v k)) →
    ∃ s', (∀ k4, lp_X8_image_19 N (nI i) k4 q (nI j) s = k4 s') ∧ FrL [55] s s' ∧ RM s' 55 (101 * i) v ∧ ∀ k, (k < 101 * i ∨ 101 * i + 101 ≤ k) → gI s' 55 k = gI s 55 k := by
  intro m
  induction m with
  | zero =>
    intro j s q hm hj hq hR hC
    obtain ⟨q, rfl⟩ : ∃ r, q = r + 1 := ⟨q - 1, by omega⟩
    refine ⟨s, fun k4 => ?_, FrL.rf, fun k hk => hC k (by omega), fun _ _ => rfl⟩
    rw [lp_X8_image_19, if_pos (by rw [c_le (by omega) (by omega)]; omega)]
  | succ m ih =>
    intro j s q hm hj hq hR hC
    obtain ⟨q, rfl⟩ : ∃ r, q = r + 1 := ⟨q - 1, by omega⟩
    have f : FrL [55] s (pI s 55 (101 * i + j) (nI (v j))) := fr_pI FrL.rf (by decide)
    obtain ⟨s', e1, e2, e3, e4⟩ := ih (j + 1) (pI s 55 (101 * i + j) (nI (v j))) q (by omega) (by omega) (by omega) (hR.o (by decide)) (fun k hk => by
      rw [gI_pI_cell]
      by_cases hkj : k = j
      · rw [if_pos (by omega), hkj]
      · rw [if_neg (by omega)]; exact hC k (by omega))
    refine ⟨s', fun k4 => ?_, fr_tr f e2, e3, fun k hk => by rw [e4 k hk, gI_pI_cell, if_neg (by omega)]⟩
    have i0 : (101 : Int32) * nI i + nI j = nI (101 * i + j) := by rw [lit_nI 101, pk_mul, nI_add]
    rw [lp_X8_image_19, if_neg (by rw [c_le (by omega) (by omega)]; omega)]
    simp only [lt_]
    rw [i0, ib_nI (by omega), ib_nI (by omega), gd_dec (by omega), gd_dec (by omega), nI_clamp (by omega), nI_clamp (by omega), hR.at (by omega), nI_1]
    exact e1 k4
theorem fm_loop {w : Nat → Nat} {N i : Nat} (hi : i < 2) : ∀ (m j : Nat) (s : jM) (q : Nat), 101 - j = m → j ≤ 101 → m < q → RM s 55 (101 * i) w → (∀ k, k < j → gI s 54 k = nI (w k)) →
    ∃ s', lp_X8_from_33 N (nI i) q (nI j) s = some (1, s') ∧ FrL [54] s s' ∧ RM s' 54 0 w := by
  intro m
  induction m with
  | zero =>
    intro j s q hm hj hq hR hC
    obtain ⟨q, rfl⟩ : ∃ r, q = r + 1 := ⟨q - 1, by omega⟩
    refine ⟨s, ?_, FrL.rf, fun k hk => by rw [Nat.zero_add]; exact hC k (by omega)⟩
    rw [lp_X8_from_33, if_pos (by rw [c_le (by omega) (by omega)]; omega)]
  | succ m ih =>
    intro j s q hm hj hq hR hC
    obtain ⟨q, rfl⟩ : ∃ r, q = r + 1 := ⟨q - 1, by omega⟩
    have f : FrL [54] s (pI s 54 j (nI (w j))) := fr_pI FrL.rf (by decide)
    obtain ⟨s', e1, e2, e3⟩ := ih (j + 1) (pI s 54 j (nI (w j))) q (by omega) (by omega) (by omega) (hR.o (by decide)) (fun k hk => by
      rw [gI_pI_cell]
      by_cases hkj : k = j
      · rw [if_pos hkj, hkj]
      · rw [if_neg hkj]; exact hC k (by omega))
    refine ⟨s', ?_, fr_tr f e2, e3⟩
    have i0 : (101 : Int32) * nI i + nI j = nI (101 * i + j) := by rw [lit_nI 101, pk_mul, nI_add]
    rw [lp_X8_from_33, if_neg (by rw [c_le (by omega) (by omega)]; omega)]
    simp only [lt_]
    rw [i0, ib_nI (by omega), ib_nI (by omega), gd_dec (by omega), gd_dec (by omega), nI_clamp (by omega), nI_clamp (by omega), hR j (by omega), nI_1]
    exact e1
def L10 : List Nat := [10, 11, 12, 13, 14, 15, 16, 17, 18, 19, 20, 21, 22, 23, 24, 25, 26, 27, 28, 55, 56]
theorem INVv.img {s t : jM} {v : Nat → Nat} (h : INVv s v) (hf : FrL L10 s t) (h0 : IM t 0 10) (h1 : IM t 1 19) : INVv t v := by
  obtain ⟨a, b, c, _, e, f, g, i, j⟩ := h
  exact ⟨a, ⟨b.1.frl hf (fun j hj => by simp [L10]; omega), b.2.1.frl hf (by decide) (by decide) (by decide), b.2.2.frl hf (by decide) (by decide) (by decide)⟩, c.fr (fun i => fr_gI hf (by decide)), ⟨h0, h1⟩, e.fr hf (by decide) (by decide), f.fr hf (by decide) (by decide), g.fr hf (by decide) (by decide) (by decide) (by decide), i.fr hf (by decide) (by decide), j.fr hf (by decide) (by decide) (by decide)⟩
theorem nar1 : vp_nar .boolean (1 : Int32) = 1 := by decide
theorem OP_image {N : Nat} {a : Int32} {s : jM} (hN : 1000 < N) (h : INV s) : OPI (f_X7_image a s) (f_X8_image N a) := by
  obtain ⟨v, h⟩ := h
  have hO := h.1
  have ea : f_X8_in (Int32.toInt64 a) (0 : Int64) (1 : Int64) = f_X7_isWithin a (0 : Int32) (1 : Int32) := in_eq a 0 1
  have wa : (f_X7_isWithin a (0 : Int32) (1 : Int32) = some 0) ∨ ∃ n, 0 ≤ n ∧ n ≤ 1 ∧ a = nI n ∧ f_X7_isWithin a (0 : Int32) (1 : Int32) = some 1 := within_ok a (lo := 0) (hi := 1) (by omega) (by omega)
  rcases wa with xa | ⟨n, _, hn, rfl, xa⟩
  · refine op_bad h ?_ (fun t hR => ?_)
    · simp only [f_X7_image]; rw [xa, Option.bind_some, if_pos rfl]; rfl
    · simp only [f_X8_image]; rw [ea, xa, Option.bind_some, if_pos rfl]; rfl
  · have hn2 : n = 0 ∨ n = 1 := by omega
    rcases hn2 with rfl | rfl
    · obtain ⟨u, u1, u2, u3⟩ := bec_10_1 hO h.2.1.1
      have hR1 : ∀ x, RM (pI u 28 0 x) 54 0 v := fun x => (h.2.2.1.fr (fun k => fr_gI u3 (by decide))).o (by decide)
      obtain ⟨t, t1, t2, t3, t4⟩ := im_loop (N := N) (v := v) (i := 0) (by omega) 101 0 (pI u 28 0 1) N rfl (by omega) (by omega) (hR1 1) (fun k hk => by omega)
      have t1' : ∀ k4, lp_X8_image_19 N (nI 0) k4 N (0 : Int32) (pI u 28 0 1) = k4 t := t1
      have f1 : FrL [10, 11, 12, 13, 14, 15, 16, 17, 18, 28] s (pI u 28 0 1) := fr_pI (fr_mono u3 (by decide)) (by decide)
      have f2 : FrL [55, 56] (pI u 28 0 1) (pI t 56 0 1) := fr_pI (fr_mono t2 (by decide)) (by decide)
      refine ⟨1, pI u 28 0 1, pI t 56 0 1, ?_, ?_, v, h.img (fr_tr (fr_mono f1 (by decide)) (fr_mono f2 (by decide))) ?_ ?_⟩
      · simp only [f_X7_image, f_X7_imageAt, lt_]
        rw [xa, Option.bind_some, if_neg (by decide), if_pos (by decide), Option.bind_some, if_pos rfl, u1, Option.bind_some, nar1]
        rfl
      · simp only [f_X8_image, jn_, lt_]
        rw [ea, xa, Option.bind_some, if_neg (by decide), t1', nar1]
        rfl
      · refine ⟨by rw [fr_gI f2 (by decide), gI_pI_eq, gI_pI_eq], Or.inr ⟨by rw [fr_gI f2 (by decide), gI_pI_eq], v, hO, (u2.frl (l := [28]) (fr_pI FrL.rf (by decide)) (fun j hj => by simp; omega)).frl f2 (fun j hj => by simp; omega), fun k hk => by rw [gI_pI_ne (by decide)]; exact t3 k hk⟩⟩
      · have old := h.2.2.2.1.2
        have q1 : gI (pI t 56 0 1) 28 1 = gI s 28 1 := by rw [fr_gI f2 (by decide), gI_pI_cell, if_neg (by decide)]; exact fr_gI u3 (by decide)
        have q2 : gI (pI t 56 0 1) 56 1 = gI s 56 1 := by rw [gI_pI_cell, if_neg (by decide), fr_gI t2 (by decide), gI_pI_ne (by decide)]; exact fr_gI u3 (by decide)
        refine ⟨by rw [q1, q2]; exact old.1, ?_⟩
        rw [q1]
        rcases old.2 with z | ⟨z, w, w1, w2, w3⟩
        · exact Or.inl z
        · refine Or.inr ⟨z, w, w1, (w2.frl f1 (fun j hj => by simp; omega)).frl f2 (fun j hj => by simp; omega), fun k hk => ?_⟩
          rw [gI_pI_ne (by decide), t4 _ (by omega), gI_pI_ne (by decide), fr_gI u3 (by decide)]
          exact w3 k hk
    · obtain ⟨u, u1, u2, u3⟩ := bec_19_1 hO h.2.1.1
      have hR1 : ∀ x, RM (pI u 28 1 x) 54 0 v := fun x => (h.2.2.1.fr (fun k => fr_gI u3 (by decide))).o (by decide)
      obtain ⟨t, t1, t2, t3, t4⟩ := im_loop (N := N) (v := v) (i := 1) (by omega) 101 0 (pI u 28 1 1) N rfl (by omega) (by omega) (hR1 1) (fun k hk => by omega)
      have t1' : ∀ k4, lp_X8_image_19 N (nI 1) k4 N (0 : Int32) (pI u 28 1 1) = k4 t := t1
      have f1 : FrL [19, 20, 21, 22, 23, 24, 25, 26, 27, 28] s (pI u 28 1 1) := fr_pI (fr_mono u3 (by decide)) (by decide)
      have f2 : FrL [55, 56] (pI u 28 1 1) (pI t 56 1 1) := fr_pI (fr_mono t2 (by decide)) (by decide)
      refine ⟨1, pI u 28 1 1, pI t 56 1 1, ?_, ?_, v, h.img (fr_tr (fr_mono f1 (by decide)) (fr_mono f2 (by decide))) ?_ ?_⟩
      · simp only [f_X7_image, f_X7_imageAt, lt_]
        rw [xa, Option.bind_some, if_neg (by decide), if_neg (by decide), Option.bind_some, if_neg (by decide), if_pos rfl, u1, Option.bind_some, nar1]
        rfl
      · simp only [f_X8_image, jn_, lt_]
        rw [ea, xa, Option.bind_some, if_neg (by decide), t1', nar1]
        rfl
      · have old := h.2.2.2.1.1
        have q1 : gI (pI t 56 1 1) 28 0 = gI s 28 0 := by rw [fr_gI f2 (by decide), gI_pI_cell, if_neg (by decide)]; exact fr_gI u3 (by decide)
        have q2 : gI (pI t 56 1 1) 56 0 = gI s 56 0 := by rw [gI_pI_cell, if_neg (by decide), fr_gI t2 (by decide), gI_pI_ne (by decide)]; exact fr_gI u3 (by decide)
        refine ⟨by rw [q1, q2]; exact old.1, ?_⟩
        rw [q1]
        rcases old.2 with z | ⟨z, w, w1, w2, w3⟩
        · exact Or.inl z
        · refine Or.inr ⟨z, w, w1, (w2.frl f1 (fun j hj => by simp; omega)).frl f2 (fun j hj => by simp; omega), fun k hk => ?_⟩
          rw [gI_pI_ne (by decide), t4 _ (by omega), gI_pI_ne (by decide), fr_gI u3 (by decide)]
          exact w3 k hk
      · refine ⟨by rw [fr_gI f2 (by decide), gI_pI_eq, gI_pI_eq], Or.inr ⟨by rw [fr_gI f2 (by decide), gI_pI_eq], v, hO, (u2.frl (l := [28]) (fr_pI FrL.rf (by decide)) (fun j hj => by simp; omega)).frl f2 (fun j hj => by simp; omega), fun k hk => by rw [gI_pI_ne (by decide)]; exact t3 k hk⟩⟩
theorem op_no {s : jM} {v : Nat → Nat} {A : Option (Int32 × jM)} {B : jM → Option (Int32 × jM)} (h : INVv s v) (hA : A = some (-3, pI s 0 13 (gI s 0 13 + 1))) (hB : ∀ t, RM t 54 0 v → (∀ i, gI t 56 i = gI s 56 i) → B t = some (-3, pI t 57 1 (gI t 57 1 + 1))) : OPI A B :=
  ⟨_, _, _, hA, hB _ (h.2.2.1.fr (fun i => gI_pI_ne (by decide))) (fun i => gI_pI_ne (by decide)), h.no⟩
theorem OP_from {N : Nat} {a : Int32} {s : jM} (hN : 1000 < N) (h : INV s) : OPI (f_X7_from N a s) (f_X8_from N a) := by
  obtain ⟨v, h⟩ := h
  have hO := h.1
  have ea : f_X8_in (Int32.toInt64 a) (0 : Int64) (1 : Int64) = f_X7_isWithin a (0 : Int32) (1 : Int32) := in_eq a 0 1
  have wa : (f_X7_isWithin a (0 : Int32) (1 : Int32) = some 0) ∨ ∃ n, 0 ≤ n ∧ n ≤ 1 ∧ a = nI n ∧ f_X7_isWithin a (0 : Int32) (1 : Int32) = some 1 := within_ok a (lo := 0) (hi := 1) (by omega) (by omega)
  rcases wa with xa | ⟨n, _, hn, rfl, xa⟩
  · refine op_bad h ?_ (fun t hR => ?_)
    · simp only [f_X7_from]; rw [xa, Option.bind_some, if_pos rfl]; rfl
    · simp only [f_X8_from]; rw [ea, xa, Option.bind_some, if_pos rfl]; rfl
  · have hn2 : n = 0 ∨ n = 1 := by omega
    rcases hn2 with rfl | rfl
    · have old := h.2.2.2.1.1
      rcases old.2 with z | ⟨z, w, w1, w2, w3⟩
      · refine op_no h ?_ (fun t hR g56 => ?_)
        · simp only [f_X7_from]
          rw [xa, Option.bind_some, if_neg (by decide), ib_nI (by omega), gd_dec (by omega), nI_clamp (by omega), z, if_pos rfl]
          rfl
        · simp only [f_X8_from]
          rw [ea, xa, Option.bind_some, if_neg (by decide), ib_nI (by omega), gd_dec (by omega), nI_clamp (by omega), g56, ← old.1, z, if_pos rfl]
          rfl
      · obtain ⟨u, u1, u2, u3⟩ := bec_1_10 w1 w2
        obtain ⟨u', t, r1, r2, r3, r4⟩ := rr_ok (N := N) hN h w1 (fr_mono u3 (by decide)) u2
        have hR1 : RM t 55 (101 * 0) w := (w3.fr (fun k => fr_gI u3 (by decide))).fr (fun k => fr_gI r3 (by decide))
        obtain ⟨x, x1, x2, x3⟩ := fm_loop (N := N) (w := w) (i := 0) (by omega) 101 0 t N rfl (by omega) (by omega) hR1 (fun k hk => by omega)
        have x1' : lp_X8_from_33 N (nI 0) N (0 : Int32) t = some (1, x) := x1
        refine ⟨1, t, x, ?_, ?_, w, r4 x x2 x3⟩
        · simp only [f_X7_from, f_X7_imageAt]
          rw [xa, Option.bind_some, if_neg (by decide), ib_nI (by omega), gd_dec (by omega), nI_clamp (by omega), z, if_neg (by decide), if_pos (by decide), Option.bind_some, if_pos rfl, u1, Option.bind_some, r1, Option.bind_some, r2, Option.bind_some]
        · have g56 : gI t 56 0 = gI s 56 0 := by rw [fr_gI r3 (by decide), fr_gI u3 (by decide)]
          simp only [f_X8_from]
          rw [ea, xa, Option.bind_some, if_neg (by decide), ib_nI (by omega), gd_dec (by omega), nI_clamp (by omega), g56, ← old.1, z, if_neg (by decide), x1']
    · have old := h.2.2.2.1.2
      rcases old.2 with z | ⟨z, w, w1, w2, w3⟩
      · refine op_no h ?_ (fun t hR g56 => ?_)
        · simp only [f_X7_from]
          rw [xa, Option.bind_some, if_neg (by decide), ib_nI (by omega), gd_dec (by omega), nI_clamp (by omega), z, if_pos rfl]
          rfl
        · simp only [f_X8_from]
          rw [ea, xa, Option.bind_some, if_neg (by decide), ib_nI (by omega), gd_dec (by omega), nI_clamp (by omega), g56, ← old.1, z, if_pos rfl]
          rfl
      · obtain ⟨u, u1, u2, u3⟩ := bec_1_19 w1 w2
        obtain ⟨u', t, r1, r2, r3, r4⟩ := rr_ok (N := N) hN h w1 (fr_mono u3 (by decide)) u2
        have hR1 : RM t 55 (101 * 1) w := (w3.fr (fun k => fr_gI u3 (by decide))).fr (fun k => fr_gI r3 (by decide))
        obtain ⟨x, x1, x2, x3⟩ := fm_loop (N := N) (w := w) (i := 1) (by omega) 101 0 t N rfl (by omega) (by omega) hR1 (fun k hk => by omega)
        have x1' : lp_X8_from_33 N (nI 1) N (0 : Int32) t = some (1, x) := x1
        refine ⟨1, t, x, ?_, ?_, w, r4 x x2 x3⟩
        · simp only [f_X7_from, f_X7_imageAt]
          rw [xa, Option.bind_some, if_neg (by decide), ib_nI (by omega), gd_dec (by omega), nI_clamp (by omega), z, if_neg (by decide), if_neg (by decide), Option.bind_some, if_neg (by decide), if_pos rfl, u1, Option.bind_some, r1, Option.bind_some, r2, Option.bind_some]
        · have g56 : gI t 56 1 = gI s 56 1 := by rw [fr_gI r3 (by decide), fr_gI u3 (by decide)]
          simp only [f_X8_from]
          rw [ea, xa, Option.bind_some, if_neg (by decide), ib_nI (by omega), gd_dec (by omega), nI_clamp (by omega), g56, ← old.1, z, if_neg (by decide), x1']
