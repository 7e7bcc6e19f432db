/-! every run of calls -/
theorem opi_use {A : Option (Int32 × jM)} {B : jM → Option (Int32 × jM)} {K : jM → Option (Int32 × jM)} (h : OPI A B) (hK : ∀ s2, INV s2 → ∃ s', K s2 = some ((1 : Int32), s')) : ∃ s', (Option.bind A fun r => Option.bind (B r.2) fun t => if r.1 = t.1 then K t.2 else some ((0 : Int32), t.2)) = some ((1 : Int32), s') := by
  obtain ⟨r, s1, s2, h1, h2, h3⟩ := h
  obtain ⟨s', e⟩ := hK s2 h3
  refine ⟨s', ?_⟩
  rw [h1, Option.bind_some, h2, Option.bind_some, if_pos rfl]
  exact e
theorem opl_use {A : Option (Int64 × jM)} {B : jM → Option (Int64 × jM)} {K : jM → Option (Int32 × jM)} (h : OPL A B) (hK : ∀ s2, INV s2 → ∃ s', K s2 = some ((1 : Int32), s')) : ∃ s', (Option.bind A fun r => Option.bind (B r.2) fun t => if r.1 = t.1 then K t.2 else some ((0 : Int32), t.2)) = some ((1 : Int32), s') := by
  obtain ⟨r, s1, s2, h1, h2, h3⟩ := h
  obtain ⟨s', e⟩ := hK s2 h3
  refine ⟨s', ?_⟩
  rw [h1, Option.bind_some, h2, Option.bind_some, if_pos rfl]
  exact e
theorem fault_use {N : Nat} {s : jM} {K : jM → Option (Int32 × jM)} (hN : 1000 < N) (h : INV s) (hK : ∀ s2, INV s2 → ∃ s', K s2 = some ((1 : Int32), s')) : ∃ s', (Option.bind (f_X7_fault s) fun r => Option.bind (f_X8_fault N s) fun t => if r = t.1 then K t.2 else some ((0 : Int32), t.2)) = some ((1 : Int32), s') := by
  obtain ⟨r, s2, h1, h2, h3⟩ := OP_fault hN h
  obtain ⟨s', e⟩ := hK s2 h3
  refine ⟨s', ?_⟩
  rw [h1, Option.bind_some, h2, Option.bind_some, if_pos rfl]
  exact e
theorem digest_use {N : Nat} {s : jM} {K : jM → Option (Int32 × jM)} (hN : 1000 < N) (h : INV s) (hK : ∀ s2, INV s2 → ∃ s', K s2 = some ((1 : Int32), s')) : ∃ s', (Option.bind (f_X7_digest N s) fun r => Option.bind (f_X8_digest N s) fun t => if r = t then K s else some ((0 : Int32), s)) = some ((1 : Int32), s') := by
  obtain ⟨r, h1, h2⟩ := OP_digest hN h
  obtain ⟨s', e⟩ := hK s h
  refine ⟨s', ?_⟩
  rw [h1, Option.bind_some, h2, Option.bind_some, if_pos rfl]
  exact e
theorem law_end {L i : Nat} (hL : L ≤ 2048) (hi : i < 2 ^ 30) : Int32.ofNat L - (4 : Int32) < nI i ↔ ¬ i + 4 ≤ L := by
  show nI L - nI 4 < nI i ↔ _
  by_cases h4 : 4 ≤ L
  · rw [pk_sub h4, nI_ltI (by omega) (by omega)]
    omega
  · have hn := pk_sneg (a := L) (b := 4) (by omega) (by omega)
    refine ⟨fun _ => by omega, fun _ => ?_⟩
    rw [Int32.lt_iff_toInt_lt] at hn ⊢
    rw [nI_toInt (by omega)]
    have : (0 : Int32).toInt = 0 := rfl
    omega
theorem law_loop {N L : Nat} {xs : Nat → Int32} (hN : 2 ^ 40 < N) (hL : L ≤ 2048) : ∀ (m i : Nat) (s : jM) (q : Nat), L - i ≤ m → i < 10000 → m < q → INV s → ∃ s', lp_law_18 N L xs q (nI i) s = some ((1 : Int32), s') := by
  have hN1 : 1000 < N := by omega
  intro m
  induction m with
  | zero =>
    intro i s q hm hi hq hI
    obtain ⟨q, rfl⟩ : ∃ r, q = r + 1 := ⟨q - 1, by omega⟩
    refine ⟨s, ?_⟩
    rw [lp_law_18, if_pos ((law_end hL (by omega)).mpr (by omega))]
  | succ m ih =>
    intro i s q hm hi hq hI
    obtain ⟨q, rfl⟩ : ∃ r, q = r + 1 := ⟨q - 1, by omega⟩
    by_cases hiL : i + 4 ≤ L
    · have i0 : ib (nI i) L = true := by rw [ib_nI (by omega)]; exact decide_eq_true (by omega)
      have i1 : ib (nI i + (1 : Int32)) L = true := by rw [nI_1, ib_nI (by omega)]; exact decide_eq_true (by omega)
      have i2 : ib (nI i + (2 : Int32)) L = true := by rw [show nI i + (2 : Int32) = nI (i + 2) from nI_add _ 2, ib_nI (by omega)]; exact decide_eq_true (by omega)
      have i3 : ib (nI i + (3 : Int32)) L = true := by rw [show nI i + (3 : Int32) = nI (i + 3) from nI_add _ 3, ib_nI (by omega)]; exact decide_eq_true (by omega)
      rw [lp_law_18, if_neg (fun z => (law_end hL (by omega)).mp z hiL)]
      generalize hKd : (fun (s9 : jM) => lt_ (nI i + (4 : Int32)) fun x11 => lp_law_18 N L xs q x11 s9) = K
      have hK : ∀ s2, INV s2 → ∃ s', K s2 = some ((1 : Int32), s') := fun s2 h2 => by
        obtain ⟨s', e⟩ := ih (i + 4) s2 q (by omega) (by omega) (by omega) h2
        refine ⟨s', ?_⟩
        rw [← hKd]
        show lp_law_18 N L xs q (nI i + (4 : Int32)) s2 = _
        rw [show nI i + (4 : Int32) = nI (i + 4) from nI_add _ 4]
        exact e
      rw [jn_, i0, gd_true]
      generalize xs (Int32.toNatClampNeg (nI i)) &&& (31 : Int32) = c
      generalize xs (Int32.toNatClampNeg (nI i + (1 : Int32))) = a1
      generalize xs (Int32.toNatClampNeg (nI i + (2 : Int32))) = a2
      generalize xs (Int32.toNatClampNeg (nI i + (3 : Int32))) = a3
      by_cases c0 : c = (0 : Int32)
      · rw [if_pos c0]
        simp only [i1, i2, i3, gd_true]
        exact opi_use (OP_walker hI) hK
      rw [if_neg c0]
      by_cases c1 : c = (1 : Int32)
      · rw [if_pos c1]
        simp only [i1, i2, gd_true]
        exact opi_use (OP_put hI) hK
      rw [if_neg c1]
      by_cases c2 : c = (2 : Int32)
      · rw [if_pos c2]
        simp only [i1, gd_true]
        exact opi_use (OP_write hN1 hI) hK
      rw [if_neg c2]
      by_cases c3 : c = (3 : Int32)
      · rw [if_pos c3]
        exact opi_use (OP_erase hN1 hI) hK
      rw [if_neg c3]
      by_cases c4 : c = (4 : Int32)
      · rw [if_pos c4]
        exact fault_use hN1 hI hK
      rw [if_neg c4]
      by_cases c5 : c = (5 : Int32)
      · rw [if_pos c5]
        simp only [i1, i2, gd_true]
        exact opi_use (OP_brings hN1 hI) hK
      rw [if_neg c5]
      by_cases c6 : c = (6 : Int32)
      · rw [if_pos c6]
        simp only [i1, i2, gd_true]
        exact opi_use (OP_well hN1 hI) hK
      rw [if_neg c6]
      by_cases c7 : c = (7 : Int32)
      · rw [if_pos c7]
        simp only [i1, gd_true]
        exact opi_use (OP_on hN1 hI) hK
      rw [if_neg c7]
      by_cases c8 : c = (8 : Int32)
      · rw [if_pos c8]
        simp only [i1, i2, gd_true]
        exact opi_use (OP_stepped hN1 hI) hK
      rw [if_neg c8]
      by_cases c9 : c = (9 : Int32)
      · rw [if_pos c9]
        simp only [i1, gd_true]
        exact opi_use (OP_faulty hN1 hI) hK
      rw [if_neg c9]
      by_cases c10 : c = (10 : Int32)
      · rw [if_pos c10]
        simp only [i1, gd_true]
        exact opi_use (OP_least hN1 hI) hK
      rw [if_neg c10]
      by_cases c11 : c = (11 : Int32)
      · rw [if_pos c11]
        simp only [i1, gd_true]
        exact opi_use (OP_row hN1 hI) hK
      rw [if_neg c11]
      by_cases c12 : c = (12 : Int32)
      · rw [if_pos c12]
        simp only [i1, i2, gd_true]
        exact opi_use (OP_toll hN hI) hK
      rw [if_neg c12]
      by_cases c13 : c = (13 : Int32)
      · rw [if_pos c13]
        simp only [i1, i2, gd_true]
        exact opi_use (OP_doubt hI) hK
      rw [if_neg c13]
      by_cases c14 : c = (14 : Int32)
      · rw [if_pos c14]
        simp only [i1, gd_true]
        exact opi_use (OP_odd hN hI) hK
      rw [if_neg c14]
      by_cases c15 : c = (15 : Int32)
      · rw [if_pos c15]
        simp only [i1, i2, i3, gd_true]
        exact opi_use (OP_home hN1 hI) hK
      rw [if_neg c15]
      by_cases c16 : c = (16 : Int32)
      · rw [if_pos c16]
        simp only [i1, i2, i3, gd_true]
        exact opi_use (OP_say hI) hK
      rw [if_neg c16]
      by_cases c17 : c = (17 : Int32)
      · rw [if_pos c17]
        exact opi_use (OP_hush hI) hK
      rw [if_neg c17]
      by_cases c18 : c = (18 : Int32)
      · rw [if_pos c18]
        simp only [i1, gd_true]
        exact opl_use (OP_dispute hN1 hI) hK
      rw [if_neg c18]
      by_cases c19 : c = (19 : Int32)
      · rw [if_pos c19]
        simp only [i1, gd_true]
        exact opi_use (OP_lied hN1 hI) hK
      rw [if_neg c19]
      by_cases c20 : c = (20 : Int32)
      · rw [if_pos c20]
        simp only [i1, gd_true]
        exact opl_use (OP_part hI) hK
      rw [if_neg c20]
      by_cases c21 : c = (21 : Int32)
      · rw [if_pos c21]
        simp only [i1, gd_true]
        exact opi_use (OP_image hN1 hI) hK
      rw [if_neg c21]
      by_cases c22 : c = (22 : Int32)
      · rw [if_pos c22]
        simp only [i1, gd_true]
        exact opi_use (OP_from hN1 hI) hK
      rw [if_neg c22]
      by_cases c23 : c = (23 : Int32)
      · rw [if_pos c23]
        simp only [i1, gd_true]
        exact opi_use (OP_status hI) hK
      rw [if_neg c23]
      by_cases c24 : c = (24 : Int32)
      · rw [if_pos c24]
        simp only [i1, gd_true]
        exact opi_use (OP_count hI) hK
      rw [if_neg c24]
      by_cases c25 : c = (25 : Int32)
      · rw [if_pos c25]
        exact digest_use hN1 hI hK
      rw [if_neg c25]
      exact hK s hI
    · refine ⟨s, ?_⟩
      rw [lp_law_18, if_pos ((law_end hL (by omega)).mpr hiL)]
theorem law_true (L : Nat) (hL : L ≤ 2048) (xs : Nat → Int32) : ∃ (N : Nat) (s' : jM), f_law N L xs z0 = some (1, s') := by
  obtain ⟨N, hN⟩ : ∃ N : Nat, 2 ^ 40 < N := ⟨2 ^ 40 + 1, Nat.lt_succ_self _⟩
  obtain ⟨s1, s2, h1, h2, h3⟩ := first_ok (N := N) (by omega)
  obtain ⟨s', e⟩ := law_loop (N := N) (L := L) (xs := xs) hN hL L 0 s2 N (by omega) (by omega) (by omega) h3
  refine ⟨N, s', ?_⟩
  simp only [f_law, lt_]
  rw [h1, Option.bind_some, h2, Option.bind_some]
  exact e
