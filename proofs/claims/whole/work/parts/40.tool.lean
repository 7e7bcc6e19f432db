/-! pure tools: numbers, memory, frames -/
theorem lit_nI (c : Nat) : (no_index (OfNat.ofNat c) : Int32) = nI c := rfl
theorem lit_m1 : (-1 : Int32) = -nI 1 := rfl
theorem nI_inj {a b : Nat} (ha : a < 2 ^ 31) (hb : b < 2 ^ 31) : nI a = nI b ↔ a = b := nI_eq ha hb
theorem nI_ne_m1 {a : Nat} (ha : a < 2 ^ 31) : ¬ nI a = (-1 : Int32) := fun h => by
  have h1 := nI_toInt ha
  rw [h] at h1
  have h2 : ((-1 : Int32)).toInt = -1 := rfl
  omega
theorem m1_ne_nI {a : Nat} (ha : a < 2 ^ 31) : ¬ (-1 : Int32) = nI a := fun h => nI_ne_m1 ha h.symm
theorem ib_nI {a n : Nat} (ha : a < 2 ^ 31) : ib (nI a) n = decide (a < n) := by
  unfold ib
  rw [nI_toInt ha]
  simp
theorem gd_t {ρ : Type} {b : Bool} {o : Option ρ} (h : b = true) : gd b o = o := by rw [h]; rfl
theorem gd_true {ρ : Type} {o : Option ρ} : gd true o = o := rfl
theorem gd_dec {ρ : Type} {p : Prop} [Decidable p] {o : Option ρ} (h : p) : gd (decide p) o = o := by rw [decide_eq_true h]; rfl
theorem gI_pI_ne {σ : jM} {c i c' i' : Nat} {v : Int32} (h : c' ≠ c) : gI (pI σ c i v) c' i' = gI σ c' i' := by simp [gI, pI, h]
theorem gI_pI_cell {σ : jM} {c i i' : Nat} {v : Int32} : gI (pI σ c i v) c i' = if i' = i then v else gI σ c i' := by simp [gI, pI, upd]
theorem gI_pI_eq {σ : jM} {c i : Nat} {v : Int32} : gI (pI σ c i v) c i = v := by simp [gI, pI, upd]
theorem gI_pL {σ : jM} {c i c' i' : Nat} {v : Int64} : gI (pL σ c i v) c' i' = gI σ c' i' := rfl
theorem gL_pI {σ : jM} {c i c' i' : Nat} {v : Int32} : gL (pI σ c i v) c' i' = gL σ c' i' := rfl
theorem gL_pL_ne {σ : jM} {c i c' i' : Nat} {v : Int64} (h : c' ≠ c) : gL (pL σ c i v) c' i' = gL σ c' i' := by simp [gL, pL, h]
theorem gL_pL_cell {σ : jM} {c i i' : Nat} {v : Int64} : gL (pL σ c i v) c i' = if i' = i then v else gL σ c i' := by simp [gL, pL, vp_updL]
theorem gL_pL_eq {σ : jM} {c i : Nat} {v : Int64} : gL (pL σ c i v) c i = v := by simp [gL, pL, vp_updL]
theorem gC_gI (σ : jM) (c i : Nat) : gC σ c i = vp_nar .char (gI σ c i) := rfl
/-- only the cells of a list may differ -/
def FrL (l : List Nat) (s t : jM) : Prop := ∀ c, c ∉ l → t.1 c = s.1 c ∧ t.2 c = s.2 c
theorem FrL.rf {l : List Nat} {s : jM} : FrL l s s := fun _ _ => ⟨rfl, rfl⟩
theorem fr_gI {l : List Nat} {s t : jM} (h : FrL l s t) {c i : Nat} (hc : c ∉ l) : gI t c i = gI s c i := by simp only [gI, (h c hc).1]
theorem fr_gC {l : List Nat} {s t : jM} (h : FrL l s t) {c i : Nat} (hc : c ∉ l) : gC t c i = gC s c i := by simp only [gC, (h c hc).1]
theorem fr_gL {l : List Nat} {s t : jM} (h : FrL l s t) {c i : Nat} (hc : c ∉ l) : gL t c i = gL s c i := by simp only [gL, (h c hc).2]
theorem fr_tr {l : List Nat} {s t u : jM} (h1 : FrL l s t) (h2 : FrL l t u) : FrL l s u := fun c hc => ⟨((h2 c hc).1).trans (h1 c hc).1, ((h2 c hc).2).trans (h1 c hc).2⟩
theorem fr_mono {l l' : List Nat} {s t : jM} (h : FrL l s t) (hs : ∀ c ∈ l, c ∈ l') : FrL l' s t := fun c hc => h c fun q => hc (hs c q)
theorem fr_pI {l : List Nat} {s t : jM} (h : FrL l s t) {c i : Nat} {v : Int32} (hc : c ∈ l) : FrL l s (pI t c i v) := fun a ha => by
  have e : ¬ a = c := fun e => ha (e ▸ hc)
  exact ⟨by simp only [pI, if_neg e]; exact (h a ha).1, (h a ha).2⟩
theorem fr_pL {l : List Nat} {s t : jM} (h : FrL l s t) {c i : Nat} {v : Int64} (hc : c ∈ l) : FrL l s (pL t c i v) := fun a ha => by
  have e : ¬ a = c := fun e => ha (e ▸ hc)
  exact ⟨(h a ha).1, by simp only [pL, if_neg e]; exact (h a ha).2⟩
theorem vch {n : Nat} (h : n < 65536) : vp_nar .char (nI n) = nI n := by
  have h1 := (pk_charN h).1
  simp only [vp_nar, h1]
theorem i2c_nI {n : Nat} (h : n < 65536) : ((nI n).toUInt32 % 65536).toInt32 = nI n := by
  rw [pk_char, pk_tn (by omega), Nat.mod_eq_of_lt h]
theorem opt_b {α β : Type} {o : Option α} {r : α} {f : α → Option β} (h : o = some r) : o.bind f = f r := by rw [h]; rfl
theorem c_le {c a : Nat} (hc : (OfNat.ofNat c : Nat) < 2 ^ 31) (ha : a < 2 ^ 31) : ((no_index (OfNat.ofNat c) : Int32) ≤ nI a) ↔ (OfNat.ofNat c : Nat) ≤ a := nI_leI hc ha
theorem le_c {c a : Nat} (hc : (OfNat.ofNat c : Nat) < 2 ^ 31) (ha : a < 2 ^ 31) : (nI a ≤ (no_index (OfNat.ofNat c) : Int32)) ↔ a ≤ (OfNat.ofNat c : Nat) := nI_leI ha hc
theorem c_lt {c a : Nat} (hc : (OfNat.ofNat c : Nat) < 2 ^ 31) (ha : a < 2 ^ 31) : ((no_index (OfNat.ofNat c) : Int32) < nI a) ↔ (OfNat.ofNat c : Nat) < a := nI_ltI hc ha
theorem lt_c {c a : Nat} (hc : (OfNat.ofNat c : Nat) < 2 ^ 31) (ha : a < 2 ^ 31) : (nI a < (no_index (OfNat.ofNat c) : Int32)) ↔ a < (OfNat.ofNat c : Nat) := nI_ltI ha hc
theorem eq_c {c a : Nat} (hc : (OfNat.ofNat c : Nat) < 2 ^ 31) (ha : a < 2 ^ 31) : (nI a = (no_index (OfNat.ofNat c) : Int32)) ↔ a = (OfNat.ofNat c : Nat) := nI_eq ha hc
