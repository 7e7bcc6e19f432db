/-! new cells -/
def upN {α : Type} (f : Nat → α) (n : Nat) (v : α) : Nat → α := fun k => if k = n then v else f k
def zM (σ : jM) (n : Nat) : jM := (fun a => if a = n then (fun _ => 0) else σ.1 a, fun a => if a = n then (fun _ => 0) else σ.2 a)
def okR (n r : Nat) : Bool := decide (r < n) || decide (1000 ≤ r)
def okS (n : Nat) : jS → Bool
  | some (some (some r)) => okR n r
  | _ => true
def okC (n : Nat) : jC → Bool
  | .inl _ => true
  | .inr q => q.2.all (okS n)
def okV (n : Nat) : Value → Bool
  | .ref r => okR n r
  | _ => true
def okL (n : Nat) : Option Value → Bool
  | some v => okV n v
  | none => true
theorem okR_of {n r : Nat} (h : okR n r = true) : r < n ∨ 1000 ≤ r := by simpa [okR] using h
theorem ceE_re {n : Nat} {ad ad' : Nat → Nat} {ca ca' : Nat → ClassId} {σ σ' : jM} {j : Nat} {c : jC} (ha : ∀ k, (k < n ∨ 1000 ≤ k) → ad' k = ad k) (hc : ca' j = ca j) (hk : okC n c = true) (h1 : σ'.1 j = σ.1 j) (h2 : σ'.2 j = σ.2 j) : ceE ad' ca' σ' j c = ceE ad ca σ j c := by
  cases c with
  | inl q =>
    obtain ⟨ty, m⟩ := q
    simp only [ceE, hc]
    congr 2
    cases ty <;> simp [arA, h1, h2]
  | inr q =>
    simp only [ceE]
    congr 2
    apply List.ext_getElem?
    intro i
    rw [List.getElem?_mapIdx, List.getElem?_mapIdx]
    cases hd : q.2[i]? with
    | none => rfl
    | some d =>
      simp only [Option.map_some, Option.some.injEq]
      have hok := List.all_eq_true.mp (show q.2.all (okS n) = true from hk) d (List.mem_of_getElem? hd)
      rcases d with _ | _ | _ | r
      · simp [slV, h1]
      · simp [slV, h2]
      · rfl
      · simp only [slV]
        rw [ha r (okR_of hok)]
theorem wsG_re {n : Nat} {G G' : jG} {Sh : List jC} {σ σ' : jM} (hn : Sh.length = n) (ha : ∀ k, (k < n ∨ 1000 ≤ k) → G'.2.1 k = G.2.1 k) (hc : ∀ k, k < n → G'.2.2 k = G.2.2 k) (hk : Sh.all (okC n) = true) (h1 : ∀ j, j < n → σ'.1 j = σ.1 j) (h2 : ∀ j, j < n → σ'.2 j = σ.2 j) : wsG G' Sh σ' = wsG G Sh σ := by
  apply List.ext_getElem?
  intro j
  unfold wsG
  rw [List.getElem?_mapIdx, List.getElem?_mapIdx]
  cases hd : Sh[j]? with
  | none => rfl
  | some c =>
    have hj : j < n := by rw [← hn]; exact (List.getElem?_eq_some_iff.mp hd).1
    simp only [Option.map_some, Option.some.injEq]
    rw [ha j (Or.inl hj), ceE_re ha (hc j hj) (List.all_eq_true.mp hk c (List.mem_of_getElem? hd)) (h1 j hj) (h2 j hj)]
theorem wsG_snoc {G : jG} {Sh : List jC} {σ : jM} {c : jC} : wsG G (Sh ++ [c]) σ = wsG G Sh σ ++ [(G.2.1 Sh.length, ceE G.2.1 G.2.2 σ Sh.length c)] := by
  unfold wsG
  rw [List.mapIdx_append]
  simp
theorem rnV_re {n : Nat} {ad ad' : Nat → Nat} (ha : ∀ k, (k < n ∨ 1000 ≤ k) → ad' k = ad k) {v : Value} (h : okV n v = true) : rnV ad' v = rnV ad v := by
  cases v with
  | ref r => simp only [rnV]; rw [ha r (okR_of h)]
  | _ => rfl
theorem LV.re {n : Nat} {ad ad' : Nat → Nat} {lsA : Array Slot} {nL : Nat} {ls : List (Option Value)} (ha : ∀ k, (k < n ∨ 1000 ≤ k) → ad' k = ad k) (hk : ls.all (okL n) = true) (h : LV ad lsA nL ls) : LV ad' lsA nL ls := by
  refine ⟨h.1, h.2.1, fun i v hi => ?_⟩
  rw [rnV_re ha (List.all_eq_true.mp hk _ (List.mem_of_getElem? hi))]
  exact h.2.2 i v hi
theorem map_re {n : Nat} {ad ad' : Nat → Nat} {st : List Value} (ha : ∀ k, (k < n ∨ 1000 ≤ k) → ad' k = ad k) (hk : st.all (okV n) = true) : st.map (rnV ad') = st.map (rnV ad) := List.map_congr_left fun v hv => rnV_re ha (List.all_eq_true.mp hk v hv)
def dS : FieldType → jS
  | .long => some none
  | .object _ => some (some none)
  | .array _ => some (some none)
  | _ => none
def okT : FieldType → Bool
  | .float => false
  | .double => false
  | _ => true
def okCx (Cx : jG → State → (Nat → Prop) → Prop) : Prop := ∀ (G G' : jG) (s : State) (A : Nat → Prop), (∀ k, 1000 ≤ k → G'.2.1 k = G.2.1 k) → Cx G s A → Cx G' s A
theorem noCx_ok : okCx noCx := fun _ _ _ _ _ _ => trivial
theorem jAg.step {n n1 n' : Nat} {G G1 G' : jG} (hn : n < n1) (h1 : G1.1 = G.1) (h2 : ∀ k, (k < n ∨ 1000 ≤ k) → G1.2.1 k = G.2.1 k) (h3 : ∀ k, k < n → G1.2.2 k = G.2.2 k) (h : jAg n1 n' G1 G') : jAg n n' G G' :=
  ⟨h.1.trans h1, fun k hk => (h.2.1 k (hk.imp (fun q => by omega) id)).trans (h2 k hk), fun k hk => (h.2.2.1 k (by omega)).trans (h3 k hk), by have := h.2.2.2.1; omega, fun e => absurd e (by have := h.2.2.2.1; omega)⟩
section Alloc
variable {l : Launch} {own : String} {cc : ByteArray} {nL : Nat} {ret : Option FieldType} {ini : Bool} {R : Room} {Cx : jG → State → (Nat → Prop) → Prop} {ρ : Type} {enc : ρ → jR} {Sh : List jC} {k n : Nat} {σ : jM} {pc : Nat} {ls : List (Option Value)} {rest : List Value} {o o2 : Option ρ}
theorem J_new {idx ci N a : Nat} {cn : String} {T : u_T} {sl : List jS} {Sh2 : List jC} {f : jM → Option ρ} (hd : decode cc pc = .ok (.new idx, 3)) (hc : vwCl[ci]? = some (cn, T, N)) (hu : ∀ w ∈ u_ws cn T N, w ∈ TBW) (ty : Nat → FieldType) (hty : ∀ j, j < N → parseFieldDescriptor (T j).2.2.1 = some (ty j))
    (hlk : Cond.classLink own idx cn ∈ TBW) (hin : Cond.instantiable cn N ∈ TBW) (hini : Cond.initialized cn ∈ TBW) (hsl : ∀ j, j < N → sl[j]? = some (dS (ty j)) ∧ okT (ty j) = true) (hcx : okCx Cx) (ha : Sh.length = a) (ha9 : a < 1000) (h2 : Sh ++ [.inr (ci, sl)] = Sh2) (hsl2 : okC a (.inr (ci, sl)) = true) (hk1 : Sh.all (okC a) = true) (hk2 : ls.all (okL a) = true) (hk3 : rest.all (okV a) = true)
    (hrm : k + 1 ≤ R.cells ∧ n + N ≤ R.slots) (kk : ∀ y : jM, J l own cc nL ret ini R Cx enc Sh2 (k + 1) (n + N) y (pc + 3) ls (.ref a :: rest) (f y)) : J l own cc nL ret ini R Cx enc Sh k n σ pc ls rest (lt_ (zM σ a) f) := by
  intro res h p e s m args below meth c G A Q H locs lsA C K hW hS hl
  have hts := C.2.2.2.2.2.1
  refine va_new (ci := ci) (fs := sl.mapIdx (fun i d => slV G.2.1 (zM σ a) a i d)) C.1 C.2.1 hts hu ty hty C.2.2.2.2.1 (hts _ hlk) (hts _ hin) (hts _ hini) hW.2.1 hW.1 hW.2.2.1 hS C.2.2.2.2.2.2.2.2.2.2 hc (fun j hj => ?_) hrm.1 hrm.2 hd (fun q H1 hP1 hD1 hS1 => ?_)
  · obtain ⟨e1, e2⟩ := hsl j hj
    unfold vp_V
    rw [List.getD_eq_getElem?_getD, List.getElem?_mapIdx, e1]
    cases hty2 : ty j <;> rw [hty2] at e2 <;> simp [dS, slV, zM, defaultValue, okT] at e2 ⊢
  · have ra : ∀ k, (k < a ∨ 1000 ≤ k) → upN G.2.1 a q k = G.2.1 k := fun k hk => if_neg (by omega)
    have E : wsG (G.1, upN G.2.1 a q, G.2.2) Sh2 (zM σ a) = wsG G Sh σ ++ [(q, .inr (ci, sl.mapIdx (fun i d => slV G.2.1 (zM σ a) a i d)))] := by
      rw [← h2, wsG_snoc, wsG_re (G := G) (G' := (G.1, upN G.2.1 a q, G.2.2)) (σ := σ) (σ' := zM σ a) ha ra (fun _ _ => rfl) hk1 (fun j hj => if_neg (show ¬ j = a by omega)) (fun j hj => if_neg (show ¬ j = a by omega)), ha]
      congr 3
      · exact if_pos rfl
      · rw [ceE_re (n := a) (ad := G.2.1) (ca := G.2.2) (σ := zM σ a) ra rfl hsl2 rfl rfl]
        rfl
    have hT : ∀ (k : Nat) (ty : FieldType) (n : Nat), Sh2[k]? = some (.inl (ty, n)) → ArrOfT s (G.2.2 k) ty ∧ va_RA s (G.2.2 k) ty := by
      intro k ty n hk
      rw [← h2] at hk
      by_cases hlt : k < Sh.length
      · rw [List.getElem?_append_left hlt] at hk
        exact hW.2.2.2 k ty n hk
      · rw [List.getElem?_append_right (by omega)] at hk
        cases hz : k - Sh.length with
        | zero => rw [hz] at hk; cases hk
        | succ z => rw [hz] at hk; cases hk
    have k1 := kk (zM σ a) res h p e s m args below meth c (G.1, upN G.2.1 a q, G.2.2) A Q H1 locs lsA
      ⟨C.1, C.2.1, C.2.2.1, C.2.2.2.1, C.2.2.2.2.1, hts, C.2.2.2.2.2.2.1, C.2.2.2.2.2.2.2.1, WEnv.re (fun k hk => ra k (Or.inr hk)) C.2.2.2.2.2.2.2.2.1, hcx _ _ _ _ (fun k hk => ra k (Or.inr hk)) C.2.2.2.2.2.2.2.2.2.1, C.2.2.2.2.2.2.2.2.2.2⟩
      (fun G' H' locs' pc' lsA' hag hw' hs' hr' => K G' H' locs' pc' lsA' (by
        rw [← h2, List.length_append] at hag
        exact jAg.step (G1 := (G.1, upN G.2.1 a q, G.2.2)) (Nat.lt_succ_self _) rfl (by rw [ha]; exact ra) (fun _ _ => rfl) hag) hw' hs' hr')
      ⟨by rw [E]; exact hP1, hW.2.1, by rw [E]; exact hD1, hT⟩ hS1 (hl.re ra hk2)
    rw [List.map_cons, map_re (ad := G.2.1) ra hk3] at k1
    have ea : rnV (upN G.2.1 a q) (.ref a) = .ref q := by simp [rnV, upN]
    rw [ea] at k1
    exact k1
theorem J_newarr {a N : Nat} {x : Int32} {at_ : ArrayType} {ty : FieldType} {Sh2 : List jC} {f : jM → Option ρ} (hd : decode cc pc = .ok (.newarray at_, 2)) (hty : newarray.typeOf at_ = ty) (hcl : Cond.arrayClass ty ∈ TBW) (hty2 : ty = .int ∨ ty = .long ∨ ty = .char ∨ ty = .boolean) (hx : ¬ x < 0) (hN : x.toNatClampNeg = N) (hby : N * componentBytes ty ≤ 536870912) (hcx : okCx Cx) (ha : Sh.length = a) (ha9 : a < 1000) (h2 : Sh ++ [.inl (ty, N)] = Sh2) (hk1 : Sh.all (okC a) = true) (hk2 : ls.all (okL a) = true) (hk3 : rest.all (okV a) = true)
    (hrm : k + 1 ≤ R.cells ∧ n + N ≤ R.slots) (kk : ∀ y : jM, J l own cc nL ret ini R Cx enc Sh2 (k + 1) (n + N) y (pc + 2) ls (.ref a :: rest) (f y)) : J l own cc nL ret ini R Cx enc Sh k n σ pc ls (.int x :: rest) (lt_ (zM σ a) f) := by
  intro res h p e s m args below meth c G A Q H locs lsA C K hW hS hl
  have hts := C.2.2.2.2.2.1
  subst hty
  refine va_newa (a0 := arA (zM σ a) a N (newarray.typeOf at_)) C.1 C.2.1 (hts _ hcl) rfl hW.2.1 hW.1 hW.2.2.1 hS C.2.2.2.2.2.2.2.2.2.2 (fun cA => ?_) hx hN hby hrm.1 hrm.2 hd (fun q cA H1 hK1 hP1 hD1 hS1 => ?_)
  · rcases hty2 with e | e | e | e <;> rw [e] <;> simp only [arA, zM, if_true] <;> rfl
  · have ra : ∀ k, (k < a ∨ 1000 ≤ k) → upN G.2.1 a q k = G.2.1 k := fun k hk => if_neg (by omega)
    have rc : ∀ k, k < a → upN G.2.2 a cA k = G.2.2 k := fun k hk => if_neg (by omega)
    have ec : upN G.2.2 a cA a = cA := if_pos rfl
    have E : wsG (G.1, upN G.2.1 a q, upN G.2.2 a cA) Sh2 (zM σ a) = wsG G Sh σ ++ [(q, .inl (cA, arA (zM σ a) a N (newarray.typeOf at_)))] := by
      rw [← h2, wsG_snoc, wsG_re (G := G) (G' := (G.1, upN G.2.1 a q, upN G.2.2 a cA)) (σ := σ) (σ' := zM σ a) ha ra rc hk1 (fun j hj => if_neg (show ¬ j = a by omega)) (fun j hj => if_neg (show ¬ j = a by omega)), ha]
      congr 3
      · exact if_pos rfl
      · simp only [ceE, ec]
    have hT : ∀ (k : Nat) (ty : FieldType) (n : Nat), Sh2[k]? = some (.inl (ty, n)) → ArrOfT s (upN G.2.2 a cA k) ty ∧ va_RA s (upN G.2.2 a cA k) ty := by
      intro k ty n hk
      rw [← h2] at hk
      by_cases hlt : k < Sh.length
      · rw [List.getElem?_append_left hlt] at hk
        rw [rc k (by omega)]
        exact hW.2.2.2 k ty n hk
      · rw [List.getElem?_append_right (by omega)] at hk
        cases hz : k - Sh.length with
        | zero =>
          rw [hz] at hk
          cases hk
          have e3 : k = a := by omega
          rw [e3, ec]
          exact hK1.2 0 (cA, newarray.typeOf at_) rfl
        | succ z => rw [hz] at hk; cases hk
    have k1 := kk (zM σ a) res h p e s m args below meth c (G.1, upN G.2.1 a q, upN G.2.2 a cA) A Q H1 locs lsA
      ⟨C.1, C.2.1, C.2.2.1, C.2.2.2.1, C.2.2.2.2.1, hts, C.2.2.2.2.2.2.1, C.2.2.2.2.2.2.2.1, WEnv.re (fun k hk => ra k (Or.inr hk)) C.2.2.2.2.2.2.2.2.1, hcx _ _ _ _ (fun k hk => ra k (Or.inr hk)) C.2.2.2.2.2.2.2.2.2.1, C.2.2.2.2.2.2.2.2.2.2⟩
      (fun G' H' locs' pc' lsA' hag hw' hs' hr' => K G' H' locs' pc' lsA' (by
        rw [← h2, List.length_append] at hag
        exact jAg.step (G1 := (G.1, upN G.2.1 a q, upN G.2.2 a cA)) (Nat.lt_succ_self _) rfl (by rw [ha]; exact ra) (by rw [ha]; exact rc) hag) hw' hs' hr')
      ⟨by rw [E]; exact hP1, ⟨hW.2.1.1, fun _ _ h => by cases h⟩, by rw [E]; exact hD1, hT⟩ hS1 (hl.re ra hk2)
    rw [List.map_cons, map_re (ad := G.2.1) ra hk3] at k1
    have ea : rnV (upN G.2.1 a q) (.ref a) = .ref q := by simp [rnV, upN]
    rw [ea] at k1
    exact k1
/-- a reference is put: the shape changes -/
theorem J_putR {idx a ci q r : Nat} {fin : Bool} {ty : FieldType} {sl : List jS} {d0 : jS} {Sh2 : List jC} (hd : decode cc pc = .ok (.putfield idx, 3)) (f : FP own idx ci q fin ty) (hfin : fin = true → ini = true) (h1 : Sh[a]? = some (.inr (ci, sl))) (hq : sl[q]? = some d0) (h2 : Sh.set a (.inr (ci, sl.set q (some (some (some r))))) = Sh2) (hn : ∀ x, narrow ty (.ref x) = .ref x) (hft : ∀ x, fits ty (.ref x) = true)
    (kk : J l own cc nL ret ini R Cx enc Sh2 k n σ (pc + 3) ls rest o) : J l own cc nL ret ini R Cx enc Sh k n σ pc ls (.ref r :: .ref a :: rest) o := by
  intro res h p e s m args below meth c G A Q H locs lsA C K hW hS hl
  obtain ⟨cn, T, N, hc, hin, hk, hlink, ⟨ty0, hty⟩, hnm, hf, hdt, hdecl⟩ := f
  have he := wsG_at (G := G) (σ := σ) h1
  have hla : a < Sh.length := (List.getElem?_eq_some_iff.mp h1).1
  have hlen : q < (sl.mapIdx (fun i d => slV G.2.1 σ a i d)).length := by rw [List.length_mapIdx]; exact (List.getElem?_eq_some_iff.mp hq).1
  have hlsl : q < sl.length := (List.getElem?_eq_some_iff.mp hq).1
  have E : (wsG G Sh σ).set a (G.2.1 a, .inr (ci, (sl.mapIdx (fun i d => slV G.2.1 σ a i d)).set q (.ref (G.2.1 r)))) = wsG G Sh2 σ := by
    rw [← h2]
    apply List.ext_getElem?
    intro j
    have hlw : a < (wsG G Sh σ).length := by unfold wsG; rw [List.length_mapIdx]; exact hla
    by_cases hj : a = j
    · subst hj
      rw [List.getElem?_set_self hlw, wsG_at (List.getElem?_set_self hla)]
      simp only [ceE, Option.some.injEq, Prod.mk.injEq, true_and]
      congr 2
      apply List.ext_getElem?
      intro i
      by_cases hi : q = i
      · subst hi
        rw [List.getElem?_set_self hlen, List.getElem?_mapIdx, List.getElem?_set_self hlsl]
        rfl
      · rw [List.getElem?_set_ne hi, List.getElem?_mapIdx, List.getElem?_mapIdx, List.getElem?_set_ne hi]
    · rw [List.getElem?_set_ne hj]
      unfold wsG
      rw [List.getElem?_mapIdx, List.getElem?_mapIdx, List.getElem?_set_ne hj]
  have hT : ∀ (k : Nat) (ty : FieldType) (n : Nat), Sh2[k]? = some (.inl (ty, n)) → ArrOfT s (G.2.2 k) ty ∧ va_RA s (G.2.2 k) ty := by
    intro j ty n hj
    rw [← h2] at hj
    by_cases hja : a = j
    · subst hja
      rw [List.getElem?_set_self hla] at hj
      cases hj
    · rw [List.getElem?_set_ne hja] at hj
      exact hW.2.2.2 j ty n hj
  have fin2 : ∀ (H1 : Heap) (locs1 : List Loc), va_P G.1 vwCl ((wsG G Sh σ).set a (G.2.1 a, .inr (ci, (sl.mapIdx (fun i d => slV G.2.1 σ a i d)).set q (.ref (G.2.1 r))))) H1 → va_D A ((wsG G Sh σ).set a (G.2.1 a, .inr (ci, (sl.mapIdx (fun i d => slV G.2.1 σ a i d)).set q (.ref (G.2.1 r))))) → va_S A s.heap H1 locs1 → W p l e R s m args below meth c H1 locs1 k n Q (F0 m (pc + 3) lsA (rest.map (rnV G.2.1))) := by
    intro H1 locs1 hP1 hD1 hS1
    rw [E] at hP1 hD1
    exact kk res h p e s m args below meth c G A Q H1 locs1 lsA C (fun G' H' locs' pc' lsA' hag hw' hs' hr' => K G' H' locs' pc' lsA' (by
      rw [← h2, List.length_set] at hag
      exact hag) hw' hs' hr') ⟨hP1, hW.2.1, hD1, hT⟩ hS1 hl
  cases fin with
  | false =>
    rcases hlink with hlink | ⟨-, host, hlink⟩
    · exact va_put C.1 C.2.1 C.2.2.2.2.2.1 hin ty0 hty hnm C.2.2.2.2.1 hW.2.1 hW.1 hW.2.2.1 hS a he hc q hk (C.2.2.2.2.2.1 _ hlink) (fun _ h => h) hf hdt (hn _) (hft _) hlen hd fin2
    · exact va_putN C.1 C.2.1 C.2.2.2.2.2.1 hin ty0 hty hnm C.2.2.2.2.1 hW.2.1 hW.1 hW.2.2.1 hS a he hc q hk (va_Nw.use rfl (C.2.2.2.2.2.2.2.2.1.1 _ hlink)) (fun _ h => h) hf hdt (hn _) (hft _) hlen hd fin2
  | true =>
    rcases hlink with hlink | ⟨hz, -⟩
    · exact va_putF C.1 C.2.1 C.2.2.2.2.2.1 hin ty0 hty hnm C.2.2.2.2.1 hW.2.1 hW.1 hW.2.2.1 hS a he hc q hk (C.2.2.2.2.2.1 _ hlink) (fun _ h => h) hf (C.2.2.2.2.2.2.2.1 (hfin rfl)) (hdecl rfl) hdt (hn _) (hft _) hlen hd fin2
    · cases hz
theorem J_objI {idx a : Nat} (hd : decode cc pc = .ok (.invokespecial idx, 3)) (hlk : Cond.methodLink own idx Lib.objectInit ∈ TBW) (hin : Cond.instanceMethod Lib.objectInit ∈ TBW) (hcd : Cond.code Lib.objectInit ⟨#[0xb1]⟩ 1 none ∈ TBW) (hR : 1 ≤ R.frames ∧ (rest.map fun v => v.category).sum + 12 ≤ R.locals)
    (kk : J l own cc nL ret ini R Cx enc Sh k n σ (pc + 3) ls rest o) : J l own cc nL ret ini R Cx enc Sh k n σ pc ls (.ref a :: rest) o := fun res h p e s m args below meth c G A Q H locs lsA C K hW hS hl =>
  W.objInit C.1 C.2.1 C.2.2.2.2.1 (C.2.2.2.2.2.1 _ hlk) (C.2.2.2.2.2.1 _ hin) (C.2.2.2.2.2.1 _ hcd) rfl (hl.1.trans C.2.2.1.symm) rfl hd hR.1 (by show 2 * 0 + _ + 12 ≤ _; rw [map_cat]; omega) (kk res h p e s m args below meth c G A Q H locs lsA C K hW hS hl)
/-- a constructor is called: it may make cells -/
theorem J_callI {ρ' : Type} {enc' : ρ' → jR} {o' : Option ρ'} {f : ρ' → Option ρ} {st : List Value} {y : MethodName} {b : ByteArray} {mL nA idx d mc ms : Nat} {Sh2 : List jC} {sg : ρ' → jM} (a : Nat) (as : List Value) (hd : decode cc pc = .ok (.invokespecial idx, 3)) (hc : Cal y b mL none nA) (hl : Lnk own idx y) (hin : Cond.instanceMethod y ∈ TBW) (hy1 : y.name = "<init>") (hst0 : as.reverse ++ .ref a :: rest = st) (hn : as.length = nA) (hR : d + 1 ≤ R.frames ∧ 19 + mL + 64 * d ≤ R.locals) (hcat : (rest.map fun v => v.category).sum ≤ 8) (hkn : k + mc ≤ R.cells ∧ n + ms ≤ R.slots)
    (hcon : Con l d y b mL none enc' Sh (.ref a :: as) σ o') (henc : ∀ r, enc' r = (none, sg r, Sh2, mc, ms)) (hcx : okCx Cx) (hk2 : ls.all (okL Sh.length) = true) (hk3 : rest.all (okV Sh.length) = true) (hsl : Sh.length ≤ Sh2.length)
    (kk : ∀ r, o' = some r → J l own cc nL ret ini R Cx enc Sh2 (k + mc) (n + ms) (sg r) (pc + 3) ls rest (f r)) : J l own cc nL ret ini R Cx enc Sh k n σ pc ls st (o'.bind f) := by
  intro res h p e s m args below meth c G A Q H locs lsA C K hW hS hlv
  cases ho : o' with
  | none => rw [ho] at h; cases h
  | some r =>
    rw [ho] at h
    have hM := hcon r ho G H.size
    have k1 := kk r ho res h p e s m args below meth c
    rw [henc r] at hM
    subst hst0
    rw [map_rev_app]
    refine jv_call (run_I (a := G.2.1 a) C hM hc hl hin hy1 ⟨conP_blind, fun U hU hw => conP_at (as := .ref a :: as) C.2.2.2.2.2.2.2.2.1 hW hS C.2.2.2.2.2.2.2.2.2.2 hU hw⟩ (by rw [List.length_map]; exact hn) hlv.1 hR (by rw [map_cat]; exact hcat) hkn hd) hW hS C.2.2.2.2.2.2.2.2.2.2 (fun G' H1 locs1 hag hW1 hS1 => ?_)
    have k2 := k1 G' A Q H1 locs1 lsA
      ⟨C.1, C.2.1, C.2.2.1, C.2.2.2.1, C.2.2.2.2.1, C.2.2.2.2.2.1, C.2.2.2.2.2.2.1, C.2.2.2.2.2.2.2.1, WEnv.re (fun k hk => hag.2.1 k (Or.inr hk)) C.2.2.2.2.2.2.2.2.1, hcx _ _ _ _ (fun k hk => hag.2.1 k (Or.inr hk)) C.2.2.2.2.2.2.2.2.2.1, C.2.2.2.2.2.2.2.2.2.2⟩
      (fun G2 H' locs' pc' lsA' hag2 hw' hs' hr' => K G2 H' locs' pc' lsA' (by
        rcases Nat.lt_or_ge Sh.length Sh2.length with hlt | hge
        · exact jAg.step hlt hag.1 hag.2.1 hag.2.2.1 hag2
        · have e1 : Sh2.length = Sh.length := by omega
          have e2 := hag.2.2.2.2 e1
          subst e2
          rw [← e1]
          exact hag2) hw' hs' hr') hW1 hS1 (hlv.re hag.2.1 hk2)
    rw [map_re (ad := G.2.1) hag.2.1 hk3] at k2
    exact k2
end Alloc
