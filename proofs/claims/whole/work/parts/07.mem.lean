/-! fields and arrays -/
def shO (Sh : List jC) (a k : Nat) : Option (Nat × jS) := match Sh[a]? with
  | some (.inr q) => (q.2[k]?).map (fun d => (q.1, d))
  | _ => none
def shA (Sh : List jC) (a : Nat) : Option (FieldType × Nat) := match Sh[a]? with
  | some (.inl q) => some q
  | _ => none
theorem shO_of {Sh : List jC} {a k ci : Nat} {d : jS} (h : shO Sh a k = some (ci, d)) : ∃ sl : List jS, Sh[a]? = some (.inr (ci, sl)) ∧ sl[k]? = some d := by
  unfold shO at h
  split at h
  next q hq =>
    cases hd : q.2[k]? with
    | none => rw [hd] at h; cases h
    | some d0 =>
      rw [hd] at h
      cases h
      exact ⟨q.2, hq, hd⟩
  next => cases h
theorem shA_of {Sh : List jC} {a : Nat} {q : FieldType × Nat} (h : shA Sh a = some q) : Sh[a]? = some (.inl q) := by
  unfold shA at h
  split at h
  next q0 hq => cases h; exact hq
  next => cases h
theorem ceE_cg {ad : Nat → Nat} {ca : Nat → ClassId} {σ σ' : jM} {j : Nat} {c : jC} (h1 : σ'.1 j = σ.1 j) (h2 : σ'.2 j = σ.2 j) : ceE ad ca σ' j c = ceE ad ca σ j c := by
  cases c with
  | inl q =>
    obtain ⟨ty, n⟩ := q
    simp only [ceE]
    congr 2
    cases ty <;> simp [arA, h1, h2]
  | inr q =>
    simp only [ceE]
    congr 2
    apply List.ext_getElem?
    intro i
    rw [List.getElem?_mapIdx, List.getElem?_mapIdx]
    cases q.2[i]? with
    | none => rfl
    | some d =>
      simp only [Option.map_some, Option.some.injEq]
      rcases d with _ | _ | _ | r <;> simp [slV, h1, h2]
theorem wsG_set {G : jG} {Sh : List jC} {σ σ' : jM} {a : Nat} {c : jC} {e : va_E} (hc : Sh[a]? = some c) (h1 : ∀ j, j ≠ a → σ'.1 j = σ.1 j) (h2 : ∀ j, j ≠ a → σ'.2 j = σ.2 j) (he : e = ceE G.2.1 G.2.2 σ' a c) : (wsG G Sh σ).set a (G.2.1 a, e) = wsG G Sh σ' := by
  apply List.ext_getElem?
  intro j
  have hl : a < (wsG G Sh σ).length := by
    unfold wsG
    rw [List.length_mapIdx]
    exact (List.getElem?_eq_some_iff.mp hc).1
  by_cases hj : a = j
  · subst hj
    rw [List.getElem?_set_self hl, wsG_at hc, he]
  · rw [List.getElem?_set_ne hj]
    unfold wsG
    rw [List.getElem?_mapIdx, List.getElem?_mapIdx]
    cases Sh[j]? with
    | none => rfl
    | some c2 =>
      simp only [Option.map_some]
      rw [ceE_cg (h1 j (fun e => hj e.symm)) (h2 j (fun e => hj e.symm))]
theorem wsG_setI {G : jG} {Sh : List jC} {σ : jM} {a k ci : Nat} {sl : List jS} {v : Int32} (hc : Sh[a]? = some (.inr (ci, sl))) (hk : sl[k]? = some none) : (wsG G Sh σ).set a (G.2.1 a, .inr (ci, (sl.mapIdx (fun i d => slV G.2.1 σ a i d)).set k (.int v))) = wsG G Sh (pI σ a k v) := by
  refine wsG_set hc (fun j hj => by simp [pI, hj]) (fun j hj => rfl) ?_
  simp only [ceE]
  congr 2
  apply List.ext_getElem?
  intro i
  have hl : k < (sl.mapIdx (fun i d => slV G.2.1 σ a i d)).length := by
    rw [List.length_mapIdx]
    exact (List.getElem?_eq_some_iff.mp hk).1
  by_cases hj : k = i
  · subst hj
    rw [List.getElem?_set_self hl, List.getElem?_mapIdx, hk]
    simp [slV, pI, upd]
  · rw [List.getElem?_set_ne hj, List.getElem?_mapIdx, List.getElem?_mapIdx]
    cases sl[i]? with
    | none => rfl
    | some d =>
      simp only [Option.map_some, Option.some.injEq]
      have hji : ¬ i = k := fun e => hj e.symm
      rcases d with _ | _ | _ | r <;> simp [slV, pI, upd, hji]
theorem wsG_setL {G : jG} {Sh : List jC} {σ : jM} {a k ci : Nat} {sl : List jS} {v : Int64} (hc : Sh[a]? = some (.inr (ci, sl))) (hk : sl[k]? = some (some none)) : (wsG G Sh σ).set a (G.2.1 a, .inr (ci, (sl.mapIdx (fun i d => slV G.2.1 σ a i d)).set k (.long v))) = wsG G Sh (pL σ a k v) := by
  refine wsG_set hc (fun j hj => rfl) (fun j hj => by simp [pL, hj]) ?_
  simp only [ceE]
  congr 2
  apply List.ext_getElem?
  intro i
  have hl : k < (sl.mapIdx (fun i d => slV G.2.1 σ a i d)).length := by
    rw [List.length_mapIdx]
    exact (List.getElem?_eq_some_iff.mp hk).1
  by_cases hj : k = i
  · subst hj
    rw [List.getElem?_set_self hl, List.getElem?_mapIdx, hk]
    simp [slV, pL, vp_updL]
  · rw [List.getElem?_set_ne hj, List.getElem?_mapIdx, List.getElem?_mapIdx]
    cases sl[i]? with
    | none => rfl
    | some d =>
      simp only [Option.map_some, Option.some.injEq]
      have hji : ¬ i = k := fun e => hj e.symm
      rcases d with _ | _ | _ | r <;> simp [slV, pL, vp_updL, hji]
/-- where a field's row of the pool leads: kind ci of vwCl, place k -/
def FL (own : String) (idx ci k : Nat) : Prop := ∃ (C : String) (T : u_T) (N : Nat), vwCl[ci]? = some (C, T, N) ∧ (∀ w ∈ u_ws C T N, w ∈ TBW) ∧ k < N ∧
  (Cond.fieldLink own idx (T k).1 (T k).2.1 (T k).2.2.1 ∈ TBW ∨ ∃ host, Cond.fieldLinkNest own idx (T k).1 (T k).2.1 (T k).2.2.1 host ∈ NW)
def FP (own : String) (idx ci k : Nat) (fin : Bool) (ty : FieldType) : Prop := ∃ (C : String) (T : u_T) (N : Nat), vwCl[ci]? = some (C, T, N) ∧ (∀ w ∈ u_ws C T N, w ∈ TBW) ∧ k < N ∧
  (Cond.fieldLink own idx (T k).1 (T k).2.1 (T k).2.2.1 ∈ TBW ∨ (fin = false ∧ ∃ host, Cond.fieldLinkNest own idx (T k).1 (T k).2.1 (T k).2.2.1 host ∈ NW)) ∧
  (∃ ty0 : Nat → FieldType, ∀ j, j < N → parseFieldDescriptor (T j).2.2.1 = some (ty0 j)) ∧ (∀ a, a < N → ∀ b, b < N → a ≠ b → (T a).2.1 ≠ (T b).2.1) ∧ (T k).2.2.2 = fin ∧ parseFieldDescriptor (T k).2.2.1 = some ty ∧ (fin = true → (T k).1 = own)
section Rows3
variable {l : Launch} {own : String} {cc : ByteArray} {nL : Nat} {ret : Option FieldType} {ini : Bool} {R : Room} {Cx : jG → State → (Nat → Prop) → Prop} {ρ : Type} {enc : ρ → jR} {Sh : List jC} {k n : Nat} {σ : jM} {pc : Nat} {ls : List (Option Value)} {rest : List Value} {o o2 : Option ρ}
theorem J_ldc2 {idx : Nat} {v : Int64} (hd : decode cc pc = .ok (.ldc2_w idx, 3)) (hc : Cond.constantLong own idx v ∈ TBW) (kk : J l own cc nL ret ini R Cx enc Sh k n σ (pc + 3) ls (.long v :: rest) o) : J l own cc nL ret ini R Cx enc Sh k n σ pc ls rest o := fun res h p e s m args below meth c G A Q H locs lsA C K hW hS hl => lv_ldc2 C.1 C.2.1 C.2.2.2.2.1 (C.2.2.2.2.2.1 _ hc) hd (kk res h p e s m args below meth c G A Q H locs lsA C K hW hS hl)
theorem J_ldcw {idx : Nat} {v : Int32} (hd : decode cc pc = .ok (.ldc_w idx, 3)) (hc : Cond.constant own idx v ∈ TBW) (kk : J l own cc nL ret ini R Cx enc Sh k n σ (pc + 3) ls (.int v :: rest) o) : J l own cc nL ret ini R Cx enc Sh k n σ pc ls rest o := fun res h p e s m args below meth c G A Q H locs lsA C K hW hS hl => lv_ldcw C.1 C.2.1 C.2.2.2.2.1 (C.2.2.2.2.2.1 _ hc) hd (kk res h p e s m args below meth c G A Q H locs lsA C K hW hS hl)
theorem J_get0 {idx a ci q : Nat} {d : jS} {v : Value} (hd : decode cc pc = .ok (.getfield idx, 3)) (f : FL own idx ci q) (hs : shO Sh a q = some (ci, d)) (hv : ∀ ad, slV ad σ a q d = rnV ad v) (kk : J l own cc nL ret ini R Cx enc Sh k n σ (pc + 3) ls (v :: rest) o) : J l own cc nL ret ini R Cx enc Sh k n σ pc ls (.ref a :: rest) o := fun res h p e s m args below meth c G A Q H locs lsA C K hW hS hl => by
  obtain ⟨cn, T, N, hc, hin, hk, hlink⟩ := f
  obtain ⟨sl, h1, h2⟩ := shO_of hs
  have he := wsG_at (G := G) (σ := σ) h1
  have hfs : (sl.mapIdx (fun i d => slV G.2.1 σ a i d))[q]? = some (rnV G.2.1 v) := by rw [List.getElem?_mapIdx, h2, ← hv]; rfl
  rcases hlink with hlink | ⟨host, hlink⟩
  · exact va_get C.1 C.2.1 C.2.2.2.2.2.1 hin C.2.2.2.2.1 hW.2.1 hW.1 a he hc q hk (C.2.2.2.2.2.1 _ hlink) (fun _ h => h) hfs hd (kk res h p e s m args below meth c G A Q H locs lsA C K hW hS hl)
  · exact va_getN C.1 C.2.1 C.2.2.2.2.2.1 hin C.2.2.2.2.1 hW.2.1 hW.1 a he hc q hk (va_Nw.use (by first | rfl | exact (nw_onT hlink)) (C.2.2.2.2.2.2.2.2.1.1 _ hlink)) (fun _ h => h) hfs hd (kk res h p e s m args below meth c G A Q H locs lsA C K hW hS hl)
theorem J_getI {idx a ci q : Nat} (hd : decode cc pc = .ok (.getfield idx, 3)) (f : FL own idx ci q) (hs : shO Sh a q = some (ci, none)) (kk : J l own cc nL ret ini R Cx enc Sh k n σ (pc + 3) ls (.int (gI σ a q) :: rest) o) : J l own cc nL ret ini R Cx enc Sh k n σ pc ls (.ref a :: rest) o := J_get0 hd f hs (fun _ => rfl) kk
theorem J_getL {idx a ci q : Nat} (hd : decode cc pc = .ok (.getfield idx, 3)) (f : FL own idx ci q) (hs : shO Sh a q = some (ci, some none)) (kk : J l own cc nL ret ini R Cx enc Sh k n σ (pc + 3) ls (.long (gL σ a q) :: rest) o) : J l own cc nL ret ini R Cx enc Sh k n σ pc ls (.ref a :: rest) o := J_get0 hd f hs (fun _ => rfl) kk
theorem J_getR {idx a ci q r : Nat} (hd : decode cc pc = .ok (.getfield idx, 3)) (f : FL own idx ci q) (hs : shO Sh a q = some (ci, some (some (some r)))) (kk : J l own cc nL ret ini R Cx enc Sh k n σ (pc + 3) ls (.ref r :: rest) o) : J l own cc nL ret ini R Cx enc Sh k n σ pc ls (.ref a :: rest) o := J_get0 hd f hs (fun _ => rfl) kk
theorem J_putI {idx a ci q : Nat} {fin : Bool} {ty : FieldType} {v : Int32} (hd : decode cc pc = .ok (.putfield idx, 3)) (f : FP own idx ci q fin ty) (hfin : fin = true → ini = true) (hs : shO Sh a q = some (ci, none)) (hn : narrow ty (.int v) = .int v) (hft : fits ty (.int v) = true) (kk : J l own cc nL ret ini R Cx enc Sh k n (pI σ a q v) (pc + 3) ls rest o) : J l own cc nL ret ini R Cx enc Sh k n σ pc ls (.int v :: .ref a :: rest) o := fun res h p e s m args below meth c G A Q H locs lsA C K hW hS hl => by
  obtain ⟨cn, T, N, hc, hin, hk, hlink, ⟨ty0, hty⟩, hnm, hf, hdt, hdecl⟩ := f
  obtain ⟨sl, h1, h2⟩ := shO_of hs
  have he := wsG_at (G := G) (σ := σ) h1
  have hlen : q < (sl.mapIdx (fun i d => slV G.2.1 σ a i d)).length := by rw [List.length_mapIdx]; exact (List.getElem?_eq_some_iff.mp h2).1
  have fin2 : ∀ (H1 : Heap) (locs1 : List Loc), va_P G.1 vwCl ((wsG G Sh σ).set a (G.2.1 a, .inr (ci, (sl.mapIdx (fun i d => slV G.2.1 σ a i d)).set q (.int v)))) H1 → va_D A ((wsG G Sh σ).set a (G.2.1 a, .inr (ci, (sl.mapIdx (fun i d => slV G.2.1 σ a i d)).set q (.int v)))) → va_S A s.heap H1 locs1 → W p l e R s m args below meth c H1 locs1 k n Q (F0 m (pc + 3) lsA (rest.map (rnV G.2.1))) := by
    intro H1 locs1 hP1 hD1 hS1
    rw [wsG_setI h1 h2] at hP1 hD1
    exact kk res h p e s m args below meth c G A Q H1 locs1 lsA C K ⟨hP1, hW.2.1, hD1, hW.2.2.2⟩ hS1 hl
  cases fin with
  | false =>
    rcases hlink with hlink | ⟨-, host, hlink⟩
    · exact va_put C.1 C.2.1 C.2.2.2.2.2.1 hin ty0 hty hnm C.2.2.2.2.1 hW.2.1 hW.1 hW.2.2.1 hS a he hc q hk (C.2.2.2.2.2.1 _ hlink) (fun _ h => h) hf hdt hn hft hlen hd fin2
    · exact va_putN C.1 C.2.1 C.2.2.2.2.2.1 hin ty0 hty hnm C.2.2.2.2.1 hW.2.1 hW.1 hW.2.2.1 hS a he hc q hk (va_Nw.use (by first | rfl | exact (nw_onT hlink)) (C.2.2.2.2.2.2.2.2.1.1 _ hlink)) (fun _ h => h) hf hdt hn hft hlen hd fin2
  | true =>
    rcases hlink with hlink | ⟨hz, -⟩
    · exact va_putF C.1 C.2.1 C.2.2.2.2.2.1 hin ty0 hty hnm C.2.2.2.2.1 hW.2.1 hW.1 hW.2.2.1 hS a he hc q hk (C.2.2.2.2.2.1 _ hlink) (fun _ h => h) hf (C.2.2.2.2.2.2.2.1 (hfin rfl)) (hdecl rfl) hdt hn hft hlen hd fin2
    · cases hz
theorem J_putL {idx a ci q : Nat} {fin : Bool} {ty : FieldType} {v : Int64} (hd : decode cc pc = .ok (.putfield idx, 3)) (f : FP own idx ci q fin ty) (hfin : fin = true → ini = true) (hs : shO Sh a q = some (ci, some none)) (hn : narrow ty (.long v) = .long v) (hft : fits ty (.long v) = true) (kk : J l own cc nL ret ini R Cx enc Sh k n (pL σ a q v) (pc + 3) ls rest o) : J l own cc nL ret ini R Cx enc Sh k n σ pc ls (.long v :: .ref a :: rest) o := fun res h p e s m args below meth c G A Q H locs lsA C K hW hS hl => by
  obtain ⟨cn, T, N, hc, hin, hk, hlink, ⟨ty0, hty⟩, hnm, hf, hdt, hdecl⟩ := f
  obtain ⟨sl, h1, h2⟩ := shO_of hs
  have he := wsG_at (G := G) (σ := σ) h1
  have hlen : q < (sl.mapIdx (fun i d => slV G.2.1 σ a i d)).length := by rw [List.length_mapIdx]; exact (List.getElem?_eq_some_iff.mp h2).1
  have fin2 : ∀ (H1 : Heap) (locs1 : List Loc), va_P G.1 vwCl ((wsG G Sh σ).set a (G.2.1 a, .inr (ci, (sl.mapIdx (fun i d => slV G.2.1 σ a i d)).set q (.long v)))) H1 → va_D A ((wsG G Sh σ).set a (G.2.1 a, .inr (ci, (sl.mapIdx (fun i d => slV G.2.1 σ a i d)).set q (.long v)))) → va_S A s.heap H1 locs1 → W p l e R s m args below meth c H1 locs1 k n Q (F0 m (pc + 3) lsA (rest.map (rnV G.2.1))) := by
    intro H1 locs1 hP1 hD1 hS1
    rw [wsG_setL h1 h2] at hP1 hD1
    exact kk res h p e s m args below meth c G A Q H1 locs1 lsA C K ⟨hP1, hW.2.1, hD1, hW.2.2.2⟩ hS1 hl
  cases fin with
  | false =>
    rcases hlink with hlink | ⟨-, host, hlink⟩
    · exact va_put C.1 C.2.1 C.2.2.2.2.2.1 hin ty0 hty hnm C.2.2.2.2.1 hW.2.1 hW.1 hW.2.2.1 hS a he hc q hk (C.2.2.2.2.2.1 _ hlink) (fun _ h => h) hf hdt hn hft hlen hd fin2
    · exact va_putN C.1 C.2.1 C.2.2.2.2.2.1 hin ty0 hty hnm C.2.2.2.2.1 hW.2.1 hW.1 hW.2.2.1 hS a he hc q hk (va_Nw.use (by first | rfl | exact (nw_onT hlink)) (C.2.2.2.2.2.2.2.2.1.1 _ hlink)) (fun _ h => h) hf hdt hn hft hlen hd fin2
  | true =>
    rcases hlink with hlink | ⟨hz, -⟩
    · exact va_putF C.1 C.2.1 C.2.2.2.2.2.1 hin ty0 hty hnm C.2.2.2.2.1 hW.2.1 hW.1 hW.2.2.1 hS a he hc q hk (C.2.2.2.2.2.1 _ hlink) (fun _ h => h) hf (C.2.2.2.2.2.2.2.1 (hfin rfl)) (hdecl rfl) hdt hn hft hlen hd fin2
    · cases hz
theorem J_iald {a N : Nat} {i : Int32} (hd : decode cc pc = .ok (.iaload, 1)) (hs : shA Sh a = some (.int, N)) (kk : J l own cc nL ret ini R Cx enc Sh k n σ (pc + 1) ls (.int (gI σ a i.toNatClampNeg) :: rest) o) : J l own cc nL ret ini R Cx enc Sh k n σ pc ls (.int i :: .ref a :: rest) (gd (ib i N) o) := J_gd (fun hi => fun res h p e s m args below meth c G A Q H locs lsA C K hW hS hl => by
  have h1 := shA_of hs
  have hT := hW.2.2.2 a _ _ h1
  exact va_iald (tys := [(G.2.2 a, .int)]) C.1 C.2.1 ⟨hW.2.1.1, fun j q hj => by cases j with | zero => (cases hj; exact hT) | succ j => cases hj⟩ hW.1 a 0 (wsG_at h1) rfl (ib_in hi) hd (kk res h p e s m args below meth c G A Q H locs lsA C K hW hS hl))
theorem J_lald {a N : Nat} {i : Int32} (hd : decode cc pc = .ok (.laload, 1)) (hs : shA Sh a = some (.long, N)) (kk : J l own cc nL ret ini R Cx enc Sh k n σ (pc + 1) ls (.long (gL σ a i.toNatClampNeg) :: rest) o) : J l own cc nL ret ini R Cx enc Sh k n σ pc ls (.int i :: .ref a :: rest) (gd (ib i N) o) := J_gd (fun hi => fun res h p e s m args below meth c G A Q H locs lsA C K hW hS hl => by
  have h1 := shA_of hs
  have hT := hW.2.2.2 a _ _ h1
  exact va_lald (tys := [(G.2.2 a, .long)]) C.1 C.2.1 ⟨hW.2.1.1, fun j q hj => by cases j with | zero => (cases hj; exact hT) | succ j => cases hj⟩ hW.1 a 0 (wsG_at h1) rfl (ib_in hi) hd (kk res h p e s m args below meth c G A Q H locs lsA C K hW hS hl))
theorem J_cald {a N : Nat} {i : Int32} (hd : decode cc pc = .ok (.caload, 1)) (hs : shA Sh a = some (.char, N)) (kk : J l own cc nL ret ini R Cx enc Sh k n σ (pc + 1) ls (.int (gC σ a i.toNatClampNeg) :: rest) o) : J l own cc nL ret ini R Cx enc Sh k n σ pc ls (.int i :: .ref a :: rest) (gd (ib i N) o) := J_gd (fun hi => fun res h p e s m args below meth c G A Q H locs lsA C K hW hS hl => by
  have h1 := shA_of hs
  have hT := hW.2.2.2 a _ _ h1
  exact va_cald (tys := [(G.2.2 a, .char)]) C.1 C.2.1 ⟨hW.2.1.1, fun j q hj => by cases j with | zero => (cases hj; exact hT) | succ j => cases hj⟩ hW.1 a 0 (wsG_at h1) rfl (ib_in hi) hd (kk res h p e s m args below meth c G A Q H locs lsA C K hW hS hl))
theorem J_zald {a N : Nat} {i : Int32} (hd : decode cc pc = .ok (.baload, 1)) (hs : shA Sh a = some (.boolean, N)) (kk : J l own cc nL ret ini R Cx enc Sh k n σ (pc + 1) ls (.int (gI σ a i.toNatClampNeg) :: rest) o) : J l own cc nL ret ini R Cx enc Sh k n σ pc ls (.int i :: .ref a :: rest) (gd (ib i N) o) := J_gd (fun hi => fun res h p e s m args below meth c G A Q H locs lsA C K hW hS hl => by
  have h1 := shA_of hs
  have hT := hW.2.2.2 a _ _ h1
  exact va_zald (tys := [(G.2.2 a, .boolean)]) C.1 C.2.1 ⟨hW.2.1.1, fun j q hj => by cases j with | zero => (cases hj; exact hT) | succ j => cases hj⟩ hW.1 a 0 (wsG_at h1) rfl (ib_in hi) hd (kk res h p e s m args below meth c G A Q H locs lsA C K hW hS hl))
theorem J_iast {a N : Nat} {i : Int32} {x : Int32} (hd : decode cc pc = .ok (.iastore, 1)) (hs : shA Sh a = some (.int, N)) (kk : J l own cc nL ret ini R Cx enc Sh k n (pI σ a i.toNatClampNeg x) (pc + 1) ls rest o) : J l own cc nL ret ini R Cx enc Sh k n σ pc ls (.int x :: .int i :: .ref a :: rest) (gd (ib i N) o) := J_gd (fun hi => fun res h p e s m args below meth c G A Q H locs lsA C K hW hS hl => by
  have h1 := shA_of hs
  have hT := hW.2.2.2 a _ _ h1
  have E : (wsG G Sh σ).set a (G.2.1 a, .inl (G.2.2 a, N, .inl (upd (σ.1 a) i.toNatClampNeg x))) = wsG G Sh (pI σ a i.toNatClampNeg x) := wsG_set h1 (fun j hj => by simp [pI, hj]) (fun j hj => rfl) (by simp [ceE, arA, pI])
  refine va_iast (tys := [(G.2.2 a, .int)]) C.1 C.2.1 ⟨hW.2.1.1, fun j q hj => by cases j with | zero => (cases hj; exact hT) | succ j => cases hj⟩ hW.1 hW.2.2.1 hS a 0 (wsG_at h1) rfl (ib_in hi) hd (fun H1 locs1 hP1 hD1 hS1 => ?_)
  exact kk res h p e s m args below meth c G A Q H1 locs1 lsA C K ⟨by rw [← E]; exact hP1, hW.2.1, by rw [← E]; exact hD1, hW.2.2.2⟩ hS1 hl)
theorem J_zast {a N : Nat} {i : Int32} {x : Int32} (hd : decode cc pc = .ok (.bastore, 1)) (hs : shA Sh a = some (.boolean, N)) (kk : J l own cc nL ret ini R Cx enc Sh k n (pI σ a i.toNatClampNeg (vp_nar .boolean x)) (pc + 1) ls rest o) : J l own cc nL ret ini R Cx enc Sh k n σ pc ls (.int x :: .int i :: .ref a :: rest) (gd (ib i N) o) := J_gd (fun hi => fun res h p e s m args below meth c G A Q H locs lsA C K hW hS hl => by
  have h1 := shA_of hs
  have hT := hW.2.2.2 a _ _ h1
  have E : (wsG G Sh σ).set a (G.2.1 a, .inl (G.2.2 a, N, .inl (upd (σ.1 a) i.toNatClampNeg (vp_nar .boolean x)))) = wsG G Sh (pI σ a i.toNatClampNeg (vp_nar .boolean x)) := wsG_set h1 (fun j hj => by simp [pI, hj]) (fun j hj => rfl) (by simp [ceE, arA, pI])
  refine va_zast (tys := [(G.2.2 a, .boolean)]) C.1 C.2.1 ⟨hW.2.1.1, fun j q hj => by cases j with | zero => (cases hj; exact hT) | succ j => cases hj⟩ hW.1 hW.2.2.1 hS a 0 (wsG_at h1) rfl (ib_in hi) hd (fun H1 locs1 hP1 hD1 hS1 => ?_)
  exact kk res h p e s m args below meth c G A Q H1 locs1 lsA C K ⟨by rw [← E]; exact hP1, hW.2.1, by rw [← E]; exact hD1, hW.2.2.2⟩ hS1 hl)
theorem J_cast {a N : Nat} {i : Int32} {x : Int32} (hd : decode cc pc = .ok (.castore, 1)) (hs : shA Sh a = some (.char, N)) (kk : J l own cc nL ret ini R Cx enc Sh k n (pI σ a i.toNatClampNeg x) (pc + 1) ls rest o) : J l own cc nL ret ini R Cx enc Sh k n σ pc ls (.int x :: .int i :: .ref a :: rest) (gd (ib i N) o) := J_gd (fun hi => fun res h p e s m args below meth c G A Q H locs lsA C K hW hS hl => by
  have h1 := shA_of hs
  have hT := hW.2.2.2 a _ _ h1
  have E : (wsG G Sh σ).set a (G.2.1 a, .inl (G.2.2 a, N, .inl (upd (fun j => vp_nar .char (σ.1 a j)) i.toNatClampNeg (vp_nar .char x)))) = wsG G Sh (pI σ a i.toNatClampNeg x) := wsG_set h1 (fun j hj => by simp [pI, hj]) (fun j hj => rfl) (by (simp only [ceE, arA, pI, if_true]; congr 4; funext j; unfold upd; split <;> rfl))
  refine va_cast (tys := [(G.2.2 a, .char)]) C.1 C.2.1 ⟨hW.2.1.1, fun j q hj => by cases j with | zero => (cases hj; exact hT) | succ j => cases hj⟩ hW.1 hW.2.2.1 hS a 0 (wsG_at h1) rfl (ib_in hi) hd (fun H1 locs1 hP1 hD1 hS1 => ?_)
  exact kk res h p e s m args below meth c G A Q H1 locs1 lsA C K ⟨by rw [← E]; exact hP1, hW.2.1, by rw [← E]; exact hD1, hW.2.2.2⟩ hS1 hl)
theorem J_last {a N : Nat} {i : Int32} {x : Int64} (hd : decode cc pc = .ok (.lastore, 1)) (hs : shA Sh a = some (.long, N)) (kk : J l own cc nL ret ini R Cx enc Sh k n (pL σ a i.toNatClampNeg x) (pc + 1) ls rest o) : J l own cc nL ret ini R Cx enc Sh k n σ pc ls (.long x :: .int i :: .ref a :: rest) (gd (ib i N) o) := J_gd (fun hi => fun res h p e s m args below meth c G A Q H locs lsA C K hW hS hl => by
  have h1 := shA_of hs
  have hT := hW.2.2.2 a _ _ h1
  have E : (wsG G Sh σ).set a (G.2.1 a, .inl (G.2.2 a, N, .inr (.inl (vp_updL (σ.2 a) i.toNatClampNeg x)))) = wsG G Sh (pL σ a i.toNatClampNeg x) := wsG_set h1 (fun j hj => rfl) (fun j hj => by simp [pL, hj]) (by simp [ceE, arA, pL])
  refine va_last (tys := [(G.2.2 a, .long)]) C.1 C.2.1 ⟨hW.2.1.1, fun j q hj => by cases j with | zero => (cases hj; exact hT) | succ j => cases hj⟩ hW.1 hW.2.2.1 hS a 0 (wsG_at h1) rfl (ib_in hi) hd (fun H1 locs1 hP1 hD1 hS1 => ?_)
  exact kk res h p e s m args below meth c G A Q H1 locs1 lsA C K ⟨by rw [← E]; exact hP1, hW.2.1, by rw [← E]; exact hD1, hW.2.2.2⟩ hS1 hl)
theorem J_alen {a N : Nat} {ty : FieldType} (hd : decode cc pc = .ok (.arraylength, 1)) (hs : shA Sh a = some (ty, N)) (kk : J l own cc nL ret ini R Cx enc Sh k n σ (pc + 1) ls (.int (Int32.ofNat N) :: rest) o) : J l own cc nL ret ini R Cx enc Sh k n σ pc ls (.ref a :: rest) o := fun res h p e s m args below meth c G A Q H locs lsA C K hW hS hl => by
  have h1 := shA_of hs
  have hT := hW.2.2.2 a _ _ h1
  exact va_alen (tys := [(G.2.2 a, ty)]) C.1 C.2.1 ⟨hW.2.1.1, fun j q hj => by cases j with | zero => (cases hj; exact hT) | succ j => cases hj⟩ hW.1 a 0 (wsG_at h1) rfl (by cases ty <;> rfl) hd (kk res h p e s m args below meth c G A Q H locs lsA C K hW hS hl)
theorem J_txtV {idx i : Nat} (hi : i < 8) (hd : decode cc pc = .ok (.getfield idx, 3)) (hc : Cond.fieldLink own idx "java/lang/String" "value" "[B" ∈ TBW) (kk : J l own cc nL ret ini R Cx enc Sh k n σ (pc + 3) ls (.ref (2000 + i) :: rest) o) : J l own cc nL ret ini R Cx enc Sh k n σ pc ls (.ref (1000 + i) :: rest) o := fun res h p e s m args below meth c G A Q H locs lsA C K hW hS hl => vk_getf C.1 C.2.1 (C.2.2.2.2.2.2.2.2.1.2.2.1.1 i hi).2.2.1 hS C.2.2.2.2.1 (C.2.2.2.2.2.1 _ hc) (fun _ h => h) hd (kk res h p e s m args below meth c G A Q H locs lsA C K hW hS hl)
theorem J_txtC {idx i : Nat} (hi : i < 8) (hd : decode cc pc = .ok (.getfield idx, 3)) (hc : Cond.fieldLink own idx "java/lang/String" "coder" "B" ∈ TBW) (kk : J l own cc nL ret ini R Cx enc Sh k n σ (pc + 3) ls (.int 0 :: rest) o) : J l own cc nL ret ini R Cx enc Sh k n σ pc ls (.ref (1000 + i) :: rest) o := fun res h p e s m args below meth c G A Q H locs lsA C K hW hS hl => vk_getf C.1 C.2.1 (C.2.2.2.2.2.2.2.2.1.2.2.1.1 i hi).2.1 hS C.2.2.2.2.1 (C.2.2.2.2.2.1 _ hc) (fun _ h => h) hd (kk res h p e s m args below meth c G A Q H locs lsA C K hW hS hl)
theorem J_cmpS {idx : Nat} (hd : decode cc pc = .ok (.getstatic idx, 3)) (hc : Cond.fieldLink own idx "java/lang/String" "COMPACT_STRINGS" "Z" ∈ TBW) (kk : J l own cc nL ret ini R Cx enc Sh k n σ (pc + 3) ls (.int 1 :: rest) o) : J l own cc nL ret ini R Cx enc Sh k n σ pc ls rest o := fun res h p e s m args below meth c G A Q H locs lsA C K hW hS hl => va_gets C.1 C.2.1 C.2.2.2.2.2.2.2.2.1.2.2.2.1 hS C.2.2.2.2.1 (C.2.2.2.2.2.1 _ hc) (fun _ h => h) hd (kk res h p e s m args below meth c G A Q H locs lsA C K hW hS hl)
theorem J_brS {idx : Nat} {host : String} (hd : decode cc pc = .ok (.getstatic idx, 3)) (hc : Cond.fieldLinkNest own idx "OddBridge" "BROUGHT" "[I" host ∈ NW) (kk : J l own cc nL ret ini R Cx enc Sh k n σ (pc + 3) ls (.ref 3000 :: rest) o) : J l own cc nL ret ini R Cx enc Sh k n σ pc ls rest o := fun res h p e s m args below meth c G A Q H locs lsA C K hW hS hl => va_getsN C.1 C.2.1 C.2.2.2.2.2.2.2.2.1.2.2.2.2.1 hS C.2.2.2.2.1 (va_Nw.use rfl (C.2.2.2.2.2.2.2.2.1.1 _ hc)) (fun _ h => h) hd (kk res h p e s m args below meth c G A Q H locs lsA C K hW hS hl)
theorem xT_at {ty : FieldType} {t N : Nat} {f : Nat → Value} {A : Nat → Prop} {U : State} {H0 H : Heap} {locs : List Loc} (h : va_T ty t N f A U H0) (hS : va_S A H0 H locs) : ∃ cell : Cell, H[t]? = some cell ∧ U.isArrayOf cell ty ∧ cell.vm ≠ .unknown ∧ N ≤ cell.slots.size ∧ cell.slots.size.toInt32 = Int32.ofNat N ∧ ∀ j : Nat, j < N → cell.slots[j]? = some (f j) := by
  obtain ⟨cell, h1, h2, h3, h4, h5, h6, h7⟩ := h
  exact ⟨cell, by rw [hS.2.1 t (Array.getElem?_eq_some_iff.mp h1).1 h7]; exact h1, h2, h3, h4, h5, h6⟩
theorem vp_in_lt {i : Int32} {N : Nat} (h : vp_in i N) : i.toNatClampNeg < N := Nat.lt_of_not_le fun q => h (Or.inr q)
theorem J_brA {i : Int32} (hd : decode cc pc = .ok (.iaload, 1)) (kk : J l own cc nL ret ini R Cx enc Sh k n σ (pc + 1) ls (.int (brS.getD i.toNatClampNeg 0) :: rest) o) : J l own cc nL ret ini R Cx enc Sh k n σ pc ls (.int i :: .ref 3000 :: rest) (gd (ib i 40) o) := J_gd (fun hi => fun res h p e s m args below meth c G A Q H locs lsA C K hW hS hl => by
  obtain ⟨cell, h1, h2, h3, h4, h5, h6⟩ := xT_at C.2.2.2.2.2.2.2.2.1.2.2.2.2.2 hS
  have hv := ib_in hi
  exact W.iald C.1 C.2.1 h1 h2 h3 (fun hx => hv (hx.imp id (fun hx => Nat.le_trans h4 hx))) (h6 _ (vp_in_lt hv)) rfl rfl hd (kk res h p e s m args below meth c G A Q H locs lsA C K hW hS hl))
theorem J_brL (hd : decode cc pc = .ok (.arraylength, 1)) (kk : J l own cc nL ret ini R Cx enc Sh k n σ (pc + 1) ls (.int 40 :: rest) o) : J l own cc nL ret ini R Cx enc Sh k n σ pc ls (.ref 3000 :: rest) o := fun res h p e s m args below meth c G A Q H locs lsA C K hW hS hl => by
  obtain ⟨cell, h1, h2, h3, h4, h5, h6⟩ := xT_at C.2.2.2.2.2.2.2.2.1.2.2.2.2.2 hS
  exact W.alen C.1 C.2.1 h1 h2 h5 rfl rfl hd (kk res h p e s m args below meth c G A Q H locs lsA C K hW hS hl)
theorem J_txtL {i : Nat} (hi : i < 8) (hd : decode cc pc = .ok (.arraylength, 1)) (kk : J l own cc nL ret ini R Cx enc Sh k n σ (pc + 1) ls (.int (Int32.ofNat (leS.getD i 0)) :: rest) o) : J l own cc nL ret ini R Cx enc Sh k n σ pc ls (.ref (2000 + i) :: rest) o := fun res h p e s m args below meth c G A Q H locs lsA C K hW hS hl => by
  obtain ⟨cell, h1, h2, h3, h4, h5, h6⟩ := xT_at (C.2.2.2.2.2.2.2.2.1.2.2.1.1 i hi).2.2.2 hS
  exact W.alen C.1 C.2.1 h1 h2 h5 rfl rfl hd (kk res h p e s m args below meth c G A Q H locs lsA C K hW hS hl)
theorem J_txtB {i : Nat} {j : Int32} (hi : i < 8) (hd : decode cc pc = .ok (.baload, 1)) (kk : J l own cc nL ret ini R Cx enc Sh k n σ (pc + 1) ls (.int ((byS.getD i []).getD j.toNatClampNeg 0) :: rest) o) : J l own cc nL ret ini R Cx enc Sh k n σ pc ls (.int j :: .ref (2000 + i) :: rest) (gd (ib j (leS.getD i 0)) o) := J_gd (fun hj => fun res h p e s m args below meth c G A Q H locs lsA C K hW hS hl => va_tb C.1 C.2.1 (C.2.2.2.2.2.2.2.2.1.2.2.1.1 i hi).2.2.2 hS (ib_in hj) rfl hd (kk res h p e s m args below meth c G A Q H locs lsA C K hW hS hl))
end Rows3
