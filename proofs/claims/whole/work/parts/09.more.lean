theorem nch_u (x : Int32) : (x.toUInt32.toUInt16.toUInt32) = x.toUInt32 % 65536 := by
  apply UInt32.toNat_inj.mp
  simp
section Rows4
variable {l : Launch} {own : String} {cc : ByteArray} {nL : Nat} {ret : Option FieldType} {ini : Bool} {R : Room} {Cx : jG → State → (Nat → Prop) → Prop} {ρ : Type} {enc : ρ → jR} {Sh : List jC} {k n : Nat} {σ : jM} {pc : Nat} {ls : List (Option Value)} {rest : List Value} {o o2 : Option ρ}
theorem J_join {κ : Type} {kf : κ} {f : κ → Option ρ} {st : List Value} (P : κ → Prop) (hk : P kf) (kk : ∀ j, P j → J l own cc nL ret ini R Cx enc Sh k n σ pc ls st (f j)) : J l own cc nL ret ini R Cx enc Sh k n σ pc ls st (jn_ kf f) := kk kf hk
theorem J_istore_nN {a : Fin 4} {i : Nat} {x : Int32} {LS : Int32 → List (Option Value)} {f : Int32 → Option ρ} (hd : decode cc pc = .ok (.istore_n a, 1)) (hi : (a : Nat) = i) (hs : ∀ y, stI ls i (.int y) = LS y) (hn : i < nL) (kk : ∀ y, J l own cc nL ret ini R Cx enc Sh k n σ (pc + 1) (LS y) rest (f y)) : J l own cc nL ret ini R Cx enc Sh k n σ pc ls (.int x :: rest) (lt_ x f) := J_istore_n hd hi (hs x) hn (kk x)
theorem J_istoreN {i : Nat} {x : Int32} {LS : Int32 → List (Option Value)} {f : Int32 → Option ρ} (hd : decode cc pc = .ok (.istore i, 2)) (hs : ∀ y, stI ls i (.int y) = LS y) (hn : i < nL) (kk : ∀ y, J l own cc nL ret ini R Cx enc Sh k n σ (pc + 2) (LS y) rest (f y)) : J l own cc nL ret ini R Cx enc Sh k n σ pc ls (.int x :: rest) (lt_ x f) := J_istore hd (hs x) hn (kk x)
theorem J_lstore_nN {a : Fin 4} {i : Nat} {x : Int64} {LS : Int64 → List (Option Value)} {f : Int64 → Option ρ} (hd : decode cc pc = .ok (.lstore_n a, 1)) (hi : (a : Nat) = i) (hs : ∀ y, stL ls i (.long y) = LS y) (hn : i + 1 < nL) (kk : ∀ y, J l own cc nL ret ini R Cx enc Sh k n σ (pc + 1) (LS y) rest (f y)) : J l own cc nL ret ini R Cx enc Sh k n σ pc ls (.long x :: rest) (lt_ x f) := J_lstore_n hd hi (hs x) hn (kk x)
theorem J_lstoreN {i : Nat} {x : Int64} {LS : Int64 → List (Option Value)} {f : Int64 → Option ρ} (hd : decode cc pc = .ok (.lstore i, 2)) (hs : ∀ y, stL ls i (.long y) = LS y) (hn : i + 1 < nL) (kk : ∀ y, J l own cc nL ret ini R Cx enc Sh k n σ (pc + 2) (LS y) rest (f y)) : J l own cc nL ret ini R Cx enc Sh k n σ pc ls (.long x :: rest) (lt_ x f) := J_lstore hd (hs x) hn (kk x)
theorem J_iincN {i : Nat} {a : Int} {x v : Int32} {LS : Int32 → List (Option Value)} {f : Int32 → Option ρ} (hd : decode cc pc = .ok (.iinc i a, 3)) (hx : ls[i]? = some (some (.int x))) (hv : x + Int32.ofInt a = v) (hs : ∀ y, stI ls i (.int y) = LS y) (hn : i < nL) (kk : ∀ y, J l own cc nL ret ini R Cx enc Sh k n σ (pc + 3) (LS y) rest (f y)) : J l own cc nL ret ini R Cx enc Sh k n σ pc ls rest (lt_ v f) := J_iinc hd hx hv (hs v) hn (kk v)
theorem J_i2b {x : Int32} (hd : decode cc pc = .ok (.i2b, 1)) (kk : J l own cc nL ret ini R Cx enc Sh k n σ (pc + 1) ls (.int ((Int32.toInt8 x).toInt32) :: rest) o) : J l own cc nL ret ini R Cx enc Sh k n σ pc ls (.int x :: rest) o := fun res h p e s m args below meth c G A Q H locs lsA C K hW hS hl => lv_i2b C.1 C.2.1 hd rfl (kk res h p e s m args below meth c G A Q H locs lsA C K hW hS hl)
theorem zb_fit {x : Int32} (h : zb x = true) : fits .boolean (.int x) = true := by
  simp only [zb, Bool.or_eq_true, decide_eq_true_eq] at h
  rcases h with rfl | rfl <;> rfl
theorem ac_nat : Cond.native arraycopyName ∈ TBW := mTB 848 (by decide +kernel) rfl
theorem ac_sta : Cond.static arraycopyName ∈ TBW := mTB 847 (by decide +kernel) rfl
theorem ac_ini : Cond.initialized "java/lang/System" ∈ TBW := mTB 102 (by decide +kernel) rfl
theorem J_copyI {idx a b na nb : Nat} {sp dp q : Int32} (hd : decode cc pc = .ok (.invokestatic idx, 3)) (hlk : Cond.methodLink own idx arraycopyName ∈ TBW) (ha : shA Sh a = some (.int, na)) (hb : shA Sh b = some (.int, nb)) (h1 : ¬ sp < 0) (h2 : ¬ dp < 0) (h3 : ¬ q < 0) (h45 : sp.toNatClampNeg + q.toNatClampNeg ≤ na ∧ dp.toNatClampNeg + q.toNatClampNeg ≤ nb) (hR : 1 ≤ R.frames ∧ (rest.map fun v => v.category).sum + (nativeFrameWords "java/lang/System" "arraycopy" 5 + 11) ≤ R.locals)
    (kk : J l own cc nL ret ini R Cx enc Sh k n (cpI σ a b sp.toNatClampNeg dp.toNatClampNeg q.toNatClampNeg) (pc + 3) ls rest o) : J l own cc nL ret ini R Cx enc Sh k n σ pc ls (.int q :: .int dp :: .ref b :: .int sp :: .ref a :: rest) o := fun res h p e s m args below meth c G A Q H locs lsA C K hW hS hl => by
  have e0 := shA_of ha
  have e1 := shA_of hb
  have hT0 := hW.2.2.2 a _ _ e0
  have hT1 := hW.2.2.2 b _ _ e1
  have hts := C.2.2.2.2.2.1
  have E : (wsG G Sh σ).set b (G.2.1 b, .inl (G.2.2 b, nb, .inl (va_cpy (σ.1 a) (σ.1 b) sp.toNatClampNeg dp.toNatClampNeg q.toNatClampNeg))) = wsG G Sh (cpI σ a b sp.toNatClampNeg dp.toNatClampNeg q.toNatClampNeg) := wsG_set e1 (fun j hj => by simp [cpI, hj]) (fun j hj => rfl) (by simp [ceE, arA, cpI])
  refine va_copyi (tys := [(G.2.2 a, .int), (G.2.2 b, .int)]) C.1 C.2.1 (C.2.2.1.trans hl.1.symm) C.2.2.2.2.1 (hts _ hlk) (hts _ ac_nat) (hts _ ac_sta) (hts _ ac_ini) ⟨hW.2.1.1, fun j z hj => by match j, hj with | 0, hj => (cases hj; exact hT0) | 1, hj => (cases hj; exact hT1)⟩ hW.1 hW.2.2.1 hS a b 0 1 (wsG_at e0) (wsG_at e1) rfl rfl rfl h1 h2 h3 h45.1 h45.2 (fun _ _ => rfl) hR.1 (by rw [map_cat]; exact hR.2) hd (fun H1 locs1 hP1 hD1 hS1 => ?_)
  exact kk res h p e s m args below meth c G A Q H1 locs1 lsA C K ⟨by rw [← E]; exact hP1, hW.2.1, by rw [← E]; exact hD1, hW.2.2.2⟩ hS1 hl
theorem fit_nch (x : Int32) : fits .char (.int (vp_nar .char x)) = true := by
  have h : vp_nar .char x = (x.toUInt32 % 65536).toInt32 := by rw [vp_nar_char]; rfl
  rw [h]; exact pk_fc x
theorem J_copyC {idx a b na nb : Nat} {sp dp q : Int32} (hd : decode cc pc = .ok (.invokestatic idx, 3)) (hlk : Cond.methodLink own idx arraycopyName ∈ TBW) (ha : shA Sh a = some (.char, na)) (hb : shA Sh b = some (.char, nb)) (h1 : ¬ sp < 0) (h2 : ¬ dp < 0) (h3 : ¬ q < 0) (h45 : sp.toNatClampNeg + q.toNatClampNeg ≤ na ∧ dp.toNatClampNeg + q.toNatClampNeg ≤ nb) (hR : 1 ≤ R.frames ∧ (rest.map fun v => v.category).sum + (nativeFrameWords "java/lang/System" "arraycopy" 5 + 11) ≤ R.locals)
    (kk : J l own cc nL ret ini R Cx enc Sh k n (cpI σ a b sp.toNatClampNeg dp.toNatClampNeg q.toNatClampNeg) (pc + 3) ls rest o) : J l own cc nL ret ini R Cx enc Sh k n σ pc ls (.int q :: .int dp :: .ref b :: .int sp :: .ref a :: rest) o := fun res h p e s m args below meth c G A Q H locs lsA C K hW hS hl => by
  have e0 := shA_of ha
  have e1 := shA_of hb
  have hT0 := hW.2.2.2 a _ _ e0
  have hT1 := hW.2.2.2 b _ _ e1
  have hts := C.2.2.2.2.2.1
  have E : (wsG G Sh σ).set b (G.2.1 b, .inl (G.2.2 b, nb, .inl (va_cpy (fun j => vp_nar .char (σ.1 a j)) (fun j => vp_nar .char (σ.1 b j)) sp.toNatClampNeg dp.toNatClampNeg q.toNatClampNeg))) = wsG G Sh (cpI σ a b sp.toNatClampNeg dp.toNatClampNeg q.toNatClampNeg) := wsG_set e1 (fun j hj => by simp [cpI, hj]) (fun j hj => rfl) (by (simp only [ceE, arA, cpI, if_true]; congr 4; funext j; simp only [va_cpy]; split <;> rfl))
  refine va_copyi (tys := [(G.2.2 a, .char), (G.2.2 b, .char)]) C.1 C.2.1 (C.2.2.1.trans hl.1.symm) C.2.2.2.2.1 (hts _ hlk) (hts _ ac_nat) (hts _ ac_sta) (hts _ ac_ini) ⟨hW.2.1.1, fun j z hj => by match j, hj with | 0, hj => (cases hj; exact hT0) | 1, hj => (cases hj; exact hT1)⟩ hW.1 hW.2.2.1 hS a b 0 1 (wsG_at e0) (wsG_at e1) rfl rfl rfl h1 h2 h3 h45.1 h45.2 (fun j _ => fit_nch _) hR.1 (by rw [map_cat]; exact hR.2) hd (fun H1 locs1 hP1 hD1 hS1 => ?_)
  exact kk res h p e s m args below meth c G A Q H1 locs1 lsA C K ⟨by rw [← E]; exact hP1, hW.2.1, by rw [← E]; exact hD1, hW.2.2.2⟩ hS1 hl
theorem mmax_code : Cond.code Lib.Math.max.name Lib.Math.max.code 2 (some .int) ∈ TBW := mTB 255 (by decide +kernel) rfl
theorem mmax_st : Cond.static Lib.Math.max.name ∈ TBW := mTB 254 (by decide +kernel) rfl
theorem mm_ini : Cond.initialized "java/lang/Math" ∈ TBW := mTB 90 (by decide +kernel) rfl
theorem J_mmax {idx : Nat} {x y : Int32} (hd : decode cc pc = .ok (.invokestatic idx, 3)) (hlk : Cond.methodLink own idx Lib.Math.max.name ∈ TBW) (hR : 1 ≤ R.frames ∧ (rest.map fun v => v.category).sum + 13 ≤ R.locals) (hkn : k ≤ R.cells ∧ n ≤ R.slots) (kk : J l own cc nL ret ini R Cx enc Sh k n σ (pc + 3) ls (.int (if x < y then y else x) :: rest) o) : J l own cc nL ret ini R Cx enc Sh k n σ pc ls (.int y :: .int x :: rest) o := fun res h p e s m args below meth c G A Q H locs lsA C K hW hS hl => va_mmax C.1 C.2.1 (C.2.2.1.trans hl.1.symm) C.2.2.2.2.1 (C.2.2.2.2.2.1 _ hlk) (C.2.2.2.2.2.1 _ mmax_st) (C.2.2.2.2.2.1 _ mm_ini) (C.2.2.2.2.2.1 _ mmax_code) hR.1 (by rw [map_cat]; exact hR.2) hkn.1 hkn.2 hd (kk res h p e s m args below meth c G A Q H locs lsA C K hW hS hl)
theorem mmin_code : Cond.code Lib.Math.min.name Lib.Math.min.code 2 (some .int) ∈ TBW := mTB 258 (by decide +kernel) rfl
theorem mmin_st : Cond.static Lib.Math.min.name ∈ TBW := mTB 257 (by decide +kernel) rfl
theorem J_mmin {idx : Nat} {x y : Int32} (hd : decode cc pc = .ok (.invokestatic idx, 3)) (hlk : Cond.methodLink own idx Lib.Math.min.name ∈ TBW) (hR : 1 ≤ R.frames ∧ (rest.map fun v => v.category).sum + 13 ≤ R.locals) (hkn : k ≤ R.cells ∧ n ≤ R.slots) (kk : J l own cc nL ret ini R Cx enc Sh k n σ (pc + 3) ls (.int (if y < x then y else x) :: rest) o) : J l own cc nL ret ini R Cx enc Sh k n σ pc ls (.int y :: .int x :: rest) o := fun res h p e s m args below meth c G A Q H locs lsA C K hW hS hl => va_mmin C.1 C.2.1 (C.2.2.1.trans hl.1.symm) C.2.2.2.2.1 (C.2.2.2.2.2.1 _ hlk) (C.2.2.2.2.2.1 _ mmin_st) (C.2.2.2.2.2.1 _ mm_ini) (C.2.2.2.2.2.1 _ mmin_code) hR.1 (by rw [map_cat]; exact hR.2) hkn.1 hkn.2 hd (kk res h p e s m args below meth c G A Q H locs lsA C K hW hS hl)
end Rows4
