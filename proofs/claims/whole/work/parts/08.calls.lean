/-! contracts and calls -/
def rmD (d mc ms : Nat) : Room := { frames := d, cells := mc, slots := ms, locals := 64 * d }
def wsU (y : MethodName) (b : ByteArray) (mL : Nat) (ret : Option FieldType) : List Cond := Cond.code y b mL ret :: TBW
def conQ (rs : jR) (G : jG) (Sh : List jC) (σ : jM) (sz : Nat) : Array Value → State → Outcome → State → Prop := fun _ st oc t =>
  (∃ G' : jG, jAg Sh.length rs.2.2.1.length G G' ∧ oc = .returned (rs.1.map (rnV G'.2.1)) ∧ Wd G' rs.2.2.1 rs.2.1 t (va_A (wsG G Sh σ) sz) t.heap) ∧ va_F (va_A (wsG G Sh σ) sz) st t
def conP (as : List Value) (G : jG) (Sh : List jC) (σ : jM) (sz : Nat) : Array Value → State → Prop := va_Pc (as.map (rnV G.2.1)) (fun U => U.heap.size = sz ∧ WEnv G.2.1 (va_A (wsG G Sh σ) sz) U U.heap ∧ Wd G Sh σ U (fun _ => True) U.heap)
def Con (l : Launch) (d : Nat) (y : MethodName) (b : ByteArray) (mL : Nat) (ret : Option FieldType) {ρ : Type} (enc : ρ → jR) (Sh : List jC) (as : List Value) (σ : jM) (o : Option ρ) : Prop :=
  ∀ res : ρ, o = some res → ∀ (G : jG) (sz : Nat), Met l y (wsU y b mL ret) (rmD d (enc res).2.2.2.1 (enc res).2.2.2.2) (conP as G Sh σ sz) (conQ (enc res) G Sh σ sz) (enc res).2.2.2.1 (enc res).2.2.2.2 (va_A (wsG G Sh σ) sz)
theorem Wd.moved {G : jG} {Sh : List jC} {σ : jM} {s t : State} {A : Nat → Prop} {H : Heap} (hv : s.vm.Alike t.vm) (h : Wd G Sh σ s A H) : Wd G Sh σ t A H :=
  ⟨h.1, va_K.moved hv h.2.1, h.2.2.1, fun k ty n hk => ⟨arrOfT_moved hv (h.2.2.2 k ty n hk).1, (h.2.2.2 k ty n hk).2.moved hv⟩⟩
theorem Wd.dom {G : jG} {Sh : List jC} {σ : jM} {s : State} {A B : Nat → Prop} {H : Heap} (h : Wd G Sh σ s A H) (hAB : ∀ (k : Nat) (q : Nat × va_E), (wsG G Sh σ)[k]? = some q → A q.1 → B q.1) : Wd G Sh σ s B H :=
  ⟨h.1, h.2.1, h.2.2.1.weaken hAB, h.2.2.2⟩
theorem lg_len : ∀ (as : List Value) (ad : Nat → Nat), (lg_sl (as.map (rnV ad))).length = (lvs as).length := by
  intro as ad
  induction as with
  | nil => rfl
  | cons a t ih =>
    simp only [List.map_cons, lg_sl, List.flatMap_cons, rnV_cat, List.length_append, lvs] at ih ⊢
    rw [ih]
    by_cases hc : a.category = 2
    · simp [hc]; omega
    · simp [hc]; omega
theorem Con_of {l : Launch} {d mc ms : Nat} {y : MethodName} {b : ByteArray} {mL : Nat} {ret : Option FieldType} {ini : Bool} {ρ : Type} {enc : ρ → jR} {Sh : List jC} {as : List Value} {σ : jM} {o : Option ρ} {ls0 : List (Option Value)}
    (hy : plainName y.cls = true) (hls : lvs as ++ List.replicate (mL - (lvs as).length) none = ls0) (hlen : (lvs as).length ≤ mL) (hini : ini = true → y.name = "<init>") (henc : ∀ r, o = some r → (enc r).2.2.2 = (mc, ms))
    (hJ : J l y.cls b mL ret ini (rmD d mc ms) noCx enc Sh 0 0 σ 0 ls0 [] o) : Con l d y b mL ret enc Sh as σ o := by
  intro res hres G sz
  have e1 : (enc res).2.2.2.1 = mc := by rw [henc res hres]
  have e2 : (enc res).2.2.2.2 = ms := by rw [henc res hres]
  rw [e1, e2]
  refine Met.ofW (cc := b) (maxL := mL) (ret := ret) hy rfl ?_
  intro p e s m args below meth c s₁ B hml hv
  obtain ⟨rfl, hsz, hE, hW⟩ := hv
  subst hsz
  have hts := atoms_spec (ws := wsU y b mL ret) B.pre
  have hlv := lv_entry (as.map (rnV G.2.1)) (n := mL) (by rw [lg_len]; exact hlen)
  rw [lg_entry_eq]
  have hK := hJ res hres p e s m (as.map (rnV G.2.1)).toArray below meth c G (va_A (wsG G Sh σ) s.heap.size) (MQ below (conQ (enc res) G Sh σ s.heap.size) (as.map (rnV G.2.1)).toArray s mc ms (va_A (wsG G Sh σ) s.heap.size)) s.heap [] _
    ⟨B.exec, B.bytes, hml, B.returns, findClass_of_methodNamed B.named, fun w hw => hts w (List.mem_cons_of_mem _ hw), B.notSynchronized, fun hi => (name_of_methodNamed B.named B.method).1.trans (hini hi), hE, trivial, fun q hq => Or.inr hq⟩
    (fun G' H' locs' pc' lsA' hag hW' hS' hr => ?_) (hW.dom (fun k q hk _ => va_A.in hk)) va_S.rf ⟨hlv.1, hlv.2.1, fun i v hi => ?_⟩
  · exact hK
  · have hwd : ∀ t : State, t.heap = H' → s.WarmedH t.vm → Wd G' (enc res).2.2.1 (enc res).2.1 t (va_A (wsG G Sh σ) s.heap.size) t.heap := fun t ht hw => by rw [ht]; exact hW'.moved hw.alike
    rw [e1, e2]
    rcases hr with ⟨hv, hret, hd⟩ | ⟨x, hv, ⟨ty, hret, hn⟩, hd⟩ | ⟨x, hv, hret, hd⟩ | ⟨x, hv, ⟨nm, hret⟩, hd⟩
    · rw [hv]
      exact W.vret B.exec B.bytes (B.returns.trans hret) (fun t ht hw => ⟨⟨G', hag, by rw [hv]; rfl, hwd t ht hw⟩, hS'.F ht⟩) hS'.2.2 hd
    · rw [hv]
      exact W.zret B.exec B.bytes (B.returns.trans hret) hn (fun t ht hw => ⟨⟨G', hag, by rw [hv]; rfl, hwd t ht hw⟩, hS'.F ht⟩) hS'.2.2 hd
    · rw [hv]
      exact W.lret B.exec B.bytes (B.returns.trans hret) (fun t ht hw => ⟨⟨G', hag, by rw [hv]; rfl, hwd t ht hw⟩, hS'.F ht⟩) hS'.2.2 hd
    · rw [hv]
      exact W.aret (v := .ref (G'.2.1 x)) B.exec B.bytes (B.returns.trans hret) (Or.inl ⟨nm, rfl⟩) (Or.inr ⟨_, rfl⟩) (fun t ht hw => ⟨⟨G', hag, by rw [hv]; rfl, hwd t ht hw⟩, hS'.F ht⟩) hS'.2.2 hd
  · refine hlv.2.2 (i, rnV G.2.1 v) ?_
    rw [← hls] at hi
    have h2 : (lvs as)[i]? = some (some v) := by
      by_cases hlt : i < (lvs as).length
      · rwa [List.getElem?_append_left hlt] at hi
      · rw [List.getElem?_append_right (by omega)] at hi
        have h3 := List.eq_of_mem_replicate (List.mem_of_getElem? hi)
        cases h3
    simpa using lvs_args (ad := G.2.1) (o := 0) h2
def Cal (y : MethodName) (b : ByteArray) (mL : Nat) (ret : Option FieldType) (nA : Nat) : Prop := Cond.code y b mL ret ∈ TBW ∧ Cond.initialized y.cls ∈ TBW ∧ y.cls ≠ "java/lang/invoke/MethodHandle" ∧ y.cls ≠ "java/lang/invoke/VarHandle" ∧ (parseMethodDescriptor y.desc).map (fun d => d.parameters.length) = some nA
def Lnk (own : String) (idx : Nat) (y : MethodName) : Prop := Cond.methodLink own idx y ∈ TBW ∨ ∃ host, Cond.methodLinkNest own idx y host ∈ NW
theorem wsU_good {y : MethodName} {b : ByteArray} {mL : Nat} {ret : Option FieldType} (h : Cond.code y b mL ret ∈ TBW) : GoodIn TBW (wsU y b mL ret) := by
  intro w hw
  rcases List.mem_cons.mp hw with rfl | hw
  · exact ⟨h, good_of_word (List.mem_filter.mp h).2⟩
  · exact ⟨hw, good_of_word (List.mem_filter.mp hw).2⟩
theorem conP_blind {as : List Value} {G : jG} {Sh : List jC} {σ : jM} {sz : Nat} : FrameBlind (conP as G Sh σ sz) := by
  intro a U g mk h
  obtain ⟨h1, h2, h3, h4⟩ := h
  have h5 : WEnv G.2.1 (va_A (wsG G Sh σ) sz) (U.calling g mk a) U.heap := WEnv.same (s := U) (U := U.calling g mk a) rfl h3
  have h6 : Wd G Sh σ (U.calling g mk a) (fun _ => True) U.heap := Wd.moved (s := U) (t := U.calling g mk a) (Vm.Alike.refl U.vm) h4
  exact ⟨h1, h2, h5, h6⟩
section Calls2
variable {p : Program} {l : Launch} {e : Jvm.Env} {R : Room} {s : State} {m : MethodId} {args : Array Value} {below : List Frame} {meth : Method} {c : Code} {G : jG} {A : Nat → Prop} {H : Heap} {locs : List Loc} {Sh : List jC} {σ : jM}
theorem conA {q : Nat} (hW : Wd G Sh σ s A H) (hS : va_S A s.heap H locs) (hA : ∀ q, s.heap.size ≤ q → A q) (h : va_A (wsG G Sh σ) H.size q) : A q := by
  rcases h with ⟨k, e, h⟩ | h
  · exact hW.2.2.1.2 k _ h
  · exact hA q (Nat.le_trans hS.1 h)
theorem conP_at {as : List Value} {U : State} (hE : WEnv G.2.1 A s s.heap) (hW : Wd G Sh σ s A H) (hS : va_S A s.heap H locs) (hA : ∀ q, s.heap.size ≤ q → A q) (hU : U.heap = H) (hw : s.WarmedH U.vm) : conP as G Sh σ H.size (as.map (rnV G.2.1)).toArray U := by
  refine ⟨rfl, by rw [hU], ?_, ?_⟩
  · rw [hU]
    exact ((hE.kept hS.2.1).narrow (fun q hq => conA hW hS hA hq)).warm hw
  · rw [hU]
    exact (hW.moved hw.alike).dom (fun _ _ _ _ => trivial)
theorem jv_call {Q : State → Prop} {k n mc ms : Nat} {pc : Nat} {lsA : Array Slot} {st0 rest : List Value} {rs : jR} {a : Array Value}
    (hr : va_Run p l e R s m args below meth c H locs k n mc ms (F0 m pc lsA st0) rest (conQ rs G Sh σ H.size a) (va_A (wsG G Sh σ) H.size)) (hW : Wd G Sh σ s A H) (hS : va_S A s.heap H locs) (hA : ∀ q, s.heap.size ≤ q → A q)
    (kk : ∀ (G' : jG) (H1 : Heap) (locs1 : List Loc), jAg Sh.length rs.2.2.1.length G G' → Wd G' rs.2.2.1 rs.2.1 s A H1 → va_S A s.heap H1 locs1 → W p l e R s m args below meth c H1 locs1 (k + mc) (n + ms) Q (F0 m (pc + 3) lsA ((rs.1.map (rnV G'.2.1)).toList ++ rest))) :
    W p l e R s m args below meth c H locs k n Q (F0 m pc lsA st0) := by
  intro T hT X
  obtain ⟨v, st₀, t, T', L, h0, X', hL, e1, e2, ⟨⟨G', hag, hv, hw⟩, hz, hk⟩, st⟩ := hr T hT X
  rw [h0] at hz hk
  cases hv
  have hal : s.vm.Alike t.vm := by rw [← e2]; exact X'.warmed.alike
  have hS1 : va_S A s.heap T'.heap (locs ++ L) := ⟨Nat.le_trans hS.1 (by rw [e1]; exact hz), fun q h1 h2 => by
      rw [e1, hk q (Nat.lt_of_lt_of_le h1 hS.1) (fun z => h2 (conA hW hS hA z))]
      exact hS.2.1 q h1 h2, fun q hq => by
      rcases List.mem_append.mp hq with h | h
      · exact hS.2.2 q h
      · exact conA hW hS hA (hL q h)⟩
  obtain ⟨t2, a1, b1⟩ := kk G' T'.heap (locs ++ L) hag (by rw [e1]; exact (hw.moved hal.symm).dom (fun k q _ h => conA hW hS hA h)) hS1 T' rfl X'
  exact ⟨t2, st t2 a1, b1⟩
def Rcv (Sh : List jC) (a : Nat) (C : String) : Prop := (∃ (ci : Nat) (sl : List jS) (q : vw_C), Sh[a]? = some (.inr (ci, sl)) ∧ vwCl[ci]? = some q ∧ q.1 = C) ∨ (∃ i, a = 1000 + i ∧ i < 8 ∧ C = "java/lang/String")
theorem Rcv.cell {a : Nat} {C : String} (h : Rcv Sh a C) (hE : WEnv G.2.1 A s s.heap) (hW : Wd G Sh σ s A H) (hS : va_S A s.heap H locs) : ∃ cell : Cell, H[G.2.1 a]? = some cell ∧ cell.vm.isStatics = false ∧ s.vm.findClass C = some cell.cls := by
  rcases h with ⟨ci, sl, q, h1, h2, rfl⟩ | ⟨i, rfl, hi, rfl⟩
  · exact va_recv hW.2.1 hW.1 h2 (wsG_at h1)
  · have h9 := vk_recv (i := i) hE.2.2.1 hi hS
    exact h9
variable {y : MethodName} {b cc : ByteArray} {mL nL mc ms nA idx d : Nat} {rt ret : Option FieldType} {own : String} {ini : Bool} {Cx : jG → State → (Nat → Prop) → Prop} {as rest : List Value} {pc k n : Nat} {lsA : Array Slot} {Qc : Array Value → State → Outcome → State → Prop} {free : Addr → Prop} {Pc : Array Value → State → Prop}
theorem run_S (C : Ctx own cc nL ret ini Cx p s m args meth c G A) (hM : Met l y (wsU y b mL rt) (rmD d mc ms) Pc Qc mc ms free) (hc : Cal y b mL rt nA) (hl : Lnk own idx y) (hst : Cond.static y ∈ TBW) (hp : PreS s H Pc as)
    (hn : as.length = nA) (hsz : lsA.size = nL) (hR : d + 1 ≤ R.frames ∧ 19 + mL + 64 * d ≤ R.locals) (hcat : (rest.map fun v => v.category).sum ≤ 8) (hf : k + mc ≤ R.cells ∧ n + ms ≤ R.slots) (hdg : decode cc pc = .ok (.invokestatic idx, 3)) :
    va_Run p l e R s m args below meth c H locs k n mc ms (F0 m pc lsA (as.reverse ++ rest)) rest (Qc as.toArray) free := by
  have hts := C.2.2.2.2.2.1
  have S : CallFix p m c cc nL s args TBW own := ⟨C.1, C.2.1, C.2.2.1, C.2.2.2.2.1, hts⟩
  have hpay := pay_in hts (wsU_good hc.1)
  have hlen : ∀ sig, parseMethodDescriptor y.desc = some sig → nA = sig.parameters.length := fun sig h => by
    have h2 := hc.2.2.2.2
    rw [h] at h2
    exact (Option.some.inj h2).symm
  have hlo : 8 + (mL + 11) + (rmD d mc ms).locals ≤ R.locals := by show 8 + (mL + 11) + 64 * d ≤ R.locals; omega
  rcases hl with hl | ⟨host, hl⟩
  · exact va_runS S hM ⟨⟨rfl, rfl, hR.1, hlo, hpay, List.mem_cons_self, hts _ hc.1, hts _ hc.2.1, ⟨hc.2.2.1, hc.2.2.2.1⟩, hlen, hts _ hl⟩, hts _ hst⟩ hp rfl hn hsz rfl (lv_room (pc := pc) (ls := lsA) hcat) hdg hf
  · exact va_runSN S hM ⟨⟨⟨rfl, rfl, hR.1, hlo, hpay, List.mem_cons_self⟩, hts _ hc.1, hts _ hc.2.1, ⟨hc.2.2.1, hc.2.2.2.1⟩, hlen, va_Nw.use rfl (C.2.2.2.2.2.2.2.2.1.1 _ hl)⟩, hts _ hst, trivial⟩ hp rfl hn hsz rfl (lv_room (pc := pc) (ls := lsA) hcat) hdg hf
theorem run_V {a : Nat} (C : Ctx own cc nL ret ini Cx p s m args meth c G A) (hM : Met l y (wsU y b mL rt) (rmD d mc ms) Pc Qc mc ms free) (hc : Cal y b mL rt nA) (hl : Lnk own idx y) (hin : Cond.instanceMethod y ∈ TBW) (hse : Cond.selects y.cls y y ∈ TBW) (hp : PreV s H y.cls a Pc as)
    (hn : as.length = nA) (hsz : lsA.size = nL) (hR : d + 1 ≤ R.frames ∧ 19 + mL + 64 * d ≤ R.locals) (hcat : (rest.map fun v => v.category).sum ≤ 8) (hf : k + mc ≤ R.cells ∧ n + ms ≤ R.slots) (hdg : decode cc pc = .ok (.invokevirtual idx, 3)) :
    va_Run p l e R s m args below meth c H locs k n mc ms (F0 m pc lsA (as.reverse ++ .ref a :: rest)) rest (Qc (Value.ref a :: as).toArray) free := by
  have hts := C.2.2.2.2.2.1
  have S : CallFix p m c cc nL s args TBW own := ⟨C.1, C.2.1, C.2.2.1, C.2.2.2.2.1, hts⟩
  have hpay := pay_in hts (wsU_good hc.1)
  have hlen : ∀ sig, parseMethodDescriptor y.desc = some sig → nA = sig.parameters.length := fun sig h => by
    have h2 := hc.2.2.2.2
    rw [h] at h2
    exact (Option.some.inj h2).symm
  have hlo : 8 + (mL + 11) + (rmD d mc ms).locals ≤ R.locals := by show 8 + (mL + 11) + 64 * d ≤ R.locals; omega
  rcases hl with hl | ⟨host, hl⟩
  · exact va_runV S hM ⟨⟨rfl, rfl, hR.1, hlo, hpay, List.mem_cons_self, hts _ hc.1, hts _ hc.2.1, ⟨hc.2.2.1, hc.2.2.2.1⟩, hlen, hts _ hl⟩, hts _ hin, hts _ hse⟩ hp rfl hn hsz rfl (lv_room (pc := pc) (ls := lsA) hcat) hdg hf
  · exact va_runVN S hM ⟨⟨⟨rfl, rfl, hR.1, hlo, hpay, List.mem_cons_self⟩, hts _ hc.1, hts _ hc.2.1, ⟨hc.2.2.1, hc.2.2.2.1⟩, hlen, va_Nw.use rfl (C.2.2.2.2.2.2.2.2.1.1 _ hl)⟩, hts _ hin, hts _ hse⟩ hp rfl hn hsz rfl (lv_room (pc := pc) (ls := lsA) hcat) hdg hf
theorem run_I {a : Nat} (C : Ctx own cc nL ret ini Cx p s m args meth c G A) (hM : Met l y (wsU y b mL none) (rmD d mc ms) Pc Qc mc ms free) (hc : Cal y b mL none nA) (hl : Lnk own idx y) (hin : Cond.instanceMethod y ∈ TBW) (hy1 : y.name = "<init>") (hp : PreS s H Pc (.ref a :: as))
    (hn : as.length = nA) (hsz : lsA.size = nL) (hR : d + 1 ≤ R.frames ∧ 19 + mL + 64 * d ≤ R.locals) (hcat : (rest.map fun v => v.category).sum ≤ 8) (hf : k + mc ≤ R.cells ∧ n + ms ≤ R.slots) (hdg : decode cc pc = .ok (.invokespecial idx, 3)) :
    va_Run p l e R s m args below meth c H locs k n mc ms (F0 m pc lsA (as.reverse ++ .ref a :: rest)) rest (Qc (Value.ref a :: as).toArray) free := by
  have hts := C.2.2.2.2.2.1
  have S : CallFix p m c cc nL s args TBW own := ⟨C.1, C.2.1, C.2.2.1, C.2.2.2.2.1, hts⟩
  have hpay := pay_in hts (wsU_good hc.1)
  have hlen : ∀ sig, parseMethodDescriptor y.desc = some sig → nA = sig.parameters.length := fun sig h => by
    have h2 := hc.2.2.2.2
    rw [h] at h2
    exact (Option.some.inj h2).symm
  have hlo : 8 + (mL + 11) + (rmD d mc ms).locals ≤ R.locals := by show 8 + (mL + 11) + 64 * d ≤ R.locals; omega
  rcases hl with hl | ⟨host, hl⟩
  · exact va_runI S hM ⟨⟨rfl, rfl, hR.1, hlo, hpay, List.mem_cons_self, hts _ hc.1, hts _ hc.2.1, ⟨hc.2.2.1, hc.2.2.2.1⟩, hlen, hts _ hl⟩, hy1, hts _ hin⟩ hp rfl hn hsz rfl (lv_room (pc := pc) (ls := lsA) hcat) hdg hf
  · exact va_runIN S hM ⟨⟨⟨rfl, rfl, hR.1, hlo, hpay, List.mem_cons_self⟩, hts _ hc.1, hts _ hc.2.1, ⟨hc.2.2.1, hc.2.2.2.1⟩, hlen, va_Nw.use rfl (C.2.2.2.2.2.2.2.2.1.1 _ hl)⟩, hy1, hts _ hin⟩ hp rfl hn hsz rfl (lv_room (pc := pc) (ls := lsA) hcat) hdg hf
end Calls2
theorem map_rev_app (ad : Nat → Nat) (as rest : List Value) : (as.reverse ++ rest).map (rnV ad) = (as.map (rnV ad)).reverse ++ rest.map (rnV ad) := by simp
theorem map_cat (ad : Nat → Nat) (l : List Value) : ((l.map (rnV ad)).map fun v => v.category) = l.map fun v => v.category := by simp [rnV_cat]
/-! encoders of results -/
def eI (Sh : List jC) (σ : jM) : Int32 → jR := fun r => (some (.int r), σ, Sh, 0, 0)
def eIM (Sh : List jC) : Int32 × jM → jR := fun r => (some (.int r.1), r.2, Sh, 0, 0)
def eL (Sh : List jC) (σ : jM) : Int64 → jR := fun r => (some (.long r), σ, Sh, 0, 0)
def eLM (Sh : List jC) : Int64 × jM → jR := fun r => (some (.long r.1), r.2, Sh, 0, 0)
def eV (Sh : List jC) : jM → jR := fun r => (none, r, Sh, 0, 0)
def eR (Sh : List jC) (σ : jM) : Nat → jR := fun r => (some (.ref r), σ, Sh, 0, 0)
section Calls3
variable {l : Launch} {own : String} {cc : ByteArray} {nL : Nat} {ret : Option FieldType} {ini : Bool} {R : Room} {Cx : jG → State → (Nat → Prop) → Prop} {ρ ρ' : Type} {enc : ρ → jR} {enc' : ρ' → jR} {Sh : List jC} {k n : Nat} {σ : jM} {pc : Nat} {ls : List (Option Value)} {rest st : List Value} {o' : Option ρ'} {f : ρ' → Option ρ}
variable {y : MethodName} {b : ByteArray} {mL nA idx d : Nat} {rt : Option FieldType}
theorem J_callS0 (as : List Value) (hd : decode cc pc = .ok (.invokestatic idx, 3)) (hc : Cal y b mL rt nA) (hl : Lnk own idx y) (hst : Cond.static y ∈ TBW) (hst0 : as.reverse ++ rest = st) (hn : as.length = nA) (hR : d + 1 ≤ R.frames ∧ 19 + mL + 64 * d ≤ R.locals) (hcat : (rest.map fun v => v.category).sum ≤ 8) (hkn : k ≤ R.cells ∧ n ≤ R.slots)
    (hcon : Con l d y b mL rt enc' Sh as σ o') (henc : ∀ r, ∃ rv σ', enc' r = (rv, σ', Sh, 0, 0))
    (kk : ∀ r, o' = some r → J l own cc nL ret ini R Cx enc Sh k n (enc' r).2.1 (pc + 3) ls ((enc' r).1.toList ++ rest) (f r)) : J l own cc nL ret ini R Cx enc Sh k n σ pc ls st (o'.bind f) := by
  intro res h p e s m args below meth c G A Q H locs lsA C K hW hS hlv
  cases ho : o' with
  | none => rw [ho] at h; cases h
  | some r =>
    rw [ho] at h
    have hM := hcon r ho G H.size
    obtain ⟨rv, σ', hr⟩ := henc r
    have k1 := kk r ho res h p e s m args below meth c G A Q
    rw [hr] at hM k1
    subst hst0
    rw [map_rev_app]
    refine jv_call (run_S C hM hc hl hst ⟨conP_blind, fun U hU hw => conP_at C.2.2.2.2.2.2.2.2.1 hW hS C.2.2.2.2.2.2.2.2.2.2 hU hw⟩ (by rw [List.length_map]; exact hn) hlv.1 hR (by rw [map_cat]; exact hcat) hkn hd) hW hS C.2.2.2.2.2.2.2.2.2.2 (fun G' H1 locs1 hag hW1 hS1 => ?_)
    have hG : G' = G := hag.2.2.2.2 rfl
    subst hG
    have k2 := k1 H1 locs1 lsA C K hW1 hS1 hlv
    cases rv with
    | none => exact k2
    | some v => exact k2
theorem J_callV0 (a : Nat) (as : List Value) (hd : decode cc pc = .ok (.invokevirtual idx, 3)) (hc : Cal y b mL rt nA) (hl : Lnk own idx y) (hin : Cond.instanceMethod y ∈ TBW ∧ Cond.selects y.cls y y ∈ TBW) (hrc : Rcv Sh a y.cls) (hst0 : as.reverse ++ .ref a :: rest = st) (hn : as.length = nA) (hR : d + 1 ≤ R.frames ∧ 19 + mL + 64 * d ≤ R.locals) (hcat : (rest.map fun v => v.category).sum ≤ 8) (hkn : k ≤ R.cells ∧ n ≤ R.slots)
    (hcon : Con l d y b mL rt enc' Sh (.ref a :: as) σ o') (henc : ∀ r, ∃ rv σ', enc' r = (rv, σ', Sh, 0, 0))
    (kk : ∀ r, o' = some r → J l own cc nL ret ini R Cx enc Sh k n (enc' r).2.1 (pc + 3) ls ((enc' r).1.toList ++ rest) (f r)) : J l own cc nL ret ini R Cx enc Sh k n σ pc ls st (o'.bind f) := by
  intro res h p e s m args below meth c G A Q H locs lsA C K hW hS hlv
  cases ho : o' with
  | none => rw [ho] at h; cases h
  | some r =>
    rw [ho] at h
    have hM := hcon r ho G H.size
    obtain ⟨rv, σ', hr⟩ := henc r
    have k1 := kk r ho res h p e s m args below meth c G A Q
    rw [hr] at hM k1
    subst hst0
    rw [map_rev_app]
    refine jv_call (run_V (a := G.2.1 a) C hM hc hl hin.1 hin.2 ⟨conP_blind, hrc.cell C.2.2.2.2.2.2.2.2.1 hW hS, fun U hU hw => conP_at (as := .ref a :: as) C.2.2.2.2.2.2.2.2.1 hW hS C.2.2.2.2.2.2.2.2.2.2 hU hw⟩ (by rw [List.length_map]; exact hn) hlv.1 hR (by rw [map_cat]; exact hcat) hkn hd) hW hS C.2.2.2.2.2.2.2.2.2.2 (fun G' H1 locs1 hag hW1 hS1 => ?_)
    have hG : G' = G := hag.2.2.2.2 rfl
    subst hG
    have k2 := k1 H1 locs1 lsA C K hW1 hS1 hlv
    cases rv with
    | none => exact k2
    | some v => exact k2
theorem J_callSI {o1 : Option Int32} {g : Int32 → Option ρ} (as : List Value) (hd : decode cc pc = .ok (.invokestatic idx, 3)) (hc : Cal y b mL rt nA) (hl : Lnk own idx y) (hst : Cond.static y ∈ TBW) (hst0 : as.reverse ++ rest = st) (hn : as.length = nA) (hR : d + 1 ≤ R.frames ∧ 19 + mL + 64 * d ≤ R.locals) (hcat : (rest.map fun v => v.category).sum ≤ 8) (hkn : k ≤ R.cells ∧ n ≤ R.slots) (hcon : Con l d y b mL rt (eI Sh σ) Sh as σ o1) (kk : ∀ r, o1 = some r → J l own cc nL ret ini R Cx enc Sh k n (σ) (pc + 3) ls (.int r :: rest) (g r)) : J l own cc nL ret ini R Cx enc Sh k n σ pc ls st (o1.bind g) := J_callS0 as hd hc hl hst hst0 hn hR hcat hkn hcon (fun r => ⟨_, _, rfl⟩) kk
theorem J_callVI {o1 : Option Int32} {g : Int32 → Option ρ} (a : Nat) (as : List Value) (hd : decode cc pc = .ok (.invokevirtual idx, 3)) (hc : Cal y b mL rt nA) (hl : Lnk own idx y) (hin : Cond.instanceMethod y ∈ TBW ∧ Cond.selects y.cls y y ∈ TBW) (hrc : Rcv Sh a y.cls) (hst0 : as.reverse ++ .ref a :: rest = st) (hn : as.length = nA) (hR : d + 1 ≤ R.frames ∧ 19 + mL + 64 * d ≤ R.locals) (hcat : (rest.map fun v => v.category).sum ≤ 8) (hkn : k ≤ R.cells ∧ n ≤ R.slots) (hcon : Con l d y b mL rt (eI Sh σ) Sh (.ref a :: as) σ o1) (kk : ∀ r, o1 = some r → J l own cc nL ret ini R Cx enc Sh k n (σ) (pc + 3) ls (.int r :: rest) (g r)) : J l own cc nL ret ini R Cx enc Sh k n σ pc ls st (o1.bind g) := J_callV0 a as hd hc hl hin hrc hst0 hn hR hcat hkn hcon (fun r => ⟨_, _, rfl⟩) kk
theorem J_callSIM {o1 : Option (Int32 × jM)} {g : (Int32 × jM) → Option ρ} (as : List Value) (hd : decode cc pc = .ok (.invokestatic idx, 3)) (hc : Cal y b mL rt nA) (hl : Lnk own idx y) (hst : Cond.static y ∈ TBW) (hst0 : as.reverse ++ rest = st) (hn : as.length = nA) (hR : d + 1 ≤ R.frames ∧ 19 + mL + 64 * d ≤ R.locals) (hcat : (rest.map fun v => v.category).sum ≤ 8) (hkn : k ≤ R.cells ∧ n ≤ R.slots) (hcon : Con l d y b mL rt (eIM Sh) Sh as σ o1) (kk : ∀ r, o1 = some r → J l own cc nL ret ini R Cx enc Sh k n (r.2) (pc + 3) ls (.int r.1 :: rest) (g r)) : J l own cc nL ret ini R Cx enc Sh k n σ pc ls st (o1.bind g) := J_callS0 as hd hc hl hst hst0 hn hR hcat hkn hcon (fun r => ⟨_, _, rfl⟩) kk
theorem J_callVIM {o1 : Option (Int32 × jM)} {g : (Int32 × jM) → Option ρ} (a : Nat) (as : List Value) (hd : decode cc pc = .ok (.invokevirtual idx, 3)) (hc : Cal y b mL rt nA) (hl : Lnk own idx y) (hin : Cond.instanceMethod y ∈ TBW ∧ Cond.selects y.cls y y ∈ TBW) (hrc : Rcv Sh a y.cls) (hst0 : as.reverse ++ .ref a :: rest = st) (hn : as.length = nA) (hR : d + 1 ≤ R.frames ∧ 19 + mL + 64 * d ≤ R.locals) (hcat : (rest.map fun v => v.category).sum ≤ 8) (hkn : k ≤ R.cells ∧ n ≤ R.slots) (hcon : Con l d y b mL rt (eIM Sh) Sh (.ref a :: as) σ o1) (kk : ∀ r, o1 = some r → J l own cc nL ret ini R Cx enc Sh k n (r.2) (pc + 3) ls (.int r.1 :: rest) (g r)) : J l own cc nL ret ini R Cx enc Sh k n σ pc ls st (o1.bind g) := J_callV0 a as hd hc hl hin hrc hst0 hn hR hcat hkn hcon (fun r => ⟨_, _, rfl⟩) kk
theorem J_callSL {o1 : Option Int64} {g : Int64 → Option ρ} (as : List Value) (hd : decode cc pc = .ok (.invokestatic idx, 3)) (hc : Cal y b mL rt nA) (hl : Lnk own idx y) (hst : Cond.static y ∈ TBW) (hst0 : as.reverse ++ rest = st) (hn : as.length = nA) (hR : d + 1 ≤ R.frames ∧ 19 + mL + 64 * d ≤ R.locals) (hcat : (rest.map fun v => v.category).sum ≤ 8) (hkn : k ≤ R.cells ∧ n ≤ R.slots) (hcon : Con l d y b mL rt (eL Sh σ) Sh as σ o1) (kk : ∀ r, o1 = some r → J l own cc nL ret ini R Cx enc Sh k n (σ) (pc + 3) ls (.long r :: rest) (g r)) : J l own cc nL ret ini R Cx enc Sh k n σ pc ls st (o1.bind g) := J_callS0 as hd hc hl hst hst0 hn hR hcat hkn hcon (fun r => ⟨_, _, rfl⟩) kk
theorem J_callVL {o1 : Option Int64} {g : Int64 → Option ρ} (a : Nat) (as : List Value) (hd : decode cc pc = .ok (.invokevirtual idx, 3)) (hc : Cal y b mL rt nA) (hl : Lnk own idx y) (hin : Cond.instanceMethod y ∈ TBW ∧ Cond.selects y.cls y y ∈ TBW) (hrc : Rcv Sh a y.cls) (hst0 : as.reverse ++ .ref a :: rest = st) (hn : as.length = nA) (hR : d + 1 ≤ R.frames ∧ 19 + mL + 64 * d ≤ R.locals) (hcat : (rest.map fun v => v.category).sum ≤ 8) (hkn : k ≤ R.cells ∧ n ≤ R.slots) (hcon : Con l d y b mL rt (eL Sh σ) Sh (.ref a :: as) σ o1) (kk : ∀ r, o1 = some r → J l own cc nL ret ini R Cx enc Sh k n (σ) (pc + 3) ls (.long r :: rest) (g r)) : J l own cc nL ret ini R Cx enc Sh k n σ pc ls st (o1.bind g) := J_callV0 a as hd hc hl hin hrc hst0 hn hR hcat hkn hcon (fun r => ⟨_, _, rfl⟩) kk
theorem J_callSLM {o1 : Option (Int64 × jM)} {g : (Int64 × jM) → Option ρ} (as : List Value) (hd : decode cc pc = .ok (.invokestatic idx, 3)) (hc : Cal y b mL rt nA) (hl : Lnk own idx y) (hst : Cond.static y ∈ TBW) (hst0 : as.reverse ++ rest = st) (hn : as.length = nA) (hR : d + 1 ≤ R.frames ∧ 19 + mL + 64 * d ≤ R.locals) (hcat : (rest.map fun v => v.category).sum ≤ 8) (hkn : k ≤ R.cells ∧ n ≤ R.slots) (hcon : Con l d y b mL rt (eLM Sh) Sh as σ o1) (kk : ∀ r, o1 = some r → J l own cc nL ret ini R Cx enc Sh k n (r.2) (pc + 3) ls (.long r.1 :: rest) (g r)) : J l own cc nL ret ini R Cx enc Sh k n σ pc ls st (o1.bind g) := J_callS0 as hd hc hl hst hst0 hn hR hcat hkn hcon (fun r => ⟨_, _, rfl⟩) kk
theorem J_callVLM {o1 : Option (Int64 × jM)} {g : (Int64 × jM) → Option ρ} (a : Nat) (as : List Value) (hd : decode cc pc = .ok (.invokevirtual idx, 3)) (hc : Cal y b mL rt nA) (hl : Lnk own idx y) (hin : Cond.instanceMethod y ∈ TBW ∧ Cond.selects y.cls y y ∈ TBW) (hrc : Rcv Sh a y.cls) (hst0 : as.reverse ++ .ref a :: rest = st) (hn : as.length = nA) (hR : d + 1 ≤ R.frames ∧ 19 + mL + 64 * d ≤ R.locals) (hcat : (rest.map fun v => v.category).sum ≤ 8) (hkn : k ≤ R.cells ∧ n ≤ R.slots) (hcon : Con l d y b mL rt (eLM Sh) Sh (.ref a :: as) σ o1) (kk : ∀ r, o1 = some r → J l own cc nL ret ini R Cx enc Sh k n (r.2) (pc + 3) ls (.long r.1 :: rest) (g r)) : J l own cc nL ret ini R Cx enc Sh k n σ pc ls st (o1.bind g) := J_callV0 a as hd hc hl hin hrc hst0 hn hR hcat hkn hcon (fun r => ⟨_, _, rfl⟩) kk
theorem J_callSV {o1 : Option jM} {g : jM → Option ρ} (as : List Value) (hd : decode cc pc = .ok (.invokestatic idx, 3)) (hc : Cal y b mL rt nA) (hl : Lnk own idx y) (hst : Cond.static y ∈ TBW) (hst0 : as.reverse ++ rest = st) (hn : as.length = nA) (hR : d + 1 ≤ R.frames ∧ 19 + mL + 64 * d ≤ R.locals) (hcat : (rest.map fun v => v.category).sum ≤ 8) (hkn : k ≤ R.cells ∧ n ≤ R.slots) (hcon : Con l d y b mL rt (eV Sh) Sh as σ o1) (kk : ∀ r, o1 = some r → J l own cc nL ret ini R Cx enc Sh k n (r) (pc + 3) ls (rest) (g r)) : J l own cc nL ret ini R Cx enc Sh k n σ pc ls st (o1.bind g) := J_callS0 as hd hc hl hst hst0 hn hR hcat hkn hcon (fun r => ⟨_, _, rfl⟩) kk
theorem J_callVV {o1 : Option jM} {g : jM → Option ρ} (a : Nat) (as : List Value) (hd : decode cc pc = .ok (.invokevirtual idx, 3)) (hc : Cal y b mL rt nA) (hl : Lnk own idx y) (hin : Cond.instanceMethod y ∈ TBW ∧ Cond.selects y.cls y y ∈ TBW) (hrc : Rcv Sh a y.cls) (hst0 : as.reverse ++ .ref a :: rest = st) (hn : as.length = nA) (hR : d + 1 ≤ R.frames ∧ 19 + mL + 64 * d ≤ R.locals) (hcat : (rest.map fun v => v.category).sum ≤ 8) (hkn : k ≤ R.cells ∧ n ≤ R.slots) (hcon : Con l d y b mL rt (eV Sh) Sh (.ref a :: as) σ o1) (kk : ∀ r, o1 = some r → J l own cc nL ret ini R Cx enc Sh k n (r) (pc + 3) ls (rest) (g r)) : J l own cc nL ret ini R Cx enc Sh k n σ pc ls st (o1.bind g) := J_callV0 a as hd hc hl hin hrc hst0 hn hR hcat hkn hcon (fun r => ⟨_, _, rfl⟩) kk
theorem J_callSR {o1 : Option Nat} {g : Nat → Option ρ} (as : List Value) (hd : decode cc pc = .ok (.invokestatic idx, 3)) (hc : Cal y b mL rt nA) (hl : Lnk own idx y) (hst : Cond.static y ∈ TBW) (hst0 : as.reverse ++ rest = st) (hn : as.length = nA) (hR : d + 1 ≤ R.frames ∧ 19 + mL + 64 * d ≤ R.locals) (hcat : (rest.map fun v => v.category).sum ≤ 8) (hkn : k ≤ R.cells ∧ n ≤ R.slots) (hcon : Con l d y b mL rt (eR Sh σ) Sh as σ o1) (kk : ∀ r, o1 = some r → J l own cc nL ret ini R Cx enc Sh k n (σ) (pc + 3) ls (.ref r :: rest) (g r)) : J l own cc nL ret ini R Cx enc Sh k n σ pc ls st (o1.bind g) := J_callS0 as hd hc hl hst hst0 hn hR hcat hkn hcon (fun r => ⟨_, _, rfl⟩) kk
theorem J_callVR {o1 : Option Nat} {g : Nat → Option ρ} (a : Nat) (as : List Value) (hd : decode cc pc = .ok (.invokevirtual idx, 3)) (hc : Cal y b mL rt nA) (hl : Lnk own idx y) (hin : Cond.instanceMethod y ∈ TBW ∧ Cond.selects y.cls y y ∈ TBW) (hrc : Rcv Sh a y.cls) (hst0 : as.reverse ++ .ref a :: rest = st) (hn : as.length = nA) (hR : d + 1 ≤ R.frames ∧ 19 + mL + 64 * d ≤ R.locals) (hcat : (rest.map fun v => v.category).sum ≤ 8) (hkn : k ≤ R.cells ∧ n ≤ R.slots) (hcon : Con l d y b mL rt (eR Sh σ) Sh (.ref a :: as) σ o1) (kk : ∀ r, o1 = some r → J l own cc nL ret ini R Cx enc Sh k n (σ) (pc + 3) ls (.ref r :: rest) (g r)) : J l own cc nL ret ini R Cx enc Sh k n σ pc ls st (o1.bind g) := J_callV0 a as hd hc hl hin hrc hst0 hn hR hcat hkn hcon (fun r => ⟨_, _, rfl⟩) kk
end Calls3
