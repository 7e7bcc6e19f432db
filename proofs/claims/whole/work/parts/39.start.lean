/-! THE CLAIM OUT OF ONE WALK OF THE LAW'S BODY. Your part is whole_start (and what it stands on); all else here is the same for every law, but numbers. -/
def R_law : String := "OddBridgeLaw"
def lw_P (b : Addr) (xs : List Int32) (args : Array Value) (s : State) : Prop := args = #[.ref b] ∧ s.IntsAt b xs ∧ xs.length ≤ 2048 ∧ (Jvm.Cond.and given_1 narrow_1).before args s = true
def lw_Q (_ : Array Value) (s : State) (o : Outcome) (t : State) : Prop := o = .returned (some (.int 1)) ∧ Framed s o t [] 600000 7302250
def lw_Z (below : List Frame) (a : Array Value) (s : State) : State → Prop := fun t => ∃ o, t.status = .running ∧ Ended t below o ∧ lw_Q a s o t
/-- the law's own end, with 1 on the stack, nothing written that was there before, its room as the claim has it -/
theorem lw_ret {p : Program} {l : Launch} {e : Env} {s : State} {m : MethodId} {below : List Frame} {meth : Method} {c : Code} {b : Nat} (hx : p.tables.exec = Jvm.exec) (hb : c.code = code) (hr : meth.sig.returnType = ret) (hlocks : meth.locks = false) {pc : Nat} {H : Heap} {ls : Array Slot} (hdg : decode code pc = .ok (.ireturn, 1)) : W p l e room_1 s m #[Value.ref b] below meth c H [] 600000 7302250 (lw_Z below #[Value.ref b] s) (F0 m pc ls [.int 1]) := by
  intro T hT X
  obtain ⟨fs, hret, hrun, hended, hW, hframe⟩ := X.leave (v := some (.int 1)) (hlocks := hlocks) (fun h => by rw [hr] at h; cases h)
  have hmeth' : T.vm.method? m = some meth := X.method'
  refine ⟨T.setFrames fs, ?_, .returned (some (.int 1)), hrun, hended, rfl, ⟨_, rfl⟩, hW, hframe⟩
  jvm_step X.here [X.here.top, hx, hb, hdg, hmeth', hr, ret, narrow_b1]
  (try refine ⟨rfl, ?_⟩); (try refine ⟨rfl, ?_⟩)
  first | (intro acts; rw [hret _ acts rfl rfl rfl]) | rw [hret _ _ rfl rfl rfl]
  exact Steps.refl _
/-- what holds at the law's entry: the machine, the code, the tables' words (any of lw_tbl by 'hts w (by decide +kernel)'), the script of L ints xs at the cell b, what the Statement gives of the start (any of its parts by flat_of_before) -/
def lw_At (p : Program) (s : State) (m : MethodId) (meth : Method) (c : Code) (b L : Nat) (xs : Nat → Int32) : Prop :=
  p.tables.exec = Jvm.exec ∧ c.code = code ∧ meth.sig.returnType = ret ∧ c.maxLocals = 4 ∧ s.vm.findClass R_law = some m.cls ∧ (∀ w ∈ lw_tbl, w.before #[Value.ref b] s = true) ∧ va_X b L xs s s.heap ∧ b < s.heap.size ∧ meth.locks = false ∧ (Jvm.Cond.and given_1 narrow_1).before #[Value.ref b] s = true
def sidx : List Nat := [89, 120, 109, 87, 82, 77, 72, 59]
def stm (i : Nat) : Term := Term.string "OddBridge$Vow" (sidx.getD i 0)
abbrev Fl : List Cond := flatC (Jvm.Cond.and given_1 narrow_1)
set_option maxRecDepth 100000 in
theorem fl_ex : ∀ i, i < 8 → Cond.exactly (stm i) "java/lang/String" ∈ Fl := by decide +kernel
set_option maxRecDepth 100000 in
theorem fl_co : ∀ i, i < 8 → Cond.eq (.field (stm i) "java/lang/String" "coder" "B") (.int 0) ∈ Fl := by decide +kernel
set_option maxRecDepth 100000 in
theorem fl_ar : ∀ i, i < 8 → Cond.arrayOf (.field (stm i) "java/lang/String" "value" "[B") .byte ∈ Fl := by decide +kernel
set_option maxRecDepth 100000 in
theorem fl_le : ∀ i, i < 8 → Cond.eq (.length (.field (stm i) "java/lang/String" "value" "[B")) (.int (Int32.ofNat (leS.getD i 0))) ∈ Fl := by decide +kernel
set_option maxRecDepth 100000 in
theorem fl_el : ∀ i, i < 8 → ∀ j, j < leS.getD i 0 → Cond.eq (.elem (.field (stm i) "java/lang/String" "value" "[B") (.int (Int32.ofNat j))) (.int ((byS.getD i []).getD j 0)) ∈ Fl := by decide +kernel
set_option maxRecDepth 100000 in
theorem fl_ne : ∀ i, i < 8 → ∀ j, j < 8 → i ≠ j → Cond.not (Cond.eq (stm i) (stm j)) ∈ Fl ∨ Cond.not (Cond.eq (stm j) (stm i)) ∈ Fl := by decide +kernel
set_option maxRecDepth 100000 in
theorem fl_bA : Cond.arrayOf (.static "OddBridge" "BROUGHT" "[I") .int ∈ Fl := by decide +kernel
set_option maxRecDepth 100000 in
theorem fl_bL : Cond.eq (.length (.static "OddBridge" "BROUGHT" "[I")) (.int (Int32.ofNat 40)) ∈ Fl := by decide +kernel
set_option maxRecDepth 100000 in
theorem fl_bE : ∀ j, j < 40 → Cond.eq (.elem (.static "OddBridge" "BROUGHT" "[I") (.int (Int32.ofNat j))) (.int (brS.getD j 0)) ∈ Fl := by decide +kernel
set_option maxRecDepth 100000 in
theorem fl_cs : Cond.eq (.static "java/lang/String" "COMPACT_STRINGS" "Z") (.int 1) ∈ Fl := by decide +kernel
def z0 : jM := (fun _ _ => 0, fun _ _ => 0)
set_option maxHeartbeats 4000000 in
set_option maxRecDepth 100000 in
theorem whole_open {p : Program} {e : Jvm.Env} {s : State} {m : MethodId} {below : List Frame} {meth : Method} {c : Code} (l : Launch) {b L : Nat} {xs : Nat → Int32} (hpure : ∃ (N : Nat) (s' : jM), f_law N L xs z0 = some (1, s')) (C0 : lw_At p s m meth c b L xs) : W p l e room_1 s m #[Value.ref b] below meth c s.heap [] 0 0 (lw_Z below #[Value.ref b] s) (entryFrame m ([Value.ref b] : List Value).toArray 4) := by
  obtain ⟨hx, hb, hr, hml, hown, hts, hX, hbl, hlocks, hgv⟩ := id C0
  obtain ⟨N, s', hlaw⟩ := hpure
  have hf := flat_of_before _ hgv
  have hts2 : ∀ w ∈ TBW, w.before #[Value.ref b] s = true := fun w hw => hts w (List.mem_filter.mp hw).1
  have hA0 : ∀ a : Nat, a < s.heap.size → ¬ (fun q : Nat => s.heap.size ≤ q) a := fun a h => Nat.not_le.mpr h
  obtain ⟨c0, i0, hKn0⟩ := u_known (C := RX0) (T := TX0) (N := 15) (n := 15) hts2 uin_0 (hts _ (List.mem_of_getElem? w_441))
  obtain ⟨c1, i1, hKn1⟩ := u_known (C := RX1) (T := TX1) (N := 9) (n := 9) hts2 uin_1 (hts _ (List.mem_of_getElem? w_401))
  obtain ⟨c2, i2, hKn2⟩ := u_known (C := RX2) (T := TX2) (N := 2) (n := 2) hts2 uin_2 (hts _ (List.mem_of_getElem? w_513))
  obtain ⟨c3, i3, hKn3⟩ := u_known (C := RX3) (T := TX3) (N := 2) (n := 2) hts2 uin_3 (hts _ (List.mem_of_getElem? w_500))
  obtain ⟨c4, i4, hKn4⟩ := u_known (C := RX4) (T := TX4) (N := 6) (n := 6) hts2 uin_4 (hts _ (List.mem_of_getElem? w_375))
  obtain ⟨c5, i5, hKn5⟩ := u_known (C := RX5) (T := TX5) (N := 13) (n := 13) hts2 uin_5 (hts _ (List.mem_of_getElem? w_112))
  obtain ⟨c6, i6, hKn6⟩ := u_known (C := RX6) (T := TX6) (N := 9) (n := 9) hts2 uin_6 (hts _ (List.mem_of_getElem? w_179))
  obtain ⟨c7, i7, hKn7⟩ := u_known (C := RX7) (T := TX7) (N := 15) (n := 15) hts2 uin_7 (hts _ (List.mem_of_getElem? w_104))
  obtain ⟨c8, i8, hKn8⟩ := u_known (C := RX8) (T := TX8) (N := 27) (n := 27) hts2 uin_8 (hts _ (List.mem_of_getElem? w_873))
  obtain ⟨dC, dI, hKc⟩ : ∃ (dC : Nat → ClassId) (dI : Nat → Nat → Nat), ∀ (k : Nat) (q : vw_C), vwCl[k]? = some q → u_Kn s q.1 q.2.1 q.2.2 (dC k) (dI k) := by
    refine ⟨fun k => if k = 0 then c0 else (if k = 1 then c1 else (if k = 2 then c2 else (if k = 3 then c3 else (if k = 4 then c4 else (if k = 5 then c5 else (if k = 6 then c6 else (if k = 7 then c7 else (c8)))))))), fun k => if k = 0 then i0 else (if k = 1 then i1 else (if k = 2 then i2 else (if k = 3 then i3 else (if k = 4 then i4 else (if k = 5 then i5 else (if k = 6 then i6 else (if k = 7 then i7 else (i8)))))))), ?_⟩
    intro k q hq
    match k, hq with
    | 0, hq => cases hq; exact hKn0
    | 1, hq => cases hq; exact hKn1
    | 2, hq => cases hq; exact hKn2
    | 3, hq => cases hq; exact hKn3
    | 4, hq => cases hq; exact hKn4
    | 5, hq => cases hq; exact hKn5
    | 6, hq => cases hq; exact hKn6
    | 7, hq => cases hq; exact hKn7
    | 8, hq => cases hq; exact hKn8
    | k + 9, hq => simp [vwCl] at hq
  obtain ⟨adK, adV, hS8, hev⟩ := vk_Sof (N := 8) (tm := stm) (len := leS) (byt := byS) (A := fun q : Nat => s.heap.size ≤ q) (args := #[Value.ref b]) (s := s) (by decide) (fun i hi => hf _ (fl_ex i hi)) (fun i hi => hf _ (fl_co i hi)) (fun i hi => hf _ (fl_ar i hi)) (fun i hi => hf _ (fl_le i hi)) (fun i hi j hj => hf _ (fl_el i hi j hj)) (fun i j hi hj hn => (fl_ne i hi j hj hn).imp (hf _) (hf _)) hA0
  obtain ⟨tB, htB, hTB⟩ := va_Tof (tm := .static "OddBridge" "BROUGHT" "[I") (ty := .int) (N := 40) (f := fun j => .int (brS.getD j 0)) (A := fun q : Nat => s.heap.size ≤ q) (by decide) (hf _ fl_bA) (va_eqt (hf _ fl_bL)) (fun j hj => va_eqt (hf _ (fl_bE j hj))) hA0
  have hZB := va_Zof (C := "OddBridge") (n := "BROUGHT") (d := "[I") (A := fun q : Nat => s.heap.size ≤ q) (hts _ (List.mem_of_getElem? (i := 632) (by decide +kernel))) (hts _ (List.mem_of_getElem? w_85)) htB hA0
  have hZC := va_Zof (C := "java/lang/String") (n := "COMPACT_STRINGS") (d := "Z") (A := fun q : Nat => s.heap.size ≤ q) (hts _ (List.mem_of_getElem? (i := 238) (by decide +kernel))) (hts _ (List.mem_of_getElem? w_88)) (va_eqt (hf _ fl_cs)) hA0
  obtain ⟨ad, a1, a2, a3, a4⟩ : ∃ ad : Nat → Nat, (∀ i, i < 8 → ad (1000 + i) = adK i) ∧ (∀ i, i < 8 → ad (2000 + i) = adV i) ∧ ad 3000 = tB ∧ ad 3001 = b := by
    refine ⟨fun k => if k = 3001 then b else if k = 3000 then tB else if 2000 ≤ k then adV (k - 2000) else adK (k - 1000), fun i hi => ?_, fun i hi => ?_, rfl, rfl⟩
    · show (if 1000 + i = 3001 then b else if 1000 + i = 3000 then tB else if 2000 ≤ 1000 + i then adV (1000 + i - 2000) else adK (1000 + i - 1000)) = adK i
      rw [if_neg (by omega), if_neg (by omega), if_neg (by omega), Nat.add_sub_cancel_left]
    · show (if 2000 + i = 3001 then b else if 2000 + i = 3000 then tB else if 2000 ≤ 2000 + i then adV (2000 + i - 2000) else adK (2000 + i - 1000)) = adV i
      rw [if_neg (by omega), if_neg (by omega), if_pos (by omega), Nat.add_sub_cancel_left]
  have hEnv : WEnv ad (fun q : Nat => s.heap.size ≤ q) s s.heap := by
    refine ⟨fun w hw => ?_, fun q hq => ?_, ⟨fun i hi => ?_, fun i j hi hj he => ?_⟩, hZC, by rw [a3]; exact hZB, by rw [a3]; exact hTB⟩
    · have h1 : isNestW w = true := (List.mem_filter.mp hw).2
      have h2 := hts w (List.mem_filter.mp hw).1
      cases w with
      | fieldLinkNest a i b n d h0 => exact va_Nw.of rfl h2
      | methodLinkNest a i x h0 => exact va_Nw.of rfl h2
      | _ => cases h1
    · simp only [srS, List.mem_cons, List.not_mem_nil, or_false] at hq
      rcases hq with rfl | rfl | rfl | rfl | rfl | rfl | rfl | rfl
      · show vk_R "OddBridge$Vow" 89 "!-" (ad (1000 + 0)) s
        rw [a1 0 (by decide)]
        exact vk_R.of (hts _ (List.mem_of_getElem? (i := 212) (by decide +kernel))) (hev 0 (by decide))
      · show vk_R "OddBridge$Vow" 120 ")" (ad (1000 + 1)) s
        rw [a1 1 (by decide)]
        exact vk_R.of (hts _ (List.mem_of_getElem? (i := 334) (by decide +kernel))) (hev 1 (by decide))
      · show vk_R "OddBridge$Vow" 109 "pbudl" (ad (1000 + 2)) s
        rw [a1 2 (by decide)]
        exact vk_R.of (hts _ (List.mem_of_getElem? (i := 335) (by decide +kernel))) (hev 2 (by decide))
      · show vk_R "OddBridge$Vow" 87 "*/" (ad (1000 + 3)) s
        rw [a1 3 (by decide)]
        exact vk_R.of (hts _ (List.mem_of_getElem? (i := 336) (by decide +kernel))) (hev 3 (by decide))
      · show vk_R "OddBridge$Vow" 82 "+-" (ad (1000 + 4)) s
        rw [a1 4 (by decide)]
        exact vk_R.of (hts _ (List.mem_of_getElem? (i := 337) (by decide +kernel))) (hev 4 (by decide))
      · show vk_R "OddBridge$Vow" 77 "<>=" (ad (1000 + 5)) s
        rw [a1 5 (by decide)]
        exact vk_R.of (hts _ (List.mem_of_getElem? (i := 338) (by decide +kernel))) (hev 5 (by decide))
      · show vk_R "OddBridge$Vow" 72 "&" (ad (1000 + 6)) s
        rw [a1 6 (by decide)]
        exact vk_R.of (hts _ (List.mem_of_getElem? (i := 339) (by decide +kernel))) (hev 6 (by decide))
      · show vk_R "OddBridge$Vow" 59 "|" (ad (1000 + 7)) s
        rw [a1 7 (by decide)]
        exact vk_R.of (hts _ (List.mem_of_getElem? (i := 340) (by decide +kernel))) (hev 7 (by decide))
    · have h := hS8.1 i hi
      show va_O "java/lang/String" (ad (1000 + i)) _ s s.heap ∧ va_OF "java/lang/String" "coder" "B" (.int 0) (ad (1000 + i)) _ s s.heap ∧ va_OF "java/lang/String" "value" "[B" (.ref (ad (2000 + i))) (ad (1000 + i)) _ s s.heap ∧ va_T .byte (ad (2000 + i)) (leS.getD i 0) (fun j => .int ((byS.getD i []).getD j 0)) _ s s.heap
      rw [a1 i hi, a2 i hi]
      exact h
    · have he : ad (1000 + i) = ad (1000 + j) := he
      rw [a1 i hi, a1 j hj] at he
      exact hS8.2 i j hi hj he
  have hcx : lawCx L xs ((dC, dI), ad, fun _ => dC 0) s (fun q : Nat => s.heap.size ≤ q) := by
    unfold lawCx
    show va_X (ad 3001) L xs s s.heap ∧ ad 3001 < s.heap.size ∧ ¬ s.heap.size ≤ ad 3001
    rw [a4]
    exact ⟨hX, hbl, Nat.not_le.mpr hbl⟩
  have hlv := lv_entry ([.ref b]) (n := 4) (Nat.le_of_ble_eq_true rfl)
  rw [lg_entry_eq]
  have hJ := J_law l N L xs z0 (1, s') hlaw p e s m #[Value.ref b] below meth c ((dC, dI), ad, fun _ => dC 0) (fun q : Nat => s.heap.size ≤ q) (lw_Z below #[Value.ref b] s) s.heap [] _
    ⟨hx, hb, hml, hr, hown, hts2, hlocks, (fun h => by cases h), hEnv, hcx, fun q hq => hq⟩
    (fun G' H' locs' pc' lsA' hag hW' hS' hrt => ?_)
    ⟨fun k q h => (by simp [wsG] at h), ⟨hKc, fun k q h => by simp at h⟩, ⟨fun i j p q h => (by simp [wsG] at h), fun k q h => (by simp [wsG] at h)⟩, fun k ty n h => (by simp at h)⟩ va_S.rf
    ⟨hlv.1, hlv.2.1, fun i v hi => ?_⟩
  · exact hJ
  · rcases hrt with ⟨hv, -⟩ | ⟨x, hv, -, hd⟩ | ⟨x, hv, -⟩ | ⟨x, hv, -⟩
    · cases hv
    · refine va_forget (fun q hq => hS'.2.2 q hq) (W.widen (k := 600000) (n := 7302250) (Nat.le_of_ble_eq_true rfl) (Nat.le_of_ble_eq_true rfl) ?_)
      exact lw_ret hx hb hr hlocks hd
    · cases hv
    · cases hv
  · match i, hi with
    | 0, hi =>
      cases hi
      show _ = some (Slot.val (.ref (ad 3001)))
      rw [a4]
      exact hlv.2.2 (0, .ref b) List.mem_cons_self
    | 1, hi => cases hi
    | 2, hi => cases hi
    | 3, hi => cases hi
    | i + 4, hi => simp at hi
