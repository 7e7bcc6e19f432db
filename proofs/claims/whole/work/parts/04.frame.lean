/-! THE PURE MACHINE: a memory of ints and longs by (cell, place), a fixed shape of the heap, and the judgement J over it -/
abbrev jM : Type := (Nat → Nat → Int32) × (Nat → Nat → Int64)
abbrev jS : Type := Option (Option (Option Nat))
abbrev jC : Type := (FieldType × Nat) ⊕ (Nat × List jS)
abbrev jG : Type := va_G × (Nat → Nat) × (Nat → ClassId)
def gI (σ : jM) (c i : Nat) : Int32 := σ.1 c i
def gL (σ : jM) (c i : Nat) : Int64 := σ.2 c i
def gC (σ : jM) (c i : Nat) : Int32 := vp_nar .char (σ.1 c i)
def pI (σ : jM) (c i : Nat) (v : Int32) : jM := (fun a => if a = c then upd (σ.1 c) i v else σ.1 a, σ.2)
def pL (σ : jM) (c i : Nat) (v : Int64) : jM := (σ.1, fun a => if a = c then vp_updL (σ.2 c) i v else σ.2 a)
def cpI (σ : jM) (a b sp dp n : Nat) : jM := (fun c => if c = b then va_cpy (σ.1 a) (σ.1 b) sp dp n else σ.1 c, σ.2)
def rnV (ad : Nat → Nat) : Value → Value
  | .ref k => .ref (ad k)
  | v => v
def slV (ad : Nat → Nat) (σ : jM) (k i : Nat) : jS → Value
  | none => .int (σ.1 k i)
  | some none => .long (σ.2 k i)
  | some (some none) => .null
  | some (some (some r)) => .ref (ad r)
def arA (σ : jM) (k n : Nat) : FieldType → vp_A
  | .long => (n, .inr (.inl (σ.2 k)))
  | .char => (n, .inl (fun j => vp_nar .char (σ.1 k j)))
  | _ => (n, .inl (σ.1 k))
def ceE (ad : Nat → Nat) (ca : Nat → ClassId) (σ : jM) (k : Nat) : jC → va_E
  | .inl q => .inl (ca k, arA σ k q.2 q.1)
  | .inr q => .inr (q.1, q.2.mapIdx (fun i d => slV ad σ k i d))
def wsG (G : jG) (Sh : List jC) (σ : jM) : va_W := Sh.mapIdx (fun k c => (G.2.1 k, ceE G.2.1 G.2.2 σ k c))
theorem wsG_at {G : jG} {Sh : List jC} {σ : jM} {k : Nat} {c : jC} (h : Sh[k]? = some c) : (wsG G Sh σ)[k]? = some (G.2.1 k, ceE G.2.1 G.2.2 σ k c) := by
  unfold wsG
  rw [List.getElem?_mapIdx, h]
  rfl
theorem wsG_of {G : jG} {Sh : List jC} {σ : jM} {k : Nat} {q : Nat × va_E} (h : (wsG G Sh σ)[k]? = some q) : ∃ c, Sh[k]? = some c ∧ q = (G.2.1 k, ceE G.2.1 G.2.2 σ k c) := by
  unfold wsG at h
  rw [List.getElem?_mapIdx] at h
  cases hc : Sh[k]? with
  | none => rw [hc] at h; cases h
  | some c => rw [hc] at h; exact ⟨c, rfl, (Option.some.inj h).symm⟩
def Wd (G : jG) (Sh : List jC) (σ : jM) (s : State) (A : Nat → Prop) (H : Heap) : Prop :=
  va_P G.1 vwCl (wsG G Sh σ) H ∧ va_K G.1 vwCl [] s ∧ va_D A (wsG G Sh σ) ∧ ∀ (k : Nat) (ty : FieldType) (n : Nat), Sh[k]? = some (.inl (ty, n)) → ArrOfT s (G.2.2 k) ty ∧ va_RA s (G.2.2 k) ty
/-! the words -/
def isNestW : Cond → Bool
  | .fieldLinkNest _ _ _ _ _ _ => true
  | .methodLinkNest _ _ _ _ => true
  | _ => false
def TBW : List Cond := lw_tbl.filter goodWord
def NW : List Cond := lw_tbl.filter isNestW
theorem mTB {w : Cond} (i : Nat) (h : lw_tbl[i]? = some w) (g : goodWord w = true) : w ∈ TBW := List.mem_filter.mpr ⟨List.mem_of_getElem? h, g⟩
theorem mNW {w : Cond} (i : Nat) (h : lw_tbl[i]? = some w) (g : isNestW w = true) : w ∈ NW := List.mem_filter.mpr ⟨List.mem_of_getElem? h, g⟩
theorem nw_warm {w : Cond} (hw : w ∈ NW) {s U : State} (hW : s.WarmedH U.vm) (h : va_Nw w s) : va_Nw w U := by
  have h1 : isNestW w = true := (List.mem_filter.mp hw).2
  cases w with
  | fieldLinkNest a i b n d h0 => exact va_Nw.warmF hW h
  | methodLinkNest a i x h0 => exact va_Nw.warmM hW h
  | _ => cases h1
theorem nw_same {w : Cond} (hw : w ∈ NW) {s U : State} (hv : s.vm = U.vm) (h : va_Nw w s) : va_Nw w U := by
  have h1 : isNestW w = true := (List.mem_filter.mp hw).2
  cases w with
  | fieldLinkNest a i b n d h0 => exact va_Nw.same rfl hv h
  | methodLinkNest a i x h0 => exact va_Nw.same rfl hv h
  | _ => cases h1
/-! what lies outside the world and is only read: the texts (1000 + i, their bytes 2000 + i), the row BROUGHT (3000) -/
def srS : List (String × Nat × String × Nat) := [("OddBridge$Vow", 89, "!-", 0), ("OddBridge$Vow", 120, ")", 1), ("OddBridge$Vow", 109, "pbudl", 2), ("OddBridge$Vow", 87, "*/", 3), ("OddBridge$Vow", 82, "+-", 4), ("OddBridge$Vow", 77, "<>=", 5), ("OddBridge$Vow", 72, "&", 6), ("OddBridge$Vow", 59, "|", 7)]
def byS : List (List Int32) := [[33, 45], [41], [112, 98, 117, 100, 108], [42, 47], [43, 45], [60, 62, 61], [38], [124]]
def leS : List Nat := [2, 1, 5, 2, 2, 3, 1, 1]
def brS : List Int32 := [1, 0, 0, 0, 0, 1, 0, 1, 0, 0, 1, 2, 0, 0, 0, 1, 0, 0, 1, 0, 1, 0, 0, 0, 1, 0, 0, 0, 0, 0, 1, 0, 0, 1, 2, 1, 1, 2, 0, 0]
def WEnv (ad : Nat → Nat) (A : Nat → Prop) (U : State) (H : Heap) : Prop :=
  (∀ w ∈ NW, va_Nw w U) ∧ (∀ q ∈ srS, vk_R q.1 q.2.1 q.2.2.1 (ad (1000 + q.2.2.2)) U) ∧ vk_S 8 leS byS (fun i => ad (1000 + i)) (fun i => ad (2000 + i)) A U H ∧ va_Z "java/lang/String" "COMPACT_STRINGS" "Z" (.int 1) A U H ∧ va_Z "OddBridge" "BROUGHT" "[I" (.ref (ad 3000)) A U H ∧ va_T .int (ad 3000) 40 (fun j => .int (brS.getD j 0)) A U H
theorem WEnv.warm {ad : Nat → Nat} {A : Nat → Prop} {s U : State} {H : Heap} (hW : s.WarmedH U.vm) (h : WEnv ad A s H) : WEnv ad A U H :=
  ⟨fun w hw => nw_warm hw hW (h.1 w hw), fun q hq => (h.2.1 q hq).warm hW, h.2.2.1.moved hW.alike, h.2.2.2.1.moved hW.alike, h.2.2.2.2.1.moved hW.alike, h.2.2.2.2.2.moved hW.alike⟩
theorem WEnv.same {ad : Nat → Nat} {A : Nat → Prop} {s U : State} {H : Heap} (hv : s.vm = U.vm) (h : WEnv ad A s H) : WEnv ad A U H := by
  have ha : s.vm.Alike U.vm := by rw [hv]; exact Vm.Alike.refl _
  exact ⟨fun w hw => nw_same hw hv (h.1 w hw), fun q hq => (h.2.1 q hq).same hv.symm, h.2.2.1.moved ha, h.2.2.2.1.moved ha, h.2.2.2.2.1.moved ha, h.2.2.2.2.2.moved ha⟩
theorem WEnv.kept {ad : Nat → Nat} {A : Nat → Prop} {U : State} {H H1 : Heap} (h : WEnv ad A U H) (hq : ∀ a : Nat, a < H.size → ¬ A a → H1[a]? = H[a]?) : WEnv ad A U H1 :=
  ⟨h.1, h.2.1, h.2.2.1.kept hq, h.2.2.2.1.kept hq, h.2.2.2.2.1.kept hq, h.2.2.2.2.2.kept hq⟩
theorem WEnv.narrow {ad : Nat → Nat} {A B : Nat → Prop} {U : State} {H : Heap} (h : WEnv ad A U H) (hAB : ∀ q, B q → A q) : WEnv ad B U H :=
  ⟨h.1, h.2.1, h.2.2.1.narrow hAB, h.2.2.2.1.narrow hAB, h.2.2.2.2.1.narrow hAB, h.2.2.2.2.2.narrow hAB⟩
theorem WEnv.re {ad ad' : Nat → Nat} {A : Nat → Prop} {U : State} {H : Heap} (he : ∀ k, 1000 ≤ k → ad' k = ad k) (h : WEnv ad A U H) : WEnv ad' A U H := by
  have e1 : (fun i => ad' (1000 + i)) = fun i => ad (1000 + i) := funext fun i => he _ (by omega)
  have e2 : (fun i => ad' (2000 + i)) = fun i => ad (2000 + i) := funext fun i => he _ (by omega)
  have e3 : ad' 3000 = ad 3000 := he _ (by omega)
  exact ⟨h.1, fun q hq => by rw [he _ (by omega)]; exact h.2.1 q hq, by rw [e1, e2]; exact h.2.2.1, h.2.2.2.1, by rw [e3]; exact h.2.2.2.2.1, by rw [e3]; exact h.2.2.2.2.2⟩
/-! locals -/
def LV (ad : Nat → Nat) (lsA : Array Slot) (nL : Nat) (ls : List (Option Value)) : Prop := lsA.size = nL ∧ lv_wf lsA ∧ ∀ (i : Nat) (v : Value), ls[i]? = some (some v) → lsA[i]? = some (.val (rnV ad v))
def kl2 : Option Value → Option Value
  | some v => if v.category = 2 then none else some v
  | none => none
def stI : List (Option Value) → Nat → Value → List (Option Value)
  | [], _, _ => []
  | _ :: t, 0, v => some v :: t
  | a :: t, i + 1, v => (if i = 0 then kl2 a else a) :: stI t i v
def kl0 : List (Option Value) → List (Option Value)
  | [] => []
  | _ :: t => none :: t
def stL : List (Option Value) → Nat → Value → List (Option Value)
  | [], _, _ => []
  | _ :: t, 0, v => some v :: kl0 t
  | a :: t, i + 1, v => (if i = 0 then kl2 a else a) :: stL t i v
def asl (ad : Nat → Nat) : Nat → List (Option Value) → List (Nat × Value)
  | _, [] => []
  | i, some v :: t => (i, rnV ad v) :: asl ad (i + 1) t
  | i, none :: t => asl ad (i + 1) t
theorem asl_mem {ad : Nat → Nat} : ∀ {ls : List (Option Value)} {o i : Nat} {v : Value}, ls[i]? = some (some v) → (o + i, rnV ad v) ∈ asl ad o ls := by
  intro ls
  induction ls with
  | nil => intro o i v h; simp at h
  | cons a t ih =>
    intro o i v h
    cases i with
    | zero =>
      simp at h
      subst h
      exact List.mem_cons_self
    | succ i =>
      have h2 : t[i]? = some (some v) := by simpa using h
      have h3 := ih (o := o + 1) h2
      have e : o + 1 + i = o + (i + 1) := by omega
      rw [e] at h3
      cases a with
      | none => exact h3
      | some w => exact List.mem_cons_of_mem _ h3
theorem asl_of {ad : Nat → Nat} : ∀ {ls : List (Option Value)} {o : Nat} {q : Nat × Value}, q ∈ asl ad o ls → ∃ i v, ls[i]? = some (some v) ∧ q = (o + i, rnV ad v) := by
  intro ls
  induction ls with
  | nil => intro o q h; cases h
  | cons a t ih =>
    intro o q h
    cases a with
    | none =>
      obtain ⟨i, v, h1, h2⟩ := ih (o := o + 1) h
      exact ⟨i + 1, v, by simpa using h1, by rw [h2]; congr 1; omega⟩
    | some w =>
      rcases List.mem_cons.mp h with h | h
      · exact ⟨0, w, by simp, by rw [h]; rfl⟩
      · obtain ⟨i, v, h1, h2⟩ := ih (o := o + 1) h
        exact ⟨i + 1, v, by simpa using h1, by rw [h2]; congr 1; omega⟩
theorem LV.has {ad : Nat → Nat} {lsA : Array Slot} {nL : Nat} {ls : List (Option Value)} (h : LV ad lsA nL ls) : lv_has lsA nL (asl ad 0 ls) := by
  refine ⟨h.1, h.2.1, fun q hq => ?_⟩
  obtain ⟨i, v, h1, h2⟩ := asl_of hq
  rw [h2]
  simp only [Nat.zero_add]
  exact h.2.2 i v h1
theorem LV.at {ad : Nat → Nat} {lsA : Array Slot} {nL : Nat} {ls : List (Option Value)} (h : LV ad lsA nL ls) {i : Nat} {v : Value} (hi : ls[i]? = some (some v)) : lsA[i]? = some (.val (rnV ad v)) := h.2.2 i v hi
theorem rnV_cat (ad : Nat → Nat) (v : Value) : (rnV ad v).category = v.category := by cases v <;> rfl
theorem kl2_some {a : Option Value} {w : Value} (h : kl2 a = some w) : a = some w ∧ ¬ w.category = 2 := by
  cases a with
  | none => cases h
  | some v =>
    simp only [kl2] at h
    split at h
    · cases h
    · rename_i hc; cases h; exact ⟨rfl, hc⟩
theorem stI_at : ∀ {ls : List (Option Value)} {i : Nat} {v : Value} {j : Nat} {w : Value}, (stI ls i v)[j]? = some (some w) → (j = i ∧ w = v) ∨ (j ≠ i ∧ ls[j]? = some (some w) ∧ ¬ (j + 1 = i ∧ w.category = 2)) := by
  intro ls
  induction ls with
  | nil => intro i v j w h; simp [stI] at h
  | cons a t ih =>
    intro i v j w h
    cases i with
    | zero =>
      cases j with
      | zero => simp [stI] at h; exact Or.inl ⟨rfl, h.symm⟩
      | succ j => simp [stI] at h; exact Or.inr ⟨by omega, by simpa using h, by omega⟩
    | succ i =>
      cases j with
      | zero =>
        simp only [stI, List.getElem?_cons_zero, Option.some.injEq] at h
        refine Or.inr ⟨by omega, ?_, ?_⟩
        · split at h
          · simp [(kl2_some h).1]
          · simp [h]
        · intro hc
          split at h
          · exact (kl2_some h).2 hc.2
          · omega
      | succ j =>
        simp only [stI, List.getElem?_cons_succ] at h
        rcases ih h with ⟨h1, h2⟩ | ⟨h1, h2, h3⟩
        · exact Or.inl ⟨by omega, h2⟩
        · exact Or.inr ⟨by omega, by simpa using h2, by rintro ⟨h4, h5⟩; exact h3 ⟨by omega, h5⟩⟩
theorem stL_at : ∀ {ls : List (Option Value)} {i : Nat} {v : Value} {j : Nat} {w : Value}, (stL ls i v)[j]? = some (some w) → (j = i ∧ w = v) ∨ (j ≠ i ∧ j ≠ i + 1 ∧ ls[j]? = some (some w) ∧ ¬ (j + 1 = i ∧ w.category = 2)) := by
  intro ls
  induction ls with
  | nil => intro i v j w h; simp [stL] at h
  | cons a t ih =>
    intro i v j w h
    cases i with
    | zero =>
      cases j with
      | zero => simp [stL] at h; exact Or.inl ⟨rfl, h.symm⟩
      | succ j =>
        simp only [stL, List.getElem?_cons_succ] at h
        cases t with
        | nil => simp [kl0] at h
        | cons b t =>
          cases j with
          | zero => simp [kl0] at h
          | succ j => simp [kl0] at h; exact Or.inr ⟨by omega, by omega, by simpa using h, by omega⟩
    | succ i =>
      cases j with
      | zero =>
        simp only [stL, List.getElem?_cons_zero, Option.some.injEq] at h
        refine Or.inr ⟨by omega, by omega, ?_, ?_⟩
        · split at h
          · simp [(kl2_some h).1]
          · simp [h]
        · intro hc
          split at h
          · exact (kl2_some h).2 hc.2
          · omega
      | succ j =>
        simp only [stL, List.getElem?_cons_succ] at h
        rcases ih h with ⟨h1, h2⟩ | ⟨h1, h2, h3, h4⟩
        · exact Or.inl ⟨by omega, h2⟩
        · exact Or.inr ⟨by omega, by omega, by simpa using h3, by rintro ⟨h5, h6⟩; exact h4 ⟨by omega, h6⟩⟩
theorem LV.stI {ad : Nat → Nat} {lsB : Array Slot} {nL : Nat} {ls : List (Option Value)} {i : Nat} {v : Value} (h : lv_has lsB nL ((i, rnV ad v) :: (asl ad 0 ls).filter (fun q => !(q.1 == i) && !(q.1 + 1 == i && q.2.category == 2)))) : LV ad lsB nL (stI ls i v) := by
  refine ⟨h.1, h.2.1, fun j w hj => ?_⟩
  rcases stI_at hj with ⟨rfl, rfl⟩ | ⟨h1, h2, h3⟩
  · exact h.2.2 _ List.mem_cons_self
  · refine h.2.2 (j, rnV ad w) (List.mem_cons_of_mem _ (List.mem_filter.mpr ⟨by simpa using asl_mem (ad := ad) (o := 0) h2, ?_⟩))
    simp only [rnV_cat, Bool.and_eq_true, Bool.not_eq_true', beq_eq_false_iff_ne, Bool.and_eq_false_iff]
    refine ⟨h1, ?_⟩
    by_cases hc : j + 1 = i
    · exact Or.inr (fun h4 => h3 ⟨hc, h4⟩)
    · exact Or.inl hc
theorem LV.stL {ad : Nat → Nat} {lsB : Array Slot} {nL : Nat} {ls : List (Option Value)} {i : Nat} {v : Value} (h : lv_has lsB nL ((i, rnV ad v) :: (asl ad 0 ls).filter (fun q => !(q.1 == i) && (!(q.1 == i + 1) && !(q.1 + 1 == i && q.2.category == 2))))) : LV ad lsB nL (stL ls i v) := by
  refine ⟨h.1, h.2.1, fun j w hj => ?_⟩
  rcases stL_at hj with ⟨rfl, rfl⟩ | ⟨h1, h2, h3, h4⟩
  · exact h.2.2 _ List.mem_cons_self
  · refine h.2.2 (j, rnV ad w) (List.mem_cons_of_mem _ (List.mem_filter.mpr ⟨by simpa using asl_mem (ad := ad) (o := 0) h3, ?_⟩))
    simp only [rnV_cat, Bool.and_eq_true, Bool.not_eq_true', beq_eq_false_iff_ne, Bool.and_eq_false_iff]
    refine ⟨h1, h2, ?_⟩
    by_cases hc : j + 1 = i
    · exact Or.inr (fun h5 => h4 ⟨hc, h5⟩)
    · exact Or.inl hc
/-- fewer locals known -/
def lsub : List (Option Value) → List (Option Value) → Prop
  | [], _ => True
  | none :: t, b => lsub t (b.drop 1)
  | some v :: t, b => b.head? = some (some v) ∧ lsub t (b.drop 1)
theorem lsub_at : ∀ {l1 l2 : List (Option Value)}, lsub l1 l2 → ∀ (i : Nat) (v : Value), l1[i]? = some (some v) → l2[i]? = some (some v) := by
  intro l1
  induction l1 with
  | nil => intro l2 _ i v h; simp at h
  | cons a t ih =>
    intro l2 hs i v h
    have hd : ∀ j, (l2.drop 1)[j]? = l2[j + 1]? := fun j => by rw [List.getElem?_drop]; congr 1; omega
    cases i with
    | zero =>
      simp at h
      subst h
      have := hs.1
      rwa [List.head?_eq_getElem?] at this
    | succ i =>
      have h2 : t[i]? = some (some v) := by simpa using h
      cases a with
      | none => rw [← hd]; exact ih hs i v h2
      | some w => rw [← hd]; exact ih hs.2 i v h2
theorem LV.sub {ad : Nat → Nat} {lsA : Array Slot} {nL : Nat} {l1 l2 : List (Option Value)} (h : LV ad lsA nL l2) (hs : lsub l1 l2) : LV ad lsA nL l1 := ⟨h.1, h.2.1, fun i v hi => h.2.2 i v (lsub_at hs i v hi)⟩
/-- the locals with which a method begins -/
def lvs : List Value → List (Option Value)
  | [] => []
  | v :: t => if v.category = 2 then some v :: none :: lvs t else some v :: lvs t
theorem lvs_args {ad : Nat → Nat} : ∀ {as : List Value} {o i : Nat} {v : Value}, (lvs as)[i]? = some (some v) → (o + i, rnV ad v) ∈ lv_args o (as.map (rnV ad)) := by
  intro as
  induction as with
  | nil => intro o i v h; simp [lvs] at h
  | cons a t ih =>
    intro o i v h
    simp only [List.map_cons, lv_args, rnV_cat]
    by_cases hc : a.category = 2
    · simp only [lvs, hc, if_true] at h ⊢
      match i, h with
      | 0, h => simp at h; subst h; exact List.mem_cons_self
      | 1, h => simp at h
      | i + 2, h =>
        have h2 : (lvs t)[i]? = some (some v) := by simpa using h
        have h3 := ih (o := o + 2) h2
        have e : o + 2 + i = o + (i + 2) := by omega
        rw [e] at h3
        exact List.mem_cons_of_mem _ h3
    · simp only [lvs, hc, if_false] at h ⊢
      match i, h with
      | 0, h => simp at h; subst h; exact List.mem_cons_self
      | i + 1, h =>
        have h2 : (lvs t)[i]? = some (some v) := by simpa using h
        have h3 := ih (o := o + 1) h2
        have e : o + 1 + i = o + (i + 1) := by omega
        rw [e] at h3
        exact List.mem_cons_of_mem _ h3
