section LawRows
variable {l : Launch} {own : String} {cc : ByteArray} {nL : Nat} {ret : Option FieldType} {ini : Bool} {R : Room} {ρ : Type} {enc : ρ → jR} {Sh : List jC} {k n : Nat} {σ : jM} {pc : Nat} {ls : List (Option Value)} {rest : List Value} {o o2 : Option ρ} {L : Nat} {xs : Nat → Int32}
def lawCx (L : Nat) (xs : Nat → Int32) : jG → State → (Nat → Prop) → Prop := fun G s A => va_X (G.2.1 3001) L xs s s.heap ∧ G.2.1 3001 < s.heap.size ∧ ¬ A (G.2.1 3001)
theorem lawCx_ok : okCx (lawCx L xs) := fun G G' s A h hc => by
  unfold lawCx at *
  rw [h 3001 (by omega)]
  exact hc
theorem J_sld {i : Int32} (hd : decode cc pc = .ok (.iaload, 1)) (kk : J l own cc nL ret ini R (lawCx L xs) enc Sh k n σ (pc + 1) ls (.int (xs i.toNatClampNeg) :: rest) o) : J l own cc nL ret ini R (lawCx L xs) enc Sh k n σ pc ls (.int i :: .ref 3001 :: rest) (gd (ib i L) o) := J_gd (fun hi => fun res h p e s m args below meth c G A Q H locs lsA C K hW hS hl =>
  va_sld C.1 C.2.1 C.2.2.2.2.2.2.2.2.2.1.1 C.2.2.2.2.2.2.2.2.2.1.2.1 C.2.2.2.2.2.2.2.2.2.1.2.2 hS (ib_in hi) hd (kk res h p e s m args below meth c G A Q H locs lsA C K hW hS hl))
theorem J_slen (hd : decode cc pc = .ok (.arraylength, 1)) (kk : J l own cc nL ret ini R (lawCx L xs) enc Sh k n σ (pc + 1) ls (.int (Int32.ofNat L) :: rest) o) : J l own cc nL ret ini R (lawCx L xs) enc Sh k n σ pc ls (.ref 3001 :: rest) o := fun res h p e s m args below meth c G A Q H locs lsA C K hW hS hl =>
  va_slen C.1 C.2.1 C.2.2.2.2.2.2.2.2.2.1.1 C.2.2.2.2.2.2.2.2.2.1.2.1 C.2.2.2.2.2.2.2.2.2.1.2.2 hS hd (kk res h p e s m args below meth c G A Q H locs lsA C K hW hS hl)
end LawRows
def eLaw : Int32 × jM → jR := fun r => (some (.int r.1), r.2, SH, 71, 5782)
def lp_law_18 (N : Nat) (L : Nat) (xs : Nat → Int32)  : Nat → Int32 → jM → Option (Int32 × jM)
  | 0, _, _ => none
  | q + 1, x5, s6 => if ((Int32.ofNat L) - (4 : Int32)) < x5 then (some ((1 : Int32), s6)) else (jn_ (fun (s9 : jM) => lt_ (x5 + (4 : Int32)) fun x11 => lp_law_18 N L xs q x11 s9) fun j10 => gd (ib x5 L) <| if ((xs (Int32.toNatClampNeg x5)) &&& (31 : Int32)) = (0 : Int32) then (gd (ib (x5 + (1 : Int32)) L) <| gd (ib (x5 + (2 : Int32)) L) <| gd (ib (x5 + (3 : Int32)) L) <| Option.bind (f_X7_walker (xs (Int32.toNatClampNeg (x5 + (1 : Int32)))) (xs (Int32.toNatClampNeg (x5 + (2 : Int32)))) (xs (Int32.toNatClampNeg (x5 + (3 : Int32)))) s6) fun r13 => gd (ib (x5 + (1 : Int32)) L) <| gd (ib (x5 + (2 : Int32)) L) <| gd (ib (x5 + (3 : Int32)) L) <| Option.bind (f_X8_walker (xs (Int32.toNatClampNeg (x5 + (1 : Int32)))) (xs (Int32.toNatClampNeg (x5 + (2 : Int32)))) (xs (Int32.toNatClampNeg (x5 + (3 : Int32)))) r13.2) fun r14 => if r13.1 = r14.1 then (j10 r14.2) else (some ((0 : Int32), r14.2))) else if ((xs (Int32.toNatClampNeg x5)) &&& (31 : Int32)) = (1 : Int32) then (gd (ib (x5 + (1 : Int32)) L) <| gd (ib (x5 + (2 : Int32)) L) <| Option.bind (f_X7_put (xs (Int32.toNatClampNeg (x5 + (1 : Int32)))) (xs (Int32.toNatClampNeg (x5 + (2 : Int32)))) s6) fun r17 => gd (ib (x5 + (1 : Int32)) L) <| gd (ib (x5 + (2 : Int32)) L) <| Option.bind (f_X8_put (xs (Int32.toNatClampNeg (x5 + (1 : Int32)))) (xs (Int32.toNatClampNeg (x5 + (2 : Int32)))) r17.2) fun r18 => if r17.1 = r18.1 then (j10 r18.2) else (some ((0 : Int32), r18.2))) else if ((xs (Int32.toNatClampNeg x5)) &&& (31 : Int32)) = (2 : Int32) then (gd (ib (x5 + (1 : Int32)) L) <| Option.bind (f_X7_write N (xs (Int32.toNatClampNeg (x5 + (1 : Int32)))) s6) fun r21 => gd (ib (x5 + (1 : Int32)) L) <| Option.bind (f_X8_write (xs (Int32.toNatClampNeg (x5 + (1 : Int32)))) r21.2) fun r22 => if r21.1 = r22.1 then (j10 r22.2) else (some ((0 : Int32), r22.2))) else if ((xs (Int32.toNatClampNeg x5)) &&& (31 : Int32)) = (3 : Int32) then (Option.bind (f_X7_erase N s6) fun r25 => Option.bind (f_X8_erase r25.2) fun r26 => if r25.1 = r26.1 then (j10 r26.2) else (some ((0 : Int32), r26.2))) else if ((xs (Int32.toNatClampNeg x5)) &&& (31 : Int32)) = (4 : Int32) then (Option.bind (f_X7_fault s6) fun r29 => Option.bind (f_X8_fault N s6) fun r30 => if r29 = r30.1 then (j10 r30.2) else (some ((0 : Int32), r30.2))) else if ((xs (Int32.toNatClampNeg x5)) &&& (31 : Int32)) = (5 : Int32) then (gd (ib (x5 + (1 : Int32)) L) <| gd (ib (x5 + (2 : Int32)) L) <| Option.bind (f_X7_brings N (xs (Int32.toNatClampNeg (x5 + (1 : Int32)))) (xs (Int32.toNatClampNeg (x5 + (2 : Int32)))) s6) fun r33 => gd (ib (x5 + (1 : Int32)) L) <| gd (ib (x5 + (2 : Int32)) L) <| Option.bind (f_X8_brings N (xs (Int32.toNatClampNeg (x5 + (1 : Int32)))) (xs (Int32.toNatClampNeg (x5 + (2 : Int32)))) r33.2) fun r34 => if r33.1 = r34.1 then (j10 r34.2) else (some ((0 : Int32), r34.2))) else if ((xs (Int32.toNatClampNeg x5)) &&& (31 : Int32)) = (6 : Int32) then (gd (ib (x5 + (1 : Int32)) L) <| gd (ib (x5 + (2 : Int32)) L) <| Option.bind (f_X7_well N (xs (Int32.toNatClampNeg (x5 + (1 : Int32)))) (xs (Int32.toNatClampNeg (x5 + (2 : Int32)))) s6) fun r37 => gd (ib (x5 + (1 : Int32)) L) <| gd (ib (x5 + (2 : Int32)) L) <| Option.bind (f_X8_well N (xs (Int32.toNatClampNeg (x5 + (1 : Int32)))) (xs (Int32.toNatClampNeg (x5 + (2 : Int32)))) r37.2) fun r38 => if r37.1 = r38.1 then (j10 r38.2) else (some ((0 : Int32), r38.2))) else if ((xs (Int32.toNatClampNeg x5)) &&& (31 : Int32)) = (7 : Int32) then (gd (ib (x5 + (1 : Int32)) L) <| Option.bind (f_X7_on N (xs (Int32.toNatClampNeg (x5 + (1 : Int32)))) s6) fun r41 => gd (ib (x5 + (1 : Int32)) L) <| Option.bind (f_X8_on N (xs (Int32.toNatClampNeg (x5 + (1 : Int32)))) r41.2) fun r42 => if r41.1 = r42.1 then (j10 r42.2) else (some ((0 : Int32), r42.2))) else if ((xs (Int32.toNatClampNeg x5)) &&& (31 : Int32)) = (8 : Int32) then (gd (ib (x5 + (1 : Int32)) L) <| gd (ib (x5 + (2 : Int32)) L) <| Option.bind (f_X7_stepped N (xs (Int32.toNatClampNeg (x5 + (1 : Int32)))) (xs (Int32.toNatClampNeg (x5 + (2 : Int32)))) s6) fun r45 => gd (ib (x5 + (1 : Int32)) L) <| gd (ib (x5 + (2 : Int32)) L) <| Option.bind (f_X8_stepped N (xs (Int32.toNatClampNeg (x5 + (1 : Int32)))) (xs (Int32.toNatClampNeg (x5 + (2 : Int32)))) r45.2) fun r46 => if r45.1 = r46.1 then (j10 r46.2) else (some ((0 : Int32), r46.2))) else if ((xs (Int32.toNatClampNeg x5)) &&& (31 : Int32)) = (9 : Int32) then (gd (ib (x5 + (1 : Int32)) L) <| Option.bind (f_X7_faulty N (xs (Int32.toNatClampNeg (x5 + (1 : Int32)))) s6) fun r49 => gd (ib (x5 + (1 : Int32)) L) <| Option.bind (f_X8_faulty N (xs (Int32.toNatClampNeg (x5 + (1 : Int32)))) r49.2) fun r50 => if r49.1 = r50.1 then (j10 r50.2) else (some ((0 : Int32), r50.2))) else if ((xs (Int32.toNatClampNeg x5)) &&& (31 : Int32)) = (10 : Int32) then (gd (ib (x5 + (1 : Int32)) L) <| Option.bind (f_X7_least N (xs (Int32.toNatClampNeg (x5 + (1 : Int32)))) s6) fun r53 => gd (ib (x5 + (1 : Int32)) L) <| Option.bind (f_X8_least N (xs (Int32.toNatClampNeg (x5 + (1 : Int32)))) r53.2) fun r54 => if r53.1 = r54.1 then (j10 r54.2) else (some ((0 : Int32), r54.2))) else if ((xs (Int32.toNatClampNeg x5)) &&& (31 : Int32)) = (11 : Int32) then (gd (ib (x5 + (1 : Int32)) L) <| Option.bind (f_X7_row N (xs (Int32.toNatClampNeg (x5 + (1 : Int32)))) s6) fun r57 => gd (ib (x5 + (1 : Int32)) L) <| Option.bind (f_X8_row N (xs (Int32.toNatClampNeg (x5 + (1 : Int32)))) r57.2) fun r58 => if r57.1 = r58.1 then (j10 r58.2) else (some ((0 : Int32), r58.2))) else if ((xs (Int32.toNatClampNeg x5)) &&& (31 : Int32)) = (12 : Int32) then (gd (ib (x5 + (1 : Int32)) L) <| gd (ib (x5 + (2 : Int32)) L) <| Option.bind (f_X7_toll N (xs (Int32.toNatClampNeg (x5 + (1 : Int32)))) (xs (Int32.toNatClampNeg (x5 + (2 : Int32)))) s6) fun r61 => gd (ib (x5 + (1 : Int32)) L) <| gd (ib (x5 + (2 : Int32)) L) <| Option.bind (f_X8_toll N (xs (Int32.toNatClampNeg (x5 + (1 : Int32)))) (xs (Int32.toNatClampNeg (x5 + (2 : Int32)))) r61.2) fun r62 => if r61.1 = r62.1 then (j10 r62.2) else (some ((0 : Int32), r62.2))) else if ((xs (Int32.toNatClampNeg x5)) &&& (31 : Int32)) = (13 : Int32) then (gd (ib (x5 + (1 : Int32)) L) <| gd (ib (x5 + (2 : Int32)) L) <| Option.bind (f_X7_doubt (xs (Int32.toNatClampNeg (x5 + (1 : Int32)))) (xs (Int32.toNatClampNeg (x5 + (2 : Int32)))) s6) fun r65 => gd (ib (x5 + (1 : Int32)) L) <| gd (ib (x5 + (2 : Int32)) L) <| Option.bind (f_X8_doubt (xs (Int32.toNatClampNeg (x5 + (1 : Int32)))) (xs (Int32.toNatClampNeg (x5 + (2 : Int32)))) r65.2) fun r66 => if r65.1 = r66.1 then (j10 r66.2) else (some ((0 : Int32), r66.2))) else if ((xs (Int32.toNatClampNeg x5)) &&& (31 : Int32)) = (14 : Int32) then (gd (ib (x5 + (1 : Int32)) L) <| Option.bind (f_X7_odd N (xs (Int32.toNatClampNeg (x5 + (1 : Int32)))) s6) fun r69 => gd (ib (x5 + (1 : Int32)) L) <| Option.bind (f_X8_odd N (xs (Int32.toNatClampNeg (x5 + (1 : Int32)))) r69.2) fun r70 => if r69.1 = r70.1 then (j10 r70.2) else (some ((0 : Int32), r70.2))) else if ((xs (Int32.toNatClampNeg x5)) &&& (31 : Int32)) = (15 : Int32) then (gd (ib (x5 + (1 : Int32)) L) <| gd (ib (x5 + (2 : Int32)) L) <| gd (ib (x5 + (3 : Int32)) L) <| Option.bind (f_X7_home N (xs (Int32.toNatClampNeg (x5 + (1 : Int32)))) (xs (Int32.toNatClampNeg (x5 + (2 : Int32)))) (xs (Int32.toNatClampNeg (x5 + (3 : Int32)))) s6) fun r73 => gd (ib (x5 + (1 : Int32)) L) <| gd (ib (x5 + (2 : Int32)) L) <| gd (ib (x5 + (3 : Int32)) L) <| Option.bind (f_X8_home N (xs (Int32.toNatClampNeg (x5 + (1 : Int32)))) (xs (Int32.toNatClampNeg (x5 + (2 : Int32)))) (xs (Int32.toNatClampNeg (x5 + (3 : Int32)))) r73.2) fun r74 => if r73.1 = r74.1 then (j10 r74.2) else (some ((0 : Int32), r74.2))) else if ((xs (Int32.toNatClampNeg x5)) &&& (31 : Int32)) = (16 : Int32) then (gd (ib (x5 + (1 : Int32)) L) <| gd (ib (x5 + (2 : Int32)) L) <| gd (ib (x5 + (3 : Int32)) L) <| Option.bind (f_X7_say (xs (Int32.toNatClampNeg (x5 + (1 : Int32)))) (xs (Int32.toNatClampNeg (x5 + (2 : Int32)))) (xs (Int32.toNatClampNeg (x5 + (3 : Int32)))) s6) fun r77 => gd (ib (x5 + (1 : Int32)) L) <| gd (ib (x5 + (2 : Int32)) L) <| gd (ib (x5 + (3 : Int32)) L) <| Option.bind (f_X8_say (xs (Int32.toNatClampNeg (x5 + (1 : Int32)))) (xs (Int32.toNatClampNeg (x5 + (2 : Int32)))) (xs (Int32.toNatClampNeg (x5 + (3 : Int32)))) r77.2) fun r78 => if r77.1 = r78.1 then (j10 r78.2) else (some ((0 : Int32), r78.2))) else if ((xs (Int32.toNatClampNeg x5)) &&& (31 : Int32)) = (17 : Int32) then (Option.bind (f_X7_hush s6) fun r81 => Option.bind (f_X8_hush r81.2) fun r82 => if r81.1 = r82.1 then (j10 r82.2) else (some ((0 : Int32), r82.2))) else if ((xs (Int32.toNatClampNeg x5)) &&& (31 : Int32)) = (18 : Int32) then (gd (ib (x5 + (1 : Int32)) L) <| Option.bind (f_X7_dispute N (xs (Int32.toNatClampNeg (x5 + (1 : Int32)))) s6) fun r85 => gd (ib (x5 + (1 : Int32)) L) <| Option.bind (f_X8_dispute N (xs (Int32.toNatClampNeg (x5 + (1 : Int32)))) r85.2) fun r86 => if r85.1 = r86.1 then (j10 r86.2) else (some ((0 : Int32), r86.2))) else if ((xs (Int32.toNatClampNeg x5)) &&& (31 : Int32)) = (19 : Int32) then (gd (ib (x5 + (1 : Int32)) L) <| Option.bind (f_X7_lied N (xs (Int32.toNatClampNeg (x5 + (1 : Int32)))) s6) fun r89 => gd (ib (x5 + (1 : Int32)) L) <| Option.bind (f_X8_lied N (xs (Int32.toNatClampNeg (x5 + (1 : Int32)))) r89.2) fun r90 => if r89.1 = r90.1 then (j10 r90.2) else (some ((0 : Int32), r90.2))) else if ((xs (Int32.toNatClampNeg x5)) &&& (31 : Int32)) = (20 : Int32) then (gd (ib (x5 + (1 : Int32)) L) <| Option.bind (f_X7_part (xs (Int32.toNatClampNeg (x5 + (1 : Int32)))) s6) fun r93 => gd (ib (x5 + (1 : Int32)) L) <| Option.bind (f_X8_part (xs (Int32.toNatClampNeg (x5 + (1 : Int32)))) r93.2) fun r94 => if r93.1 = r94.1 then (j10 r94.2) else (some ((0 : Int32), r94.2))) else if ((xs (Int32.toNatClampNeg x5)) &&& (31 : Int32)) = (21 : Int32) then (gd (ib (x5 + (1 : Int32)) L) <| Option.bind (f_X7_image (xs (Int32.toNatClampNeg (x5 + (1 : Int32)))) s6) fun r97 => gd (ib (x5 + (1 : Int32)) L) <| Option.bind (f_X8_image N (xs (Int32.toNatClampNeg (x5 + (1 : Int32)))) r97.2) fun r98 => if r97.1 = r98.1 then (j10 r98.2) else (some ((0 : Int32), r98.2))) else if ((xs (Int32.toNatClampNeg x5)) &&& (31 : Int32)) = (22 : Int32) then (gd (ib (x5 + (1 : Int32)) L) <| Option.bind (f_X7_from N (xs (Int32.toNatClampNeg (x5 + (1 : Int32)))) s6) fun r101 => gd (ib (x5 + (1 : Int32)) L) <| Option.bind (f_X8_from N (xs (Int32.toNatClampNeg (x5 + (1 : Int32)))) r101.2) fun r102 => if r101.1 = r102.1 then (j10 r102.2) else (some ((0 : Int32), r102.2))) else if ((xs (Int32.toNatClampNeg x5)) &&& (31 : Int32)) = (23 : Int32) then (gd (ib (x5 + (1 : Int32)) L) <| Option.bind (f_X7_status (xs (Int32.toNatClampNeg (x5 + (1 : Int32)))) s6) fun r105 => gd (ib (x5 + (1 : Int32)) L) <| Option.bind (f_X8_status (xs (Int32.toNatClampNeg (x5 + (1 : Int32)))) r105.2) fun r106 => if r105.1 = r106.1 then (j10 r106.2) else (some ((0 : Int32), r106.2))) else if ((xs (Int32.toNatClampNeg x5)) &&& (31 : Int32)) = (24 : Int32) then (gd (ib (x5 + (1 : Int32)) L) <| Option.bind (f_X7_count (xs (Int32.toNatClampNeg (x5 + (1 : Int32)))) s6) fun r109 => gd (ib (x5 + (1 : Int32)) L) <| Option.bind (f_X8_count (xs (Int32.toNatClampNeg (x5 + (1 : Int32)))) r109.2) fun r110 => if r109.1 = r110.1 then (j10 r110.2) else (some ((0 : Int32), r110.2))) else if ((xs (Int32.toNatClampNeg x5)) &&& (31 : Int32)) = (25 : Int32) then (Option.bind (f_X7_digest N s6) fun r113 => Option.bind (f_X8_digest N s6) fun r114 => if r113 = r114 then (j10 s6) else (some ((0 : Int32), s6))) else (j10 s6))
def f_law (N : Nat) (L : Nat) (xs : Nat → Int32) (s0 : jM) : Option (Int32 × jM) := lt_ (zM s0 0) fun s1 => Option.bind (fc_X7_init_1 N s1) fun s2 => lt_ (zM s2 53) fun s3 => Option.bind (fc_X8_init_11 s3) fun s4 => lp_law_18 N L xs N (0 : Int32) s4
set_option maxRecDepth 100000 in
set_option maxHeartbeats 4000000 in
theorem lp_law_18_ok (l : Launch) (N : Nat) (L : Nat) (xs : Nat → Int32)    : ∀ (q : Nat) (x5 : Int32) (s6 : jM), J l RL cL_law 4 (some .boolean) false room_1 (lawCx L xs) eLaw SH 71 5782 s6 18 [some (.ref 3001), some (.ref 0), some (.ref 53), some (.int x5)] [] (lp_law_18 N L xs q x5 s6) := by
  intro q
  induction q with
  | zero => intro x5 s6; exact J_none
  | succ q hrec7 =>
    intro x5 s6
    rw [lp_law_18]
    refine J_iload_n (i := 3) dL_law_18 rfl rfl ?_
    refine J_aload_n (i := 0) dL_law_19 rfl rfl ?_
    refine J_slen dL_law_20 ?_
    refine J_iconst (v := (4 : Int32)) dL_law_21 (by decide) ?_
    refine J_isub dL_law_22 ?_
    refine J_icmp_gt (tgt := 839) dL_law_23 (by decide) (fun c8 => ?_) (fun c8 => ?_)
    · refine J_iconst (v := (1 : Int32)) dL_law_839 (by decide) ?_
      exact J_ireturn dL_law_840 rfl rfl rfl
    · refine J_join (P := fun j => ∀ (s9 : jM), J l RL cL_law 4 (some .boolean) false room_1 (lawCx L xs) eLaw SH 71 5782 s9 833 [some (.ref 3001), some (.ref 0), some (.ref 53), some (.int x5)] [] (j s9)) ?_ (fun j10 hj10 => ?_)
      · intro s9
        refine J_iincN (i := 3) (v := x5 + (4 : Int32)) (LS := fun x11 => [some (.ref 3001), some (.ref 0), some (.ref 53), some (.int x11)]) dL_law_833 rfl (by first | rfl | decide) (fun _ => rfl) (by decide) (fun x11 => ?_)
        refine J_goto (tgt := 18) dL_law_836 (by decide) ?_
        refine J_sub (l1 := [some (.ref 3001), some (.ref 0), some (.ref 53), some (.int x11)]) ⟨rfl, ⟨rfl, ⟨rfl, ⟨rfl, trivial⟩⟩⟩⟩ ?_
        exact hrec7 x11 s9
      refine J_aload_n (i := 0) dL_law_26 rfl rfl ?_
      refine J_iload_n (i := 3) dL_law_27 rfl rfl ?_
      refine J_sld dL_law_28 ?_
      refine J_bipush (v := (31 : Int32)) dL_law_29 (by decide) ?_
      refine J_iand dL_law_31 ?_
      refine J_if (fun c12 => ?_) (fun c12 => ?_)
      · refine J_tswIn (tgt := 152) (0) dL_law_32 (by rw [c12] <;> rfl) (by decide) (by decide) rfl (by decide) ?_
        refine J_aload_n (i := 1) dL_law_152 rfl rfl ?_
        refine J_aload_n (i := 0) dL_law_153 rfl rfl ?_
        refine J_iload_n (i := 3) dL_law_154 rfl rfl ?_
        refine J_iconst (v := (1 : Int32)) dL_law_155 (by decide) ?_
        refine J_iadd dL_law_156 ?_
        refine J_sld dL_law_157 ?_
        refine J_aload_n (i := 0) dL_law_158 rfl rfl ?_
        refine J_iload_n (i := 3) dL_law_159 rfl rfl ?_
        refine J_iconst (v := (2 : Int32)) dL_law_160 (by decide) ?_
        refine J_iadd dL_law_161 ?_
        refine J_sld dL_law_162 ?_
        refine J_aload_n (i := 0) dL_law_163 rfl rfl ?_
        refine J_iload_n (i := 3) dL_law_164 rfl rfl ?_
        refine J_iconst (v := (3 : Int32)) dL_law_165 (by decide) ?_
        refine J_iadd dL_law_166 ?_
        refine J_sld dL_law_167 ?_
        refine J_callVIM 0 [.int (xs (Int32.toNatClampNeg (x5 + (1 : Int32)))), .int (xs (Int32.toNatClampNeg (x5 + (2 : Int32)))), .int (xs (Int32.toNatClampNeg (x5 + (3 : Int32))))] dL_law_168 ca_X7_walker lk_RL_13 vi_X7_walker rc_0 rfl rfl ⟨by decide, by decide⟩ (Nat.le_of_ble_eq_true rfl) ⟨by decide, by decide⟩ (con_X7_walker l _ _ _ _) (fun r13 _ => ?_)
        refine J_aload_n (i := 2) dL_law_171 rfl rfl ?_
        refine J_aload_n (i := 0) dL_law_172 rfl rfl ?_
        refine J_iload_n (i := 3) dL_law_173 rfl rfl ?_
        refine J_iconst (v := (1 : Int32)) dL_law_174 (by decide) ?_
        refine J_iadd dL_law_175 ?_
        refine J_sld dL_law_176 ?_
        refine J_aload_n (i := 0) dL_law_177 rfl rfl ?_
        refine J_iload_n (i := 3) dL_law_178 rfl rfl ?_
        refine J_iconst (v := (2 : Int32)) dL_law_179 (by decide) ?_
        refine J_iadd dL_law_180 ?_
        refine J_sld dL_law_181 ?_
        refine J_aload_n (i := 0) dL_law_182 rfl rfl ?_
        refine J_iload_n (i := 3) dL_law_183 rfl rfl ?_
        refine J_iconst (v := (3 : Int32)) dL_law_184 (by decide) ?_
        refine J_iadd dL_law_185 ?_
        refine J_sld dL_law_186 ?_
        refine J_callVIM 53 [.int (xs (Int32.toNatClampNeg (x5 + (1 : Int32)))), .int (xs (Int32.toNatClampNeg (x5 + (2 : Int32)))), .int (xs (Int32.toNatClampNeg (x5 + (3 : Int32))))] dL_law_187 ca_X8_walker lk_RL_17 vi_X8_walker rc_53 rfl rfl ⟨by decide, by decide⟩ (Nat.le_of_ble_eq_true rfl) ⟨by decide, by decide⟩ (con_X8_walker l _ _ _ _) (fun r14 _ => ?_)
        refine J_icmp_eq (tgt := 833) dL_law_190 (by decide) (fun c15 => ?_) (fun c15 => ?_)
        · refine J_sub (l1 := [some (.ref 3001), some (.ref 0), some (.ref 53), some (.int x5)]) ⟨rfl, ⟨rfl, ⟨rfl, ⟨rfl, trivial⟩⟩⟩⟩ ?_
          exact hj10 r14.2
        · refine J_iconst (v := (0 : Int32)) dL_law_193 (by decide) ?_
          exact J_ireturn dL_law_194 rfl rfl rfl
      refine J_if (fun c16 => ?_) (fun c16 => ?_)
      · refine J_tswIn (tgt := 195) (1) dL_law_32 (by rw [c16] <;> rfl) (by decide) (by decide) rfl (by decide) ?_
        refine J_aload_n (i := 1) dL_law_195 rfl rfl ?_
        refine J_aload_n (i := 0) dL_law_196 rfl rfl ?_
        refine J_iload_n (i := 3) dL_law_197 rfl rfl ?_
        refine J_iconst (v := (1 : Int32)) dL_law_198 (by decide) ?_
        refine J_iadd dL_law_199 ?_
        refine J_sld dL_law_200 ?_
        refine J_aload_n (i := 0) dL_law_201 rfl rfl ?_
        refine J_iload_n (i := 3) dL_law_202 rfl rfl ?_
        refine J_iconst (v := (2 : Int32)) dL_law_203 (by decide) ?_
        refine J_iadd dL_law_204 ?_
        refine J_sld dL_law_205 ?_
        refine J_callVIM 0 [.int (xs (Int32.toNatClampNeg (x5 + (1 : Int32)))), .int (xs (Int32.toNatClampNeg (x5 + (2 : Int32))))] dL_law_206 ca_X7_put lk_RL_18 vi_X7_put rc_0 rfl rfl ⟨by decide, by decide⟩ (Nat.le_of_ble_eq_true rfl) ⟨by decide, by decide⟩ (con_X7_put l _ _ _) (fun r17 _ => ?_)
        refine J_aload_n (i := 2) dL_law_209 rfl rfl ?_
        refine J_aload_n (i := 0) dL_law_210 rfl rfl ?_
        refine J_iload_n (i := 3) dL_law_211 rfl rfl ?_
        refine J_iconst (v := (1 : Int32)) dL_law_212 (by decide) ?_
        refine J_iadd dL_law_213 ?_
        refine J_sld dL_law_214 ?_
        refine J_aload_n (i := 0) dL_law_215 rfl rfl ?_
        refine J_iload_n (i := 3) dL_law_216 rfl rfl ?_
        refine J_iconst (v := (2 : Int32)) dL_law_217 (by decide) ?_
        refine J_iadd dL_law_218 ?_
        refine J_sld dL_law_219 ?_
        refine J_callVIM 53 [.int (xs (Int32.toNatClampNeg (x5 + (1 : Int32)))), .int (xs (Int32.toNatClampNeg (x5 + (2 : Int32))))] dL_law_220 ca_X8_put lk_RL_22 vi_X8_put rc_53 rfl rfl ⟨by decide, by decide⟩ (Nat.le_of_ble_eq_true rfl) ⟨by decide, by decide⟩ (con_X8_put l _ _ _) (fun r18 _ => ?_)
        refine J_icmp_eq (tgt := 833) dL_law_223 (by decide) (fun c19 => ?_) (fun c19 => ?_)
        · refine J_sub (l1 := [some (.ref 3001), some (.ref 0), some (.ref 53), some (.int x5)]) ⟨rfl, ⟨rfl, ⟨rfl, ⟨rfl, trivial⟩⟩⟩⟩ ?_
          exact hj10 r18.2
        · refine J_iconst (v := (0 : Int32)) dL_law_226 (by decide) ?_
          exact J_ireturn dL_law_227 rfl rfl rfl
      refine J_if (fun c20 => ?_) (fun c20 => ?_)
      · refine J_tswIn (tgt := 228) (2) dL_law_32 (by rw [c20] <;> rfl) (by decide) (by decide) rfl (by decide) ?_
        refine J_aload_n (i := 1) dL_law_228 rfl rfl ?_
        refine J_aload_n (i := 0) dL_law_229 rfl rfl ?_
        refine J_iload_n (i := 3) dL_law_230 rfl rfl ?_
        refine J_iconst (v := (1 : Int32)) dL_law_231 (by decide) ?_
        refine J_iadd dL_law_232 ?_
        refine J_sld dL_law_233 ?_
        refine J_callVIM 0 [.int (xs (Int32.toNatClampNeg (x5 + (1 : Int32))))] dL_law_234 ca_X7_write lk_RL_23 vi_X7_write rc_0 rfl rfl ⟨by decide, by decide⟩ (Nat.le_of_ble_eq_true rfl) ⟨by decide, by decide⟩ (con_X7_write l N _ _) (fun r21 _ => ?_)
        refine J_aload_n (i := 2) dL_law_237 rfl rfl ?_
        refine J_aload_n (i := 0) dL_law_238 rfl rfl ?_
        refine J_iload_n (i := 3) dL_law_239 rfl rfl ?_
        refine J_iconst (v := (1 : Int32)) dL_law_240 (by decide) ?_
        refine J_iadd dL_law_241 ?_
        refine J_sld dL_law_242 ?_
        refine J_callVIM 53 [.int (xs (Int32.toNatClampNeg (x5 + (1 : Int32))))] dL_law_243 ca_X8_write lk_RL_27 vi_X8_write rc_53 rfl rfl ⟨by decide, by decide⟩ (Nat.le_of_ble_eq_true rfl) ⟨by decide, by decide⟩ (con_X8_write l _ _) (fun r22 _ => ?_)
        refine J_icmp_eq (tgt := 833) dL_law_246 (by decide) (fun c23 => ?_) (fun c23 => ?_)
        · refine J_sub (l1 := [some (.ref 3001), some (.ref 0), some (.ref 53), some (.int x5)]) ⟨rfl, ⟨rfl, ⟨rfl, ⟨rfl, trivial⟩⟩⟩⟩ ?_
          exact hj10 r22.2
        · refine J_iconst (v := (0 : Int32)) dL_law_249 (by decide) ?_
          exact J_ireturn dL_law_250 rfl rfl rfl
      refine J_if (fun c24 => ?_) (fun c24 => ?_)
      · refine J_tswIn (tgt := 251) (3) dL_law_32 (by rw [c24] <;> rfl) (by decide) (by decide) rfl (by decide) ?_
        refine J_aload_n (i := 1) dL_law_251 rfl rfl ?_
        refine J_callVIM 0 [] dL_law_252 ca_X7_erase lk_RL_28 vi_X7_erase rc_0 rfl rfl ⟨by decide, by decide⟩ (Nat.le_of_ble_eq_true rfl) ⟨by decide, by decide⟩ (con_X7_erase l N _) (fun r25 _ => ?_)
        refine J_aload_n (i := 2) dL_law_255 rfl rfl ?_
        refine J_callVIM 53 [] dL_law_256 ca_X8_erase lk_RL_32 vi_X8_erase rc_53 rfl rfl ⟨by decide, by decide⟩ (Nat.le_of_ble_eq_true rfl) ⟨by decide, by decide⟩ (con_X8_erase l _) (fun r26 _ => ?_)
        refine J_icmp_eq (tgt := 833) dL_law_259 (by decide) (fun c27 => ?_) (fun c27 => ?_)
        · refine J_sub (l1 := [some (.ref 3001), some (.ref 0), some (.ref 53), some (.int x5)]) ⟨rfl, ⟨rfl, ⟨rfl, ⟨rfl, trivial⟩⟩⟩⟩ ?_
          exact hj10 r26.2
        · refine J_iconst (v := (0 : Int32)) dL_law_262 (by decide) ?_
          exact J_ireturn dL_law_263 rfl rfl rfl
      refine J_if (fun c28 => ?_) (fun c28 => ?_)
      · refine J_tswIn (tgt := 264) (4) dL_law_32 (by rw [c28] <;> rfl) (by decide) (by decide) rfl (by decide) ?_
        refine J_aload_n (i := 1) dL_law_264 rfl rfl ?_
        refine J_callVI 0 [] dL_law_265 ca_X7_fault lk_RL_33 vi_X7_fault rc_0 rfl rfl ⟨by decide, by decide⟩ (Nat.le_of_ble_eq_true rfl) ⟨by decide, by decide⟩ (con_X7_fault l _) (fun r29 _ => ?_)
        refine J_aload_n (i := 2) dL_law_268 rfl rfl ?_
        refine J_callVIM 53 [] dL_law_269 ca_X8_fault lk_RL_36 vi_X8_fault rc_53 rfl rfl ⟨by decide, by decide⟩ (Nat.le_of_ble_eq_true rfl) ⟨by decide, by decide⟩ (con_X8_fault l N _) (fun r30 _ => ?_)
        refine J_icmp_eq (tgt := 833) dL_law_272 (by decide) (fun c31 => ?_) (fun c31 => ?_)
        · refine J_sub (l1 := [some (.ref 3001), some (.ref 0), some (.ref 53), some (.int x5)]) ⟨rfl, ⟨rfl, ⟨rfl, ⟨rfl, trivial⟩⟩⟩⟩ ?_
          exact hj10 r30.2
        · refine J_iconst (v := (0 : Int32)) dL_law_275 (by decide) ?_
          exact J_ireturn dL_law_276 rfl rfl rfl
      refine J_if (fun c32 => ?_) (fun c32 => ?_)
      · refine J_tswIn (tgt := 277) (5) dL_law_32 (by rw [c32] <;> rfl) (by decide) (by decide) rfl (by decide) ?_
        refine J_aload_n (i := 1) dL_law_277 rfl rfl ?_
        refine J_aload_n (i := 0) dL_law_278 rfl rfl ?_
        refine J_iload_n (i := 3) dL_law_279 rfl rfl ?_
        refine J_iconst (v := (1 : Int32)) dL_law_280 (by decide) ?_
        refine J_iadd dL_law_281 ?_
        refine J_sld dL_law_282 ?_
        refine J_aload_n (i := 0) dL_law_283 rfl rfl ?_
        refine J_iload_n (i := 3) dL_law_284 rfl rfl ?_
        refine J_iconst (v := (2 : Int32)) dL_law_285 (by decide) ?_
        refine J_iadd dL_law_286 ?_
        refine J_sld dL_law_287 ?_
        refine J_callVIM 0 [.int (xs (Int32.toNatClampNeg (x5 + (1 : Int32)))), .int (xs (Int32.toNatClampNeg (x5 + (2 : Int32))))] dL_law_288 ca_X7_brings lk_RL_37 vi_X7_brings rc_0 rfl rfl ⟨by decide, by decide⟩ (Nat.le_of_ble_eq_true rfl) ⟨by decide, by decide⟩ (con_X7_brings l N _ _ _) (fun r33 _ => ?_)
        refine J_aload_n (i := 2) dL_law_291 rfl rfl ?_
        refine J_aload_n (i := 0) dL_law_292 rfl rfl ?_
        refine J_iload_n (i := 3) dL_law_293 rfl rfl ?_
        refine J_iconst (v := (1 : Int32)) dL_law_294 (by decide) ?_
        refine J_iadd dL_law_295 ?_
        refine J_sld dL_law_296 ?_
        refine J_aload_n (i := 0) dL_law_297 rfl rfl ?_
        refine J_iload_n (i := 3) dL_law_298 rfl rfl ?_
        refine J_iconst (v := (2 : Int32)) dL_law_299 (by decide) ?_
        refine J_iadd dL_law_300 ?_
        refine J_sld dL_law_301 ?_
        refine J_callVIM 53 [.int (xs (Int32.toNatClampNeg (x5 + (1 : Int32)))), .int (xs (Int32.toNatClampNeg (x5 + (2 : Int32))))] dL_law_302 ca_X8_brings lk_RL_40 vi_X8_brings rc_53 rfl rfl ⟨by decide, by decide⟩ (Nat.le_of_ble_eq_true rfl) ⟨by decide, by decide⟩ (con_X8_brings l N _ _ _) (fun r34 _ => ?_)
        refine J_icmp_eq (tgt := 833) dL_law_305 (by decide) (fun c35 => ?_) (fun c35 => ?_)
        · refine J_sub (l1 := [some (.ref 3001), some (.ref 0), some (.ref 53), some (.int x5)]) ⟨rfl, ⟨rfl, ⟨rfl, ⟨rfl, trivial⟩⟩⟩⟩ ?_
          exact hj10 r34.2
        · refine J_iconst (v := (0 : Int32)) dL_law_308 (by decide) ?_
          exact J_ireturn dL_law_309 rfl rfl rfl
      refine J_if (fun c36 => ?_) (fun c36 => ?_)
      · refine J_tswIn (tgt := 310) (6) dL_law_32 (by rw [c36] <;> rfl) (by decide) (by decide) rfl (by decide) ?_
        refine J_aload_n (i := 1) dL_law_310 rfl rfl ?_
        refine J_aload_n (i := 0) dL_law_311 rfl rfl ?_
        refine J_iload_n (i := 3) dL_law_312 rfl rfl ?_
        refine J_iconst (v := (1 : Int32)) dL_law_313 (by decide) ?_
        refine J_iadd dL_law_314 ?_
        refine J_sld dL_law_315 ?_
        refine J_aload_n (i := 0) dL_law_316 rfl rfl ?_
        refine J_iload_n (i := 3) dL_law_317 rfl rfl ?_
        refine J_iconst (v := (2 : Int32)) dL_law_318 (by decide) ?_
        refine J_iadd dL_law_319 ?_
        refine J_sld dL_law_320 ?_
        refine J_callVIM 0 [.int (xs (Int32.toNatClampNeg (x5 + (1 : Int32)))), .int (xs (Int32.toNatClampNeg (x5 + (2 : Int32))))] dL_law_321 ca_X7_well lk_RL_41 vi_X7_well rc_0 rfl rfl ⟨by decide, by decide⟩ (Nat.le_of_ble_eq_true rfl) ⟨by decide, by decide⟩ (con_X7_well l N _ _ _) (fun r37 _ => ?_)
        refine J_aload_n (i := 2) dL_law_324 rfl rfl ?_
        refine J_aload_n (i := 0) dL_law_325 rfl rfl ?_
        refine J_iload_n (i := 3) dL_law_326 rfl rfl ?_
        refine J_iconst (v := (1 : Int32)) dL_law_327 (by decide) ?_
        refine J_iadd dL_law_328 ?_
        refine J_sld dL_law_329 ?_
        refine J_aload_n (i := 0) dL_law_330 rfl rfl ?_
        refine J_iload_n (i := 3) dL_law_331 rfl rfl ?_
        refine J_iconst (v := (2 : Int32)) dL_law_332 (by decide) ?_
        refine J_iadd dL_law_333 ?_
        refine J_sld dL_law_334 ?_
        refine J_callVIM 53 [.int (xs (Int32.toNatClampNeg (x5 + (1 : Int32)))), .int (xs (Int32.toNatClampNeg (x5 + (2 : Int32))))] dL_law_335 ca_X8_well lk_RL_44 vi_X8_well rc_53 rfl rfl ⟨by decide, by decide⟩ (Nat.le_of_ble_eq_true rfl) ⟨by decide, by decide⟩ (con_X8_well l N _ _ _) (fun r38 _ => ?_)
        refine J_icmp_eq (tgt := 833) dL_law_338 (by decide) (fun c39 => ?_) (fun c39 => ?_)
        · refine J_sub (l1 := [some (.ref 3001), some (.ref 0), some (.ref 53), some (.int x5)]) ⟨rfl, ⟨rfl, ⟨rfl, ⟨rfl, trivial⟩⟩⟩⟩ ?_
          exact hj10 r38.2
        · refine J_iconst (v := (0 : Int32)) dL_law_341 (by decide) ?_
          exact J_ireturn dL_law_342 rfl rfl rfl
      refine J_if (fun c40 => ?_) (fun c40 => ?_)
      · refine J_tswIn (tgt := 343) (7) dL_law_32 (by rw [c40] <;> rfl) (by decide) (by decide) rfl (by decide) ?_
        refine J_aload_n (i := 1) dL_law_343 rfl rfl ?_
        refine J_aload_n (i := 0) dL_law_344 rfl rfl ?_
        refine J_iload_n (i := 3) dL_law_345 rfl rfl ?_
        refine J_iconst (v := (1 : Int32)) dL_law_346 (by decide) ?_
        refine J_iadd dL_law_347 ?_
        refine J_sld dL_law_348 ?_
        refine J_callVIM 0 [.int (xs (Int32.toNatClampNeg (x5 + (1 : Int32))))] dL_law_349 ca_X7_on lk_RL_45 vi_X7_on rc_0 rfl rfl ⟨by decide, by decide⟩ (Nat.le_of_ble_eq_true rfl) ⟨by decide, by decide⟩ (con_X7_on l N _ _) (fun r41 _ => ?_)
        refine J_aload_n (i := 2) dL_law_352 rfl rfl ?_
        refine J_aload_n (i := 0) dL_law_353 rfl rfl ?_
        refine J_iload_n (i := 3) dL_law_354 rfl rfl ?_
        refine J_iconst (v := (1 : Int32)) dL_law_355 (by decide) ?_
        refine J_iadd dL_law_356 ?_
        refine J_sld dL_law_357 ?_
        refine J_callVIM 53 [.int (xs (Int32.toNatClampNeg (x5 + (1 : Int32))))] dL_law_358 ca_X8_on lk_RL_48 vi_X8_on rc_53 rfl rfl ⟨by decide, by decide⟩ (Nat.le_of_ble_eq_true rfl) ⟨by decide, by decide⟩ (con_X8_on l N _ _) (fun r42 _ => ?_)
        refine J_icmp_eq (tgt := 833) dL_law_361 (by decide) (fun c43 => ?_) (fun c43 => ?_)
        · refine J_sub (l1 := [some (.ref 3001), some (.ref 0), some (.ref 53), some (.int x5)]) ⟨rfl, ⟨rfl, ⟨rfl, ⟨rfl, trivial⟩⟩⟩⟩ ?_
          exact hj10 r42.2
        · refine J_iconst (v := (0 : Int32)) dL_law_364 (by decide) ?_
          exact J_ireturn dL_law_365 rfl rfl rfl
      refine J_if (fun c44 => ?_) (fun c44 => ?_)
      · refine J_tswIn (tgt := 366) (8) dL_law_32 (by rw [c44] <;> rfl) (by decide) (by decide) rfl (by decide) ?_
        refine J_aload_n (i := 1) dL_law_366 rfl rfl ?_
        refine J_aload_n (i := 0) dL_law_367 rfl rfl ?_
        refine J_iload_n (i := 3) dL_law_368 rfl rfl ?_
        refine J_iconst (v := (1 : Int32)) dL_law_369 (by decide) ?_
        refine J_iadd dL_law_370 ?_
        refine J_sld dL_law_371 ?_
        refine J_aload_n (i := 0) dL_law_372 rfl rfl ?_
        refine J_iload_n (i := 3) dL_law_373 rfl rfl ?_
        refine J_iconst (v := (2 : Int32)) dL_law_374 (by decide) ?_
        refine J_iadd dL_law_375 ?_
        refine J_sld dL_law_376 ?_
        refine J_callVIM 0 [.int (xs (Int32.toNatClampNeg (x5 + (1 : Int32)))), .int (xs (Int32.toNatClampNeg (x5 + (2 : Int32))))] dL_law_377 ca_X7_stepped lk_RL_49 vi_X7_stepped rc_0 rfl rfl ⟨by decide, by decide⟩ (Nat.le_of_ble_eq_true rfl) ⟨by decide, by decide⟩ (con_X7_stepped l N _ _ _) (fun r45 _ => ?_)
        refine J_aload_n (i := 2) dL_law_380 rfl rfl ?_
        refine J_aload_n (i := 0) dL_law_381 rfl rfl ?_
        refine J_iload_n (i := 3) dL_law_382 rfl rfl ?_
        refine J_iconst (v := (1 : Int32)) dL_law_383 (by decide) ?_
        refine J_iadd dL_law_384 ?_
        refine J_sld dL_law_385 ?_
        refine J_aload_n (i := 0) dL_law_386 rfl rfl ?_
        refine J_iload_n (i := 3) dL_law_387 rfl rfl ?_
        refine J_iconst (v := (2 : Int32)) dL_law_388 (by decide) ?_
        refine J_iadd dL_law_389 ?_
        refine J_sld dL_law_390 ?_
        refine J_callVIM 53 [.int (xs (Int32.toNatClampNeg (x5 + (1 : Int32)))), .int (xs (Int32.toNatClampNeg (x5 + (2 : Int32))))] dL_law_391 ca_X8_stepped lk_RL_52 vi_X8_stepped rc_53 rfl rfl ⟨by decide, by decide⟩ (Nat.le_of_ble_eq_true rfl) ⟨by decide, by decide⟩ (con_X8_stepped l N _ _ _) (fun r46 _ => ?_)
        refine J_icmp_eq (tgt := 833) dL_law_394 (by decide) (fun c47 => ?_) (fun c47 => ?_)
        · refine J_sub (l1 := [some (.ref 3001), some (.ref 0), some (.ref 53), some (.int x5)]) ⟨rfl, ⟨rfl, ⟨rfl, ⟨rfl, trivial⟩⟩⟩⟩ ?_
          exact hj10 r46.2
        · refine J_iconst (v := (0 : Int32)) dL_law_397 (by decide) ?_
          exact J_ireturn dL_law_398 rfl rfl rfl
      refine J_if (fun c48 => ?_) (fun c48 => ?_)
      · refine J_tswIn (tgt := 399) (9) dL_law_32 (by rw [c48] <;> rfl) (by decide) (by decide) rfl (by decide) ?_
        refine J_aload_n (i := 1) dL_law_399 rfl rfl ?_
        refine J_aload_n (i := 0) dL_law_400 rfl rfl ?_
        refine J_iload_n (i := 3) dL_law_401 rfl rfl ?_
        refine J_iconst (v := (1 : Int32)) dL_law_402 (by decide) ?_
        refine J_iadd dL_law_403 ?_
        refine J_sld dL_law_404 ?_
        refine J_callVIM 0 [.int (xs (Int32.toNatClampNeg (x5 + (1 : Int32))))] dL_law_405 ca_X7_faulty lk_RL_53 vi_X7_faulty rc_0 rfl rfl ⟨by decide, by decide⟩ (Nat.le_of_ble_eq_true rfl) ⟨by decide, by decide⟩ (con_X7_faulty l N _ _) (fun r49 _ => ?_)
        refine J_aload_n (i := 2) dL_law_408 rfl rfl ?_
        refine J_aload_n (i := 0) dL_law_409 rfl rfl ?_
        refine J_iload_n (i := 3) dL_law_410 rfl rfl ?_
        refine J_iconst (v := (1 : Int32)) dL_law_411 (by decide) ?_
        refine J_iadd dL_law_412 ?_
        refine J_sld dL_law_413 ?_
        refine J_callVIM 53 [.int (xs (Int32.toNatClampNeg (x5 + (1 : Int32))))] dL_law_414 ca_X8_faulty lk_RL_56 vi_X8_faulty rc_53 rfl rfl ⟨by decide, by decide⟩ (Nat.le_of_ble_eq_true rfl) ⟨by decide, by decide⟩ (con_X8_faulty l N _ _) (fun r50 _ => ?_)
        refine J_icmp_eq (tgt := 833) dL_law_417 (by decide) (fun c51 => ?_) (fun c51 => ?_)
        · refine J_sub (l1 := [some (.ref 3001), some (.ref 0), some (.ref 53), some (.int x5)]) ⟨rfl, ⟨rfl, ⟨rfl, ⟨rfl, trivial⟩⟩⟩⟩ ?_
          exact hj10 r50.2
        · refine J_iconst (v := (0 : Int32)) dL_law_420 (by decide) ?_
          exact J_ireturn dL_law_421 rfl rfl rfl
      refine J_if (fun c52 => ?_) (fun c52 => ?_)
      · refine J_tswIn (tgt := 422) (10) dL_law_32 (by rw [c52] <;> rfl) (by decide) (by decide) rfl (by decide) ?_
        refine J_aload_n (i := 1) dL_law_422 rfl rfl ?_
        refine J_aload_n (i := 0) dL_law_423 rfl rfl ?_
        refine J_iload_n (i := 3) dL_law_424 rfl rfl ?_
        refine J_iconst (v := (1 : Int32)) dL_law_425 (by decide) ?_
        refine J_iadd dL_law_426 ?_
        refine J_sld dL_law_427 ?_
        refine J_callVIM 0 [.int (xs (Int32.toNatClampNeg (x5 + (1 : Int32))))] dL_law_428 ca_X7_least lk_RL_57 vi_X7_least rc_0 rfl rfl ⟨by decide, by decide⟩ (Nat.le_of_ble_eq_true rfl) ⟨by decide, by decide⟩ (con_X7_least l N _ _) (fun r53 _ => ?_)
        refine J_aload_n (i := 2) dL_law_431 rfl rfl ?_
        refine J_aload_n (i := 0) dL_law_432 rfl rfl ?_
        refine J_iload_n (i := 3) dL_law_433 rfl rfl ?_
        refine J_iconst (v := (1 : Int32)) dL_law_434 (by decide) ?_
        refine J_iadd dL_law_435 ?_
        refine J_sld dL_law_436 ?_
        refine J_callVIM 53 [.int (xs (Int32.toNatClampNeg (x5 + (1 : Int32))))] dL_law_437 ca_X8_least lk_RL_60 vi_X8_least rc_53 rfl rfl ⟨by decide, by decide⟩ (Nat.le_of_ble_eq_true rfl) ⟨by decide, by decide⟩ (con_X8_least l N _ _) (fun r54 _ => ?_)
        refine J_icmp_eq (tgt := 833) dL_law_440 (by decide) (fun c55 => ?_) (fun c55 => ?_)
        · refine J_sub (l1 := [some (.ref 3001), some (.ref 0), some (.ref 53), some (.int x5)]) ⟨rfl, ⟨rfl, ⟨rfl, ⟨rfl, trivial⟩⟩⟩⟩ ?_
          exact hj10 r54.2
        · refine J_iconst (v := (0 : Int32)) dL_law_443 (by decide) ?_
          exact J_ireturn dL_law_444 rfl rfl rfl
      refine J_if (fun c56 => ?_) (fun c56 => ?_)
      · refine J_tswIn (tgt := 445) (11) dL_law_32 (by rw [c56] <;> rfl) (by decide) (by decide) rfl (by decide) ?_
        refine J_aload_n (i := 1) dL_law_445 rfl rfl ?_
        refine J_aload_n (i := 0) dL_law_446 rfl rfl ?_
        refine J_iload_n (i := 3) dL_law_447 rfl rfl ?_
        refine J_iconst (v := (1 : Int32)) dL_law_448 (by decide) ?_
        refine J_iadd dL_law_449 ?_
        refine J_sld dL_law_450 ?_
        refine J_callVIM 0 [.int (xs (Int32.toNatClampNeg (x5 + (1 : Int32))))] dL_law_451 ca_X7_row lk_RL_61 vi_X7_row rc_0 rfl rfl ⟨by decide, by decide⟩ (Nat.le_of_ble_eq_true rfl) ⟨by decide, by decide⟩ (con_X7_row l N _ _) (fun r57 _ => ?_)
        refine J_aload_n (i := 2) dL_law_454 rfl rfl ?_
        refine J_aload_n (i := 0) dL_law_455 rfl rfl ?_
        refine J_iload_n (i := 3) dL_law_456 rfl rfl ?_
        refine J_iconst (v := (1 : Int32)) dL_law_457 (by decide) ?_
        refine J_iadd dL_law_458 ?_
        refine J_sld dL_law_459 ?_
        refine J_callVIM 53 [.int (xs (Int32.toNatClampNeg (x5 + (1 : Int32))))] dL_law_460 ca_X8_row lk_RL_64 vi_X8_row rc_53 rfl rfl ⟨by decide, by decide⟩ (Nat.le_of_ble_eq_true rfl) ⟨by decide, by decide⟩ (con_X8_row l N _ _) (fun r58 _ => ?_)
        refine J_icmp_eq (tgt := 833) dL_law_463 (by decide) (fun c59 => ?_) (fun c59 => ?_)
        · refine J_sub (l1 := [some (.ref 3001), some (.ref 0), some (.ref 53), some (.int x5)]) ⟨rfl, ⟨rfl, ⟨rfl, ⟨rfl, trivial⟩⟩⟩⟩ ?_
          exact hj10 r58.2
        · refine J_iconst (v := (0 : Int32)) dL_law_466 (by decide) ?_
          exact J_ireturn dL_law_467 rfl rfl rfl
      refine J_if (fun c60 => ?_) (fun c60 => ?_)
      · refine J_tswIn (tgt := 468) (12) dL_law_32 (by rw [c60] <;> rfl) (by decide) (by decide) rfl (by decide) ?_
        refine J_aload_n (i := 1) dL_law_468 rfl rfl ?_
        refine J_aload_n (i := 0) dL_law_469 rfl rfl ?_
        refine J_iload_n (i := 3) dL_law_470 rfl rfl ?_
        refine J_iconst (v := (1 : Int32)) dL_law_471 (by decide) ?_
        refine J_iadd dL_law_472 ?_
        refine J_sld dL_law_473 ?_
        refine J_aload_n (i := 0) dL_law_474 rfl rfl ?_
        refine J_iload_n (i := 3) dL_law_475 rfl rfl ?_
        refine J_iconst (v := (2 : Int32)) dL_law_476 (by decide) ?_
        refine J_iadd dL_law_477 ?_
        refine J_sld dL_law_478 ?_
        refine J_callVIM 0 [.int (xs (Int32.toNatClampNeg (x5 + (1 : Int32)))), .int (xs (Int32.toNatClampNeg (x5 + (2 : Int32))))] dL_law_479 ca_X7_toll lk_RL_65 vi_X7_toll rc_0 rfl rfl ⟨by decide, by decide⟩ (Nat.le_of_ble_eq_true rfl) ⟨by decide, by decide⟩ (con_X7_toll l N _ _ _) (fun r61 _ => ?_)
        refine J_aload_n (i := 2) dL_law_482 rfl rfl ?_
        refine J_aload_n (i := 0) dL_law_483 rfl rfl ?_
        refine J_iload_n (i := 3) dL_law_484 rfl rfl ?_
        refine J_iconst (v := (1 : Int32)) dL_law_485 (by decide) ?_
        refine J_iadd dL_law_486 ?_
        refine J_sld dL_law_487 ?_
        refine J_aload_n (i := 0) dL_law_488 rfl rfl ?_
        refine J_iload_n (i := 3) dL_law_489 rfl rfl ?_
        refine J_iconst (v := (2 : Int32)) dL_law_490 (by decide) ?_
        refine J_iadd dL_law_491 ?_
        refine J_sld dL_law_492 ?_
        refine J_callVIM 53 [.int (xs (Int32.toNatClampNeg (x5 + (1 : Int32)))), .int (xs (Int32.toNatClampNeg (x5 + (2 : Int32))))] dL_law_493 ca_X8_toll lk_RL_68 vi_X8_toll rc_53 rfl rfl ⟨by decide, by decide⟩ (Nat.le_of_ble_eq_true rfl) ⟨by decide, by decide⟩ (con_X8_toll l N _ _ _) (fun r62 _ => ?_)
        refine J_icmp_eq (tgt := 833) dL_law_496 (by decide) (fun c63 => ?_) (fun c63 => ?_)
        · refine J_sub (l1 := [some (.ref 3001), some (.ref 0), some (.ref 53), some (.int x5)]) ⟨rfl, ⟨rfl, ⟨rfl, ⟨rfl, trivial⟩⟩⟩⟩ ?_
          exact hj10 r62.2
        · refine J_iconst (v := (0 : Int32)) dL_law_499 (by decide) ?_
          exact J_ireturn dL_law_500 rfl rfl rfl
      refine J_if (fun c64 => ?_) (fun c64 => ?_)
      · refine J_tswIn (tgt := 501) (13) dL_law_32 (by rw [c64] <;> rfl) (by decide) (by decide) rfl (by decide) ?_
        refine J_aload_n (i := 1) dL_law_501 rfl rfl ?_
        refine J_aload_n (i := 0) dL_law_502 rfl rfl ?_
        refine J_iload_n (i := 3) dL_law_503 rfl rfl ?_
        refine J_iconst (v := (1 : Int32)) dL_law_504 (by decide) ?_
        refine J_iadd dL_law_505 ?_
        refine J_sld dL_law_506 ?_
        refine J_aload_n (i := 0) dL_law_507 rfl rfl ?_
        refine J_iload_n (i := 3) dL_law_508 rfl rfl ?_
        refine J_iconst (v := (2 : Int32)) dL_law_509 (by decide) ?_
        refine J_iadd dL_law_510 ?_
        refine J_sld dL_law_511 ?_
        refine J_callVIM 0 [.int (xs (Int32.toNatClampNeg (x5 + (1 : Int32)))), .int (xs (Int32.toNatClampNeg (x5 + (2 : Int32))))] dL_law_512 ca_X7_doubt lk_RL_69 vi_X7_doubt rc_0 rfl rfl ⟨by decide, by decide⟩ (Nat.le_of_ble_eq_true rfl) ⟨by decide, by decide⟩ (con_X7_doubt l _ _ _) (fun r65 _ => ?_)
        refine J_aload_n (i := 2) dL_law_515 rfl rfl ?_
        refine J_aload_n (i := 0) dL_law_516 rfl rfl ?_
        refine J_iload_n (i := 3) dL_law_517 rfl rfl ?_
        refine J_iconst (v := (1 : Int32)) dL_law_518 (by decide) ?_
        refine J_iadd dL_law_519 ?_
        refine J_sld dL_law_520 ?_
        refine J_aload_n (i := 0) dL_law_521 rfl rfl ?_
        refine J_iload_n (i := 3) dL_law_522 rfl rfl ?_
        refine J_iconst (v := (2 : Int32)) dL_law_523 (by decide) ?_
        refine J_iadd dL_law_524 ?_
        refine J_sld dL_law_525 ?_
        refine J_callVIM 53 [.int (xs (Int32.toNatClampNeg (x5 + (1 : Int32)))), .int (xs (Int32.toNatClampNeg (x5 + (2 : Int32))))] dL_law_526 ca_X8_doubt lk_RL_72 vi_X8_doubt rc_53 rfl rfl ⟨by decide, by decide⟩ (Nat.le_of_ble_eq_true rfl) ⟨by decide, by decide⟩ (con_X8_doubt l _ _ _) (fun r66 _ => ?_)
        refine J_icmp_eq (tgt := 833) dL_law_529 (by decide) (fun c67 => ?_) (fun c67 => ?_)
        · refine J_sub (l1 := [some (.ref 3001), some (.ref 0), some (.ref 53), some (.int x5)]) ⟨rfl, ⟨rfl, ⟨rfl, ⟨rfl, trivial⟩⟩⟩⟩ ?_
          exact hj10 r66.2
        · refine J_iconst (v := (0 : Int32)) dL_law_532 (by decide) ?_
          exact J_ireturn dL_law_533 rfl rfl rfl
      refine J_if (fun c68 => ?_) (fun c68 => ?_)
      · refine J_tswIn (tgt := 534) (14) dL_law_32 (by rw [c68] <;> rfl) (by decide) (by decide) rfl (by decide) ?_
        refine J_aload_n (i := 1) dL_law_534 rfl rfl ?_
        refine J_aload_n (i := 0) dL_law_535 rfl rfl ?_
        refine J_iload_n (i := 3) dL_law_536 rfl rfl ?_
        refine J_iconst (v := (1 : Int32)) dL_law_537 (by decide) ?_
        refine J_iadd dL_law_538 ?_
        refine J_sld dL_law_539 ?_
        refine J_callVIM 0 [.int (xs (Int32.toNatClampNeg (x5 + (1 : Int32))))] dL_law_540 ca_X7_odd lk_RL_73 vi_X7_odd rc_0 rfl rfl ⟨by decide, by decide⟩ (Nat.le_of_ble_eq_true rfl) ⟨by decide, by decide⟩ (con_X7_odd l N _ _) (fun r69 _ => ?_)
        refine J_aload_n (i := 2) dL_law_543 rfl rfl ?_
        refine J_aload_n (i := 0) dL_law_544 rfl rfl ?_
        refine J_iload_n (i := 3) dL_law_545 rfl rfl ?_
        refine J_iconst (v := (1 : Int32)) dL_law_546 (by decide) ?_
        refine J_iadd dL_law_547 ?_
        refine J_sld dL_law_548 ?_
        refine J_callVIM 53 [.int (xs (Int32.toNatClampNeg (x5 + (1 : Int32))))] dL_law_549 ca_X8_odd lk_RL_76 vi_X8_odd rc_53 rfl rfl ⟨by decide, by decide⟩ (Nat.le_of_ble_eq_true rfl) ⟨by decide, by decide⟩ (con_X8_odd l N _ _) (fun r70 _ => ?_)
        refine J_icmp_eq (tgt := 833) dL_law_552 (by decide) (fun c71 => ?_) (fun c71 => ?_)
        · refine J_sub (l1 := [some (.ref 3001), some (.ref 0), some (.ref 53), some (.int x5)]) ⟨rfl, ⟨rfl, ⟨rfl, ⟨rfl, trivial⟩⟩⟩⟩ ?_
          exact hj10 r70.2
        · refine J_iconst (v := (0 : Int32)) dL_law_555 (by decide) ?_
          exact J_ireturn dL_law_556 rfl rfl rfl
      refine J_if (fun c72 => ?_) (fun c72 => ?_)
      · refine J_tswIn (tgt := 557) (15) dL_law_32 (by rw [c72] <;> rfl) (by decide) (by decide) rfl (by decide) ?_
        refine J_aload_n (i := 1) dL_law_557 rfl rfl ?_
        refine J_aload_n (i := 0) dL_law_558 rfl rfl ?_
        refine J_iload_n (i := 3) dL_law_559 rfl rfl ?_
        refine J_iconst (v := (1 : Int32)) dL_law_560 (by decide) ?_
        refine J_iadd dL_law_561 ?_
        refine J_sld dL_law_562 ?_
        refine J_aload_n (i := 0) dL_law_563 rfl rfl ?_
        refine J_iload_n (i := 3) dL_law_564 rfl rfl ?_
        refine J_iconst (v := (2 : Int32)) dL_law_565 (by decide) ?_
        refine J_iadd dL_law_566 ?_
        refine J_sld dL_law_567 ?_
        refine J_aload_n (i := 0) dL_law_568 rfl rfl ?_
        refine J_iload_n (i := 3) dL_law_569 rfl rfl ?_
        refine J_iconst (v := (3 : Int32)) dL_law_570 (by decide) ?_
        refine J_iadd dL_law_571 ?_
        refine J_sld dL_law_572 ?_
        refine J_callVIM 0 [.int (xs (Int32.toNatClampNeg (x5 + (1 : Int32)))), .int (xs (Int32.toNatClampNeg (x5 + (2 : Int32)))), .int (xs (Int32.toNatClampNeg (x5 + (3 : Int32))))] dL_law_573 ca_X7_home lk_RL_77 vi_X7_home rc_0 rfl rfl ⟨by decide, by decide⟩ (Nat.le_of_ble_eq_true rfl) ⟨by decide, by decide⟩ (con_X7_home l N _ _ _ _) (fun r73 _ => ?_)
        refine J_aload_n (i := 2) dL_law_576 rfl rfl ?_
        refine J_aload_n (i := 0) dL_law_577 rfl rfl ?_
        refine J_iload_n (i := 3) dL_law_578 rfl rfl ?_
        refine J_iconst (v := (1 : Int32)) dL_law_579 (by decide) ?_
        refine J_iadd dL_law_580 ?_
        refine J_sld dL_law_581 ?_
        refine J_aload_n (i := 0) dL_law_582 rfl rfl ?_
        refine J_iload_n (i := 3) dL_law_583 rfl rfl ?_
        refine J_iconst (v := (2 : Int32)) dL_law_584 (by decide) ?_
        refine J_iadd dL_law_585 ?_
        refine J_sld dL_law_586 ?_
        refine J_aload_n (i := 0) dL_law_587 rfl rfl ?_
        refine J_iload_n (i := 3) dL_law_588 rfl rfl ?_
        refine J_iconst (v := (3 : Int32)) dL_law_589 (by decide) ?_
        refine J_iadd dL_law_590 ?_
        refine J_sld dL_law_591 ?_
        refine J_callVIM 53 [.int (xs (Int32.toNatClampNeg (x5 + (1 : Int32)))), .int (xs (Int32.toNatClampNeg (x5 + (2 : Int32)))), .int (xs (Int32.toNatClampNeg (x5 + (3 : Int32))))] dL_law_592 ca_X8_home lk_RL_80 vi_X8_home rc_53 rfl rfl ⟨by decide, by decide⟩ (Nat.le_of_ble_eq_true rfl) ⟨by decide, by decide⟩ (con_X8_home l N _ _ _ _) (fun r74 _ => ?_)
        refine J_icmp_eq (tgt := 833) dL_law_595 (by decide) (fun c75 => ?_) (fun c75 => ?_)
        · refine J_sub (l1 := [some (.ref 3001), some (.ref 0), some (.ref 53), some (.int x5)]) ⟨rfl, ⟨rfl, ⟨rfl, ⟨rfl, trivial⟩⟩⟩⟩ ?_
          exact hj10 r74.2
        · refine J_iconst (v := (0 : Int32)) dL_law_598 (by decide) ?_
          exact J_ireturn dL_law_599 rfl rfl rfl
      refine J_if (fun c76 => ?_) (fun c76 => ?_)
      · refine J_tswIn (tgt := 600) (16) dL_law_32 (by rw [c76] <;> rfl) (by decide) (by decide) rfl (by decide) ?_
        refine J_aload_n (i := 1) dL_law_600 rfl rfl ?_
        refine J_aload_n (i := 0) dL_law_601 rfl rfl ?_
        refine J_iload_n (i := 3) dL_law_602 rfl rfl ?_
        refine J_iconst (v := (1 : Int32)) dL_law_603 (by decide) ?_
        refine J_iadd dL_law_604 ?_
        refine J_sld dL_law_605 ?_
        refine J_aload_n (i := 0) dL_law_606 rfl rfl ?_
        refine J_iload_n (i := 3) dL_law_607 rfl rfl ?_
        refine J_iconst (v := (2 : Int32)) dL_law_608 (by decide) ?_
        refine J_iadd dL_law_609 ?_
        refine J_sld dL_law_610 ?_
        refine J_aload_n (i := 0) dL_law_611 rfl rfl ?_
        refine J_iload_n (i := 3) dL_law_612 rfl rfl ?_
        refine J_iconst (v := (3 : Int32)) dL_law_613 (by decide) ?_
        refine J_iadd dL_law_614 ?_
        refine J_sld dL_law_615 ?_
        refine J_callVIM 0 [.int (xs (Int32.toNatClampNeg (x5 + (1 : Int32)))), .int (xs (Int32.toNatClampNeg (x5 + (2 : Int32)))), .int (xs (Int32.toNatClampNeg (x5 + (3 : Int32))))] dL_law_616 ca_X7_say lk_RL_81 vi_X7_say rc_0 rfl rfl ⟨by decide, by decide⟩ (Nat.le_of_ble_eq_true rfl) ⟨by decide, by decide⟩ (con_X7_say l _ _ _ _) (fun r77 _ => ?_)
        refine J_aload_n (i := 2) dL_law_619 rfl rfl ?_
        refine J_aload_n (i := 0) dL_law_620 rfl rfl ?_
        refine J_iload_n (i := 3) dL_law_621 rfl rfl ?_
        refine J_iconst (v := (1 : Int32)) dL_law_622 (by decide) ?_
        refine J_iadd dL_law_623 ?_
        refine J_sld dL_law_624 ?_
        refine J_aload_n (i := 0) dL_law_625 rfl rfl ?_
        refine J_iload_n (i := 3) dL_law_626 rfl rfl ?_
        refine J_iconst (v := (2 : Int32)) dL_law_627 (by decide) ?_
        refine J_iadd dL_law_628 ?_
        refine J_sld dL_law_629 ?_
        refine J_aload_n (i := 0) dL_law_630 rfl rfl ?_
        refine J_iload_n (i := 3) dL_law_631 rfl rfl ?_
        refine J_iconst (v := (3 : Int32)) dL_law_632 (by decide) ?_
        refine J_iadd dL_law_633 ?_
        refine J_sld dL_law_634 ?_
        refine J_callVIM 53 [.int (xs (Int32.toNatClampNeg (x5 + (1 : Int32)))), .int (xs (Int32.toNatClampNeg (x5 + (2 : Int32)))), .int (xs (Int32.toNatClampNeg (x5 + (3 : Int32))))] dL_law_635 ca_X8_say lk_RL_84 vi_X8_say rc_53 rfl rfl ⟨by decide, by decide⟩ (Nat.le_of_ble_eq_true rfl) ⟨by decide, by decide⟩ (con_X8_say l _ _ _ _) (fun r78 _ => ?_)
        refine J_icmp_eq (tgt := 833) dL_law_638 (by decide) (fun c79 => ?_) (fun c79 => ?_)
        · refine J_sub (l1 := [some (.ref 3001), some (.ref 0), some (.ref 53), some (.int x5)]) ⟨rfl, ⟨rfl, ⟨rfl, ⟨rfl, trivial⟩⟩⟩⟩ ?_
          exact hj10 r78.2
        · refine J_iconst (v := (0 : Int32)) dL_law_641 (by decide) ?_
          exact J_ireturn dL_law_642 rfl rfl rfl
      refine J_if (fun c80 => ?_) (fun c80 => ?_)
      · refine J_tswIn (tgt := 643) (17) dL_law_32 (by rw [c80] <;> rfl) (by decide) (by decide) rfl (by decide) ?_
        refine J_aload_n (i := 1) dL_law_643 rfl rfl ?_
        refine J_callVIM 0 [] dL_law_644 ca_X7_hush lk_RL_85 vi_X7_hush rc_0 rfl rfl ⟨by decide, by decide⟩ (Nat.le_of_ble_eq_true rfl) ⟨by decide, by decide⟩ (con_X7_hush l _) (fun r81 _ => ?_)
        refine J_aload_n (i := 2) dL_law_647 rfl rfl ?_
        refine J_callVIM 53 [] dL_law_648 ca_X8_hush lk_RL_88 vi_X8_hush rc_53 rfl rfl ⟨by decide, by decide⟩ (Nat.le_of_ble_eq_true rfl) ⟨by decide, by decide⟩ (con_X8_hush l _) (fun r82 _ => ?_)
        refine J_icmp_eq (tgt := 833) dL_law_651 (by decide) (fun c83 => ?_) (fun c83 => ?_)
        · refine J_sub (l1 := [some (.ref 3001), some (.ref 0), some (.ref 53), some (.int x5)]) ⟨rfl, ⟨rfl, ⟨rfl, ⟨rfl, trivial⟩⟩⟩⟩ ?_
          exact hj10 r82.2
        · refine J_iconst (v := (0 : Int32)) dL_law_654 (by decide) ?_
          exact J_ireturn dL_law_655 rfl rfl rfl
      refine J_if (fun c84 => ?_) (fun c84 => ?_)
      · refine J_tswIn (tgt := 656) (18) dL_law_32 (by rw [c84] <;> rfl) (by decide) (by decide) rfl (by decide) ?_
        refine J_aload_n (i := 1) dL_law_656 rfl rfl ?_
        refine J_aload_n (i := 0) dL_law_657 rfl rfl ?_
        refine J_iload_n (i := 3) dL_law_658 rfl rfl ?_
        refine J_iconst (v := (1 : Int32)) dL_law_659 (by decide) ?_
        refine J_iadd dL_law_660 ?_
        refine J_sld dL_law_661 ?_
        refine J_callVLM 0 [.int (xs (Int32.toNatClampNeg (x5 + (1 : Int32))))] dL_law_662 ca_X7_dispute lk_RL_89 vi_X7_dispute rc_0 rfl rfl ⟨by decide, by decide⟩ (Nat.le_of_ble_eq_true rfl) ⟨by decide, by decide⟩ (con_X7_dispute l N _ _) (fun r85 _ => ?_)
        refine J_aload_n (i := 2) dL_law_665 rfl rfl ?_
        refine J_aload_n (i := 0) dL_law_666 rfl rfl ?_
        refine J_iload_n (i := 3) dL_law_667 rfl rfl ?_
        refine J_iconst (v := (1 : Int32)) dL_law_668 (by decide) ?_
        refine J_iadd dL_law_669 ?_
        refine J_sld dL_law_670 ?_
        refine J_callVLM 53 [.int (xs (Int32.toNatClampNeg (x5 + (1 : Int32))))] dL_law_671 ca_X8_dispute lk_RL_93 vi_X8_dispute rc_53 rfl rfl ⟨by decide, by decide⟩ (Nat.le_of_ble_eq_true rfl) ⟨by decide, by decide⟩ (con_X8_dispute l N _ _) (fun r86 _ => ?_)
        refine J_lcmp_eq (tgt := 833) dL_law_674 dL_law_675 (by decide) (fun c87 => ?_) (fun c87 => ?_)
        · refine J_sub (l1 := [some (.ref 3001), some (.ref 0), some (.ref 53), some (.int x5)]) ⟨rfl, ⟨rfl, ⟨rfl, ⟨rfl, trivial⟩⟩⟩⟩ ?_
          exact hj10 r86.2
        · refine J_iconst (v := (0 : Int32)) dL_law_678 (by decide) ?_
          exact J_ireturn dL_law_679 rfl rfl rfl
      refine J_if (fun c88 => ?_) (fun c88 => ?_)
      · refine J_tswIn (tgt := 680) (19) dL_law_32 (by rw [c88] <;> rfl) (by decide) (by decide) rfl (by decide) ?_
        refine J_aload_n (i := 1) dL_law_680 rfl rfl ?_
        refine J_aload_n (i := 0) dL_law_681 rfl rfl ?_
        refine J_iload_n (i := 3) dL_law_682 rfl rfl ?_
        refine J_iconst (v := (1 : Int32)) dL_law_683 (by decide) ?_
        refine J_iadd dL_law_684 ?_
        refine J_sld dL_law_685 ?_
        refine J_callVIM 0 [.int (xs (Int32.toNatClampNeg (x5 + (1 : Int32))))] dL_law_686 ca_X7_lied lk_RL_94 vi_X7_lied rc_0 rfl rfl ⟨by decide, by decide⟩ (Nat.le_of_ble_eq_true rfl) ⟨by decide, by decide⟩ (con_X7_lied l N _ _) (fun r89 _ => ?_)
        refine J_aload_n (i := 2) dL_law_689 rfl rfl ?_
        refine J_aload_n (i := 0) dL_law_690 rfl rfl ?_
        refine J_iload_n (i := 3) dL_law_691 rfl rfl ?_
        refine J_iconst (v := (1 : Int32)) dL_law_692 (by decide) ?_
        refine J_iadd dL_law_693 ?_
        refine J_sld dL_law_694 ?_
        refine J_callVIM 53 [.int (xs (Int32.toNatClampNeg (x5 + (1 : Int32))))] dL_law_695 ca_X8_lied lk_RL_97 vi_X8_lied rc_53 rfl rfl ⟨by decide, by decide⟩ (Nat.le_of_ble_eq_true rfl) ⟨by decide, by decide⟩ (con_X8_lied l N _ _) (fun r90 _ => ?_)
        refine J_icmp_eq (tgt := 833) dL_law_698 (by decide) (fun c91 => ?_) (fun c91 => ?_)
        · refine J_sub (l1 := [some (.ref 3001), some (.ref 0), some (.ref 53), some (.int x5)]) ⟨rfl, ⟨rfl, ⟨rfl, ⟨rfl, trivial⟩⟩⟩⟩ ?_
          exact hj10 r90.2
        · refine J_iconst (v := (0 : Int32)) dL_law_701 (by decide) ?_
          exact J_ireturn dL_law_702 rfl rfl rfl
      refine J_if (fun c92 => ?_) (fun c92 => ?_)
      · refine J_tswIn (tgt := 703) (20) dL_law_32 (by rw [c92] <;> rfl) (by decide) (by decide) rfl (by decide) ?_
        refine J_aload_n (i := 1) dL_law_703 rfl rfl ?_
        refine J_aload_n (i := 0) dL_law_704 rfl rfl ?_
        refine J_iload_n (i := 3) dL_law_705 rfl rfl ?_
        refine J_iconst (v := (1 : Int32)) dL_law_706 (by decide) ?_
        refine J_iadd dL_law_707 ?_
        refine J_sld dL_law_708 ?_
        refine J_callVLM 0 [.int (xs (Int32.toNatClampNeg (x5 + (1 : Int32))))] dL_law_709 ca_X7_part lk_RL_98 vi_X7_part rc_0 rfl rfl ⟨by decide, by decide⟩ (Nat.le_of_ble_eq_true rfl) ⟨by decide, by decide⟩ (con_X7_part l _ _) (fun r93 _ => ?_)
        refine J_aload_n (i := 2) dL_law_712 rfl rfl ?_
        refine J_aload_n (i := 0) dL_law_713 rfl rfl ?_
        refine J_iload_n (i := 3) dL_law_714 rfl rfl ?_
        refine J_iconst (v := (1 : Int32)) dL_law_715 (by decide) ?_
        refine J_iadd dL_law_716 ?_
        refine J_sld dL_law_717 ?_
        refine J_callVLM 53 [.int (xs (Int32.toNatClampNeg (x5 + (1 : Int32))))] dL_law_718 ca_X8_part lk_RL_101 vi_X8_part rc_53 rfl rfl ⟨by decide, by decide⟩ (Nat.le_of_ble_eq_true rfl) ⟨by decide, by decide⟩ (con_X8_part l _ _) (fun r94 _ => ?_)
        refine J_lcmp_eq (tgt := 833) dL_law_721 dL_law_722 (by decide) (fun c95 => ?_) (fun c95 => ?_)
        · refine J_sub (l1 := [some (.ref 3001), some (.ref 0), some (.ref 53), some (.int x5)]) ⟨rfl, ⟨rfl, ⟨rfl, ⟨rfl, trivial⟩⟩⟩⟩ ?_
          exact hj10 r94.2
        · refine J_iconst (v := (0 : Int32)) dL_law_725 (by decide) ?_
          exact J_ireturn dL_law_726 rfl rfl rfl
      refine J_if (fun c96 => ?_) (fun c96 => ?_)
      · refine J_tswIn (tgt := 727) (21) dL_law_32 (by rw [c96] <;> rfl) (by decide) (by decide) rfl (by decide) ?_
        refine J_aload_n (i := 1) dL_law_727 rfl rfl ?_
        refine J_aload_n (i := 0) dL_law_728 rfl rfl ?_
        refine J_iload_n (i := 3) dL_law_729 rfl rfl ?_
        refine J_iconst (v := (1 : Int32)) dL_law_730 (by decide) ?_
        refine J_iadd dL_law_731 ?_
        refine J_sld dL_law_732 ?_
        refine J_callVIM 0 [.int (xs (Int32.toNatClampNeg (x5 + (1 : Int32))))] dL_law_733 ca_X7_image lk_RL_102 vi_X7_image rc_0 rfl rfl ⟨by decide, by decide⟩ (Nat.le_of_ble_eq_true rfl) ⟨by decide, by decide⟩ (con_X7_image l _ _) (fun r97 _ => ?_)
        refine J_aload_n (i := 2) dL_law_736 rfl rfl ?_
        refine J_aload_n (i := 0) dL_law_737 rfl rfl ?_
        refine J_iload_n (i := 3) dL_law_738 rfl rfl ?_
        refine J_iconst (v := (1 : Int32)) dL_law_739 (by decide) ?_
        refine J_iadd dL_law_740 ?_
        refine J_sld dL_law_741 ?_
        refine J_callVIM 53 [.int (xs (Int32.toNatClampNeg (x5 + (1 : Int32))))] dL_law_742 ca_X8_image lk_RL_105 vi_X8_image rc_53 rfl rfl ⟨by decide, by decide⟩ (Nat.le_of_ble_eq_true rfl) ⟨by decide, by decide⟩ (con_X8_image l N _ _) (fun r98 _ => ?_)
        refine J_icmp_eq (tgt := 833) dL_law_745 (by decide) (fun c99 => ?_) (fun c99 => ?_)
        · refine J_sub (l1 := [some (.ref 3001), some (.ref 0), some (.ref 53), some (.int x5)]) ⟨rfl, ⟨rfl, ⟨rfl, ⟨rfl, trivial⟩⟩⟩⟩ ?_
          exact hj10 r98.2
        · refine J_iconst (v := (0 : Int32)) dL_law_748 (by decide) ?_
          exact J_ireturn dL_law_749 rfl rfl rfl
      refine J_if (fun c100 => ?_) (fun c100 => ?_)
      · refine J_tswIn (tgt := 750) (22) dL_law_32 (by rw [c100] <;> rfl) (by decide) (by decide) rfl (by decide) ?_
        refine J_aload_n (i := 1) dL_law_750 rfl rfl ?_
        refine J_aload_n (i := 0) dL_law_751 rfl rfl ?_
        refine J_iload_n (i := 3) dL_law_752 rfl rfl ?_
        refine J_iconst (v := (1 : Int32)) dL_law_753 (by decide) ?_
        refine J_iadd dL_law_754 ?_
        refine J_sld dL_law_755 ?_
        refine J_callVIM 0 [.int (xs (Int32.toNatClampNeg (x5 + (1 : Int32))))] dL_law_756 ca_X7_from lk_RL_106 vi_X7_from rc_0 rfl rfl ⟨by decide, by decide⟩ (Nat.le_of_ble_eq_true rfl) ⟨by decide, by decide⟩ (con_X7_from l N _ _) (fun r101 _ => ?_)
        refine J_aload_n (i := 2) dL_law_759 rfl rfl ?_
        refine J_aload_n (i := 0) dL_law_760 rfl rfl ?_
        refine J_iload_n (i := 3) dL_law_761 rfl rfl ?_
        refine J_iconst (v := (1 : Int32)) dL_law_762 (by decide) ?_
        refine J_iadd dL_law_763 ?_
        refine J_sld dL_law_764 ?_
        refine J_callVIM 53 [.int (xs (Int32.toNatClampNeg (x5 + (1 : Int32))))] dL_law_765 ca_X8_from lk_RL_109 vi_X8_from rc_53 rfl rfl ⟨by decide, by decide⟩ (Nat.le_of_ble_eq_true rfl) ⟨by decide, by decide⟩ (con_X8_from l N _ _) (fun r102 _ => ?_)
        refine J_icmp_eq (tgt := 833) dL_law_768 (by decide) (fun c103 => ?_) (fun c103 => ?_)
        · refine J_sub (l1 := [some (.ref 3001), some (.ref 0), some (.ref 53), some (.int x5)]) ⟨rfl, ⟨rfl, ⟨rfl, ⟨rfl, trivial⟩⟩⟩⟩ ?_
          exact hj10 r102.2
        · refine J_iconst (v := (0 : Int32)) dL_law_771 (by decide) ?_
          exact J_ireturn dL_law_772 rfl rfl rfl
      refine J_if (fun c104 => ?_) (fun c104 => ?_)
      · refine J_tswIn (tgt := 773) (23) dL_law_32 (by rw [c104] <;> rfl) (by decide) (by decide) rfl (by decide) ?_
        refine J_aload_n (i := 1) dL_law_773 rfl rfl ?_
        refine J_aload_n (i := 0) dL_law_774 rfl rfl ?_
        refine J_iload_n (i := 3) dL_law_775 rfl rfl ?_
        refine J_iconst (v := (1 : Int32)) dL_law_776 (by decide) ?_
        refine J_iadd dL_law_777 ?_
        refine J_sld dL_law_778 ?_
        refine J_callVIM 0 [.int (xs (Int32.toNatClampNeg (x5 + (1 : Int32))))] dL_law_779 ca_X7_status lk_RL_110 vi_X7_status rc_0 rfl rfl ⟨by decide, by decide⟩ (Nat.le_of_ble_eq_true rfl) ⟨by decide, by decide⟩ (con_X7_status l _ _) (fun r105 _ => ?_)
        refine J_aload_n (i := 2) dL_law_782 rfl rfl ?_
        refine J_aload_n (i := 0) dL_law_783 rfl rfl ?_
        refine J_iload_n (i := 3) dL_law_784 rfl rfl ?_
        refine J_iconst (v := (1 : Int32)) dL_law_785 (by decide) ?_
        refine J_iadd dL_law_786 ?_
        refine J_sld dL_law_787 ?_
        refine J_callVIM 53 [.int (xs (Int32.toNatClampNeg (x5 + (1 : Int32))))] dL_law_788 ca_X8_status lk_RL_113 vi_X8_status rc_53 rfl rfl ⟨by decide, by decide⟩ (Nat.le_of_ble_eq_true rfl) ⟨by decide, by decide⟩ (con_X8_status l _ _) (fun r106 _ => ?_)
        refine J_icmp_eq (tgt := 833) dL_law_791 (by decide) (fun c107 => ?_) (fun c107 => ?_)
        · refine J_sub (l1 := [some (.ref 3001), some (.ref 0), some (.ref 53), some (.int x5)]) ⟨rfl, ⟨rfl, ⟨rfl, ⟨rfl, trivial⟩⟩⟩⟩ ?_
          exact hj10 r106.2
        · refine J_iconst (v := (0 : Int32)) dL_law_794 (by decide) ?_
          exact J_ireturn dL_law_795 rfl rfl rfl
      refine J_if (fun c108 => ?_) (fun c108 => ?_)
      · refine J_tswIn (tgt := 796) (24) dL_law_32 (by rw [c108] <;> rfl) (by decide) (by decide) rfl (by decide) ?_
        refine J_aload_n (i := 1) dL_law_796 rfl rfl ?_
        refine J_aload_n (i := 0) dL_law_797 rfl rfl ?_
        refine J_iload_n (i := 3) dL_law_798 rfl rfl ?_
        refine J_iconst (v := (1 : Int32)) dL_law_799 (by decide) ?_
        refine J_iadd dL_law_800 ?_
        refine J_sld dL_law_801 ?_
        refine J_callVIM 0 [.int (xs (Int32.toNatClampNeg (x5 + (1 : Int32))))] dL_law_802 ca_X7_count lk_RL_114 vi_X7_count rc_0 rfl rfl ⟨by decide, by decide⟩ (Nat.le_of_ble_eq_true rfl) ⟨by decide, by decide⟩ (con_X7_count l _ _) (fun r109 _ => ?_)
        refine J_aload_n (i := 2) dL_law_805 rfl rfl ?_
        refine J_aload_n (i := 0) dL_law_806 rfl rfl ?_
        refine J_iload_n (i := 3) dL_law_807 rfl rfl ?_
        refine J_iconst (v := (1 : Int32)) dL_law_808 (by decide) ?_
        refine J_iadd dL_law_809 ?_
        refine J_sld dL_law_810 ?_
        refine J_callVIM 53 [.int (xs (Int32.toNatClampNeg (x5 + (1 : Int32))))] dL_law_811 ca_X8_count lk_RL_117 vi_X8_count rc_53 rfl rfl ⟨by decide, by decide⟩ (Nat.le_of_ble_eq_true rfl) ⟨by decide, by decide⟩ (con_X8_count l _ _) (fun r110 _ => ?_)
        refine J_icmp_eq (tgt := 833) dL_law_814 (by decide) (fun c111 => ?_) (fun c111 => ?_)
        · refine J_sub (l1 := [some (.ref 3001), some (.ref 0), some (.ref 53), some (.int x5)]) ⟨rfl, ⟨rfl, ⟨rfl, ⟨rfl, trivial⟩⟩⟩⟩ ?_
          exact hj10 r110.2
        · refine J_iconst (v := (0 : Int32)) dL_law_817 (by decide) ?_
          exact J_ireturn dL_law_818 rfl rfl rfl
      refine J_if (fun c112 => ?_) (fun c112 => ?_)
      · refine J_tswIn (tgt := 819) (25) dL_law_32 (by rw [c112] <;> rfl) (by decide) (by decide) rfl (by decide) ?_
        refine J_aload_n (i := 1) dL_law_819 rfl rfl ?_
        refine J_callVL 0 [] dL_law_820 ca_X7_digest lk_RL_118 vi_X7_digest rc_0 rfl rfl ⟨by decide, by decide⟩ (Nat.le_of_ble_eq_true rfl) ⟨by decide, by decide⟩ (con_X7_digest l N _) (fun r113 _ => ?_)
        refine J_aload_n (i := 2) dL_law_823 rfl rfl ?_
        refine J_callVL 53 [] dL_law_824 ca_X8_digest lk_RL_122 vi_X8_digest rc_53 rfl rfl ⟨by decide, by decide⟩ (Nat.le_of_ble_eq_true rfl) ⟨by decide, by decide⟩ (con_X8_digest l N _) (fun r114 _ => ?_)
        refine J_lcmp_eq (tgt := 833) dL_law_827 dL_law_828 (by decide) (fun c115 => ?_) (fun c115 => ?_)
        · refine J_sub (l1 := [some (.ref 3001), some (.ref 0), some (.ref 53), some (.int x5)]) ⟨rfl, ⟨rfl, ⟨rfl, ⟨rfl, trivial⟩⟩⟩⟩ ?_
          exact hj10 s6
        · refine J_iconst (v := (0 : Int32)) dL_law_831 (by decide) ?_
          exact J_ireturn dL_law_832 rfl rfl rfl
      refine J_tswOut (tgt := 833) dL_law_32 (by have c12 : ¬ (((xs (Int32.toNatClampNeg x5)) &&& (31 : Int32))).toInt = 0 := toI_ne c12; have c16 : ¬ (((xs (Int32.toNatClampNeg x5)) &&& (31 : Int32))).toInt = 1 := toI_ne c16; have c20 : ¬ (((xs (Int32.toNatClampNeg x5)) &&& (31 : Int32))).toInt = 2 := toI_ne c20; have c24 : ¬ (((xs (Int32.toNatClampNeg x5)) &&& (31 : Int32))).toInt = 3 := toI_ne c24; have c28 : ¬ (((xs (Int32.toNatClampNeg x5)) &&& (31 : Int32))).toInt = 4 := toI_ne c28; have c32 : ¬ (((xs (Int32.toNatClampNeg x5)) &&& (31 : Int32))).toInt = 5 := toI_ne c32; have c36 : ¬ (((xs (Int32.toNatClampNeg x5)) &&& (31 : Int32))).toInt = 6 := toI_ne c36; have c40 : ¬ (((xs (Int32.toNatClampNeg x5)) &&& (31 : Int32))).toInt = 7 := toI_ne c40; have c44 : ¬ (((xs (Int32.toNatClampNeg x5)) &&& (31 : Int32))).toInt = 8 := toI_ne c44; have c48 : ¬ (((xs (Int32.toNatClampNeg x5)) &&& (31 : Int32))).toInt = 9 := toI_ne c48; have c52 : ¬ (((xs (Int32.toNatClampNeg x5)) &&& (31 : Int32))).toInt = 10 := toI_ne c52; have c56 : ¬ (((xs (Int32.toNatClampNeg x5)) &&& (31 : Int32))).toInt = 11 := toI_ne c56; have c60 : ¬ (((xs (Int32.toNatClampNeg x5)) &&& (31 : Int32))).toInt = 12 := toI_ne c60; have c64 : ¬ (((xs (Int32.toNatClampNeg x5)) &&& (31 : Int32))).toInt = 13 := toI_ne c64; have c68 : ¬ (((xs (Int32.toNatClampNeg x5)) &&& (31 : Int32))).toInt = 14 := toI_ne c68; have c72 : ¬ (((xs (Int32.toNatClampNeg x5)) &&& (31 : Int32))).toInt = 15 := toI_ne c72; have c76 : ¬ (((xs (Int32.toNatClampNeg x5)) &&& (31 : Int32))).toInt = 16 := toI_ne c76; have c80 : ¬ (((xs (Int32.toNatClampNeg x5)) &&& (31 : Int32))).toInt = 17 := toI_ne c80; have c84 : ¬ (((xs (Int32.toNatClampNeg x5)) &&& (31 : Int32))).toInt = 18 := toI_ne c84; have c88 : ¬ (((xs (Int32.toNatClampNeg x5)) &&& (31 : Int32))).toInt = 19 := toI_ne c88; have c92 : ¬ (((xs (Int32.toNatClampNeg x5)) &&& (31 : Int32))).toInt = 20 := toI_ne c92; have c96 : ¬ (((xs (Int32.toNatClampNeg x5)) &&& (31 : Int32))).toInt = 21 := toI_ne c96; have c100 : ¬ (((xs (Int32.toNatClampNeg x5)) &&& (31 : Int32))).toInt = 22 := toI_ne c100; have c104 : ¬ (((xs (Int32.toNatClampNeg x5)) &&& (31 : Int32))).toInt = 23 := toI_ne c104; have c108 : ¬ (((xs (Int32.toNatClampNeg x5)) &&& (31 : Int32))).toInt = 24 := toI_ne c108; have c112 : ¬ (((xs (Int32.toNatClampNeg x5)) &&& (31 : Int32))).toInt = 25 := toI_ne c112; omega) (by decide) ?_
      refine J_sub (l1 := [some (.ref 3001), some (.ref 0), some (.ref 53), some (.int x5)]) ⟨rfl, ⟨rfl, ⟨rfl, ⟨rfl, trivial⟩⟩⟩⟩ ?_
      exact hj10 s6
set_option maxRecDepth 100000 in
set_option maxHeartbeats 4000000 in
theorem J_law (l : Launch) (N L : Nat) (xs : Nat → Int32) (s0 : jM) : J l RL cL_law 4 (some .boolean) false room_1 (lawCx L xs) eLaw [] 0 0 s0 0 [some (.ref 3001), none, none, none] [] (f_law N L xs s0) := by
  unfold f_law
  refine J_new (ci := 7) (a := 0) (sl := [some (some none), some (some none), some (some none), some (some none), some (some none), some (some none), some (some none), some (some none), some (some none), some (some none), some (some none), some (some none), none, none, none]) (Sh2 := shc_1) dL_law_0 rfl uin_7 tyX7 tyX7_ok (mTB 103 w_103 rfl) (mTB 104 w_104 rfl) (mTB 85 w_85 rfl) (by decide +kernel) lawCx_ok (by decide +kernel) (by decide) rfl rfl (by decide +kernel) rfl rfl ⟨by decide, by decide⟩ (fun s1 => ?_)
  refine J_dup dL_law_3 rfl ?_
  refine J_callI (Sh2 := shc_114) (mc := 52) (ms := 3906) (sg := fun r => r) 0 [] dL_law_4 ca_X7_init lk_RL_9 obj_vi_X7_init rfl rfl rfl ⟨by decide, by decide⟩ (Nat.le_of_ble_eq_true rfl) ⟨by decide, by decide⟩ (conc_X7_init_1 l N _) (fun _ => rfl) lawCx_ok rfl rfl (by decide +kernel) (fun s2 _ => ?_)
  refine J_astore_n (i := 1) (ls2 := [some (.ref 3001), some (.ref 0), none, none]) dL_law_7 rfl rfl (by decide) ?_
  refine J_new (ci := 8) (a := 53) (sl := [some (some none), some (some none), some (some none), some (some none), some none, some none, none, none, some (some none), none, some (some none), none, some (some none), some none, some (some none), some (some none), some (some none), none, none, some (some none), some (some none), some (some none), some (some none), none, some (some none), some (some none), some (some none)]) (Sh2 := shc_115) dL_law_8 rfl uin_8 tyX8 tyX8_ok (mTB 872 w_872 rfl) (mTB 873 w_873 rfl) (mTB 99 w_99 rfl) (by decide +kernel) lawCx_ok (by decide +kernel) (by decide) rfl rfl (by decide +kernel) rfl rfl ⟨by decide, by decide⟩ (fun s3 => ?_)
  refine J_dup dL_law_11 rfl ?_
  refine J_callI (Sh2 := SH) (mc := 17) (ms := 1834) (sg := fun r => r) 53 [] dL_law_12 ca_X8_init lk_RL_12 obj_vi_X8_init rfl rfl rfl ⟨by decide, by decide⟩ (Nat.le_of_ble_eq_true rfl) ⟨by decide, by decide⟩ (conc_X8_init_11 l _) (fun r => by unfold eC; rw [shc_end]) lawCx_ok rfl rfl (by decide +kernel) (fun s4 _ => ?_)
  refine J_astore_n (i := 2) (ls2 := [some (.ref 3001), some (.ref 0), some (.ref 53), none]) dL_law_15 rfl rfl (by decide) ?_
  refine J_iconst (v := (0 : Int32)) dL_law_16 (by decide) ?_
  refine J_istore_n (i := 3) (ls2 := [some (.ref 3001), some (.ref 0), some (.ref 53), some (.int (0 : Int32))]) dL_law_17 rfl rfl (by decide) ?_
  refine J_sub (l1 := [some (.ref 3001), some (.ref 0), some (.ref 53), some (.int (0 : Int32))]) ⟨rfl, ⟨rfl, ⟨rfl, ⟨rfl, trivial⟩⟩⟩⟩ ?_
  exact lp_law_18_ok l N L xs    N (0 : Int32) s4
