noncomputable section
abbrev rm_Tape_add : Room := { frames := 0, cells := 0, slots := 0, locals := 0 }
theorem hd_Tape_add : yX7_add.cls = RX7 ∧ yX7_add.cls ≠ "java/lang/invoke/MethodHandle" ∧ yX7_add.cls ≠ "java/lang/invoke/VarHandle" ∧ (parseMethodDescriptor yX7_add.desc).map (fun d => d.parameters.length) = some 1 := by decide +kernel
theorem qX7_add_15 : fw_G wsX7_add RX7 15 RX7 TX7 4 1 := ⟨by decide +kernel, by decide +kernel, by decide⟩
theorem qX7_add_9 : fw_G wsX7_add RX7 9 RX7 TX7 4 0 := ⟨by decide +kernel, by decide +kernel, by decide⟩
def P_Tape_add_b0 (o : Nat) (M : fw_M) (x1 : Int32) : Option (Int32 × fw_M) := (if (M o 1) < (100 : Int32) then (fw_ast M (o + 1) 100 (M o 1) x1).bind fun M2 => fw_pl (fw_set M2 o 1 ((M2 o 1) + (1 : Int32))) fun M3 => some ((1 : Int32), M3) else some ((0 : Int32), M))
def P_Tape_add (o : Nat) (M : fw_M) (a0 : Int32) : Option (Int32 × fw_M) := P_Tape_add_b0 o M a0
set_option maxRecDepth 100000 in
theorem c_Tape_add_b0 {p : Program} {l : Launch} {e : Env} {s : State} {m : MethodId} {args : Array Value} {below : List Frame} {meth : Method} {c : Code} {D : va_G} {cI cZ cH cR : ClassId} {N : Nat} {ad : Nat → Nat} {EE : fw_M → Nat → va_E} {o : Nat} {M : fw_M} {x1 : Int32} {z : (Int32 × fw_M)} (C : fw_C p s m args meth c cX7_add RX7 wsX7_add 2 (some .boolean) D vwCl (fw_tys cI cZ cH cR) N ad fw_nw0) (ho : o_Tape EE ad N cI cZ cH cR o) (h : P_Tape_add_b0 o M x1 = some z) : fw_J p l e (headSpec wsX7_add rm_Tape_add).room s m args below meth c D vwCl N ad EE 2 0 0 (fw_E below args s D vwCl N ad EE (some (.int z.1)) z.2) M [(0, .ref (ad o)), (1, .int x1)] 0 [] := by
  unfold P_Tape_add_b0 at h
  refine fw_aload_n (pc := 0) C 0 dX7_add_0 rfl rfl ?_
  refine fw_geti (pc := 1) C ho.2.2.1 rfl qX7_add_15 dX7_add_1 ?_
  refine fw_bipush (pc := 4) C (v := 100) dX7_add_4 fk_bipush_100 ?_
  refine fw_icmp_lt (pc := 6) C (tgt := 11) dX7_add_6 (by decide) (fun c1 => ?_) (fun c1 => ?_)
  · have h := fw_ift h c1
    refine fw_aload_n (pc := 11) C 0 dX7_add_11 rfl rfl ?_
    refine fw_getr (pc := 12) C ho.2.1.1 rfl qX7_add_9 dX7_add_12 ?_
    refine fw_aload_n (pc := 15) C 0 dX7_add_15 rfl rfl ?_
    refine fw_geti (pc := 16) C ho.2.2.1 rfl qX7_add_15 dX7_add_16 ?_
    refine fw_iload_n (pc := 19) C 1 dX7_add_19 rfl rfl ?_
    obtain ⟨M2, hM2, h⟩ := fw_bind h
    refine fw_iast (pc := 20) C 0 ho.2.1.2 rfl hM2 dX7_add_20 ?_
    refine fw_aload_n (pc := 21) C 0 dX7_add_21 rfl rfl ?_
    refine fw_dup (pc := 22) C dX7_add_22 rfl ?_
    refine fw_geti (pc := 23) C ho.2.2.1 rfl qX7_add_15 dX7_add_23 ?_
    refine fw_iconst (pc := 26) C (v := 1) dX7_add_26 fk_iconst_1 ?_
    refine fw_iadd (pc := 27) C dX7_add_27 ?_
    have h := fw_plh h
    refine fw_puti (pc := 28) C ho.2.2.1 rfl qX7_add_15 tyX7 tyX7_ok nmX7 rfl rfl dX7_add_28 ?_
    refine fw_iconst (pc := 31) C (v := 1) dX7_add_31 fk_iconst_1 ?_
    exact fw_zret (pc := 32) C (Or.inr rfl) (fw_p1 h) (fw_p2 h) dX7_add_32
  · have h := fw_iff h c1
    refine fw_iconst (pc := 9) C (v := 0) dX7_add_9 fk_iconst_0 ?_
    exact fw_zret (pc := 10) C (Or.inl rfl) (fw_p1 h) (fw_p2 h) dX7_add_10
theorem c_Tape_add {l : Launch} {D : va_G} {cI cZ cH cR : ClassId} {N : Nat} {ad : Nat → Nat} {EE : fw_M → Nat → va_E} {o : Nat} {M : fw_M} {a0 : Int32} {z : (Int32 × fw_M)} (ho : o_Tape EE ad N cI cZ cH cR o) (h : P_Tape_add o M a0 = some z) : fw_Met l yX7_add wsX7_add rm_Tape_add D vwCl (fw_tys cI cZ cH cR) N ad fw_nw0 EE [.ref (ad o), .int a0] M (some (.int z.1)) z.2 := by
  unfold P_Tape_add at h
  exact fw_intro (cc := cX7_add) (maxL := 2) (ret := some .boolean) (own := RX7) (by decide) rfl rfl (Nat.le_of_ble_eq_true rfl) (fun p e s m args below meth c C => fw_sub [0, 1] rfl (c_Tape_add_b0 C ho h))
abbrev rm_Tape_here : Room := { frames := 0, cells := 0, slots := 0, locals := 0 }
theorem hd_Tape_here : yX7_here.cls = RX7 ∧ yX7_here.cls ≠ "java/lang/invoke/MethodHandle" ∧ yX7_here.cls ≠ "java/lang/invoke/VarHandle" ∧ (parseMethodDescriptor yX7_here.desc).map (fun d => d.parameters.length) = some 0 := by decide +kernel
theorem qX7_here_19 : fw_G wsX7_here RX7 19 RX7 TX7 4 2 := ⟨by decide +kernel, by decide +kernel, by decide⟩
theorem qX7_here_15 : fw_G wsX7_here RX7 15 RX7 TX7 4 1 := ⟨by decide +kernel, by decide +kernel, by decide⟩
theorem qX7_here_9 : fw_G wsX7_here RX7 9 RX7 TX7 4 0 := ⟨by decide +kernel, by decide +kernel, by decide⟩
def P_Tape_here_b24 (o : Nat) (M : fw_M) (t0 : Int32) : Option Int32 := some t0
def P_Tape_here_b0 (o : Nat) (M : fw_M) : Option Int32 := (if (M o 1) ≤ (M o 2) then P_Tape_here_b24 o M (-1 : Int32) else (fw_ald M (o + 1) 100 (M o 2)).bind fun v2 => P_Tape_here_b24 o M v2)
def P_Tape_here (o : Nat) (M : fw_M) : Option Int32 := P_Tape_here_b0 o M
set_option maxRecDepth 100000 in
theorem c_Tape_here_b24 {p : Program} {l : Launch} {e : Env} {s : State} {m : MethodId} {args : Array Value} {below : List Frame} {meth : Method} {c : Code} {D : va_G} {cI cZ cH cR : ClassId} {N : Nat} {ad : Nat → Nat} {EE : fw_M → Nat → va_E} {o : Nat} {M : fw_M} {t0 : Int32} {z : Int32} (C : fw_C p s m args meth c cX7_here RX7 wsX7_here 1 (some .int) D vwCl (fw_tys cI cZ cH cR) N ad fw_nw0) (ho : o_Tape EE ad N cI cZ cH cR o) (h : P_Tape_here_b24 o M t0 = some z) : fw_J p l e (headSpec wsX7_here rm_Tape_here).room s m args below meth c D vwCl N ad EE 1 0 0 (fw_E below args s D vwCl N ad EE (some (.int z)) M) M [] 24 [.int t0] := by
  unfold P_Tape_here_b24 at h
  exact fw_iret (pc := 24) C (Option.some.inj h) rfl dX7_here_24
set_option maxRecDepth 100000 in
theorem c_Tape_here_b0 {p : Program} {l : Launch} {e : Env} {s : State} {m : MethodId} {args : Array Value} {below : List Frame} {meth : Method} {c : Code} {D : va_G} {cI cZ cH cR : ClassId} {N : Nat} {ad : Nat → Nat} {EE : fw_M → Nat → va_E} {o : Nat} {M : fw_M} {z : Int32} (C : fw_C p s m args meth c cX7_here RX7 wsX7_here 1 (some .int) D vwCl (fw_tys cI cZ cH cR) N ad fw_nw0) (ho : o_Tape EE ad N cI cZ cH cR o) (h : P_Tape_here_b0 o M = some z) : fw_J p l e (headSpec wsX7_here rm_Tape_here).room s m args below meth c D vwCl N ad EE 1 0 0 (fw_E below args s D vwCl N ad EE (some (.int z)) M) M [(0, .ref (ad o))] 0 [] := by
  unfold P_Tape_here_b0 at h
  refine fw_aload_n (pc := 0) C 0 dX7_here_0 rfl rfl ?_
  refine fw_geti (pc := 1) C ho.2.2.2.1 rfl qX7_here_19 dX7_here_1 ?_
  refine fw_aload_n (pc := 4) C 0 dX7_here_4 rfl rfl ?_
  refine fw_geti (pc := 5) C ho.2.2.1 rfl qX7_here_15 dX7_here_5 ?_
  refine fw_icmp_ge (pc := 8) C (tgt := 23) dX7_here_8 (by decide) (fun c1 => ?_) (fun c1 => ?_)
  · have h := fw_ift h c1
    refine fw_iconst (pc := 23) C (v := -1) dX7_here_23 fk_iconst_m1 ?_
    exact fw_sub [] rfl (c_Tape_here_b24 C ho h)
  · have h := fw_iff h c1
    refine fw_aload_n (pc := 11) C 0 dX7_here_11 rfl rfl ?_
    refine fw_getr (pc := 12) C ho.2.1.1 rfl qX7_here_9 dX7_here_12 ?_
    refine fw_aload_n (pc := 15) C 0 dX7_here_15 rfl rfl ?_
    refine fw_geti (pc := 16) C ho.2.2.2.1 rfl qX7_here_19 dX7_here_16 ?_
    obtain ⟨v2, hv2, h⟩ := fw_bind h
    refine fw_iald (pc := 19) C 0 ho.2.1.2 rfl hv2 dX7_here_19 ?_
    refine fw_goto (pc := 20) C (tgt := 24) dX7_here_20 (by decide) ?_
    exact fw_sub [] rfl (c_Tape_here_b24 C ho h)
theorem c_Tape_here {l : Launch} {D : va_G} {cI cZ cH cR : ClassId} {N : Nat} {ad : Nat → Nat} {EE : fw_M → Nat → va_E} {o : Nat} {M : fw_M} {z : Int32} (ho : o_Tape EE ad N cI cZ cH cR o) (h : P_Tape_here o M = some z) : fw_Met l yX7_here wsX7_here rm_Tape_here D vwCl (fw_tys cI cZ cH cR) N ad fw_nw0 EE [.ref (ad o)] M (some (.int z)) M := by
  unfold P_Tape_here at h
  exact fw_intro (cc := cX7_here) (maxL := 1) (ret := some .int) (own := RX7) (by decide) rfl rfl (Nat.le_of_ble_eq_true rfl) (fun p e s m args below meth c C => fw_sub [0] rfl (c_Tape_here_b0 C ho h))
abbrev rm_Tape_fails : Room := { frames := 0, cells := 0, slots := 0, locals := 0 }
theorem hd_Tape_fails : yX7_fails.cls = RX7 ∧ yX7_fails.cls ≠ "java/lang/invoke/MethodHandle" ∧ yX7_fails.cls ≠ "java/lang/invoke/VarHandle" ∧ (parseMethodDescriptor yX7_fails.desc).map (fun d => d.parameters.length) = some 1 := by decide +kernel
theorem qX7_fails_22 : fw_G wsX7_fails RX7 22 RX7 TX7 4 3 := ⟨by decide +kernel, by decide +kernel, by decide⟩
def P_Tape_fails_b0 (o : Nat) (M : fw_M) (x1 : Int32) : Option (Int32 × fw_M) := fw_pl (fw_set M o 3 x1) fun M1 => some ((0 : Int32), M1)
def P_Tape_fails (o : Nat) (M : fw_M) (a0 : Int32) : Option (Int32 × fw_M) := P_Tape_fails_b0 o M a0
set_option maxRecDepth 100000 in
theorem c_Tape_fails_b0 {p : Program} {l : Launch} {e : Env} {s : State} {m : MethodId} {args : Array Value} {below : List Frame} {meth : Method} {c : Code} {D : va_G} {cI cZ cH cR : ClassId} {N : Nat} {ad : Nat → Nat} {EE : fw_M → Nat → va_E} {o : Nat} {M : fw_M} {x1 : Int32} {z : (Int32 × fw_M)} (C : fw_C p s m args meth c cX7_fails RX7 wsX7_fails 2 (some .boolean) D vwCl (fw_tys cI cZ cH cR) N ad fw_nw0) (ho : o_Tape EE ad N cI cZ cH cR o) (h : P_Tape_fails_b0 o M x1 = some z) : fw_J p l e (headSpec wsX7_fails rm_Tape_fails).room s m args below meth c D vwCl N ad EE 2 0 0 (fw_E below args s D vwCl N ad EE (some (.int z.1)) z.2) M [(0, .ref (ad o)), (1, .int x1)] 0 [] := by
  unfold P_Tape_fails_b0 at h
  refine fw_aload_n (pc := 0) C 0 dX7_fails_0 rfl rfl ?_
  refine fw_iload_n (pc := 1) C 1 dX7_fails_1 rfl rfl ?_
  have h := fw_plh h
  refine fw_puti (pc := 2) C ho.2.2.2.2 rfl qX7_fails_22 tyX7 tyX7_ok nmX7 rfl rfl dX7_fails_2 ?_
  refine fw_iconst (pc := 5) C (v := 0) dX7_fails_5 fk_iconst_0 ?_
  exact fw_zret (pc := 6) C (Or.inl rfl) (fw_p1 h) (fw_p2 h) dX7_fails_6
theorem c_Tape_fails {l : Launch} {D : va_G} {cI cZ cH cR : ClassId} {N : Nat} {ad : Nat → Nat} {EE : fw_M → Nat → va_E} {o : Nat} {M : fw_M} {a0 : Int32} {z : (Int32 × fw_M)} (ho : o_Tape EE ad N cI cZ cH cR o) (h : P_Tape_fails o M a0 = some z) : fw_Met l yX7_fails wsX7_fails rm_Tape_fails D vwCl (fw_tys cI cZ cH cR) N ad fw_nw0 EE [.ref (ad o), .int a0] M (some (.int z.1)) z.2 := by
  unfold P_Tape_fails at h
  exact fw_intro (cc := cX7_fails) (maxL := 2) (ret := some .boolean) (own := RX7) (by decide) rfl rfl (Nat.le_of_ble_eq_true rfl) (fun p e s m args below meth c C => fw_sub [0, 1] rfl (c_Tape_fails_b0 C ho h))
abbrev rm_Tape_takes : Room := { frames := 1, cells := 0, slots := 0, locals := 21 }
theorem hd_Tape_takes : yX7_takes.cls = RX7 ∧ yX7_takes.cls ≠ "java/lang/invoke/MethodHandle" ∧ yX7_takes.cls ≠ "java/lang/invoke/VarHandle" ∧ (parseMethodDescriptor yX7_takes.desc).map (fun d => d.parameters.length) = some 1 := by decide +kernel
theorem qX7_takes_19 : fw_G wsX7_takes RX7 19 RX7 TX7 4 2 := ⟨by decide +kernel, by decide +kernel, by decide⟩
def P_Tape_takes_b0 (o : Nat) (M : fw_M) (x1 : Int32) : Option (Int32 × fw_M) := (P_Tape_here o M).bind fun v1 => (if v1 = x1 then fw_pl (fw_set M o 2 ((M o 2) + (1 : Int32))) fun M3 => some ((1 : Int32), M3) else (P_Tape_fails o M (1 : Int32)).bind fun q4 => (fw_zr q4.1).bind fun v5 => some (v5, q4.2))
def P_Tape_takes (o : Nat) (M : fw_M) (a0 : Int32) : Option (Int32 × fw_M) := P_Tape_takes_b0 o M a0
set_option maxRecDepth 100000 in
theorem c_Tape_takes_b0 {p : Program} {l : Launch} {e : Env} {s : State} {m : MethodId} {args : Array Value} {below : List Frame} {meth : Method} {c : Code} {D : va_G} {cI cZ cH cR : ClassId} {N : Nat} {ad : Nat → Nat} {EE : fw_M → Nat → va_E} {o : Nat} {M : fw_M} {x1 : Int32} {z : (Int32 × fw_M)} (C : fw_C p s m args meth c cX7_takes RX7 wsX7_takes 2 (some .boolean) D vwCl (fw_tys cI cZ cH cR) N ad fw_nw0) (ho : o_Tape EE ad N cI cZ cH cR o) (h : P_Tape_takes_b0 o M x1 = some z) : fw_J p l e (headSpec wsX7_takes rm_Tape_takes).room s m args below meth c D vwCl N ad EE 2 0 0 (fw_E below args s D vwCl N ad EE (some (.int z.1)) z.2) M [(0, .ref (ad o)), (1, .int x1)] 0 [] := by
  unfold P_Tape_takes_b0 at h
  refine fw_aload_n (pc := 0) C 0 dX7_takes_0 rfl rfl ?_
  obtain ⟨v1, hv1, h⟩ := fw_bind h
  refine fw_callV1 (pc := 1) C (rest := []) (c_Tape_here ho hv1) (cwV 0 C.2.2.2.2.1 gX7_takes_X7_here rfl rfl rfl hd_Tape_here ⟨Nat.le_of_ble_eq_true rfl, Nat.le_of_ble_eq_true rfl⟩) ho.1 rfl rfl ⟨Nat.zero_le _, Nat.zero_le _⟩ rfl (Nat.le_of_ble_eq_true rfl) dX7_takes_1 ?_
  refine fw_iload_n (pc := 4) C 1 dX7_takes_4 rfl rfl ?_
  refine fw_icmp_eq (pc := 5) C (tgt := 14) dX7_takes_5 (by decide) (fun c2 => ?_) (fun c2 => ?_)
  · have h := fw_ift h c2
    refine fw_aload_n (pc := 14) C 0 dX7_takes_14 rfl rfl ?_
    refine fw_dup (pc := 15) C dX7_takes_15 rfl ?_
    refine fw_geti (pc := 16) C ho.2.2.2.1 rfl qX7_takes_19 dX7_takes_16 ?_
    refine fw_iconst (pc := 19) C (v := 1) dX7_takes_19 fk_iconst_1 ?_
    refine fw_iadd (pc := 20) C dX7_takes_20 ?_
    have h := fw_plh h
    refine fw_puti (pc := 21) C ho.2.2.2.1 rfl qX7_takes_19 tyX7 tyX7_ok nmX7 rfl rfl dX7_takes_21 ?_
    refine fw_iconst (pc := 24) C (v := 1) dX7_takes_24 fk_iconst_1 ?_
    exact fw_zret (pc := 25) C (Or.inr rfl) (fw_p1 h) (fw_p2 h) dX7_takes_25
  · have h := fw_iff h c2
    refine fw_aload_n (pc := 8) C 0 dX7_takes_8 rfl rfl ?_
    refine fw_iconst (pc := 9) C (v := 1) dX7_takes_9 fk_iconst_1 ?_
    obtain ⟨q4, hq4, h⟩ := fw_bind h
    refine fw_callV1 (pc := 10) C (rest := []) (c_Tape_fails ho hq4) (cwV 1 C.2.2.2.2.1 gX7_takes_X7_fails rfl rfl rfl hd_Tape_fails ⟨Nat.le_of_ble_eq_true rfl, Nat.le_of_ble_eq_true rfl⟩) ho.1 rfl rfl ⟨Nat.zero_le _, Nat.zero_le _⟩ rfl (Nat.le_of_ble_eq_true rfl) dX7_takes_10 ?_
    obtain ⟨v5, hv5, h⟩ := fw_bind h
    exact fw_zret (pc := 13) C (fw_zrh hv5).1 ((fw_zrh hv5).2.trans (fw_p1 h)) (fw_p2 h) dX7_takes_13
theorem c_Tape_takes {l : Launch} {D : va_G} {cI cZ cH cR : ClassId} {N : Nat} {ad : Nat → Nat} {EE : fw_M → Nat → va_E} {o : Nat} {M : fw_M} {a0 : Int32} {z : (Int32 × fw_M)} (ho : o_Tape EE ad N cI cZ cH cR o) (h : P_Tape_takes o M a0 = some z) : fw_Met l yX7_takes wsX7_takes rm_Tape_takes D vwCl (fw_tys cI cZ cH cR) N ad fw_nw0 EE [.ref (ad o), .int a0] M (some (.int z.1)) z.2 := by
  unfold P_Tape_takes at h
  exact fw_intro (cc := cX7_takes) (maxL := 2) (ret := some .boolean) (own := RX7) (by decide) rfl rfl (Nat.le_of_ble_eq_true rfl) (fun p e s m args below meth c C => fw_sub [0, 1] rfl (c_Tape_takes_b0 C ho h))
abbrev rm_Tape_isFigure : Room := { frames := 0, cells := 0, slots := 0, locals := 0 }
theorem hd_Tape_isFigure : yX7_isFigure.cls = RX7 ∧ yX7_isFigure.cls ≠ "java/lang/invoke/MethodHandle" ∧ yX7_isFigure.cls ≠ "java/lang/invoke/VarHandle" ∧ (parseMethodDescriptor yX7_isFigure.desc).map (fun d => d.parameters.length) = some 1 := by decide +kernel
def P_Tape_isFigure_b17 (M : fw_M) (t0 : Int32) : Option Int32 := (fw_zr t0).bind fun v1 => some v1
def P_Tape_isFigure_b16 (M : fw_M) : Option Int32 := P_Tape_isFigure_b17 M (0 : Int32)
def P_Tape_isFigure_b0 (M : fw_M) (x0 : Int32) : Option Int32 := (if x0 < (48 : Int32) then P_Tape_isFigure_b16 M else (if (57 : Int32) < x0 then P_Tape_isFigure_b16 M else P_Tape_isFigure_b17 M (1 : Int32)))
def P_Tape_isFigure (M : fw_M) (a0 : Int32) : Option Int32 := P_Tape_isFigure_b0 M a0
set_option maxRecDepth 100000 in
theorem c_Tape_isFigure_b17 {p : Program} {l : Launch} {e : Env} {s : State} {m : MethodId} {args : Array Value} {below : List Frame} {meth : Method} {c : Code} {D : va_G} {cI cZ cH cR : ClassId} {N : Nat} {ad : Nat → Nat} {EE : fw_M → Nat → va_E} {M : fw_M} {t0 : Int32} {z : Int32} (C : fw_C p s m args meth c cX7_isFigure RX7 wsX7_isFigure 1 (some .boolean) D vwCl (fw_tys cI cZ cH cR) N ad fw_nw0) (h : P_Tape_isFigure_b17 M t0 = some z) : fw_J p l e (headSpec wsX7_isFigure rm_Tape_isFigure).room s m args below meth c D vwCl N ad EE 1 0 0 (fw_E below args s D vwCl N ad EE (some (.int z)) M) M [] 17 [.int t0] := by
  unfold P_Tape_isFigure_b17 at h
  obtain ⟨v1, hv1, h⟩ := fw_bind h
  exact fw_zret (pc := 17) C (fw_zrh hv1).1 ((fw_zrh hv1).2.trans (Option.some.inj h)) rfl dX7_isFigure_17
set_option maxRecDepth 100000 in
theorem c_Tape_isFigure_b16 {p : Program} {l : Launch} {e : Env} {s : State} {m : MethodId} {args : Array Value} {below : List Frame} {meth : Method} {c : Code} {D : va_G} {cI cZ cH cR : ClassId} {N : Nat} {ad : Nat → Nat} {EE : fw_M → Nat → va_E} {M : fw_M} {z : Int32} (C : fw_C p s m args meth c cX7_isFigure RX7 wsX7_isFigure 1 (some .boolean) D vwCl (fw_tys cI cZ cH cR) N ad fw_nw0) (h : P_Tape_isFigure_b16 M = some z) : fw_J p l e (headSpec wsX7_isFigure rm_Tape_isFigure).room s m args below meth c D vwCl N ad EE 1 0 0 (fw_E below args s D vwCl N ad EE (some (.int z)) M) M [] 16 [] := by
  unfold P_Tape_isFigure_b16 at h
  refine fw_iconst (pc := 16) C (v := 0) dX7_isFigure_16 fk_iconst_0 ?_
  exact (c_Tape_isFigure_b17 C  h)
set_option maxRecDepth 100000 in
theorem c_Tape_isFigure_b0 {p : Program} {l : Launch} {e : Env} {s : State} {m : MethodId} {args : Array Value} {below : List Frame} {meth : Method} {c : Code} {D : va_G} {cI cZ cH cR : ClassId} {N : Nat} {ad : Nat → Nat} {EE : fw_M → Nat → va_E} {M : fw_M} {x0 : Int32} {z : Int32} (C : fw_C p s m args meth c cX7_isFigure RX7 wsX7_isFigure 1 (some .boolean) D vwCl (fw_tys cI cZ cH cR) N ad fw_nw0) (h : P_Tape_isFigure_b0 M x0 = some z) : fw_J p l e (headSpec wsX7_isFigure rm_Tape_isFigure).room s m args below meth c D vwCl N ad EE 1 0 0 (fw_E below args s D vwCl N ad EE (some (.int z)) M) M [(0, .int x0)] 0 [] := by
  unfold P_Tape_isFigure_b0 at h
  refine fw_iload_n (pc := 0) C 0 dX7_isFigure_0 rfl rfl ?_
  refine fw_bipush (pc := 1) C (v := 48) dX7_isFigure_1 fk_bipush_48 ?_
  refine fw_icmp_lt (pc := 3) C (tgt := 16) dX7_isFigure_3 (by decide) (fun c1 => ?_) (fun c1 => ?_)
  · have h := fw_ift h c1
    exact fw_sub [] rfl (c_Tape_isFigure_b16 C  h)
  · have h := fw_iff h c1
    refine fw_iload_n (pc := 6) C 0 dX7_isFigure_6 rfl rfl ?_
    refine fw_bipush (pc := 7) C (v := 57) dX7_isFigure_7 fk_bipush_57 ?_
    refine fw_icmp_gt (pc := 9) C (tgt := 16) dX7_isFigure_9 (by decide) (fun c2 => ?_) (fun c2 => ?_)
    · have h := fw_ift h c2
      exact fw_sub [] rfl (c_Tape_isFigure_b16 C  h)
    · have h := fw_iff h c2
      refine fw_iconst (pc := 12) C (v := 1) dX7_isFigure_12 fk_iconst_1 ?_
      refine fw_goto (pc := 13) C (tgt := 17) dX7_isFigure_13 (by decide) ?_
      exact fw_sub [] rfl (c_Tape_isFigure_b17 C  h)
theorem c_Tape_isFigure {l : Launch} {D : va_G} {cI cZ cH cR : ClassId} {N : Nat} {ad : Nat → Nat} {EE : fw_M → Nat → va_E} {M : fw_M} {a0 : Int32} {z : Int32} (h : P_Tape_isFigure M a0 = some z) : fw_Met l yX7_isFigure wsX7_isFigure rm_Tape_isFigure D vwCl (fw_tys cI cZ cH cR) N ad fw_nw0 EE [.int a0] M (some (.int z)) M := by
  unfold P_Tape_isFigure at h
  exact fw_intro (cc := cX7_isFigure) (maxL := 1) (ret := some .boolean) (own := RX7) (by decide) rfl rfl (Nat.le_of_ble_eq_true rfl) (fun p e s m args below meth c C => fw_sub [0] rfl (c_Tape_isFigure_b0 C  h))
abbrev rm_Tape_numberBefore : Room := { frames := 2, cells := 0, slots := 0, locals := 42 }
theorem hd_Tape_numberBefore : yX7_numberBefore.cls = RX7 ∧ yX7_numberBefore.cls ≠ "java/lang/invoke/MethodHandle" ∧ yX7_numberBefore.cls ≠ "java/lang/invoke/VarHandle" ∧ (parseMethodDescriptor yX7_numberBefore.desc).map (fun d => d.parameters.length) = some 3 := by decide +kernel
theorem qX7_numberBefore_19 : fw_G wsX7_numberBefore RX7 19 RX7 TX7 4 2 := ⟨by decide +kernel, by decide +kernel, by decide⟩
theorem qX7_numberBefore_15 : fw_G wsX7_numberBefore RX7 15 RX7 TX7 4 1 := ⟨by decide +kernel, by decide +kernel, by decide⟩
theorem qX7_numberBefore_9 : fw_G wsX7_numberBefore RX7 9 RX7 TX7 4 0 := ⟨by decide +kernel, by decide +kernel, by decide⟩
theorem knX7_numberBefore_74 : Cond.initialized RX8 ∈ wsX7_numberBefore ∧ Cond.static yX8_within ∈ wsX7_numberBefore := by decide +kernel
def P_Tape_numberBefore_b78 (o : Nat) (M : fw_M) : Option (Int32 × fw_M) := (P_Tape_fails o M (1 : Int32)).bind fun q1 => some ((-1 : Int32), q1.2)
def P_Tape_numberBefore_b129 (o : Nat) (M : fw_M) (t0 : Int32) : Option (Int32 × fw_M) := some (t0, M)
def P_Tape_numberBefore_b67 (o : Nat) (M : fw_M) (x1 : Int32) (x2 : Int32) (x3 : Int32) (x4 : Int32) (x5 : Int32) : Option (Int32 × fw_M) := (if x4 = (0 : Int32) then P_Tape_numberBefore_b78 o M else (if x4 ≤ (2 : Int32) then (P_Door_within M x5 x1 x2).bind fun v3 => (if v3 = (0 : Int32) then (P_Tape_fails o M (2 : Int32)).bind fun q8 => some ((-1 : Int32), q8.2) else fw_pl (fw_set M o 2 ((M o 2) + x4)) fun M5 => (P_Tape_takes o M5 x3).bind fun q6 => (if q6.1 = (0 : Int32) then P_Tape_numberBefore_b129 o q6.2 (-1 : Int32) else P_Tape_numberBefore_b129 o q6.2 x5)) else P_Tape_numberBefore_b78 o M))
def P_Tape_numberBefore_b12 (o : Nat) (K12 : fw_M → Int32 → Int32 → Int32 → Int32 → Int32 → Int32 → Option (Int32 × fw_M)) (M : fw_M) (x1 : Int32) (x2 : Int32) (x3 : Int32) (x4 : Int32) (x5 : Int32) (x6 : Int32) : Option (Int32 × fw_M) := (if (M o 1) ≤ x6 then P_Tape_numberBefore_b67 o M x1 x2 x3 x4 x5 else (if (3 : Int32) ≤ x4 then P_Tape_numberBefore_b67 o M x1 x2 x3 x4 x5 else (fw_ald M (o + 1) 100 x6).bind fun v3 => (P_Tape_isFigure M v3).bind fun v4 => (if v4 = (0 : Int32) then P_Tape_numberBefore_b67 o M x1 x2 x3 x4 x5 else (fw_ald M (o + 1) 100 x6).bind fun v6 => fw_pl (((x5 * (10 : Int32)) + (v6 - (48 : Int32)))) fun y7 => K12 M x1 x2 x3 (x4 + (1 : Int32)) y7 (x6 + (1 : Int32)))))
def P_Tape_numberBefore_h12 (o : Nat) : Nat → fw_M → Int32 → Int32 → Int32 → Int32 → Int32 → Int32 → Option (Int32 × fw_M)
  | 0, _, _, _, _, _, _, _ => none
  | n + 1, M, x1, x2, x3, x4, x5, x6 => P_Tape_numberBefore_b12 o (P_Tape_numberBefore_h12 o n) M x1 x2 x3 x4 x5 x6
def P_Tape_numberBefore_b0 (o : Nat) (M : fw_M) (x1 : Int32) (x2 : Int32) (x3 : Int32) : Option (Int32 × fw_M) := fw_pl ((M o 2)) fun y1 => P_Tape_numberBefore_h12 o fw_fu M x1 x2 x3 (0 : Int32) (0 : Int32) y1
def P_Tape_numberBefore (o : Nat) (M : fw_M) (a0 : Int32) (a1 : Int32) (a2 : Int32) : Option (Int32 × fw_M) := P_Tape_numberBefore_b0 o M a0 a1 a2
set_option maxRecDepth 100000 in
theorem c_Tape_numberBefore_b78 {p : Program} {l : Launch} {e : Env} {s : State} {m : MethodId} {args : Array Value} {below : List Frame} {meth : Method} {c : Code} {D : va_G} {cI cZ cH cR : ClassId} {N : Nat} {ad : Nat → Nat} {EE : fw_M → Nat → va_E} {o : Nat} {M : fw_M} {z : (Int32 × fw_M)} (C : fw_C p s m args meth c cX7_numberBefore RX7 wsX7_numberBefore 7 (some .int) D vwCl (fw_tys cI cZ cH cR) N ad fw_nw0) (ho : o_Tape EE ad N cI cZ cH cR o) (h : P_Tape_numberBefore_b78 o M = some z) : fw_J p l e (headSpec wsX7_numberBefore rm_Tape_numberBefore).room s m args below meth c D vwCl N ad EE 7 0 0 (fw_E below args s D vwCl N ad EE (some (.int z.1)) z.2) M [(0, .ref (ad o))] 78 [] := by
  unfold P_Tape_numberBefore_b78 at h
  refine fw_aload_n (pc := 78) C 0 dX7_numberBefore_78 rfl rfl ?_
  refine fw_iconst (pc := 79) C (v := 1) dX7_numberBefore_79 fk_iconst_1 ?_
  obtain ⟨q1, hq1, h⟩ := fw_bind h
  refine fw_callV1 (pc := 80) C (rest := []) (c_Tape_fails ho hq1) (cwV 1 C.2.2.2.2.1 gX7_numberBefore_X7_fails rfl rfl rfl hd_Tape_fails ⟨Nat.le_of_ble_eq_true rfl, Nat.le_of_ble_eq_true rfl⟩) ho.1 rfl rfl ⟨Nat.zero_le _, Nat.zero_le _⟩ rfl (Nat.le_of_ble_eq_true rfl) dX7_numberBefore_80 ?_
  refine fw_pop (pc := 83) C dX7_numberBefore_83 rfl ?_
  refine fw_iconst (pc := 84) C (v := -1) dX7_numberBefore_84 fk_iconst_m1 ?_
  exact fw_iret (pc := 85) C (fw_p1 h) (fw_p2 h) dX7_numberBefore_85
set_option maxRecDepth 100000 in
theorem c_Tape_numberBefore_b129 {p : Program} {l : Launch} {e : Env} {s : State} {m : MethodId} {args : Array Value} {below : List Frame} {meth : Method} {c : Code} {D : va_G} {cI cZ cH cR : ClassId} {N : Nat} {ad : Nat → Nat} {EE : fw_M → Nat → va_E} {o : Nat} {M : fw_M} {t0 : Int32} {z : (Int32 × fw_M)} (C : fw_C p s m args meth c cX7_numberBefore RX7 wsX7_numberBefore 7 (some .int) D vwCl (fw_tys cI cZ cH cR) N ad fw_nw0) (ho : o_Tape EE ad N cI cZ cH cR o) (h : P_Tape_numberBefore_b129 o M t0 = some z) : fw_J p l e (headSpec wsX7_numberBefore rm_Tape_numberBefore).room s m args below meth c D vwCl N ad EE 7 0 0 (fw_E below args s D vwCl N ad EE (some (.int z.1)) z.2) M [] 129 [.int t0] := by
  unfold P_Tape_numberBefore_b129 at h
  exact fw_iret (pc := 129) C (fw_p1 h) (fw_p2 h) dX7_numberBefore_129
set_option maxRecDepth 100000 in
theorem c_Tape_numberBefore_b67 {p : Program} {l : Launch} {e : Env} {s : State} {m : MethodId} {args : Array Value} {below : List Frame} {meth : Method} {c : Code} {D : va_G} {cI cZ cH cR : ClassId} {N : Nat} {ad : Nat → Nat} {EE : fw_M → Nat → va_E} {o : Nat} {M : fw_M} {x1 : Int32} {x2 : Int32} {x3 : Int32} {x4 : Int32} {x5 : Int32} {z : (Int32 × fw_M)} (C : fw_C p s m args meth c cX7_numberBefore RX7 wsX7_numberBefore 7 (some .int) D vwCl (fw_tys cI cZ cH cR) N ad fw_nw0) (ho : o_Tape EE ad N cI cZ cH cR o) (h : P_Tape_numberBefore_b67 o M x1 x2 x3 x4 x5 = some z) : fw_J p l e (headSpec wsX7_numberBefore rm_Tape_numberBefore).room s m args below meth c D vwCl N ad EE 7 0 0 (fw_E below args s D vwCl N ad EE (some (.int z.1)) z.2) M [(0, .ref (ad o)), (1, .int x1), (2, .int x2), (3, .int x3), (4, .int x4), (5, .int x5)] 67 [] := by
  unfold P_Tape_numberBefore_b67 at h
  refine fw_iload (pc := 67) C 4 dX7_numberBefore_67 rfl ?_
  refine fw_if_eq (pc := 69) C (tgt := 78) dX7_numberBefore_69 (by decide) (fun c1 => ?_) (fun c1 => ?_)
  · have h := fw_ift h c1
    exact fw_sub [0] rfl (c_Tape_numberBefore_b78 C ho h)
  · have h := fw_iff h c1
    refine fw_iload (pc := 72) C 4 dX7_numberBefore_72 rfl ?_
    refine fw_iconst (pc := 74) C (v := 2) dX7_numberBefore_74 fk_iconst_2 ?_
    refine fw_icmp_le (pc := 75) C (tgt := 86) dX7_numberBefore_75 (by decide) (fun c2 => ?_) (fun c2 => ?_)
    · have h := fw_ift h c2
      refine fw_iload (pc := 86) C 5 dX7_numberBefore_86 rfl ?_
      refine fw_iload_n (pc := 88) C 1 dX7_numberBefore_88 rfl rfl ?_
      refine fw_iload_n (pc := 89) C 2 dX7_numberBefore_89 rfl rfl ?_
      obtain ⟨v3, hv3, h⟩ := fw_bind h
      refine fw_callSN1 (pc := 90) C (rest := []) (c_Door_within  hv3) ⟨va_cnB 3 C.2.2.2.2.1 gX7_numberBefore_X8_within_n74 rfl rfl rfl (C.2.2.2.2.2.2.2.1.1 (RX7, 74, yX8_within, "YieldDoors") (by decide +kernel)) (C.2.2.2.2.1 _ knX7_numberBefore_74.1) hd_Door_within.2 ⟨Nat.le_of_ble_eq_true rfl, Nat.le_of_ble_eq_true rfl⟩, C.2.2.2.2.1 _ knX7_numberBefore_74.2, trivial⟩ rfl ⟨Nat.zero_le _, Nat.zero_le _⟩ rfl (Nat.le_of_ble_eq_true rfl) dX7_numberBefore_90 ?_
      refine fw_if_ne (pc := 93) C (tgt := 104) dX7_numberBefore_93 (by decide) (fun c4 => ?_) (fun c4 => ?_)
      · have h := fw_iff h c4
        refine fw_aload_n (pc := 104) C 0 dX7_numberBefore_104 rfl rfl ?_
        refine fw_dup (pc := 105) C dX7_numberBefore_105 rfl ?_
        refine fw_geti (pc := 106) C ho.2.2.2.1 rfl qX7_numberBefore_19 dX7_numberBefore_106 ?_
        refine fw_iload (pc := 109) C 4 dX7_numberBefore_109 rfl ?_
        refine fw_iadd (pc := 111) C dX7_numberBefore_111 ?_
        have h := fw_plh h
        refine fw_puti (pc := 112) C ho.2.2.2.1 rfl qX7_numberBefore_19 tyX7 tyX7_ok nmX7 rfl rfl dX7_numberBefore_112 ?_
        refine fw_aload_n (pc := 115) C 0 dX7_numberBefore_115 rfl rfl ?_
        refine fw_iload_n (pc := 116) C 3 dX7_numberBefore_116 rfl rfl ?_
        obtain ⟨q6, hq6, h⟩ := fw_bind h
        refine fw_callV1 (pc := 117) C (rest := []) (c_Tape_takes ho hq6) (cwV 1 C.2.2.2.2.1 gX7_numberBefore_X7_takes rfl rfl rfl hd_Tape_takes ⟨Nat.le_of_ble_eq_true rfl, Nat.le_of_ble_eq_true rfl⟩) ho.1 rfl rfl ⟨Nat.zero_le _, Nat.zero_le _⟩ rfl (Nat.le_of_ble_eq_true rfl) dX7_numberBefore_117 ?_
        refine fw_if_eq (pc := 120) C (tgt := 128) dX7_numberBefore_120 (by decide) (fun c7 => ?_) (fun c7 => ?_)
        · have h := fw_ift h c7
          refine fw_iconst (pc := 128) C (v := -1) dX7_numberBefore_128 fk_iconst_m1 ?_
          exact fw_sub [] rfl (c_Tape_numberBefore_b129 C ho h)
        · have h := fw_iff h c7
          refine fw_iload (pc := 123) C 5 dX7_numberBefore_123 rfl ?_
          refine fw_goto (pc := 125) C (tgt := 129) dX7_numberBefore_125 (by decide) ?_
          exact fw_sub [] rfl (c_Tape_numberBefore_b129 C ho h)
      · have h := fw_ift h c4
        refine fw_aload_n (pc := 96) C 0 dX7_numberBefore_96 rfl rfl ?_
        refine fw_iconst (pc := 97) C (v := 2) dX7_numberBefore_97 fk_iconst_2 ?_
        obtain ⟨q8, hq8, h⟩ := fw_bind h
        refine fw_callV1 (pc := 98) C (rest := []) (c_Tape_fails ho hq8) (cwV 1 C.2.2.2.2.1 gX7_numberBefore_X7_fails rfl rfl rfl hd_Tape_fails ⟨Nat.le_of_ble_eq_true rfl, Nat.le_of_ble_eq_true rfl⟩) ho.1 rfl rfl ⟨Nat.zero_le _, Nat.zero_le _⟩ rfl (Nat.le_of_ble_eq_true rfl) dX7_numberBefore_98 ?_
        refine fw_pop (pc := 101) C dX7_numberBefore_101 rfl ?_
        refine fw_iconst (pc := 102) C (v := -1) dX7_numberBefore_102 fk_iconst_m1 ?_
        exact fw_iret (pc := 103) C (fw_p1 h) (fw_p2 h) dX7_numberBefore_103
    · have h := fw_iff h c2
      exact fw_sub [0] rfl (c_Tape_numberBefore_b78 C ho h)
set_option maxRecDepth 100000 in
theorem c_Tape_numberBefore_b12 {p : Program} {l : Launch} {e : Env} {s : State} {m : MethodId} {args : Array Value} {below : List Frame} {meth : Method} {c : Code} {D : va_G} {cI cZ cH cR : ClassId} {N : Nat} {ad : Nat → Nat} {EE : fw_M → Nat → va_E} {o : Nat} {K12 : fw_M → Int32 → Int32 → Int32 → Int32 → Int32 → Int32 → Option (Int32 × fw_M)} {M : fw_M} {x1 : Int32} {x2 : Int32} {x3 : Int32} {x4 : Int32} {x5 : Int32} {x6 : Int32} {z : (Int32 × fw_M)} (C : fw_C p s m args meth c cX7_numberBefore RX7 wsX7_numberBefore 7 (some .int) D vwCl (fw_tys cI cZ cH cR) N ad fw_nw0) (ho : o_Tape EE ad N cI cZ cH cR o) (hK12 : ∀ (Mk : fw_M) (kx1 : Int32) (kx2 : Int32) (kx3 : Int32) (kx4 : Int32) (kx5 : Int32) (kx6 : Int32), K12 Mk kx1 kx2 kx3 kx4 kx5 kx6 = some z → fw_J p l e (headSpec wsX7_numberBefore rm_Tape_numberBefore).room s m args below meth c D vwCl N ad EE 7 0 0 (fw_E below args s D vwCl N ad EE (some (.int z.1)) z.2) Mk [(0, .ref (ad o)), (1, .int kx1), (2, .int kx2), (3, .int kx3), (4, .int kx4), (5, .int kx5), (6, .int kx6)] 12 []) (h : P_Tape_numberBefore_b12 o K12 M x1 x2 x3 x4 x5 x6 = some z) : fw_J p l e (headSpec wsX7_numberBefore rm_Tape_numberBefore).room s m args below meth c D vwCl N ad EE 7 0 0 (fw_E below args s D vwCl N ad EE (some (.int z.1)) z.2) M [(0, .ref (ad o)), (1, .int x1), (2, .int x2), (3, .int x3), (4, .int x4), (5, .int x5), (6, .int x6)] 12 [] := by
  unfold P_Tape_numberBefore_b12 at h
  refine fw_iload (pc := 12) C 6 dX7_numberBefore_12 rfl ?_
  refine fw_aload_n (pc := 14) C 0 dX7_numberBefore_14 rfl rfl ?_
  refine fw_geti (pc := 15) C ho.2.2.1 rfl qX7_numberBefore_15 dX7_numberBefore_15 ?_
  refine fw_icmp_ge (pc := 18) C (tgt := 67) dX7_numberBefore_18 (by decide) (fun c1 => ?_) (fun c1 => ?_)
  · have h := fw_ift h c1
    exact fw_sub [0, 1, 2, 3, 4, 5] rfl (c_Tape_numberBefore_b67 C ho h)
  · have h := fw_iff h c1
    refine fw_iload (pc := 21) C 4 dX7_numberBefore_21 rfl ?_
    refine fw_iconst (pc := 23) C (v := 3) dX7_numberBefore_23 fk_iconst_3 ?_
    refine fw_icmp_ge (pc := 24) C (tgt := 67) dX7_numberBefore_24 (by decide) (fun c2 => ?_) (fun c2 => ?_)
    · have h := fw_ift h c2
      exact fw_sub [0, 1, 2, 3, 4, 5] rfl (c_Tape_numberBefore_b67 C ho h)
    · have h := fw_iff h c2
      refine fw_aload_n (pc := 27) C 0 dX7_numberBefore_27 rfl rfl ?_
      refine fw_getr (pc := 28) C ho.2.1.1 rfl qX7_numberBefore_9 dX7_numberBefore_28 ?_
      refine fw_iload (pc := 31) C 6 dX7_numberBefore_31 rfl ?_
      obtain ⟨v3, hv3, h⟩ := fw_bind h
      refine fw_iald (pc := 33) C 0 ho.2.1.2 rfl hv3 dX7_numberBefore_33 ?_
      obtain ⟨v4, hv4, h⟩ := fw_bind h
      refine fw_callS1 (pc := 34) C (rest := []) (c_Tape_isFigure  hv4) (va_cwS 1 C.2.2.2.2.1 gX7_numberBefore_X7_isFigure rfl rfl rfl hd_Tape_isFigure.2 ⟨Nat.le_of_ble_eq_true rfl, Nat.le_of_ble_eq_true rfl⟩) rfl ⟨Nat.zero_le _, Nat.zero_le _⟩ rfl (Nat.le_of_ble_eq_true rfl) dX7_numberBefore_34 ?_
      refine fw_if_eq (pc := 37) C (tgt := 67) dX7_numberBefore_37 (by decide) (fun c5 => ?_) (fun c5 => ?_)
      · have h := fw_ift h c5
        exact fw_sub [0, 1, 2, 3, 4, 5] rfl (c_Tape_numberBefore_b67 C ho h)
      · have h := fw_iff h c5
        refine fw_iload (pc := 40) C 5 dX7_numberBefore_40 rfl ?_
        refine fw_bipush (pc := 42) C (v := 10) dX7_numberBefore_42 fk_bipush_10 ?_
        refine fw_imul (pc := 44) C dX7_numberBefore_44 ?_
        refine fw_aload_n (pc := 45) C 0 dX7_numberBefore_45 rfl rfl ?_
        refine fw_getr (pc := 46) C ho.2.1.1 rfl qX7_numberBefore_9 dX7_numberBefore_46 ?_
        refine fw_iload (pc := 49) C 6 dX7_numberBefore_49 rfl ?_
        obtain ⟨v6, hv6, h⟩ := fw_bind h
        refine fw_iald (pc := 51) C 0 ho.2.1.2 rfl hv6 dX7_numberBefore_51 ?_
        refine fw_bipush (pc := 52) C (v := 48) dX7_numberBefore_52 fk_bipush_48 ?_
        refine fw_isub (pc := 54) C dX7_numberBefore_54 ?_
        refine fw_iadd (pc := 55) C dX7_numberBefore_55 ?_
        have h := fw_plh h
        refine fw_istore (pc := 56) C (L2 := [(0, .ref _), (1, .int _), (2, .int _), (3, .int _), (4, .int _), (5, .int _), (6, .int _)]) [1, 2, 3, 4, 5, 0, 6] dX7_numberBefore_56 (by decide) rfl ?_
        refine fw_iinc (pc := 58) C (v := 1) (L2 := [(0, .ref _), (1, .int _), (2, .int _), (3, .int _), (4, .int _), (5, .int _), (6, .int _)]) 4 [1, 2, 3, 4, 0, 5, 6] dX7_numberBefore_58 rfl fk_iconst_1 (by decide) rfl ?_
        refine fw_iinc (pc := 61) C (v := 1) (L2 := [(0, .ref _), (1, .int _), (2, .int _), (3, .int _), (4, .int _), (5, .int _), (6, .int _)]) 6 [1, 2, 3, 4, 5, 6, 0] dX7_numberBefore_61 rfl fk_iconst_1 (by decide) rfl ?_
        refine fw_goto (pc := 64) C (tgt := 12) dX7_numberBefore_64 (by decide) ?_
        exact (hK12 _ _ _ _ _ _ _ h)
theorem c_Tape_numberBefore_h12 {p : Program} {l : Launch} {e : Env} {s : State} {m : MethodId} {args : Array Value} {below : List Frame} {meth : Method} {c : Code} {D : va_G} {cI cZ cH cR : ClassId} {N : Nat} {ad : Nat → Nat} {EE : fw_M → Nat → va_E} {o : Nat} {z : (Int32 × fw_M)} (C : fw_C p s m args meth c cX7_numberBefore RX7 wsX7_numberBefore 7 (some .int) D vwCl (fw_tys cI cZ cH cR) N ad fw_nw0) (ho : o_Tape EE ad N cI cZ cH cR o) : ∀ (n : Nat) (M : fw_M) (x1 : Int32) (x2 : Int32) (x3 : Int32) (x4 : Int32) (x5 : Int32) (x6 : Int32), P_Tape_numberBefore_h12 o n M x1 x2 x3 x4 x5 x6 = some z → fw_J p l e (headSpec wsX7_numberBefore rm_Tape_numberBefore).room s m args below meth c D vwCl N ad EE 7 0 0 (fw_E below args s D vwCl N ad EE (some (.int z.1)) z.2) M [(0, .ref (ad o)), (1, .int x1), (2, .int x2), (3, .int x3), (4, .int x4), (5, .int x5), (6, .int x6)] 12 [] := by
  intro n
  induction n with
  | zero => intro M x1 x2 x3 x4 x5 x6  h; cases h
  | succ n ih => intro M x1 x2 x3 x4 x5 x6  h; exact c_Tape_numberBefore_b12 C ho ih  h
set_option maxRecDepth 100000 in
theorem c_Tape_numberBefore_b0 {p : Program} {l : Launch} {e : Env} {s : State} {m : MethodId} {args : Array Value} {below : List Frame} {meth : Method} {c : Code} {D : va_G} {cI cZ cH cR : ClassId} {N : Nat} {ad : Nat → Nat} {EE : fw_M → Nat → va_E} {o : Nat} {M : fw_M} {x1 : Int32} {x2 : Int32} {x3 : Int32} {z : (Int32 × fw_M)} (C : fw_C p s m args meth c cX7_numberBefore RX7 wsX7_numberBefore 7 (some .int) D vwCl (fw_tys cI cZ cH cR) N ad fw_nw0) (ho : o_Tape EE ad N cI cZ cH cR o) (h : P_Tape_numberBefore_b0 o M x1 x2 x3 = some z) : fw_J p l e (headSpec wsX7_numberBefore rm_Tape_numberBefore).room s m args below meth c D vwCl N ad EE 7 0 0 (fw_E below args s D vwCl N ad EE (some (.int z.1)) z.2) M [(0, .ref (ad o)), (1, .int x1), (2, .int x2), (3, .int x3)] 0 [] := by
  unfold P_Tape_numberBefore_b0 at h
  refine fw_iconst (pc := 0) C (v := 0) dX7_numberBefore_0 fk_iconst_0 ?_
  refine fw_istore (pc := 1) C (L2 := [(0, .ref _), (1, .int _), (2, .int _), (3, .int _), (4, .int _)]) [1, 2, 3, 4, 0] dX7_numberBefore_1 (by decide) rfl ?_
  refine fw_iconst (pc := 3) C (v := 0) dX7_numberBefore_3 fk_iconst_0 ?_
  refine fw_istore (pc := 4) C (L2 := [(0, .ref _), (1, .int _), (2, .int _), (3, .int _), (4, .int _), (5, .int _)]) [1, 2, 3, 4, 5, 0] dX7_numberBefore_4 (by decide) rfl ?_
  refine fw_aload_n (pc := 6) C 0 dX7_numberBefore_6 rfl rfl ?_
  refine fw_geti (pc := 7) C ho.2.2.2.1 rfl qX7_numberBefore_19 dX7_numberBefore_7 ?_
  have h := fw_plh h
  refine fw_istore (pc := 10) C (L2 := [(0, .ref _), (1, .int _), (2, .int _), (3, .int _), (4, .int _), (5, .int _), (6, .int _)]) [1, 2, 3, 4, 5, 6, 0] dX7_numberBefore_10 (by decide) rfl ?_
  exact (c_Tape_numberBefore_h12 C ho _ _ _ _ _ _ _ _ h)
theorem c_Tape_numberBefore {l : Launch} {D : va_G} {cI cZ cH cR : ClassId} {N : Nat} {ad : Nat → Nat} {EE : fw_M → Nat → va_E} {o : Nat} {M : fw_M} {a0 : Int32} {a1 : Int32} {a2 : Int32} {z : (Int32 × fw_M)} (ho : o_Tape EE ad N cI cZ cH cR o) (h : P_Tape_numberBefore o M a0 a1 a2 = some z) : fw_Met l yX7_numberBefore wsX7_numberBefore rm_Tape_numberBefore D vwCl (fw_tys cI cZ cH cR) N ad fw_nw0 EE [.ref (ad o), .int a0, .int a1, .int a2] M (some (.int z.1)) z.2 := by
  unfold P_Tape_numberBefore at h
  exact fw_intro (cc := cX7_numberBefore) (maxL := 7) (ret := some .int) (own := RX7) (by decide) rfl rfl (Nat.le_of_ble_eq_true rfl) (fun p e s m args below meth c C => fw_sub [0, 1, 2, 3] rfl (c_Tape_numberBefore_b0 C ho h))
abbrev rm_Tape_readLaw : Room := { frames := 3, cells := 0, slots := 0, locals := 68 }
theorem hd_Tape_readLaw : yX7_readLaw.cls = RX7 ∧ yX7_readLaw.cls ≠ "java/lang/invoke/MethodHandle" ∧ yX7_readLaw.cls ≠ "java/lang/invoke/VarHandle" ∧ (parseMethodDescriptor yX7_readLaw.desc).map (fun d => d.parameters.length) = some 1 := by decide +kernel
def P_Tape_readLaw_b0 (o : Nat) (r0 : Nat) (M : fw_M) : Option (Int32 × fw_M) := (P_Tape_takes o M (109 : Int32)).bind fun q1 => (if q1.1 = (0 : Int32) then some ((0 : Int32), q1.2) else (P_Tape_numberBefore o q1.2 (1 : Int32) (4 : Int32) (44 : Int32)).bind fun q3 => (if q3.1 = (-1 : Int32) then some ((0 : Int32), q3.2) else (P_Tape_numberBefore o q3.2 (1 : Int32) (9 : Int32) (59 : Int32)).bind fun q5 => (if q5.1 = (-1 : Int32) then some ((0 : Int32), q5.2) else (P_Hall_begin r0 q5.2 q3.1 q5.1).bind fun q7 => some ((1 : Int32), q7))))
def P_Tape_readLaw (o : Nat) (r0 : Nat) (M : fw_M) : Option (Int32 × fw_M) := P_Tape_readLaw_b0 o r0 M
set_option maxRecDepth 100000 in
theorem c_Tape_readLaw_b0 {p : Program} {l : Launch} {e : Env} {s : State} {m : MethodId} {args : Array Value} {below : List Frame} {meth : Method} {c : Code} {D : va_G} {cI cZ cH cR : ClassId} {N : Nat} {ad : Nat → Nat} {EE : fw_M → Nat → va_E} {o : Nat} {r0 : Nat} {M : fw_M} {z : (Int32 × fw_M)} (C : fw_C p s m args meth c cX7_readLaw RX7 wsX7_readLaw 4 (some .boolean) D vwCl (fw_tys cI cZ cH cR) N ad fw_nw0) (ho : o_Tape EE ad N cI cZ cH cR o) (hr0 : o_Hall EE ad N cI cZ cH cR r0) (h : P_Tape_readLaw_b0 o r0 M = some z) : fw_J p l e (headSpec wsX7_readLaw rm_Tape_readLaw).room s m args below meth c D vwCl N ad EE 4 0 0 (fw_E below args s D vwCl N ad EE (some (.int z.1)) z.2) M [(0, .ref (ad o)), (1, .ref (ad r0))] 0 [] := by
  unfold P_Tape_readLaw_b0 at h
  refine fw_aload_n (pc := 0) C 0 dX7_readLaw_0 rfl rfl ?_
  refine fw_bipush (pc := 1) C (v := 109) dX7_readLaw_1 fk_bipush_109 ?_
  obtain ⟨q1, hq1, h⟩ := fw_bind h
  refine fw_callV1 (pc := 3) C (rest := []) (c_Tape_takes ho hq1) (cwV 1 C.2.2.2.2.1 gX7_readLaw_X7_takes rfl rfl rfl hd_Tape_takes ⟨Nat.le_of_ble_eq_true rfl, Nat.le_of_ble_eq_true rfl⟩) ho.1 rfl rfl ⟨Nat.zero_le _, Nat.zero_le _⟩ rfl (Nat.le_of_ble_eq_true rfl) dX7_readLaw_3 ?_
  refine fw_if_ne (pc := 6) C (tgt := 11) dX7_readLaw_6 (by decide) (fun c2 => ?_) (fun c2 => ?_)
  · have h := fw_iff h c2
    refine fw_aload_n (pc := 11) C 0 dX7_readLaw_11 rfl rfl ?_
    refine fw_iconst (pc := 12) C (v := 1) dX7_readLaw_12 fk_iconst_1 ?_
    refine fw_iconst (pc := 13) C (v := 4) dX7_readLaw_13 fk_iconst_4 ?_
    refine fw_bipush (pc := 14) C (v := 44) dX7_readLaw_14 fk_bipush_44 ?_
    obtain ⟨q3, hq3, h⟩ := fw_bind h
    refine fw_callV1 (pc := 16) C (rest := []) (c_Tape_numberBefore ho hq3) (cwV 3 C.2.2.2.2.1 gX7_readLaw_X7_numberBefore rfl rfl rfl hd_Tape_numberBefore ⟨Nat.le_of_ble_eq_true rfl, Nat.le_of_ble_eq_true rfl⟩) ho.1 rfl rfl ⟨Nat.zero_le _, Nat.zero_le _⟩ rfl (Nat.le_of_ble_eq_true rfl) dX7_readLaw_16 ?_
    refine fw_istore_n (pc := 19) C (L2 := [(0, .ref _), (1, .ref _), (2, .int _)]) [1, 2, 0] dX7_readLaw_19 rfl (by decide) rfl ?_
    refine fw_iload_n (pc := 20) C 2 dX7_readLaw_20 rfl rfl ?_
    refine fw_iconst (pc := 21) C (v := -1) dX7_readLaw_21 fk_iconst_m1 ?_
    refine fw_icmp_ne (pc := 22) C (tgt := 27) dX7_readLaw_22 (by decide) (fun c4 => ?_) (fun c4 => ?_)
    · have h := fw_iff h c4
      refine fw_aload_n (pc := 27) C 0 dX7_readLaw_27 rfl rfl ?_
      refine fw_iconst (pc := 28) C (v := 1) dX7_readLaw_28 fk_iconst_1 ?_
      refine fw_bipush (pc := 29) C (v := 9) dX7_readLaw_29 fk_bipush_9 ?_
      refine fw_bipush (pc := 31) C (v := 59) dX7_readLaw_31 fk_bipush_59 ?_
      obtain ⟨q5, hq5, h⟩ := fw_bind h
      refine fw_callV1 (pc := 33) C (rest := []) (c_Tape_numberBefore ho hq5) (cwV 3 C.2.2.2.2.1 gX7_readLaw_X7_numberBefore rfl rfl rfl hd_Tape_numberBefore ⟨Nat.le_of_ble_eq_true rfl, Nat.le_of_ble_eq_true rfl⟩) ho.1 rfl rfl ⟨Nat.zero_le _, Nat.zero_le _⟩ rfl (Nat.le_of_ble_eq_true rfl) dX7_readLaw_33 ?_
      refine fw_istore_n (pc := 36) C (L2 := [(0, .ref _), (1, .ref _), (2, .int _), (3, .int _)]) [1, 2, 3, 0] dX7_readLaw_36 rfl (by decide) rfl ?_
      refine fw_iload_n (pc := 37) C 3 dX7_readLaw_37 rfl rfl ?_
      refine fw_iconst (pc := 38) C (v := -1) dX7_readLaw_38 fk_iconst_m1 ?_
      refine fw_icmp_ne (pc := 39) C (tgt := 44) dX7_readLaw_39 (by decide) (fun c6 => ?_) (fun c6 => ?_)
      · have h := fw_iff h c6
        refine fw_aload_n (pc := 44) C 1 dX7_readLaw_44 rfl rfl ?_
        refine fw_iload_n (pc := 45) C 2 dX7_readLaw_45 rfl rfl ?_
        refine fw_iload_n (pc := 46) C 3 dX7_readLaw_46 rfl rfl ?_
        obtain ⟨q7, hq7, h⟩ := fw_bind h
        refine fw_callV0 (pc := 47) C (rest := []) (c_Hall_begin hr0 hq7) (cwV 2 C.2.2.2.2.1 gX7_readLaw_X3_begin rfl rfl rfl hd_Hall_begin ⟨Nat.le_of_ble_eq_true rfl, Nat.le_of_ble_eq_true rfl⟩) hr0.1 rfl rfl ⟨Nat.zero_le _, Nat.zero_le _⟩ rfl (Nat.le_of_ble_eq_true rfl) dX7_readLaw_47 ?_
        refine fw_iconst (pc := 50) C (v := 1) dX7_readLaw_50 fk_iconst_1 ?_
        exact fw_zret (pc := 51) C (Or.inr rfl) (fw_p1 h) (fw_p2 h) dX7_readLaw_51
      · have h := fw_ift h c6
        refine fw_iconst (pc := 42) C (v := 0) dX7_readLaw_42 fk_iconst_0 ?_
        exact fw_zret (pc := 43) C (Or.inl rfl) (fw_p1 h) (fw_p2 h) dX7_readLaw_43
    · have h := fw_ift h c4
      refine fw_iconst (pc := 25) C (v := 0) dX7_readLaw_25 fk_iconst_0 ?_
      exact fw_zret (pc := 26) C (Or.inl rfl) (fw_p1 h) (fw_p2 h) dX7_readLaw_26
  · have h := fw_ift h c2
    refine fw_iconst (pc := 9) C (v := 0) dX7_readLaw_9 fk_iconst_0 ?_
    exact fw_zret (pc := 10) C (Or.inl rfl) (fw_p1 h) (fw_p2 h) dX7_readLaw_10
theorem c_Tape_readLaw {l : Launch} {D : va_G} {cI cZ cH cR : ClassId} {N : Nat} {ad : Nat → Nat} {EE : fw_M → Nat → va_E} {o : Nat} {r0 : Nat} {M : fw_M} {z : (Int32 × fw_M)} (ho : o_Tape EE ad N cI cZ cH cR o) (hr0 : o_Hall EE ad N cI cZ cH cR r0) (h : P_Tape_readLaw o r0 M = some z) : fw_Met l yX7_readLaw wsX7_readLaw rm_Tape_readLaw D vwCl (fw_tys cI cZ cH cR) N ad fw_nw0 EE [.ref (ad o), .ref (ad r0)] M (some (.int z.1)) z.2 := by
  unfold P_Tape_readLaw at h
  exact fw_intro (cc := cX7_readLaw) (maxL := 4) (ret := some .boolean) (own := RX7) (by decide) rfl rfl (Nat.le_of_ble_eq_true rfl) (fun p e s m args below meth c C => fw_sub [0, 1] rfl (c_Tape_readLaw_b0 C ho hr0 h))
abbrev rm_Tape_kindTold : Room := { frames := 0, cells := 0, slots := 0, locals := 0 }
theorem hd_Tape_kindTold : yX7_kindTold.cls = RX7 ∧ yX7_kindTold.cls ≠ "java/lang/invoke/MethodHandle" ∧ yX7_kindTold.cls ≠ "java/lang/invoke/VarHandle" ∧ (parseMethodDescriptor yX7_kindTold.desc).map (fun d => d.parameters.length) = some 1 := by decide +kernel
def P_Tape_kindTold_b0 (M : fw_M) (x0 : Int32) : Option Int32 := (if x0 = (98 : Int32) then some (5 : Int32) else (if x0 = (99 : Int32) then some (1 : Int32) else (if x0 = (103 : Int32) then some (4 : Int32) else (if x0 = (106 : Int32) then some (3 : Int32) else (if x0 = (115 : Int32) then some (2 : Int32) else some (0 : Int32))))))
def P_Tape_kindTold (M : fw_M) (a0 : Int32) : Option Int32 := P_Tape_kindTold_b0 M a0
set_option maxRecDepth 100000 in
theorem c_Tape_kindTold_b0 {p : Program} {l : Launch} {e : Env} {s : State} {m : MethodId} {args : Array Value} {below : List Frame} {meth : Method} {c : Code} {D : va_G} {cI cZ cH cR : ClassId} {N : Nat} {ad : Nat → Nat} {EE : fw_M → Nat → va_E} {M : fw_M} {x0 : Int32} {z : Int32} (C : fw_C p s m args meth c cX7_kindTold RX7 wsX7_kindTold 1 (some .int) D vwCl (fw_tys cI cZ cH cR) N ad fw_nw0) (h : P_Tape_kindTold_b0 M x0 = some z) : fw_J p l e (headSpec wsX7_kindTold rm_Tape_kindTold).room s m args below meth c D vwCl N ad EE 1 0 0 (fw_E below args s D vwCl N ad EE (some (.int z)) M) M [(0, .int x0)] 0 [] := by
  unfold P_Tape_kindTold_b0 at h
  refine fw_iload_n (pc := 0) C 0 dX7_kindTold_0 rfl rfl ?_
  rcases fw_cs h with ⟨c1, h⟩ | ⟨c1, h⟩
  · refine fw_lookup (pc := 1) C dX7_kindTold_1 (by decide) (off := 59) (tgt := 60) (by rw [c1]; rfl) (by decide) ?_
    refine fw_iconst (pc := 60) C (v := 5) dX7_kindTold_60 fk_iconst_5 ?_
    exact fw_iret (pc := 61) C (Option.some.inj h) rfl dX7_kindTold_61
  · rcases fw_cs h with ⟨c2, h⟩ | ⟨c2, h⟩
    · refine fw_lookup (pc := 1) C dX7_kindTold_1 (by decide) (off := 51) (tgt := 52) ((lv_osw c1 (a := 98) (by decide)).trans (by rw [c2]; rfl)) (by decide) ?_
      refine fw_iconst (pc := 52) C (v := 1) dX7_kindTold_52 fk_iconst_1 ?_
      exact fw_iret (pc := 53) C (Option.some.inj h) rfl dX7_kindTold_53
    · rcases fw_cs h with ⟨c3, h⟩ | ⟨c3, h⟩
      · refine fw_lookup (pc := 1) C dX7_kindTold_1 (by decide) (off := 57) (tgt := 58) ((lv_osw c1 (a := 98) (by decide)).trans ((lv_osw c2 (a := 99) (by decide)).trans (by rw [c3]; rfl))) (by decide) ?_
        refine fw_iconst (pc := 58) C (v := 4) dX7_kindTold_58 fk_iconst_4 ?_
        exact fw_iret (pc := 59) C (Option.some.inj h) rfl dX7_kindTold_59
      · rcases fw_cs h with ⟨c4, h⟩ | ⟨c4, h⟩
        · refine fw_lookup (pc := 1) C dX7_kindTold_1 (by decide) (off := 55) (tgt := 56) ((lv_osw c1 (a := 98) (by decide)).trans ((lv_osw c2 (a := 99) (by decide)).trans ((lv_osw c3 (a := 103) (by decide)).trans (by rw [c4]; rfl)))) (by decide) ?_
          refine fw_iconst (pc := 56) C (v := 3) dX7_kindTold_56 fk_iconst_3 ?_
          exact fw_iret (pc := 57) C (Option.some.inj h) rfl dX7_kindTold_57
        · rcases fw_cs h with ⟨c5, h⟩ | ⟨c5, h⟩
          · refine fw_lookup (pc := 1) C dX7_kindTold_1 (by decide) (off := 53) (tgt := 54) ((lv_osw c1 (a := 98) (by decide)).trans ((lv_osw c2 (a := 99) (by decide)).trans ((lv_osw c3 (a := 103) (by decide)).trans ((lv_osw c4 (a := 106) (by decide)).trans (by rw [c5]; rfl))))) (by decide) ?_
            refine fw_iconst (pc := 54) C (v := 2) dX7_kindTold_54 fk_iconst_2 ?_
            exact fw_iret (pc := 55) C (Option.some.inj h) rfl dX7_kindTold_55
          · refine fw_lookup (pc := 1) C dX7_kindTold_1 (by decide) (off := 61) (tgt := 62) ((lv_osw c1 (a := 98) (by decide)).trans ((lv_osw c2 (a := 99) (by decide)).trans ((lv_osw c3 (a := 103) (by decide)).trans ((lv_osw c4 (a := 106) (by decide)).trans ((lv_osw c5 (a := 115) (by decide)).trans (rfl)))))) (by decide) ?_
            refine fw_iconst (pc := 62) C (v := 0) dX7_kindTold_62 fk_iconst_0 ?_
            exact fw_iret (pc := 63) C (Option.some.inj h) rfl dX7_kindTold_63
theorem c_Tape_kindTold {l : Launch} {D : va_G} {cI cZ cH cR : ClassId} {N : Nat} {ad : Nat → Nat} {EE : fw_M → Nat → va_E} {M : fw_M} {a0 : Int32} {z : Int32} (h : P_Tape_kindTold M a0 = some z) : fw_Met l yX7_kindTold wsX7_kindTold rm_Tape_kindTold D vwCl (fw_tys cI cZ cH cR) N ad fw_nw0 EE [.int a0] M (some (.int z)) M := by
  unfold P_Tape_kindTold at h
  exact fw_intro (cc := cX7_kindTold) (maxL := 1) (ret := some .int) (own := RX7) (by decide) rfl rfl (Nat.le_of_ble_eq_true rfl) (fun p e s m args below meth c C => fw_sub [0] rfl (c_Tape_kindTold_b0 C  h))
abbrev rm_Tape_readPerson : Room := { frames := 3, cells := 0, slots := 0, locals := 68 }
theorem hd_Tape_readPerson : yX7_readPerson.cls = RX7 ∧ yX7_readPerson.cls ≠ "java/lang/invoke/MethodHandle" ∧ yX7_readPerson.cls ≠ "java/lang/invoke/VarHandle" ∧ (parseMethodDescriptor yX7_readPerson.desc).map (fun d => d.parameters.length) = some 1 := by decide +kernel
theorem qX7_readPerson_61 : fw_G wsX7_readPerson RX7 61 RX3 TX3 9 2 := ⟨by decide +kernel, by decide +kernel, by decide⟩
theorem qX7_readPerson_19 : fw_G wsX7_readPerson RX7 19 RX7 TX7 4 2 := ⟨by decide +kernel, by decide +kernel, by decide⟩
theorem qX7_readPerson_64 : fw_G wsX7_readPerson RX7 64 RX3 TX3 9 0 := ⟨by decide +kernel, by decide +kernel, by decide⟩
def P_Tape_readPerson_b0 (o : Nat) (r0 : Nat) (M : fw_M) : Option (Int32 × fw_M) := (P_Tape_here o M).bind fun v1 => (P_Tape_kindTold M v1).bind fun v2 => (if v2 = (0 : Int32) then (P_Tape_fails o M (1 : Int32)).bind fun q15 => (fw_zr q15.1).bind fun v16 => some (v16, q15.2) else (if (M r0 2) < (7 : Int32) then fw_pl (fw_set M o 2 ((M o 2) + (1 : Int32))) fun M5 => (P_Tape_numberBefore o M5 (0 : Int32) (9 : Int32) (44 : Int32)).bind fun q6 => (if q6.1 = (-1 : Int32) then some ((0 : Int32), q6.2) else (P_Tape_numberBefore o q6.2 (0 : Int32) (9 : Int32) (44 : Int32)).bind fun q8 => (if q8.1 = (-1 : Int32) then some ((0 : Int32), q8.2) else (P_Tape_numberBefore o q8.2 (0 : Int32) ((q8.2 r0 0) - (1 : Int32)) (59 : Int32)).bind fun q10 => (if q10.1 = (-1 : Int32) then some ((0 : Int32), q10.2) else (P_Hall_admit r0 q10.2 v2 q6.1 q8.1 q10.1).bind fun q12 => some ((1 : Int32), q12)))) else (P_Tape_fails o M (3 : Int32)).bind fun q13 => (fw_zr q13.1).bind fun v14 => some (v14, q13.2)))
def P_Tape_readPerson (o : Nat) (r0 : Nat) (M : fw_M) : Option (Int32 × fw_M) := P_Tape_readPerson_b0 o r0 M
set_option maxRecDepth 100000 in
theorem c_Tape_readPerson_b0 {p : Program} {l : Launch} {e : Env} {s : State} {m : MethodId} {args : Array Value} {below : List Frame} {meth : Method} {c : Code} {D : va_G} {cI cZ cH cR : ClassId} {N : Nat} {ad : Nat → Nat} {EE : fw_M → Nat → va_E} {o : Nat} {r0 : Nat} {M : fw_M} {z : (Int32 × fw_M)} (C : fw_C p s m args meth c cX7_readPerson RX7 wsX7_readPerson 6 (some .boolean) D vwCl (fw_tys cI cZ cH cR) N ad fw_nw0) (ho : o_Tape EE ad N cI cZ cH cR o) (hr0 : o_Hall EE ad N cI cZ cH cR r0) (h : P_Tape_readPerson_b0 o r0 M = some z) : fw_J p l e (headSpec wsX7_readPerson rm_Tape_readPerson).room s m args below meth c D vwCl N ad EE 6 0 0 (fw_E below args s D vwCl N ad EE (some (.int z.1)) z.2) M [(0, .ref (ad o)), (1, .ref (ad r0))] 0 [] := by
  unfold P_Tape_readPerson_b0 at h
  refine fw_aload_n (pc := 0) C 0 dX7_readPerson_0 rfl rfl ?_
  obtain ⟨v1, hv1, h⟩ := fw_bind h
  refine fw_callV1 (pc := 1) C (rest := []) (c_Tape_here ho hv1) (cwV 0 C.2.2.2.2.1 gX7_readPerson_X7_here rfl rfl rfl hd_Tape_here ⟨Nat.le_of_ble_eq_true rfl, Nat.le_of_ble_eq_true rfl⟩) ho.1 rfl rfl ⟨Nat.zero_le _, Nat.zero_le _⟩ rfl (Nat.le_of_ble_eq_true rfl) dX7_readPerson_1 ?_
  obtain ⟨v2, hv2, h⟩ := fw_bind h
  refine fw_callS1 (pc := 4) C (rest := []) (c_Tape_kindTold  hv2) (va_cwS 1 C.2.2.2.2.1 gX7_readPerson_X7_kindTold rfl rfl rfl hd_Tape_kindTold.2 ⟨Nat.le_of_ble_eq_true rfl, Nat.le_of_ble_eq_true rfl⟩) rfl ⟨Nat.zero_le _, Nat.zero_le _⟩ rfl (Nat.le_of_ble_eq_true rfl) dX7_readPerson_4 ?_
  refine fw_istore_n (pc := 7) C (L2 := [(0, .ref _), (1, .ref _), (2, .int _)]) [1, 2, 0] dX7_readPerson_7 rfl (by decide) rfl ?_
  refine fw_iload_n (pc := 8) C 2 dX7_readPerson_8 rfl rfl ?_
  refine fw_if_ne (pc := 9) C (tgt := 18) dX7_readPerson_9 (by decide) (fun c3 => ?_) (fun c3 => ?_)
  · have h := fw_iff h c3
    refine fw_aload_n (pc := 18) C 1 dX7_readPerson_18 rfl rfl ?_
    refine fw_geti (pc := 19) C hr0.2.2.2.1 rfl qX7_readPerson_61 dX7_readPerson_19 ?_
    refine fw_bipush (pc := 22) C (v := 7) dX7_readPerson_22 fk_bipush_7 ?_
    refine fw_icmp_lt (pc := 24) C (tgt := 33) dX7_readPerson_24 (by decide) (fun c4 => ?_) (fun c4 => ?_)
    · have h := fw_ift h c4
      refine fw_aload_n (pc := 33) C 0 dX7_readPerson_33 rfl rfl ?_
      refine fw_dup (pc := 34) C dX7_readPerson_34 rfl ?_
      refine fw_geti (pc := 35) C ho.2.2.2.1 rfl qX7_readPerson_19 dX7_readPerson_35 ?_
      refine fw_iconst (pc := 38) C (v := 1) dX7_readPerson_38 fk_iconst_1 ?_
      refine fw_iadd (pc := 39) C dX7_readPerson_39 ?_
      have h := fw_plh h
      refine fw_puti (pc := 40) C ho.2.2.2.1 rfl qX7_readPerson_19 tyX7 tyX7_ok nmX7 rfl rfl dX7_readPerson_40 ?_
      refine fw_aload_n (pc := 43) C 0 dX7_readPerson_43 rfl rfl ?_
      refine fw_iconst (pc := 44) C (v := 0) dX7_readPerson_44 fk_iconst_0 ?_
      refine fw_bipush (pc := 45) C (v := 9) dX7_readPerson_45 fk_bipush_9 ?_
      refine fw_bipush (pc := 47) C (v := 44) dX7_readPerson_47 fk_bipush_44 ?_
      obtain ⟨q6, hq6, h⟩ := fw_bind h
      refine fw_callV1 (pc := 49) C (rest := []) (c_Tape_numberBefore ho hq6) (cwV 3 C.2.2.2.2.1 gX7_readPerson_X7_numberBefore rfl rfl rfl hd_Tape_numberBefore ⟨Nat.le_of_ble_eq_true rfl, Nat.le_of_ble_eq_true rfl⟩) ho.1 rfl rfl ⟨Nat.zero_le _, Nat.zero_le _⟩ rfl (Nat.le_of_ble_eq_true rfl) dX7_readPerson_49 ?_
      refine fw_istore_n (pc := 52) C (L2 := [(0, .ref _), (1, .ref _), (2, .int _), (3, .int _)]) [1, 2, 3, 0] dX7_readPerson_52 rfl (by decide) rfl ?_
      refine fw_iload_n (pc := 53) C 3 dX7_readPerson_53 rfl rfl ?_
      refine fw_iconst (pc := 54) C (v := -1) dX7_readPerson_54 fk_iconst_m1 ?_
      refine fw_icmp_ne (pc := 55) C (tgt := 60) dX7_readPerson_55 (by decide) (fun c7 => ?_) (fun c7 => ?_)
      · have h := fw_iff h c7
        refine fw_aload_n (pc := 60) C 0 dX7_readPerson_60 rfl rfl ?_
        refine fw_iconst (pc := 61) C (v := 0) dX7_readPerson_61 fk_iconst_0 ?_
        refine fw_bipush (pc := 62) C (v := 9) dX7_readPerson_62 fk_bipush_9 ?_
        refine fw_bipush (pc := 64) C (v := 44) dX7_readPerson_64 fk_bipush_44 ?_
        obtain ⟨q8, hq8, h⟩ := fw_bind h
        refine fw_callV1 (pc := 66) C (rest := []) (c_Tape_numberBefore ho hq8) (cwV 3 C.2.2.2.2.1 gX7_readPerson_X7_numberBefore rfl rfl rfl hd_Tape_numberBefore ⟨Nat.le_of_ble_eq_true rfl, Nat.le_of_ble_eq_true rfl⟩) ho.1 rfl rfl ⟨Nat.zero_le _, Nat.zero_le _⟩ rfl (Nat.le_of_ble_eq_true rfl) dX7_readPerson_66 ?_
        refine fw_istore (pc := 69) C (L2 := [(0, .ref _), (1, .ref _), (2, .int _), (3, .int _), (4, .int _)]) [1, 2, 3, 4, 0] dX7_readPerson_69 (by decide) rfl ?_
        refine fw_iload (pc := 71) C 4 dX7_readPerson_71 rfl ?_
        refine fw_iconst (pc := 73) C (v := -1) dX7_readPerson_73 fk_iconst_m1 ?_
        refine fw_icmp_ne (pc := 74) C (tgt := 79) dX7_readPerson_74 (by decide) (fun c9 => ?_) (fun c9 => ?_)
        · have h := fw_iff h c9
          refine fw_aload_n (pc := 79) C 0 dX7_readPerson_79 rfl rfl ?_
          refine fw_iconst (pc := 80) C (v := 0) dX7_readPerson_80 fk_iconst_0 ?_
          refine fw_aload_n (pc := 81) C 1 dX7_readPerson_81 rfl rfl ?_
          refine fw_geti (pc := 82) C hr0.2.1 rfl qX7_readPerson_64 dX7_readPerson_82 ?_
          refine fw_iconst (pc := 85) C (v := 1) dX7_readPerson_85 fk_iconst_1 ?_
          refine fw_isub (pc := 86) C dX7_readPerson_86 ?_
          refine fw_bipush (pc := 87) C (v := 59) dX7_readPerson_87 fk_bipush_59 ?_
          obtain ⟨q10, hq10, h⟩ := fw_bind h
          refine fw_callV1 (pc := 89) C (rest := []) (c_Tape_numberBefore ho hq10) (cwV 3 C.2.2.2.2.1 gX7_readPerson_X7_numberBefore rfl rfl rfl hd_Tape_numberBefore ⟨Nat.le_of_ble_eq_true rfl, Nat.le_of_ble_eq_true rfl⟩) ho.1 rfl rfl ⟨Nat.zero_le _, Nat.zero_le _⟩ rfl (Nat.le_of_ble_eq_true rfl) dX7_readPerson_89 ?_
          refine fw_istore (pc := 92) C (L2 := [(0, .ref _), (1, .ref _), (2, .int _), (3, .int _), (4, .int _), (5, .int _)]) [1, 2, 3, 4, 5, 0] dX7_readPerson_92 (by decide) rfl ?_
          refine fw_iload (pc := 94) C 5 dX7_readPerson_94 rfl ?_
          refine fw_iconst (pc := 96) C (v := -1) dX7_readPerson_96 fk_iconst_m1 ?_
          refine fw_icmp_ne (pc := 97) C (tgt := 102) dX7_readPerson_97 (by decide) (fun c11 => ?_) (fun c11 => ?_)
          · have h := fw_iff h c11
            refine fw_aload_n (pc := 102) C 1 dX7_readPerson_102 rfl rfl ?_
            refine fw_iload_n (pc := 103) C 2 dX7_readPerson_103 rfl rfl ?_
            refine fw_iload_n (pc := 104) C 3 dX7_readPerson_104 rfl rfl ?_
            refine fw_iload (pc := 105) C 4 dX7_readPerson_105 rfl ?_
            refine fw_iload (pc := 107) C 5 dX7_readPerson_107 rfl ?_
            obtain ⟨q12, hq12, h⟩ := fw_bind h
            refine fw_callV0 (pc := 109) C (rest := []) (c_Hall_admit hr0 hq12) (cwV 4 C.2.2.2.2.1 gX7_readPerson_X3_admit rfl rfl rfl hd_Hall_admit ⟨Nat.le_of_ble_eq_true rfl, Nat.le_of_ble_eq_true rfl⟩) hr0.1 rfl rfl ⟨Nat.zero_le _, Nat.zero_le _⟩ rfl (Nat.le_of_ble_eq_true rfl) dX7_readPerson_109 ?_
            refine fw_iconst (pc := 112) C (v := 1) dX7_readPerson_112 fk_iconst_1 ?_
            exact fw_zret (pc := 113) C (Or.inr rfl) (fw_p1 h) (fw_p2 h) dX7_readPerson_113
          · have h := fw_ift h c11
            refine fw_iconst (pc := 100) C (v := 0) dX7_readPerson_100 fk_iconst_0 ?_
            exact fw_zret (pc := 101) C (Or.inl rfl) (fw_p1 h) (fw_p2 h) dX7_readPerson_101
        · have h := fw_ift h c9
          refine fw_iconst (pc := 77) C (v := 0) dX7_readPerson_77 fk_iconst_0 ?_
          exact fw_zret (pc := 78) C (Or.inl rfl) (fw_p1 h) (fw_p2 h) dX7_readPerson_78
      · have h := fw_ift h c7
        refine fw_iconst (pc := 58) C (v := 0) dX7_readPerson_58 fk_iconst_0 ?_
        exact fw_zret (pc := 59) C (Or.inl rfl) (fw_p1 h) (fw_p2 h) dX7_readPerson_59
    · have h := fw_iff h c4
      refine fw_aload_n (pc := 27) C 0 dX7_readPerson_27 rfl rfl ?_
      refine fw_iconst (pc := 28) C (v := 3) dX7_readPerson_28 fk_iconst_3 ?_
      obtain ⟨q13, hq13, h⟩ := fw_bind h
      refine fw_callV1 (pc := 29) C (rest := []) (c_Tape_fails ho hq13) (cwV 1 C.2.2.2.2.1 gX7_readPerson_X7_fails rfl rfl rfl hd_Tape_fails ⟨Nat.le_of_ble_eq_true rfl, Nat.le_of_ble_eq_true rfl⟩) ho.1 rfl rfl ⟨Nat.zero_le _, Nat.zero_le _⟩ rfl (Nat.le_of_ble_eq_true rfl) dX7_readPerson_29 ?_
      obtain ⟨v14, hv14, h⟩ := fw_bind h
      exact fw_zret (pc := 32) C (fw_zrh hv14).1 ((fw_zrh hv14).2.trans (fw_p1 h)) (fw_p2 h) dX7_readPerson_32
  · have h := fw_ift h c3
    refine fw_aload_n (pc := 12) C 0 dX7_readPerson_12 rfl rfl ?_
    refine fw_iconst (pc := 13) C (v := 1) dX7_readPerson_13 fk_iconst_1 ?_
    obtain ⟨q15, hq15, h⟩ := fw_bind h
    refine fw_callV1 (pc := 14) C (rest := []) (c_Tape_fails ho hq15) (cwV 1 C.2.2.2.2.1 gX7_readPerson_X7_fails rfl rfl rfl hd_Tape_fails ⟨Nat.le_of_ble_eq_true rfl, Nat.le_of_ble_eq_true rfl⟩) ho.1 rfl rfl ⟨Nat.zero_le _, Nat.zero_le _⟩ rfl (Nat.le_of_ble_eq_true rfl) dX7_readPerson_14 ?_
    obtain ⟨v16, hv16, h⟩ := fw_bind h
    exact fw_zret (pc := 17) C (fw_zrh hv16).1 ((fw_zrh hv16).2.trans (fw_p1 h)) (fw_p2 h) dX7_readPerson_17
theorem c_Tape_readPerson {l : Launch} {D : va_G} {cI cZ cH cR : ClassId} {N : Nat} {ad : Nat → Nat} {EE : fw_M → Nat → va_E} {o : Nat} {r0 : Nat} {M : fw_M} {z : (Int32 × fw_M)} (ho : o_Tape EE ad N cI cZ cH cR o) (hr0 : o_Hall EE ad N cI cZ cH cR r0) (h : P_Tape_readPerson o r0 M = some z) : fw_Met l yX7_readPerson wsX7_readPerson rm_Tape_readPerson D vwCl (fw_tys cI cZ cH cR) N ad fw_nw0 EE [.ref (ad o), .ref (ad r0)] M (some (.int z.1)) z.2 := by
  unfold P_Tape_readPerson at h
  exact fw_intro (cc := cX7_readPerson) (maxL := 6) (ret := some .boolean) (own := RX7) (by decide) rfl rfl (Nat.le_of_ble_eq_true rfl) (fun p e s m args below meth c C => fw_sub [0, 1] rfl (c_Tape_readPerson_b0 C ho hr0 h))
abbrev rm_Tape_readPeople : Room := { frames := 4, cells := 0, slots := 0, locals := 93 }
theorem hd_Tape_readPeople : yX7_readPeople.cls = RX7 ∧ yX7_readPeople.cls ≠ "java/lang/invoke/MethodHandle" ∧ yX7_readPeople.cls ≠ "java/lang/invoke/VarHandle" ∧ (parseMethodDescriptor yX7_readPeople.desc).map (fun d => d.parameters.length) = some 1 := by decide +kernel
theorem qX7_readPeople_19 : fw_G wsX7_readPeople RX7 19 RX7 TX7 4 2 := ⟨by decide +kernel, by decide +kernel, by decide⟩
theorem qX7_readPeople_15 : fw_G wsX7_readPeople RX7 15 RX7 TX7 4 1 := ⟨by decide +kernel, by decide +kernel, by decide⟩
def P_Tape_readPeople_b2 (o : Nat) (r0 : Nat) (K2 : fw_M → Int32 → Option (Int32 × fw_M)) (M : fw_M) (x2 : Int32) : Option (Int32 × fw_M) := (if (7 : Int32) < x2 then some ((0 : Int32), M) else (P_Tape_readPerson o r0 M).bind fun q2 => (if q2.1 = (0 : Int32) then some ((0 : Int32), q2.2) else (if (q2.2 o 2) < (q2.2 o 1) then K2 q2.2 (x2 + (1 : Int32)) else some ((1 : Int32), q2.2))))
def P_Tape_readPeople_h2 (o : Nat) (r0 : Nat) : Nat → fw_M → Int32 → Option (Int32 × fw_M)
  | 0, _, _ => none
  | n + 1, M, x2 => P_Tape_readPeople_b2 o r0 (P_Tape_readPeople_h2 o r0 n) M x2
def P_Tape_readPeople_b0 (o : Nat) (r0 : Nat) (M : fw_M) : Option (Int32 × fw_M) := P_Tape_readPeople_h2 o r0 fw_fu M (0 : Int32)
def P_Tape_readPeople (o : Nat) (r0 : Nat) (M : fw_M) : Option (Int32 × fw_M) := P_Tape_readPeople_b0 o r0 M
set_option maxRecDepth 100000 in
theorem c_Tape_readPeople_b2 {p : Program} {l : Launch} {e : Env} {s : State} {m : MethodId} {args : Array Value} {below : List Frame} {meth : Method} {c : Code} {D : va_G} {cI cZ cH cR : ClassId} {N : Nat} {ad : Nat → Nat} {EE : fw_M → Nat → va_E} {o : Nat} {r0 : Nat} {K2 : fw_M → Int32 → Option (Int32 × fw_M)} {M : fw_M} {x2 : Int32} {z : (Int32 × fw_M)} (C : fw_C p s m args meth c cX7_readPeople RX7 wsX7_readPeople 3 (some .boolean) D vwCl (fw_tys cI cZ cH cR) N ad fw_nw0) (ho : o_Tape EE ad N cI cZ cH cR o) (hr0 : o_Hall EE ad N cI cZ cH cR r0) (hK2 : ∀ (Mk : fw_M) (kx2 : Int32), K2 Mk kx2 = some z → fw_J p l e (headSpec wsX7_readPeople rm_Tape_readPeople).room s m args below meth c D vwCl N ad EE 3 0 0 (fw_E below args s D vwCl N ad EE (some (.int z.1)) z.2) Mk [(0, .ref (ad o)), (1, .ref (ad r0)), (2, .int kx2)] 2 []) (h : P_Tape_readPeople_b2 o r0 K2 M x2 = some z) : fw_J p l e (headSpec wsX7_readPeople rm_Tape_readPeople).room s m args below meth c D vwCl N ad EE 3 0 0 (fw_E below args s D vwCl N ad EE (some (.int z.1)) z.2) M [(0, .ref (ad o)), (1, .ref (ad r0)), (2, .int x2)] 2 [] := by
  unfold P_Tape_readPeople_b2 at h
  refine fw_iload_n (pc := 2) C 2 dX7_readPeople_2 rfl rfl ?_
  refine fw_bipush (pc := 3) C (v := 7) dX7_readPeople_3 fk_bipush_7 ?_
  refine fw_icmp_gt (pc := 5) C (tgt := 37) dX7_readPeople_5 (by decide) (fun c1 => ?_) (fun c1 => ?_)
  · have h := fw_ift h c1
    refine fw_iconst (pc := 37) C (v := 0) dX7_readPeople_37 fk_iconst_0 ?_
    exact fw_zret (pc := 38) C (Or.inl rfl) (fw_p1 h) (fw_p2 h) dX7_readPeople_38
  · have h := fw_iff h c1
    refine fw_aload_n (pc := 8) C 0 dX7_readPeople_8 rfl rfl ?_
    refine fw_aload_n (pc := 9) C 1 dX7_readPeople_9 rfl rfl ?_
    obtain ⟨q2, hq2, h⟩ := fw_bind h
    refine fw_callV1 (pc := 10) C (rest := []) (c_Tape_readPerson ho hr0 hq2) (cwV 1 C.2.2.2.2.1 gX7_readPeople_X7_readPerson rfl rfl rfl hd_Tape_readPerson ⟨Nat.le_of_ble_eq_true rfl, Nat.le_of_ble_eq_true rfl⟩) ho.1 rfl rfl ⟨Nat.zero_le _, Nat.zero_le _⟩ rfl (Nat.le_of_ble_eq_true rfl) dX7_readPeople_10 ?_
    refine fw_if_ne (pc := 13) C (tgt := 18) dX7_readPeople_13 (by decide) (fun c3 => ?_) (fun c3 => ?_)
    · have h := fw_iff h c3
      refine fw_aload_n (pc := 18) C 0 dX7_readPeople_18 rfl rfl ?_
      refine fw_geti (pc := 19) C ho.2.2.2.1 rfl qX7_readPeople_19 dX7_readPeople_19 ?_
      refine fw_aload_n (pc := 22) C 0 dX7_readPeople_22 rfl rfl ?_
      refine fw_geti (pc := 23) C ho.2.2.1 rfl qX7_readPeople_15 dX7_readPeople_23 ?_
      refine fw_icmp_lt (pc := 26) C (tgt := 31) dX7_readPeople_26 (by decide) (fun c4 => ?_) (fun c4 => ?_)
      · have h := fw_ift h c4
        refine fw_iinc (pc := 31) C (v := 1) (L2 := [(0, .ref _), (1, .ref _), (2, .int _)]) 2 [1, 2, 0] dX7_readPeople_31 rfl fk_iconst_1 (by decide) rfl ?_
        refine fw_goto (pc := 34) C (tgt := 2) dX7_readPeople_34 (by decide) ?_
        exact (hK2 _ _ h)
      · have h := fw_iff h c4
        refine fw_iconst (pc := 29) C (v := 1) dX7_readPeople_29 fk_iconst_1 ?_
        exact fw_zret (pc := 30) C (Or.inr rfl) (fw_p1 h) (fw_p2 h) dX7_readPeople_30
    · have h := fw_ift h c3
      refine fw_iconst (pc := 16) C (v := 0) dX7_readPeople_16 fk_iconst_0 ?_
      exact fw_zret (pc := 17) C (Or.inl rfl) (fw_p1 h) (fw_p2 h) dX7_readPeople_17
theorem c_Tape_readPeople_h2 {p : Program} {l : Launch} {e : Env} {s : State} {m : MethodId} {args : Array Value} {below : List Frame} {meth : Method} {c : Code} {D : va_G} {cI cZ cH cR : ClassId} {N : Nat} {ad : Nat → Nat} {EE : fw_M → Nat → va_E} {o : Nat} {r0 : Nat} {z : (Int32 × fw_M)} (C : fw_C p s m args meth c cX7_readPeople RX7 wsX7_readPeople 3 (some .boolean) D vwCl (fw_tys cI cZ cH cR) N ad fw_nw0) (ho : o_Tape EE ad N cI cZ cH cR o) (hr0 : o_Hall EE ad N cI cZ cH cR r0) : ∀ (n : Nat) (M : fw_M) (x2 : Int32), P_Tape_readPeople_h2 o r0 n M x2 = some z → fw_J p l e (headSpec wsX7_readPeople rm_Tape_readPeople).room s m args below meth c D vwCl N ad EE 3 0 0 (fw_E below args s D vwCl N ad EE (some (.int z.1)) z.2) M [(0, .ref (ad o)), (1, .ref (ad r0)), (2, .int x2)] 2 [] := by
  intro n
  induction n with
  | zero => intro M x2  h; cases h
  | succ n ih => intro M x2  h; exact c_Tape_readPeople_b2 C ho hr0 ih  h
set_option maxRecDepth 100000 in
theorem c_Tape_readPeople_b0 {p : Program} {l : Launch} {e : Env} {s : State} {m : MethodId} {args : Array Value} {below : List Frame} {meth : Method} {c : Code} {D : va_G} {cI cZ cH cR : ClassId} {N : Nat} {ad : Nat → Nat} {EE : fw_M → Nat → va_E} {o : Nat} {r0 : Nat} {M : fw_M} {z : (Int32 × fw_M)} (C : fw_C p s m args meth c cX7_readPeople RX7 wsX7_readPeople 3 (some .boolean) D vwCl (fw_tys cI cZ cH cR) N ad fw_nw0) (ho : o_Tape EE ad N cI cZ cH cR o) (hr0 : o_Hall EE ad N cI cZ cH cR r0) (h : P_Tape_readPeople_b0 o r0 M = some z) : fw_J p l e (headSpec wsX7_readPeople rm_Tape_readPeople).room s m args below meth c D vwCl N ad EE 3 0 0 (fw_E below args s D vwCl N ad EE (some (.int z.1)) z.2) M [(0, .ref (ad o)), (1, .ref (ad r0))] 0 [] := by
  unfold P_Tape_readPeople_b0 at h
  refine fw_iconst (pc := 0) C (v := 0) dX7_readPeople_0 fk_iconst_0 ?_
  refine fw_istore_n (pc := 1) C (L2 := [(0, .ref _), (1, .ref _), (2, .int _)]) [1, 2, 0] dX7_readPeople_1 rfl (by decide) rfl ?_
  exact (c_Tape_readPeople_h2 C ho hr0 _ _ _ h)
theorem c_Tape_readPeople {l : Launch} {D : va_G} {cI cZ cH cR : ClassId} {N : Nat} {ad : Nat → Nat} {EE : fw_M → Nat → va_E} {o : Nat} {r0 : Nat} {M : fw_M} {z : (Int32 × fw_M)} (ho : o_Tape EE ad N cI cZ cH cR o) (hr0 : o_Hall EE ad N cI cZ cH cR r0) (h : P_Tape_readPeople o r0 M = some z) : fw_Met l yX7_readPeople wsX7_readPeople rm_Tape_readPeople D vwCl (fw_tys cI cZ cH cR) N ad fw_nw0 EE [.ref (ad o), .ref (ad r0)] M (some (.int z.1)) z.2 := by
  unfold P_Tape_readPeople at h
  exact fw_intro (cc := cX7_readPeople) (maxL := 3) (ret := some .boolean) (own := RX7) (by decide) rfl rfl (Nat.le_of_ble_eq_true rfl) (fun p e s m args below meth c C => fw_sub [0, 1] rfl (c_Tape_readPeople_b0 C ho hr0 h))
abbrev rm_Tape_readInto : Room := { frames := 5, cells := 0, slots := 0, locals := 115 }
theorem hd_Tape_readInto : yX7_readInto.cls = RX7 ∧ yX7_readInto.cls ≠ "java/lang/invoke/MethodHandle" ∧ yX7_readInto.cls ≠ "java/lang/invoke/VarHandle" ∧ (parseMethodDescriptor yX7_readInto.desc).map (fun d => d.parameters.length) = some 1 := by decide +kernel
theorem qX7_readInto_19 : fw_G wsX7_readInto RX7 19 RX7 TX7 4 2 := ⟨by decide +kernel, by decide +kernel, by decide⟩
def P_Tape_readInto_b26 (o : Nat) (r0 : Nat) (M : fw_M) (t0 : Int32) : Option (Int32 × fw_M) := (fw_zr t0).bind fun v1 => some (v1, M)
def P_Tape_readInto_b25 (o : Nat) (r0 : Nat) (M : fw_M) : Option (Int32 × fw_M) := P_Tape_readInto_b26 o r0 M (0 : Int32)
def P_Tape_readInto_b0 (o : Nat) (r0 : Nat) (M : fw_M) : Option (Int32 × fw_M) := fw_pl (fw_set M o 2 (0 : Int32)) fun M1 => (P_Tape_readLaw o r0 M1).bind fun q2 => (if q2.1 = (0 : Int32) then P_Tape_readInto_b25 o r0 q2.2 else (P_Tape_readPeople o r0 q2.2).bind fun q4 => (if q4.1 = (0 : Int32) then P_Tape_readInto_b25 o r0 q4.2 else P_Tape_readInto_b26 o r0 q4.2 (1 : Int32)))
def P_Tape_readInto (o : Nat) (r0 : Nat) (M : fw_M) : Option (Int32 × fw_M) := P_Tape_readInto_b0 o r0 M
set_option maxRecDepth 100000 in
theorem c_Tape_readInto_b26 {p : Program} {l : Launch} {e : Env} {s : State} {m : MethodId} {args : Array Value} {below : List Frame} {meth : Method} {c : Code} {D : va_G} {cI cZ cH cR : ClassId} {N : Nat} {ad : Nat → Nat} {EE : fw_M → Nat → va_E} {o : Nat} {r0 : Nat} {M : fw_M} {t0 : Int32} {z : (Int32 × fw_M)} (C : fw_C p s m args meth c cX7_readInto RX7 wsX7_readInto 2 (some .boolean) D vwCl (fw_tys cI cZ cH cR) N ad fw_nw0) (ho : o_Tape EE ad N cI cZ cH cR o) (hr0 : o_Hall EE ad N cI cZ cH cR r0) (h : P_Tape_readInto_b26 o r0 M t0 = some z) : fw_J p l e (headSpec wsX7_readInto rm_Tape_readInto).room s m args below meth c D vwCl N ad EE 2 0 0 (fw_E below args s D vwCl N ad EE (some (.int z.1)) z.2) M [] 26 [.int t0] := by
  unfold P_Tape_readInto_b26 at h
  obtain ⟨v1, hv1, h⟩ := fw_bind h
  exact fw_zret (pc := 26) C (fw_zrh hv1).1 ((fw_zrh hv1).2.trans (fw_p1 h)) (fw_p2 h) dX7_readInto_26
set_option maxRecDepth 100000 in
theorem c_Tape_readInto_b25 {p : Program} {l : Launch} {e : Env} {s : State} {m : MethodId} {args : Array Value} {below : List Frame} {meth : Method} {c : Code} {D : va_G} {cI cZ cH cR : ClassId} {N : Nat} {ad : Nat → Nat} {EE : fw_M → Nat → va_E} {o : Nat} {r0 : Nat} {M : fw_M} {z : (Int32 × fw_M)} (C : fw_C p s m args meth c cX7_readInto RX7 wsX7_readInto 2 (some .boolean) D vwCl (fw_tys cI cZ cH cR) N ad fw_nw0) (ho : o_Tape EE ad N cI cZ cH cR o) (hr0 : o_Hall EE ad N cI cZ cH cR r0) (h : P_Tape_readInto_b25 o r0 M = some z) : fw_J p l e (headSpec wsX7_readInto rm_Tape_readInto).room s m args below meth c D vwCl N ad EE 2 0 0 (fw_E below args s D vwCl N ad EE (some (.int z.1)) z.2) M [] 25 [] := by
  unfold P_Tape_readInto_b25 at h
  refine fw_iconst (pc := 25) C (v := 0) dX7_readInto_25 fk_iconst_0 ?_
  exact (c_Tape_readInto_b26 C ho hr0 h)
set_option maxRecDepth 100000 in
theorem c_Tape_readInto_b0 {p : Program} {l : Launch} {e : Env} {s : State} {m : MethodId} {args : Array Value} {below : List Frame} {meth : Method} {c : Code} {D : va_G} {cI cZ cH cR : ClassId} {N : Nat} {ad : Nat → Nat} {EE : fw_M → Nat → va_E} {o : Nat} {r0 : Nat} {M : fw_M} {z : (Int32 × fw_M)} (C : fw_C p s m args meth c cX7_readInto RX7 wsX7_readInto 2 (some .boolean) D vwCl (fw_tys cI cZ cH cR) N ad fw_nw0) (ho : o_Tape EE ad N cI cZ cH cR o) (hr0 : o_Hall EE ad N cI cZ cH cR r0) (h : P_Tape_readInto_b0 o r0 M = some z) : fw_J p l e (headSpec wsX7_readInto rm_Tape_readInto).room s m args below meth c D vwCl N ad EE 2 0 0 (fw_E below args s D vwCl N ad EE (some (.int z.1)) z.2) M [(0, .ref (ad o)), (1, .ref (ad r0))] 0 [] := by
  unfold P_Tape_readInto_b0 at h
  refine fw_aload_n (pc := 0) C 0 dX7_readInto_0 rfl rfl ?_
  refine fw_iconst (pc := 1) C (v := 0) dX7_readInto_1 fk_iconst_0 ?_
  have h := fw_plh h
  refine fw_puti (pc := 2) C ho.2.2.2.1 rfl qX7_readInto_19 tyX7 tyX7_ok nmX7 rfl rfl dX7_readInto_2 ?_
  refine fw_aload_n (pc := 5) C 0 dX7_readInto_5 rfl rfl ?_
  refine fw_aload_n (pc := 6) C 1 dX7_readInto_6 rfl rfl ?_
  obtain ⟨q2, hq2, h⟩ := fw_bind h
  refine fw_callV1 (pc := 7) C (rest := []) (c_Tape_readLaw ho hr0 hq2) (cwV 1 C.2.2.2.2.1 gX7_readInto_X7_readLaw rfl rfl rfl hd_Tape_readLaw ⟨Nat.le_of_ble_eq_true rfl, Nat.le_of_ble_eq_true rfl⟩) ho.1 rfl rfl ⟨Nat.zero_le _, Nat.zero_le _⟩ rfl (Nat.le_of_ble_eq_true rfl) dX7_readInto_7 ?_
  refine fw_if_eq (pc := 10) C (tgt := 25) dX7_readInto_10 (by decide) (fun c3 => ?_) (fun c3 => ?_)
  · have h := fw_ift h c3
    exact fw_sub [] rfl (c_Tape_readInto_b25 C ho hr0 h)
  · have h := fw_iff h c3
    refine fw_aload_n (pc := 13) C 0 dX7_readInto_13 rfl rfl ?_
    refine fw_aload_n (pc := 14) C 1 dX7_readInto_14 rfl rfl ?_
    obtain ⟨q4, hq4, h⟩ := fw_bind h
    refine fw_callV1 (pc := 15) C (rest := []) (c_Tape_readPeople ho hr0 hq4) (cwV 1 C.2.2.2.2.1 gX7_readInto_X7_readPeople rfl rfl rfl hd_Tape_readPeople ⟨Nat.le_of_ble_eq_true rfl, Nat.le_of_ble_eq_true rfl⟩) ho.1 rfl rfl ⟨Nat.zero_le _, Nat.zero_le _⟩ rfl (Nat.le_of_ble_eq_true rfl) dX7_readInto_15 ?_
    refine fw_if_eq (pc := 18) C (tgt := 25) dX7_readInto_18 (by decide) (fun c5 => ?_) (fun c5 => ?_)
    · have h := fw_ift h c5
      exact fw_sub [] rfl (c_Tape_readInto_b25 C ho hr0 h)
    · have h := fw_iff h c5
      refine fw_iconst (pc := 21) C (v := 1) dX7_readInto_21 fk_iconst_1 ?_
      refine fw_goto (pc := 22) C (tgt := 26) dX7_readInto_22 (by decide) ?_
      exact fw_sub [] rfl (c_Tape_readInto_b26 C ho hr0 h)
theorem c_Tape_readInto {l : Launch} {D : va_G} {cI cZ cH cR : ClassId} {N : Nat} {ad : Nat → Nat} {EE : fw_M → Nat → va_E} {o : Nat} {r0 : Nat} {M : fw_M} {z : (Int32 × fw_M)} (ho : o_Tape EE ad N cI cZ cH cR o) (hr0 : o_Hall EE ad N cI cZ cH cR r0) (h : P_Tape_readInto o r0 M = some z) : fw_Met l yX7_readInto wsX7_readInto rm_Tape_readInto D vwCl (fw_tys cI cZ cH cR) N ad fw_nw0 EE [.ref (ad o), .ref (ad r0)] M (some (.int z.1)) z.2 := by
  unfold P_Tape_readInto at h
  exact fw_intro (cc := cX7_readInto) (maxL := 2) (ret := some .boolean) (own := RX7) (by decide) rfl rfl (Nat.le_of_ble_eq_true rfl) (fun p e s m args below meth c C => fw_sub [0, 1] rfl (c_Tape_readInto_b0 C ho hr0 h))
end
