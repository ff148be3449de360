noncomputable section
abbrev rm_Asking_begin : Room := { frames := 0, cells := 0, slots := 0, locals := 0 }
theorem hd_Asking_begin : yX1_begin.cls = RX1 ∧ yX1_begin.cls ≠ "java/lang/invoke/MethodHandle" ∧ yX1_begin.cls ≠ "java/lang/invoke/VarHandle" ∧ (parseMethodDescriptor yX1_begin.desc).map (fun d => d.parameters.length) = some 0 := by decide +kernel
theorem qX1_begin_15 : fw_G wsX1_begin RX1 15 RX1 TX1 2 1 := ⟨by decide +kernel, by decide +kernel, by decide⟩
def P_Asking_begin_b0 (o : Nat) (M : fw_M) : Option fw_M := fw_pl (fw_set M o 1 (0 : Int32)) fun M1 => some M1
def P_Asking_begin (o : Nat) (M : fw_M) : Option fw_M := P_Asking_begin_b0 o M
set_option maxRecDepth 100000 in
theorem c_Asking_begin_b0 {p : Program} {l : Launch} {e : Env} {s : State} {m : MethodId} {args : Array Value} {below : List Frame} {meth : Method} {c : Code} {D : va_G} {cI cZ cH cR : ClassId} {N : Nat} {ad : Nat → Nat} {EE : fw_M → Nat → va_E} {o : Nat} {M : fw_M} {z : fw_M} (C : fw_C p s m args meth c cX1_begin RX1 wsX1_begin 1 (none) D vwCl (fw_tys cI cZ cH cR) N ad fw_nw0) (ho : o_Asking EE ad N cI cZ cH cR o) (h : P_Asking_begin_b0 o M = some z) : fw_J p l e (headSpec wsX1_begin rm_Asking_begin).room s m args below meth c D vwCl N ad EE 1 0 0 (fw_E below args s D vwCl N ad EE none z) M [(0, .ref (ad o))] 0 [] := by
  unfold P_Asking_begin_b0 at h
  refine fw_aload_n (pc := 0) C 0 dX1_begin_0 rfl rfl ?_
  refine fw_iconst (pc := 1) C (v := 0) dX1_begin_1 fk_iconst_0 ?_
  have h := fw_plh h
  refine fw_puti (pc := 2) C ho.2.2 rfl qX1_begin_15 tyX1 tyX1_ok nmX1 rfl rfl dX1_begin_2 ?_
  exact fw_vret (pc := 5) C (Option.some.inj h) dX1_begin_5
theorem c_Asking_begin {l : Launch} {D : va_G} {cI cZ cH cR : ClassId} {N : Nat} {ad : Nat → Nat} {EE : fw_M → Nat → va_E} {o : Nat} {M : fw_M} {z : fw_M} (ho : o_Asking EE ad N cI cZ cH cR o) (h : P_Asking_begin o M = some z) : fw_Met l yX1_begin wsX1_begin rm_Asking_begin D vwCl (fw_tys cI cZ cH cR) N ad fw_nw0 EE [.ref (ad o)] M none z := by
  unfold P_Asking_begin at h
  exact fw_intro (cc := cX1_begin) (maxL := 1) (ret := none) (own := RX1) (by decide) rfl rfl (Nat.le_of_ble_eq_true rfl) (fun p e s m args below meth c C => fw_sub [0] rfl (c_Asking_begin_b0 C ho h))
abbrev rm_Asking_leave : Room := { frames := 0, cells := 0, slots := 0, locals := 0 }
theorem hd_Asking_leave : yX1_leave.cls = RX1 ∧ yX1_leave.cls ≠ "java/lang/invoke/MethodHandle" ∧ yX1_leave.cls ≠ "java/lang/invoke/VarHandle" ∧ (parseMethodDescriptor yX1_leave.desc).map (fun d => d.parameters.length) = some 1 := by decide +kernel
theorem qX1_leave_15 : fw_G wsX1_leave RX1 15 RX1 TX1 2 1 := ⟨by decide +kernel, by decide +kernel, by decide⟩
theorem qX1_leave_9 : fw_G wsX1_leave RX1 9 RX1 TX1 2 0 := ⟨by decide +kernel, by decide +kernel, by decide⟩
def P_Asking_leave_b29 (o : Nat) (M : fw_M) : Option fw_M := some M
def P_Asking_leave_b0 (o : Nat) (M : fw_M) (x1 : Int32) : Option fw_M := (if (16 : Int32) ≤ (M o 1) then P_Asking_leave_b29 o M else (fw_ast M (o + 1) 16 (M o 1) x1).bind fun M2 => fw_pl (fw_set M2 o 1 ((M2 o 1) + (1 : Int32))) fun M3 => P_Asking_leave_b29 o M3)
def P_Asking_leave (o : Nat) (M : fw_M) (a0 : Int32) : Option fw_M := P_Asking_leave_b0 o M a0
set_option maxRecDepth 100000 in
theorem c_Asking_leave_b29 {p : Program} {l : Launch} {e : Env} {s : State} {m : MethodId} {args : Array Value} {below : List Frame} {meth : Method} {c : Code} {D : va_G} {cI cZ cH cR : ClassId} {N : Nat} {ad : Nat → Nat} {EE : fw_M → Nat → va_E} {o : Nat} {M : fw_M} {z : fw_M} (C : fw_C p s m args meth c cX1_leave RX1 wsX1_leave 2 (none) D vwCl (fw_tys cI cZ cH cR) N ad fw_nw0) (ho : o_Asking EE ad N cI cZ cH cR o) (h : P_Asking_leave_b29 o M = some z) : fw_J p l e (headSpec wsX1_leave rm_Asking_leave).room s m args below meth c D vwCl N ad EE 2 0 0 (fw_E below args s D vwCl N ad EE none z) M [] 29 [] := by
  unfold P_Asking_leave_b29 at h
  exact fw_vret (pc := 29) C (Option.some.inj h) dX1_leave_29
set_option maxRecDepth 100000 in
theorem c_Asking_leave_b0 {p : Program} {l : Launch} {e : Env} {s : State} {m : MethodId} {args : Array Value} {below : List Frame} {meth : Method} {c : Code} {D : va_G} {cI cZ cH cR : ClassId} {N : Nat} {ad : Nat → Nat} {EE : fw_M → Nat → va_E} {o : Nat} {M : fw_M} {x1 : Int32} {z : fw_M} (C : fw_C p s m args meth c cX1_leave RX1 wsX1_leave 2 (none) D vwCl (fw_tys cI cZ cH cR) N ad fw_nw0) (ho : o_Asking EE ad N cI cZ cH cR o) (h : P_Asking_leave_b0 o M x1 = some z) : fw_J p l e (headSpec wsX1_leave rm_Asking_leave).room s m args below meth c D vwCl N ad EE 2 0 0 (fw_E below args s D vwCl N ad EE none z) M [(0, .ref (ad o)), (1, .int x1)] 0 [] := by
  unfold P_Asking_leave_b0 at h
  refine fw_aload_n (pc := 0) C 0 dX1_leave_0 rfl rfl ?_
  refine fw_geti (pc := 1) C ho.2.2 rfl qX1_leave_15 dX1_leave_1 ?_
  refine fw_bipush (pc := 4) C (v := 16) dX1_leave_4 fk_bipush_16 ?_
  refine fw_icmp_ge (pc := 6) C (tgt := 29) dX1_leave_6 (by decide) (fun c1 => ?_) (fun c1 => ?_)
  · have h := fw_ift h c1
    exact fw_sub [] rfl (c_Asking_leave_b29 C ho h)
  · have h := fw_iff h c1
    refine fw_aload_n (pc := 9) C 0 dX1_leave_9 rfl rfl ?_
    refine fw_getr (pc := 10) C ho.2.1.1 rfl qX1_leave_9 dX1_leave_10 ?_
    refine fw_aload_n (pc := 13) C 0 dX1_leave_13 rfl rfl ?_
    refine fw_geti (pc := 14) C ho.2.2 rfl qX1_leave_15 dX1_leave_14 ?_
    refine fw_iload_n (pc := 17) C 1 dX1_leave_17 rfl rfl ?_
    obtain ⟨M2, hM2, h⟩ := fw_bind h
    refine fw_iast (pc := 18) C 0 ho.2.1.2 rfl hM2 dX1_leave_18 ?_
    refine fw_aload_n (pc := 19) C 0 dX1_leave_19 rfl rfl ?_
    refine fw_dup (pc := 20) C dX1_leave_20 rfl ?_
    refine fw_geti (pc := 21) C ho.2.2 rfl qX1_leave_15 dX1_leave_21 ?_
    refine fw_iconst (pc := 24) C (v := 1) dX1_leave_24 fk_iconst_1 ?_
    refine fw_iadd (pc := 25) C dX1_leave_25 ?_
    have h := fw_plh h
    refine fw_puti (pc := 26) C ho.2.2 rfl qX1_leave_15 tyX1 tyX1_ok nmX1 rfl rfl dX1_leave_26 ?_
    exact fw_sub [] rfl (c_Asking_leave_b29 C ho h)
theorem c_Asking_leave {l : Launch} {D : va_G} {cI cZ cH cR : ClassId} {N : Nat} {ad : Nat → Nat} {EE : fw_M → Nat → va_E} {o : Nat} {M : fw_M} {a0 : Int32} {z : fw_M} (ho : o_Asking EE ad N cI cZ cH cR o) (h : P_Asking_leave o M a0 = some z) : fw_Met l yX1_leave wsX1_leave rm_Asking_leave D vwCl (fw_tys cI cZ cH cR) N ad fw_nw0 EE [.ref (ad o), .int a0] M none z := by
  unfold P_Asking_leave at h
  exact fw_intro (cc := cX1_leave) (maxL := 2) (ret := none) (own := RX1) (by decide) rfl rfl (Nat.le_of_ble_eq_true rfl) (fun p e s m args below meth c C => fw_sub [0, 1] rfl (c_Asking_leave_b0 C ho h))
abbrev rm_Asking_size10 : Room := { frames := 1, cells := 0, slots := 0, locals := 21 }
theorem hd_Asking_size10 : yX1_size10.cls = RX1 ∧ yX1_size10.cls ≠ "java/lang/invoke/MethodHandle" ∧ yX1_size10.cls ≠ "java/lang/invoke/VarHandle" ∧ (parseMethodDescriptor yX1_size10.desc).map (fun d => d.parameters.length) = some 2 := by decide +kernel
theorem qX1_size10_51 : fw_G wsX1_size10 RX1 51 RX3 TX3 9 5 := ⟨by decide +kernel, by decide +kernel, by decide⟩
def P_Asking_size10_b0 (o : Nat) (r0 : Nat) (M : fw_M) (x2 : Int32) : Option (Int32 × fw_M) := (P_Asking_leave o M (10 : Int32)).bind fun q1 => (fw_ald q1 (r0 + 2) 7 x2).bind fun v2 => some (v2, q1)
def P_Asking_size10 (o : Nat) (r0 : Nat) (M : fw_M) (a1 : Int32) : Option (Int32 × fw_M) := P_Asking_size10_b0 o r0 M a1
set_option maxRecDepth 100000 in
theorem c_Asking_size10_b0 {p : Program} {l : Launch} {e : Env} {s : State} {m : MethodId} {args : Array Value} {below : List Frame} {meth : Method} {c : Code} {D : va_G} {cI cZ cH cR : ClassId} {N : Nat} {ad : Nat → Nat} {EE : fw_M → Nat → va_E} {o : Nat} {r0 : Nat} {M : fw_M} {x2 : Int32} {z : (Int32 × fw_M)} (C : fw_C p s m args meth c cX1_size10 RX1 wsX1_size10 3 (some .int) D vwCl (fw_tys cI cZ cH cR) N ad fw_nw0) (ho : o_Asking EE ad N cI cZ cH cR o) (hr0 : o_Hall EE ad N cI cZ cH cR r0) (h : P_Asking_size10_b0 o r0 M x2 = some z) : fw_J p l e (headSpec wsX1_size10 rm_Asking_size10).room s m args below meth c D vwCl N ad EE 3 0 0 (fw_E below args s D vwCl N ad EE (some (.int z.1)) z.2) M [(0, .ref (ad o)), (1, .ref (ad r0)), (2, .int x2)] 0 [] := by
  unfold P_Asking_size10_b0 at h
  refine fw_aload_n (pc := 0) C 0 dX1_size10_0 rfl rfl ?_
  refine fw_bipush (pc := 1) C (v := 10) dX1_size10_1 fk_bipush_10 ?_
  obtain ⟨q1, hq1, h⟩ := fw_bind h
  refine fw_callV0 (pc := 3) C (rest := []) (c_Asking_leave ho hq1) (cwV 1 C.2.2.2.2.1 gX1_size10_X1_leave rfl rfl rfl hd_Asking_leave ⟨Nat.le_of_ble_eq_true rfl, Nat.le_of_ble_eq_true rfl⟩) ho.1 rfl rfl ⟨Nat.zero_le _, Nat.zero_le _⟩ rfl (Nat.le_of_ble_eq_true rfl) dX1_size10_3 ?_
  refine fw_aload_n (pc := 6) C 1 dX1_size10_6 rfl rfl ?_
  refine fw_getr (pc := 7) C hr0.2.2.2.2.2.2.1.1 rfl qX1_size10_51 dX1_size10_7 ?_
  refine fw_iload_n (pc := 10) C 2 dX1_size10_10 rfl rfl ?_
  obtain ⟨v2, hv2, h⟩ := fw_bind h
  refine fw_iald (pc := 11) C 0 hr0.2.2.2.2.2.2.1.2 rfl hv2 dX1_size10_11 ?_
  exact fw_iret (pc := 12) C (fw_p1 h) (fw_p2 h) dX1_size10_12
theorem c_Asking_size10 {l : Launch} {D : va_G} {cI cZ cH cR : ClassId} {N : Nat} {ad : Nat → Nat} {EE : fw_M → Nat → va_E} {o : Nat} {r0 : Nat} {M : fw_M} {a1 : Int32} {z : (Int32 × fw_M)} (ho : o_Asking EE ad N cI cZ cH cR o) (hr0 : o_Hall EE ad N cI cZ cH cR r0) (h : P_Asking_size10 o r0 M a1 = some z) : fw_Met l yX1_size10 wsX1_size10 rm_Asking_size10 D vwCl (fw_tys cI cZ cH cR) N ad fw_nw0 EE [.ref (ad o), .ref (ad r0), .int a1] M (some (.int z.1)) z.2 := by
  unfold P_Asking_size10 at h
  exact fw_intro (cc := cX1_size10) (maxL := 3) (ret := some .int) (own := RX1) (by decide) rfl rfl (Nat.le_of_ble_eq_true rfl) (fun p e s m args below meth c C => fw_sub [0, 1, 2] rfl (c_Asking_size10_b0 C ho hr0 h))
abbrev rm_Asking_mark20 : Room := { frames := 1, cells := 0, slots := 0, locals := 21 }
theorem hd_Asking_mark20 : yX1_mark20.cls = RX1 ∧ yX1_mark20.cls ≠ "java/lang/invoke/MethodHandle" ∧ yX1_mark20.cls ≠ "java/lang/invoke/VarHandle" ∧ (parseMethodDescriptor yX1_mark20.desc).map (fun d => d.parameters.length) = some 1 := by decide +kernel
def P_Asking_mark20_b0 (o : Nat) (M : fw_M) (x1 : Int32) : Option (Int32 × fw_M) := (P_Asking_leave o M (20 : Int32)).bind fun q1 => some (x1, q1)
def P_Asking_mark20 (o : Nat) (M : fw_M) (a0 : Int32) : Option (Int32 × fw_M) := P_Asking_mark20_b0 o M a0
set_option maxRecDepth 100000 in
theorem c_Asking_mark20_b0 {p : Program} {l : Launch} {e : Env} {s : State} {m : MethodId} {args : Array Value} {below : List Frame} {meth : Method} {c : Code} {D : va_G} {cI cZ cH cR : ClassId} {N : Nat} {ad : Nat → Nat} {EE : fw_M → Nat → va_E} {o : Nat} {M : fw_M} {x1 : Int32} {z : (Int32 × fw_M)} (C : fw_C p s m args meth c cX1_mark20 RX1 wsX1_mark20 2 (some .int) D vwCl (fw_tys cI cZ cH cR) N ad fw_nw0) (ho : o_Asking EE ad N cI cZ cH cR o) (h : P_Asking_mark20_b0 o M x1 = some z) : fw_J p l e (headSpec wsX1_mark20 rm_Asking_mark20).room s m args below meth c D vwCl N ad EE 2 0 0 (fw_E below args s D vwCl N ad EE (some (.int z.1)) z.2) M [(0, .ref (ad o)), (1, .int x1)] 0 [] := by
  unfold P_Asking_mark20_b0 at h
  refine fw_aload_n (pc := 0) C 0 dX1_mark20_0 rfl rfl ?_
  refine fw_bipush (pc := 1) C (v := 20) dX1_mark20_1 fk_bipush_20 ?_
  obtain ⟨q1, hq1, h⟩ := fw_bind h
  refine fw_callV0 (pc := 3) C (rest := []) (c_Asking_leave ho hq1) (cwV 1 C.2.2.2.2.1 gX1_mark20_X1_leave rfl rfl rfl hd_Asking_leave ⟨Nat.le_of_ble_eq_true rfl, Nat.le_of_ble_eq_true rfl⟩) ho.1 rfl rfl ⟨Nat.zero_le _, Nat.zero_le _⟩ rfl (Nat.le_of_ble_eq_true rfl) dX1_mark20_3 ?_
  refine fw_iload_n (pc := 6) C 1 dX1_mark20_6 rfl rfl ?_
  exact fw_iret (pc := 7) C (fw_p1 h) (fw_p2 h) dX1_mark20_7
theorem c_Asking_mark20 {l : Launch} {D : va_G} {cI cZ cH cR : ClassId} {N : Nat} {ad : Nat → Nat} {EE : fw_M → Nat → va_E} {o : Nat} {M : fw_M} {a0 : Int32} {z : (Int32 × fw_M)} (ho : o_Asking EE ad N cI cZ cH cR o) (h : P_Asking_mark20 o M a0 = some z) : fw_Met l yX1_mark20 wsX1_mark20 rm_Asking_mark20 D vwCl (fw_tys cI cZ cH cR) N ad fw_nw0 EE [.ref (ad o), .int a0] M (some (.int z.1)) z.2 := by
  unfold P_Asking_mark20 at h
  exact fw_intro (cc := cX1_mark20) (maxL := 2) (ret := some .int) (own := RX1) (by decide) rfl rfl (Nat.le_of_ble_eq_true rfl) (fun p e s m args below meth c C => fw_sub [0, 1] rfl (c_Asking_mark20_b0 C ho h))
abbrev rm_Asking_mark21 : Room := { frames := 2, cells := 0, slots := 0, locals := 42 }
theorem hd_Asking_mark21 : yX1_mark21.cls = RX1 ∧ yX1_mark21.cls ≠ "java/lang/invoke/MethodHandle" ∧ yX1_mark21.cls ≠ "java/lang/invoke/VarHandle" ∧ (parseMethodDescriptor yX1_mark21.desc).map (fun d => d.parameters.length) = some 2 := by decide +kernel
theorem qX1_mark21_61 : fw_G wsX1_mark21 RX1 61 RX3 TX3 9 6 := ⟨by decide +kernel, by decide +kernel, by decide⟩
def P_Asking_mark21_b0 (o : Nat) (r0 : Nat) (M : fw_M) (x2 : Int32) : Option (Int32 × fw_M) := (P_Asking_leave o M (21 : Int32)).bind fun q1 => (P_Asking_mark20 o q1 x2).bind fun q2 => (fw_ald q2.2 (r0 + 3) 7 x2).bind fun v3 => some ((q2.1 + v3), q2.2)
def P_Asking_mark21 (o : Nat) (r0 : Nat) (M : fw_M) (a1 : Int32) : Option (Int32 × fw_M) := P_Asking_mark21_b0 o r0 M a1
set_option maxRecDepth 100000 in
theorem c_Asking_mark21_b0 {p : Program} {l : Launch} {e : Env} {s : State} {m : MethodId} {args : Array Value} {below : List Frame} {meth : Method} {c : Code} {D : va_G} {cI cZ cH cR : ClassId} {N : Nat} {ad : Nat → Nat} {EE : fw_M → Nat → va_E} {o : Nat} {r0 : Nat} {M : fw_M} {x2 : Int32} {z : (Int32 × fw_M)} (C : fw_C p s m args meth c cX1_mark21 RX1 wsX1_mark21 3 (some .int) D vwCl (fw_tys cI cZ cH cR) N ad fw_nw0) (ho : o_Asking EE ad N cI cZ cH cR o) (hr0 : o_Hall EE ad N cI cZ cH cR r0) (h : P_Asking_mark21_b0 o r0 M x2 = some z) : fw_J p l e (headSpec wsX1_mark21 rm_Asking_mark21).room s m args below meth c D vwCl N ad EE 3 0 0 (fw_E below args s D vwCl N ad EE (some (.int z.1)) z.2) M [(0, .ref (ad o)), (1, .ref (ad r0)), (2, .int x2)] 0 [] := by
  unfold P_Asking_mark21_b0 at h
  refine fw_aload_n (pc := 0) C 0 dX1_mark21_0 rfl rfl ?_
  refine fw_bipush (pc := 1) C (v := 21) dX1_mark21_1 fk_bipush_21 ?_
  obtain ⟨q1, hq1, h⟩ := fw_bind h
  refine fw_callV0 (pc := 3) C (rest := []) (c_Asking_leave ho hq1) (cwV 1 C.2.2.2.2.1 gX1_mark21_X1_leave rfl rfl rfl hd_Asking_leave ⟨Nat.le_of_ble_eq_true rfl, Nat.le_of_ble_eq_true rfl⟩) ho.1 rfl rfl ⟨Nat.zero_le _, Nat.zero_le _⟩ rfl (Nat.le_of_ble_eq_true rfl) dX1_mark21_3 ?_
  refine fw_aload_n (pc := 6) C 0 dX1_mark21_6 rfl rfl ?_
  refine fw_iload_n (pc := 7) C 2 dX1_mark21_7 rfl rfl ?_
  obtain ⟨q2, hq2, h⟩ := fw_bind h
  refine fw_callV1 (pc := 8) C (rest := []) (c_Asking_mark20 ho hq2) (cwV 1 C.2.2.2.2.1 gX1_mark21_X1_mark20 rfl rfl rfl hd_Asking_mark20 ⟨Nat.le_of_ble_eq_true rfl, Nat.le_of_ble_eq_true rfl⟩) ho.1 rfl rfl ⟨Nat.zero_le _, Nat.zero_le _⟩ rfl (Nat.le_of_ble_eq_true rfl) dX1_mark21_8 ?_
  refine fw_aload_n (pc := 11) C 1 dX1_mark21_11 rfl rfl ?_
  refine fw_getr (pc := 12) C hr0.2.2.2.2.2.2.2.1.1 rfl qX1_mark21_61 dX1_mark21_12 ?_
  refine fw_iload_n (pc := 15) C 2 dX1_mark21_15 rfl rfl ?_
  obtain ⟨v3, hv3, h⟩ := fw_bind h
  refine fw_iald (pc := 16) C 0 hr0.2.2.2.2.2.2.2.1.2 rfl hv3 dX1_mark21_16 ?_
  refine fw_iadd (pc := 17) C dX1_mark21_17 ?_
  exact fw_iret (pc := 18) C (fw_p1 h) (fw_p2 h) dX1_mark21_18
theorem c_Asking_mark21 {l : Launch} {D : va_G} {cI cZ cH cR : ClassId} {N : Nat} {ad : Nat → Nat} {EE : fw_M → Nat → va_E} {o : Nat} {r0 : Nat} {M : fw_M} {a1 : Int32} {z : (Int32 × fw_M)} (ho : o_Asking EE ad N cI cZ cH cR o) (hr0 : o_Hall EE ad N cI cZ cH cR r0) (h : P_Asking_mark21 o r0 M a1 = some z) : fw_Met l yX1_mark21 wsX1_mark21 rm_Asking_mark21 D vwCl (fw_tys cI cZ cH cR) N ad fw_nw0 EE [.ref (ad o), .ref (ad r0), .int a1] M (some (.int z.1)) z.2 := by
  unfold P_Asking_mark21 at h
  exact fw_intro (cc := cX1_mark21) (maxL := 3) (ret := some .int) (own := RX1) (by decide) rfl rfl (Nat.le_of_ble_eq_true rfl) (fun p e s m args below meth c C => fw_sub [0, 1, 2] rfl (c_Asking_mark21_b0 C ho hr0 h))
abbrev rm_Asking_clerkMark : Room := { frames := 3, cells := 0, slots := 0, locals := 64 }
theorem hd_Asking_clerkMark : yX1_clerkMark.cls = RX1 ∧ yX1_clerkMark.cls ≠ "java/lang/invoke/MethodHandle" ∧ yX1_clerkMark.cls ≠ "java/lang/invoke/VarHandle" ∧ (parseMethodDescriptor yX1_clerkMark.desc).map (fun d => d.parameters.length) = some 2 := by decide +kernel
theorem qX1_clerkMark_19 : fw_G wsX1_clerkMark RX1 19 RX3 TX3 9 4 := ⟨by decide +kernel, by decide +kernel, by decide⟩
def P_Asking_clerkMark_b0 (o : Nat) (r0 : Nat) (M : fw_M) (x2 : Int32) : Option (Int32 × fw_M) := (fw_ald M (r0 + 1) 7 x2).bind fun v1 => (if v1 = (2 : Int32) then (P_Asking_leave o M (24 : Int32)).bind fun q3 => (P_Asking_mark21 o r0 q3 x2).bind fun q4 => some ((q4.1 * (2 : Int32)), q4.2) else (if v1 = (3 : Int32) then (P_Asking_leave o M (22 : Int32)).bind fun q6 => (P_Asking_mark21 o r0 q6 x2).bind fun q7 => some ((q7.1 - (1000 : Int32)), q7.2) else (P_Asking_mark21 o r0 M x2).bind fun q8 => some (q8.1, q8.2)))
def P_Asking_clerkMark (o : Nat) (r0 : Nat) (M : fw_M) (a1 : Int32) : Option (Int32 × fw_M) := P_Asking_clerkMark_b0 o r0 M a1
set_option maxRecDepth 100000 in
theorem c_Asking_clerkMark_b0 {p : Program} {l : Launch} {e : Env} {s : State} {m : MethodId} {args : Array Value} {below : List Frame} {meth : Method} {c : Code} {D : va_G} {cI cZ cH cR : ClassId} {N : Nat} {ad : Nat → Nat} {EE : fw_M → Nat → va_E} {o : Nat} {r0 : Nat} {M : fw_M} {x2 : Int32} {z : (Int32 × fw_M)} (C : fw_C p s m args meth c cX1_clerkMark RX1 wsX1_clerkMark 3 (some .int) D vwCl (fw_tys cI cZ cH cR) N ad fw_nw0) (ho : o_Asking EE ad N cI cZ cH cR o) (hr0 : o_Hall EE ad N cI cZ cH cR r0) (h : P_Asking_clerkMark_b0 o r0 M x2 = some z) : fw_J p l e (headSpec wsX1_clerkMark rm_Asking_clerkMark).room s m args below meth c D vwCl N ad EE 3 0 0 (fw_E below args s D vwCl N ad EE (some (.int z.1)) z.2) M [(0, .ref (ad o)), (1, .ref (ad r0)), (2, .int x2)] 0 [] := by
  unfold P_Asking_clerkMark_b0 at h
  refine fw_aload_n (pc := 0) C 1 dX1_clerkMark_0 rfl rfl ?_
  refine fw_getr (pc := 1) C hr0.2.2.2.2.2.1.1 rfl qX1_clerkMark_19 dX1_clerkMark_1 ?_
  refine fw_iload_n (pc := 4) C 2 dX1_clerkMark_4 rfl rfl ?_
  obtain ⟨v1, hv1, h⟩ := fw_bind h
  refine fw_iald (pc := 5) C 0 hr0.2.2.2.2.2.1.2 rfl hv1 dX1_clerkMark_5 ?_
  rcases fw_cs h with ⟨c2, h⟩ | ⟨c2, h⟩
  · refine fw_lookup (pc := 6) C dX1_clerkMark_6 (by decide) (off := 43) (tgt := 49) (by rw [c2]; rfl) (by decide) ?_
    refine fw_aload_n (pc := 49) C 0 dX1_clerkMark_49 rfl rfl ?_
    refine fw_bipush (pc := 50) C (v := 24) dX1_clerkMark_50 fk_bipush_24 ?_
    obtain ⟨q3, hq3, h⟩ := fw_bind h
    refine fw_callV0 (pc := 52) C (rest := []) (c_Asking_leave ho hq3) (cwV 1 C.2.2.2.2.1 gX1_clerkMark_X1_leave rfl rfl rfl hd_Asking_leave ⟨Nat.le_of_ble_eq_true rfl, Nat.le_of_ble_eq_true rfl⟩) ho.1 rfl rfl ⟨Nat.zero_le _, Nat.zero_le _⟩ rfl (Nat.le_of_ble_eq_true rfl) dX1_clerkMark_52 ?_
    refine fw_aload_n (pc := 55) C 0 dX1_clerkMark_55 rfl rfl ?_
    refine fw_aload_n (pc := 56) C 1 dX1_clerkMark_56 rfl rfl ?_
    refine fw_iload_n (pc := 57) C 2 dX1_clerkMark_57 rfl rfl ?_
    obtain ⟨q4, hq4, h⟩ := fw_bind h
    refine fw_callV1 (pc := 58) C (rest := []) (c_Asking_mark21 ho hr0 hq4) (cwV 2 C.2.2.2.2.1 gX1_clerkMark_X1_mark21 rfl rfl rfl hd_Asking_mark21 ⟨Nat.le_of_ble_eq_true rfl, Nat.le_of_ble_eq_true rfl⟩) ho.1 rfl rfl ⟨Nat.zero_le _, Nat.zero_le _⟩ rfl (Nat.le_of_ble_eq_true rfl) dX1_clerkMark_58 ?_
    refine fw_iconst (pc := 61) C (v := 2) dX1_clerkMark_61 fk_iconst_2 ?_
    refine fw_imul (pc := 62) C dX1_clerkMark_62 ?_
    exact fw_iret (pc := 63) C (fw_p1 h) (fw_p2 h) dX1_clerkMark_63
  · rcases fw_cs h with ⟨c5, h⟩ | ⟨c5, h⟩
    · refine fw_lookup (pc := 6) C dX1_clerkMark_6 (by decide) (off := 26) (tgt := 32) ((lv_osw c2 (a := 2) (by decide)).trans (by rw [c5]; rfl)) (by decide) ?_
      refine fw_aload_n (pc := 32) C 0 dX1_clerkMark_32 rfl rfl ?_
      refine fw_bipush (pc := 33) C (v := 22) dX1_clerkMark_33 fk_bipush_22 ?_
      obtain ⟨q6, hq6, h⟩ := fw_bind h
      refine fw_callV0 (pc := 35) C (rest := []) (c_Asking_leave ho hq6) (cwV 1 C.2.2.2.2.1 gX1_clerkMark_X1_leave rfl rfl rfl hd_Asking_leave ⟨Nat.le_of_ble_eq_true rfl, Nat.le_of_ble_eq_true rfl⟩) ho.1 rfl rfl ⟨Nat.zero_le _, Nat.zero_le _⟩ rfl (Nat.le_of_ble_eq_true rfl) dX1_clerkMark_35 ?_
      refine fw_aload_n (pc := 38) C 0 dX1_clerkMark_38 rfl rfl ?_
      refine fw_aload_n (pc := 39) C 1 dX1_clerkMark_39 rfl rfl ?_
      refine fw_iload_n (pc := 40) C 2 dX1_clerkMark_40 rfl rfl ?_
      obtain ⟨q7, hq7, h⟩ := fw_bind h
      refine fw_callV1 (pc := 41) C (rest := []) (c_Asking_mark21 ho hr0 hq7) (cwV 2 C.2.2.2.2.1 gX1_clerkMark_X1_mark21 rfl rfl rfl hd_Asking_mark21 ⟨Nat.le_of_ble_eq_true rfl, Nat.le_of_ble_eq_true rfl⟩) ho.1 rfl rfl ⟨Nat.zero_le _, Nat.zero_le _⟩ rfl (Nat.le_of_ble_eq_true rfl) dX1_clerkMark_41 ?_
      refine fw_sipush (pc := 44) C (v := 1000) dX1_clerkMark_44 fk_sipush_1000 ?_
      refine fw_isub (pc := 47) C dX1_clerkMark_47 ?_
      exact fw_iret (pc := 48) C (fw_p1 h) (fw_p2 h) dX1_clerkMark_48
    · refine fw_lookup (pc := 6) C dX1_clerkMark_6 (by decide) (off := 58) (tgt := 64) ((lv_osw c2 (a := 2) (by decide)).trans ((lv_osw c5 (a := 3) (by decide)).trans (rfl))) (by decide) ?_
      refine fw_aload_n (pc := 64) C 0 dX1_clerkMark_64 rfl rfl ?_
      refine fw_aload_n (pc := 65) C 1 dX1_clerkMark_65 rfl rfl ?_
      refine fw_iload_n (pc := 66) C 2 dX1_clerkMark_66 rfl rfl ?_
      obtain ⟨q8, hq8, h⟩ := fw_bind h
      refine fw_callV1 (pc := 67) C (rest := []) (c_Asking_mark21 ho hr0 hq8) (cwV 2 C.2.2.2.2.1 gX1_clerkMark_X1_mark21 rfl rfl rfl hd_Asking_mark21 ⟨Nat.le_of_ble_eq_true rfl, Nat.le_of_ble_eq_true rfl⟩) ho.1 rfl rfl ⟨Nat.zero_le _, Nat.zero_le _⟩ rfl (Nat.le_of_ble_eq_true rfl) dX1_clerkMark_67 ?_
      exact fw_iret (pc := 70) C (fw_p1 h) (fw_p2 h) dX1_clerkMark_70
theorem c_Asking_clerkMark {l : Launch} {D : va_G} {cI cZ cH cR : ClassId} {N : Nat} {ad : Nat → Nat} {EE : fw_M → Nat → va_E} {o : Nat} {r0 : Nat} {M : fw_M} {a1 : Int32} {z : (Int32 × fw_M)} (ho : o_Asking EE ad N cI cZ cH cR o) (hr0 : o_Hall EE ad N cI cZ cH cR r0) (h : P_Asking_clerkMark o r0 M a1 = some z) : fw_Met l yX1_clerkMark wsX1_clerkMark rm_Asking_clerkMark D vwCl (fw_tys cI cZ cH cR) N ad fw_nw0 EE [.ref (ad o), .ref (ad r0), .int a1] M (some (.int z.1)) z.2 := by
  unfold P_Asking_clerkMark at h
  exact fw_intro (cc := cX1_clerkMark) (maxL := 3) (ret := some .int) (own := RX1) (by decide) rfl rfl (Nat.le_of_ble_eq_true rfl) (fun p e s m args below meth c C => fw_sub [0, 1, 2] rfl (c_Asking_clerkMark_b0 C ho hr0 h))
abbrev rm_Asking_size11 : Room := { frames := 4, cells := 0, slots := 0, locals := 86 }
theorem hd_Asking_size11 : yX1_size11.cls = RX1 ∧ yX1_size11.cls ≠ "java/lang/invoke/MethodHandle" ∧ yX1_size11.cls ≠ "java/lang/invoke/VarHandle" ∧ (parseMethodDescriptor yX1_size11.desc).map (fun d => d.parameters.length) = some 2 := by decide +kernel
def P_Asking_size11_b0 (o : Nat) (r0 : Nat) (M : fw_M) (x2 : Int32) : Option (Int32 × fw_M) := (P_Asking_leave o M (11 : Int32)).bind fun q1 => (P_Asking_size10 o r0 q1 x2).bind fun q2 => (P_Asking_clerkMark o r0 q2.2 x2).bind fun q3 => some ((q2.1 + q3.1), q3.2)
def P_Asking_size11 (o : Nat) (r0 : Nat) (M : fw_M) (a1 : Int32) : Option (Int32 × fw_M) := P_Asking_size11_b0 o r0 M a1
set_option maxRecDepth 100000 in
theorem c_Asking_size11_b0 {p : Program} {l : Launch} {e : Env} {s : State} {m : MethodId} {args : Array Value} {below : List Frame} {meth : Method} {c : Code} {D : va_G} {cI cZ cH cR : ClassId} {N : Nat} {ad : Nat → Nat} {EE : fw_M → Nat → va_E} {o : Nat} {r0 : Nat} {M : fw_M} {x2 : Int32} {z : (Int32 × fw_M)} (C : fw_C p s m args meth c cX1_size11 RX1 wsX1_size11 4 (some .int) D vwCl (fw_tys cI cZ cH cR) N ad fw_nw0) (ho : o_Asking EE ad N cI cZ cH cR o) (hr0 : o_Hall EE ad N cI cZ cH cR r0) (h : P_Asking_size11_b0 o r0 M x2 = some z) : fw_J p l e (headSpec wsX1_size11 rm_Asking_size11).room s m args below meth c D vwCl N ad EE 4 0 0 (fw_E below args s D vwCl N ad EE (some (.int z.1)) z.2) M [(0, .ref (ad o)), (1, .ref (ad r0)), (2, .int x2)] 0 [] := by
  unfold P_Asking_size11_b0 at h
  refine fw_aload_n (pc := 0) C 0 dX1_size11_0 rfl rfl ?_
  refine fw_bipush (pc := 1) C (v := 11) dX1_size11_1 fk_bipush_11 ?_
  obtain ⟨q1, hq1, h⟩ := fw_bind h
  refine fw_callV0 (pc := 3) C (rest := []) (c_Asking_leave ho hq1) (cwV 1 C.2.2.2.2.1 gX1_size11_X1_leave rfl rfl rfl hd_Asking_leave ⟨Nat.le_of_ble_eq_true rfl, Nat.le_of_ble_eq_true rfl⟩) ho.1 rfl rfl ⟨Nat.zero_le _, Nat.zero_le _⟩ rfl (Nat.le_of_ble_eq_true rfl) dX1_size11_3 ?_
  refine fw_aload_n (pc := 6) C 0 dX1_size11_6 rfl rfl ?_
  refine fw_aload_n (pc := 7) C 1 dX1_size11_7 rfl rfl ?_
  refine fw_iload_n (pc := 8) C 2 dX1_size11_8 rfl rfl ?_
  obtain ⟨q2, hq2, h⟩ := fw_bind h
  refine fw_callV1 (pc := 9) C (rest := []) (c_Asking_size10 ho hr0 hq2) (cwV 2 C.2.2.2.2.1 gX1_size11_X1_size10 rfl rfl rfl hd_Asking_size10 ⟨Nat.le_of_ble_eq_true rfl, Nat.le_of_ble_eq_true rfl⟩) ho.1 rfl rfl ⟨Nat.zero_le _, Nat.zero_le _⟩ rfl (Nat.le_of_ble_eq_true rfl) dX1_size11_9 ?_
  refine fw_istore_n (pc := 12) C (L2 := [(0, .ref _), (1, .ref _), (2, .int _), (3, .int _)]) [1, 2, 3, 0] dX1_size11_12 rfl (by decide) rfl ?_
  refine fw_iload_n (pc := 13) C 3 dX1_size11_13 rfl rfl ?_
  refine fw_aload_n (pc := 14) C 0 dX1_size11_14 rfl rfl ?_
  refine fw_aload_n (pc := 15) C 1 dX1_size11_15 rfl rfl ?_
  refine fw_iload_n (pc := 16) C 2 dX1_size11_16 rfl rfl ?_
  obtain ⟨q3, hq3, h⟩ := fw_bind h
  refine fw_callV1 (pc := 17) C (rest := [_]) (c_Asking_clerkMark ho hr0 hq3) (cwV 2 C.2.2.2.2.1 gX1_size11_X1_clerkMark rfl rfl rfl hd_Asking_clerkMark ⟨Nat.le_of_ble_eq_true rfl, Nat.le_of_ble_eq_true rfl⟩) ho.1 rfl rfl ⟨Nat.zero_le _, Nat.zero_le _⟩ rfl (Nat.le_of_ble_eq_true rfl) dX1_size11_17 ?_
  refine fw_iadd (pc := 20) C dX1_size11_20 ?_
  exact fw_iret (pc := 21) C (fw_p1 h) (fw_p2 h) dX1_size11_21
theorem c_Asking_size11 {l : Launch} {D : va_G} {cI cZ cH cR : ClassId} {N : Nat} {ad : Nat → Nat} {EE : fw_M → Nat → va_E} {o : Nat} {r0 : Nat} {M : fw_M} {a1 : Int32} {z : (Int32 × fw_M)} (ho : o_Asking EE ad N cI cZ cH cR o) (hr0 : o_Hall EE ad N cI cZ cH cR r0) (h : P_Asking_size11 o r0 M a1 = some z) : fw_Met l yX1_size11 wsX1_size11 rm_Asking_size11 D vwCl (fw_tys cI cZ cH cR) N ad fw_nw0 EE [.ref (ad o), .ref (ad r0), .int a1] M (some (.int z.1)) z.2 := by
  unfold P_Asking_size11 at h
  exact fw_intro (cc := cX1_size11) (maxL := 4) (ret := some .int) (own := RX1) (by decide) rfl rfl (Nat.le_of_ble_eq_true rfl) (fun p e s m args below meth c C => fw_sub [0, 1, 2] rfl (c_Asking_size11_b0 C ho hr0 h))
abbrev rm_Asking_size13 : Room := { frames := 2, cells := 0, slots := 0, locals := 43 }
theorem hd_Asking_size13 : yX1_size13.cls = RX1 ∧ yX1_size13.cls ≠ "java/lang/invoke/MethodHandle" ∧ yX1_size13.cls ≠ "java/lang/invoke/VarHandle" ∧ (parseMethodDescriptor yX1_size13.desc).map (fun d => d.parameters.length) = some 2 := by decide +kernel
def P_Asking_size13_b0 (o : Nat) (r0 : Nat) (M : fw_M) (x2 : Int32) : Option (Int32 × fw_M) := (P_Asking_leave o M (13 : Int32)).bind fun q1 => (P_Asking_size10 o r0 q1 x2).bind fun q2 => some ((q2.1 - (100 : Int32)), q2.2)
def P_Asking_size13 (o : Nat) (r0 : Nat) (M : fw_M) (a1 : Int32) : Option (Int32 × fw_M) := P_Asking_size13_b0 o r0 M a1
set_option maxRecDepth 100000 in
theorem c_Asking_size13_b0 {p : Program} {l : Launch} {e : Env} {s : State} {m : MethodId} {args : Array Value} {below : List Frame} {meth : Method} {c : Code} {D : va_G} {cI cZ cH cR : ClassId} {N : Nat} {ad : Nat → Nat} {EE : fw_M → Nat → va_E} {o : Nat} {r0 : Nat} {M : fw_M} {x2 : Int32} {z : (Int32 × fw_M)} (C : fw_C p s m args meth c cX1_size13 RX1 wsX1_size13 3 (some .int) D vwCl (fw_tys cI cZ cH cR) N ad fw_nw0) (ho : o_Asking EE ad N cI cZ cH cR o) (hr0 : o_Hall EE ad N cI cZ cH cR r0) (h : P_Asking_size13_b0 o r0 M x2 = some z) : fw_J p l e (headSpec wsX1_size13 rm_Asking_size13).room s m args below meth c D vwCl N ad EE 3 0 0 (fw_E below args s D vwCl N ad EE (some (.int z.1)) z.2) M [(0, .ref (ad o)), (1, .ref (ad r0)), (2, .int x2)] 0 [] := by
  unfold P_Asking_size13_b0 at h
  refine fw_aload_n (pc := 0) C 0 dX1_size13_0 rfl rfl ?_
  refine fw_bipush (pc := 1) C (v := 13) dX1_size13_1 fk_bipush_13 ?_
  obtain ⟨q1, hq1, h⟩ := fw_bind h
  refine fw_callV0 (pc := 3) C (rest := []) (c_Asking_leave ho hq1) (cwV 1 C.2.2.2.2.1 gX1_size13_X1_leave rfl rfl rfl hd_Asking_leave ⟨Nat.le_of_ble_eq_true rfl, Nat.le_of_ble_eq_true rfl⟩) ho.1 rfl rfl ⟨Nat.zero_le _, Nat.zero_le _⟩ rfl (Nat.le_of_ble_eq_true rfl) dX1_size13_3 ?_
  refine fw_aload_n (pc := 6) C 0 dX1_size13_6 rfl rfl ?_
  refine fw_aload_n (pc := 7) C 1 dX1_size13_7 rfl rfl ?_
  refine fw_iload_n (pc := 8) C 2 dX1_size13_8 rfl rfl ?_
  obtain ⟨q2, hq2, h⟩ := fw_bind h
  refine fw_callV1 (pc := 9) C (rest := []) (c_Asking_size10 ho hr0 hq2) (cwV 2 C.2.2.2.2.1 gX1_size13_X1_size10 rfl rfl rfl hd_Asking_size10 ⟨Nat.le_of_ble_eq_true rfl, Nat.le_of_ble_eq_true rfl⟩) ho.1 rfl rfl ⟨Nat.zero_le _, Nat.zero_le _⟩ rfl (Nat.le_of_ble_eq_true rfl) dX1_size13_9 ?_
  refine fw_bipush (pc := 12) C (v := 100) dX1_size13_12 fk_bipush_100 ?_
  refine fw_isub (pc := 14) C dX1_size13_14 ?_
  exact fw_iret (pc := 15) C (fw_p1 h) (fw_p2 h) dX1_size13_15
theorem c_Asking_size13 {l : Launch} {D : va_G} {cI cZ cH cR : ClassId} {N : Nat} {ad : Nat → Nat} {EE : fw_M → Nat → va_E} {o : Nat} {r0 : Nat} {M : fw_M} {a1 : Int32} {z : (Int32 × fw_M)} (ho : o_Asking EE ad N cI cZ cH cR o) (hr0 : o_Hall EE ad N cI cZ cH cR r0) (h : P_Asking_size13 o r0 M a1 = some z) : fw_Met l yX1_size13 wsX1_size13 rm_Asking_size13 D vwCl (fw_tys cI cZ cH cR) N ad fw_nw0 EE [.ref (ad o), .ref (ad r0), .int a1] M (some (.int z.1)) z.2 := by
  unfold P_Asking_size13 at h
  exact fw_intro (cc := cX1_size13) (maxL := 3) (ret := some .int) (own := RX1) (by decide) rfl rfl (Nat.le_of_ble_eq_true rfl) (fun p e s m args below meth c C => fw_sub [0, 1, 2] rfl (c_Asking_size13_b0 C ho hr0 h))
abbrev rm_Asking_guestSize : Room := { frames := 3, cells := 0, slots := 0, locals := 65 }
theorem hd_Asking_guestSize : yX1_guestSize.cls = RX1 ∧ yX1_guestSize.cls ≠ "java/lang/invoke/MethodHandle" ∧ yX1_guestSize.cls ≠ "java/lang/invoke/VarHandle" ∧ (parseMethodDescriptor yX1_guestSize.desc).map (fun d => d.parameters.length) = some 2 := by decide +kernel
theorem qX1_guestSize_19 : fw_G wsX1_guestSize RX1 19 RX3 TX3 9 4 := ⟨by decide +kernel, by decide +kernel, by decide⟩
def P_Asking_guestSize_b0 (o : Nat) (r0 : Nat) (M : fw_M) (x2 : Int32) : Option (Int32 × fw_M) := (fw_ald M (r0 + 1) 7 x2).bind fun v1 => (if v1 = (5 : Int32) then (P_Asking_leave o M (14 : Int32)).bind fun q3 => (P_Asking_size13 o r0 q3 x2).bind fun q4 => some ((q4.1 * (2 : Int32)), q4.2) else (P_Asking_size13 o r0 M x2).bind fun q5 => some (q5.1, q5.2))
def P_Asking_guestSize (o : Nat) (r0 : Nat) (M : fw_M) (a1 : Int32) : Option (Int32 × fw_M) := P_Asking_guestSize_b0 o r0 M a1
set_option maxRecDepth 100000 in
theorem c_Asking_guestSize_b0 {p : Program} {l : Launch} {e : Env} {s : State} {m : MethodId} {args : Array Value} {below : List Frame} {meth : Method} {c : Code} {D : va_G} {cI cZ cH cR : ClassId} {N : Nat} {ad : Nat → Nat} {EE : fw_M → Nat → va_E} {o : Nat} {r0 : Nat} {M : fw_M} {x2 : Int32} {z : (Int32 × fw_M)} (C : fw_C p s m args meth c cX1_guestSize RX1 wsX1_guestSize 3 (some .int) D vwCl (fw_tys cI cZ cH cR) N ad fw_nw0) (ho : o_Asking EE ad N cI cZ cH cR o) (hr0 : o_Hall EE ad N cI cZ cH cR r0) (h : P_Asking_guestSize_b0 o r0 M x2 = some z) : fw_J p l e (headSpec wsX1_guestSize rm_Asking_guestSize).room s m args below meth c D vwCl N ad EE 3 0 0 (fw_E below args s D vwCl N ad EE (some (.int z.1)) z.2) M [(0, .ref (ad o)), (1, .ref (ad r0)), (2, .int x2)] 0 [] := by
  unfold P_Asking_guestSize_b0 at h
  refine fw_aload_n (pc := 0) C 1 dX1_guestSize_0 rfl rfl ?_
  refine fw_getr (pc := 1) C hr0.2.2.2.2.2.1.1 rfl qX1_guestSize_19 dX1_guestSize_1 ?_
  refine fw_iload_n (pc := 4) C 2 dX1_guestSize_4 rfl rfl ?_
  obtain ⟨v1, hv1, h⟩ := fw_bind h
  refine fw_iald (pc := 5) C 0 hr0.2.2.2.2.2.1.2 rfl hv1 dX1_guestSize_5 ?_
  refine fw_iconst (pc := 6) C (v := 5) dX1_guestSize_6 fk_iconst_5 ?_
  refine fw_icmp_eq (pc := 7) C (tgt := 17) dX1_guestSize_7 (by decide) (fun c2 => ?_) (fun c2 => ?_)
  · have h := fw_ift h c2
    refine fw_aload_n (pc := 17) C 0 dX1_guestSize_17 rfl rfl ?_
    refine fw_bipush (pc := 18) C (v := 14) dX1_guestSize_18 fk_bipush_14 ?_
    obtain ⟨q3, hq3, h⟩ := fw_bind h
    refine fw_callV0 (pc := 20) C (rest := []) (c_Asking_leave ho hq3) (cwV 1 C.2.2.2.2.1 gX1_guestSize_X1_leave rfl rfl rfl hd_Asking_leave ⟨Nat.le_of_ble_eq_true rfl, Nat.le_of_ble_eq_true rfl⟩) ho.1 rfl rfl ⟨Nat.zero_le _, Nat.zero_le _⟩ rfl (Nat.le_of_ble_eq_true rfl) dX1_guestSize_20 ?_
    refine fw_aload_n (pc := 23) C 0 dX1_guestSize_23 rfl rfl ?_
    refine fw_aload_n (pc := 24) C 1 dX1_guestSize_24 rfl rfl ?_
    refine fw_iload_n (pc := 25) C 2 dX1_guestSize_25 rfl rfl ?_
    obtain ⟨q4, hq4, h⟩ := fw_bind h
    refine fw_callV1 (pc := 26) C (rest := []) (c_Asking_size13 ho hr0 hq4) (cwV 2 C.2.2.2.2.1 gX1_guestSize_X1_size13 rfl rfl rfl hd_Asking_size13 ⟨Nat.le_of_ble_eq_true rfl, Nat.le_of_ble_eq_true rfl⟩) ho.1 rfl rfl ⟨Nat.zero_le _, Nat.zero_le _⟩ rfl (Nat.le_of_ble_eq_true rfl) dX1_guestSize_26 ?_
    refine fw_iconst (pc := 29) C (v := 2) dX1_guestSize_29 fk_iconst_2 ?_
    refine fw_imul (pc := 30) C dX1_guestSize_30 ?_
    exact fw_iret (pc := 31) C (fw_p1 h) (fw_p2 h) dX1_guestSize_31
  · have h := fw_iff h c2
    refine fw_aload_n (pc := 10) C 0 dX1_guestSize_10 rfl rfl ?_
    refine fw_aload_n (pc := 11) C 1 dX1_guestSize_11 rfl rfl ?_
    refine fw_iload_n (pc := 12) C 2 dX1_guestSize_12 rfl rfl ?_
    obtain ⟨q5, hq5, h⟩ := fw_bind h
    refine fw_callV1 (pc := 13) C (rest := []) (c_Asking_size13 ho hr0 hq5) (cwV 2 C.2.2.2.2.1 gX1_guestSize_X1_size13 rfl rfl rfl hd_Asking_size13 ⟨Nat.le_of_ble_eq_true rfl, Nat.le_of_ble_eq_true rfl⟩) ho.1 rfl rfl ⟨Nat.zero_le _, Nat.zero_le _⟩ rfl (Nat.le_of_ble_eq_true rfl) dX1_guestSize_13 ?_
    exact fw_iret (pc := 16) C (fw_p1 h) (fw_p2 h) dX1_guestSize_16
theorem c_Asking_guestSize {l : Launch} {D : va_G} {cI cZ cH cR : ClassId} {N : Nat} {ad : Nat → Nat} {EE : fw_M → Nat → va_E} {o : Nat} {r0 : Nat} {M : fw_M} {a1 : Int32} {z : (Int32 × fw_M)} (ho : o_Asking EE ad N cI cZ cH cR o) (hr0 : o_Hall EE ad N cI cZ cH cR r0) (h : P_Asking_guestSize o r0 M a1 = some z) : fw_Met l yX1_guestSize wsX1_guestSize rm_Asking_guestSize D vwCl (fw_tys cI cZ cH cR) N ad fw_nw0 EE [.ref (ad o), .ref (ad r0), .int a1] M (some (.int z.1)) z.2 := by
  unfold P_Asking_guestSize at h
  exact fw_intro (cc := cX1_guestSize) (maxL := 3) (ret := some .int) (own := RX1) (by decide) rfl rfl (Nat.le_of_ble_eq_true rfl) (fun p e s m args below meth c C => fw_sub [0, 1, 2] rfl (c_Asking_guestSize_b0 C ho hr0 h))
abbrev rm_Asking_sizeOf : Room := { frames := 5, cells := 0, slots := 0, locals := 109 }
theorem hd_Asking_sizeOf : yX1_sizeOf.cls = RX1 ∧ yX1_sizeOf.cls ≠ "java/lang/invoke/MethodHandle" ∧ yX1_sizeOf.cls ≠ "java/lang/invoke/VarHandle" ∧ (parseMethodDescriptor yX1_sizeOf.desc).map (fun d => d.parameters.length) = some 2 := by decide +kernel
theorem qX1_sizeOf_19 : fw_G wsX1_sizeOf RX1 19 RX3 TX3 9 4 := ⟨by decide +kernel, by decide +kernel, by decide⟩
def P_Asking_sizeOf_b0 (o : Nat) (r0 : Nat) (M : fw_M) (x2 : Int32) : Option (Int32 × fw_M) := (fw_ald M (r0 + 1) 7 x2).bind fun v1 => (if v1 = (1 : Int32) then (P_Asking_size11 o r0 M x2).bind fun q3 => some (q3.1, q3.2) else (if v1 = (2 : Int32) then (P_Asking_leave o M (12 : Int32)).bind fun q5 => (P_Asking_size11 o r0 q5 x2).bind fun q6 => some (((0 : Int32) - q6.1), q6.2) else (if v1 = (3 : Int32) then (P_Asking_size11 o r0 M x2).bind fun q8 => some (q8.1, q8.2) else (P_Asking_guestSize o r0 M x2).bind fun q9 => some (q9.1, q9.2))))
def P_Asking_sizeOf (o : Nat) (r0 : Nat) (M : fw_M) (a1 : Int32) : Option (Int32 × fw_M) := P_Asking_sizeOf_b0 o r0 M a1
set_option maxRecDepth 100000 in
theorem c_Asking_sizeOf_b0 {p : Program} {l : Launch} {e : Env} {s : State} {m : MethodId} {args : Array Value} {below : List Frame} {meth : Method} {c : Code} {D : va_G} {cI cZ cH cR : ClassId} {N : Nat} {ad : Nat → Nat} {EE : fw_M → Nat → va_E} {o : Nat} {r0 : Nat} {M : fw_M} {x2 : Int32} {z : (Int32 × fw_M)} (C : fw_C p s m args meth c cX1_sizeOf RX1 wsX1_sizeOf 3 (some .int) D vwCl (fw_tys cI cZ cH cR) N ad fw_nw0) (ho : o_Asking EE ad N cI cZ cH cR o) (hr0 : o_Hall EE ad N cI cZ cH cR r0) (h : P_Asking_sizeOf_b0 o r0 M x2 = some z) : fw_J p l e (headSpec wsX1_sizeOf rm_Asking_sizeOf).room s m args below meth c D vwCl N ad EE 3 0 0 (fw_E below args s D vwCl N ad EE (some (.int z.1)) z.2) M [(0, .ref (ad o)), (1, .ref (ad r0)), (2, .int x2)] 0 [] := by
  unfold P_Asking_sizeOf_b0 at h
  refine fw_aload_n (pc := 0) C 1 dX1_sizeOf_0 rfl rfl ?_
  refine fw_getr (pc := 1) C hr0.2.2.2.2.2.1.1 rfl qX1_sizeOf_19 dX1_sizeOf_1 ?_
  refine fw_iload_n (pc := 4) C 2 dX1_sizeOf_4 rfl rfl ?_
  obtain ⟨v1, hv1, h⟩ := fw_bind h
  refine fw_iald (pc := 5) C 0 hr0.2.2.2.2.2.1.2 rfl hv1 dX1_sizeOf_5 ?_
  rcases fw_cs h with ⟨c2, h⟩ | ⟨c2, h⟩
  · refine fw_tsin (pc := 6) C dX1_sizeOf_6 c2 (v := 1) (off := 26) (by decide) (tgt := 32) (by decide) ?_
    refine fw_aload_n (pc := 32) C 0 dX1_sizeOf_32 rfl rfl ?_
    refine fw_aload_n (pc := 33) C 1 dX1_sizeOf_33 rfl rfl ?_
    refine fw_iload_n (pc := 34) C 2 dX1_sizeOf_34 rfl rfl ?_
    obtain ⟨q3, hq3, h⟩ := fw_bind h
    refine fw_callV1 (pc := 35) C (rest := []) (c_Asking_size11 ho hr0 hq3) (cwV 2 C.2.2.2.2.1 gX1_sizeOf_X1_size11 rfl rfl rfl hd_Asking_size11 ⟨Nat.le_of_ble_eq_true rfl, Nat.le_of_ble_eq_true rfl⟩) ho.1 rfl rfl ⟨Nat.zero_le _, Nat.zero_le _⟩ rfl (Nat.le_of_ble_eq_true rfl) dX1_sizeOf_35 ?_
    exact fw_iret (pc := 38) C (fw_p1 h) (fw_p2 h) dX1_sizeOf_38
  · rcases fw_cs h with ⟨c4, h⟩ | ⟨c4, h⟩
    · refine fw_tsin (pc := 6) C dX1_sizeOf_6 c4 (v := 2) (off := 33) (by decide) (tgt := 39) (by decide) ?_
      refine fw_aload_n (pc := 39) C 0 dX1_sizeOf_39 rfl rfl ?_
      refine fw_bipush (pc := 40) C (v := 12) dX1_sizeOf_40 fk_bipush_12 ?_
      obtain ⟨q5, hq5, h⟩ := fw_bind h
      refine fw_callV0 (pc := 42) C (rest := []) (c_Asking_leave ho hq5) (cwV 1 C.2.2.2.2.1 gX1_sizeOf_X1_leave rfl rfl rfl hd_Asking_leave ⟨Nat.le_of_ble_eq_true rfl, Nat.le_of_ble_eq_true rfl⟩) ho.1 rfl rfl ⟨Nat.zero_le _, Nat.zero_le _⟩ rfl (Nat.le_of_ble_eq_true rfl) dX1_sizeOf_42 ?_
      refine fw_iconst (pc := 45) C (v := 0) dX1_sizeOf_45 fk_iconst_0 ?_
      refine fw_aload_n (pc := 46) C 0 dX1_sizeOf_46 rfl rfl ?_
      refine fw_aload_n (pc := 47) C 1 dX1_sizeOf_47 rfl rfl ?_
      refine fw_iload_n (pc := 48) C 2 dX1_sizeOf_48 rfl rfl ?_
      obtain ⟨q6, hq6, h⟩ := fw_bind h
      refine fw_callV1 (pc := 49) C (rest := [_]) (c_Asking_size11 ho hr0 hq6) (cwV 2 C.2.2.2.2.1 gX1_sizeOf_X1_size11 rfl rfl rfl hd_Asking_size11 ⟨Nat.le_of_ble_eq_true rfl, Nat.le_of_ble_eq_true rfl⟩) ho.1 rfl rfl ⟨Nat.zero_le _, Nat.zero_le _⟩ rfl (Nat.le_of_ble_eq_true rfl) dX1_sizeOf_49 ?_
      refine fw_isub (pc := 52) C dX1_sizeOf_52 ?_
      exact fw_iret (pc := 53) C (fw_p1 h) (fw_p2 h) dX1_sizeOf_53
    · rcases fw_cs h with ⟨c7, h⟩ | ⟨c7, h⟩
      · refine fw_tsin (pc := 6) C dX1_sizeOf_6 c7 (v := 3) (off := 26) (by decide) (tgt := 32) (by decide) ?_
        refine fw_aload_n (pc := 32) C 0 dX1_sizeOf_32 rfl rfl ?_
        refine fw_aload_n (pc := 33) C 1 dX1_sizeOf_33 rfl rfl ?_
        refine fw_iload_n (pc := 34) C 2 dX1_sizeOf_34 rfl rfl ?_
        obtain ⟨q8, hq8, h⟩ := fw_bind h
        refine fw_callV1 (pc := 35) C (rest := []) (c_Asking_size11 ho hr0 hq8) (cwV 2 C.2.2.2.2.1 gX1_sizeOf_X1_size11 rfl rfl rfl hd_Asking_size11 ⟨Nat.le_of_ble_eq_true rfl, Nat.le_of_ble_eq_true rfl⟩) ho.1 rfl rfl ⟨Nat.zero_le _, Nat.zero_le _⟩ rfl (Nat.le_of_ble_eq_true rfl) dX1_sizeOf_35 ?_
        exact fw_iret (pc := 38) C (fw_p1 h) (fw_p2 h) dX1_sizeOf_38
      · refine fw_tsout (pc := 6) C dX1_sizeOf_6 (fun z z1 z2 e => ?_) (tgt := 54) (by decide) ?_
        · subst e
          have ec2 := lv_neT c2 (a := 1) (by decide)
          have ec4 := lv_neT c4 (a := 2) (by decide)
          have ec7 := lv_neT c7 (a := 3) (by decide)
          omega
        · refine fw_aload_n (pc := 54) C 0 dX1_sizeOf_54 rfl rfl ?_
          refine fw_aload_n (pc := 55) C 1 dX1_sizeOf_55 rfl rfl ?_
          refine fw_iload_n (pc := 56) C 2 dX1_sizeOf_56 rfl rfl ?_
          obtain ⟨q9, hq9, h⟩ := fw_bind h
          refine fw_callV1 (pc := 57) C (rest := []) (c_Asking_guestSize ho hr0 hq9) (cwV 2 C.2.2.2.2.1 gX1_sizeOf_X1_guestSize rfl rfl rfl hd_Asking_guestSize ⟨Nat.le_of_ble_eq_true rfl, Nat.le_of_ble_eq_true rfl⟩) ho.1 rfl rfl ⟨Nat.zero_le _, Nat.zero_le _⟩ rfl (Nat.le_of_ble_eq_true rfl) dX1_sizeOf_57 ?_
          exact fw_iret (pc := 60) C (fw_p1 h) (fw_p2 h) dX1_sizeOf_60
theorem c_Asking_sizeOf {l : Launch} {D : va_G} {cI cZ cH cR : ClassId} {N : Nat} {ad : Nat → Nat} {EE : fw_M → Nat → va_E} {o : Nat} {r0 : Nat} {M : fw_M} {a1 : Int32} {z : (Int32 × fw_M)} (ho : o_Asking EE ad N cI cZ cH cR o) (hr0 : o_Hall EE ad N cI cZ cH cR r0) (h : P_Asking_sizeOf o r0 M a1 = some z) : fw_Met l yX1_sizeOf wsX1_sizeOf rm_Asking_sizeOf D vwCl (fw_tys cI cZ cH cR) N ad fw_nw0 EE [.ref (ad o), .ref (ad r0), .int a1] M (some (.int z.1)) z.2 := by
  unfold P_Asking_sizeOf at h
  exact fw_intro (cc := cX1_sizeOf) (maxL := 3) (ret := some .int) (own := RX1) (by decide) rfl rfl (Nat.le_of_ble_eq_true rfl) (fun p e s m args below meth c C => fw_sub [0, 1, 2] rfl (c_Asking_sizeOf_b0 C ho hr0 h))
abbrev rm_Asking_mark23 : Room := { frames := 4, cells := 0, slots := 0, locals := 87 }
theorem hd_Asking_mark23 : yX1_mark23.cls = RX1 ∧ yX1_mark23.cls ≠ "java/lang/invoke/MethodHandle" ∧ yX1_mark23.cls ≠ "java/lang/invoke/VarHandle" ∧ (parseMethodDescriptor yX1_mark23.desc).map (fun d => d.parameters.length) = some 2 := by decide +kernel
def P_Asking_mark23_b0 (o : Nat) (r0 : Nat) (M : fw_M) (x2 : Int32) : Option (Int32 × fw_M) := (P_Asking_leave o M (23 : Int32)).bind fun q1 => (P_Asking_mark20 o q1 x2).bind fun q2 => (P_Asking_guestSize o r0 q2.2 x2).bind fun q3 => some ((q2.1 - q3.1), q3.2)
def P_Asking_mark23 (o : Nat) (r0 : Nat) (M : fw_M) (a1 : Int32) : Option (Int32 × fw_M) := P_Asking_mark23_b0 o r0 M a1
set_option maxRecDepth 100000 in
theorem c_Asking_mark23_b0 {p : Program} {l : Launch} {e : Env} {s : State} {m : MethodId} {args : Array Value} {below : List Frame} {meth : Method} {c : Code} {D : va_G} {cI cZ cH cR : ClassId} {N : Nat} {ad : Nat → Nat} {EE : fw_M → Nat → va_E} {o : Nat} {r0 : Nat} {M : fw_M} {x2 : Int32} {z : (Int32 × fw_M)} (C : fw_C p s m args meth c cX1_mark23 RX1 wsX1_mark23 4 (some .int) D vwCl (fw_tys cI cZ cH cR) N ad fw_nw0) (ho : o_Asking EE ad N cI cZ cH cR o) (hr0 : o_Hall EE ad N cI cZ cH cR r0) (h : P_Asking_mark23_b0 o r0 M x2 = some z) : fw_J p l e (headSpec wsX1_mark23 rm_Asking_mark23).room s m args below meth c D vwCl N ad EE 4 0 0 (fw_E below args s D vwCl N ad EE (some (.int z.1)) z.2) M [(0, .ref (ad o)), (1, .ref (ad r0)), (2, .int x2)] 0 [] := by
  unfold P_Asking_mark23_b0 at h
  refine fw_aload_n (pc := 0) C 0 dX1_mark23_0 rfl rfl ?_
  refine fw_bipush (pc := 1) C (v := 23) dX1_mark23_1 fk_bipush_23 ?_
  obtain ⟨q1, hq1, h⟩ := fw_bind h
  refine fw_callV0 (pc := 3) C (rest := []) (c_Asking_leave ho hq1) (cwV 1 C.2.2.2.2.1 gX1_mark23_X1_leave rfl rfl rfl hd_Asking_leave ⟨Nat.le_of_ble_eq_true rfl, Nat.le_of_ble_eq_true rfl⟩) ho.1 rfl rfl ⟨Nat.zero_le _, Nat.zero_le _⟩ rfl (Nat.le_of_ble_eq_true rfl) dX1_mark23_3 ?_
  refine fw_aload_n (pc := 6) C 0 dX1_mark23_6 rfl rfl ?_
  refine fw_iload_n (pc := 7) C 2 dX1_mark23_7 rfl rfl ?_
  obtain ⟨q2, hq2, h⟩ := fw_bind h
  refine fw_callV1 (pc := 8) C (rest := []) (c_Asking_mark20 ho hq2) (cwV 1 C.2.2.2.2.1 gX1_mark23_X1_mark20 rfl rfl rfl hd_Asking_mark20 ⟨Nat.le_of_ble_eq_true rfl, Nat.le_of_ble_eq_true rfl⟩) ho.1 rfl rfl ⟨Nat.zero_le _, Nat.zero_le _⟩ rfl (Nat.le_of_ble_eq_true rfl) dX1_mark23_8 ?_
  refine fw_istore_n (pc := 11) C (L2 := [(0, .ref _), (1, .ref _), (2, .int _), (3, .int _)]) [1, 2, 3, 0] dX1_mark23_11 rfl (by decide) rfl ?_
  refine fw_iload_n (pc := 12) C 3 dX1_mark23_12 rfl rfl ?_
  refine fw_aload_n (pc := 13) C 0 dX1_mark23_13 rfl rfl ?_
  refine fw_aload_n (pc := 14) C 1 dX1_mark23_14 rfl rfl ?_
  refine fw_iload_n (pc := 15) C 2 dX1_mark23_15 rfl rfl ?_
  obtain ⟨q3, hq3, h⟩ := fw_bind h
  refine fw_callV1 (pc := 16) C (rest := [_]) (c_Asking_guestSize ho hr0 hq3) (cwV 2 C.2.2.2.2.1 gX1_mark23_X1_guestSize rfl rfl rfl hd_Asking_guestSize ⟨Nat.le_of_ble_eq_true rfl, Nat.le_of_ble_eq_true rfl⟩) ho.1 rfl rfl ⟨Nat.zero_le _, Nat.zero_le _⟩ rfl (Nat.le_of_ble_eq_true rfl) dX1_mark23_16 ?_
  refine fw_isub (pc := 19) C dX1_mark23_19 ?_
  exact fw_iret (pc := 20) C (fw_p1 h) (fw_p2 h) dX1_mark23_20
theorem c_Asking_mark23 {l : Launch} {D : va_G} {cI cZ cH cR : ClassId} {N : Nat} {ad : Nat → Nat} {EE : fw_M → Nat → va_E} {o : Nat} {r0 : Nat} {M : fw_M} {a1 : Int32} {z : (Int32 × fw_M)} (ho : o_Asking EE ad N cI cZ cH cR o) (hr0 : o_Hall EE ad N cI cZ cH cR r0) (h : P_Asking_mark23 o r0 M a1 = some z) : fw_Met l yX1_mark23 wsX1_mark23 rm_Asking_mark23 D vwCl (fw_tys cI cZ cH cR) N ad fw_nw0 EE [.ref (ad o), .ref (ad r0), .int a1] M (some (.int z.1)) z.2 := by
  unfold P_Asking_mark23 at h
  exact fw_intro (cc := cX1_mark23) (maxL := 4) (ret := some .int) (own := RX1) (by decide) rfl rfl (Nat.le_of_ble_eq_true rfl) (fun p e s m args below meth c C => fw_sub [0, 1, 2] rfl (c_Asking_mark23_b0 C ho hr0 h))
abbrev rm_Asking_markOf : Room := { frames := 5, cells := 0, slots := 0, locals := 110 }
theorem hd_Asking_markOf : yX1_markOf.cls = RX1 ∧ yX1_markOf.cls ≠ "java/lang/invoke/MethodHandle" ∧ yX1_markOf.cls ≠ "java/lang/invoke/VarHandle" ∧ (parseMethodDescriptor yX1_markOf.desc).map (fun d => d.parameters.length) = some 2 := by decide +kernel
theorem qX1_markOf_19 : fw_G wsX1_markOf RX1 19 RX3 TX3 9 4 := ⟨by decide +kernel, by decide +kernel, by decide⟩
def P_Asking_markOf_b28 (o : Nat) (r0 : Nat) (M : fw_M) (t0 : Int32) : Option (Int32 × fw_M) := some (t0, M)
def P_Asking_markOf_b0 (o : Nat) (r0 : Nat) (M : fw_M) (x2 : Int32) : Option (Int32 × fw_M) := (fw_ald M (r0 + 1) 7 x2).bind fun v1 => (P_Hall_isOneOf M v1 (1 : Int32)).bind fun v2 => (if v2 = (0 : Int32) then (P_Asking_mark23 o r0 M x2).bind fun q4 => P_Asking_markOf_b28 o r0 q4.2 q4.1 else (P_Asking_clerkMark o r0 M x2).bind fun q5 => P_Asking_markOf_b28 o r0 q5.2 q5.1)
def P_Asking_markOf (o : Nat) (r0 : Nat) (M : fw_M) (a1 : Int32) : Option (Int32 × fw_M) := P_Asking_markOf_b0 o r0 M a1
set_option maxRecDepth 100000 in
theorem c_Asking_markOf_b28 {p : Program} {l : Launch} {e : Env} {s : State} {m : MethodId} {args : Array Value} {below : List Frame} {meth : Method} {c : Code} {D : va_G} {cI cZ cH cR : ClassId} {N : Nat} {ad : Nat → Nat} {EE : fw_M → Nat → va_E} {o : Nat} {r0 : Nat} {M : fw_M} {t0 : Int32} {z : (Int32 × fw_M)} (C : fw_C p s m args meth c cX1_markOf RX1 wsX1_markOf 3 (some .int) D vwCl (fw_tys cI cZ cH cR) N ad fw_nw0) (ho : o_Asking EE ad N cI cZ cH cR o) (hr0 : o_Hall EE ad N cI cZ cH cR r0) (h : P_Asking_markOf_b28 o r0 M t0 = some z) : fw_J p l e (headSpec wsX1_markOf rm_Asking_markOf).room s m args below meth c D vwCl N ad EE 3 0 0 (fw_E below args s D vwCl N ad EE (some (.int z.1)) z.2) M [] 28 [.int t0] := by
  unfold P_Asking_markOf_b28 at h
  exact fw_iret (pc := 28) C (fw_p1 h) (fw_p2 h) dX1_markOf_28
set_option maxRecDepth 100000 in
theorem c_Asking_markOf_b0 {p : Program} {l : Launch} {e : Env} {s : State} {m : MethodId} {args : Array Value} {below : List Frame} {meth : Method} {c : Code} {D : va_G} {cI cZ cH cR : ClassId} {N : Nat} {ad : Nat → Nat} {EE : fw_M → Nat → va_E} {o : Nat} {r0 : Nat} {M : fw_M} {x2 : Int32} {z : (Int32 × fw_M)} (C : fw_C p s m args meth c cX1_markOf RX1 wsX1_markOf 3 (some .int) D vwCl (fw_tys cI cZ cH cR) N ad fw_nw0) (ho : o_Asking EE ad N cI cZ cH cR o) (hr0 : o_Hall EE ad N cI cZ cH cR r0) (h : P_Asking_markOf_b0 o r0 M x2 = some z) : fw_J p l e (headSpec wsX1_markOf rm_Asking_markOf).room s m args below meth c D vwCl N ad EE 3 0 0 (fw_E below args s D vwCl N ad EE (some (.int z.1)) z.2) M [(0, .ref (ad o)), (1, .ref (ad r0)), (2, .int x2)] 0 [] := by
  unfold P_Asking_markOf_b0 at h
  refine fw_aload_n (pc := 0) C 1 dX1_markOf_0 rfl rfl ?_
  refine fw_getr (pc := 1) C hr0.2.2.2.2.2.1.1 rfl qX1_markOf_19 dX1_markOf_1 ?_
  refine fw_iload_n (pc := 4) C 2 dX1_markOf_4 rfl rfl ?_
  obtain ⟨v1, hv1, h⟩ := fw_bind h
  refine fw_iald (pc := 5) C 0 hr0.2.2.2.2.2.1.2 rfl hv1 dX1_markOf_5 ?_
  refine fw_iconst (pc := 6) C (v := 1) dX1_markOf_6 fk_iconst_1 ?_
  obtain ⟨v2, hv2, h⟩ := fw_bind h
  refine fw_callS1 (pc := 7) C (rest := []) (c_Hall_isOneOf  hv2) (va_cwS 2 C.2.2.2.2.1 gX1_markOf_X3_isOneOf rfl rfl rfl hd_Hall_isOneOf.2 ⟨Nat.le_of_ble_eq_true rfl, Nat.le_of_ble_eq_true rfl⟩) rfl ⟨Nat.zero_le _, Nat.zero_le _⟩ rfl (Nat.le_of_ble_eq_true rfl) dX1_markOf_7 ?_
  refine fw_if_eq (pc := 10) C (tgt := 22) dX1_markOf_10 (by decide) (fun c3 => ?_) (fun c3 => ?_)
  · have h := fw_ift h c3
    refine fw_aload_n (pc := 22) C 0 dX1_markOf_22 rfl rfl ?_
    refine fw_aload_n (pc := 23) C 1 dX1_markOf_23 rfl rfl ?_
    refine fw_iload_n (pc := 24) C 2 dX1_markOf_24 rfl rfl ?_
    obtain ⟨q4, hq4, h⟩ := fw_bind h
    refine fw_callV1 (pc := 25) C (rest := []) (c_Asking_mark23 ho hr0 hq4) (cwV 2 C.2.2.2.2.1 gX1_markOf_X1_mark23 rfl rfl rfl hd_Asking_mark23 ⟨Nat.le_of_ble_eq_true rfl, Nat.le_of_ble_eq_true rfl⟩) ho.1 rfl rfl ⟨Nat.zero_le _, Nat.zero_le _⟩ rfl (Nat.le_of_ble_eq_true rfl) dX1_markOf_25 ?_
    exact fw_sub [] rfl (c_Asking_markOf_b28 C ho hr0 h)
  · have h := fw_iff h c3
    refine fw_aload_n (pc := 13) C 0 dX1_markOf_13 rfl rfl ?_
    refine fw_aload_n (pc := 14) C 1 dX1_markOf_14 rfl rfl ?_
    refine fw_iload_n (pc := 15) C 2 dX1_markOf_15 rfl rfl ?_
    obtain ⟨q5, hq5, h⟩ := fw_bind h
    refine fw_callV1 (pc := 16) C (rest := []) (c_Asking_clerkMark ho hr0 hq5) (cwV 2 C.2.2.2.2.1 gX1_markOf_X1_clerkMark rfl rfl rfl hd_Asking_clerkMark ⟨Nat.le_of_ble_eq_true rfl, Nat.le_of_ble_eq_true rfl⟩) ho.1 rfl rfl ⟨Nat.zero_le _, Nat.zero_le _⟩ rfl (Nat.le_of_ble_eq_true rfl) dX1_markOf_16 ?_
    refine fw_goto (pc := 19) C (tgt := 28) dX1_markOf_19 (by decide) ?_
    exact fw_sub [] rfl (c_Asking_markOf_b28 C ho hr0 h)
theorem c_Asking_markOf {l : Launch} {D : va_G} {cI cZ cH cR : ClassId} {N : Nat} {ad : Nat → Nat} {EE : fw_M → Nat → va_E} {o : Nat} {r0 : Nat} {M : fw_M} {a1 : Int32} {z : (Int32 × fw_M)} (ho : o_Asking EE ad N cI cZ cH cR o) (hr0 : o_Hall EE ad N cI cZ cH cR r0) (h : P_Asking_markOf o r0 M a1 = some z) : fw_Met l yX1_markOf wsX1_markOf rm_Asking_markOf D vwCl (fw_tys cI cZ cH cR) N ad fw_nw0 EE [.ref (ad o), .ref (ad r0), .int a1] M (some (.int z.1)) z.2 := by
  unfold P_Asking_markOf at h
  exact fw_intro (cc := cX1_markOf) (maxL := 3) (ret := some .int) (own := RX1) (by decide) rfl rfl (Nat.le_of_ble_eq_true rfl) (fun p e s m args below meth c C => fw_sub [0, 1, 2] rfl (c_Asking_markOf_b0 C ho hr0 h))
end
