noncomputable section
abbrev rm_Door_as : Room := { frames := 2, cells := 0, slots := 0, locals := 43 }
theorem hd_Door_as : yX8_as.cls = RX8 ∧ yX8_as.cls ≠ "java/lang/invoke/MethodHandle" ∧ yX8_as.cls ≠ "java/lang/invoke/VarHandle" ∧ (parseMethodDescriptor yX8_as.desc).map (fun d => d.parameters.length) = some 2 := by decide +kernel
theorem qX8_as_25 : fw_G wsX8_as RX8 25 RX8 TX8 9 2 := ⟨by decide +kernel, by decide +kernel, by decide⟩
theorem qX8_as_298 : fw_G wsX8_as RX8 298 RX3 TX3 9 4 := ⟨by decide +kernel, by decide +kernel, by decide⟩
theorem kX8_as_70 : Cond.constant RX8 70 (-1000001) ∈ wsX8_as := by decide +kernel
def P_Door_as_b17 (o : Nat) (M : fw_M) : Option (Int32 × fw_M) := some ((-1000001 : Int32), M)
def P_Door_as_b49 (o : Nat) (M : fw_M) (t0 : Int32) : Option (Int32 × fw_M) := some (t0, M)
def P_Door_as_b0 (o : Nat) (M : fw_M) (x1 : Int32) (x2 : Int32) : Option (Int32 × fw_M) := (P_Door_isPerson o M x1).bind fun v1 => (if v1 = (0 : Int32) then P_Door_as_b17 o M else (P_Door_within M x2 (0 : Int32) (5 : Int32)).bind fun v3 => (if v3 = (0 : Int32) then P_Door_as_b17 o M else (fw_ald M ((o + 4) + 1) 7 x1).bind fun v5 => (P_Hall_isOneOf M v5 x2).bind fun v6 => (if v6 = (0 : Int32) then (P_Door_found o M (3 : Int32)).bind fun q8 => P_Door_as_b49 o q8.2 q8.1 else (P_Door_fine o M x1).bind fun q9 => P_Door_as_b49 o q9.2 q9.1)))
def P_Door_as (o : Nat) (M : fw_M) (a0 : Int32) (a1 : Int32) : Option (Int32 × fw_M) := P_Door_as_b0 o M a0 a1
set_option maxRecDepth 100000 in
theorem c_Door_as_b17 {p : Program} {l : Launch} {e : Env} {s : State} {m : MethodId} {args : Array Value} {below : List Frame} {meth : Method} {c : Code} {D : va_G} {cI cZ cH cR : ClassId} {N : Nat} {ad : Nat → Nat} {EE : fw_M → Nat → va_E} {o : Nat} {M : fw_M} {z : (Int32 × fw_M)} (C : fw_C p s m args meth c cX8_as RX8 wsX8_as 3 (some .int) D vwCl (fw_tys cI cZ cH cR) N ad fw_nw0) (ho : o_Door EE ad N cI cZ cH cR o) (h : P_Door_as_b17 o M = some z) : fw_J p l e (headSpec wsX8_as rm_Door_as).room s m args below meth c D vwCl N ad EE 3 0 0 (fw_E below args s D vwCl N ad EE (some (.int z.1)) z.2) M [] 17 [] := by
  unfold P_Door_as_b17 at h
  refine fw_ldc (pc := 17) C (v := -1000001) kX8_as_70 dX8_as_17 ?_
  exact fw_iret (pc := 19) C (fw_p1 h) (fw_p2 h) dX8_as_19
set_option maxRecDepth 100000 in
theorem c_Door_as_b49 {p : Program} {l : Launch} {e : Env} {s : State} {m : MethodId} {args : Array Value} {below : List Frame} {meth : Method} {c : Code} {D : va_G} {cI cZ cH cR : ClassId} {N : Nat} {ad : Nat → Nat} {EE : fw_M → Nat → va_E} {o : Nat} {M : fw_M} {t0 : Int32} {z : (Int32 × fw_M)} (C : fw_C p s m args meth c cX8_as RX8 wsX8_as 3 (some .int) D vwCl (fw_tys cI cZ cH cR) N ad fw_nw0) (ho : o_Door EE ad N cI cZ cH cR o) (h : P_Door_as_b49 o M t0 = some z) : fw_J p l e (headSpec wsX8_as rm_Door_as).room s m args below meth c D vwCl N ad EE 3 0 0 (fw_E below args s D vwCl N ad EE (some (.int z.1)) z.2) M [] 49 [.int t0] := by
  unfold P_Door_as_b49 at h
  exact fw_iret (pc := 49) C (fw_p1 h) (fw_p2 h) dX8_as_49
set_option maxRecDepth 100000 in
theorem c_Door_as_b0 {p : Program} {l : Launch} {e : Env} {s : State} {m : MethodId} {args : Array Value} {below : List Frame} {meth : Method} {c : Code} {D : va_G} {cI cZ cH cR : ClassId} {N : Nat} {ad : Nat → Nat} {EE : fw_M → Nat → va_E} {o : Nat} {M : fw_M} {x1 : Int32} {x2 : Int32} {z : (Int32 × fw_M)} (C : fw_C p s m args meth c cX8_as RX8 wsX8_as 3 (some .int) D vwCl (fw_tys cI cZ cH cR) N ad fw_nw0) (ho : o_Door EE ad N cI cZ cH cR o) (h : P_Door_as_b0 o M x1 x2 = some z) : fw_J p l e (headSpec wsX8_as rm_Door_as).room s m args below meth c D vwCl N ad EE 3 0 0 (fw_E below args s D vwCl N ad EE (some (.int z.1)) z.2) M [(0, .ref (ad o)), (1, .int x1), (2, .int x2)] 0 [] := by
  unfold P_Door_as_b0 at h
  refine fw_aload_n (pc := 0) C 0 dX8_as_0 rfl rfl ?_
  refine fw_iload_n (pc := 1) C 1 dX8_as_1 rfl rfl ?_
  obtain ⟨v1, hv1, h⟩ := fw_bind h
  refine fw_callV1 (pc := 2) C (rest := []) (c_Door_isPerson ho hv1) (cwV 1 C.2.2.2.2.1 gX8_as_X8_isPerson rfl rfl rfl hd_Door_isPerson ⟨Nat.le_of_ble_eq_true rfl, Nat.le_of_ble_eq_true rfl⟩) ho.1 rfl rfl ⟨Nat.zero_le _, Nat.zero_le _⟩ rfl (Nat.le_of_ble_eq_true rfl) dX8_as_2 ?_
  refine fw_if_eq (pc := 5) C (tgt := 17) dX8_as_5 (by decide) (fun c2 => ?_) (fun c2 => ?_)
  · have h := fw_ift h c2
    exact fw_sub [] rfl (c_Door_as_b17 C ho h)
  · have h := fw_iff h c2
    refine fw_iload_n (pc := 8) C 2 dX8_as_8 rfl rfl ?_
    refine fw_iconst (pc := 9) C (v := 0) dX8_as_9 fk_iconst_0 ?_
    refine fw_iconst (pc := 10) C (v := 5) dX8_as_10 fk_iconst_5 ?_
    obtain ⟨v3, hv3, h⟩ := fw_bind h
    refine fw_callS1 (pc := 11) C (rest := []) (c_Door_within  hv3) (va_cwS 3 C.2.2.2.2.1 gX8_as_X8_within rfl rfl rfl hd_Door_within.2 ⟨Nat.le_of_ble_eq_true rfl, Nat.le_of_ble_eq_true rfl⟩) rfl ⟨Nat.zero_le _, Nat.zero_le _⟩ rfl (Nat.le_of_ble_eq_true rfl) dX8_as_11 ?_
    refine fw_if_ne (pc := 14) C (tgt := 20) dX8_as_14 (by decide) (fun c4 => ?_) (fun c4 => ?_)
    · have h := fw_iff h c4
      refine fw_aload_n (pc := 20) C 0 dX8_as_20 rfl rfl ?_
      refine fw_getr (pc := 21) C ho.2.2.2.1.1 rfl qX8_as_25 dX8_as_21 ?_
      refine fw_getr (pc := 24) C ho.2.2.2.1.2.2.2.2.2.2.1.1 rfl qX8_as_298 dX8_as_24 ?_
      refine fw_iload_n (pc := 27) C 1 dX8_as_27 rfl rfl ?_
      obtain ⟨v5, hv5, h⟩ := fw_bind h
      refine fw_iald (pc := 28) C 0 ho.2.2.2.1.2.2.2.2.2.2.1.2 rfl hv5 dX8_as_28 ?_
      refine fw_iload_n (pc := 29) C 2 dX8_as_29 rfl rfl ?_
      obtain ⟨v6, hv6, h⟩ := fw_bind h
      refine fw_callS1 (pc := 30) C (rest := []) (c_Hall_isOneOf  hv6) (va_cwS 2 C.2.2.2.2.1 gX8_as_X3_isOneOf rfl rfl rfl hd_Hall_isOneOf.2 ⟨Nat.le_of_ble_eq_true rfl, Nat.le_of_ble_eq_true rfl⟩) rfl ⟨Nat.zero_le _, Nat.zero_le _⟩ rfl (Nat.le_of_ble_eq_true rfl) dX8_as_30 ?_
      refine fw_if_eq (pc := 33) C (tgt := 44) dX8_as_33 (by decide) (fun c7 => ?_) (fun c7 => ?_)
      · have h := fw_ift h c7
        refine fw_aload_n (pc := 44) C 0 dX8_as_44 rfl rfl ?_
        refine fw_iconst (pc := 45) C (v := 3) dX8_as_45 fk_iconst_3 ?_
        obtain ⟨q8, hq8, h⟩ := fw_bind h
        refine fw_callV1 (pc := 46) C (rest := []) (c_Door_found ho hq8) (cwV 1 C.2.2.2.2.1 gX8_as_X8_found rfl rfl rfl hd_Door_found ⟨Nat.le_of_ble_eq_true rfl, Nat.le_of_ble_eq_true rfl⟩) ho.1 rfl rfl ⟨Nat.zero_le _, Nat.zero_le _⟩ rfl (Nat.le_of_ble_eq_true rfl) dX8_as_46 ?_
        exact fw_sub [] rfl (c_Door_as_b49 C ho h)
      · have h := fw_iff h c7
        refine fw_aload_n (pc := 36) C 0 dX8_as_36 rfl rfl ?_
        refine fw_iload_n (pc := 37) C 1 dX8_as_37 rfl rfl ?_
        obtain ⟨q9, hq9, h⟩ := fw_bind h
        refine fw_callV1 (pc := 38) C (rest := []) (c_Door_fine ho hq9) (cwV 1 C.2.2.2.2.1 gX8_as_X8_fine rfl rfl rfl hd_Door_fine ⟨Nat.le_of_ble_eq_true rfl, Nat.le_of_ble_eq_true rfl⟩) ho.1 rfl rfl ⟨Nat.zero_le _, Nat.zero_le _⟩ rfl (Nat.le_of_ble_eq_true rfl) dX8_as_38 ?_
        refine fw_goto (pc := 41) C (tgt := 49) dX8_as_41 (by decide) ?_
        exact fw_sub [] rfl (c_Door_as_b49 C ho h)
    · have h := fw_ift h c4
      exact fw_sub [] rfl (c_Door_as_b17 C ho h)
theorem c_Door_as {l : Launch} {D : va_G} {cI cZ cH cR : ClassId} {N : Nat} {ad : Nat → Nat} {EE : fw_M → Nat → va_E} {o : Nat} {M : fw_M} {a0 : Int32} {a1 : Int32} {z : (Int32 × fw_M)} (ho : o_Door EE ad N cI cZ cH cR o) (h : P_Door_as o M a0 a1 = some z) : fw_Met l yX8_as wsX8_as rm_Door_as D vwCl (fw_tys cI cZ cH cR) N ad fw_nw0 EE [.ref (ad o), .int a0, .int a1] M (some (.int z.1)) z.2 := by
  unfold P_Door_as at h
  exact fw_intro (cc := cX8_as) (maxL := 3) (ret := some .int) (own := RX8) (by decide) rfl rfl (Nat.le_of_ble_eq_true rfl) (fun p e s m args below meth c C => fw_sub [0, 1, 2] rfl (c_Door_as_b0 C ho h))
abbrev rm_Door_ask : Room := { frames := 6, cells := 0, slots := 0, locals := 132 }
theorem hd_Door_ask : yX8_ask.cls = RX8 ∧ yX8_ask.cls ≠ "java/lang/invoke/MethodHandle" ∧ yX8_ask.cls ≠ "java/lang/invoke/VarHandle" ∧ (parseMethodDescriptor yX8_ask.desc).map (fun d => d.parameters.length) = some 2 := by decide +kernel
theorem qX8_ask_50 : fw_G wsX8_ask RX8 50 RX8 TX8 9 6 := ⟨by decide +kernel, by decide +kernel, by decide⟩
theorem qX8_ask_25 : fw_G wsX8_ask RX8 25 RX8 TX8 9 2 := ⟨by decide +kernel, by decide +kernel, by decide⟩
theorem kX8_ask_70 : Cond.constant RX8 70 (-1000001) ∈ wsX8_ask := by decide +kernel
def P_Door_ask_b17 (o : Nat) (M : fw_M) : Option (Int32 × fw_M) := some ((-1000001 : Int32), M)
def P_Door_ask_b58 (o : Nat) (M : fw_M) (t0 : Int32) : Option (Int32 × fw_M) := some (t0, M)
def P_Door_ask_b0 (o : Nat) (M : fw_M) (x1 : Int32) (x2 : Int32) : Option (Int32 × fw_M) := (P_Door_isPerson o M x1).bind fun v1 => (if v1 = (0 : Int32) then P_Door_ask_b17 o M else (P_Door_within M x2 (0 : Int32) (1 : Int32)).bind fun v3 => (if v3 = (0 : Int32) then P_Door_ask_b17 o M else (P_Asking_begin (o + 169) M).bind fun q5 => (if x2 = (0 : Int32) then (P_Asking_sizeOf (o + 169) (o + 4) q5 x1).bind fun q8 => P_Door_ask_b58 o q8.2 q8.1 else (P_Asking_markOf (o + 169) (o + 4) q5 x1).bind fun q7 => P_Door_ask_b58 o q7.2 q7.1)))
def P_Door_ask (o : Nat) (M : fw_M) (a0 : Int32) (a1 : Int32) : Option (Int32 × fw_M) := P_Door_ask_b0 o M a0 a1
set_option maxRecDepth 100000 in
theorem c_Door_ask_b17 {p : Program} {l : Launch} {e : Env} {s : State} {m : MethodId} {args : Array Value} {below : List Frame} {meth : Method} {c : Code} {D : va_G} {cI cZ cH cR : ClassId} {N : Nat} {ad : Nat → Nat} {EE : fw_M → Nat → va_E} {o : Nat} {M : fw_M} {z : (Int32 × fw_M)} (C : fw_C p s m args meth c cX8_ask RX8 wsX8_ask 3 (some .int) D vwCl (fw_tys cI cZ cH cR) N ad fw_nw0) (ho : o_Door EE ad N cI cZ cH cR o) (h : P_Door_ask_b17 o M = some z) : fw_J p l e (headSpec wsX8_ask rm_Door_ask).room s m args below meth c D vwCl N ad EE 3 0 0 (fw_E below args s D vwCl N ad EE (some (.int z.1)) z.2) M [] 17 [] := by
  unfold P_Door_ask_b17 at h
  refine fw_ldc (pc := 17) C (v := -1000001) kX8_ask_70 dX8_ask_17 ?_
  exact fw_iret (pc := 19) C (fw_p1 h) (fw_p2 h) dX8_ask_19
set_option maxRecDepth 100000 in
theorem c_Door_ask_b58 {p : Program} {l : Launch} {e : Env} {s : State} {m : MethodId} {args : Array Value} {below : List Frame} {meth : Method} {c : Code} {D : va_G} {cI cZ cH cR : ClassId} {N : Nat} {ad : Nat → Nat} {EE : fw_M → Nat → va_E} {o : Nat} {M : fw_M} {t0 : Int32} {z : (Int32 × fw_M)} (C : fw_C p s m args meth c cX8_ask RX8 wsX8_ask 3 (some .int) D vwCl (fw_tys cI cZ cH cR) N ad fw_nw0) (ho : o_Door EE ad N cI cZ cH cR o) (h : P_Door_ask_b58 o M t0 = some z) : fw_J p l e (headSpec wsX8_ask rm_Door_ask).room s m args below meth c D vwCl N ad EE 3 0 0 (fw_E below args s D vwCl N ad EE (some (.int z.1)) z.2) M [] 58 [.int t0] := by
  unfold P_Door_ask_b58 at h
  exact fw_iret (pc := 58) C (fw_p1 h) (fw_p2 h) dX8_ask_58
set_option maxRecDepth 100000 in
theorem c_Door_ask_b0 {p : Program} {l : Launch} {e : Env} {s : State} {m : MethodId} {args : Array Value} {below : List Frame} {meth : Method} {c : Code} {D : va_G} {cI cZ cH cR : ClassId} {N : Nat} {ad : Nat → Nat} {EE : fw_M → Nat → va_E} {o : Nat} {M : fw_M} {x1 : Int32} {x2 : Int32} {z : (Int32 × fw_M)} (C : fw_C p s m args meth c cX8_ask RX8 wsX8_ask 3 (some .int) D vwCl (fw_tys cI cZ cH cR) N ad fw_nw0) (ho : o_Door EE ad N cI cZ cH cR o) (h : P_Door_ask_b0 o M x1 x2 = some z) : fw_J p l e (headSpec wsX8_ask rm_Door_ask).room s m args below meth c D vwCl N ad EE 3 0 0 (fw_E below args s D vwCl N ad EE (some (.int z.1)) z.2) M [(0, .ref (ad o)), (1, .int x1), (2, .int x2)] 0 [] := by
  unfold P_Door_ask_b0 at h
  refine fw_aload_n (pc := 0) C 0 dX8_ask_0 rfl rfl ?_
  refine fw_iload_n (pc := 1) C 1 dX8_ask_1 rfl rfl ?_
  obtain ⟨v1, hv1, h⟩ := fw_bind h
  refine fw_callV1 (pc := 2) C (rest := []) (c_Door_isPerson ho hv1) (cwV 1 C.2.2.2.2.1 gX8_ask_X8_isPerson rfl rfl rfl hd_Door_isPerson ⟨Nat.le_of_ble_eq_true rfl, Nat.le_of_ble_eq_true rfl⟩) ho.1 rfl rfl ⟨Nat.zero_le _, Nat.zero_le _⟩ rfl (Nat.le_of_ble_eq_true rfl) dX8_ask_2 ?_
  refine fw_if_eq (pc := 5) C (tgt := 17) dX8_ask_5 (by decide) (fun c2 => ?_) (fun c2 => ?_)
  · have h := fw_ift h c2
    exact fw_sub [] rfl (c_Door_ask_b17 C ho h)
  · have h := fw_iff h c2
    refine fw_iload_n (pc := 8) C 2 dX8_ask_8 rfl rfl ?_
    refine fw_iconst (pc := 9) C (v := 0) dX8_ask_9 fk_iconst_0 ?_
    refine fw_iconst (pc := 10) C (v := 1) dX8_ask_10 fk_iconst_1 ?_
    obtain ⟨v3, hv3, h⟩ := fw_bind h
    refine fw_callS1 (pc := 11) C (rest := []) (c_Door_within  hv3) (va_cwS 3 C.2.2.2.2.1 gX8_ask_X8_within rfl rfl rfl hd_Door_within.2 ⟨Nat.le_of_ble_eq_true rfl, Nat.le_of_ble_eq_true rfl⟩) rfl ⟨Nat.zero_le _, Nat.zero_le _⟩ rfl (Nat.le_of_ble_eq_true rfl) dX8_ask_11 ?_
    refine fw_if_ne (pc := 14) C (tgt := 20) dX8_ask_14 (by decide) (fun c4 => ?_) (fun c4 => ?_)
    · have h := fw_iff h c4
      refine fw_aload_n (pc := 20) C 0 dX8_ask_20 rfl rfl ?_
      refine fw_getr (pc := 21) C ho.2.2.2.2.2.2.2.1.1 rfl qX8_ask_50 dX8_ask_21 ?_
      obtain ⟨q5, hq5, h⟩ := fw_bind h
      refine fw_callV0 (pc := 24) C (rest := []) (c_Asking_begin ho.2.2.2.2.2.2.2.1.2 hq5) (cwV 0 C.2.2.2.2.1 gX8_ask_X1_begin rfl rfl rfl hd_Asking_begin ⟨Nat.le_of_ble_eq_true rfl, Nat.le_of_ble_eq_true rfl⟩) ho.2.2.2.2.2.2.2.1.2.1 rfl rfl ⟨Nat.zero_le _, Nat.zero_le _⟩ rfl (Nat.le_of_ble_eq_true rfl) dX8_ask_24 ?_
      refine fw_iload_n (pc := 27) C 2 dX8_ask_27 rfl rfl ?_
      refine fw_if_ne (pc := 28) C (tgt := 46) dX8_ask_28 (by decide) (fun c6 => ?_) (fun c6 => ?_)
      · have h := fw_iff h c6
        refine fw_aload_n (pc := 46) C 0 dX8_ask_46 rfl rfl ?_
        refine fw_getr (pc := 47) C ho.2.2.2.2.2.2.2.1.1 rfl qX8_ask_50 dX8_ask_47 ?_
        refine fw_aload_n (pc := 50) C 0 dX8_ask_50 rfl rfl ?_
        refine fw_getr (pc := 51) C ho.2.2.2.1.1 rfl qX8_ask_25 dX8_ask_51 ?_
        refine fw_iload_n (pc := 54) C 1 dX8_ask_54 rfl rfl ?_
        obtain ⟨q7, hq7, h⟩ := fw_bind h
        refine fw_callV1 (pc := 55) C (rest := []) (c_Asking_markOf ho.2.2.2.2.2.2.2.1.2 ho.2.2.2.1.2 hq7) (cwV 2 C.2.2.2.2.1 gX8_ask_X1_markOf rfl rfl rfl hd_Asking_markOf ⟨Nat.le_of_ble_eq_true rfl, Nat.le_of_ble_eq_true rfl⟩) ho.2.2.2.2.2.2.2.1.2.1 rfl rfl ⟨Nat.zero_le _, Nat.zero_le _⟩ rfl (Nat.le_of_ble_eq_true rfl) dX8_ask_55 ?_
        exact fw_sub [] rfl (c_Door_ask_b58 C ho h)
      · have h := fw_ift h c6
        refine fw_aload_n (pc := 31) C 0 dX8_ask_31 rfl rfl ?_
        refine fw_getr (pc := 32) C ho.2.2.2.2.2.2.2.1.1 rfl qX8_ask_50 dX8_ask_32 ?_
        refine fw_aload_n (pc := 35) C 0 dX8_ask_35 rfl rfl ?_
        refine fw_getr (pc := 36) C ho.2.2.2.1.1 rfl qX8_ask_25 dX8_ask_36 ?_
        refine fw_iload_n (pc := 39) C 1 dX8_ask_39 rfl rfl ?_
        obtain ⟨q8, hq8, h⟩ := fw_bind h
        refine fw_callV1 (pc := 40) C (rest := []) (c_Asking_sizeOf ho.2.2.2.2.2.2.2.1.2 ho.2.2.2.1.2 hq8) (cwV 2 C.2.2.2.2.1 gX8_ask_X1_sizeOf rfl rfl rfl hd_Asking_sizeOf ⟨Nat.le_of_ble_eq_true rfl, Nat.le_of_ble_eq_true rfl⟩) ho.2.2.2.2.2.2.2.1.2.1 rfl rfl ⟨Nat.zero_le _, Nat.zero_le _⟩ rfl (Nat.le_of_ble_eq_true rfl) dX8_ask_40 ?_
        refine fw_goto (pc := 43) C (tgt := 58) dX8_ask_43 (by decide) ?_
        exact fw_sub [] rfl (c_Door_ask_b58 C ho h)
    · have h := fw_ift h c4
      exact fw_sub [] rfl (c_Door_ask_b17 C ho h)
theorem c_Door_ask {l : Launch} {D : va_G} {cI cZ cH cR : ClassId} {N : Nat} {ad : Nat → Nat} {EE : fw_M → Nat → va_E} {o : Nat} {M : fw_M} {a0 : Int32} {a1 : Int32} {z : (Int32 × fw_M)} (ho : o_Door EE ad N cI cZ cH cR o) (h : P_Door_ask o M a0 a1 = some z) : fw_Met l yX8_ask wsX8_ask rm_Door_ask D vwCl (fw_tys cI cZ cH cR) N ad fw_nw0 EE [.ref (ad o), .int a0, .int a1] M (some (.int z.1)) z.2 := by
  unfold P_Door_ask at h
  exact fw_intro (cc := cX8_ask) (maxL := 3) (ret := some .int) (own := RX8) (by decide) rfl rfl (Nat.le_of_ble_eq_true rfl) (fun p e s m args below meth c C => fw_sub [0, 1, 2] rfl (c_Door_ask_b0 C ho h))
abbrev rm_Door_trace : Room := { frames := 1, cells := 0, slots := 0, locals := 22 }
theorem hd_Door_trace : yX8_trace.cls = RX8 ∧ yX8_trace.cls ≠ "java/lang/invoke/MethodHandle" ∧ yX8_trace.cls ≠ "java/lang/invoke/VarHandle" ∧ (parseMethodDescriptor yX8_trace.desc).map (fun d => d.parameters.length) = some 1 := by decide +kernel
theorem qX8_trace_50 : fw_G wsX8_trace RX8 50 RX8 TX8 9 6 := ⟨by decide +kernel, by decide +kernel, by decide⟩
theorem qX8_trace_313 : fw_G wsX8_trace RX8 313 RX1 TX1 2 1 := ⟨by decide +kernel, by decide +kernel, by decide⟩
theorem qX8_trace_314 : fw_G wsX8_trace RX8 314 RX1 TX1 2 0 := ⟨by decide +kernel, by decide +kernel, by decide⟩
theorem kX8_trace_317 : Cond.constant RX8 317 (-1000000) ∈ wsX8_trace := by decide +kernel
def P_Door_trace_b32 (o : Nat) (M : fw_M) (t0 : Int32) : Option Int32 := some t0
def P_Door_trace_b0 (o : Nat) (M : fw_M) (x1 : Int32) : Option Int32 := (P_Door_within M x1 (0 : Int32) ((M (o + 169) 1) - (1 : Int32))).bind fun v1 => (if v1 = (0 : Int32) then P_Door_trace_b32 o M (-1000000 : Int32) else (fw_ald M ((o + 169) + 1) 16 x1).bind fun v3 => P_Door_trace_b32 o M v3)
def P_Door_trace (o : Nat) (M : fw_M) (a0 : Int32) : Option Int32 := P_Door_trace_b0 o M a0
set_option maxRecDepth 100000 in
theorem c_Door_trace_b32 {p : Program} {l : Launch} {e : Env} {s : State} {m : MethodId} {args : Array Value} {below : List Frame} {meth : Method} {c : Code} {D : va_G} {cI cZ cH cR : ClassId} {N : Nat} {ad : Nat → Nat} {EE : fw_M → Nat → va_E} {o : Nat} {M : fw_M} {t0 : Int32} {z : Int32} (C : fw_C p s m args meth c cX8_trace RX8 wsX8_trace 2 (some .int) D vwCl (fw_tys cI cZ cH cR) N ad fw_nw0) (ho : o_Door EE ad N cI cZ cH cR o) (h : P_Door_trace_b32 o M t0 = some z) : fw_J p l e (headSpec wsX8_trace rm_Door_trace).room s m args below meth c D vwCl N ad EE 2 0 0 (fw_E below args s D vwCl N ad EE (some (.int z)) M) M [] 32 [.int t0] := by
  unfold P_Door_trace_b32 at h
  exact fw_iret (pc := 32) C (Option.some.inj h) rfl dX8_trace_32
set_option maxRecDepth 100000 in
theorem c_Door_trace_b0 {p : Program} {l : Launch} {e : Env} {s : State} {m : MethodId} {args : Array Value} {below : List Frame} {meth : Method} {c : Code} {D : va_G} {cI cZ cH cR : ClassId} {N : Nat} {ad : Nat → Nat} {EE : fw_M → Nat → va_E} {o : Nat} {M : fw_M} {x1 : Int32} {z : Int32} (C : fw_C p s m args meth c cX8_trace RX8 wsX8_trace 2 (some .int) D vwCl (fw_tys cI cZ cH cR) N ad fw_nw0) (ho : o_Door EE ad N cI cZ cH cR o) (h : P_Door_trace_b0 o M x1 = some z) : fw_J p l e (headSpec wsX8_trace rm_Door_trace).room s m args below meth c D vwCl N ad EE 2 0 0 (fw_E below args s D vwCl N ad EE (some (.int z)) M) M [(0, .ref (ad o)), (1, .int x1)] 0 [] := by
  unfold P_Door_trace_b0 at h
  refine fw_iload_n (pc := 0) C 1 dX8_trace_0 rfl rfl ?_
  refine fw_iconst (pc := 1) C (v := 0) dX8_trace_1 fk_iconst_0 ?_
  refine fw_aload_n (pc := 2) C 0 dX8_trace_2 rfl rfl ?_
  refine fw_getr (pc := 3) C ho.2.2.2.2.2.2.2.1.1 rfl qX8_trace_50 dX8_trace_3 ?_
  refine fw_geti (pc := 6) C ho.2.2.2.2.2.2.2.1.2.2.2 rfl qX8_trace_313 dX8_trace_6 ?_
  refine fw_iconst (pc := 9) C (v := 1) dX8_trace_9 fk_iconst_1 ?_
  refine fw_isub (pc := 10) C dX8_trace_10 ?_
  obtain ⟨v1, hv1, h⟩ := fw_bind h
  refine fw_callS1 (pc := 11) C (rest := []) (c_Door_within  hv1) (va_cwS 3 C.2.2.2.2.1 gX8_trace_X8_within rfl rfl rfl hd_Door_within.2 ⟨Nat.le_of_ble_eq_true rfl, Nat.le_of_ble_eq_true rfl⟩) rfl ⟨Nat.zero_le _, Nat.zero_le _⟩ rfl (Nat.le_of_ble_eq_true rfl) dX8_trace_11 ?_
  refine fw_if_eq (pc := 14) C (tgt := 29) dX8_trace_14 (by decide) (fun c2 => ?_) (fun c2 => ?_)
  · have h := fw_ift h c2
    refine fw_ldcw (pc := 29) C (v := -1000000) kX8_trace_317 dX8_trace_29 ?_
    exact fw_sub [] rfl (c_Door_trace_b32 C ho h)
  · have h := fw_iff h c2
    refine fw_aload_n (pc := 17) C 0 dX8_trace_17 rfl rfl ?_
    refine fw_getr (pc := 18) C ho.2.2.2.2.2.2.2.1.1 rfl qX8_trace_50 dX8_trace_18 ?_
    refine fw_getr (pc := 21) C ho.2.2.2.2.2.2.2.1.2.2.1.1 rfl qX8_trace_314 dX8_trace_21 ?_
    refine fw_iload_n (pc := 24) C 1 dX8_trace_24 rfl rfl ?_
    obtain ⟨v3, hv3, h⟩ := fw_bind h
    refine fw_iald (pc := 25) C 0 ho.2.2.2.2.2.2.2.1.2.2.1.2 rfl hv3 dX8_trace_25 ?_
    refine fw_goto (pc := 26) C (tgt := 32) dX8_trace_26 (by decide) ?_
    exact fw_sub [] rfl (c_Door_trace_b32 C ho h)
theorem c_Door_trace {l : Launch} {D : va_G} {cI cZ cH cR : ClassId} {N : Nat} {ad : Nat → Nat} {EE : fw_M → Nat → va_E} {o : Nat} {M : fw_M} {a0 : Int32} {z : Int32} (ho : o_Door EE ad N cI cZ cH cR o) (h : P_Door_trace o M a0 = some z) : fw_Met l yX8_trace wsX8_trace rm_Door_trace D vwCl (fw_tys cI cZ cH cR) N ad fw_nw0 EE [.ref (ad o), .int a0] M (some (.int z)) M := by
  unfold P_Door_trace at h
  exact fw_intro (cc := cX8_trace) (maxL := 2) (ret := some .int) (own := RX8) (by decide) rfl rfl (Nat.le_of_ble_eq_true rfl) (fun p e s m args below meth c C => fw_sub [0, 1] rfl (c_Door_trace_b0 C ho h))
abbrev rm_Door_rowsThere : Room := { frames := 1, cells := 0, slots := 0, locals := 20 }
theorem hd_Door_rowsThere : yX8_rowsThere.cls = RX8 ∧ yX8_rowsThere.cls ≠ "java/lang/invoke/MethodHandle" ∧ yX8_rowsThere.cls ≠ "java/lang/invoke/VarHandle" ∧ (parseMethodDescriptor yX8_rowsThere.desc).map (fun d => d.parameters.length) = some 0 := by decide +kernel
theorem qX8_rowsThere_11 : fw_G wsX8_rowsThere RX8 11 RX8 TX8 9 0 := ⟨by decide +kernel, by decide +kernel, by decide⟩
def P_Door_rowsThere_b25 (o : Nat) (M : fw_M) (K4 : Int32 → Int32 → Option Int32) (x1 : Int32) (x2 : Int32) : Option Int32 := K4 x1 (x2 + (1 : Int32))
def P_Door_rowsThere_b4 (o : Nat) (M : fw_M) (K4 : Int32 → Int32 → Option Int32) (x1 : Int32) (x2 : Int32) : Option Int32 := (if (8 : Int32) ≤ x2 then some x1 else (fw_aix 8 x2).bind fun i2 => (P_Row_isMissing (o + 171 + 2 * i2) M).bind fun v3 => (if v3 = (0 : Int32) then P_Door_rowsThere_b25 o M K4 (x1 + (1 : Int32)) x2 else P_Door_rowsThere_b25 o M K4 x1 x2))
def P_Door_rowsThere_h4 (o : Nat) (M : fw_M) : Nat → Int32 → Int32 → Option Int32
  | 0, _, _ => none
  | n + 1, x1, x2 => P_Door_rowsThere_b4 o M (P_Door_rowsThere_h4 o M n) x1 x2
def P_Door_rowsThere_b0 (o : Nat) (M : fw_M) : Option Int32 := P_Door_rowsThere_h4 o M fw_fu (0 : Int32) (0 : Int32)
def P_Door_rowsThere (o : Nat) (M : fw_M) : Option Int32 := P_Door_rowsThere_b0 o M
set_option maxRecDepth 100000 in
theorem c_Door_rowsThere_b25 {p : Program} {l : Launch} {e : Env} {s : State} {m : MethodId} {args : Array Value} {below : List Frame} {meth : Method} {c : Code} {D : va_G} {cI cZ cH cR : ClassId} {N : Nat} {ad : Nat → Nat} {EE : fw_M → Nat → va_E} {o : Nat} {M : fw_M} {K4 : Int32 → Int32 → Option Int32} {x1 : Int32} {x2 : Int32} {z : Int32} (C : fw_C p s m args meth c cX8_rowsThere RX8 wsX8_rowsThere 3 (some .int) D vwCl (fw_tys cI cZ cH cR) N ad fw_nw0) (ho : o_Door EE ad N cI cZ cH cR o) (hK4 : ∀ (kx1 : Int32) (kx2 : Int32), K4 kx1 kx2 = some z → fw_J p l e (headSpec wsX8_rowsThere rm_Door_rowsThere).room s m args below meth c D vwCl N ad EE 3 0 0 (fw_E below args s D vwCl N ad EE (some (.int z)) M) M [(0, .ref (ad o)), (1, .int kx1), (2, .int kx2)] 4 []) (h : P_Door_rowsThere_b25 o M K4 x1 x2 = some z) : fw_J p l e (headSpec wsX8_rowsThere rm_Door_rowsThere).room s m args below meth c D vwCl N ad EE 3 0 0 (fw_E below args s D vwCl N ad EE (some (.int z)) M) M [(0, .ref (ad o)), (1, .int x1), (2, .int x2)] 25 [] := by
  unfold P_Door_rowsThere_b25 at h
  refine fw_iinc (pc := 25) C (v := 1) (L2 := [(0, .ref _), (1, .int _), (2, .int _)]) 2 [1, 2, 0] dX8_rowsThere_25 rfl fk_iconst_1 (by decide) rfl ?_
  refine fw_goto (pc := 28) C (tgt := 4) dX8_rowsThere_28 (by decide) ?_
  exact (hK4 _ _ h)
set_option maxRecDepth 100000 in
theorem c_Door_rowsThere_b4 {p : Program} {l : Launch} {e : Env} {s : State} {m : MethodId} {args : Array Value} {below : List Frame} {meth : Method} {c : Code} {D : va_G} {cI cZ cH cR : ClassId} {N : Nat} {ad : Nat → Nat} {EE : fw_M → Nat → va_E} {o : Nat} {M : fw_M} {K4 : Int32 → Int32 → Option Int32} {x1 : Int32} {x2 : Int32} {z : Int32} (C : fw_C p s m args meth c cX8_rowsThere RX8 wsX8_rowsThere 3 (some .int) D vwCl (fw_tys cI cZ cH cR) N ad fw_nw0) (ho : o_Door EE ad N cI cZ cH cR o) (hK4 : ∀ (kx1 : Int32) (kx2 : Int32), K4 kx1 kx2 = some z → fw_J p l e (headSpec wsX8_rowsThere rm_Door_rowsThere).room s m args below meth c D vwCl N ad EE 3 0 0 (fw_E below args s D vwCl N ad EE (some (.int z)) M) M [(0, .ref (ad o)), (1, .int kx1), (2, .int kx2)] 4 []) (h : P_Door_rowsThere_b4 o M K4 x1 x2 = some z) : fw_J p l e (headSpec wsX8_rowsThere rm_Door_rowsThere).room s m args below meth c D vwCl N ad EE 3 0 0 (fw_E below args s D vwCl N ad EE (some (.int z)) M) M [(0, .ref (ad o)), (1, .int x1), (2, .int x2)] 4 [] := by
  unfold P_Door_rowsThere_b4 at h
  refine fw_iload_n (pc := 4) C 2 dX8_rowsThere_4 rfl rfl ?_
  refine fw_bipush (pc := 5) C (v := 8) dX8_rowsThere_5 fk_bipush_8 ?_
  refine fw_icmp_ge (pc := 7) C (tgt := 31) dX8_rowsThere_7 (by decide) (fun c1 => ?_) (fun c1 => ?_)
  · have h := fw_ift h c1
    refine fw_iload_n (pc := 31) C 1 dX8_rowsThere_31 rfl rfl ?_
    exact fw_iret (pc := 32) C (Option.some.inj h) rfl dX8_rowsThere_32
  · have h := fw_iff h c1
    refine fw_aload_n (pc := 10) C 0 dX8_rowsThere_10 rfl rfl ?_
    refine fw_getr (pc := 11) C ho.2.1.1 rfl qX8_rowsThere_11 dX8_rowsThere_11 ?_
    refine fw_iload_n (pc := 14) C 2 dX8_rowsThere_14 rfl rfl ?_
    obtain ⟨i2, hi2, h⟩ := fw_bind h
    refine fw_aald (pc := 15) C 3 ho.2.1.2.1 rfl hi2 dX8_rowsThere_15 ?_
    obtain ⟨v3, hv3, h⟩ := fw_bind h
    refine fw_callV1 (pc := 16) C (rest := []) (c_Row_isMissing (ho.2.1.2.2 i2 (fw_aixlt hi2)) hv3) (cwV 0 C.2.2.2.2.1 gX8_rowsThere_X6_isMissing rfl rfl rfl hd_Row_isMissing ⟨Nat.le_of_ble_eq_true rfl, Nat.le_of_ble_eq_true rfl⟩) (ho.2.1.2.2 i2 (fw_aixlt hi2)).1 rfl rfl ⟨Nat.zero_le _, Nat.zero_le _⟩ rfl (Nat.le_of_ble_eq_true rfl) dX8_rowsThere_16 ?_
    refine fw_if_ne (pc := 19) C (tgt := 25) dX8_rowsThere_19 (by decide) (fun c4 => ?_) (fun c4 => ?_)
    · have h := fw_iff h c4
      exact (c_Door_rowsThere_b25 C ho hK4 h)
    · have h := fw_ift h c4
      refine fw_iinc (pc := 22) C (v := 1) (L2 := [(0, .ref _), (1, .int _), (2, .int _)]) 1 [1, 0, 2] dX8_rowsThere_22 rfl fk_iconst_1 (by decide) rfl ?_
      exact (c_Door_rowsThere_b25 C ho hK4 h)
theorem c_Door_rowsThere_h4 {p : Program} {l : Launch} {e : Env} {s : State} {m : MethodId} {args : Array Value} {below : List Frame} {meth : Method} {c : Code} {D : va_G} {cI cZ cH cR : ClassId} {N : Nat} {ad : Nat → Nat} {EE : fw_M → Nat → va_E} {o : Nat} {M : fw_M} {z : Int32} (C : fw_C p s m args meth c cX8_rowsThere RX8 wsX8_rowsThere 3 (some .int) D vwCl (fw_tys cI cZ cH cR) N ad fw_nw0) (ho : o_Door EE ad N cI cZ cH cR o) : ∀ (n : Nat) (x1 : Int32) (x2 : Int32), P_Door_rowsThere_h4 o M n x1 x2 = some z → fw_J p l e (headSpec wsX8_rowsThere rm_Door_rowsThere).room s m args below meth c D vwCl N ad EE 3 0 0 (fw_E below args s D vwCl N ad EE (some (.int z)) M) M [(0, .ref (ad o)), (1, .int x1), (2, .int x2)] 4 [] := by
  intro n
  induction n with
  | zero => intro x1 x2  h; cases h
  | succ n ih => intro x1 x2  h; exact c_Door_rowsThere_b4 C ho ih  h
set_option maxRecDepth 100000 in
theorem c_Door_rowsThere_b0 {p : Program} {l : Launch} {e : Env} {s : State} {m : MethodId} {args : Array Value} {below : List Frame} {meth : Method} {c : Code} {D : va_G} {cI cZ cH cR : ClassId} {N : Nat} {ad : Nat → Nat} {EE : fw_M → Nat → va_E} {o : Nat} {M : fw_M} {z : Int32} (C : fw_C p s m args meth c cX8_rowsThere RX8 wsX8_rowsThere 3 (some .int) D vwCl (fw_tys cI cZ cH cR) N ad fw_nw0) (ho : o_Door EE ad N cI cZ cH cR o) (h : P_Door_rowsThere_b0 o M = some z) : fw_J p l e (headSpec wsX8_rowsThere rm_Door_rowsThere).room s m args below meth c D vwCl N ad EE 3 0 0 (fw_E below args s D vwCl N ad EE (some (.int z)) M) M [(0, .ref (ad o))] 0 [] := by
  unfold P_Door_rowsThere_b0 at h
  refine fw_iconst (pc := 0) C (v := 0) dX8_rowsThere_0 fk_iconst_0 ?_
  refine fw_istore_n (pc := 1) C (L2 := [(0, .ref _), (1, .int _)]) [1, 0] dX8_rowsThere_1 rfl (by decide) rfl ?_
  refine fw_iconst (pc := 2) C (v := 0) dX8_rowsThere_2 fk_iconst_0 ?_
  refine fw_istore_n (pc := 3) C (L2 := [(0, .ref _), (1, .int _), (2, .int _)]) [1, 2, 0] dX8_rowsThere_3 rfl (by decide) rfl ?_
  exact (c_Door_rowsThere_h4 C ho _ _ _ h)
theorem c_Door_rowsThere {l : Launch} {D : va_G} {cI cZ cH cR : ClassId} {N : Nat} {ad : Nat → Nat} {EE : fw_M → Nat → va_E} {o : Nat} {M : fw_M} {z : Int32} (ho : o_Door EE ad N cI cZ cH cR o) (h : P_Door_rowsThere o M = some z) : fw_Met l yX8_rowsThere wsX8_rowsThere rm_Door_rowsThere D vwCl (fw_tys cI cZ cH cR) N ad fw_nw0 EE [.ref (ad o)] M (some (.int z)) M := by
  unfold P_Door_rowsThere at h
  exact fw_intro (cc := cX8_rowsThere) (maxL := 3) (ret := some .int) (own := RX8) (by decide) rfl rfl (Nat.le_of_ble_eq_true rfl) (fun p e s m args below meth c C => fw_sub [0] rfl (c_Door_rowsThere_b0 C ho h))
abbrev rm_Door_count : Room := { frames := 2, cells := 0, slots := 0, locals := 42 }
theorem hd_Door_count : yX8_count.cls = RX8 ∧ yX8_count.cls ≠ "java/lang/invoke/MethodHandle" ∧ yX8_count.cls ≠ "java/lang/invoke/VarHandle" ∧ (parseMethodDescriptor yX8_count.desc).map (fun d => d.parameters.length) = some 1 := by decide +kernel
theorem kX8_count_70 : Cond.constant RX8 70 (-1000001) ∈ wsX8_count := by decide +kernel
theorem qX8_count_18 : fw_G wsX8_count RX8 18 RX8 TX8 9 1 := ⟨by decide +kernel, by decide +kernel, by decide⟩
theorem qX8_count_114 : fw_G wsX8_count RX8 114 RX7 TX7 4 1 := ⟨by decide +kernel, by decide +kernel, by decide⟩
theorem qX8_count_32 : fw_G wsX8_count RX8 32 RX8 TX8 9 3 := ⟨by decide +kernel, by decide +kernel, by decide⟩
theorem qX8_count_142 : fw_G wsX8_count RX8 142 RX0 TX0 3 2 := ⟨by decide +kernel, by decide +kernel, by decide⟩
theorem qX8_count_25 : fw_G wsX8_count RX8 25 RX8 TX8 9 2 := ⟨by decide +kernel, by decide +kernel, by decide⟩
theorem qX8_count_153 : fw_G wsX8_count RX8 153 RX3 TX3 9 3 := ⟨by decide +kernel, by decide +kernel, by decide⟩
theorem qX8_count_139 : fw_G wsX8_count RX8 139 RX3 TX3 9 2 := ⟨by decide +kernel, by decide +kernel, by decide⟩
theorem qX8_count_232 : fw_G wsX8_count RX8 232 RX3 TX3 9 0 := ⟨by decide +kernel, by decide +kernel, by decide⟩
def P_Door_count_b0 (o : Nat) (M : fw_M) (x1 : Int32) : Option Int32 := (if x1 = (0 : Int32) then (P_Door_rowsThere o M).bind fun v2 => some v2 else (if x1 = (1 : Int32) then some (M (o + 4) 0) else (if x1 = (2 : Int32) then some (M (o + 4) 2) else (if x1 = (3 : Int32) then some (M (o + 4) 3) else (if x1 = (4 : Int32) then (P_Hall_waitingAt (o + 4) M (-1 : Int32)).bind fun v7 => some v7 else (if x1 = (5 : Int32) then (P_Hall_nobodies (o + 4) M).bind fun v9 => some v9 else (if x1 = (6 : Int32) then some (M (o + 10) 2) else (if x1 = (7 : Int32) then some (M (o + 2) 1) else some (-1000001 : Int32)))))))))
def P_Door_count (o : Nat) (M : fw_M) (a0 : Int32) : Option Int32 := P_Door_count_b0 o M a0
set_option maxRecDepth 100000 in
theorem c_Door_count_b0 {p : Program} {l : Launch} {e : Env} {s : State} {m : MethodId} {args : Array Value} {below : List Frame} {meth : Method} {c : Code} {D : va_G} {cI cZ cH cR : ClassId} {N : Nat} {ad : Nat → Nat} {EE : fw_M → Nat → va_E} {o : Nat} {M : fw_M} {x1 : Int32} {z : Int32} (C : fw_C p s m args meth c cX8_count RX8 wsX8_count 2 (some .int) D vwCl (fw_tys cI cZ cH cR) N ad fw_nw0) (ho : o_Door EE ad N cI cZ cH cR o) (h : P_Door_count_b0 o M x1 = some z) : fw_J p l e (headSpec wsX8_count rm_Door_count).room s m args below meth c D vwCl N ad EE 2 0 0 (fw_E below args s D vwCl N ad EE (some (.int z)) M) M [(0, .ref (ad o)), (1, .int x1)] 0 [] := by
  unfold P_Door_count_b0 at h
  refine fw_iload_n (pc := 0) C 1 dX8_count_0 rfl rfl ?_
  rcases fw_cs h with ⟨c1, h⟩ | ⟨c1, h⟩
  · refine fw_tsin (pc := 1) C dX8_count_1 c1 (v := 0) (off := 47) (by decide) (tgt := 48) (by decide) ?_
    refine fw_aload_n (pc := 48) C 0 dX8_count_48 rfl rfl ?_
    obtain ⟨v2, hv2, h⟩ := fw_bind h
    refine fw_callV1 (pc := 49) C (rest := []) (c_Door_rowsThere ho hv2) (cwV 0 C.2.2.2.2.1 gX8_count_X8_rowsThere rfl rfl rfl hd_Door_rowsThere ⟨Nat.le_of_ble_eq_true rfl, Nat.le_of_ble_eq_true rfl⟩) ho.1 rfl rfl ⟨Nat.zero_le _, Nat.zero_le _⟩ rfl (Nat.le_of_ble_eq_true rfl) dX8_count_49 ?_
    exact fw_iret (pc := 52) C (Option.some.inj h) rfl dX8_count_52
  · rcases fw_cs h with ⟨c3, h⟩ | ⟨c3, h⟩
    · refine fw_tsin (pc := 1) C dX8_count_1 c3 (v := 1) (off := 52) (by decide) (tgt := 53) (by decide) ?_
      refine fw_aload_n (pc := 53) C 0 dX8_count_53 rfl rfl ?_
      refine fw_getr (pc := 54) C ho.2.2.2.1.1 rfl qX8_count_25 dX8_count_54 ?_
      refine fw_geti (pc := 57) C ho.2.2.2.1.2.2.1 rfl qX8_count_232 dX8_count_57 ?_
      exact fw_iret (pc := 60) C (Option.some.inj h) rfl dX8_count_60
    · rcases fw_cs h with ⟨c4, h⟩ | ⟨c4, h⟩
      · refine fw_tsin (pc := 1) C dX8_count_1 c4 (v := 2) (off := 60) (by decide) (tgt := 61) (by decide) ?_
        refine fw_aload_n (pc := 61) C 0 dX8_count_61 rfl rfl ?_
        refine fw_getr (pc := 62) C ho.2.2.2.1.1 rfl qX8_count_25 dX8_count_62 ?_
        refine fw_geti (pc := 65) C ho.2.2.2.1.2.2.2.2.1 rfl qX8_count_139 dX8_count_65 ?_
        exact fw_iret (pc := 68) C (Option.some.inj h) rfl dX8_count_68
      · rcases fw_cs h with ⟨c5, h⟩ | ⟨c5, h⟩
        · refine fw_tsin (pc := 1) C dX8_count_1 c5 (v := 3) (off := 68) (by decide) (tgt := 69) (by decide) ?_
          refine fw_aload_n (pc := 69) C 0 dX8_count_69 rfl rfl ?_
          refine fw_getr (pc := 70) C ho.2.2.2.1.1 rfl qX8_count_25 dX8_count_70 ?_
          refine fw_geti (pc := 73) C ho.2.2.2.1.2.2.2.2.2.1 rfl qX8_count_153 dX8_count_73 ?_
          exact fw_iret (pc := 76) C (Option.some.inj h) rfl dX8_count_76
        · rcases fw_cs h with ⟨c6, h⟩ | ⟨c6, h⟩
          · refine fw_tsin (pc := 1) C dX8_count_1 c6 (v := 4) (off := 76) (by decide) (tgt := 77) (by decide) ?_
            refine fw_aload_n (pc := 77) C 0 dX8_count_77 rfl rfl ?_
            refine fw_getr (pc := 78) C ho.2.2.2.1.1 rfl qX8_count_25 dX8_count_78 ?_
            refine fw_iconst (pc := 81) C (v := -1) dX8_count_81 fk_iconst_m1 ?_
            obtain ⟨v7, hv7, h⟩ := fw_bind h
            refine fw_callV1 (pc := 82) C (rest := []) (c_Hall_waitingAt ho.2.2.2.1.2 hv7) (cwV 1 C.2.2.2.2.1 gX8_count_X3_waitingAt rfl rfl rfl hd_Hall_waitingAt ⟨Nat.le_of_ble_eq_true rfl, Nat.le_of_ble_eq_true rfl⟩) ho.2.2.2.1.2.1 rfl rfl ⟨Nat.zero_le _, Nat.zero_le _⟩ rfl (Nat.le_of_ble_eq_true rfl) dX8_count_82 ?_
            exact fw_iret (pc := 85) C (Option.some.inj h) rfl dX8_count_85
          · rcases fw_cs h with ⟨c8, h⟩ | ⟨c8, h⟩
            · refine fw_tsin (pc := 1) C dX8_count_1 c8 (v := 5) (off := 85) (by decide) (tgt := 86) (by decide) ?_
              refine fw_aload_n (pc := 86) C 0 dX8_count_86 rfl rfl ?_
              refine fw_getr (pc := 87) C ho.2.2.2.1.1 rfl qX8_count_25 dX8_count_87 ?_
              obtain ⟨v9, hv9, h⟩ := fw_bind h
              refine fw_callV1 (pc := 90) C (rest := []) (c_Hall_nobodies ho.2.2.2.1.2 hv9) (cwV 0 C.2.2.2.2.1 gX8_count_X3_nobodies rfl rfl rfl hd_Hall_nobodies ⟨Nat.le_of_ble_eq_true rfl, Nat.le_of_ble_eq_true rfl⟩) ho.2.2.2.1.2.1 rfl rfl ⟨Nat.zero_le _, Nat.zero_le _⟩ rfl (Nat.le_of_ble_eq_true rfl) dX8_count_90 ?_
              exact fw_iret (pc := 93) C (Option.some.inj h) rfl dX8_count_93
            · rcases fw_cs h with ⟨c10, h⟩ | ⟨c10, h⟩
              · refine fw_tsin (pc := 1) C dX8_count_1 c10 (v := 6) (off := 93) (by decide) (tgt := 94) (by decide) ?_
                refine fw_aload_n (pc := 94) C 0 dX8_count_94 rfl rfl ?_
                refine fw_getr (pc := 95) C ho.2.2.2.2.1.1 rfl qX8_count_32 dX8_count_95 ?_
                refine fw_geti (pc := 98) C ho.2.2.2.2.1.2.2.2.2 rfl qX8_count_142 dX8_count_98 ?_
                exact fw_iret (pc := 101) C (Option.some.inj h) rfl dX8_count_101
              · rcases fw_cs h with ⟨c11, h⟩ | ⟨c11, h⟩
                · refine fw_tsin (pc := 1) C dX8_count_1 c11 (v := 7) (off := 101) (by decide) (tgt := 102) (by decide) ?_
                  refine fw_aload_n (pc := 102) C 0 dX8_count_102 rfl rfl ?_
                  refine fw_getr (pc := 103) C ho.2.2.1.1 rfl qX8_count_18 dX8_count_103 ?_
                  refine fw_geti (pc := 106) C ho.2.2.1.2.2.2.1 rfl qX8_count_114 dX8_count_106 ?_
                  exact fw_iret (pc := 109) C (Option.some.inj h) rfl dX8_count_109
                · refine fw_tsout (pc := 1) C dX8_count_1 (fun z z1 z2 e => ?_) (tgt := 110) (by decide) ?_
                  · subst e
                    have ec1 := lv_neT c1 (a := 0) (by decide)
                    have ec3 := lv_neT c3 (a := 1) (by decide)
                    have ec4 := lv_neT c4 (a := 2) (by decide)
                    have ec5 := lv_neT c5 (a := 3) (by decide)
                    have ec6 := lv_neT c6 (a := 4) (by decide)
                    have ec8 := lv_neT c8 (a := 5) (by decide)
                    have ec10 := lv_neT c10 (a := 6) (by decide)
                    have ec11 := lv_neT c11 (a := 7) (by decide)
                    omega
                  · refine fw_ldc (pc := 110) C (v := -1000001) kX8_count_70 dX8_count_110 ?_
                    exact fw_iret (pc := 112) C (Option.some.inj h) rfl dX8_count_112
theorem c_Door_count {l : Launch} {D : va_G} {cI cZ cH cR : ClassId} {N : Nat} {ad : Nat → Nat} {EE : fw_M → Nat → va_E} {o : Nat} {M : fw_M} {a0 : Int32} {z : Int32} (ho : o_Door EE ad N cI cZ cH cR o) (h : P_Door_count o M a0 = some z) : fw_Met l yX8_count wsX8_count rm_Door_count D vwCl (fw_tys cI cZ cH cR) N ad fw_nw0 EE [.ref (ad o), .int a0] M (some (.int z)) M := by
  unfold P_Door_count at h
  exact fw_intro (cc := cX8_count) (maxL := 2) (ret := some .int) (own := RX8) (by decide) rfl rfl (Nat.le_of_ble_eq_true rfl) (fun p e s m args below meth c C => fw_sub [0, 1] rfl (c_Door_count_b0 C ho h))
abbrev rm_Door_status : Room := { frames := 0, cells := 0, slots := 0, locals := 0 }
theorem hd_Door_status : yX8_status.cls = RX8 ∧ yX8_status.cls ≠ "java/lang/invoke/MethodHandle" ∧ yX8_status.cls ≠ "java/lang/invoke/VarHandle" ∧ (parseMethodDescriptor yX8_status.desc).map (fun d => d.parameters.length) = some 0 := by decide +kernel
theorem qX8_status_58 : fw_G wsX8_status RX8 58 RX8 TX8 9 8 := ⟨by decide +kernel, by decide +kernel, by decide⟩
def P_Door_status_b0 (o : Nat) (M : fw_M) : Option Int32 := some (M o 8)
def P_Door_status (o : Nat) (M : fw_M) : Option Int32 := P_Door_status_b0 o M
set_option maxRecDepth 100000 in
theorem c_Door_status_b0 {p : Program} {l : Launch} {e : Env} {s : State} {m : MethodId} {args : Array Value} {below : List Frame} {meth : Method} {c : Code} {D : va_G} {cI cZ cH cR : ClassId} {N : Nat} {ad : Nat → Nat} {EE : fw_M → Nat → va_E} {o : Nat} {M : fw_M} {z : Int32} (C : fw_C p s m args meth c cX8_status RX8 wsX8_status 1 (some .int) D vwCl (fw_tys cI cZ cH cR) N ad fw_nw0) (ho : o_Door EE ad N cI cZ cH cR o) (h : P_Door_status_b0 o M = some z) : fw_J p l e (headSpec wsX8_status rm_Door_status).room s m args below meth c D vwCl N ad EE 1 0 0 (fw_E below args s D vwCl N ad EE (some (.int z)) M) M [(0, .ref (ad o))] 0 [] := by
  unfold P_Door_status_b0 at h
  refine fw_aload_n (pc := 0) C 0 dX8_status_0 rfl rfl ?_
  refine fw_geti (pc := 1) C ho.2.2.2.2.2.2.2.2.2 rfl qX8_status_58 dX8_status_1 ?_
  exact fw_iret (pc := 4) C (Option.some.inj h) rfl dX8_status_4
theorem c_Door_status {l : Launch} {D : va_G} {cI cZ cH cR : ClassId} {N : Nat} {ad : Nat → Nat} {EE : fw_M → Nat → va_E} {o : Nat} {M : fw_M} {z : Int32} (ho : o_Door EE ad N cI cZ cH cR o) (h : P_Door_status o M = some z) : fw_Met l yX8_status wsX8_status rm_Door_status D vwCl (fw_tys cI cZ cH cR) N ad fw_nw0 EE [.ref (ad o)] M (some (.int z)) M := by
  unfold P_Door_status at h
  exact fw_intro (cc := cX8_status) (maxL := 1) (ret := some .int) (own := RX8) (by decide) rfl rfl (Nat.le_of_ble_eq_true rfl) (fun p e s m args below meth c C => fw_sub [0] rfl (c_Door_status_b0 C ho h))
end
