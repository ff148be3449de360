noncomputable section
abbrev rm_Acts_keep : Room := { frames := 2, cells := 0, slots := 0, locals := 69 }
theorem hd_Acts_keep : yX0_keep.cls = RX0 ∧ yX0_keep.cls ≠ "java/lang/invoke/MethodHandle" ∧ yX0_keep.cls ≠ "java/lang/invoke/VarHandle" ∧ (parseMethodDescriptor yX0_keep.desc).map (fun d => d.parameters.length) = some 1 := by decide +kernel
theorem qX0_keep_11 : fw_G wsX0_keep RX0 11 RX0 TX0 3 0 := ⟨by decide +kernel, by decide +kernel, by decide⟩
theorem qX0_keep_17 : fw_G wsX0_keep RX0 17 RX0 TX0 3 1 := ⟨by decide +kernel, by decide +kernel, by decide⟩
theorem qX0_keep_21 : fw_G wsX0_keep RX0 21 RX0 TX0 3 2 := ⟨by decide +kernel, by decide +kernel, by decide⟩
theorem kmX0_keep_29 : Cond.methodLink RX0 29 Lib.Math.min.name ∈ wsX0_keep ∧ Cond.static Lib.Math.min.name ∈ wsX0_keep ∧ Cond.initialized "java/lang/Math" ∈ wsX0_keep ∧ Cond.code Lib.Math.min.name Lib.Math.min.code 2 (some .int) ∈ wsX0_keep := by decide +kernel
def P_Acts_keep_b0 (o : Nat) (r0 : Nat) (M : fw_M) : Option fw_M := (fw_aix 24 (M o 1)).bind fun i1 => (P_Hall_become (o + 2 + 6 * i1) r0 M).bind fun q2 => (fw_remP ((q2 o 1) + (1 : Int32)) (24 : Int32)).bind fun v3 => fw_pl (fw_set q2 o 1 v3) fun M4 => fw_pl (fw_set M4 o 2 (if ((M4 o 2) + (1 : Int32)) < (24 : Int32) then ((M4 o 2) + (1 : Int32)) else (24 : Int32))) fun M5 => some M5
def P_Acts_keep (o : Nat) (r0 : Nat) (M : fw_M) : Option fw_M := P_Acts_keep_b0 o r0 M
set_option maxRecDepth 100000 in
theorem c_Acts_keep_b0 {p : Program} {l : Launch} {e : Env} {s : State} {m : MethodId} {args : Array Value} {below : List Frame} {meth : Method} {c : Code} {D : va_G} {cI cZ cH cR : ClassId} {N : Nat} {ad : Nat → Nat} {EE : fw_M → Nat → va_E} {o : Nat} {r0 : Nat} {M : fw_M} {z : fw_M} (C : fw_C p s m args meth c cX0_keep RX0 wsX0_keep 2 (none) D vwCl (fw_tys cI cZ cH cR) N ad fw_nw0) (ho : o_Acts EE ad N cI cZ cH cR o) (hr0 : o_Hall EE ad N cI cZ cH cR r0) (h : P_Acts_keep_b0 o r0 M = some z) : fw_J p l e (headSpec wsX0_keep rm_Acts_keep).room s m args below meth c D vwCl N ad EE 2 0 0 (fw_E below args s D vwCl N ad EE none z) M [(0, .ref (ad o)), (1, .ref (ad r0))] 0 [] := by
  unfold P_Acts_keep_b0 at h
  refine fw_aload_n (pc := 0) C 0 dX0_keep_0 rfl rfl ?_
  refine fw_getr (pc := 1) C ho.2.1.1 rfl qX0_keep_11 dX0_keep_1 ?_
  refine fw_aload_n (pc := 4) C 0 dX0_keep_4 rfl rfl ?_
  refine fw_geti (pc := 5) C ho.2.2.1 rfl qX0_keep_17 dX0_keep_5 ?_
  obtain ⟨i1, hi1, h⟩ := fw_bind h
  refine fw_aald (pc := 8) C 2 ho.2.1.2.1 rfl hi1 dX0_keep_8 ?_
  refine fw_aload_n (pc := 9) C 1 dX0_keep_9 rfl rfl ?_
  obtain ⟨q2, hq2, h⟩ := fw_bind h
  refine fw_callV0 (pc := 10) C (rest := []) (c_Hall_become (ho.2.1.2.2 i1 (fw_aixlt hi1)) hr0 hq2) (cwV 1 C.2.2.2.2.1 gX0_keep_X3_become rfl rfl rfl hd_Hall_become ⟨Nat.le_of_ble_eq_true rfl, Nat.le_of_ble_eq_true rfl⟩) (ho.2.1.2.2 i1 (fw_aixlt hi1)).1 rfl rfl ⟨Nat.zero_le _, Nat.zero_le _⟩ rfl (Nat.le_of_ble_eq_true rfl) dX0_keep_10 ?_
  refine fw_aload_n (pc := 13) C 0 dX0_keep_13 rfl rfl ?_
  refine fw_aload_n (pc := 14) C 0 dX0_keep_14 rfl rfl ?_
  refine fw_geti (pc := 15) C ho.2.2.1 rfl qX0_keep_17 dX0_keep_15 ?_
  refine fw_iconst (pc := 18) C (v := 1) dX0_keep_18 fk_iconst_1 ?_
  refine fw_iadd (pc := 19) C dX0_keep_19 ?_
  refine fw_bipush (pc := 20) C (v := 24) dX0_keep_20 fk_bipush_24 ?_
  obtain ⟨v3, hv3, h⟩ := fw_bind h
  refine fw_irem (pc := 22) C dX0_keep_22 hv3 ?_
  have h := fw_plh h
  refine fw_puti (pc := 23) C ho.2.2.1 rfl qX0_keep_17 tyX0 tyX0_ok nmX0 rfl rfl dX0_keep_23 ?_
  refine fw_aload_n (pc := 26) C 0 dX0_keep_26 rfl rfl ?_
  refine fw_bipush (pc := 27) C (v := 24) dX0_keep_27 fk_bipush_24 ?_
  refine fw_aload_n (pc := 29) C 0 dX0_keep_29 rfl rfl ?_
  refine fw_geti (pc := 30) C ho.2.2.2 rfl qX0_keep_21 dX0_keep_30 ?_
  refine fw_iconst (pc := 33) C (v := 1) dX0_keep_33 fk_iconst_1 ?_
  refine fw_iadd (pc := 34) C dX0_keep_34 ?_
  refine fw_mmin (pc := 35) C kmX0_keep_29 ⟨Nat.zero_le _, Nat.zero_le _⟩ (Nat.le_of_ble_eq_true rfl) (Nat.le_of_ble_eq_true rfl) dX0_keep_35 ?_
  have h := fw_plh h
  refine fw_puti (pc := 38) C ho.2.2.2 rfl qX0_keep_21 tyX0 tyX0_ok nmX0 rfl rfl dX0_keep_38 ?_
  exact fw_vret (pc := 41) C (Option.some.inj h) dX0_keep_41
theorem c_Acts_keep {l : Launch} {D : va_G} {cI cZ cH cR : ClassId} {N : Nat} {ad : Nat → Nat} {EE : fw_M → Nat → va_E} {o : Nat} {r0 : Nat} {M : fw_M} {z : fw_M} (ho : o_Acts EE ad N cI cZ cH cR o) (hr0 : o_Hall EE ad N cI cZ cH cR r0) (h : P_Acts_keep o r0 M = some z) : fw_Met l yX0_keep wsX0_keep rm_Acts_keep D vwCl (fw_tys cI cZ cH cR) N ad fw_nw0 EE [.ref (ad o), .ref (ad r0)] M none z := by
  unfold P_Acts_keep at h
  exact fw_intro (cc := cX0_keep) (maxL := 2) (ret := none) (own := RX0) (by decide) rfl rfl (Nat.le_of_ble_eq_true rfl) (fun p e s m args below meth c C => fw_sub [0, 1] rfl (c_Acts_keep_b0 C ho hr0 h))
abbrev rm_Acts_takeBack : Room := { frames := 2, cells := 0, slots := 0, locals := 69 }
theorem hd_Acts_takeBack : yX0_takeBack.cls = RX0 ∧ yX0_takeBack.cls ≠ "java/lang/invoke/MethodHandle" ∧ yX0_takeBack.cls ≠ "java/lang/invoke/VarHandle" ∧ (parseMethodDescriptor yX0_takeBack.desc).map (fun d => d.parameters.length) = some 1 := by decide +kernel
theorem qX0_takeBack_21 : fw_G wsX0_takeBack RX0 21 RX0 TX0 3 2 := ⟨by decide +kernel, by decide +kernel, by decide⟩
theorem qX0_takeBack_17 : fw_G wsX0_takeBack RX0 17 RX0 TX0 3 1 := ⟨by decide +kernel, by decide +kernel, by decide⟩
theorem qX0_takeBack_11 : fw_G wsX0_takeBack RX0 11 RX0 TX0 3 0 := ⟨by decide +kernel, by decide +kernel, by decide⟩
def P_Acts_takeBack_b0 (o : Nat) (r0 : Nat) (M : fw_M) : Option fw_M := (if (M o 2) = (0 : Int32) then some M else (fw_remP (((M o 1) + (24 : Int32)) - (1 : Int32)) (24 : Int32)).bind fun v2 => fw_pl (fw_set M o 1 v2) fun M3 => fw_pl (fw_set M3 o 2 ((M3 o 2) - (1 : Int32))) fun M4 => (fw_aix 24 (M4 o 1)).bind fun i5 => (P_Hall_become r0 (o + 2 + 6 * i5) M4).bind fun q6 => some q6)
def P_Acts_takeBack (o : Nat) (r0 : Nat) (M : fw_M) : Option fw_M := P_Acts_takeBack_b0 o r0 M
set_option maxRecDepth 100000 in
theorem c_Acts_takeBack_b0 {p : Program} {l : Launch} {e : Env} {s : State} {m : MethodId} {args : Array Value} {below : List Frame} {meth : Method} {c : Code} {D : va_G} {cI cZ cH cR : ClassId} {N : Nat} {ad : Nat → Nat} {EE : fw_M → Nat → va_E} {o : Nat} {r0 : Nat} {M : fw_M} {z : fw_M} (C : fw_C p s m args meth c cX0_takeBack RX0 wsX0_takeBack 2 (none) D vwCl (fw_tys cI cZ cH cR) N ad fw_nw0) (ho : o_Acts EE ad N cI cZ cH cR o) (hr0 : o_Hall EE ad N cI cZ cH cR r0) (h : P_Acts_takeBack_b0 o r0 M = some z) : fw_J p l e (headSpec wsX0_takeBack rm_Acts_takeBack).room s m args below meth c D vwCl N ad EE 2 0 0 (fw_E below args s D vwCl N ad EE none z) M [(0, .ref (ad o)), (1, .ref (ad r0))] 0 [] := by
  unfold P_Acts_takeBack_b0 at h
  refine fw_aload_n (pc := 0) C 0 dX0_takeBack_0 rfl rfl ?_
  refine fw_geti (pc := 1) C ho.2.2.2 rfl qX0_takeBack_21 dX0_takeBack_1 ?_
  refine fw_if_ne (pc := 4) C (tgt := 8) dX0_takeBack_4 (by decide) (fun c1 => ?_) (fun c1 => ?_)
  · have h := fw_iff h c1
    refine fw_aload_n (pc := 8) C 0 dX0_takeBack_8 rfl rfl ?_
    refine fw_aload_n (pc := 9) C 0 dX0_takeBack_9 rfl rfl ?_
    refine fw_geti (pc := 10) C ho.2.2.1 rfl qX0_takeBack_17 dX0_takeBack_10 ?_
    refine fw_bipush (pc := 13) C (v := 24) dX0_takeBack_13 fk_bipush_24 ?_
    refine fw_iadd (pc := 15) C dX0_takeBack_15 ?_
    refine fw_iconst (pc := 16) C (v := 1) dX0_takeBack_16 fk_iconst_1 ?_
    refine fw_isub (pc := 17) C dX0_takeBack_17 ?_
    refine fw_bipush (pc := 18) C (v := 24) dX0_takeBack_18 fk_bipush_24 ?_
    obtain ⟨v2, hv2, h⟩ := fw_bind h
    refine fw_irem (pc := 20) C dX0_takeBack_20 hv2 ?_
    have h := fw_plh h
    refine fw_puti (pc := 21) C ho.2.2.1 rfl qX0_takeBack_17 tyX0 tyX0_ok nmX0 rfl rfl dX0_takeBack_21 ?_
    refine fw_aload_n (pc := 24) C 0 dX0_takeBack_24 rfl rfl ?_
    refine fw_dup (pc := 25) C dX0_takeBack_25 rfl ?_
    refine fw_geti (pc := 26) C ho.2.2.2 rfl qX0_takeBack_21 dX0_takeBack_26 ?_
    refine fw_iconst (pc := 29) C (v := 1) dX0_takeBack_29 fk_iconst_1 ?_
    refine fw_isub (pc := 30) C dX0_takeBack_30 ?_
    have h := fw_plh h
    refine fw_puti (pc := 31) C ho.2.2.2 rfl qX0_takeBack_21 tyX0 tyX0_ok nmX0 rfl rfl dX0_takeBack_31 ?_
    refine fw_aload_n (pc := 34) C 1 dX0_takeBack_34 rfl rfl ?_
    refine fw_aload_n (pc := 35) C 0 dX0_takeBack_35 rfl rfl ?_
    refine fw_getr (pc := 36) C ho.2.1.1 rfl qX0_takeBack_11 dX0_takeBack_36 ?_
    refine fw_aload_n (pc := 39) C 0 dX0_takeBack_39 rfl rfl ?_
    refine fw_geti (pc := 40) C ho.2.2.1 rfl qX0_takeBack_17 dX0_takeBack_40 ?_
    obtain ⟨i5, hi5, h⟩ := fw_bind h
    refine fw_aald (pc := 43) C 2 ho.2.1.2.1 rfl hi5 dX0_takeBack_43 ?_
    obtain ⟨q6, hq6, h⟩ := fw_bind h
    refine fw_callV0 (pc := 44) C (rest := []) (c_Hall_become hr0 (ho.2.1.2.2 i5 (fw_aixlt hi5)) hq6) (cwV 1 C.2.2.2.2.1 gX0_takeBack_X3_become rfl rfl rfl hd_Hall_become ⟨Nat.le_of_ble_eq_true rfl, Nat.le_of_ble_eq_true rfl⟩) hr0.1 rfl rfl ⟨Nat.zero_le _, Nat.zero_le _⟩ rfl (Nat.le_of_ble_eq_true rfl) dX0_takeBack_44 ?_
    exact fw_vret (pc := 47) C (Option.some.inj h) dX0_takeBack_47
  · have h := fw_ift h c1
    exact fw_vret (pc := 7) C (Option.some.inj h) dX0_takeBack_7
theorem c_Acts_takeBack {l : Launch} {D : va_G} {cI cZ cH cR : ClassId} {N : Nat} {ad : Nat → Nat} {EE : fw_M → Nat → va_E} {o : Nat} {r0 : Nat} {M : fw_M} {z : fw_M} (ho : o_Acts EE ad N cI cZ cH cR o) (hr0 : o_Hall EE ad N cI cZ cH cR r0) (h : P_Acts_takeBack o r0 M = some z) : fw_Met l yX0_takeBack wsX0_takeBack rm_Acts_takeBack D vwCl (fw_tys cI cZ cH cR) N ad fw_nw0 EE [.ref (ad o), .ref (ad r0)] M none z := by
  unfold P_Acts_takeBack at h
  exact fw_intro (cc := cX0_takeBack) (maxL := 2) (ret := none) (own := RX0) (by decide) rfl rfl (Nat.le_of_ble_eq_true rfl) (fun p e s m args below meth c C => fw_sub [0, 1] rfl (c_Acts_takeBack_b0 C ho hr0 h))
abbrev rm_Acts_forget : Room := { frames := 0, cells := 0, slots := 0, locals := 0 }
theorem hd_Acts_forget : yX0_forget.cls = RX0 ∧ yX0_forget.cls ≠ "java/lang/invoke/MethodHandle" ∧ yX0_forget.cls ≠ "java/lang/invoke/VarHandle" ∧ (parseMethodDescriptor yX0_forget.desc).map (fun d => d.parameters.length) = some 0 := by decide +kernel
theorem qX0_forget_21 : fw_G wsX0_forget RX0 21 RX0 TX0 3 2 := ⟨by decide +kernel, by decide +kernel, by decide⟩
def P_Acts_forget_b0 (o : Nat) (M : fw_M) : Option fw_M := fw_pl (fw_set M o 2 (0 : Int32)) fun M1 => some M1
def P_Acts_forget (o : Nat) (M : fw_M) : Option fw_M := P_Acts_forget_b0 o M
set_option maxRecDepth 100000 in
theorem c_Acts_forget_b0 {p : Program} {l : Launch} {e : Env} {s : State} {m : MethodId} {args : Array Value} {below : List Frame} {meth : Method} {c : Code} {D : va_G} {cI cZ cH cR : ClassId} {N : Nat} {ad : Nat → Nat} {EE : fw_M → Nat → va_E} {o : Nat} {M : fw_M} {z : fw_M} (C : fw_C p s m args meth c cX0_forget RX0 wsX0_forget 1 (none) D vwCl (fw_tys cI cZ cH cR) N ad fw_nw0) (ho : o_Acts EE ad N cI cZ cH cR o) (h : P_Acts_forget_b0 o M = some z) : fw_J p l e (headSpec wsX0_forget rm_Acts_forget).room s m args below meth c D vwCl N ad EE 1 0 0 (fw_E below args s D vwCl N ad EE none z) M [(0, .ref (ad o))] 0 [] := by
  unfold P_Acts_forget_b0 at h
  refine fw_aload_n (pc := 0) C 0 dX0_forget_0 rfl rfl ?_
  refine fw_iconst (pc := 1) C (v := 0) dX0_forget_1 fk_iconst_0 ?_
  have h := fw_plh h
  refine fw_puti (pc := 2) C ho.2.2.2 rfl qX0_forget_21 tyX0 tyX0_ok nmX0 rfl rfl dX0_forget_2 ?_
  exact fw_vret (pc := 5) C (Option.some.inj h) dX0_forget_5
theorem c_Acts_forget {l : Launch} {D : va_G} {cI cZ cH cR : ClassId} {N : Nat} {ad : Nat → Nat} {EE : fw_M → Nat → va_E} {o : Nat} {M : fw_M} {z : fw_M} (ho : o_Acts EE ad N cI cZ cH cR o) (h : P_Acts_forget o M = some z) : fw_Met l yX0_forget wsX0_forget rm_Acts_forget D vwCl (fw_tys cI cZ cH cR) N ad fw_nw0 EE [.ref (ad o)] M none z := by
  unfold P_Acts_forget at h
  exact fw_intro (cc := cX0_forget) (maxL := 1) (ret := none) (own := RX0) (by decide) rfl rfl (Nat.le_of_ble_eq_true rfl) (fun p e s m args below meth c C => fw_sub [0] rfl (c_Acts_forget_b0 C ho h))
end
