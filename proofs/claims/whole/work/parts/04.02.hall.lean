noncomputable section
abbrev rm_Hall_isOneOf : Room := { frames := 1, cells := 0, slots := 0, locals := 22 }
theorem hd_Hall_isOneOf : yX3_isOneOf.cls = RX3 ∧ yX3_isOneOf.cls ≠ "java/lang/invoke/MethodHandle" ∧ yX3_isOneOf.cls ≠ "java/lang/invoke/VarHandle" ∧ (parseMethodDescriptor yX3_isOneOf.desc).map (fun d => d.parameters.length) = some 2 := by decide +kernel
theorem knX3_isOneOf_40 : Cond.initialized RX8 ∈ wsX3_isOneOf ∧ Cond.static yX8_within ∈ wsX3_isOneOf := by decide +kernel
theorem ksX3_isOneOf_9 : Cond.fieldLink RX3 44 "YieldDoors$Hall" "KINDS_OF" "[I" ∈ wsX3_isOneOf := by decide +kernel
def P_Hall_isOneOf_b26 (M : fw_M) (t0 : Int32) : Option Int32 := (fw_zr t0).bind fun v1 => some v1
def P_Hall_isOneOf_b25 (M : fw_M) : Option Int32 := P_Hall_isOneOf_b26 M (0 : Int32)
def P_Hall_isOneOf_b0 (M : fw_M) (x0 : Int32) (x1 : Int32) : Option Int32 := (P_Door_within M x0 (0 : Int32) (5 : Int32)).bind fun v1 => (if v1 = (0 : Int32) then P_Hall_isOneOf_b25 M else (fw_tld 6 fw_KO x0).bind fun v3 => (if ((v3 >>> (x1 &&& 31)) &&& (1 : Int32)) = (0 : Int32) then P_Hall_isOneOf_b25 M else P_Hall_isOneOf_b26 M (1 : Int32)))
def P_Hall_isOneOf (M : fw_M) (a0 : Int32) (a1 : Int32) : Option Int32 := P_Hall_isOneOf_b0 M a0 a1
set_option maxRecDepth 100000 in
theorem c_Hall_isOneOf_b26 {p : Program} {l : Launch} {e : Env} {s : State} {m : MethodId} {args : Array Value} {below : List Frame} {meth : Method} {c : Code} {D : va_G} {cI cZ cH cR : ClassId} {N : Nat} {ad : Nat → Nat} {EE : fw_M → Nat → va_E} {M : fw_M} {t0 : Int32} {z : Int32} (C : fw_C p s m args meth c cX3_isOneOf RX3 wsX3_isOneOf 2 (some .boolean) D vwCl (fw_tys cI cZ cH cR) N ad fw_nw0) (h : P_Hall_isOneOf_b26 M t0 = some z) : fw_J p l e (headSpec wsX3_isOneOf rm_Hall_isOneOf).room s m args below meth c D vwCl N ad EE 2 0 0 (fw_E below args s D vwCl N ad EE (some (.int z)) M) M [] 26 [.int t0] := by
  unfold P_Hall_isOneOf_b26 at h
  obtain ⟨v1, hv1, h⟩ := fw_bind h
  exact fw_zret (pc := 26) C (fw_zrh hv1).1 ((fw_zrh hv1).2.trans (Option.some.inj h)) rfl dX3_isOneOf_26
set_option maxRecDepth 100000 in
theorem c_Hall_isOneOf_b25 {p : Program} {l : Launch} {e : Env} {s : State} {m : MethodId} {args : Array Value} {below : List Frame} {meth : Method} {c : Code} {D : va_G} {cI cZ cH cR : ClassId} {N : Nat} {ad : Nat → Nat} {EE : fw_M → Nat → va_E} {M : fw_M} {z : Int32} (C : fw_C p s m args meth c cX3_isOneOf RX3 wsX3_isOneOf 2 (some .boolean) D vwCl (fw_tys cI cZ cH cR) N ad fw_nw0) (h : P_Hall_isOneOf_b25 M = some z) : fw_J p l e (headSpec wsX3_isOneOf rm_Hall_isOneOf).room s m args below meth c D vwCl N ad EE 2 0 0 (fw_E below args s D vwCl N ad EE (some (.int z)) M) M [] 25 [] := by
  unfold P_Hall_isOneOf_b25 at h
  refine fw_iconst (pc := 25) C (v := 0) dX3_isOneOf_25 fk_iconst_0 ?_
  exact (c_Hall_isOneOf_b26 C  h)
set_option maxRecDepth 100000 in
theorem c_Hall_isOneOf_b0 {p : Program} {l : Launch} {e : Env} {s : State} {m : MethodId} {args : Array Value} {below : List Frame} {meth : Method} {c : Code} {D : va_G} {cI cZ cH cR : ClassId} {N : Nat} {ad : Nat → Nat} {EE : fw_M → Nat → va_E} {M : fw_M} {x0 : Int32} {x1 : Int32} {z : Int32} (C : fw_C p s m args meth c cX3_isOneOf RX3 wsX3_isOneOf 2 (some .boolean) D vwCl (fw_tys cI cZ cH cR) N ad fw_nw0) (h : P_Hall_isOneOf_b0 M x0 x1 = some z) : fw_J p l e (headSpec wsX3_isOneOf rm_Hall_isOneOf).room s m args below meth c D vwCl N ad EE 2 0 0 (fw_E below args s D vwCl N ad EE (some (.int z)) M) M [(0, .int x0), (1, .int x1)] 0 [] := by
  unfold P_Hall_isOneOf_b0 at h
  refine fw_iload_n (pc := 0) C 0 dX3_isOneOf_0 rfl rfl ?_
  refine fw_iconst (pc := 1) C (v := 0) dX3_isOneOf_1 fk_iconst_0 ?_
  refine fw_iconst (pc := 2) C (v := 5) dX3_isOneOf_2 fk_iconst_5 ?_
  obtain ⟨v1, hv1, h⟩ := fw_bind h
  refine fw_callSN1 (pc := 3) C (rest := []) (c_Door_within  hv1) ⟨va_cnB 3 C.2.2.2.2.1 gX3_isOneOf_X8_within_n40 rfl rfl rfl (C.2.2.2.2.2.2.2.1.1 (RX3, 40, yX8_within, "YieldDoors") (by decide +kernel)) (C.2.2.2.2.1 _ knX3_isOneOf_40.1) hd_Door_within.2 ⟨Nat.le_of_ble_eq_true rfl, Nat.le_of_ble_eq_true rfl⟩, C.2.2.2.2.1 _ knX3_isOneOf_40.2, trivial⟩ rfl ⟨Nat.zero_le _, Nat.zero_le _⟩ rfl (Nat.le_of_ble_eq_true rfl) dX3_isOneOf_3 ?_
  refine fw_if_eq (pc := 6) C (tgt := 25) dX3_isOneOf_6 (by decide) (fun c2 => ?_) (fun c2 => ?_)
  · have h := fw_ift h c2
    exact fw_sub [] rfl (c_Hall_isOneOf_b25 C  h)
  · have h := fw_iff h c2
    obtain ⟨-, t, hZ, hT⟩ := C.2.2.2.2.2.2.2.1
    refine fw_kinds (pc := 9) C ksX3_isOneOf_9 hZ dX3_isOneOf_9 ?_
    refine fw_iload_n (pc := 12) C 0 dX3_isOneOf_12 rfl rfl ?_
    obtain ⟨v3, hv3, h⟩ := fw_bind h
    refine fw_tald (pc := 13) C hT hv3 dX3_isOneOf_13 ?_
    refine fw_iload_n (pc := 14) C 1 dX3_isOneOf_14 rfl rfl ?_
    refine fw_ishr (pc := 15) C dX3_isOneOf_15 ?_
    refine fw_iconst (pc := 16) C (v := 1) dX3_isOneOf_16 fk_iconst_1 ?_
    refine fw_iand (pc := 17) C dX3_isOneOf_17 ?_
    refine fw_if_eq (pc := 18) C (tgt := 25) dX3_isOneOf_18 (by decide) (fun c4 => ?_) (fun c4 => ?_)
    · have h := fw_ift h c4
      exact fw_sub [] rfl (c_Hall_isOneOf_b25 C  h)
    · have h := fw_iff h c4
      refine fw_iconst (pc := 21) C (v := 1) dX3_isOneOf_21 fk_iconst_1 ?_
      refine fw_goto (pc := 22) C (tgt := 26) dX3_isOneOf_22 (by decide) ?_
      exact fw_sub [] rfl (c_Hall_isOneOf_b26 C  h)
theorem c_Hall_isOneOf {l : Launch} {D : va_G} {cI cZ cH cR : ClassId} {N : Nat} {ad : Nat → Nat} {EE : fw_M → Nat → va_E} {M : fw_M} {a0 : Int32} {a1 : Int32} {z : Int32} (h : P_Hall_isOneOf M a0 a1 = some z) : fw_Met l yX3_isOneOf wsX3_isOneOf rm_Hall_isOneOf D vwCl (fw_tys cI cZ cH cR) N ad fw_nw0 EE [.int a0, .int a1] M (some (.int z)) M := by
  unfold P_Hall_isOneOf at h
  exact fw_intro (cc := cX3_isOneOf) (maxL := 2) (ret := some .boolean) (own := RX3) (by decide) rfl rfl (Nat.le_of_ble_eq_true rfl) (fun p e s m args below meth c C => fw_sub [0, 1] rfl (c_Hall_isOneOf_b0 C  h))
abbrev rm_Hall_become : Room := { frames := 1, cells := 0, slots := 0, locals := 48 }
theorem hd_Hall_become : yX3_become.cls = RX3 ∧ yX3_become.cls ≠ "java/lang/invoke/MethodHandle" ∧ yX3_become.cls ≠ "java/lang/invoke/VarHandle" ∧ (parseMethodDescriptor yX3_become.desc).map (fun d => d.parameters.length) = some 1 := by decide +kernel
theorem qX3_become_9 : fw_G wsX3_become RX3 9 RX3 TX3 9 0 := ⟨by decide +kernel, by decide +kernel, by decide⟩
theorem qX3_become_15 : fw_G wsX3_become RX3 15 RX3 TX3 9 1 := ⟨by decide +kernel, by decide +kernel, by decide⟩
theorem qX3_become_18 : fw_G wsX3_become RX3 18 RX3 TX3 9 2 := ⟨by decide +kernel, by decide +kernel, by decide⟩
theorem qX3_become_21 : fw_G wsX3_become RX3 21 RX3 TX3 9 3 := ⟨by decide +kernel, by decide +kernel, by decide⟩
theorem qX3_become_24 : fw_G wsX3_become RX3 24 RX3 TX3 9 4 := ⟨by decide +kernel, by decide +kernel, by decide⟩
theorem kcX3_become_47 : Cond.methodLink RX3 47 arraycopyName ∈ wsX3_become ∧ Cond.native arraycopyName ∈ wsX3_become ∧ Cond.static arraycopyName ∈ wsX3_become ∧ Cond.initialized "java/lang/System" ∈ wsX3_become := by decide +kernel
theorem qX3_become_28 : fw_G wsX3_become RX3 28 RX3 TX3 9 5 := ⟨by decide +kernel, by decide +kernel, by decide⟩
theorem qX3_become_31 : fw_G wsX3_become RX3 31 RX3 TX3 9 6 := ⟨by decide +kernel, by decide +kernel, by decide⟩
theorem qX3_become_34 : fw_G wsX3_become RX3 34 RX3 TX3 9 7 := ⟨by decide +kernel, by decide +kernel, by decide⟩
theorem qX3_become_37 : fw_G wsX3_become RX3 37 RX3 TX3 9 8 := ⟨by decide +kernel, by decide +kernel, by decide⟩
def P_Hall_become_b0 (o : Nat) (r0 : Nat) (M : fw_M) : Option fw_M := fw_pl (fw_set M o 0 (M r0 0)) fun M1 => fw_pl (fw_set M1 o 1 (M1 r0 1)) fun M2 => fw_pl (fw_set M2 o 2 (M2 r0 2)) fun M3 => fw_pl (fw_set M3 o 3 (M3 r0 3)) fun M4 => (fw_cpy M4 (r0 + 1) 7 (0 : Int32) (o + 1) 7 (0 : Int32) (7 : Int32)).bind fun M5 => (fw_cpy M5 (r0 + 2) 7 (0 : Int32) (o + 2) 7 (0 : Int32) (7 : Int32)).bind fun M6 => (fw_cpy M6 (r0 + 3) 7 (0 : Int32) (o + 3) 7 (0 : Int32) (7 : Int32)).bind fun M7 => (fw_cpy M7 (r0 + 4) 7 (0 : Int32) (o + 4) 7 (0 : Int32) (7 : Int32)).bind fun M8 => (fw_cpy M8 (r0 + 5) 7 (0 : Int32) (o + 5) 7 (0 : Int32) (7 : Int32)).bind fun M9 => some M9
def P_Hall_become (o : Nat) (r0 : Nat) (M : fw_M) : Option fw_M := P_Hall_become_b0 o r0 M
set_option maxRecDepth 100000 in
theorem c_Hall_become_b0 {p : Program} {l : Launch} {e : Env} {s : State} {m : MethodId} {args : Array Value} {below : List Frame} {meth : Method} {c : Code} {D : va_G} {cI cZ cH cR : ClassId} {N : Nat} {ad : Nat → Nat} {EE : fw_M → Nat → va_E} {o : Nat} {r0 : Nat} {M : fw_M} {z : fw_M} (C : fw_C p s m args meth c cX3_become RX3 wsX3_become 2 (none) D vwCl (fw_tys cI cZ cH cR) N ad fw_nw0) (ho : o_Hall EE ad N cI cZ cH cR o) (hr0 : o_Hall EE ad N cI cZ cH cR r0) (h : P_Hall_become_b0 o r0 M = some z) : fw_J p l e (headSpec wsX3_become rm_Hall_become).room s m args below meth c D vwCl N ad EE 2 0 0 (fw_E below args s D vwCl N ad EE none z) M [(0, .ref (ad o)), (1, .ref (ad r0))] 0 [] := by
  unfold P_Hall_become_b0 at h
  refine fw_aload_n (pc := 0) C 0 dX3_become_0 rfl rfl ?_
  refine fw_aload_n (pc := 1) C 1 dX3_become_1 rfl rfl ?_
  refine fw_geti (pc := 2) C hr0.2.1 rfl qX3_become_9 dX3_become_2 ?_
  have h := fw_plh h
  refine fw_puti (pc := 5) C ho.2.1 rfl qX3_become_9 tyX3 tyX3_ok nmX3 rfl rfl dX3_become_5 ?_
  refine fw_aload_n (pc := 8) C 0 dX3_become_8 rfl rfl ?_
  refine fw_aload_n (pc := 9) C 1 dX3_become_9 rfl rfl ?_
  refine fw_geti (pc := 10) C hr0.2.2.1 rfl qX3_become_15 dX3_become_10 ?_
  have h := fw_plh h
  refine fw_puti (pc := 13) C ho.2.2.1 rfl qX3_become_15 tyX3 tyX3_ok nmX3 rfl rfl dX3_become_13 ?_
  refine fw_aload_n (pc := 16) C 0 dX3_become_16 rfl rfl ?_
  refine fw_aload_n (pc := 17) C 1 dX3_become_17 rfl rfl ?_
  refine fw_geti (pc := 18) C hr0.2.2.2.1 rfl qX3_become_18 dX3_become_18 ?_
  have h := fw_plh h
  refine fw_puti (pc := 21) C ho.2.2.2.1 rfl qX3_become_18 tyX3 tyX3_ok nmX3 rfl rfl dX3_become_21 ?_
  refine fw_aload_n (pc := 24) C 0 dX3_become_24 rfl rfl ?_
  refine fw_aload_n (pc := 25) C 1 dX3_become_25 rfl rfl ?_
  refine fw_geti (pc := 26) C hr0.2.2.2.2.1 rfl qX3_become_21 dX3_become_26 ?_
  have h := fw_plh h
  refine fw_puti (pc := 29) C ho.2.2.2.2.1 rfl qX3_become_21 tyX3 tyX3_ok nmX3 rfl rfl dX3_become_29 ?_
  refine fw_aload_n (pc := 32) C 1 dX3_become_32 rfl rfl ?_
  refine fw_getr (pc := 33) C hr0.2.2.2.2.2.1.1 rfl qX3_become_24 dX3_become_33 ?_
  refine fw_iconst (pc := 36) C (v := 0) dX3_become_36 fk_iconst_0 ?_
  refine fw_aload_n (pc := 37) C 0 dX3_become_37 rfl rfl ?_
  refine fw_getr (pc := 38) C ho.2.2.2.2.2.1.1 rfl qX3_become_24 dX3_become_38 ?_
  refine fw_iconst (pc := 41) C (v := 0) dX3_become_41 fk_iconst_0 ?_
  refine fw_bipush (pc := 42) C (v := 7) dX3_become_42 fk_bipush_7 ?_
  obtain ⟨M5, hM5, h⟩ := fw_bind h
  refine fw_copy (pc := 44) C 0 0 kcX3_become_47 hr0.2.2.2.2.2.1.2 ho.2.2.2.2.2.1.2 rfl rfl hM5 (Nat.le_of_ble_eq_true rfl) (Nat.le_of_ble_eq_true rfl) dX3_become_44 ?_
  refine fw_aload_n (pc := 47) C 1 dX3_become_47 rfl rfl ?_
  refine fw_getr (pc := 48) C hr0.2.2.2.2.2.2.1.1 rfl qX3_become_28 dX3_become_48 ?_
  refine fw_iconst (pc := 51) C (v := 0) dX3_become_51 fk_iconst_0 ?_
  refine fw_aload_n (pc := 52) C 0 dX3_become_52 rfl rfl ?_
  refine fw_getr (pc := 53) C ho.2.2.2.2.2.2.1.1 rfl qX3_become_28 dX3_become_53 ?_
  refine fw_iconst (pc := 56) C (v := 0) dX3_become_56 fk_iconst_0 ?_
  refine fw_bipush (pc := 57) C (v := 7) dX3_become_57 fk_bipush_7 ?_
  obtain ⟨M6, hM6, h⟩ := fw_bind h
  refine fw_copy (pc := 59) C 0 0 kcX3_become_47 hr0.2.2.2.2.2.2.1.2 ho.2.2.2.2.2.2.1.2 rfl rfl hM6 (Nat.le_of_ble_eq_true rfl) (Nat.le_of_ble_eq_true rfl) dX3_become_59 ?_
  refine fw_aload_n (pc := 62) C 1 dX3_become_62 rfl rfl ?_
  refine fw_getr (pc := 63) C hr0.2.2.2.2.2.2.2.1.1 rfl qX3_become_31 dX3_become_63 ?_
  refine fw_iconst (pc := 66) C (v := 0) dX3_become_66 fk_iconst_0 ?_
  refine fw_aload_n (pc := 67) C 0 dX3_become_67 rfl rfl ?_
  refine fw_getr (pc := 68) C ho.2.2.2.2.2.2.2.1.1 rfl qX3_become_31 dX3_become_68 ?_
  refine fw_iconst (pc := 71) C (v := 0) dX3_become_71 fk_iconst_0 ?_
  refine fw_bipush (pc := 72) C (v := 7) dX3_become_72 fk_bipush_7 ?_
  obtain ⟨M7, hM7, h⟩ := fw_bind h
  refine fw_copy (pc := 74) C 0 0 kcX3_become_47 hr0.2.2.2.2.2.2.2.1.2 ho.2.2.2.2.2.2.2.1.2 rfl rfl hM7 (Nat.le_of_ble_eq_true rfl) (Nat.le_of_ble_eq_true rfl) dX3_become_74 ?_
  refine fw_aload_n (pc := 77) C 1 dX3_become_77 rfl rfl ?_
  refine fw_getr (pc := 78) C hr0.2.2.2.2.2.2.2.2.1.1 rfl qX3_become_34 dX3_become_78 ?_
  refine fw_iconst (pc := 81) C (v := 0) dX3_become_81 fk_iconst_0 ?_
  refine fw_aload_n (pc := 82) C 0 dX3_become_82 rfl rfl ?_
  refine fw_getr (pc := 83) C ho.2.2.2.2.2.2.2.2.1.1 rfl qX3_become_34 dX3_become_83 ?_
  refine fw_iconst (pc := 86) C (v := 0) dX3_become_86 fk_iconst_0 ?_
  refine fw_bipush (pc := 87) C (v := 7) dX3_become_87 fk_bipush_7 ?_
  obtain ⟨M8, hM8, h⟩ := fw_bind h
  refine fw_copy (pc := 89) C 0 0 kcX3_become_47 hr0.2.2.2.2.2.2.2.2.1.2 ho.2.2.2.2.2.2.2.2.1.2 rfl rfl hM8 (Nat.le_of_ble_eq_true rfl) (Nat.le_of_ble_eq_true rfl) dX3_become_89 ?_
  refine fw_aload_n (pc := 92) C 1 dX3_become_92 rfl rfl ?_
  refine fw_getr (pc := 93) C hr0.2.2.2.2.2.2.2.2.2.1 rfl qX3_become_37 dX3_become_93 ?_
  refine fw_iconst (pc := 96) C (v := 0) dX3_become_96 fk_iconst_0 ?_
  refine fw_aload_n (pc := 97) C 0 dX3_become_97 rfl rfl ?_
  refine fw_getr (pc := 98) C ho.2.2.2.2.2.2.2.2.2.1 rfl qX3_become_37 dX3_become_98 ?_
  refine fw_iconst (pc := 101) C (v := 0) dX3_become_101 fk_iconst_0 ?_
  refine fw_bipush (pc := 102) C (v := 7) dX3_become_102 fk_bipush_7 ?_
  obtain ⟨M9, hM9, h⟩ := fw_bind h
  refine fw_copy (pc := 104) C 0 0 kcX3_become_47 hr0.2.2.2.2.2.2.2.2.2.2 ho.2.2.2.2.2.2.2.2.2.2 rfl rfl hM9 (Nat.le_of_ble_eq_true rfl) (Nat.le_of_ble_eq_true rfl) dX3_become_104 ?_
  exact fw_vret (pc := 107) C (Option.some.inj h) dX3_become_107
theorem c_Hall_become {l : Launch} {D : va_G} {cI cZ cH cR : ClassId} {N : Nat} {ad : Nat → Nat} {EE : fw_M → Nat → va_E} {o : Nat} {r0 : Nat} {M : fw_M} {z : fw_M} (ho : o_Hall EE ad N cI cZ cH cR o) (hr0 : o_Hall EE ad N cI cZ cH cR r0) (h : P_Hall_become o r0 M = some z) : fw_Met l yX3_become wsX3_become rm_Hall_become D vwCl (fw_tys cI cZ cH cR) N ad fw_nw0 EE [.ref (ad o), .ref (ad r0)] M none z := by
  unfold P_Hall_become at h
  exact fw_intro (cc := cX3_become) (maxL := 2) (ret := none) (own := RX3) (by decide) rfl rfl (Nat.le_of_ble_eq_true rfl) (fun p e s m args below meth c C => fw_sub [0, 1] rfl (c_Hall_become_b0 C ho hr0 h))
abbrev rm_Hall_begin : Room := { frames := 0, cells := 0, slots := 0, locals := 0 }
theorem hd_Hall_begin : yX3_begin.cls = RX3 ∧ yX3_begin.cls ≠ "java/lang/invoke/MethodHandle" ∧ yX3_begin.cls ≠ "java/lang/invoke/VarHandle" ∧ (parseMethodDescriptor yX3_begin.desc).map (fun d => d.parameters.length) = some 2 := by decide +kernel
theorem qX3_begin_9 : fw_G wsX3_begin RX3 9 RX3 TX3 9 0 := ⟨by decide +kernel, by decide +kernel, by decide⟩
theorem qX3_begin_15 : fw_G wsX3_begin RX3 15 RX3 TX3 9 1 := ⟨by decide +kernel, by decide +kernel, by decide⟩
theorem qX3_begin_18 : fw_G wsX3_begin RX3 18 RX3 TX3 9 2 := ⟨by decide +kernel, by decide +kernel, by decide⟩
theorem qX3_begin_21 : fw_G wsX3_begin RX3 21 RX3 TX3 9 3 := ⟨by decide +kernel, by decide +kernel, by decide⟩
def P_Hall_begin_b0 (o : Nat) (M : fw_M) (x1 : Int32) (x2 : Int32) : Option fw_M := fw_pl (fw_set M o 0 x1) fun M1 => fw_pl (fw_set M1 o 1 x2) fun M2 => fw_pl (fw_set M2 o 2 (0 : Int32)) fun M3 => fw_pl (fw_set M3 o 3 (0 : Int32)) fun M4 => some M4
def P_Hall_begin (o : Nat) (M : fw_M) (a0 : Int32) (a1 : Int32) : Option fw_M := P_Hall_begin_b0 o M a0 a1
set_option maxRecDepth 100000 in
theorem c_Hall_begin_b0 {p : Program} {l : Launch} {e : Env} {s : State} {m : MethodId} {args : Array Value} {below : List Frame} {meth : Method} {c : Code} {D : va_G} {cI cZ cH cR : ClassId} {N : Nat} {ad : Nat → Nat} {EE : fw_M → Nat → va_E} {o : Nat} {M : fw_M} {x1 : Int32} {x2 : Int32} {z : fw_M} (C : fw_C p s m args meth c cX3_begin RX3 wsX3_begin 3 (none) D vwCl (fw_tys cI cZ cH cR) N ad fw_nw0) (ho : o_Hall EE ad N cI cZ cH cR o) (h : P_Hall_begin_b0 o M x1 x2 = some z) : fw_J p l e (headSpec wsX3_begin rm_Hall_begin).room s m args below meth c D vwCl N ad EE 3 0 0 (fw_E below args s D vwCl N ad EE none z) M [(0, .ref (ad o)), (1, .int x1), (2, .int x2)] 0 [] := by
  unfold P_Hall_begin_b0 at h
  refine fw_aload_n (pc := 0) C 0 dX3_begin_0 rfl rfl ?_
  refine fw_iload_n (pc := 1) C 1 dX3_begin_1 rfl rfl ?_
  have h := fw_plh h
  refine fw_puti (pc := 2) C ho.2.1 rfl qX3_begin_9 tyX3 tyX3_ok nmX3 rfl rfl dX3_begin_2 ?_
  refine fw_aload_n (pc := 5) C 0 dX3_begin_5 rfl rfl ?_
  refine fw_iload_n (pc := 6) C 2 dX3_begin_6 rfl rfl ?_
  have h := fw_plh h
  refine fw_puti (pc := 7) C ho.2.2.1 rfl qX3_begin_15 tyX3 tyX3_ok nmX3 rfl rfl dX3_begin_7 ?_
  refine fw_aload_n (pc := 10) C 0 dX3_begin_10 rfl rfl ?_
  refine fw_iconst (pc := 11) C (v := 0) dX3_begin_11 fk_iconst_0 ?_
  have h := fw_plh h
  refine fw_puti (pc := 12) C ho.2.2.2.1 rfl qX3_begin_18 tyX3 tyX3_ok nmX3 rfl rfl dX3_begin_12 ?_
  refine fw_aload_n (pc := 15) C 0 dX3_begin_15 rfl rfl ?_
  refine fw_iconst (pc := 16) C (v := 0) dX3_begin_16 fk_iconst_0 ?_
  have h := fw_plh h
  refine fw_puti (pc := 17) C ho.2.2.2.2.1 rfl qX3_begin_21 tyX3 tyX3_ok nmX3 rfl rfl dX3_begin_17 ?_
  exact fw_vret (pc := 20) C (Option.some.inj h) dX3_begin_20
theorem c_Hall_begin {l : Launch} {D : va_G} {cI cZ cH cR : ClassId} {N : Nat} {ad : Nat → Nat} {EE : fw_M → Nat → va_E} {o : Nat} {M : fw_M} {a0 : Int32} {a1 : Int32} {z : fw_M} (ho : o_Hall EE ad N cI cZ cH cR o) (h : P_Hall_begin o M a0 a1 = some z) : fw_Met l yX3_begin wsX3_begin rm_Hall_begin D vwCl (fw_tys cI cZ cH cR) N ad fw_nw0 EE [.ref (ad o), .int a0, .int a1] M none z := by
  unfold P_Hall_begin at h
  exact fw_intro (cc := cX3_begin) (maxL := 3) (ret := none) (own := RX3) (by decide) rfl rfl (Nat.le_of_ble_eq_true rfl) (fun p e s m args below meth c C => fw_sub [0, 1, 2] rfl (c_Hall_begin_b0 C ho h))
abbrev rm_Hall_admit : Room := { frames := 0, cells := 0, slots := 0, locals := 0 }
theorem hd_Hall_admit : yX3_admit.cls = RX3 ∧ yX3_admit.cls ≠ "java/lang/invoke/MethodHandle" ∧ yX3_admit.cls ≠ "java/lang/invoke/VarHandle" ∧ (parseMethodDescriptor yX3_admit.desc).map (fun d => d.parameters.length) = some 4 := by decide +kernel
theorem qX3_admit_18 : fw_G wsX3_admit RX3 18 RX3 TX3 9 2 := ⟨by decide +kernel, by decide +kernel, by decide⟩
theorem qX3_admit_24 : fw_G wsX3_admit RX3 24 RX3 TX3 9 4 := ⟨by decide +kernel, by decide +kernel, by decide⟩
theorem qX3_admit_28 : fw_G wsX3_admit RX3 28 RX3 TX3 9 5 := ⟨by decide +kernel, by decide +kernel, by decide⟩
theorem qX3_admit_31 : fw_G wsX3_admit RX3 31 RX3 TX3 9 6 := ⟨by decide +kernel, by decide +kernel, by decide⟩
theorem qX3_admit_34 : fw_G wsX3_admit RX3 34 RX3 TX3 9 7 := ⟨by decide +kernel, by decide +kernel, by decide⟩
theorem qX3_admit_37 : fw_G wsX3_admit RX3 37 RX3 TX3 9 8 := ⟨by decide +kernel, by decide +kernel, by decide⟩
def P_Hall_admit_b0 (o : Nat) (M : fw_M) (x1 : Int32) (x2 : Int32) (x3 : Int32) (x4 : Int32) : Option fw_M := (if (M o 2) < (7 : Int32) then (fw_ast M (o + 1) 7 (M o 2) x1).bind fun M2 => (fw_ast M2 (o + 2) 7 (M2 o 2) x2).bind fun M3 => (fw_ast M3 (o + 3) 7 (M3 o 2) x3).bind fun M4 => (fw_ast M4 (o + 4) 7 (M4 o 2) x4).bind fun M5 => (fw_ast M5 (o + 5) 7 (M5 o 2) (0 : Int32)).bind fun M6 => fw_pl (fw_set M6 o 2 ((M6 o 2) + (1 : Int32))) fun M7 => some M7 else some M)
def P_Hall_admit (o : Nat) (M : fw_M) (a0 : Int32) (a1 : Int32) (a2 : Int32) (a3 : Int32) : Option fw_M := P_Hall_admit_b0 o M a0 a1 a2 a3
set_option maxRecDepth 100000 in
theorem c_Hall_admit_b0 {p : Program} {l : Launch} {e : Env} {s : State} {m : MethodId} {args : Array Value} {below : List Frame} {meth : Method} {c : Code} {D : va_G} {cI cZ cH cR : ClassId} {N : Nat} {ad : Nat → Nat} {EE : fw_M → Nat → va_E} {o : Nat} {M : fw_M} {x1 : Int32} {x2 : Int32} {x3 : Int32} {x4 : Int32} {z : fw_M} (C : fw_C p s m args meth c cX3_admit RX3 wsX3_admit 5 (none) D vwCl (fw_tys cI cZ cH cR) N ad fw_nw0) (ho : o_Hall EE ad N cI cZ cH cR o) (h : P_Hall_admit_b0 o M x1 x2 x3 x4 = some z) : fw_J p l e (headSpec wsX3_admit rm_Hall_admit).room s m args below meth c D vwCl N ad EE 5 0 0 (fw_E below args s D vwCl N ad EE none z) M [(0, .ref (ad o)), (1, .int x1), (2, .int x2), (3, .int x3), (4, .int x4)] 0 [] := by
  unfold P_Hall_admit_b0 at h
  refine fw_aload_n (pc := 0) C 0 dX3_admit_0 rfl rfl ?_
  refine fw_geti (pc := 1) C ho.2.2.2.1 rfl qX3_admit_18 dX3_admit_1 ?_
  refine fw_bipush (pc := 4) C (v := 7) dX3_admit_4 fk_bipush_7 ?_
  refine fw_icmp_lt (pc := 6) C (tgt := 10) dX3_admit_6 (by decide) (fun c1 => ?_) (fun c1 => ?_)
  · have h := fw_ift h c1
    refine fw_aload_n (pc := 10) C 0 dX3_admit_10 rfl rfl ?_
    refine fw_getr (pc := 11) C ho.2.2.2.2.2.1.1 rfl qX3_admit_24 dX3_admit_11 ?_
    refine fw_aload_n (pc := 14) C 0 dX3_admit_14 rfl rfl ?_
    refine fw_geti (pc := 15) C ho.2.2.2.1 rfl qX3_admit_18 dX3_admit_15 ?_
    refine fw_iload_n (pc := 18) C 1 dX3_admit_18 rfl rfl ?_
    obtain ⟨M2, hM2, h⟩ := fw_bind h
    refine fw_iast (pc := 19) C 0 ho.2.2.2.2.2.1.2 rfl hM2 dX3_admit_19 ?_
    refine fw_aload_n (pc := 20) C 0 dX3_admit_20 rfl rfl ?_
    refine fw_getr (pc := 21) C ho.2.2.2.2.2.2.1.1 rfl qX3_admit_28 dX3_admit_21 ?_
    refine fw_aload_n (pc := 24) C 0 dX3_admit_24 rfl rfl ?_
    refine fw_geti (pc := 25) C ho.2.2.2.1 rfl qX3_admit_18 dX3_admit_25 ?_
    refine fw_iload_n (pc := 28) C 2 dX3_admit_28 rfl rfl ?_
    obtain ⟨M3, hM3, h⟩ := fw_bind h
    refine fw_iast (pc := 29) C 0 ho.2.2.2.2.2.2.1.2 rfl hM3 dX3_admit_29 ?_
    refine fw_aload_n (pc := 30) C 0 dX3_admit_30 rfl rfl ?_
    refine fw_getr (pc := 31) C ho.2.2.2.2.2.2.2.1.1 rfl qX3_admit_31 dX3_admit_31 ?_
    refine fw_aload_n (pc := 34) C 0 dX3_admit_34 rfl rfl ?_
    refine fw_geti (pc := 35) C ho.2.2.2.1 rfl qX3_admit_18 dX3_admit_35 ?_
    refine fw_iload_n (pc := 38) C 3 dX3_admit_38 rfl rfl ?_
    obtain ⟨M4, hM4, h⟩ := fw_bind h
    refine fw_iast (pc := 39) C 0 ho.2.2.2.2.2.2.2.1.2 rfl hM4 dX3_admit_39 ?_
    refine fw_aload_n (pc := 40) C 0 dX3_admit_40 rfl rfl ?_
    refine fw_getr (pc := 41) C ho.2.2.2.2.2.2.2.2.1.1 rfl qX3_admit_34 dX3_admit_41 ?_
    refine fw_aload_n (pc := 44) C 0 dX3_admit_44 rfl rfl ?_
    refine fw_geti (pc := 45) C ho.2.2.2.1 rfl qX3_admit_18 dX3_admit_45 ?_
    refine fw_iload (pc := 48) C 4 dX3_admit_48 rfl ?_
    obtain ⟨M5, hM5, h⟩ := fw_bind h
    refine fw_iast (pc := 50) C 0 ho.2.2.2.2.2.2.2.2.1.2 rfl hM5 dX3_admit_50 ?_
    refine fw_aload_n (pc := 51) C 0 dX3_admit_51 rfl rfl ?_
    refine fw_getr (pc := 52) C ho.2.2.2.2.2.2.2.2.2.1 rfl qX3_admit_37 dX3_admit_52 ?_
    refine fw_aload_n (pc := 55) C 0 dX3_admit_55 rfl rfl ?_
    refine fw_geti (pc := 56) C ho.2.2.2.1 rfl qX3_admit_18 dX3_admit_56 ?_
    refine fw_iconst (pc := 59) C (v := 0) dX3_admit_59 fk_iconst_0 ?_
    obtain ⟨M6, hM6, h⟩ := fw_bind h
    refine fw_iast (pc := 60) C 0 ho.2.2.2.2.2.2.2.2.2.2 rfl hM6 dX3_admit_60 ?_
    refine fw_aload_n (pc := 61) C 0 dX3_admit_61 rfl rfl ?_
    refine fw_dup (pc := 62) C dX3_admit_62 rfl ?_
    refine fw_geti (pc := 63) C ho.2.2.2.1 rfl qX3_admit_18 dX3_admit_63 ?_
    refine fw_iconst (pc := 66) C (v := 1) dX3_admit_66 fk_iconst_1 ?_
    refine fw_iadd (pc := 67) C dX3_admit_67 ?_
    have h := fw_plh h
    refine fw_puti (pc := 68) C ho.2.2.2.1 rfl qX3_admit_18 tyX3 tyX3_ok nmX3 rfl rfl dX3_admit_68 ?_
    exact fw_vret (pc := 71) C (Option.some.inj h) dX3_admit_71
  · have h := fw_iff h c1
    exact fw_vret (pc := 9) C (Option.some.inj h) dX3_admit_9
theorem c_Hall_admit {l : Launch} {D : va_G} {cI cZ cH cR : ClassId} {N : Nat} {ad : Nat → Nat} {EE : fw_M → Nat → va_E} {o : Nat} {M : fw_M} {a0 : Int32} {a1 : Int32} {a2 : Int32} {a3 : Int32} {z : fw_M} (ho : o_Hall EE ad N cI cZ cH cR o) (h : P_Hall_admit o M a0 a1 a2 a3 = some z) : fw_Met l yX3_admit wsX3_admit rm_Hall_admit D vwCl (fw_tys cI cZ cH cR) N ad fw_nw0 EE [.ref (ad o), .int a0, .int a1, .int a2, .int a3] M none z := by
  unfold P_Hall_admit at h
  exact fw_intro (cc := cX3_admit) (maxL := 5) (ret := none) (own := RX3) (by decide) rfl rfl (Nat.le_of_ble_eq_true rfl) (fun p e s m args below meth c C => fw_sub [0, 1, 2, 3, 4] rfl (c_Hall_admit_b0 C ho h))
abbrev rm_Hall_waitingAt : Room := { frames := 0, cells := 0, slots := 0, locals := 0 }
theorem hd_Hall_waitingAt : yX3_waitingAt.cls = RX3 ∧ yX3_waitingAt.cls ≠ "java/lang/invoke/MethodHandle" ∧ yX3_waitingAt.cls ≠ "java/lang/invoke/VarHandle" ∧ (parseMethodDescriptor yX3_waitingAt.desc).map (fun d => d.parameters.length) = some 1 := by decide +kernel
theorem qX3_waitingAt_18 : fw_G wsX3_waitingAt RX3 18 RX3 TX3 9 2 := ⟨by decide +kernel, by decide +kernel, by decide⟩
theorem qX3_waitingAt_34 : fw_G wsX3_waitingAt RX3 34 RX3 TX3 9 7 := ⟨by decide +kernel, by decide +kernel, by decide⟩
def P_Hall_waitingAt_b28 (o : Nat) (M : fw_M) (K4 : Int32 → Int32 → Int32 → Option Int32) (x1 : Int32) (x2 : Int32) (x3 : Int32) : Option Int32 := K4 x1 x2 (x3 + (1 : Int32))
def P_Hall_waitingAt_b4 (o : Nat) (M : fw_M) (K4 : Int32 → Int32 → Int32 → Option Int32) (x1 : Int32) (x2 : Int32) (x3 : Int32) : Option Int32 := (if (M o 2) ≤ x3 then some x2 else (fw_ald M (o + 4) 7 x3).bind fun v2 => (if v2 = x1 then fw_pl ((x2 ||| ((1 : Int32) <<< (x3 &&& 31)))) fun y4 => P_Hall_waitingAt_b28 o M K4 x1 y4 x3 else P_Hall_waitingAt_b28 o M K4 x1 x2 x3))
def P_Hall_waitingAt_h4 (o : Nat) (M : fw_M) : Nat → Int32 → Int32 → Int32 → Option Int32
  | 0, _, _, _ => none
  | n + 1, x1, x2, x3 => P_Hall_waitingAt_b4 o M (P_Hall_waitingAt_h4 o M n) x1 x2 x3
def P_Hall_waitingAt_b0 (o : Nat) (M : fw_M) (x1 : Int32) : Option Int32 := P_Hall_waitingAt_h4 o M fw_fu x1 (0 : Int32) (0 : Int32)
def P_Hall_waitingAt (o : Nat) (M : fw_M) (a0 : Int32) : Option Int32 := P_Hall_waitingAt_b0 o M a0
set_option maxRecDepth 100000 in
theorem c_Hall_waitingAt_b28 {p : Program} {l : Launch} {e : Env} {s : State} {m : MethodId} {args : Array Value} {below : List Frame} {meth : Method} {c : Code} {D : va_G} {cI cZ cH cR : ClassId} {N : Nat} {ad : Nat → Nat} {EE : fw_M → Nat → va_E} {o : Nat} {M : fw_M} {K4 : Int32 → Int32 → Int32 → Option Int32} {x1 : Int32} {x2 : Int32} {x3 : Int32} {z : Int32} (C : fw_C p s m args meth c cX3_waitingAt RX3 wsX3_waitingAt 4 (some .int) D vwCl (fw_tys cI cZ cH cR) N ad fw_nw0) (ho : o_Hall EE ad N cI cZ cH cR o) (hK4 : ∀ (kx1 : Int32) (kx2 : Int32) (kx3 : Int32), K4 kx1 kx2 kx3 = some z → fw_J p l e (headSpec wsX3_waitingAt rm_Hall_waitingAt).room s m args below meth c D vwCl N ad EE 4 0 0 (fw_E below args s D vwCl N ad EE (some (.int z)) M) M [(0, .ref (ad o)), (1, .int kx1), (2, .int kx2), (3, .int kx3)] 4 []) (h : P_Hall_waitingAt_b28 o M K4 x1 x2 x3 = some z) : fw_J p l e (headSpec wsX3_waitingAt rm_Hall_waitingAt).room s m args below meth c D vwCl N ad EE 4 0 0 (fw_E below args s D vwCl N ad EE (some (.int z)) M) M [(0, .ref (ad o)), (1, .int x1), (2, .int x2), (3, .int x3)] 28 [] := by
  unfold P_Hall_waitingAt_b28 at h
  refine fw_iinc (pc := 28) C (v := 1) (L2 := [(0, .ref _), (1, .int _), (2, .int _), (3, .int _)]) 3 [1, 2, 3, 0] dX3_waitingAt_28 rfl fk_iconst_1 (by decide) rfl ?_
  refine fw_goto (pc := 31) C (tgt := 4) dX3_waitingAt_31 (by decide) ?_
  exact (hK4 _ _ _ h)
set_option maxRecDepth 100000 in
theorem c_Hall_waitingAt_b4 {p : Program} {l : Launch} {e : Env} {s : State} {m : MethodId} {args : Array Value} {below : List Frame} {meth : Method} {c : Code} {D : va_G} {cI cZ cH cR : ClassId} {N : Nat} {ad : Nat → Nat} {EE : fw_M → Nat → va_E} {o : Nat} {M : fw_M} {K4 : Int32 → Int32 → Int32 → Option Int32} {x1 : Int32} {x2 : Int32} {x3 : Int32} {z : Int32} (C : fw_C p s m args meth c cX3_waitingAt RX3 wsX3_waitingAt 4 (some .int) D vwCl (fw_tys cI cZ cH cR) N ad fw_nw0) (ho : o_Hall EE ad N cI cZ cH cR o) (hK4 : ∀ (kx1 : Int32) (kx2 : Int32) (kx3 : Int32), K4 kx1 kx2 kx3 = some z → fw_J p l e (headSpec wsX3_waitingAt rm_Hall_waitingAt).room s m args below meth c D vwCl N ad EE 4 0 0 (fw_E below args s D vwCl N ad EE (some (.int z)) M) M [(0, .ref (ad o)), (1, .int kx1), (2, .int kx2), (3, .int kx3)] 4 []) (h : P_Hall_waitingAt_b4 o M K4 x1 x2 x3 = some z) : fw_J p l e (headSpec wsX3_waitingAt rm_Hall_waitingAt).room s m args below meth c D vwCl N ad EE 4 0 0 (fw_E below args s D vwCl N ad EE (some (.int z)) M) M [(0, .ref (ad o)), (1, .int x1), (2, .int x2), (3, .int x3)] 4 [] := by
  unfold P_Hall_waitingAt_b4 at h
  refine fw_iload_n (pc := 4) C 3 dX3_waitingAt_4 rfl rfl ?_
  refine fw_aload_n (pc := 5) C 0 dX3_waitingAt_5 rfl rfl ?_
  refine fw_geti (pc := 6) C ho.2.2.2.1 rfl qX3_waitingAt_18 dX3_waitingAt_6 ?_
  refine fw_icmp_ge (pc := 9) C (tgt := 34) dX3_waitingAt_9 (by decide) (fun c1 => ?_) (fun c1 => ?_)
  · have h := fw_ift h c1
    refine fw_iload_n (pc := 34) C 2 dX3_waitingAt_34 rfl rfl ?_
    exact fw_iret (pc := 35) C (Option.some.inj h) rfl dX3_waitingAt_35
  · have h := fw_iff h c1
    refine fw_aload_n (pc := 12) C 0 dX3_waitingAt_12 rfl rfl ?_
    refine fw_getr (pc := 13) C ho.2.2.2.2.2.2.2.2.1.1 rfl qX3_waitingAt_34 dX3_waitingAt_13 ?_
    refine fw_iload_n (pc := 16) C 3 dX3_waitingAt_16 rfl rfl ?_
    obtain ⟨v2, hv2, h⟩ := fw_bind h
    refine fw_iald (pc := 17) C 0 ho.2.2.2.2.2.2.2.2.1.2 rfl hv2 dX3_waitingAt_17 ?_
    refine fw_iload_n (pc := 18) C 1 dX3_waitingAt_18 rfl rfl ?_
    refine fw_icmp_ne (pc := 19) C (tgt := 28) dX3_waitingAt_19 (by decide) (fun c3 => ?_) (fun c3 => ?_)
    · have h := fw_iff h c3
      exact (c_Hall_waitingAt_b28 C ho hK4 h)
    · have h := fw_ift h c3
      refine fw_iload_n (pc := 22) C 2 dX3_waitingAt_22 rfl rfl ?_
      refine fw_iconst (pc := 23) C (v := 1) dX3_waitingAt_23 fk_iconst_1 ?_
      refine fw_iload_n (pc := 24) C 3 dX3_waitingAt_24 rfl rfl ?_
      refine fw_ishl (pc := 25) C dX3_waitingAt_25 ?_
      refine fw_ior (pc := 26) C dX3_waitingAt_26 ?_
      have h := fw_plh h
      refine fw_istore_n (pc := 27) C (L2 := [(0, .ref _), (1, .int _), (2, .int _), (3, .int _)]) [1, 2, 0, 3] dX3_waitingAt_27 rfl (by decide) rfl ?_
      exact (c_Hall_waitingAt_b28 C ho hK4 h)
theorem c_Hall_waitingAt_h4 {p : Program} {l : Launch} {e : Env} {s : State} {m : MethodId} {args : Array Value} {below : List Frame} {meth : Method} {c : Code} {D : va_G} {cI cZ cH cR : ClassId} {N : Nat} {ad : Nat → Nat} {EE : fw_M → Nat → va_E} {o : Nat} {M : fw_M} {z : Int32} (C : fw_C p s m args meth c cX3_waitingAt RX3 wsX3_waitingAt 4 (some .int) D vwCl (fw_tys cI cZ cH cR) N ad fw_nw0) (ho : o_Hall EE ad N cI cZ cH cR o) : ∀ (n : Nat) (x1 : Int32) (x2 : Int32) (x3 : Int32), P_Hall_waitingAt_h4 o M n x1 x2 x3 = some z → fw_J p l e (headSpec wsX3_waitingAt rm_Hall_waitingAt).room s m args below meth c D vwCl N ad EE 4 0 0 (fw_E below args s D vwCl N ad EE (some (.int z)) M) M [(0, .ref (ad o)), (1, .int x1), (2, .int x2), (3, .int x3)] 4 [] := by
  intro n
  induction n with
  | zero => intro x1 x2 x3  h; cases h
  | succ n ih => intro x1 x2 x3  h; exact c_Hall_waitingAt_b4 C ho ih  h
set_option maxRecDepth 100000 in
theorem c_Hall_waitingAt_b0 {p : Program} {l : Launch} {e : Env} {s : State} {m : MethodId} {args : Array Value} {below : List Frame} {meth : Method} {c : Code} {D : va_G} {cI cZ cH cR : ClassId} {N : Nat} {ad : Nat → Nat} {EE : fw_M → Nat → va_E} {o : Nat} {M : fw_M} {x1 : Int32} {z : Int32} (C : fw_C p s m args meth c cX3_waitingAt RX3 wsX3_waitingAt 4 (some .int) D vwCl (fw_tys cI cZ cH cR) N ad fw_nw0) (ho : o_Hall EE ad N cI cZ cH cR o) (h : P_Hall_waitingAt_b0 o M x1 = some z) : fw_J p l e (headSpec wsX3_waitingAt rm_Hall_waitingAt).room s m args below meth c D vwCl N ad EE 4 0 0 (fw_E below args s D vwCl N ad EE (some (.int z)) M) M [(0, .ref (ad o)), (1, .int x1)] 0 [] := by
  unfold P_Hall_waitingAt_b0 at h
  refine fw_iconst (pc := 0) C (v := 0) dX3_waitingAt_0 fk_iconst_0 ?_
  refine fw_istore_n (pc := 1) C (L2 := [(0, .ref _), (1, .int _), (2, .int _)]) [1, 2, 0] dX3_waitingAt_1 rfl (by decide) rfl ?_
  refine fw_iconst (pc := 2) C (v := 0) dX3_waitingAt_2 fk_iconst_0 ?_
  refine fw_istore_n (pc := 3) C (L2 := [(0, .ref _), (1, .int _), (2, .int _), (3, .int _)]) [1, 2, 3, 0] dX3_waitingAt_3 rfl (by decide) rfl ?_
  exact (c_Hall_waitingAt_h4 C ho _ _ _ _ h)
theorem c_Hall_waitingAt {l : Launch} {D : va_G} {cI cZ cH cR : ClassId} {N : Nat} {ad : Nat → Nat} {EE : fw_M → Nat → va_E} {o : Nat} {M : fw_M} {a0 : Int32} {z : Int32} (ho : o_Hall EE ad N cI cZ cH cR o) (h : P_Hall_waitingAt o M a0 = some z) : fw_Met l yX3_waitingAt wsX3_waitingAt rm_Hall_waitingAt D vwCl (fw_tys cI cZ cH cR) N ad fw_nw0 EE [.ref (ad o), .int a0] M (some (.int z)) M := by
  unfold P_Hall_waitingAt at h
  exact fw_intro (cc := cX3_waitingAt) (maxL := 4) (ret := some .int) (own := RX3) (by decide) rfl rfl (Nat.le_of_ble_eq_true rfl) (fun p e s m args below meth c C => fw_sub [0, 1] rfl (c_Hall_waitingAt_b0 C ho h))
abbrev rm_Hall_nobodies : Room := { frames := 0, cells := 0, slots := 0, locals := 0 }
theorem hd_Hall_nobodies : yX3_nobodies.cls = RX3 ∧ yX3_nobodies.cls ≠ "java/lang/invoke/MethodHandle" ∧ yX3_nobodies.cls ≠ "java/lang/invoke/VarHandle" ∧ (parseMethodDescriptor yX3_nobodies.desc).map (fun d => d.parameters.length) = some 0 := by decide +kernel
theorem qX3_nobodies_18 : fw_G wsX3_nobodies RX3 18 RX3 TX3 9 2 := ⟨by decide +kernel, by decide +kernel, by decide⟩
theorem qX3_nobodies_37 : fw_G wsX3_nobodies RX3 37 RX3 TX3 9 8 := ⟨by decide +kernel, by decide +kernel, by decide⟩
def P_Hall_nobodies_b27 (o : Nat) (M : fw_M) (K4 : Int32 → Int32 → Option Int32) (x1 : Int32) (x2 : Int32) : Option Int32 := K4 x1 (x2 + (1 : Int32))
def P_Hall_nobodies_b4 (o : Nat) (M : fw_M) (K4 : Int32 → Int32 → Option Int32) (x1 : Int32) (x2 : Int32) : Option Int32 := (if (M o 2) ≤ x2 then some x1 else (fw_ald M (o + 5) 7 x2).bind fun v2 => (if v2 ≤ (0 : Int32) then P_Hall_nobodies_b27 o M K4 x1 x2 else fw_pl ((x1 ||| ((1 : Int32) <<< (x2 &&& 31)))) fun y4 => P_Hall_nobodies_b27 o M K4 y4 x2))
def P_Hall_nobodies_h4 (o : Nat) (M : fw_M) : Nat → Int32 → Int32 → Option Int32
  | 0, _, _ => none
  | n + 1, x1, x2 => P_Hall_nobodies_b4 o M (P_Hall_nobodies_h4 o M n) x1 x2
def P_Hall_nobodies_b0 (o : Nat) (M : fw_M) : Option Int32 := P_Hall_nobodies_h4 o M fw_fu (0 : Int32) (0 : Int32)
def P_Hall_nobodies (o : Nat) (M : fw_M) : Option Int32 := P_Hall_nobodies_b0 o M
set_option maxRecDepth 100000 in
theorem c_Hall_nobodies_b27 {p : Program} {l : Launch} {e : Env} {s : State} {m : MethodId} {args : Array Value} {below : List Frame} {meth : Method} {c : Code} {D : va_G} {cI cZ cH cR : ClassId} {N : Nat} {ad : Nat → Nat} {EE : fw_M → Nat → va_E} {o : Nat} {M : fw_M} {K4 : Int32 → Int32 → Option Int32} {x1 : Int32} {x2 : Int32} {z : Int32} (C : fw_C p s m args meth c cX3_nobodies RX3 wsX3_nobodies 3 (some .int) D vwCl (fw_tys cI cZ cH cR) N ad fw_nw0) (ho : o_Hall EE ad N cI cZ cH cR o) (hK4 : ∀ (kx1 : Int32) (kx2 : Int32), K4 kx1 kx2 = some z → fw_J p l e (headSpec wsX3_nobodies rm_Hall_nobodies).room s m args below meth c D vwCl N ad EE 3 0 0 (fw_E below args s D vwCl N ad EE (some (.int z)) M) M [(0, .ref (ad o)), (1, .int kx1), (2, .int kx2)] 4 []) (h : P_Hall_nobodies_b27 o M K4 x1 x2 = some z) : fw_J p l e (headSpec wsX3_nobodies rm_Hall_nobodies).room s m args below meth c D vwCl N ad EE 3 0 0 (fw_E below args s D vwCl N ad EE (some (.int z)) M) M [(0, .ref (ad o)), (1, .int x1), (2, .int x2)] 27 [] := by
  unfold P_Hall_nobodies_b27 at h
  refine fw_iinc (pc := 27) C (v := 1) (L2 := [(0, .ref _), (1, .int _), (2, .int _)]) 2 [1, 2, 0] dX3_nobodies_27 rfl fk_iconst_1 (by decide) rfl ?_
  refine fw_goto (pc := 30) C (tgt := 4) dX3_nobodies_30 (by decide) ?_
  exact (hK4 _ _ h)
set_option maxRecDepth 100000 in
theorem c_Hall_nobodies_b4 {p : Program} {l : Launch} {e : Env} {s : State} {m : MethodId} {args : Array Value} {below : List Frame} {meth : Method} {c : Code} {D : va_G} {cI cZ cH cR : ClassId} {N : Nat} {ad : Nat → Nat} {EE : fw_M → Nat → va_E} {o : Nat} {M : fw_M} {K4 : Int32 → Int32 → Option Int32} {x1 : Int32} {x2 : Int32} {z : Int32} (C : fw_C p s m args meth c cX3_nobodies RX3 wsX3_nobodies 3 (some .int) D vwCl (fw_tys cI cZ cH cR) N ad fw_nw0) (ho : o_Hall EE ad N cI cZ cH cR o) (hK4 : ∀ (kx1 : Int32) (kx2 : Int32), K4 kx1 kx2 = some z → fw_J p l e (headSpec wsX3_nobodies rm_Hall_nobodies).room s m args below meth c D vwCl N ad EE 3 0 0 (fw_E below args s D vwCl N ad EE (some (.int z)) M) M [(0, .ref (ad o)), (1, .int kx1), (2, .int kx2)] 4 []) (h : P_Hall_nobodies_b4 o M K4 x1 x2 = some z) : fw_J p l e (headSpec wsX3_nobodies rm_Hall_nobodies).room s m args below meth c D vwCl N ad EE 3 0 0 (fw_E below args s D vwCl N ad EE (some (.int z)) M) M [(0, .ref (ad o)), (1, .int x1), (2, .int x2)] 4 [] := by
  unfold P_Hall_nobodies_b4 at h
  refine fw_iload_n (pc := 4) C 2 dX3_nobodies_4 rfl rfl ?_
  refine fw_aload_n (pc := 5) C 0 dX3_nobodies_5 rfl rfl ?_
  refine fw_geti (pc := 6) C ho.2.2.2.1 rfl qX3_nobodies_18 dX3_nobodies_6 ?_
  refine fw_icmp_ge (pc := 9) C (tgt := 33) dX3_nobodies_9 (by decide) (fun c1 => ?_) (fun c1 => ?_)
  · have h := fw_ift h c1
    refine fw_iload_n (pc := 33) C 1 dX3_nobodies_33 rfl rfl ?_
    exact fw_iret (pc := 34) C (Option.some.inj h) rfl dX3_nobodies_34
  · have h := fw_iff h c1
    refine fw_aload_n (pc := 12) C 0 dX3_nobodies_12 rfl rfl ?_
    refine fw_getr (pc := 13) C ho.2.2.2.2.2.2.2.2.2.1 rfl qX3_nobodies_37 dX3_nobodies_13 ?_
    refine fw_iload_n (pc := 16) C 2 dX3_nobodies_16 rfl rfl ?_
    obtain ⟨v2, hv2, h⟩ := fw_bind h
    refine fw_iald (pc := 17) C 0 ho.2.2.2.2.2.2.2.2.2.2 rfl hv2 dX3_nobodies_17 ?_
    refine fw_if_le (pc := 18) C (tgt := 27) dX3_nobodies_18 (by decide) (fun c3 => ?_) (fun c3 => ?_)
    · have h := fw_ift h c3
      exact (c_Hall_nobodies_b27 C ho hK4 h)
    · have h := fw_iff h c3
      refine fw_iload_n (pc := 21) C 1 dX3_nobodies_21 rfl rfl ?_
      refine fw_iconst (pc := 22) C (v := 1) dX3_nobodies_22 fk_iconst_1 ?_
      refine fw_iload_n (pc := 23) C 2 dX3_nobodies_23 rfl rfl ?_
      refine fw_ishl (pc := 24) C dX3_nobodies_24 ?_
      refine fw_ior (pc := 25) C dX3_nobodies_25 ?_
      have h := fw_plh h
      refine fw_istore_n (pc := 26) C (L2 := [(0, .ref _), (1, .int _), (2, .int _)]) [1, 0, 2] dX3_nobodies_26 rfl (by decide) rfl ?_
      exact (c_Hall_nobodies_b27 C ho hK4 h)
theorem c_Hall_nobodies_h4 {p : Program} {l : Launch} {e : Env} {s : State} {m : MethodId} {args : Array Value} {below : List Frame} {meth : Method} {c : Code} {D : va_G} {cI cZ cH cR : ClassId} {N : Nat} {ad : Nat → Nat} {EE : fw_M → Nat → va_E} {o : Nat} {M : fw_M} {z : Int32} (C : fw_C p s m args meth c cX3_nobodies RX3 wsX3_nobodies 3 (some .int) D vwCl (fw_tys cI cZ cH cR) N ad fw_nw0) (ho : o_Hall EE ad N cI cZ cH cR o) : ∀ (n : Nat) (x1 : Int32) (x2 : Int32), P_Hall_nobodies_h4 o M n x1 x2 = some z → fw_J p l e (headSpec wsX3_nobodies rm_Hall_nobodies).room s m args below meth c D vwCl N ad EE 3 0 0 (fw_E below args s D vwCl N ad EE (some (.int z)) M) M [(0, .ref (ad o)), (1, .int x1), (2, .int x2)] 4 [] := by
  intro n
  induction n with
  | zero => intro x1 x2  h; cases h
  | succ n ih => intro x1 x2  h; exact c_Hall_nobodies_b4 C ho ih  h
set_option maxRecDepth 100000 in
theorem c_Hall_nobodies_b0 {p : Program} {l : Launch} {e : Env} {s : State} {m : MethodId} {args : Array Value} {below : List Frame} {meth : Method} {c : Code} {D : va_G} {cI cZ cH cR : ClassId} {N : Nat} {ad : Nat → Nat} {EE : fw_M → Nat → va_E} {o : Nat} {M : fw_M} {z : Int32} (C : fw_C p s m args meth c cX3_nobodies RX3 wsX3_nobodies 3 (some .int) D vwCl (fw_tys cI cZ cH cR) N ad fw_nw0) (ho : o_Hall EE ad N cI cZ cH cR o) (h : P_Hall_nobodies_b0 o M = some z) : fw_J p l e (headSpec wsX3_nobodies rm_Hall_nobodies).room s m args below meth c D vwCl N ad EE 3 0 0 (fw_E below args s D vwCl N ad EE (some (.int z)) M) M [(0, .ref (ad o))] 0 [] := by
  unfold P_Hall_nobodies_b0 at h
  refine fw_iconst (pc := 0) C (v := 0) dX3_nobodies_0 fk_iconst_0 ?_
  refine fw_istore_n (pc := 1) C (L2 := [(0, .ref _), (1, .int _)]) [1, 0] dX3_nobodies_1 rfl (by decide) rfl ?_
  refine fw_iconst (pc := 2) C (v := 0) dX3_nobodies_2 fk_iconst_0 ?_
  refine fw_istore_n (pc := 3) C (L2 := [(0, .ref _), (1, .int _), (2, .int _)]) [1, 2, 0] dX3_nobodies_3 rfl (by decide) rfl ?_
  exact (c_Hall_nobodies_h4 C ho _ _ _ h)
theorem c_Hall_nobodies {l : Launch} {D : va_G} {cI cZ cH cR : ClassId} {N : Nat} {ad : Nat → Nat} {EE : fw_M → Nat → va_E} {o : Nat} {M : fw_M} {z : Int32} (ho : o_Hall EE ad N cI cZ cH cR o) (h : P_Hall_nobodies o M = some z) : fw_Met l yX3_nobodies wsX3_nobodies rm_Hall_nobodies D vwCl (fw_tys cI cZ cH cR) N ad fw_nw0 EE [.ref (ad o)] M (some (.int z)) M := by
  unfold P_Hall_nobodies at h
  exact fw_intro (cc := cX3_nobodies) (maxL := 3) (ret := some .int) (own := RX3) (by decide) rfl rfl (Nat.le_of_ble_eq_true rfl) (fun p e s m args below meth c C => fw_sub [0] rfl (c_Hall_nobodies_b0 C ho h))
abbrev rm_Hall_yields : Room := { frames := 0, cells := 0, slots := 0, locals := 0 }
theorem hd_Hall_yields : yX3_yields.cls = RX3 ∧ yX3_yields.cls ≠ "java/lang/invoke/MethodHandle" ∧ yX3_yields.cls ≠ "java/lang/invoke/VarHandle" ∧ (parseMethodDescriptor yX3_yields.desc).map (fun d => d.parameters.length) = some 2 := by decide +kernel
theorem qX3_yields_24 : fw_G wsX3_yields RX3 24 RX3 TX3 9 4 := ⟨by decide +kernel, by decide +kernel, by decide⟩
theorem qX3_yields_31 : fw_G wsX3_yields RX3 31 RX3 TX3 9 6 := ⟨by decide +kernel, by decide +kernel, by decide⟩
theorem qX3_yields_28 : fw_G wsX3_yields RX3 28 RX3 TX3 9 5 := ⟨by decide +kernel, by decide +kernel, by decide⟩
def P_Hall_yields_b60 (o : Nat) (M : fw_M) (t0 : Int32) : Option Int32 := (fw_zr t0).bind fun v1 => some v1
def P_Hall_yields_b81 (o : Nat) (M : fw_M) (t0 : Int32) : Option Int32 := (fw_zr t0).bind fun v1 => some v1
def P_Hall_yields_b104 (o : Nat) (M : fw_M) (t0 : Int32) : Option Int32 := (fw_zr t0).bind fun v1 => some v1
def P_Hall_yields_b0 (o : Nat) (M : fw_M) (x1 : Int32) (x2 : Int32) : Option Int32 := (fw_ald M (o + 1) 7 x1).bind fun v1 => (if v1 = (1 : Int32) then (fw_ald M (o + 2) 7 x2).bind fun v3 => (fw_ald M (o + 2) 7 x1).bind fun v4 => (if v3 ≤ v4 then P_Hall_yields_b60 o M (0 : Int32) else P_Hall_yields_b60 o M (1 : Int32)) else (if v1 = (2 : Int32) then (fw_ald M (o + 2) 7 x2).bind fun v7 => (fw_ald M (o + 2) 7 x1).bind fun v8 => (if v7 < v8 then P_Hall_yields_b81 o M (0 : Int32) else P_Hall_yields_b81 o M (1 : Int32)) else (if v1 = (3 : Int32) then some (1 : Int32) else (if v1 = (4 : Int32) then some (0 : Int32) else (if v1 = (5 : Int32) then (fw_ald M (o + 3) 7 x2).bind fun v13 => (fw_ald M (o + 3) 7 x1).bind fun v14 => (if v13 ≤ v14 then P_Hall_yields_b104 o M (0 : Int32) else P_Hall_yields_b104 o M (1 : Int32)) else some (0 : Int32))))))
def P_Hall_yields (o : Nat) (M : fw_M) (a0 : Int32) (a1 : Int32) : Option Int32 := P_Hall_yields_b0 o M a0 a1
set_option maxRecDepth 100000 in
theorem c_Hall_yields_b60 {p : Program} {l : Launch} {e : Env} {s : State} {m : MethodId} {args : Array Value} {below : List Frame} {meth : Method} {c : Code} {D : va_G} {cI cZ cH cR : ClassId} {N : Nat} {ad : Nat → Nat} {EE : fw_M → Nat → va_E} {o : Nat} {M : fw_M} {t0 : Int32} {z : Int32} (C : fw_C p s m args meth c cX3_yields RX3 wsX3_yields 3 (some .boolean) D vwCl (fw_tys cI cZ cH cR) N ad fw_nw0) (ho : o_Hall EE ad N cI cZ cH cR o) (h : P_Hall_yields_b60 o M t0 = some z) : fw_J p l e (headSpec wsX3_yields rm_Hall_yields).room s m args below meth c D vwCl N ad EE 3 0 0 (fw_E below args s D vwCl N ad EE (some (.int z)) M) M [] 60 [.int t0] := by
  unfold P_Hall_yields_b60 at h
  obtain ⟨v1, hv1, h⟩ := fw_bind h
  exact fw_zret (pc := 60) C (fw_zrh hv1).1 ((fw_zrh hv1).2.trans (Option.some.inj h)) rfl dX3_yields_60
set_option maxRecDepth 100000 in
theorem c_Hall_yields_b81 {p : Program} {l : Launch} {e : Env} {s : State} {m : MethodId} {args : Array Value} {below : List Frame} {meth : Method} {c : Code} {D : va_G} {cI cZ cH cR : ClassId} {N : Nat} {ad : Nat → Nat} {EE : fw_M → Nat → va_E} {o : Nat} {M : fw_M} {t0 : Int32} {z : Int32} (C : fw_C p s m args meth c cX3_yields RX3 wsX3_yields 3 (some .boolean) D vwCl (fw_tys cI cZ cH cR) N ad fw_nw0) (ho : o_Hall EE ad N cI cZ cH cR o) (h : P_Hall_yields_b81 o M t0 = some z) : fw_J p l e (headSpec wsX3_yields rm_Hall_yields).room s m args below meth c D vwCl N ad EE 3 0 0 (fw_E below args s D vwCl N ad EE (some (.int z)) M) M [] 81 [.int t0] := by
  unfold P_Hall_yields_b81 at h
  obtain ⟨v1, hv1, h⟩ := fw_bind h
  exact fw_zret (pc := 81) C (fw_zrh hv1).1 ((fw_zrh hv1).2.trans (Option.some.inj h)) rfl dX3_yields_81
set_option maxRecDepth 100000 in
theorem c_Hall_yields_b104 {p : Program} {l : Launch} {e : Env} {s : State} {m : MethodId} {args : Array Value} {below : List Frame} {meth : Method} {c : Code} {D : va_G} {cI cZ cH cR : ClassId} {N : Nat} {ad : Nat → Nat} {EE : fw_M → Nat → va_E} {o : Nat} {M : fw_M} {t0 : Int32} {z : Int32} (C : fw_C p s m args meth c cX3_yields RX3 wsX3_yields 3 (some .boolean) D vwCl (fw_tys cI cZ cH cR) N ad fw_nw0) (ho : o_Hall EE ad N cI cZ cH cR o) (h : P_Hall_yields_b104 o M t0 = some z) : fw_J p l e (headSpec wsX3_yields rm_Hall_yields).room s m args below meth c D vwCl N ad EE 3 0 0 (fw_E below args s D vwCl N ad EE (some (.int z)) M) M [] 104 [.int t0] := by
  unfold P_Hall_yields_b104 at h
  obtain ⟨v1, hv1, h⟩ := fw_bind h
  exact fw_zret (pc := 104) C (fw_zrh hv1).1 ((fw_zrh hv1).2.trans (Option.some.inj h)) rfl dX3_yields_104
set_option maxRecDepth 100000 in
theorem c_Hall_yields_b0 {p : Program} {l : Launch} {e : Env} {s : State} {m : MethodId} {args : Array Value} {below : List Frame} {meth : Method} {c : Code} {D : va_G} {cI cZ cH cR : ClassId} {N : Nat} {ad : Nat → Nat} {EE : fw_M → Nat → va_E} {o : Nat} {M : fw_M} {x1 : Int32} {x2 : Int32} {z : Int32} (C : fw_C p s m args meth c cX3_yields RX3 wsX3_yields 3 (some .boolean) D vwCl (fw_tys cI cZ cH cR) N ad fw_nw0) (ho : o_Hall EE ad N cI cZ cH cR o) (h : P_Hall_yields_b0 o M x1 x2 = some z) : fw_J p l e (headSpec wsX3_yields rm_Hall_yields).room s m args below meth c D vwCl N ad EE 3 0 0 (fw_E below args s D vwCl N ad EE (some (.int z)) M) M [(0, .ref (ad o)), (1, .int x1), (2, .int x2)] 0 [] := by
  unfold P_Hall_yields_b0 at h
  refine fw_aload_n (pc := 0) C 0 dX3_yields_0 rfl rfl ?_
  refine fw_getr (pc := 1) C ho.2.2.2.2.2.1.1 rfl qX3_yields_24 dX3_yields_1 ?_
  refine fw_iload_n (pc := 4) C 1 dX3_yields_4 rfl rfl ?_
  obtain ⟨v1, hv1, h⟩ := fw_bind h
  refine fw_iald (pc := 5) C 0 ho.2.2.2.2.2.1.2 rfl hv1 dX3_yields_5 ?_
  rcases fw_cs h with ⟨c2, h⟩ | ⟨c2, h⟩
  · refine fw_tsin (pc := 6) C dX3_yields_6 c2 (v := 1) (off := 34) (by decide) (tgt := 40) (by decide) ?_
    refine fw_aload_n (pc := 40) C 0 dX3_yields_40 rfl rfl ?_
    refine fw_getr (pc := 41) C ho.2.2.2.2.2.2.1.1 rfl qX3_yields_28 dX3_yields_41 ?_
    refine fw_iload_n (pc := 44) C 2 dX3_yields_44 rfl rfl ?_
    obtain ⟨v3, hv3, h⟩ := fw_bind h
    refine fw_iald (pc := 45) C 0 ho.2.2.2.2.2.2.1.2 rfl hv3 dX3_yields_45 ?_
    refine fw_aload_n (pc := 46) C 0 dX3_yields_46 rfl rfl ?_
    refine fw_getr (pc := 47) C ho.2.2.2.2.2.2.1.1 rfl qX3_yields_28 dX3_yields_47 ?_
    refine fw_iload_n (pc := 50) C 1 dX3_yields_50 rfl rfl ?_
    obtain ⟨v4, hv4, h⟩ := fw_bind h
    refine fw_iald (pc := 51) C 0 ho.2.2.2.2.2.2.1.2 rfl hv4 dX3_yields_51 ?_
    refine fw_icmp_le (pc := 52) C (tgt := 59) dX3_yields_52 (by decide) (fun c5 => ?_) (fun c5 => ?_)
    · have h := fw_ift h c5
      refine fw_iconst (pc := 59) C (v := 0) dX3_yields_59 fk_iconst_0 ?_
      exact fw_sub [] rfl (c_Hall_yields_b60 C ho h)
    · have h := fw_iff h c5
      refine fw_iconst (pc := 55) C (v := 1) dX3_yields_55 fk_iconst_1 ?_
      refine fw_goto (pc := 56) C (tgt := 60) dX3_yields_56 (by decide) ?_
      exact fw_sub [] rfl (c_Hall_yields_b60 C ho h)
  · rcases fw_cs h with ⟨c6, h⟩ | ⟨c6, h⟩
    · refine fw_tsin (pc := 6) C dX3_yields_6 c6 (v := 2) (off := 55) (by decide) (tgt := 61) (by decide) ?_
      refine fw_aload_n (pc := 61) C 0 dX3_yields_61 rfl rfl ?_
      refine fw_getr (pc := 62) C ho.2.2.2.2.2.2.1.1 rfl qX3_yields_28 dX3_yields_62 ?_
      refine fw_iload_n (pc := 65) C 2 dX3_yields_65 rfl rfl ?_
      obtain ⟨v7, hv7, h⟩ := fw_bind h
      refine fw_iald (pc := 66) C 0 ho.2.2.2.2.2.2.1.2 rfl hv7 dX3_yields_66 ?_
      refine fw_aload_n (pc := 67) C 0 dX3_yields_67 rfl rfl ?_
      refine fw_getr (pc := 68) C ho.2.2.2.2.2.2.1.1 rfl qX3_yields_28 dX3_yields_68 ?_
      refine fw_iload_n (pc := 71) C 1 dX3_yields_71 rfl rfl ?_
      obtain ⟨v8, hv8, h⟩ := fw_bind h
      refine fw_iald (pc := 72) C 0 ho.2.2.2.2.2.2.1.2 rfl hv8 dX3_yields_72 ?_
      refine fw_icmp_lt (pc := 73) C (tgt := 80) dX3_yields_73 (by decide) (fun c9 => ?_) (fun c9 => ?_)
      · have h := fw_ift h c9
        refine fw_iconst (pc := 80) C (v := 0) dX3_yields_80 fk_iconst_0 ?_
        exact fw_sub [] rfl (c_Hall_yields_b81 C ho h)
      · have h := fw_iff h c9
        refine fw_iconst (pc := 76) C (v := 1) dX3_yields_76 fk_iconst_1 ?_
        refine fw_goto (pc := 77) C (tgt := 81) dX3_yields_77 (by decide) ?_
        exact fw_sub [] rfl (c_Hall_yields_b81 C ho h)
    · rcases fw_cs h with ⟨c10, h⟩ | ⟨c10, h⟩
      · refine fw_tsin (pc := 6) C dX3_yields_6 c10 (v := 3) (off := 76) (by decide) (tgt := 82) (by decide) ?_
        refine fw_iconst (pc := 82) C (v := 1) dX3_yields_82 fk_iconst_1 ?_
        exact fw_zret (pc := 83) C (Or.inr rfl) (Option.some.inj h) rfl dX3_yields_83
      · rcases fw_cs h with ⟨c11, h⟩ | ⟨c11, h⟩
        · refine fw_tsin (pc := 6) C dX3_yields_6 c11 (v := 4) (off := 99) (by decide) (tgt := 105) (by decide) ?_
          refine fw_iconst (pc := 105) C (v := 0) dX3_yields_105 fk_iconst_0 ?_
          exact fw_zret (pc := 106) C (Or.inl rfl) (Option.some.inj h) rfl dX3_yields_106
        · rcases fw_cs h with ⟨c12, h⟩ | ⟨c12, h⟩
          · refine fw_tsin (pc := 6) C dX3_yields_6 c12 (v := 5) (off := 78) (by decide) (tgt := 84) (by decide) ?_
            refine fw_aload_n (pc := 84) C 0 dX3_yields_84 rfl rfl ?_
            refine fw_getr (pc := 85) C ho.2.2.2.2.2.2.2.1.1 rfl qX3_yields_31 dX3_yields_85 ?_
            refine fw_iload_n (pc := 88) C 2 dX3_yields_88 rfl rfl ?_
            obtain ⟨v13, hv13, h⟩ := fw_bind h
            refine fw_iald (pc := 89) C 0 ho.2.2.2.2.2.2.2.1.2 rfl hv13 dX3_yields_89 ?_
            refine fw_aload_n (pc := 90) C 0 dX3_yields_90 rfl rfl ?_
            refine fw_getr (pc := 91) C ho.2.2.2.2.2.2.2.1.1 rfl qX3_yields_31 dX3_yields_91 ?_
            refine fw_iload_n (pc := 94) C 1 dX3_yields_94 rfl rfl ?_
            obtain ⟨v14, hv14, h⟩ := fw_bind h
            refine fw_iald (pc := 95) C 0 ho.2.2.2.2.2.2.2.1.2 rfl hv14 dX3_yields_95 ?_
            refine fw_icmp_le (pc := 96) C (tgt := 103) dX3_yields_96 (by decide) (fun c15 => ?_) (fun c15 => ?_)
            · have h := fw_ift h c15
              refine fw_iconst (pc := 103) C (v := 0) dX3_yields_103 fk_iconst_0 ?_
              exact fw_sub [] rfl (c_Hall_yields_b104 C ho h)
            · have h := fw_iff h c15
              refine fw_iconst (pc := 99) C (v := 1) dX3_yields_99 fk_iconst_1 ?_
              refine fw_goto (pc := 100) C (tgt := 104) dX3_yields_100 (by decide) ?_
              exact fw_sub [] rfl (c_Hall_yields_b104 C ho h)
          · refine fw_tsout (pc := 6) C dX3_yields_6 (fun z z1 z2 e => ?_) (tgt := 105) (by decide) ?_
            · subst e
              have ec2 := lv_neT c2 (a := 1) (by decide)
              have ec6 := lv_neT c6 (a := 2) (by decide)
              have ec10 := lv_neT c10 (a := 3) (by decide)
              have ec11 := lv_neT c11 (a := 4) (by decide)
              have ec12 := lv_neT c12 (a := 5) (by decide)
              omega
            · refine fw_iconst (pc := 105) C (v := 0) dX3_yields_105 fk_iconst_0 ?_
              exact fw_zret (pc := 106) C (Or.inl rfl) (Option.some.inj h) rfl dX3_yields_106
theorem c_Hall_yields {l : Launch} {D : va_G} {cI cZ cH cR : ClassId} {N : Nat} {ad : Nat → Nat} {EE : fw_M → Nat → va_E} {o : Nat} {M : fw_M} {a0 : Int32} {a1 : Int32} {z : Int32} (ho : o_Hall EE ad N cI cZ cH cR o) (h : P_Hall_yields o M a0 a1 = some z) : fw_Met l yX3_yields wsX3_yields rm_Hall_yields D vwCl (fw_tys cI cZ cH cR) N ad fw_nw0 EE [.ref (ad o), .int a0, .int a1] M (some (.int z)) M := by
  unfold P_Hall_yields at h
  exact fw_intro (cc := cX3_yields) (maxL := 3) (ret := some .boolean) (own := RX3) (by decide) rfl rfl (Nat.le_of_ble_eq_true rfl) (fun p e s m args below meth c C => fw_sub [0, 1, 2] rfl (c_Hall_yields_b0 C ho h))
end
