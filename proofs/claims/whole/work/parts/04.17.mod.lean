noncomputable section
abbrev rm_Mod_readPerson : Room := { frames := 4, cells := 0, slots := 0, locals := 89 }
theorem hd_Mod_readPerson : yX9_readPerson.cls = RX9 ∧ yX9_readPerson.cls ≠ "java/lang/invoke/MethodHandle" ∧ yX9_readPerson.cls ≠ "java/lang/invoke/VarHandle" ∧ (parseMethodDescriptor yX9_readPerson.desc).map (fun d => d.parameters.length) = some 0 := by decide +kernel
theorem qX9_readPerson_91 : fw_G wsX9_readPerson RX9 91 RX9 TX9 24 15 := ⟨by decide +kernel, by decide +kernel, by decide⟩
theorem qX9_readPerson_22 : fw_G wsX9_readPerson RX9 22 RX9 TX9 24 6 := ⟨by decide +kernel, by decide +kernel, by decide⟩
theorem qX9_readPerson_78 : fw_G wsX9_readPerson RX9 78 RX9 TX9 24 16 := ⟨by decide +kernel, by decide +kernel, by decide⟩
def P_Mod_readPerson_b146 (o : Nat) (M : fw_M) : Option fw_M := some M
def P_Mod_readPerson_b24 (o : Nat) (M : fw_M) (x1 : Int32) : Option fw_M := (P_Mod_must o M (1 : Int32)).bind fun q1 => (P_Mod_number o q1 (0 : Int32) (9 : Int32)).bind fun q2 => (P_Mod_mustSign o q2.2 (44 : Int32)).bind fun q3 => (P_Mod_number o q3 (0 : Int32) (9 : Int32)).bind fun q4 => (P_Mod_mustSign o q4.2 (44 : Int32)).bind fun q5 => (fw_ald q5 (o + 5) 39 (0 : Int32)).bind fun v6 => (P_Mod_number o q5 (0 : Int32) (v6 - (1 : Int32))).bind fun q7 => (P_Mod_mustSign o q7.2 (59 : Int32)).bind fun q8 => (if (q8 o 16) = (0 : Int32) then (fw_ald q8 (o + 5) 39 (2 : Int32)).bind fun v10 => fw_pl (((4 : Int32) + ((5 : Int32) * v10))) fun y11 => (fw_ast q8 (o + 5) 39 y11 x1).bind fun M12 => (fw_ast M12 (o + 5) 39 (y11 + (1 : Int32)) q2.1).bind fun M13 => (fw_ast M13 (o + 5) 39 (y11 + (2 : Int32)) q4.1).bind fun M14 => (fw_ast M14 (o + 5) 39 (y11 + (3 : Int32)) q7.1).bind fun M15 => (fw_ald M15 (o + 5) 39 (2 : Int32)).bind fun v16 => (fw_ast M15 (o + 5) 39 (2 : Int32) (v16 + (1 : Int32))).bind fun M17 => P_Mod_readPerson_b146 o M17 else P_Mod_readPerson_b146 o q8)
def P_Mod_readPerson_b0 (o : Nat) (M : fw_M) : Option fw_M := (P_Mod_kindBy M (M o 15)).bind fun v1 => (fw_ald M (o + 5) 39 (2 : Int32)).bind fun v2 => (if v2 = (7 : Int32) then (P_Mod_bad o M (3 : Int32)).bind fun q4 => P_Mod_readPerson_b24 o q4 v1 else P_Mod_readPerson_b24 o M v1)
def P_Mod_readPerson (o : Nat) (M : fw_M) : Option fw_M := P_Mod_readPerson_b0 o M
set_option maxRecDepth 100000 in
theorem c_Mod_readPerson_b146 {p : Program} {l : Launch} {e : Env} {s : State} {m : MethodId} {args : Array Value} {below : List Frame} {meth : Method} {c : Code} {D : va_G} {cI cZ cH cR : ClassId} {N : Nat} {ad : Nat → Nat} {EE : fw_M → Nat → va_E} {o : Nat} {M : fw_M} {z : fw_M} (C : fw_C p s m args meth c cX9_readPerson RX9 wsX9_readPerson 6 (none) D vwCl (fw_tys cI cZ cH cR) N ad fw_nw0) (ho : o_Mod EE ad N cI cZ cH cR o) (h : P_Mod_readPerson_b146 o M = some z) : fw_J p l e (headSpec wsX9_readPerson rm_Mod_readPerson).room s m args below meth c D vwCl N ad EE 6 0 0 (fw_E below args s D vwCl N ad EE none z) M [] 146 [] := by
  unfold P_Mod_readPerson_b146 at h
  exact fw_vret (pc := 146) C (Option.some.inj h) dX9_readPerson_146
set_option maxRecDepth 100000 in
theorem c_Mod_readPerson_b24 {p : Program} {l : Launch} {e : Env} {s : State} {m : MethodId} {args : Array Value} {below : List Frame} {meth : Method} {c : Code} {D : va_G} {cI cZ cH cR : ClassId} {N : Nat} {ad : Nat → Nat} {EE : fw_M → Nat → va_E} {o : Nat} {M : fw_M} {x1 : Int32} {z : fw_M} (C : fw_C p s m args meth c cX9_readPerson RX9 wsX9_readPerson 6 (none) D vwCl (fw_tys cI cZ cH cR) N ad fw_nw0) (ho : o_Mod EE ad N cI cZ cH cR o) (h : P_Mod_readPerson_b24 o M x1 = some z) : fw_J p l e (headSpec wsX9_readPerson rm_Mod_readPerson).room s m args below meth c D vwCl N ad EE 6 0 0 (fw_E below args s D vwCl N ad EE none z) M [(0, .ref (ad o)), (1, .int x1)] 24 [] := by
  unfold P_Mod_readPerson_b24 at h
  refine fw_aload_n (pc := 24) C 0 dX9_readPerson_24 rfl rfl ?_
  refine fw_iconst (pc := 25) C (v := 1) dX9_readPerson_25 fk_iconst_1 ?_
  obtain ⟨q1, hq1, h⟩ := fw_bind h
  refine fw_callV0 (pc := 26) C (rest := []) (c_Mod_must ho hq1) (cwV 1 C.2.2.2.2.1 gX9_readPerson_X9_must rfl rfl rfl hd_Mod_must ⟨Nat.le_of_ble_eq_true rfl, Nat.le_of_ble_eq_true rfl⟩) ho.1 rfl rfl ⟨Nat.zero_le _, Nat.zero_le _⟩ rfl (Nat.le_of_ble_eq_true rfl) dX9_readPerson_26 ?_
  refine fw_aload_n (pc := 29) C 0 dX9_readPerson_29 rfl rfl ?_
  refine fw_iconst (pc := 30) C (v := 0) dX9_readPerson_30 fk_iconst_0 ?_
  refine fw_bipush (pc := 31) C (v := 9) dX9_readPerson_31 fk_bipush_9 ?_
  obtain ⟨q2, hq2, h⟩ := fw_bind h
  refine fw_callV1 (pc := 33) C (rest := []) (c_Mod_number ho hq2) (cwV 2 C.2.2.2.2.1 gX9_readPerson_X9_number rfl rfl rfl hd_Mod_number ⟨Nat.le_of_ble_eq_true rfl, Nat.le_of_ble_eq_true rfl⟩) ho.1 rfl rfl ⟨Nat.zero_le _, Nat.zero_le _⟩ rfl (Nat.le_of_ble_eq_true rfl) dX9_readPerson_33 ?_
  refine fw_istore_n (pc := 36) C (L2 := [(0, .ref _), (1, .int _), (2, .int _)]) [1, 2, 0] dX9_readPerson_36 rfl (by decide) rfl ?_
  refine fw_aload_n (pc := 37) C 0 dX9_readPerson_37 rfl rfl ?_
  refine fw_bipush (pc := 38) C (v := 44) dX9_readPerson_38 fk_bipush_44 ?_
  obtain ⟨q3, hq3, h⟩ := fw_bind h
  refine fw_callV0 (pc := 40) C (rest := []) (c_Mod_mustSign ho hq3) (cwV 1 C.2.2.2.2.1 gX9_readPerson_X9_mustSign rfl rfl rfl hd_Mod_mustSign ⟨Nat.le_of_ble_eq_true rfl, Nat.le_of_ble_eq_true rfl⟩) ho.1 rfl rfl ⟨Nat.zero_le _, Nat.zero_le _⟩ rfl (Nat.le_of_ble_eq_true rfl) dX9_readPerson_40 ?_
  refine fw_aload_n (pc := 43) C 0 dX9_readPerson_43 rfl rfl ?_
  refine fw_iconst (pc := 44) C (v := 0) dX9_readPerson_44 fk_iconst_0 ?_
  refine fw_bipush (pc := 45) C (v := 9) dX9_readPerson_45 fk_bipush_9 ?_
  obtain ⟨q4, hq4, h⟩ := fw_bind h
  refine fw_callV1 (pc := 47) C (rest := []) (c_Mod_number ho hq4) (cwV 2 C.2.2.2.2.1 gX9_readPerson_X9_number rfl rfl rfl hd_Mod_number ⟨Nat.le_of_ble_eq_true rfl, Nat.le_of_ble_eq_true rfl⟩) ho.1 rfl rfl ⟨Nat.zero_le _, Nat.zero_le _⟩ rfl (Nat.le_of_ble_eq_true rfl) dX9_readPerson_47 ?_
  refine fw_istore_n (pc := 50) C (L2 := [(0, .ref _), (1, .int _), (2, .int _), (3, .int _)]) [1, 2, 3, 0] dX9_readPerson_50 rfl (by decide) rfl ?_
  refine fw_aload_n (pc := 51) C 0 dX9_readPerson_51 rfl rfl ?_
  refine fw_bipush (pc := 52) C (v := 44) dX9_readPerson_52 fk_bipush_44 ?_
  obtain ⟨q5, hq5, h⟩ := fw_bind h
  refine fw_callV0 (pc := 54) C (rest := []) (c_Mod_mustSign ho hq5) (cwV 1 C.2.2.2.2.1 gX9_readPerson_X9_mustSign rfl rfl rfl hd_Mod_mustSign ⟨Nat.le_of_ble_eq_true rfl, Nat.le_of_ble_eq_true rfl⟩) ho.1 rfl rfl ⟨Nat.zero_le _, Nat.zero_le _⟩ rfl (Nat.le_of_ble_eq_true rfl) dX9_readPerson_54 ?_
  refine fw_aload_n (pc := 57) C 0 dX9_readPerson_57 rfl rfl ?_
  refine fw_iconst (pc := 58) C (v := 0) dX9_readPerson_58 fk_iconst_0 ?_
  refine fw_aload_n (pc := 59) C 0 dX9_readPerson_59 rfl rfl ?_
  refine fw_getr (pc := 60) C ho.2.2.2.2.2.2.2.1.1 rfl qX9_readPerson_22 dX9_readPerson_60 ?_
  refine fw_iconst (pc := 63) C (v := 0) dX9_readPerson_63 fk_iconst_0 ?_
  obtain ⟨v6, hv6, h⟩ := fw_bind h
  refine fw_iald (pc := 64) C 0 ho.2.2.2.2.2.2.2.1.2 rfl hv6 dX9_readPerson_64 ?_
  refine fw_iconst (pc := 65) C (v := 1) dX9_readPerson_65 fk_iconst_1 ?_
  refine fw_isub (pc := 66) C dX9_readPerson_66 ?_
  obtain ⟨q7, hq7, h⟩ := fw_bind h
  refine fw_callV1 (pc := 67) C (rest := []) (c_Mod_number ho hq7) (cwV 2 C.2.2.2.2.1 gX9_readPerson_X9_number rfl rfl rfl hd_Mod_number ⟨Nat.le_of_ble_eq_true rfl, Nat.le_of_ble_eq_true rfl⟩) ho.1 rfl rfl ⟨Nat.zero_le _, Nat.zero_le _⟩ rfl (Nat.le_of_ble_eq_true rfl) dX9_readPerson_67 ?_
  refine fw_istore (pc := 70) C (L2 := [(0, .ref _), (1, .int _), (2, .int _), (3, .int _), (4, .int _)]) [1, 2, 3, 4, 0] dX9_readPerson_70 (by decide) rfl ?_
  refine fw_aload_n (pc := 72) C 0 dX9_readPerson_72 rfl rfl ?_
  refine fw_bipush (pc := 73) C (v := 59) dX9_readPerson_73 fk_bipush_59 ?_
  obtain ⟨q8, hq8, h⟩ := fw_bind h
  refine fw_callV0 (pc := 75) C (rest := []) (c_Mod_mustSign ho hq8) (cwV 1 C.2.2.2.2.1 gX9_readPerson_X9_mustSign rfl rfl rfl hd_Mod_mustSign ⟨Nat.le_of_ble_eq_true rfl, Nat.le_of_ble_eq_true rfl⟩) ho.1 rfl rfl ⟨Nat.zero_le _, Nat.zero_le _⟩ rfl (Nat.le_of_ble_eq_true rfl) dX9_readPerson_75 ?_
  refine fw_aload_n (pc := 78) C 0 dX9_readPerson_78 rfl rfl ?_
  refine fw_geti (pc := 79) C ho.2.2.2.2.2.2.2.2.2.2.2.2.2.2.2.2.2.1 rfl qX9_readPerson_78 dX9_readPerson_79 ?_
  refine fw_if_ne (pc := 82) C (tgt := 146) dX9_readPerson_82 (by decide) (fun c9 => ?_) (fun c9 => ?_)
  · have h := fw_iff h c9
    exact fw_sub [] rfl (c_Mod_readPerson_b146 C ho h)
  · have h := fw_ift h c9
    refine fw_iconst (pc := 85) C (v := 4) dX9_readPerson_85 fk_iconst_4 ?_
    refine fw_iconst (pc := 86) C (v := 5) dX9_readPerson_86 fk_iconst_5 ?_
    refine fw_aload_n (pc := 87) C 0 dX9_readPerson_87 rfl rfl ?_
    refine fw_getr (pc := 88) C ho.2.2.2.2.2.2.2.1.1 rfl qX9_readPerson_22 dX9_readPerson_88 ?_
    refine fw_iconst (pc := 91) C (v := 2) dX9_readPerson_91 fk_iconst_2 ?_
    obtain ⟨v10, hv10, h⟩ := fw_bind h
    refine fw_iald (pc := 92) C 0 ho.2.2.2.2.2.2.2.1.2 rfl hv10 dX9_readPerson_92 ?_
    refine fw_imul (pc := 93) C dX9_readPerson_93 ?_
    refine fw_iadd (pc := 94) C dX9_readPerson_94 ?_
    have h := fw_plh h
    refine fw_istore (pc := 95) C (L2 := [(0, .ref _), (1, .int _), (2, .int _), (3, .int _), (4, .int _), (5, .int _)]) [1, 2, 3, 4, 5, 0] dX9_readPerson_95 (by decide) rfl ?_
    refine fw_aload_n (pc := 97) C 0 dX9_readPerson_97 rfl rfl ?_
    refine fw_getr (pc := 98) C ho.2.2.2.2.2.2.2.1.1 rfl qX9_readPerson_22 dX9_readPerson_98 ?_
    refine fw_iload (pc := 101) C 5 dX9_readPerson_101 rfl ?_
    refine fw_iload_n (pc := 103) C 1 dX9_readPerson_103 rfl rfl ?_
    obtain ⟨M12, hM12, h⟩ := fw_bind h
    refine fw_iast (pc := 104) C 0 ho.2.2.2.2.2.2.2.1.2 rfl hM12 dX9_readPerson_104 ?_
    refine fw_aload_n (pc := 105) C 0 dX9_readPerson_105 rfl rfl ?_
    refine fw_getr (pc := 106) C ho.2.2.2.2.2.2.2.1.1 rfl qX9_readPerson_22 dX9_readPerson_106 ?_
    refine fw_iload (pc := 109) C 5 dX9_readPerson_109 rfl ?_
    refine fw_iconst (pc := 111) C (v := 1) dX9_readPerson_111 fk_iconst_1 ?_
    refine fw_iadd (pc := 112) C dX9_readPerson_112 ?_
    refine fw_iload_n (pc := 113) C 2 dX9_readPerson_113 rfl rfl ?_
    obtain ⟨M13, hM13, h⟩ := fw_bind h
    refine fw_iast (pc := 114) C 0 ho.2.2.2.2.2.2.2.1.2 rfl hM13 dX9_readPerson_114 ?_
    refine fw_aload_n (pc := 115) C 0 dX9_readPerson_115 rfl rfl ?_
    refine fw_getr (pc := 116) C ho.2.2.2.2.2.2.2.1.1 rfl qX9_readPerson_22 dX9_readPerson_116 ?_
    refine fw_iload (pc := 119) C 5 dX9_readPerson_119 rfl ?_
    refine fw_iconst (pc := 121) C (v := 2) dX9_readPerson_121 fk_iconst_2 ?_
    refine fw_iadd (pc := 122) C dX9_readPerson_122 ?_
    refine fw_iload_n (pc := 123) C 3 dX9_readPerson_123 rfl rfl ?_
    obtain ⟨M14, hM14, h⟩ := fw_bind h
    refine fw_iast (pc := 124) C 0 ho.2.2.2.2.2.2.2.1.2 rfl hM14 dX9_readPerson_124 ?_
    refine fw_aload_n (pc := 125) C 0 dX9_readPerson_125 rfl rfl ?_
    refine fw_getr (pc := 126) C ho.2.2.2.2.2.2.2.1.1 rfl qX9_readPerson_22 dX9_readPerson_126 ?_
    refine fw_iload (pc := 129) C 5 dX9_readPerson_129 rfl ?_
    refine fw_iconst (pc := 131) C (v := 3) dX9_readPerson_131 fk_iconst_3 ?_
    refine fw_iadd (pc := 132) C dX9_readPerson_132 ?_
    refine fw_iload (pc := 133) C 4 dX9_readPerson_133 rfl ?_
    obtain ⟨M15, hM15, h⟩ := fw_bind h
    refine fw_iast (pc := 135) C 0 ho.2.2.2.2.2.2.2.1.2 rfl hM15 dX9_readPerson_135 ?_
    refine fw_aload_n (pc := 136) C 0 dX9_readPerson_136 rfl rfl ?_
    refine fw_getr (pc := 137) C ho.2.2.2.2.2.2.2.1.1 rfl qX9_readPerson_22 dX9_readPerson_137 ?_
    refine fw_iconst (pc := 140) C (v := 2) dX9_readPerson_140 fk_iconst_2 ?_
    refine fw_dup2 (pc := 141) C dX9_readPerson_141 rfl rfl ?_
    obtain ⟨v16, hv16, h⟩ := fw_bind h
    refine fw_iald (pc := 142) C 0 ho.2.2.2.2.2.2.2.1.2 rfl hv16 dX9_readPerson_142 ?_
    refine fw_iconst (pc := 143) C (v := 1) dX9_readPerson_143 fk_iconst_1 ?_
    refine fw_iadd (pc := 144) C dX9_readPerson_144 ?_
    obtain ⟨M17, hM17, h⟩ := fw_bind h
    refine fw_iast (pc := 145) C 0 ho.2.2.2.2.2.2.2.1.2 rfl hM17 dX9_readPerson_145 ?_
    exact fw_sub [] rfl (c_Mod_readPerson_b146 C ho h)
set_option maxRecDepth 100000 in
theorem c_Mod_readPerson_b0 {p : Program} {l : Launch} {e : Env} {s : State} {m : MethodId} {args : Array Value} {below : List Frame} {meth : Method} {c : Code} {D : va_G} {cI cZ cH cR : ClassId} {N : Nat} {ad : Nat → Nat} {EE : fw_M → Nat → va_E} {o : Nat} {M : fw_M} {z : fw_M} (C : fw_C p s m args meth c cX9_readPerson RX9 wsX9_readPerson 6 (none) D vwCl (fw_tys cI cZ cH cR) N ad fw_nw0) (ho : o_Mod EE ad N cI cZ cH cR o) (h : P_Mod_readPerson_b0 o M = some z) : fw_J p l e (headSpec wsX9_readPerson rm_Mod_readPerson).room s m args below meth c D vwCl N ad EE 6 0 0 (fw_E below args s D vwCl N ad EE none z) M [(0, .ref (ad o))] 0 [] := by
  unfold P_Mod_readPerson_b0 at h
  refine fw_aload_n (pc := 0) C 0 dX9_readPerson_0 rfl rfl ?_
  refine fw_geti (pc := 1) C ho.2.2.2.2.2.2.2.2.2.2.2.2.2.2.2.2.1 rfl qX9_readPerson_91 dX9_readPerson_1 ?_
  obtain ⟨v1, hv1, h⟩ := fw_bind h
  refine fw_callS1 (pc := 4) C (rest := []) (c_Mod_kindBy  hv1) (va_cwS 1 C.2.2.2.2.1 gX9_readPerson_X9_kindBy rfl rfl rfl hd_Mod_kindBy.2 ⟨Nat.le_of_ble_eq_true rfl, Nat.le_of_ble_eq_true rfl⟩) rfl ⟨Nat.zero_le _, Nat.zero_le _⟩ rfl (Nat.le_of_ble_eq_true rfl) dX9_readPerson_4 ?_
  refine fw_istore_n (pc := 7) C (L2 := [(0, .ref _), (1, .int _)]) [1, 0] dX9_readPerson_7 rfl (by decide) rfl ?_
  refine fw_aload_n (pc := 8) C 0 dX9_readPerson_8 rfl rfl ?_
  refine fw_getr (pc := 9) C ho.2.2.2.2.2.2.2.1.1 rfl qX9_readPerson_22 dX9_readPerson_9 ?_
  refine fw_iconst (pc := 12) C (v := 2) dX9_readPerson_12 fk_iconst_2 ?_
  obtain ⟨v2, hv2, h⟩ := fw_bind h
  refine fw_iald (pc := 13) C 0 ho.2.2.2.2.2.2.2.1.2 rfl hv2 dX9_readPerson_13 ?_
  refine fw_bipush (pc := 14) C (v := 7) dX9_readPerson_14 fk_bipush_7 ?_
  refine fw_icmp_ne (pc := 16) C (tgt := 24) dX9_readPerson_16 (by decide) (fun c3 => ?_) (fun c3 => ?_)
  · have h := fw_iff h c3
    exact (c_Mod_readPerson_b24 C ho h)
  · have h := fw_ift h c3
    refine fw_aload_n (pc := 19) C 0 dX9_readPerson_19 rfl rfl ?_
    refine fw_iconst (pc := 20) C (v := 3) dX9_readPerson_20 fk_iconst_3 ?_
    obtain ⟨q4, hq4, h⟩ := fw_bind h
    refine fw_callV0 (pc := 21) C (rest := []) (c_Mod_bad ho hq4) (cwV 1 C.2.2.2.2.1 gX9_readPerson_X9_bad rfl rfl rfl hd_Mod_bad ⟨Nat.le_of_ble_eq_true rfl, Nat.le_of_ble_eq_true rfl⟩) ho.1 rfl rfl ⟨Nat.zero_le _, Nat.zero_le _⟩ rfl (Nat.le_of_ble_eq_true rfl) dX9_readPerson_21 ?_
    exact (c_Mod_readPerson_b24 C ho h)
theorem c_Mod_readPerson {l : Launch} {D : va_G} {cI cZ cH cR : ClassId} {N : Nat} {ad : Nat → Nat} {EE : fw_M → Nat → va_E} {o : Nat} {M : fw_M} {z : fw_M} (ho : o_Mod EE ad N cI cZ cH cR o) (h : P_Mod_readPerson o M = some z) : fw_Met l yX9_readPerson wsX9_readPerson rm_Mod_readPerson D vwCl (fw_tys cI cZ cH cR) N ad fw_nw0 EE [.ref (ad o)] M none z := by
  unfold P_Mod_readPerson at h
  exact fw_intro (cc := cX9_readPerson) (maxL := 6) (ret := none) (own := RX9) (by decide) rfl rfl (Nat.le_of_ble_eq_true rfl) (fun p e s m args below meth c C => fw_sub [0] rfl (c_Mod_readPerson_b0 C ho h))
abbrev rm_Mod_ministry : Room := { frames := 5, cells := 0, slots := 0, locals := 114 }
theorem hd_Mod_ministry : yX9_ministry.cls = RX9 ∧ yX9_ministry.cls ≠ "java/lang/invoke/MethodHandle" ∧ yX9_ministry.cls ≠ "java/lang/invoke/VarHandle" ∧ (parseMethodDescriptor yX9_ministry.desc).map (fun d => d.parameters.length) = some 0 := by decide +kernel
theorem qX9_ministry_47 : fw_G wsX9_ministry RX9 47 RX9 TX9 24 0 := ⟨by decide +kernel, by decide +kernel, by decide⟩
theorem qX9_ministry_22 : fw_G wsX9_ministry RX9 22 RX9 TX9 24 6 := ⟨by decide +kernel, by decide +kernel, by decide⟩
theorem kX9_ministry_145 : Cond.constant RX9 145 (-1000100) ∈ wsX9_ministry := by decide +kernel
theorem qX9_ministry_84 : fw_G wsX9_ministry RX9 84 RX9 TX9 24 17 := ⟨by decide +kernel, by decide +kernel, by decide⟩
theorem qX9_ministry_146 : fw_G wsX9_ministry RX9 146 RX9 TX9 24 9 := ⟨by decide +kernel, by decide +kernel, by decide⟩
theorem qX9_ministry_19 : fw_G wsX9_ministry RX9 19 RX9 TX9 24 5 := ⟨by decide +kernel, by decide +kernel, by decide⟩
def P_Mod_ministry_b125 (o : Nat) (K125 : fw_M → Int32 → Option (Int32 × fw_M)) (M : fw_M) (x1 : Int32) : Option (Int32 × fw_M) := (if (39 : Int32) ≤ x1 then (fw_ald M (o + 4) 39 (2 : Int32)).bind fun v2 => some (v2, M) else (fw_ald M (o + 5) 39 x1).bind fun v3 => (fw_ast M (o + 4) 39 x1 v3).bind fun M4 => K125 M4 (x1 + (1 : Int32)))
def P_Mod_ministry_h125 (o : Nat) : Nat → fw_M → Int32 → Option (Int32 × fw_M)
  | 0, _, _ => none
  | n + 1, M, x1 => P_Mod_ministry_b125 o (P_Mod_ministry_h125 o n) M x1
def P_Mod_ministry_b89 (o : Nat) (K89 : fw_M → Option (Int32 × fw_M)) (M : fw_M) : Option (Int32 × fw_M) := (P_Mod_isSort o M).bind fun v1 => (if v1 = (0 : Int32) then (P_Mod_failed o M).bind fun q3 => (if q3.1 = (0 : Int32) then fw_pl (fw_set q3.2 o 9 (0 : Int32)) fun M5 => P_Mod_ministry_h125 o fw_fu M5 (0 : Int32) else some (((-1000100 : Int32) - (q3.2 o 17)), q3.2)) else (P_Mod_readPerson o M).bind fun q6 => K89 q6)
def P_Mod_ministry_h89 (o : Nat) : Nat → fw_M → Option (Int32 × fw_M)
  | 0, _ => none
  | n + 1, M => P_Mod_ministry_b89 o (P_Mod_ministry_h89 o n) M
def P_Mod_ministry_b11 (o : Nat) (K11 : fw_M → Int32 → Option (Int32 × fw_M)) (M : fw_M) (x1 : Int32) : Option (Int32 × fw_M) := (if (39 : Int32) ≤ x1 then (P_Mod_isLetter o M (109 : Int32)).bind fun v2 => (P_Mod_must o M v2).bind fun q3 => (P_Mod_number o q3 (1 : Int32) (4 : Int32)).bind fun q4 => (fw_ast q4.2 (o + 5) 39 (0 : Int32) q4.1).bind fun M5 => (P_Mod_mustSign o M5 (44 : Int32)).bind fun q6 => (P_Mod_number o q6 (1 : Int32) (9 : Int32)).bind fun q7 => (fw_ast q7.2 (o + 5) 39 (1 : Int32) q7.1).bind fun M8 => (P_Mod_mustSign o M8 (59 : Int32)).bind fun q9 => (P_Mod_isSort o q9).bind fun v10 => (if v10 = (0 : Int32) then (P_Mod_bad o q9 (1 : Int32)).bind fun q12 => P_Mod_ministry_h89 o fw_fu q12 else P_Mod_ministry_h89 o fw_fu q9) else (fw_ast M (o + 5) 39 x1 (0 : Int32)).bind fun M13 => K11 M13 (x1 + (1 : Int32)))
def P_Mod_ministry_h11 (o : Nat) : Nat → fw_M → Int32 → Option (Int32 × fw_M)
  | 0, _, _ => none
  | n + 1, M, x1 => P_Mod_ministry_b11 o (P_Mod_ministry_h11 o n) M x1
def P_Mod_ministry_b0 (o : Nat) (M : fw_M) : Option (Int32 × fw_M) := fw_pl (fw_set M o 0 (0 : Int32)) fun M1 => (P_Mod_begin o M1).bind fun q2 => P_Mod_ministry_h11 o fw_fu q2 (0 : Int32)
def P_Mod_ministry (o : Nat) (M : fw_M) : Option (Int32 × fw_M) := P_Mod_ministry_b0 o M
set_option maxRecDepth 100000 in
theorem c_Mod_ministry_b125 {p : Program} {l : Launch} {e : Env} {s : State} {m : MethodId} {args : Array Value} {below : List Frame} {meth : Method} {c : Code} {D : va_G} {cI cZ cH cR : ClassId} {N : Nat} {ad : Nat → Nat} {EE : fw_M → Nat → va_E} {o : Nat} {K125 : fw_M → Int32 → Option (Int32 × fw_M)} {M : fw_M} {x1 : Int32} {z : (Int32 × fw_M)} (C : fw_C p s m args meth c cX9_ministry RX9 wsX9_ministry 2 (some .int) D vwCl (fw_tys cI cZ cH cR) N ad fw_nw0) (ho : o_Mod EE ad N cI cZ cH cR o) (hK125 : ∀ (Mk : fw_M) (kx1 : Int32), K125 Mk kx1 = some z → fw_J p l e (headSpec wsX9_ministry rm_Mod_ministry).room s m args below meth c D vwCl N ad EE 2 0 0 (fw_E below args s D vwCl N ad EE (some (.int z.1)) z.2) Mk [(0, .ref (ad o)), (1, .int kx1)] 125 []) (h : P_Mod_ministry_b125 o K125 M x1 = some z) : fw_J p l e (headSpec wsX9_ministry rm_Mod_ministry).room s m args below meth c D vwCl N ad EE 2 0 0 (fw_E below args s D vwCl N ad EE (some (.int z.1)) z.2) M [(0, .ref (ad o)), (1, .int x1)] 125 [] := by
  unfold P_Mod_ministry_b125 at h
  refine fw_iload_n (pc := 125) C 1 dX9_ministry_125 rfl rfl ?_
  refine fw_bipush (pc := 126) C (v := 39) dX9_ministry_126 fk_bipush_39 ?_
  refine fw_icmp_ge (pc := 128) C (tgt := 149) dX9_ministry_128 (by decide) (fun c1 => ?_) (fun c1 => ?_)
  · have h := fw_ift h c1
    refine fw_aload_n (pc := 149) C 0 dX9_ministry_149 rfl rfl ?_
    refine fw_getr (pc := 150) C ho.2.2.2.2.2.2.1.1 rfl qX9_ministry_19 dX9_ministry_150 ?_
    refine fw_iconst (pc := 153) C (v := 2) dX9_ministry_153 fk_iconst_2 ?_
    obtain ⟨v2, hv2, h⟩ := fw_bind h
    refine fw_iald (pc := 154) C 0 ho.2.2.2.2.2.2.1.2 rfl hv2 dX9_ministry_154 ?_
    exact fw_iret (pc := 155) C (fw_p1 h) (fw_p2 h) dX9_ministry_155
  · have h := fw_iff h c1
    refine fw_aload_n (pc := 131) C 0 dX9_ministry_131 rfl rfl ?_
    refine fw_getr (pc := 132) C ho.2.2.2.2.2.2.1.1 rfl qX9_ministry_19 dX9_ministry_132 ?_
    refine fw_iload_n (pc := 135) C 1 dX9_ministry_135 rfl rfl ?_
    refine fw_aload_n (pc := 136) C 0 dX9_ministry_136 rfl rfl ?_
    refine fw_getr (pc := 137) C ho.2.2.2.2.2.2.2.1.1 rfl qX9_ministry_22 dX9_ministry_137 ?_
    refine fw_iload_n (pc := 140) C 1 dX9_ministry_140 rfl rfl ?_
    obtain ⟨v3, hv3, h⟩ := fw_bind h
    refine fw_iald (pc := 141) C 0 ho.2.2.2.2.2.2.2.1.2 rfl hv3 dX9_ministry_141 ?_
    obtain ⟨M4, hM4, h⟩ := fw_bind h
    refine fw_iast (pc := 142) C 0 ho.2.2.2.2.2.2.1.2 rfl hM4 dX9_ministry_142 ?_
    refine fw_iinc (pc := 143) C (v := 1) (L2 := [(0, .ref _), (1, .int _)]) 1 [1, 0] dX9_ministry_143 rfl fk_iconst_1 (by decide) rfl ?_
    refine fw_goto (pc := 146) C (tgt := 125) dX9_ministry_146 (by decide) ?_
    exact (hK125 _ _ h)
theorem c_Mod_ministry_h125 {p : Program} {l : Launch} {e : Env} {s : State} {m : MethodId} {args : Array Value} {below : List Frame} {meth : Method} {c : Code} {D : va_G} {cI cZ cH cR : ClassId} {N : Nat} {ad : Nat → Nat} {EE : fw_M → Nat → va_E} {o : Nat} {z : (Int32 × fw_M)} (C : fw_C p s m args meth c cX9_ministry RX9 wsX9_ministry 2 (some .int) D vwCl (fw_tys cI cZ cH cR) N ad fw_nw0) (ho : o_Mod EE ad N cI cZ cH cR o) : ∀ (n : Nat) (M : fw_M) (x1 : Int32), P_Mod_ministry_h125 o n M x1 = some z → fw_J p l e (headSpec wsX9_ministry rm_Mod_ministry).room s m args below meth c D vwCl N ad EE 2 0 0 (fw_E below args s D vwCl N ad EE (some (.int z.1)) z.2) M [(0, .ref (ad o)), (1, .int x1)] 125 [] := by
  intro n
  induction n with
  | zero => intro M x1  h; cases h
  | succ n ih => intro M x1  h; exact c_Mod_ministry_b125 C ho ih  h
set_option maxRecDepth 100000 in
theorem c_Mod_ministry_b89 {p : Program} {l : Launch} {e : Env} {s : State} {m : MethodId} {args : Array Value} {below : List Frame} {meth : Method} {c : Code} {D : va_G} {cI cZ cH cR : ClassId} {N : Nat} {ad : Nat → Nat} {EE : fw_M → Nat → va_E} {o : Nat} {K89 : fw_M → Option (Int32 × fw_M)} {M : fw_M} {z : (Int32 × fw_M)} (C : fw_C p s m args meth c cX9_ministry RX9 wsX9_ministry 2 (some .int) D vwCl (fw_tys cI cZ cH cR) N ad fw_nw0) (ho : o_Mod EE ad N cI cZ cH cR o) (hK89 : ∀ (Mk : fw_M), K89 Mk = some z → fw_J p l e (headSpec wsX9_ministry rm_Mod_ministry).room s m args below meth c D vwCl N ad EE 2 0 0 (fw_E below args s D vwCl N ad EE (some (.int z.1)) z.2) Mk [(0, .ref (ad o))] 89 []) (h : P_Mod_ministry_b89 o K89 M = some z) : fw_J p l e (headSpec wsX9_ministry rm_Mod_ministry).room s m args below meth c D vwCl N ad EE 2 0 0 (fw_E below args s D vwCl N ad EE (some (.int z.1)) z.2) M [(0, .ref (ad o))] 89 [] := by
  unfold P_Mod_ministry_b89 at h
  refine fw_aload_n (pc := 89) C 0 dX9_ministry_89 rfl rfl ?_
  obtain ⟨v1, hv1, h⟩ := fw_bind h
  refine fw_callV1 (pc := 90) C (rest := []) (c_Mod_isSort ho hv1) (cwV 0 C.2.2.2.2.1 gX9_ministry_X9_isSort rfl rfl rfl hd_Mod_isSort ⟨Nat.le_of_ble_eq_true rfl, Nat.le_of_ble_eq_true rfl⟩) ho.1 rfl rfl ⟨Nat.zero_le _, Nat.zero_le _⟩ rfl (Nat.le_of_ble_eq_true rfl) dX9_ministry_90 ?_
  refine fw_if_eq (pc := 93) C (tgt := 103) dX9_ministry_93 (by decide) (fun c2 => ?_) (fun c2 => ?_)
  · have h := fw_ift h c2
    refine fw_aload_n (pc := 103) C 0 dX9_ministry_103 rfl rfl ?_
    obtain ⟨q3, hq3, h⟩ := fw_bind h
    refine fw_callV1 (pc := 104) C (rest := []) (c_Mod_failed ho hq3) (cwV 0 C.2.2.2.2.1 gX9_ministry_X9_failed rfl rfl rfl hd_Mod_failed ⟨Nat.le_of_ble_eq_true rfl, Nat.le_of_ble_eq_true rfl⟩) ho.1 rfl rfl ⟨Nat.zero_le _, Nat.zero_le _⟩ rfl (Nat.le_of_ble_eq_true rfl) dX9_ministry_104 ?_
    refine fw_if_eq (pc := 107) C (tgt := 118) dX9_ministry_107 (by decide) (fun c4 => ?_) (fun c4 => ?_)
    · have h := fw_ift h c4
      refine fw_aload_n (pc := 118) C 0 dX9_ministry_118 rfl rfl ?_
      refine fw_iconst (pc := 119) C (v := 0) dX9_ministry_119 fk_iconst_0 ?_
      have h := fw_plh h
      refine fw_puti (pc := 120) C ho.2.2.2.2.2.2.2.2.2.2.1 rfl qX9_ministry_146 tyX9 tyX9_ok nmX9 rfl rfl dX9_ministry_120 ?_
      refine fw_iconst (pc := 123) C (v := 0) dX9_ministry_123 fk_iconst_0 ?_
      refine fw_istore_n (pc := 124) C (L2 := [(0, .ref _), (1, .int _)]) [1, 0] dX9_ministry_124 rfl (by decide) rfl ?_
      exact (c_Mod_ministry_h125 C ho _ _ _ h)
    · have h := fw_iff h c4
      refine fw_ldc (pc := 110) C (v := -1000100) kX9_ministry_145 dX9_ministry_110 ?_
      refine fw_aload_n (pc := 112) C 0 dX9_ministry_112 rfl rfl ?_
      refine fw_geti (pc := 113) C ho.2.2.2.2.2.2.2.2.2.2.2.2.2.2.2.2.2.2.1 rfl qX9_ministry_84 dX9_ministry_113 ?_
      refine fw_isub (pc := 116) C dX9_ministry_116 ?_
      exact fw_iret (pc := 117) C (fw_p1 h) (fw_p2 h) dX9_ministry_117
  · have h := fw_iff h c2
    refine fw_aload_n (pc := 96) C 0 dX9_ministry_96 rfl rfl ?_
    obtain ⟨q6, hq6, h⟩ := fw_bind h
    refine fw_callV0 (pc := 97) C (rest := []) (c_Mod_readPerson ho hq6) (cwV 0 C.2.2.2.2.1 gX9_ministry_X9_readPerson rfl rfl rfl hd_Mod_readPerson ⟨Nat.le_of_ble_eq_true rfl, Nat.le_of_ble_eq_true rfl⟩) ho.1 rfl rfl ⟨Nat.zero_le _, Nat.zero_le _⟩ rfl (Nat.le_of_ble_eq_true rfl) dX9_ministry_97 ?_
    refine fw_goto (pc := 100) C (tgt := 89) dX9_ministry_100 (by decide) ?_
    exact (hK89 _ h)
theorem c_Mod_ministry_h89 {p : Program} {l : Launch} {e : Env} {s : State} {m : MethodId} {args : Array Value} {below : List Frame} {meth : Method} {c : Code} {D : va_G} {cI cZ cH cR : ClassId} {N : Nat} {ad : Nat → Nat} {EE : fw_M → Nat → va_E} {o : Nat} {z : (Int32 × fw_M)} (C : fw_C p s m args meth c cX9_ministry RX9 wsX9_ministry 2 (some .int) D vwCl (fw_tys cI cZ cH cR) N ad fw_nw0) (ho : o_Mod EE ad N cI cZ cH cR o) : ∀ (n : Nat) (M : fw_M), P_Mod_ministry_h89 o n M = some z → fw_J p l e (headSpec wsX9_ministry rm_Mod_ministry).room s m args below meth c D vwCl N ad EE 2 0 0 (fw_E below args s D vwCl N ad EE (some (.int z.1)) z.2) M [(0, .ref (ad o))] 89 [] := by
  intro n
  induction n with
  | zero => intro M  h; cases h
  | succ n ih => intro M  h; exact c_Mod_ministry_b89 C ho ih  h
set_option maxRecDepth 100000 in
theorem c_Mod_ministry_b11 {p : Program} {l : Launch} {e : Env} {s : State} {m : MethodId} {args : Array Value} {below : List Frame} {meth : Method} {c : Code} {D : va_G} {cI cZ cH cR : ClassId} {N : Nat} {ad : Nat → Nat} {EE : fw_M → Nat → va_E} {o : Nat} {K11 : fw_M → Int32 → Option (Int32 × fw_M)} {M : fw_M} {x1 : Int32} {z : (Int32 × fw_M)} (C : fw_C p s m args meth c cX9_ministry RX9 wsX9_ministry 2 (some .int) D vwCl (fw_tys cI cZ cH cR) N ad fw_nw0) (ho : o_Mod EE ad N cI cZ cH cR o) (hK11 : ∀ (Mk : fw_M) (kx1 : Int32), K11 Mk kx1 = some z → fw_J p l e (headSpec wsX9_ministry rm_Mod_ministry).room s m args below meth c D vwCl N ad EE 2 0 0 (fw_E below args s D vwCl N ad EE (some (.int z.1)) z.2) Mk [(0, .ref (ad o)), (1, .int kx1)] 11 []) (h : P_Mod_ministry_b11 o K11 M x1 = some z) : fw_J p l e (headSpec wsX9_ministry rm_Mod_ministry).room s m args below meth c D vwCl N ad EE 2 0 0 (fw_E below args s D vwCl N ad EE (some (.int z.1)) z.2) M [(0, .ref (ad o)), (1, .int x1)] 11 [] := by
  unfold P_Mod_ministry_b11 at h
  refine fw_iload_n (pc := 11) C 1 dX9_ministry_11 rfl rfl ?_
  refine fw_bipush (pc := 12) C (v := 39) dX9_ministry_12 fk_bipush_39 ?_
  refine fw_icmp_ge (pc := 14) C (tgt := 30) dX9_ministry_14 (by decide) (fun c1 => ?_) (fun c1 => ?_)
  · have h := fw_ift h c1
    refine fw_aload_n (pc := 30) C 0 dX9_ministry_30 rfl rfl ?_
    refine fw_aload_n (pc := 31) C 0 dX9_ministry_31 rfl rfl ?_
    refine fw_bipush (pc := 32) C (v := 109) dX9_ministry_32 fk_bipush_109 ?_
    obtain ⟨v2, hv2, h⟩ := fw_bind h
    refine fw_callV1 (pc := 34) C (rest := [_]) (c_Mod_isLetter ho hv2) (cwV 1 C.2.2.2.2.1 gX9_ministry_X9_isLetter rfl rfl rfl hd_Mod_isLetter ⟨Nat.le_of_ble_eq_true rfl, Nat.le_of_ble_eq_true rfl⟩) ho.1 rfl rfl ⟨Nat.zero_le _, Nat.zero_le _⟩ rfl (Nat.le_of_ble_eq_true rfl) dX9_ministry_34 ?_
    obtain ⟨q3, hq3, h⟩ := fw_bind h
    refine fw_callV0 (pc := 37) C (rest := []) (c_Mod_must ho hq3) (cwV 1 C.2.2.2.2.1 gX9_ministry_X9_must rfl rfl rfl hd_Mod_must ⟨Nat.le_of_ble_eq_true rfl, Nat.le_of_ble_eq_true rfl⟩) ho.1 rfl rfl ⟨Nat.zero_le _, Nat.zero_le _⟩ rfl (Nat.le_of_ble_eq_true rfl) dX9_ministry_37 ?_
    refine fw_aload_n (pc := 40) C 0 dX9_ministry_40 rfl rfl ?_
    refine fw_getr (pc := 41) C ho.2.2.2.2.2.2.2.1.1 rfl qX9_ministry_22 dX9_ministry_41 ?_
    refine fw_iconst (pc := 44) C (v := 0) dX9_ministry_44 fk_iconst_0 ?_
    refine fw_aload_n (pc := 45) C 0 dX9_ministry_45 rfl rfl ?_
    refine fw_iconst (pc := 46) C (v := 1) dX9_ministry_46 fk_iconst_1 ?_
    refine fw_iconst (pc := 47) C (v := 4) dX9_ministry_47 fk_iconst_4 ?_
    obtain ⟨q4, hq4, h⟩ := fw_bind h
    refine fw_callV1 (pc := 48) C (rest := [_, _]) (c_Mod_number ho hq4) (cwV 2 C.2.2.2.2.1 gX9_ministry_X9_number rfl rfl rfl hd_Mod_number ⟨Nat.le_of_ble_eq_true rfl, Nat.le_of_ble_eq_true rfl⟩) ho.1 rfl rfl ⟨Nat.zero_le _, Nat.zero_le _⟩ rfl (Nat.le_of_ble_eq_true rfl) dX9_ministry_48 ?_
    obtain ⟨M5, hM5, h⟩ := fw_bind h
    refine fw_iast (pc := 51) C 0 ho.2.2.2.2.2.2.2.1.2 rfl hM5 dX9_ministry_51 ?_
    refine fw_aload_n (pc := 52) C 0 dX9_ministry_52 rfl rfl ?_
    refine fw_bipush (pc := 53) C (v := 44) dX9_ministry_53 fk_bipush_44 ?_
    obtain ⟨q6, hq6, h⟩ := fw_bind h
    refine fw_callV0 (pc := 55) C (rest := []) (c_Mod_mustSign ho hq6) (cwV 1 C.2.2.2.2.1 gX9_ministry_X9_mustSign rfl rfl rfl hd_Mod_mustSign ⟨Nat.le_of_ble_eq_true rfl, Nat.le_of_ble_eq_true rfl⟩) ho.1 rfl rfl ⟨Nat.zero_le _, Nat.zero_le _⟩ rfl (Nat.le_of_ble_eq_true rfl) dX9_ministry_55 ?_
    refine fw_aload_n (pc := 58) C 0 dX9_ministry_58 rfl rfl ?_
    refine fw_getr (pc := 59) C ho.2.2.2.2.2.2.2.1.1 rfl qX9_ministry_22 dX9_ministry_59 ?_
    refine fw_iconst (pc := 62) C (v := 1) dX9_ministry_62 fk_iconst_1 ?_
    refine fw_aload_n (pc := 63) C 0 dX9_ministry_63 rfl rfl ?_
    refine fw_iconst (pc := 64) C (v := 1) dX9_ministry_64 fk_iconst_1 ?_
    refine fw_bipush (pc := 65) C (v := 9) dX9_ministry_65 fk_bipush_9 ?_
    obtain ⟨q7, hq7, h⟩ := fw_bind h
    refine fw_callV1 (pc := 67) C (rest := [_, _]) (c_Mod_number ho hq7) (cwV 2 C.2.2.2.2.1 gX9_ministry_X9_number rfl rfl rfl hd_Mod_number ⟨Nat.le_of_ble_eq_true rfl, Nat.le_of_ble_eq_true rfl⟩) ho.1 rfl rfl ⟨Nat.zero_le _, Nat.zero_le _⟩ rfl (Nat.le_of_ble_eq_true rfl) dX9_ministry_67 ?_
    obtain ⟨M8, hM8, h⟩ := fw_bind h
    refine fw_iast (pc := 70) C 0 ho.2.2.2.2.2.2.2.1.2 rfl hM8 dX9_ministry_70 ?_
    refine fw_aload_n (pc := 71) C 0 dX9_ministry_71 rfl rfl ?_
    refine fw_bipush (pc := 72) C (v := 59) dX9_ministry_72 fk_bipush_59 ?_
    obtain ⟨q9, hq9, h⟩ := fw_bind h
    refine fw_callV0 (pc := 74) C (rest := []) (c_Mod_mustSign ho hq9) (cwV 1 C.2.2.2.2.1 gX9_ministry_X9_mustSign rfl rfl rfl hd_Mod_mustSign ⟨Nat.le_of_ble_eq_true rfl, Nat.le_of_ble_eq_true rfl⟩) ho.1 rfl rfl ⟨Nat.zero_le _, Nat.zero_le _⟩ rfl (Nat.le_of_ble_eq_true rfl) dX9_ministry_74 ?_
    refine fw_aload_n (pc := 77) C 0 dX9_ministry_77 rfl rfl ?_
    obtain ⟨v10, hv10, h⟩ := fw_bind h
    refine fw_callV1 (pc := 78) C (rest := []) (c_Mod_isSort ho hv10) (cwV 0 C.2.2.2.2.1 gX9_ministry_X9_isSort rfl rfl rfl hd_Mod_isSort ⟨Nat.le_of_ble_eq_true rfl, Nat.le_of_ble_eq_true rfl⟩) ho.1 rfl rfl ⟨Nat.zero_le _, Nat.zero_le _⟩ rfl (Nat.le_of_ble_eq_true rfl) dX9_ministry_78 ?_
    refine fw_if_ne (pc := 81) C (tgt := 89) dX9_ministry_81 (by decide) (fun c11 => ?_) (fun c11 => ?_)
    · have h := fw_iff h c11
      exact fw_sub [0] rfl (c_Mod_ministry_h89 C ho _ _ h)
    · have h := fw_ift h c11
      refine fw_aload_n (pc := 84) C 0 dX9_ministry_84 rfl rfl ?_
      refine fw_iconst (pc := 85) C (v := 1) dX9_ministry_85 fk_iconst_1 ?_
      obtain ⟨q12, hq12, h⟩ := fw_bind h
      refine fw_callV0 (pc := 86) C (rest := []) (c_Mod_bad ho hq12) (cwV 1 C.2.2.2.2.1 gX9_ministry_X9_bad rfl rfl rfl hd_Mod_bad ⟨Nat.le_of_ble_eq_true rfl, Nat.le_of_ble_eq_true rfl⟩) ho.1 rfl rfl ⟨Nat.zero_le _, Nat.zero_le _⟩ rfl (Nat.le_of_ble_eq_true rfl) dX9_ministry_86 ?_
      exact fw_sub [0] rfl (c_Mod_ministry_h89 C ho _ _ h)
  · have h := fw_iff h c1
    refine fw_aload_n (pc := 17) C 0 dX9_ministry_17 rfl rfl ?_
    refine fw_getr (pc := 18) C ho.2.2.2.2.2.2.2.1.1 rfl qX9_ministry_22 dX9_ministry_18 ?_
    refine fw_iload_n (pc := 21) C 1 dX9_ministry_21 rfl rfl ?_
    refine fw_iconst (pc := 22) C (v := 0) dX9_ministry_22 fk_iconst_0 ?_
    obtain ⟨M13, hM13, h⟩ := fw_bind h
    refine fw_iast (pc := 23) C 0 ho.2.2.2.2.2.2.2.1.2 rfl hM13 dX9_ministry_23 ?_
    refine fw_iinc (pc := 24) C (v := 1) (L2 := [(0, .ref _), (1, .int _)]) 1 [1, 0] dX9_ministry_24 rfl fk_iconst_1 (by decide) rfl ?_
    refine fw_goto (pc := 27) C (tgt := 11) dX9_ministry_27 (by decide) ?_
    exact (hK11 _ _ h)
theorem c_Mod_ministry_h11 {p : Program} {l : Launch} {e : Env} {s : State} {m : MethodId} {args : Array Value} {below : List Frame} {meth : Method} {c : Code} {D : va_G} {cI cZ cH cR : ClassId} {N : Nat} {ad : Nat → Nat} {EE : fw_M → Nat → va_E} {o : Nat} {z : (Int32 × fw_M)} (C : fw_C p s m args meth c cX9_ministry RX9 wsX9_ministry 2 (some .int) D vwCl (fw_tys cI cZ cH cR) N ad fw_nw0) (ho : o_Mod EE ad N cI cZ cH cR o) : ∀ (n : Nat) (M : fw_M) (x1 : Int32), P_Mod_ministry_h11 o n M x1 = some z → fw_J p l e (headSpec wsX9_ministry rm_Mod_ministry).room s m args below meth c D vwCl N ad EE 2 0 0 (fw_E below args s D vwCl N ad EE (some (.int z.1)) z.2) M [(0, .ref (ad o)), (1, .int x1)] 11 [] := by
  intro n
  induction n with
  | zero => intro M x1  h; cases h
  | succ n ih => intro M x1  h; exact c_Mod_ministry_b11 C ho ih  h
set_option maxRecDepth 100000 in
theorem c_Mod_ministry_b0 {p : Program} {l : Launch} {e : Env} {s : State} {m : MethodId} {args : Array Value} {below : List Frame} {meth : Method} {c : Code} {D : va_G} {cI cZ cH cR : ClassId} {N : Nat} {ad : Nat → Nat} {EE : fw_M → Nat → va_E} {o : Nat} {M : fw_M} {z : (Int32 × fw_M)} (C : fw_C p s m args meth c cX9_ministry RX9 wsX9_ministry 2 (some .int) D vwCl (fw_tys cI cZ cH cR) N ad fw_nw0) (ho : o_Mod EE ad N cI cZ cH cR o) (h : P_Mod_ministry_b0 o M = some z) : fw_J p l e (headSpec wsX9_ministry rm_Mod_ministry).room s m args below meth c D vwCl N ad EE 2 0 0 (fw_E below args s D vwCl N ad EE (some (.int z.1)) z.2) M [(0, .ref (ad o))] 0 [] := by
  unfold P_Mod_ministry_b0 at h
  refine fw_aload_n (pc := 0) C 0 dX9_ministry_0 rfl rfl ?_
  refine fw_iconst (pc := 1) C (v := 0) dX9_ministry_1 fk_iconst_0 ?_
  have h := fw_plh h
  refine fw_puti (pc := 2) C ho.2.1 rfl qX9_ministry_47 tyX9 tyX9_ok nmX9 rfl rfl dX9_ministry_2 ?_
  refine fw_aload_n (pc := 5) C 0 dX9_ministry_5 rfl rfl ?_
  obtain ⟨q2, hq2, h⟩ := fw_bind h
  refine fw_callV0 (pc := 6) C (rest := []) (c_Mod_begin ho hq2) (cwV 0 C.2.2.2.2.1 gX9_ministry_X9_begin rfl rfl rfl hd_Mod_begin ⟨Nat.le_of_ble_eq_true rfl, Nat.le_of_ble_eq_true rfl⟩) ho.1 rfl rfl ⟨Nat.zero_le _, Nat.zero_le _⟩ rfl (Nat.le_of_ble_eq_true rfl) dX9_ministry_6 ?_
  refine fw_iconst (pc := 9) C (v := 0) dX9_ministry_9 fk_iconst_0 ?_
  refine fw_istore_n (pc := 10) C (L2 := [(0, .ref _), (1, .int _)]) [1, 0] dX9_ministry_10 rfl (by decide) rfl ?_
  exact (c_Mod_ministry_h11 C ho _ _ _ h)
theorem c_Mod_ministry {l : Launch} {D : va_G} {cI cZ cH cR : ClassId} {N : Nat} {ad : Nat → Nat} {EE : fw_M → Nat → va_E} {o : Nat} {M : fw_M} {z : (Int32 × fw_M)} (ho : o_Mod EE ad N cI cZ cH cR o) (h : P_Mod_ministry o M = some z) : fw_Met l yX9_ministry wsX9_ministry rm_Mod_ministry D vwCl (fw_tys cI cZ cH cR) N ad fw_nw0 EE [.ref (ad o)] M (some (.int z.1)) z.2 := by
  unfold P_Mod_ministry at h
  exact fw_intro (cc := cX9_ministry) (maxL := 2) (ret := some .int) (own := RX9) (by decide) rfl rfl (Nat.le_of_ble_eq_true rfl) (fun p e s m args below meth c C => fw_sub [0] rfl (c_Mod_ministry_b0 C ho h))
abbrev rm_Mod_isThere : Room := { frames := 0, cells := 0, slots := 0, locals := 0 }
theorem hd_Mod_isThere : yX9_isThere.cls = RX9 ∧ yX9_isThere.cls ≠ "java/lang/invoke/MethodHandle" ∧ yX9_isThere.cls ≠ "java/lang/invoke/VarHandle" ∧ (parseMethodDescriptor yX9_isThere.desc).map (fun d => d.parameters.length) = some 0 := by decide +kernel
theorem qX9_isThere_19 : fw_G wsX9_isThere RX9 19 RX9 TX9 24 5 := ⟨by decide +kernel, by decide +kernel, by decide⟩
def P_Mod_isThere_b14 (o : Nat) (M : fw_M) (t0 : Int32) : Option Int32 := (fw_zr t0).bind fun v1 => some v1
def P_Mod_isThere_b0 (o : Nat) (M : fw_M) : Option Int32 := (fw_ald M (o + 4) 39 (0 : Int32)).bind fun v1 => (if v1 ≤ (0 : Int32) then P_Mod_isThere_b14 o M (0 : Int32) else P_Mod_isThere_b14 o M (1 : Int32))
def P_Mod_isThere (o : Nat) (M : fw_M) : Option Int32 := P_Mod_isThere_b0 o M
set_option maxRecDepth 100000 in
theorem c_Mod_isThere_b14 {p : Program} {l : Launch} {e : Env} {s : State} {m : MethodId} {args : Array Value} {below : List Frame} {meth : Method} {c : Code} {D : va_G} {cI cZ cH cR : ClassId} {N : Nat} {ad : Nat → Nat} {EE : fw_M → Nat → va_E} {o : Nat} {M : fw_M} {t0 : Int32} {z : Int32} (C : fw_C p s m args meth c cX9_isThere RX9 wsX9_isThere 1 (some .boolean) D vwCl (fw_tys cI cZ cH cR) N ad fw_nw0) (ho : o_Mod EE ad N cI cZ cH cR o) (h : P_Mod_isThere_b14 o M t0 = some z) : fw_J p l e (headSpec wsX9_isThere rm_Mod_isThere).room s m args below meth c D vwCl N ad EE 1 0 0 (fw_E below args s D vwCl N ad EE (some (.int z)) M) M [] 14 [.int t0] := by
  unfold P_Mod_isThere_b14 at h
  obtain ⟨v1, hv1, h⟩ := fw_bind h
  exact fw_zret (pc := 14) C (fw_zrh hv1).1 ((fw_zrh hv1).2.trans (Option.some.inj h)) rfl dX9_isThere_14
set_option maxRecDepth 100000 in
theorem c_Mod_isThere_b0 {p : Program} {l : Launch} {e : Env} {s : State} {m : MethodId} {args : Array Value} {below : List Frame} {meth : Method} {c : Code} {D : va_G} {cI cZ cH cR : ClassId} {N : Nat} {ad : Nat → Nat} {EE : fw_M → Nat → va_E} {o : Nat} {M : fw_M} {z : Int32} (C : fw_C p s m args meth c cX9_isThere RX9 wsX9_isThere 1 (some .boolean) D vwCl (fw_tys cI cZ cH cR) N ad fw_nw0) (ho : o_Mod EE ad N cI cZ cH cR o) (h : P_Mod_isThere_b0 o M = some z) : fw_J p l e (headSpec wsX9_isThere rm_Mod_isThere).room s m args below meth c D vwCl N ad EE 1 0 0 (fw_E below args s D vwCl N ad EE (some (.int z)) M) M [(0, .ref (ad o))] 0 [] := by
  unfold P_Mod_isThere_b0 at h
  refine fw_aload_n (pc := 0) C 0 dX9_isThere_0 rfl rfl ?_
  refine fw_getr (pc := 1) C ho.2.2.2.2.2.2.1.1 rfl qX9_isThere_19 dX9_isThere_1 ?_
  refine fw_iconst (pc := 4) C (v := 0) dX9_isThere_4 fk_iconst_0 ?_
  obtain ⟨v1, hv1, h⟩ := fw_bind h
  refine fw_iald (pc := 5) C 0 ho.2.2.2.2.2.2.1.2 rfl hv1 dX9_isThere_5 ?_
  refine fw_if_le (pc := 6) C (tgt := 13) dX9_isThere_6 (by decide) (fun c2 => ?_) (fun c2 => ?_)
  · have h := fw_ift h c2
    refine fw_iconst (pc := 13) C (v := 0) dX9_isThere_13 fk_iconst_0 ?_
    exact fw_sub [] rfl (c_Mod_isThere_b14 C ho h)
  · have h := fw_iff h c2
    refine fw_iconst (pc := 9) C (v := 1) dX9_isThere_9 fk_iconst_1 ?_
    refine fw_goto (pc := 10) C (tgt := 14) dX9_isThere_10 (by decide) ?_
    exact fw_sub [] rfl (c_Mod_isThere_b14 C ho h)
theorem c_Mod_isThere {l : Launch} {D : va_G} {cI cZ cH cR : ClassId} {N : Nat} {ad : Nat → Nat} {EE : fw_M → Nat → va_E} {o : Nat} {M : fw_M} {z : Int32} (ho : o_Mod EE ad N cI cZ cH cR o) (h : P_Mod_isThere o M = some z) : fw_Met l yX9_isThere wsX9_isThere rm_Mod_isThere D vwCl (fw_tys cI cZ cH cR) N ad fw_nw0 EE [.ref (ad o)] M (some (.int z)) M := by
  unfold P_Mod_isThere at h
  exact fw_intro (cc := cX9_isThere) (maxL := 1) (ret := some .boolean) (own := RX9) (by decide) rfl rfl (Nat.le_of_ble_eq_true rfl) (fun p e s m args below meth c C => fw_sub [0] rfl (c_Mod_isThere_b0 C ho h))
abbrev rm_Mod_isPerson : Room := { frames := 1, cells := 0, slots := 0, locals := 25 }
theorem hd_Mod_isPerson : yX9_isPerson.cls = RX9 ∧ yX9_isPerson.cls ≠ "java/lang/invoke/MethodHandle" ∧ yX9_isPerson.cls ≠ "java/lang/invoke/VarHandle" ∧ (parseMethodDescriptor yX9_isPerson.desc).map (fun d => d.parameters.length) = some 1 := by decide +kernel
theorem qX9_isPerson_19 : fw_G wsX9_isPerson RX9 19 RX9 TX9 24 5 := ⟨by decide +kernel, by decide +kernel, by decide⟩
def P_Mod_isPerson_b0 (o : Nat) (M : fw_M) (x1 : Int32) : Option Int32 := (fw_ald M (o + 4) 39 (2 : Int32)).bind fun v1 => (P_Mod_in M (Int32.toInt64 x1) (0 : Int64) (Int32.toInt64 (v1 - (1 : Int32)))).bind fun v2 => (fw_zr v2).bind fun v3 => some v3
def P_Mod_isPerson (o : Nat) (M : fw_M) (a0 : Int32) : Option Int32 := P_Mod_isPerson_b0 o M a0
set_option maxRecDepth 100000 in
theorem c_Mod_isPerson_b0 {p : Program} {l : Launch} {e : Env} {s : State} {m : MethodId} {args : Array Value} {below : List Frame} {meth : Method} {c : Code} {D : va_G} {cI cZ cH cR : ClassId} {N : Nat} {ad : Nat → Nat} {EE : fw_M → Nat → va_E} {o : Nat} {M : fw_M} {x1 : Int32} {z : Int32} (C : fw_C p s m args meth c cX9_isPerson RX9 wsX9_isPerson 2 (some .boolean) D vwCl (fw_tys cI cZ cH cR) N ad fw_nw0) (ho : o_Mod EE ad N cI cZ cH cR o) (h : P_Mod_isPerson_b0 o M x1 = some z) : fw_J p l e (headSpec wsX9_isPerson rm_Mod_isPerson).room s m args below meth c D vwCl N ad EE 2 0 0 (fw_E below args s D vwCl N ad EE (some (.int z)) M) M [(0, .ref (ad o)), (1, .int x1)] 0 [] := by
  unfold P_Mod_isPerson_b0 at h
  refine fw_iload_n (pc := 0) C 1 dX9_isPerson_0 rfl rfl ?_
  refine fw_i2l (pc := 1) C dX9_isPerson_1 ?_
  refine fw_lconst (pc := 2) C (v := 0) dX9_isPerson_2 fk_lconst_0 ?_
  refine fw_aload_n (pc := 3) C 0 dX9_isPerson_3 rfl rfl ?_
  refine fw_getr (pc := 4) C ho.2.2.2.2.2.2.1.1 rfl qX9_isPerson_19 dX9_isPerson_4 ?_
  refine fw_iconst (pc := 7) C (v := 2) dX9_isPerson_7 fk_iconst_2 ?_
  obtain ⟨v1, hv1, h⟩ := fw_bind h
  refine fw_iald (pc := 8) C 0 ho.2.2.2.2.2.2.1.2 rfl hv1 dX9_isPerson_8 ?_
  refine fw_iconst (pc := 9) C (v := 1) dX9_isPerson_9 fk_iconst_1 ?_
  refine fw_isub (pc := 10) C dX9_isPerson_10 ?_
  refine fw_i2l (pc := 11) C dX9_isPerson_11 ?_
  obtain ⟨v2, hv2, h⟩ := fw_bind h
  refine fw_callS1 (pc := 12) C (rest := []) (c_Mod_in  hv2) (va_cwS 3 C.2.2.2.2.1 gX9_isPerson_X9_in rfl rfl rfl hd_Mod_in.2 ⟨Nat.le_of_ble_eq_true rfl, Nat.le_of_ble_eq_true rfl⟩) rfl ⟨Nat.zero_le _, Nat.zero_le _⟩ rfl (Nat.le_of_ble_eq_true rfl) dX9_isPerson_12 ?_
  obtain ⟨v3, hv3, h⟩ := fw_bind h
  exact fw_zret (pc := 15) C (fw_zrh hv3).1 ((fw_zrh hv3).2.trans (Option.some.inj h)) rfl dX9_isPerson_15
theorem c_Mod_isPerson {l : Launch} {D : va_G} {cI cZ cH cR : ClassId} {N : Nat} {ad : Nat → Nat} {EE : fw_M → Nat → va_E} {o : Nat} {M : fw_M} {a0 : Int32} {z : Int32} (ho : o_Mod EE ad N cI cZ cH cR o) (h : P_Mod_isPerson o M a0 = some z) : fw_Met l yX9_isPerson wsX9_isPerson rm_Mod_isPerson D vwCl (fw_tys cI cZ cH cR) N ad fw_nw0 EE [.ref (ad o), .int a0] M (some (.int z)) M := by
  unfold P_Mod_isPerson at h
  exact fw_intro (cc := cX9_isPerson) (maxL := 2) (ret := some .boolean) (own := RX9) (by decide) rfl rfl (Nat.le_of_ble_eq_true rfl) (fun p e s m args below meth c C => fw_sub [0, 1] rfl (c_Mod_isPerson_b0 C ho h))
abbrev rm_Mod_isDoor : Room := { frames := 1, cells := 0, slots := 0, locals := 25 }
theorem hd_Mod_isDoor : yX9_isDoor.cls = RX9 ∧ yX9_isDoor.cls ≠ "java/lang/invoke/MethodHandle" ∧ yX9_isDoor.cls ≠ "java/lang/invoke/VarHandle" ∧ (parseMethodDescriptor yX9_isDoor.desc).map (fun d => d.parameters.length) = some 1 := by decide +kernel
theorem qX9_isDoor_19 : fw_G wsX9_isDoor RX9 19 RX9 TX9 24 5 := ⟨by decide +kernel, by decide +kernel, by decide⟩
def P_Mod_isDoor_b0 (o : Nat) (M : fw_M) (x1 : Int32) : Option Int32 := (fw_ald M (o + 4) 39 (0 : Int32)).bind fun v1 => (P_Mod_in M (Int32.toInt64 x1) (0 : Int64) (Int32.toInt64 (v1 - (1 : Int32)))).bind fun v2 => (fw_zr v2).bind fun v3 => some v3
def P_Mod_isDoor (o : Nat) (M : fw_M) (a0 : Int32) : Option Int32 := P_Mod_isDoor_b0 o M a0
set_option maxRecDepth 100000 in
theorem c_Mod_isDoor_b0 {p : Program} {l : Launch} {e : Env} {s : State} {m : MethodId} {args : Array Value} {below : List Frame} {meth : Method} {c : Code} {D : va_G} {cI cZ cH cR : ClassId} {N : Nat} {ad : Nat → Nat} {EE : fw_M → Nat → va_E} {o : Nat} {M : fw_M} {x1 : Int32} {z : Int32} (C : fw_C p s m args meth c cX9_isDoor RX9 wsX9_isDoor 2 (some .boolean) D vwCl (fw_tys cI cZ cH cR) N ad fw_nw0) (ho : o_Mod EE ad N cI cZ cH cR o) (h : P_Mod_isDoor_b0 o M x1 = some z) : fw_J p l e (headSpec wsX9_isDoor rm_Mod_isDoor).room s m args below meth c D vwCl N ad EE 2 0 0 (fw_E below args s D vwCl N ad EE (some (.int z)) M) M [(0, .ref (ad o)), (1, .int x1)] 0 [] := by
  unfold P_Mod_isDoor_b0 at h
  refine fw_iload_n (pc := 0) C 1 dX9_isDoor_0 rfl rfl ?_
  refine fw_i2l (pc := 1) C dX9_isDoor_1 ?_
  refine fw_lconst (pc := 2) C (v := 0) dX9_isDoor_2 fk_lconst_0 ?_
  refine fw_aload_n (pc := 3) C 0 dX9_isDoor_3 rfl rfl ?_
  refine fw_getr (pc := 4) C ho.2.2.2.2.2.2.1.1 rfl qX9_isDoor_19 dX9_isDoor_4 ?_
  refine fw_iconst (pc := 7) C (v := 0) dX9_isDoor_7 fk_iconst_0 ?_
  obtain ⟨v1, hv1, h⟩ := fw_bind h
  refine fw_iald (pc := 8) C 0 ho.2.2.2.2.2.2.1.2 rfl hv1 dX9_isDoor_8 ?_
  refine fw_iconst (pc := 9) C (v := 1) dX9_isDoor_9 fk_iconst_1 ?_
  refine fw_isub (pc := 10) C dX9_isDoor_10 ?_
  refine fw_i2l (pc := 11) C dX9_isDoor_11 ?_
  obtain ⟨v2, hv2, h⟩ := fw_bind h
  refine fw_callS1 (pc := 12) C (rest := []) (c_Mod_in  hv2) (va_cwS 3 C.2.2.2.2.1 gX9_isDoor_X9_in rfl rfl rfl hd_Mod_in.2 ⟨Nat.le_of_ble_eq_true rfl, Nat.le_of_ble_eq_true rfl⟩) rfl ⟨Nat.zero_le _, Nat.zero_le _⟩ rfl (Nat.le_of_ble_eq_true rfl) dX9_isDoor_12 ?_
  obtain ⟨v3, hv3, h⟩ := fw_bind h
  exact fw_zret (pc := 15) C (fw_zrh hv3).1 ((fw_zrh hv3).2.trans (Option.some.inj h)) rfl dX9_isDoor_15
theorem c_Mod_isDoor {l : Launch} {D : va_G} {cI cZ cH cR : ClassId} {N : Nat} {ad : Nat → Nat} {EE : fw_M → Nat → va_E} {o : Nat} {M : fw_M} {a0 : Int32} {z : Int32} (ho : o_Mod EE ad N cI cZ cH cR o) (h : P_Mod_isDoor o M a0 = some z) : fw_Met l yX9_isDoor wsX9_isDoor rm_Mod_isDoor D vwCl (fw_tys cI cZ cH cR) N ad fw_nw0 EE [.ref (ad o), .int a0] M (some (.int z)) M := by
  unfold P_Mod_isDoor at h
  exact fw_intro (cc := cX9_isDoor) (maxL := 2) (ret := some .boolean) (own := RX9) (by decide) rfl rfl (Nat.le_of_ble_eq_true rfl) (fun p e s m args below meth c C => fw_sub [0, 1] rfl (c_Mod_isDoor_b0 C ho h))
abbrev rm_Mod_of : Room := { frames := 0, cells := 0, slots := 0, locals := 0 }
theorem hd_Mod_of : yX9_of.cls = RX9 ∧ yX9_of.cls ≠ "java/lang/invoke/MethodHandle" ∧ yX9_of.cls ≠ "java/lang/invoke/VarHandle" ∧ (parseMethodDescriptor yX9_of.desc).map (fun d => d.parameters.length) = some 3 := by decide +kernel
def P_Mod_of_b0 (r0 : Nat) (M : fw_M) (x1 : Int32) (x2 : Int32) : Option Int32 := (fw_ald M r0 39 (((4 : Int32) + ((5 : Int32) * x1)) + x2)).bind fun v1 => some v1
def P_Mod_of (r0 : Nat) (M : fw_M) (a1 : Int32) (a2 : Int32) : Option Int32 := P_Mod_of_b0 r0 M a1 a2
set_option maxRecDepth 100000 in
theorem c_Mod_of_b0 {p : Program} {l : Launch} {e : Env} {s : State} {m : MethodId} {args : Array Value} {below : List Frame} {meth : Method} {c : Code} {D : va_G} {cI cZ cH cR : ClassId} {N : Nat} {ad : Nat → Nat} {EE : fw_M → Nat → va_E} {r0 : Nat} {M : fw_M} {x1 : Int32} {x2 : Int32} {z : Int32} (C : fw_C p s m args meth c cX9_of RX9 wsX9_of 3 (some .int) D vwCl (fw_tys cI cZ cH cR) N ad fw_nw0) (hr0 : fw_I EE N cI r0 39) (h : P_Mod_of_b0 r0 M x1 x2 = some z) : fw_J p l e (headSpec wsX9_of rm_Mod_of).room s m args below meth c D vwCl N ad EE 3 0 0 (fw_E below args s D vwCl N ad EE (some (.int z)) M) M [(0, .ref (ad r0)), (1, .int x1), (2, .int x2)] 0 [] := by
  unfold P_Mod_of_b0 at h
  refine fw_aload_n (pc := 0) C 0 dX9_of_0 rfl rfl ?_
  refine fw_iconst (pc := 1) C (v := 4) dX9_of_1 fk_iconst_4 ?_
  refine fw_iconst (pc := 2) C (v := 5) dX9_of_2 fk_iconst_5 ?_
  refine fw_iload_n (pc := 3) C 1 dX9_of_3 rfl rfl ?_
  refine fw_imul (pc := 4) C dX9_of_4 ?_
  refine fw_iadd (pc := 5) C dX9_of_5 ?_
  refine fw_iload_n (pc := 6) C 2 dX9_of_6 rfl rfl ?_
  refine fw_iadd (pc := 7) C dX9_of_7 ?_
  obtain ⟨v1, hv1, h⟩ := fw_bind h
  refine fw_iald (pc := 8) C 0 hr0 rfl hv1 dX9_of_8 ?_
  exact fw_iret (pc := 9) C (Option.some.inj h) rfl dX9_of_9
theorem c_Mod_of {l : Launch} {D : va_G} {cI cZ cH cR : ClassId} {N : Nat} {ad : Nat → Nat} {EE : fw_M → Nat → va_E} {r0 : Nat} {M : fw_M} {a1 : Int32} {a2 : Int32} {z : Int32} (hr0 : fw_I EE N cI r0 39) (h : P_Mod_of r0 M a1 a2 = some z) : fw_Met l yX9_of wsX9_of rm_Mod_of D vwCl (fw_tys cI cZ cH cR) N ad fw_nw0 EE [.ref (ad r0), .int a1, .int a2] M (some (.int z)) M := by
  unfold P_Mod_of at h
  exact fw_intro (cc := cX9_of) (maxL := 3) (ret := some .int) (own := RX9) (by decide) rfl rfl (Nat.le_of_ble_eq_true rfl) (fun p e s m args below meth c C => fw_sub [0, 1, 2] rfl (c_Mod_of_b0 C hr0 h))
abbrev rm_Mod_waits : Room := { frames := 1, cells := 0, slots := 0, locals := 22 }
theorem hd_Mod_waits : yX9_waits.cls = RX9 ∧ yX9_waits.cls ≠ "java/lang/invoke/MethodHandle" ∧ yX9_waits.cls ≠ "java/lang/invoke/VarHandle" ∧ (parseMethodDescriptor yX9_waits.desc).map (fun d => d.parameters.length) = some 3 := by decide +kernel
def P_Mod_waits_b15 (r0 : Nat) (M : fw_M) (t0 : Int32) : Option Int32 := (fw_zr t0).bind fun v1 => some v1
def P_Mod_waits_b0 (r0 : Nat) (M : fw_M) (x1 : Int32) (x2 : Int32) : Option Int32 := (P_Mod_of r0 M x1 (3 : Int32)).bind fun v1 => (if v1 = x2 then P_Mod_waits_b15 r0 M (1 : Int32) else P_Mod_waits_b15 r0 M (0 : Int32))
def P_Mod_waits (r0 : Nat) (M : fw_M) (a1 : Int32) (a2 : Int32) : Option Int32 := P_Mod_waits_b0 r0 M a1 a2
set_option maxRecDepth 100000 in
theorem c_Mod_waits_b15 {p : Program} {l : Launch} {e : Env} {s : State} {m : MethodId} {args : Array Value} {below : List Frame} {meth : Method} {c : Code} {D : va_G} {cI cZ cH cR : ClassId} {N : Nat} {ad : Nat → Nat} {EE : fw_M → Nat → va_E} {r0 : Nat} {M : fw_M} {t0 : Int32} {z : Int32} (C : fw_C p s m args meth c cX9_waits RX9 wsX9_waits 3 (some .boolean) D vwCl (fw_tys cI cZ cH cR) N ad fw_nw0) (hr0 : fw_I EE N cI r0 39) (h : P_Mod_waits_b15 r0 M t0 = some z) : fw_J p l e (headSpec wsX9_waits rm_Mod_waits).room s m args below meth c D vwCl N ad EE 3 0 0 (fw_E below args s D vwCl N ad EE (some (.int z)) M) M [] 15 [.int t0] := by
  unfold P_Mod_waits_b15 at h
  obtain ⟨v1, hv1, h⟩ := fw_bind h
  exact fw_zret (pc := 15) C (fw_zrh hv1).1 ((fw_zrh hv1).2.trans (Option.some.inj h)) rfl dX9_waits_15
set_option maxRecDepth 100000 in
theorem c_Mod_waits_b0 {p : Program} {l : Launch} {e : Env} {s : State} {m : MethodId} {args : Array Value} {below : List Frame} {meth : Method} {c : Code} {D : va_G} {cI cZ cH cR : ClassId} {N : Nat} {ad : Nat → Nat} {EE : fw_M → Nat → va_E} {r0 : Nat} {M : fw_M} {x1 : Int32} {x2 : Int32} {z : Int32} (C : fw_C p s m args meth c cX9_waits RX9 wsX9_waits 3 (some .boolean) D vwCl (fw_tys cI cZ cH cR) N ad fw_nw0) (hr0 : fw_I EE N cI r0 39) (h : P_Mod_waits_b0 r0 M x1 x2 = some z) : fw_J p l e (headSpec wsX9_waits rm_Mod_waits).room s m args below meth c D vwCl N ad EE 3 0 0 (fw_E below args s D vwCl N ad EE (some (.int z)) M) M [(0, .ref (ad r0)), (1, .int x1), (2, .int x2)] 0 [] := by
  unfold P_Mod_waits_b0 at h
  refine fw_aload_n (pc := 0) C 0 dX9_waits_0 rfl rfl ?_
  refine fw_iload_n (pc := 1) C 1 dX9_waits_1 rfl rfl ?_
  refine fw_iconst (pc := 2) C (v := 3) dX9_waits_2 fk_iconst_3 ?_
  obtain ⟨v1, hv1, h⟩ := fw_bind h
  refine fw_callS1 (pc := 3) C (rest := []) (c_Mod_of hr0 hv1) (va_cwS 3 C.2.2.2.2.1 gX9_waits_X9_of rfl rfl rfl hd_Mod_of.2 ⟨Nat.le_of_ble_eq_true rfl, Nat.le_of_ble_eq_true rfl⟩) rfl ⟨Nat.zero_le _, Nat.zero_le _⟩ rfl (Nat.le_of_ble_eq_true rfl) dX9_waits_3 ?_
  refine fw_iload_n (pc := 6) C 2 dX9_waits_6 rfl rfl ?_
  refine fw_icmp_ne (pc := 7) C (tgt := 14) dX9_waits_7 (by decide) (fun c2 => ?_) (fun c2 => ?_)
  · have h := fw_iff h c2
    refine fw_iconst (pc := 14) C (v := 0) dX9_waits_14 fk_iconst_0 ?_
    exact fw_sub [] rfl (c_Mod_waits_b15 C hr0 h)
  · have h := fw_ift h c2
    refine fw_iconst (pc := 10) C (v := 1) dX9_waits_10 fk_iconst_1 ?_
    refine fw_goto (pc := 11) C (tgt := 15) dX9_waits_11 (by decide) ?_
    exact fw_sub [] rfl (c_Mod_waits_b15 C hr0 h)
theorem c_Mod_waits {l : Launch} {D : va_G} {cI cZ cH cR : ClassId} {N : Nat} {ad : Nat → Nat} {EE : fw_M → Nat → va_E} {r0 : Nat} {M : fw_M} {a1 : Int32} {a2 : Int32} {z : Int32} (hr0 : fw_I EE N cI r0 39) (h : P_Mod_waits r0 M a1 a2 = some z) : fw_Met l yX9_waits wsX9_waits rm_Mod_waits D vwCl (fw_tys cI cZ cH cR) N ad fw_nw0 EE [.ref (ad r0), .int a1, .int a2] M (some (.int z)) M := by
  unfold P_Mod_waits at h
  exact fw_intro (cc := cX9_waits) (maxL := 3) (ret := some .boolean) (own := RX9) (by decide) rfl rfl (Nat.le_of_ble_eq_true rfl) (fun p e s m args below meth c C => fw_sub [0, 1, 2] rfl (c_Mod_waits_b0 C hr0 h))
abbrev rm_Mod_yields : Room := { frames := 1, cells := 0, slots := 0, locals := 22 }
theorem hd_Mod_yields : yX9_yields.cls = RX9 ∧ yX9_yields.cls ≠ "java/lang/invoke/MethodHandle" ∧ yX9_yields.cls ≠ "java/lang/invoke/VarHandle" ∧ (parseMethodDescriptor yX9_yields.desc).map (fun d => d.parameters.length) = some 3 := by decide +kernel
def P_Mod_yields_b56 (r0 : Nat) (M : fw_M) (t0 : Int32) : Option Int32 := (fw_zr t0).bind fun v1 => some v1
def P_Mod_yields_b77 (r0 : Nat) (M : fw_M) (t0 : Int32) : Option Int32 := (fw_zr t0).bind fun v1 => some v1
def P_Mod_yields_b102 (r0 : Nat) (M : fw_M) (t0 : Int32) : Option Int32 := (fw_zr t0).bind fun v1 => some v1
def P_Mod_yields_b0 (r0 : Nat) (M : fw_M) (x1 : Int32) (x2 : Int32) : Option Int32 := (P_Mod_of r0 M x1 (0 : Int32)).bind fun v1 => (if v1 = (1 : Int32) then (P_Mod_of r0 M x2 (1 : Int32)).bind fun v3 => (P_Mod_of r0 M x1 (1 : Int32)).bind fun v4 => (if v3 ≤ v4 then P_Mod_yields_b56 r0 M (0 : Int32) else P_Mod_yields_b56 r0 M (1 : Int32)) else (if v1 = (2 : Int32) then (P_Mod_of r0 M x2 (1 : Int32)).bind fun v7 => (P_Mod_of r0 M x1 (1 : Int32)).bind fun v8 => (if v7 < v8 then P_Mod_yields_b77 r0 M (0 : Int32) else P_Mod_yields_b77 r0 M (1 : Int32)) else (if v1 = (3 : Int32) then some (1 : Int32) else (if v1 = (4 : Int32) then some (0 : Int32) else (P_Mod_of r0 M x2 (2 : Int32)).bind fun v12 => (P_Mod_of r0 M x1 (2 : Int32)).bind fun v13 => (if v12 ≤ v13 then P_Mod_yields_b102 r0 M (0 : Int32) else P_Mod_yields_b102 r0 M (1 : Int32))))))
def P_Mod_yields (r0 : Nat) (M : fw_M) (a1 : Int32) (a2 : Int32) : Option Int32 := P_Mod_yields_b0 r0 M a1 a2
set_option maxRecDepth 100000 in
theorem c_Mod_yields_b56 {p : Program} {l : Launch} {e : Env} {s : State} {m : MethodId} {args : Array Value} {below : List Frame} {meth : Method} {c : Code} {D : va_G} {cI cZ cH cR : ClassId} {N : Nat} {ad : Nat → Nat} {EE : fw_M → Nat → va_E} {r0 : Nat} {M : fw_M} {t0 : Int32} {z : Int32} (C : fw_C p s m args meth c cX9_yields RX9 wsX9_yields 3 (some .boolean) D vwCl (fw_tys cI cZ cH cR) N ad fw_nw0) (hr0 : fw_I EE N cI r0 39) (h : P_Mod_yields_b56 r0 M t0 = some z) : fw_J p l e (headSpec wsX9_yields rm_Mod_yields).room s m args below meth c D vwCl N ad EE 3 0 0 (fw_E below args s D vwCl N ad EE (some (.int z)) M) M [] 56 [.int t0] := by
  unfold P_Mod_yields_b56 at h
  obtain ⟨v1, hv1, h⟩ := fw_bind h
  exact fw_zret (pc := 56) C (fw_zrh hv1).1 ((fw_zrh hv1).2.trans (Option.some.inj h)) rfl dX9_yields_56
set_option maxRecDepth 100000 in
theorem c_Mod_yields_b77 {p : Program} {l : Launch} {e : Env} {s : State} {m : MethodId} {args : Array Value} {below : List Frame} {meth : Method} {c : Code} {D : va_G} {cI cZ cH cR : ClassId} {N : Nat} {ad : Nat → Nat} {EE : fw_M → Nat → va_E} {r0 : Nat} {M : fw_M} {t0 : Int32} {z : Int32} (C : fw_C p s m args meth c cX9_yields RX9 wsX9_yields 3 (some .boolean) D vwCl (fw_tys cI cZ cH cR) N ad fw_nw0) (hr0 : fw_I EE N cI r0 39) (h : P_Mod_yields_b77 r0 M t0 = some z) : fw_J p l e (headSpec wsX9_yields rm_Mod_yields).room s m args below meth c D vwCl N ad EE 3 0 0 (fw_E below args s D vwCl N ad EE (some (.int z)) M) M [] 77 [.int t0] := by
  unfold P_Mod_yields_b77 at h
  obtain ⟨v1, hv1, h⟩ := fw_bind h
  exact fw_zret (pc := 77) C (fw_zrh hv1).1 ((fw_zrh hv1).2.trans (Option.some.inj h)) rfl dX9_yields_77
set_option maxRecDepth 100000 in
theorem c_Mod_yields_b102 {p : Program} {l : Launch} {e : Env} {s : State} {m : MethodId} {args : Array Value} {below : List Frame} {meth : Method} {c : Code} {D : va_G} {cI cZ cH cR : ClassId} {N : Nat} {ad : Nat → Nat} {EE : fw_M → Nat → va_E} {r0 : Nat} {M : fw_M} {t0 : Int32} {z : Int32} (C : fw_C p s m args meth c cX9_yields RX9 wsX9_yields 3 (some .boolean) D vwCl (fw_tys cI cZ cH cR) N ad fw_nw0) (hr0 : fw_I EE N cI r0 39) (h : P_Mod_yields_b102 r0 M t0 = some z) : fw_J p l e (headSpec wsX9_yields rm_Mod_yields).room s m args below meth c D vwCl N ad EE 3 0 0 (fw_E below args s D vwCl N ad EE (some (.int z)) M) M [] 102 [.int t0] := by
  unfold P_Mod_yields_b102 at h
  obtain ⟨v1, hv1, h⟩ := fw_bind h
  exact fw_zret (pc := 102) C (fw_zrh hv1).1 ((fw_zrh hv1).2.trans (Option.some.inj h)) rfl dX9_yields_102
set_option maxRecDepth 100000 in
theorem c_Mod_yields_b0 {p : Program} {l : Launch} {e : Env} {s : State} {m : MethodId} {args : Array Value} {below : List Frame} {meth : Method} {c : Code} {D : va_G} {cI cZ cH cR : ClassId} {N : Nat} {ad : Nat → Nat} {EE : fw_M → Nat → va_E} {r0 : Nat} {M : fw_M} {x1 : Int32} {x2 : Int32} {z : Int32} (C : fw_C p s m args meth c cX9_yields RX9 wsX9_yields 3 (some .boolean) D vwCl (fw_tys cI cZ cH cR) N ad fw_nw0) (hr0 : fw_I EE N cI r0 39) (h : P_Mod_yields_b0 r0 M x1 x2 = some z) : fw_J p l e (headSpec wsX9_yields rm_Mod_yields).room s m args below meth c D vwCl N ad EE 3 0 0 (fw_E below args s D vwCl N ad EE (some (.int z)) M) M [(0, .ref (ad r0)), (1, .int x1), (2, .int x2)] 0 [] := by
  unfold P_Mod_yields_b0 at h
  refine fw_aload_n (pc := 0) C 0 dX9_yields_0 rfl rfl ?_
  refine fw_iload_n (pc := 1) C 1 dX9_yields_1 rfl rfl ?_
  refine fw_iconst (pc := 2) C (v := 0) dX9_yields_2 fk_iconst_0 ?_
  obtain ⟨v1, hv1, h⟩ := fw_bind h
  refine fw_callS1 (pc := 3) C (rest := []) (c_Mod_of hr0 hv1) (va_cwS 3 C.2.2.2.2.1 gX9_yields_X9_of rfl rfl rfl hd_Mod_of.2 ⟨Nat.le_of_ble_eq_true rfl, Nat.le_of_ble_eq_true rfl⟩) rfl ⟨Nat.zero_le _, Nat.zero_le _⟩ rfl (Nat.le_of_ble_eq_true rfl) dX9_yields_3 ?_
  rcases fw_cs h with ⟨c2, h⟩ | ⟨c2, h⟩
  · refine fw_tsin (pc := 6) C dX9_yields_6 c2 (v := 1) (off := 30) (by decide) (tgt := 36) (by decide) ?_
    refine fw_aload_n (pc := 36) C 0 dX9_yields_36 rfl rfl ?_
    refine fw_iload_n (pc := 37) C 2 dX9_yields_37 rfl rfl ?_
    refine fw_iconst (pc := 38) C (v := 1) dX9_yields_38 fk_iconst_1 ?_
    obtain ⟨v3, hv3, h⟩ := fw_bind h
    refine fw_callS1 (pc := 39) C (rest := []) (c_Mod_of hr0 hv3) (va_cwS 3 C.2.2.2.2.1 gX9_yields_X9_of rfl rfl rfl hd_Mod_of.2 ⟨Nat.le_of_ble_eq_true rfl, Nat.le_of_ble_eq_true rfl⟩) rfl ⟨Nat.zero_le _, Nat.zero_le _⟩ rfl (Nat.le_of_ble_eq_true rfl) dX9_yields_39 ?_
    refine fw_aload_n (pc := 42) C 0 dX9_yields_42 rfl rfl ?_
    refine fw_iload_n (pc := 43) C 1 dX9_yields_43 rfl rfl ?_
    refine fw_iconst (pc := 44) C (v := 1) dX9_yields_44 fk_iconst_1 ?_
    obtain ⟨v4, hv4, h⟩ := fw_bind h
    refine fw_callS1 (pc := 45) C (rest := [_]) (c_Mod_of hr0 hv4) (va_cwS 3 C.2.2.2.2.1 gX9_yields_X9_of rfl rfl rfl hd_Mod_of.2 ⟨Nat.le_of_ble_eq_true rfl, Nat.le_of_ble_eq_true rfl⟩) rfl ⟨Nat.zero_le _, Nat.zero_le _⟩ rfl (Nat.le_of_ble_eq_true rfl) dX9_yields_45 ?_
    refine fw_icmp_le (pc := 48) C (tgt := 55) dX9_yields_48 (by decide) (fun c5 => ?_) (fun c5 => ?_)
    · have h := fw_ift h c5
      refine fw_iconst (pc := 55) C (v := 0) dX9_yields_55 fk_iconst_0 ?_
      exact fw_sub [] rfl (c_Mod_yields_b56 C hr0 h)
    · have h := fw_iff h c5
      refine fw_iconst (pc := 51) C (v := 1) dX9_yields_51 fk_iconst_1 ?_
      refine fw_goto (pc := 52) C (tgt := 56) dX9_yields_52 (by decide) ?_
      exact fw_sub [] rfl (c_Mod_yields_b56 C hr0 h)
  · rcases fw_cs h with ⟨c6, h⟩ | ⟨c6, h⟩
    · refine fw_tsin (pc := 6) C dX9_yields_6 c6 (v := 2) (off := 51) (by decide) (tgt := 57) (by decide) ?_
      refine fw_aload_n (pc := 57) C 0 dX9_yields_57 rfl rfl ?_
      refine fw_iload_n (pc := 58) C 2 dX9_yields_58 rfl rfl ?_
      refine fw_iconst (pc := 59) C (v := 1) dX9_yields_59 fk_iconst_1 ?_
      obtain ⟨v7, hv7, h⟩ := fw_bind h
      refine fw_callS1 (pc := 60) C (rest := []) (c_Mod_of hr0 hv7) (va_cwS 3 C.2.2.2.2.1 gX9_yields_X9_of rfl rfl rfl hd_Mod_of.2 ⟨Nat.le_of_ble_eq_true rfl, Nat.le_of_ble_eq_true rfl⟩) rfl ⟨Nat.zero_le _, Nat.zero_le _⟩ rfl (Nat.le_of_ble_eq_true rfl) dX9_yields_60 ?_
      refine fw_aload_n (pc := 63) C 0 dX9_yields_63 rfl rfl ?_
      refine fw_iload_n (pc := 64) C 1 dX9_yields_64 rfl rfl ?_
      refine fw_iconst (pc := 65) C (v := 1) dX9_yields_65 fk_iconst_1 ?_
      obtain ⟨v8, hv8, h⟩ := fw_bind h
      refine fw_callS1 (pc := 66) C (rest := [_]) (c_Mod_of hr0 hv8) (va_cwS 3 C.2.2.2.2.1 gX9_yields_X9_of rfl rfl rfl hd_Mod_of.2 ⟨Nat.le_of_ble_eq_true rfl, Nat.le_of_ble_eq_true rfl⟩) rfl ⟨Nat.zero_le _, Nat.zero_le _⟩ rfl (Nat.le_of_ble_eq_true rfl) dX9_yields_66 ?_
      refine fw_icmp_lt (pc := 69) C (tgt := 76) dX9_yields_69 (by decide) (fun c9 => ?_) (fun c9 => ?_)
      · have h := fw_ift h c9
        refine fw_iconst (pc := 76) C (v := 0) dX9_yields_76 fk_iconst_0 ?_
        exact fw_sub [] rfl (c_Mod_yields_b77 C hr0 h)
      · have h := fw_iff h c9
        refine fw_iconst (pc := 72) C (v := 1) dX9_yields_72 fk_iconst_1 ?_
        refine fw_goto (pc := 73) C (tgt := 77) dX9_yields_73 (by decide) ?_
        exact fw_sub [] rfl (c_Mod_yields_b77 C hr0 h)
    · rcases fw_cs h with ⟨c10, h⟩ | ⟨c10, h⟩
      · refine fw_tsin (pc := 6) C dX9_yields_6 c10 (v := 3) (off := 72) (by decide) (tgt := 78) (by decide) ?_
        refine fw_iconst (pc := 78) C (v := 1) dX9_yields_78 fk_iconst_1 ?_
        exact fw_zret (pc := 79) C (Or.inr rfl) (Option.some.inj h) rfl dX9_yields_79
      · rcases fw_cs h with ⟨c11, h⟩ | ⟨c11, h⟩
        · refine fw_tsin (pc := 6) C dX9_yields_6 c11 (v := 4) (off := 74) (by decide) (tgt := 80) (by decide) ?_
          refine fw_iconst (pc := 80) C (v := 0) dX9_yields_80 fk_iconst_0 ?_
          exact fw_zret (pc := 81) C (Or.inl rfl) (Option.some.inj h) rfl dX9_yields_81
        · refine fw_tsout (pc := 6) C dX9_yields_6 (fun z z1 z2 e => ?_) (tgt := 82) (by decide) ?_
          · subst e
            have ec2 := lv_neT c2 (a := 1) (by decide)
            have ec6 := lv_neT c6 (a := 2) (by decide)
            have ec10 := lv_neT c10 (a := 3) (by decide)
            have ec11 := lv_neT c11 (a := 4) (by decide)
            omega
          · refine fw_aload_n (pc := 82) C 0 dX9_yields_82 rfl rfl ?_
            refine fw_iload_n (pc := 83) C 2 dX9_yields_83 rfl rfl ?_
            refine fw_iconst (pc := 84) C (v := 2) dX9_yields_84 fk_iconst_2 ?_
            obtain ⟨v12, hv12, h⟩ := fw_bind h
            refine fw_callS1 (pc := 85) C (rest := []) (c_Mod_of hr0 hv12) (va_cwS 3 C.2.2.2.2.1 gX9_yields_X9_of rfl rfl rfl hd_Mod_of.2 ⟨Nat.le_of_ble_eq_true rfl, Nat.le_of_ble_eq_true rfl⟩) rfl ⟨Nat.zero_le _, Nat.zero_le _⟩ rfl (Nat.le_of_ble_eq_true rfl) dX9_yields_85 ?_
            refine fw_aload_n (pc := 88) C 0 dX9_yields_88 rfl rfl ?_
            refine fw_iload_n (pc := 89) C 1 dX9_yields_89 rfl rfl ?_
            refine fw_iconst (pc := 90) C (v := 2) dX9_yields_90 fk_iconst_2 ?_
            obtain ⟨v13, hv13, h⟩ := fw_bind h
            refine fw_callS1 (pc := 91) C (rest := [_]) (c_Mod_of hr0 hv13) (va_cwS 3 C.2.2.2.2.1 gX9_yields_X9_of rfl rfl rfl hd_Mod_of.2 ⟨Nat.le_of_ble_eq_true rfl, Nat.le_of_ble_eq_true rfl⟩) rfl ⟨Nat.zero_le _, Nat.zero_le _⟩ rfl (Nat.le_of_ble_eq_true rfl) dX9_yields_91 ?_
            refine fw_icmp_le (pc := 94) C (tgt := 101) dX9_yields_94 (by decide) (fun c14 => ?_) (fun c14 => ?_)
            · have h := fw_ift h c14
              refine fw_iconst (pc := 101) C (v := 0) dX9_yields_101 fk_iconst_0 ?_
              exact fw_sub [] rfl (c_Mod_yields_b102 C hr0 h)
            · have h := fw_iff h c14
              refine fw_iconst (pc := 97) C (v := 1) dX9_yields_97 fk_iconst_1 ?_
              refine fw_goto (pc := 98) C (tgt := 102) dX9_yields_98 (by decide) ?_
              exact fw_sub [] rfl (c_Mod_yields_b102 C hr0 h)
theorem c_Mod_yields {l : Launch} {D : va_G} {cI cZ cH cR : ClassId} {N : Nat} {ad : Nat → Nat} {EE : fw_M → Nat → va_E} {r0 : Nat} {M : fw_M} {a1 : Int32} {a2 : Int32} {z : Int32} (hr0 : fw_I EE N cI r0 39) (h : P_Mod_yields r0 M a1 a2 = some z) : fw_Met l yX9_yields wsX9_yields rm_Mod_yields D vwCl (fw_tys cI cZ cH cR) N ad fw_nw0 EE [.ref (ad r0), .int a1, .int a2] M (some (.int z)) M := by
  unfold P_Mod_yields at h
  exact fw_intro (cc := cX9_yields) (maxL := 3) (ret := some .boolean) (own := RX9) (by decide) rfl rfl (Nat.le_of_ble_eq_true rfl) (fun p e s m args below meth c C => fw_sub [0, 1, 2] rfl (c_Mod_yields_b0 C hr0 h))
abbrev rm_Mod_yieldsTo : Room := { frames := 2, cells := 0, slots := 0, locals := 44 }
theorem hd_Mod_yieldsTo : yX9_yieldsTo.cls = RX9 ∧ yX9_yieldsTo.cls ≠ "java/lang/invoke/MethodHandle" ∧ yX9_yieldsTo.cls ≠ "java/lang/invoke/VarHandle" ∧ (parseMethodDescriptor yX9_yieldsTo.desc).map (fun d => d.parameters.length) = some 2 := by decide +kernel
def P_Mod_yieldsTo_b77 (r0 : Nat) (M : fw_M) (K4 : Int32 → Int32 → Int32 → Option Int32) (x1 : Int32) (x3 : Int32) (t0 : Int32) (t1 : Int32) : Option Int32 := fw_pl ((t0 ||| t1)) fun y1 => K4 x1 y1 (x3 + (1 : Int32))
def P_Mod_yieldsTo_b76 (r0 : Nat) (M : fw_M) (K4 : Int32 → Int32 → Int32 → Option Int32) (x1 : Int32) (x3 : Int32) (t0 : Int32) : Option Int32 := P_Mod_yieldsTo_b77 r0 M K4 x1 x3 t0 (0 : Int32)
def P_Mod_yieldsTo_b53 (r0 : Nat) (M : fw_M) (K4 : Int32 → Int32 → Int32 → Option Int32) (x1 : Int32) (x2 : Int32) (x3 : Int32) (t0 : Int32) : Option Int32 := (if t0 = (0 : Int32) then P_Mod_yieldsTo_b76 r0 M K4 x1 x3 x2 else (P_Mod_yields r0 M x1 x3).bind fun v2 => (if v2 = (0 : Int32) then P_Mod_yieldsTo_b76 r0 M K4 x1 x3 x2 else P_Mod_yieldsTo_b77 r0 M K4 x1 x3 x2 ((1 : Int32) <<< (x3 &&& 31))))
def P_Mod_yieldsTo_b52 (r0 : Nat) (M : fw_M) (K4 : Int32 → Int32 → Int32 → Option Int32) (x1 : Int32) (x2 : Int32) (x3 : Int32) : Option Int32 := P_Mod_yieldsTo_b53 r0 M K4 x1 x2 x3 (0 : Int32)
def P_Mod_yieldsTo_b4 (r0 : Nat) (M : fw_M) (K4 : Int32 → Int32 → Int32 → Option Int32) (x1 : Int32) (x2 : Int32) (x3 : Int32) : Option Int32 := (fw_ald M r0 39 (2 : Int32)).bind fun v1 => (if v1 ≤ x3 then some x2 else (if x3 = x1 then P_Mod_yieldsTo_b52 r0 M K4 x1 x2 x3 else (P_Mod_of r0 M x1 (3 : Int32)).bind fun v4 => (if v4 < (0 : Int32) then P_Mod_yieldsTo_b52 r0 M K4 x1 x2 x3 else (P_Mod_of r0 M x1 (3 : Int32)).bind fun v6 => (P_Mod_waits r0 M x3 v6).bind fun v7 => (if v7 = (0 : Int32) then P_Mod_yieldsTo_b52 r0 M K4 x1 x2 x3 else (P_Mod_of r0 M x3 (4 : Int32)).bind fun v9 => (if v9 = (0 : Int32) then P_Mod_yieldsTo_b53 r0 M K4 x1 x2 x3 (1 : Int32) else P_Mod_yieldsTo_b52 r0 M K4 x1 x2 x3)))))
def P_Mod_yieldsTo_h4 (r0 : Nat) (M : fw_M) : Nat → Int32 → Int32 → Int32 → Option Int32
  | 0, _, _, _ => none
  | n + 1, x1, x2, x3 => P_Mod_yieldsTo_b4 r0 M (P_Mod_yieldsTo_h4 r0 M n) x1 x2 x3
def P_Mod_yieldsTo_b0 (r0 : Nat) (M : fw_M) (x1 : Int32) : Option Int32 := P_Mod_yieldsTo_h4 r0 M fw_fu x1 (0 : Int32) (0 : Int32)
def P_Mod_yieldsTo (r0 : Nat) (M : fw_M) (a1 : Int32) : Option Int32 := P_Mod_yieldsTo_b0 r0 M a1
set_option maxRecDepth 100000 in
theorem c_Mod_yieldsTo_b77 {p : Program} {l : Launch} {e : Env} {s : State} {m : MethodId} {args : Array Value} {below : List Frame} {meth : Method} {c : Code} {D : va_G} {cI cZ cH cR : ClassId} {N : Nat} {ad : Nat → Nat} {EE : fw_M → Nat → va_E} {r0 : Nat} {M : fw_M} {K4 : Int32 → Int32 → Int32 → Option Int32} {x1 : Int32} {x3 : Int32} {t0 : Int32} {t1 : Int32} {z : Int32} (C : fw_C p s m args meth c cX9_yieldsTo RX9 wsX9_yieldsTo 5 (some .int) D vwCl (fw_tys cI cZ cH cR) N ad fw_nw0) (hr0 : fw_I EE N cI r0 39) (hK4 : ∀ (kx1 : Int32) (kx2 : Int32) (kx3 : Int32), K4 kx1 kx2 kx3 = some z → fw_J p l e (headSpec wsX9_yieldsTo rm_Mod_yieldsTo).room s m args below meth c D vwCl N ad EE 5 0 0 (fw_E below args s D vwCl N ad EE (some (.int z)) M) M [(0, .ref (ad r0)), (1, .int kx1), (2, .int kx2), (3, .int kx3)] 4 []) (h : P_Mod_yieldsTo_b77 r0 M K4 x1 x3 t0 t1 = some z) : fw_J p l e (headSpec wsX9_yieldsTo rm_Mod_yieldsTo).room s m args below meth c D vwCl N ad EE 5 0 0 (fw_E below args s D vwCl N ad EE (some (.int z)) M) M [(0, .ref (ad r0)), (1, .int x1), (3, .int x3)] 77 [.int t1, .int t0] := by
  unfold P_Mod_yieldsTo_b77 at h
  refine fw_ior (pc := 77) C dX9_yieldsTo_77 ?_
  have h := fw_plh h
  refine fw_istore_n (pc := 78) C (L2 := [(0, .ref _), (1, .int _), (2, .int _), (3, .int _)]) [1, 2, 0, 3] dX9_yieldsTo_78 rfl (by decide) rfl ?_
  refine fw_iinc (pc := 79) C (v := 1) (L2 := [(0, .ref _), (1, .int _), (2, .int _), (3, .int _)]) 3 [1, 2, 3, 0] dX9_yieldsTo_79 rfl fk_iconst_1 (by decide) rfl ?_
  refine fw_goto (pc := 82) C (tgt := 4) dX9_yieldsTo_82 (by decide) ?_
  exact (hK4 _ _ _ h)
set_option maxRecDepth 100000 in
theorem c_Mod_yieldsTo_b76 {p : Program} {l : Launch} {e : Env} {s : State} {m : MethodId} {args : Array Value} {below : List Frame} {meth : Method} {c : Code} {D : va_G} {cI cZ cH cR : ClassId} {N : Nat} {ad : Nat → Nat} {EE : fw_M → Nat → va_E} {r0 : Nat} {M : fw_M} {K4 : Int32 → Int32 → Int32 → Option Int32} {x1 : Int32} {x3 : Int32} {t0 : Int32} {z : Int32} (C : fw_C p s m args meth c cX9_yieldsTo RX9 wsX9_yieldsTo 5 (some .int) D vwCl (fw_tys cI cZ cH cR) N ad fw_nw0) (hr0 : fw_I EE N cI r0 39) (hK4 : ∀ (kx1 : Int32) (kx2 : Int32) (kx3 : Int32), K4 kx1 kx2 kx3 = some z → fw_J p l e (headSpec wsX9_yieldsTo rm_Mod_yieldsTo).room s m args below meth c D vwCl N ad EE 5 0 0 (fw_E below args s D vwCl N ad EE (some (.int z)) M) M [(0, .ref (ad r0)), (1, .int kx1), (2, .int kx2), (3, .int kx3)] 4 []) (h : P_Mod_yieldsTo_b76 r0 M K4 x1 x3 t0 = some z) : fw_J p l e (headSpec wsX9_yieldsTo rm_Mod_yieldsTo).room s m args below meth c D vwCl N ad EE 5 0 0 (fw_E below args s D vwCl N ad EE (some (.int z)) M) M [(0, .ref (ad r0)), (1, .int x1), (3, .int x3)] 76 [.int t0] := by
  unfold P_Mod_yieldsTo_b76 at h
  refine fw_iconst (pc := 76) C (v := 0) dX9_yieldsTo_76 fk_iconst_0 ?_
  exact (c_Mod_yieldsTo_b77 C hr0 hK4 h)
set_option maxRecDepth 100000 in
theorem c_Mod_yieldsTo_b53 {p : Program} {l : Launch} {e : Env} {s : State} {m : MethodId} {args : Array Value} {below : List Frame} {meth : Method} {c : Code} {D : va_G} {cI cZ cH cR : ClassId} {N : Nat} {ad : Nat → Nat} {EE : fw_M → Nat → va_E} {r0 : Nat} {M : fw_M} {K4 : Int32 → Int32 → Int32 → Option Int32} {x1 : Int32} {x2 : Int32} {x3 : Int32} {t0 : Int32} {z : Int32} (C : fw_C p s m args meth c cX9_yieldsTo RX9 wsX9_yieldsTo 5 (some .int) D vwCl (fw_tys cI cZ cH cR) N ad fw_nw0) (hr0 : fw_I EE N cI r0 39) (hK4 : ∀ (kx1 : Int32) (kx2 : Int32) (kx3 : Int32), K4 kx1 kx2 kx3 = some z → fw_J p l e (headSpec wsX9_yieldsTo rm_Mod_yieldsTo).room s m args below meth c D vwCl N ad EE 5 0 0 (fw_E below args s D vwCl N ad EE (some (.int z)) M) M [(0, .ref (ad r0)), (1, .int kx1), (2, .int kx2), (3, .int kx3)] 4 []) (h : P_Mod_yieldsTo_b53 r0 M K4 x1 x2 x3 t0 = some z) : fw_J p l e (headSpec wsX9_yieldsTo rm_Mod_yieldsTo).room s m args below meth c D vwCl N ad EE 5 0 0 (fw_E below args s D vwCl N ad EE (some (.int z)) M) M [(0, .ref (ad r0)), (1, .int x1), (2, .int x2), (3, .int x3)] 53 [.int t0] := by
  unfold P_Mod_yieldsTo_b53 at h
  refine fw_istore (pc := 53) C (L2 := [(0, .ref _), (1, .int _), (2, .int _), (3, .int _), (4, .int _)]) [1, 2, 3, 4, 0] dX9_yieldsTo_53 (by decide) rfl ?_
  refine fw_iload_n (pc := 55) C 2 dX9_yieldsTo_55 rfl rfl ?_
  refine fw_iload (pc := 56) C 4 dX9_yieldsTo_56 rfl ?_
  refine fw_if_eq (pc := 58) C (tgt := 76) dX9_yieldsTo_58 (by decide) (fun c1 => ?_) (fun c1 => ?_)
  · have h := fw_ift h c1
    exact fw_sub [0, 1, 3] rfl (c_Mod_yieldsTo_b76 C hr0 hK4 h)
  · have h := fw_iff h c1
    refine fw_aload_n (pc := 61) C 0 dX9_yieldsTo_61 rfl rfl ?_
    refine fw_iload_n (pc := 62) C 1 dX9_yieldsTo_62 rfl rfl ?_
    refine fw_iload_n (pc := 63) C 3 dX9_yieldsTo_63 rfl rfl ?_
    obtain ⟨v2, hv2, h⟩ := fw_bind h
    refine fw_callS1 (pc := 64) C (rest := [_]) (c_Mod_yields hr0 hv2) (va_cwS 3 C.2.2.2.2.1 gX9_yieldsTo_X9_yields rfl rfl rfl hd_Mod_yields.2 ⟨Nat.le_of_ble_eq_true rfl, Nat.le_of_ble_eq_true rfl⟩) rfl ⟨Nat.zero_le _, Nat.zero_le _⟩ rfl (Nat.le_of_ble_eq_true rfl) dX9_yieldsTo_64 ?_
    refine fw_if_eq (pc := 67) C (tgt := 76) dX9_yieldsTo_67 (by decide) (fun c3 => ?_) (fun c3 => ?_)
    · have h := fw_ift h c3
      exact fw_sub [0, 1, 3] rfl (c_Mod_yieldsTo_b76 C hr0 hK4 h)
    · have h := fw_iff h c3
      refine fw_iconst (pc := 70) C (v := 1) dX9_yieldsTo_70 fk_iconst_1 ?_
      refine fw_iload_n (pc := 71) C 3 dX9_yieldsTo_71 rfl rfl ?_
      refine fw_ishl (pc := 72) C dX9_yieldsTo_72 ?_
      refine fw_goto (pc := 73) C (tgt := 77) dX9_yieldsTo_73 (by decide) ?_
      exact fw_sub [0, 1, 3] rfl (c_Mod_yieldsTo_b77 C hr0 hK4 h)
set_option maxRecDepth 100000 in
theorem c_Mod_yieldsTo_b52 {p : Program} {l : Launch} {e : Env} {s : State} {m : MethodId} {args : Array Value} {below : List Frame} {meth : Method} {c : Code} {D : va_G} {cI cZ cH cR : ClassId} {N : Nat} {ad : Nat → Nat} {EE : fw_M → Nat → va_E} {r0 : Nat} {M : fw_M} {K4 : Int32 → Int32 → Int32 → Option Int32} {x1 : Int32} {x2 : Int32} {x3 : Int32} {z : Int32} (C : fw_C p s m args meth c cX9_yieldsTo RX9 wsX9_yieldsTo 5 (some .int) D vwCl (fw_tys cI cZ cH cR) N ad fw_nw0) (hr0 : fw_I EE N cI r0 39) (hK4 : ∀ (kx1 : Int32) (kx2 : Int32) (kx3 : Int32), K4 kx1 kx2 kx3 = some z → fw_J p l e (headSpec wsX9_yieldsTo rm_Mod_yieldsTo).room s m args below meth c D vwCl N ad EE 5 0 0 (fw_E below args s D vwCl N ad EE (some (.int z)) M) M [(0, .ref (ad r0)), (1, .int kx1), (2, .int kx2), (3, .int kx3)] 4 []) (h : P_Mod_yieldsTo_b52 r0 M K4 x1 x2 x3 = some z) : fw_J p l e (headSpec wsX9_yieldsTo rm_Mod_yieldsTo).room s m args below meth c D vwCl N ad EE 5 0 0 (fw_E below args s D vwCl N ad EE (some (.int z)) M) M [(0, .ref (ad r0)), (1, .int x1), (2, .int x2), (3, .int x3)] 52 [] := by
  unfold P_Mod_yieldsTo_b52 at h
  refine fw_iconst (pc := 52) C (v := 0) dX9_yieldsTo_52 fk_iconst_0 ?_
  exact (c_Mod_yieldsTo_b53 C hr0 hK4 h)
set_option maxRecDepth 100000 in
theorem c_Mod_yieldsTo_b4 {p : Program} {l : Launch} {e : Env} {s : State} {m : MethodId} {args : Array Value} {below : List Frame} {meth : Method} {c : Code} {D : va_G} {cI cZ cH cR : ClassId} {N : Nat} {ad : Nat → Nat} {EE : fw_M → Nat → va_E} {r0 : Nat} {M : fw_M} {K4 : Int32 → Int32 → Int32 → Option Int32} {x1 : Int32} {x2 : Int32} {x3 : Int32} {z : Int32} (C : fw_C p s m args meth c cX9_yieldsTo RX9 wsX9_yieldsTo 5 (some .int) D vwCl (fw_tys cI cZ cH cR) N ad fw_nw0) (hr0 : fw_I EE N cI r0 39) (hK4 : ∀ (kx1 : Int32) (kx2 : Int32) (kx3 : Int32), K4 kx1 kx2 kx3 = some z → fw_J p l e (headSpec wsX9_yieldsTo rm_Mod_yieldsTo).room s m args below meth c D vwCl N ad EE 5 0 0 (fw_E below args s D vwCl N ad EE (some (.int z)) M) M [(0, .ref (ad r0)), (1, .int kx1), (2, .int kx2), (3, .int kx3)] 4 []) (h : P_Mod_yieldsTo_b4 r0 M K4 x1 x2 x3 = some z) : fw_J p l e (headSpec wsX9_yieldsTo rm_Mod_yieldsTo).room s m args below meth c D vwCl N ad EE 5 0 0 (fw_E below args s D vwCl N ad EE (some (.int z)) M) M [(0, .ref (ad r0)), (1, .int x1), (2, .int x2), (3, .int x3)] 4 [] := by
  unfold P_Mod_yieldsTo_b4 at h
  refine fw_iload_n (pc := 4) C 3 dX9_yieldsTo_4 rfl rfl ?_
  refine fw_aload_n (pc := 5) C 0 dX9_yieldsTo_5 rfl rfl ?_
  refine fw_iconst (pc := 6) C (v := 2) dX9_yieldsTo_6 fk_iconst_2 ?_
  obtain ⟨v1, hv1, h⟩ := fw_bind h
  refine fw_iald (pc := 7) C 0 hr0 rfl hv1 dX9_yieldsTo_7 ?_
  refine fw_icmp_ge (pc := 8) C (tgt := 85) dX9_yieldsTo_8 (by decide) (fun c2 => ?_) (fun c2 => ?_)
  · have h := fw_ift h c2
    refine fw_iload_n (pc := 85) C 2 dX9_yieldsTo_85 rfl rfl ?_
    exact fw_iret (pc := 86) C (Option.some.inj h) rfl dX9_yieldsTo_86
  · have h := fw_iff h c2
    refine fw_iload_n (pc := 11) C 3 dX9_yieldsTo_11 rfl rfl ?_
    refine fw_iload_n (pc := 12) C 1 dX9_yieldsTo_12 rfl rfl ?_
    refine fw_icmp_eq (pc := 13) C (tgt := 52) dX9_yieldsTo_13 (by decide) (fun c3 => ?_) (fun c3 => ?_)
    · have h := fw_ift h c3
      exact (c_Mod_yieldsTo_b52 C hr0 hK4 h)
    · have h := fw_iff h c3
      refine fw_aload_n (pc := 16) C 0 dX9_yieldsTo_16 rfl rfl ?_
      refine fw_iload_n (pc := 17) C 1 dX9_yieldsTo_17 rfl rfl ?_
      refine fw_iconst (pc := 18) C (v := 3) dX9_yieldsTo_18 fk_iconst_3 ?_
      obtain ⟨v4, hv4, h⟩ := fw_bind h
      refine fw_callS1 (pc := 19) C (rest := []) (c_Mod_of hr0 hv4) (va_cwS 3 C.2.2.2.2.1 gX9_yieldsTo_X9_of rfl rfl rfl hd_Mod_of.2 ⟨Nat.le_of_ble_eq_true rfl, Nat.le_of_ble_eq_true rfl⟩) rfl ⟨Nat.zero_le _, Nat.zero_le _⟩ rfl (Nat.le_of_ble_eq_true rfl) dX9_yieldsTo_19 ?_
      refine fw_if_lt (pc := 22) C (tgt := 52) dX9_yieldsTo_22 (by decide) (fun c5 => ?_) (fun c5 => ?_)
      · have h := fw_ift h c5
        exact (c_Mod_yieldsTo_b52 C hr0 hK4 h)
      · have h := fw_iff h c5
        refine fw_aload_n (pc := 25) C 0 dX9_yieldsTo_25 rfl rfl ?_
        refine fw_iload_n (pc := 26) C 3 dX9_yieldsTo_26 rfl rfl ?_
        refine fw_aload_n (pc := 27) C 0 dX9_yieldsTo_27 rfl rfl ?_
        refine fw_iload_n (pc := 28) C 1 dX9_yieldsTo_28 rfl rfl ?_
        refine fw_iconst (pc := 29) C (v := 3) dX9_yieldsTo_29 fk_iconst_3 ?_
        obtain ⟨v6, hv6, h⟩ := fw_bind h
        refine fw_callS1 (pc := 30) C (rest := [_, _]) (c_Mod_of hr0 hv6) (va_cwS 3 C.2.2.2.2.1 gX9_yieldsTo_X9_of rfl rfl rfl hd_Mod_of.2 ⟨Nat.le_of_ble_eq_true rfl, Nat.le_of_ble_eq_true rfl⟩) rfl ⟨Nat.zero_le _, Nat.zero_le _⟩ rfl (Nat.le_of_ble_eq_true rfl) dX9_yieldsTo_30 ?_
        obtain ⟨v7, hv7, h⟩ := fw_bind h
        refine fw_callS1 (pc := 33) C (rest := []) (c_Mod_waits hr0 hv7) (va_cwS 3 C.2.2.2.2.1 gX9_yieldsTo_X9_waits rfl rfl rfl hd_Mod_waits.2 ⟨Nat.le_of_ble_eq_true rfl, Nat.le_of_ble_eq_true rfl⟩) rfl ⟨Nat.zero_le _, Nat.zero_le _⟩ rfl (Nat.le_of_ble_eq_true rfl) dX9_yieldsTo_33 ?_
        refine fw_if_eq (pc := 36) C (tgt := 52) dX9_yieldsTo_36 (by decide) (fun c8 => ?_) (fun c8 => ?_)
        · have h := fw_ift h c8
          exact (c_Mod_yieldsTo_b52 C hr0 hK4 h)
        · have h := fw_iff h c8
          refine fw_aload_n (pc := 39) C 0 dX9_yieldsTo_39 rfl rfl ?_
          refine fw_iload_n (pc := 40) C 3 dX9_yieldsTo_40 rfl rfl ?_
          refine fw_iconst (pc := 41) C (v := 4) dX9_yieldsTo_41 fk_iconst_4 ?_
          obtain ⟨v9, hv9, h⟩ := fw_bind h
          refine fw_callS1 (pc := 42) C (rest := []) (c_Mod_of hr0 hv9) (va_cwS 3 C.2.2.2.2.1 gX9_yieldsTo_X9_of rfl rfl rfl hd_Mod_of.2 ⟨Nat.le_of_ble_eq_true rfl, Nat.le_of_ble_eq_true rfl⟩) rfl ⟨Nat.zero_le _, Nat.zero_le _⟩ rfl (Nat.le_of_ble_eq_true rfl) dX9_yieldsTo_42 ?_
          refine fw_if_ne (pc := 45) C (tgt := 52) dX9_yieldsTo_45 (by decide) (fun c10 => ?_) (fun c10 => ?_)
          · have h := fw_iff h c10
            exact (c_Mod_yieldsTo_b52 C hr0 hK4 h)
          · have h := fw_ift h c10
            refine fw_iconst (pc := 48) C (v := 1) dX9_yieldsTo_48 fk_iconst_1 ?_
            refine fw_goto (pc := 49) C (tgt := 53) dX9_yieldsTo_49 (by decide) ?_
            exact (c_Mod_yieldsTo_b53 C hr0 hK4 h)
theorem c_Mod_yieldsTo_h4 {p : Program} {l : Launch} {e : Env} {s : State} {m : MethodId} {args : Array Value} {below : List Frame} {meth : Method} {c : Code} {D : va_G} {cI cZ cH cR : ClassId} {N : Nat} {ad : Nat → Nat} {EE : fw_M → Nat → va_E} {r0 : Nat} {M : fw_M} {z : Int32} (C : fw_C p s m args meth c cX9_yieldsTo RX9 wsX9_yieldsTo 5 (some .int) D vwCl (fw_tys cI cZ cH cR) N ad fw_nw0) (hr0 : fw_I EE N cI r0 39) : ∀ (n : Nat) (x1 : Int32) (x2 : Int32) (x3 : Int32), P_Mod_yieldsTo_h4 r0 M n x1 x2 x3 = some z → fw_J p l e (headSpec wsX9_yieldsTo rm_Mod_yieldsTo).room s m args below meth c D vwCl N ad EE 5 0 0 (fw_E below args s D vwCl N ad EE (some (.int z)) M) M [(0, .ref (ad r0)), (1, .int x1), (2, .int x2), (3, .int x3)] 4 [] := by
  intro n
  induction n with
  | zero => intro x1 x2 x3  h; cases h
  | succ n ih => intro x1 x2 x3  h; exact c_Mod_yieldsTo_b4 C hr0 ih  h
set_option maxRecDepth 100000 in
theorem c_Mod_yieldsTo_b0 {p : Program} {l : Launch} {e : Env} {s : State} {m : MethodId} {args : Array Value} {below : List Frame} {meth : Method} {c : Code} {D : va_G} {cI cZ cH cR : ClassId} {N : Nat} {ad : Nat → Nat} {EE : fw_M → Nat → va_E} {r0 : Nat} {M : fw_M} {x1 : Int32} {z : Int32} (C : fw_C p s m args meth c cX9_yieldsTo RX9 wsX9_yieldsTo 5 (some .int) D vwCl (fw_tys cI cZ cH cR) N ad fw_nw0) (hr0 : fw_I EE N cI r0 39) (h : P_Mod_yieldsTo_b0 r0 M x1 = some z) : fw_J p l e (headSpec wsX9_yieldsTo rm_Mod_yieldsTo).room s m args below meth c D vwCl N ad EE 5 0 0 (fw_E below args s D vwCl N ad EE (some (.int z)) M) M [(0, .ref (ad r0)), (1, .int x1)] 0 [] := by
  unfold P_Mod_yieldsTo_b0 at h
  refine fw_iconst (pc := 0) C (v := 0) dX9_yieldsTo_0 fk_iconst_0 ?_
  refine fw_istore_n (pc := 1) C (L2 := [(0, .ref _), (1, .int _), (2, .int _)]) [1, 2, 0] dX9_yieldsTo_1 rfl (by decide) rfl ?_
  refine fw_iconst (pc := 2) C (v := 0) dX9_yieldsTo_2 fk_iconst_0 ?_
  refine fw_istore_n (pc := 3) C (L2 := [(0, .ref _), (1, .int _), (2, .int _), (3, .int _)]) [1, 2, 3, 0] dX9_yieldsTo_3 rfl (by decide) rfl ?_
  exact (c_Mod_yieldsTo_h4 C hr0 _ _ _ _ h)
theorem c_Mod_yieldsTo {l : Launch} {D : va_G} {cI cZ cH cR : ClassId} {N : Nat} {ad : Nat → Nat} {EE : fw_M → Nat → va_E} {r0 : Nat} {M : fw_M} {a1 : Int32} {z : Int32} (hr0 : fw_I EE N cI r0 39) (h : P_Mod_yieldsTo r0 M a1 = some z) : fw_Met l yX9_yieldsTo wsX9_yieldsTo rm_Mod_yieldsTo D vwCl (fw_tys cI cZ cH cR) N ad fw_nw0 EE [.ref (ad r0), .int a1] M (some (.int z)) M := by
  unfold P_Mod_yieldsTo at h
  exact fw_intro (cc := cX9_yieldsTo) (maxL := 5) (ret := some .int) (own := RX9) (by decide) rfl rfl (Nat.le_of_ble_eq_true rfl) (fun p e s m args below meth c C => fw_sub [0, 1] rfl (c_Mod_yieldsTo_b0 C hr0 h))
abbrev rm_Mod_may : Room := { frames := 3, cells := 0, slots := 0, locals := 68 }
theorem hd_Mod_may : yX9_may.cls = RX9 ∧ yX9_may.cls ≠ "java/lang/invoke/MethodHandle" ∧ yX9_may.cls ≠ "java/lang/invoke/VarHandle" ∧ (parseMethodDescriptor yX9_may.desc).map (fun d => d.parameters.length) = some 2 := by decide +kernel
def P_Mod_may_b31 (r0 : Nat) (M : fw_M) (t0 : Int32) : Option Int32 := (fw_zr t0).bind fun v1 => some v1
def P_Mod_may_b30 (r0 : Nat) (M : fw_M) : Option Int32 := P_Mod_may_b31 r0 M (0 : Int32)
def P_Mod_may_b26 (r0 : Nat) (M : fw_M) : Option Int32 := P_Mod_may_b31 r0 M (1 : Int32)
def P_Mod_may_b0 (r0 : Nat) (M : fw_M) (x1 : Int32) : Option Int32 := (P_Mod_of r0 M x1 (3 : Int32)).bind fun v1 => (if v1 < (0 : Int32) then P_Mod_may_b30 r0 M else (P_Mod_of r0 M x1 (4 : Int32)).bind fun v3 => (if (0 : Int32) < v3 then P_Mod_may_b26 r0 M else (P_Mod_yieldsTo r0 M x1).bind fun v5 => (if v5 = (0 : Int32) then P_Mod_may_b26 r0 M else P_Mod_may_b30 r0 M)))
def P_Mod_may (r0 : Nat) (M : fw_M) (a1 : Int32) : Option Int32 := P_Mod_may_b0 r0 M a1
set_option maxRecDepth 100000 in
theorem c_Mod_may_b31 {p : Program} {l : Launch} {e : Env} {s : State} {m : MethodId} {args : Array Value} {below : List Frame} {meth : Method} {c : Code} {D : va_G} {cI cZ cH cR : ClassId} {N : Nat} {ad : Nat → Nat} {EE : fw_M → Nat → va_E} {r0 : Nat} {M : fw_M} {t0 : Int32} {z : Int32} (C : fw_C p s m args meth c cX9_may RX9 wsX9_may 2 (some .boolean) D vwCl (fw_tys cI cZ cH cR) N ad fw_nw0) (hr0 : fw_I EE N cI r0 39) (h : P_Mod_may_b31 r0 M t0 = some z) : fw_J p l e (headSpec wsX9_may rm_Mod_may).room s m args below meth c D vwCl N ad EE 2 0 0 (fw_E below args s D vwCl N ad EE (some (.int z)) M) M [] 31 [.int t0] := by
  unfold P_Mod_may_b31 at h
  obtain ⟨v1, hv1, h⟩ := fw_bind h
  exact fw_zret (pc := 31) C (fw_zrh hv1).1 ((fw_zrh hv1).2.trans (Option.some.inj h)) rfl dX9_may_31
set_option maxRecDepth 100000 in
theorem c_Mod_may_b30 {p : Program} {l : Launch} {e : Env} {s : State} {m : MethodId} {args : Array Value} {below : List Frame} {meth : Method} {c : Code} {D : va_G} {cI cZ cH cR : ClassId} {N : Nat} {ad : Nat → Nat} {EE : fw_M → Nat → va_E} {r0 : Nat} {M : fw_M} {z : Int32} (C : fw_C p s m args meth c cX9_may RX9 wsX9_may 2 (some .boolean) D vwCl (fw_tys cI cZ cH cR) N ad fw_nw0) (hr0 : fw_I EE N cI r0 39) (h : P_Mod_may_b30 r0 M = some z) : fw_J p l e (headSpec wsX9_may rm_Mod_may).room s m args below meth c D vwCl N ad EE 2 0 0 (fw_E below args s D vwCl N ad EE (some (.int z)) M) M [] 30 [] := by
  unfold P_Mod_may_b30 at h
  refine fw_iconst (pc := 30) C (v := 0) dX9_may_30 fk_iconst_0 ?_
  exact (c_Mod_may_b31 C hr0 h)
set_option maxRecDepth 100000 in
theorem c_Mod_may_b26 {p : Program} {l : Launch} {e : Env} {s : State} {m : MethodId} {args : Array Value} {below : List Frame} {meth : Method} {c : Code} {D : va_G} {cI cZ cH cR : ClassId} {N : Nat} {ad : Nat → Nat} {EE : fw_M → Nat → va_E} {r0 : Nat} {M : fw_M} {z : Int32} (C : fw_C p s m args meth c cX9_may RX9 wsX9_may 2 (some .boolean) D vwCl (fw_tys cI cZ cH cR) N ad fw_nw0) (hr0 : fw_I EE N cI r0 39) (h : P_Mod_may_b26 r0 M = some z) : fw_J p l e (headSpec wsX9_may rm_Mod_may).room s m args below meth c D vwCl N ad EE 2 0 0 (fw_E below args s D vwCl N ad EE (some (.int z)) M) M [] 26 [] := by
  unfold P_Mod_may_b26 at h
  refine fw_iconst (pc := 26) C (v := 1) dX9_may_26 fk_iconst_1 ?_
  refine fw_goto (pc := 27) C (tgt := 31) dX9_may_27 (by decide) ?_
  exact (c_Mod_may_b31 C hr0 h)
set_option maxRecDepth 100000 in
theorem c_Mod_may_b0 {p : Program} {l : Launch} {e : Env} {s : State} {m : MethodId} {args : Array Value} {below : List Frame} {meth : Method} {c : Code} {D : va_G} {cI cZ cH cR : ClassId} {N : Nat} {ad : Nat → Nat} {EE : fw_M → Nat → va_E} {r0 : Nat} {M : fw_M} {x1 : Int32} {z : Int32} (C : fw_C p s m args meth c cX9_may RX9 wsX9_may 2 (some .boolean) D vwCl (fw_tys cI cZ cH cR) N ad fw_nw0) (hr0 : fw_I EE N cI r0 39) (h : P_Mod_may_b0 r0 M x1 = some z) : fw_J p l e (headSpec wsX9_may rm_Mod_may).room s m args below meth c D vwCl N ad EE 2 0 0 (fw_E below args s D vwCl N ad EE (some (.int z)) M) M [(0, .ref (ad r0)), (1, .int x1)] 0 [] := by
  unfold P_Mod_may_b0 at h
  refine fw_aload_n (pc := 0) C 0 dX9_may_0 rfl rfl ?_
  refine fw_iload_n (pc := 1) C 1 dX9_may_1 rfl rfl ?_
  refine fw_iconst (pc := 2) C (v := 3) dX9_may_2 fk_iconst_3 ?_
  obtain ⟨v1, hv1, h⟩ := fw_bind h
  refine fw_callS1 (pc := 3) C (rest := []) (c_Mod_of hr0 hv1) (va_cwS 3 C.2.2.2.2.1 gX9_may_X9_of rfl rfl rfl hd_Mod_of.2 ⟨Nat.le_of_ble_eq_true rfl, Nat.le_of_ble_eq_true rfl⟩) rfl ⟨Nat.zero_le _, Nat.zero_le _⟩ rfl (Nat.le_of_ble_eq_true rfl) dX9_may_3 ?_
  refine fw_if_lt (pc := 6) C (tgt := 30) dX9_may_6 (by decide) (fun c2 => ?_) (fun c2 => ?_)
  · have h := fw_ift h c2
    exact fw_sub [] rfl (c_Mod_may_b30 C hr0 h)
  · have h := fw_iff h c2
    refine fw_aload_n (pc := 9) C 0 dX9_may_9 rfl rfl ?_
    refine fw_iload_n (pc := 10) C 1 dX9_may_10 rfl rfl ?_
    refine fw_iconst (pc := 11) C (v := 4) dX9_may_11 fk_iconst_4 ?_
    obtain ⟨v3, hv3, h⟩ := fw_bind h
    refine fw_callS1 (pc := 12) C (rest := []) (c_Mod_of hr0 hv3) (va_cwS 3 C.2.2.2.2.1 gX9_may_X9_of rfl rfl rfl hd_Mod_of.2 ⟨Nat.le_of_ble_eq_true rfl, Nat.le_of_ble_eq_true rfl⟩) rfl ⟨Nat.zero_le _, Nat.zero_le _⟩ rfl (Nat.le_of_ble_eq_true rfl) dX9_may_12 ?_
    refine fw_if_gt (pc := 15) C (tgt := 26) dX9_may_15 (by decide) (fun c4 => ?_) (fun c4 => ?_)
    · have h := fw_ift h c4
      exact fw_sub [] rfl (c_Mod_may_b26 C hr0 h)
    · have h := fw_iff h c4
      refine fw_aload_n (pc := 18) C 0 dX9_may_18 rfl rfl ?_
      refine fw_iload_n (pc := 19) C 1 dX9_may_19 rfl rfl ?_
      obtain ⟨v5, hv5, h⟩ := fw_bind h
      refine fw_callS1 (pc := 20) C (rest := []) (c_Mod_yieldsTo hr0 hv5) (va_cwS 2 C.2.2.2.2.1 gX9_may_X9_yieldsTo rfl rfl rfl hd_Mod_yieldsTo.2 ⟨Nat.le_of_ble_eq_true rfl, Nat.le_of_ble_eq_true rfl⟩) rfl ⟨Nat.zero_le _, Nat.zero_le _⟩ rfl (Nat.le_of_ble_eq_true rfl) dX9_may_20 ?_
      refine fw_if_ne (pc := 23) C (tgt := 30) dX9_may_23 (by decide) (fun c6 => ?_) (fun c6 => ?_)
      · have h := fw_iff h c6
        exact fw_sub [] rfl (c_Mod_may_b30 C hr0 h)
      · have h := fw_ift h c6
        exact fw_sub [] rfl (c_Mod_may_b26 C hr0 h)
theorem c_Mod_may {l : Launch} {D : va_G} {cI cZ cH cR : ClassId} {N : Nat} {ad : Nat → Nat} {EE : fw_M → Nat → va_E} {r0 : Nat} {M : fw_M} {a1 : Int32} {z : Int32} (hr0 : fw_I EE N cI r0 39) (h : P_Mod_may r0 M a1 = some z) : fw_Met l yX9_may wsX9_may rm_Mod_may D vwCl (fw_tys cI cZ cH cR) N ad fw_nw0 EE [.ref (ad r0), .int a1] M (some (.int z)) M := by
  unfold P_Mod_may at h
  exact fw_intro (cc := cX9_may) (maxL := 2) (ret := some .boolean) (own := RX9) (by decide) rfl rfl (Nat.le_of_ble_eq_true rfl) (fun p e s m args below meth c C => fw_sub [0, 1] rfl (c_Mod_may_b0 C hr0 h))
abbrev rm_Mod_goesAt : Room := { frames := 4, cells := 0, slots := 0, locals := 89 }
theorem hd_Mod_goesAt : yX9_goesAt.cls = RX9 ∧ yX9_goesAt.cls ≠ "java/lang/invoke/MethodHandle" ∧ yX9_goesAt.cls ≠ "java/lang/invoke/VarHandle" ∧ (parseMethodDescriptor yX9_goesAt.desc).map (fun d => d.parameters.length) = some 2 := by decide +kernel
theorem kX9_goesAt_90 : Cond.constant RX9 90 (-1000000) ∈ wsX9_goesAt := by decide +kernel
def P_Mod_goesAt_b35 (r0 : Nat) (M : fw_M) (K9 : Int32 → Int32 → Int32 → Option Int32) (x1 : Int32) (x3 : Int32) (t0 : Int32) : Option Int32 := K9 x1 t0 (x3 + (-1 : Int32))
def P_Mod_goesAt_b34 (r0 : Nat) (M : fw_M) (K9 : Int32 → Int32 → Int32 → Option Int32) (x1 : Int32) (x2 : Int32) (x3 : Int32) : Option Int32 := P_Mod_goesAt_b35 r0 M K9 x1 x3 x2
def P_Mod_goesAt_b9 (r0 : Nat) (M : fw_M) (K9 : Int32 → Int32 → Int32 → Option Int32) (x1 : Int32) (x2 : Int32) (x3 : Int32) : Option Int32 := (if x3 < (0 : Int32) then some x2 else (P_Mod_waits r0 M x3 x1).bind fun v2 => (if v2 = (0 : Int32) then P_Mod_goesAt_b34 r0 M K9 x1 x2 x3 else (P_Mod_may r0 M x3).bind fun v4 => (if v4 = (0 : Int32) then P_Mod_goesAt_b34 r0 M K9 x1 x2 x3 else P_Mod_goesAt_b35 r0 M K9 x1 x3 x3)))
def P_Mod_goesAt_h9 (r0 : Nat) (M : fw_M) : Nat → Int32 → Int32 → Int32 → Option Int32
  | 0, _, _, _ => none
  | n + 1, x1, x2, x3 => P_Mod_goesAt_b9 r0 M (P_Mod_goesAt_h9 r0 M n) x1 x2 x3
def P_Mod_goesAt_b0 (r0 : Nat) (M : fw_M) (x1 : Int32) : Option Int32 := (fw_ald M r0 39 (2 : Int32)).bind fun v1 => fw_pl ((v1 - (1 : Int32))) fun y2 => P_Mod_goesAt_h9 r0 M fw_fu x1 (-1000000 : Int32) y2
def P_Mod_goesAt (r0 : Nat) (M : fw_M) (a1 : Int32) : Option Int32 := P_Mod_goesAt_b0 r0 M a1
set_option maxRecDepth 100000 in
theorem c_Mod_goesAt_b35 {p : Program} {l : Launch} {e : Env} {s : State} {m : MethodId} {args : Array Value} {below : List Frame} {meth : Method} {c : Code} {D : va_G} {cI cZ cH cR : ClassId} {N : Nat} {ad : Nat → Nat} {EE : fw_M → Nat → va_E} {r0 : Nat} {M : fw_M} {K9 : Int32 → Int32 → Int32 → Option Int32} {x1 : Int32} {x3 : Int32} {t0 : Int32} {z : Int32} (C : fw_C p s m args meth c cX9_goesAt RX9 wsX9_goesAt 4 (some .int) D vwCl (fw_tys cI cZ cH cR) N ad fw_nw0) (hr0 : fw_I EE N cI r0 39) (hK9 : ∀ (kx1 : Int32) (kx2 : Int32) (kx3 : Int32), K9 kx1 kx2 kx3 = some z → fw_J p l e (headSpec wsX9_goesAt rm_Mod_goesAt).room s m args below meth c D vwCl N ad EE 4 0 0 (fw_E below args s D vwCl N ad EE (some (.int z)) M) M [(0, .ref (ad r0)), (1, .int kx1), (2, .int kx2), (3, .int kx3)] 9 []) (h : P_Mod_goesAt_b35 r0 M K9 x1 x3 t0 = some z) : fw_J p l e (headSpec wsX9_goesAt rm_Mod_goesAt).room s m args below meth c D vwCl N ad EE 4 0 0 (fw_E below args s D vwCl N ad EE (some (.int z)) M) M [(0, .ref (ad r0)), (1, .int x1), (3, .int x3)] 35 [.int t0] := by
  unfold P_Mod_goesAt_b35 at h
  refine fw_istore_n (pc := 35) C (L2 := [(0, .ref _), (1, .int _), (2, .int _), (3, .int _)]) [1, 2, 0, 3] dX9_goesAt_35 rfl (by decide) rfl ?_
  refine fw_iinc (pc := 36) C (v := -1) (L2 := [(0, .ref _), (1, .int _), (2, .int _), (3, .int _)]) 3 [1, 2, 3, 0] dX9_goesAt_36 rfl fk_iconst_m1 (by decide) rfl ?_
  refine fw_goto (pc := 39) C (tgt := 9) dX9_goesAt_39 (by decide) ?_
  exact (hK9 _ _ _ h)
set_option maxRecDepth 100000 in
theorem c_Mod_goesAt_b34 {p : Program} {l : Launch} {e : Env} {s : State} {m : MethodId} {args : Array Value} {below : List Frame} {meth : Method} {c : Code} {D : va_G} {cI cZ cH cR : ClassId} {N : Nat} {ad : Nat → Nat} {EE : fw_M → Nat → va_E} {r0 : Nat} {M : fw_M} {K9 : Int32 → Int32 → Int32 → Option Int32} {x1 : Int32} {x2 : Int32} {x3 : Int32} {z : Int32} (C : fw_C p s m args meth c cX9_goesAt RX9 wsX9_goesAt 4 (some .int) D vwCl (fw_tys cI cZ cH cR) N ad fw_nw0) (hr0 : fw_I EE N cI r0 39) (hK9 : ∀ (kx1 : Int32) (kx2 : Int32) (kx3 : Int32), K9 kx1 kx2 kx3 = some z → fw_J p l e (headSpec wsX9_goesAt rm_Mod_goesAt).room s m args below meth c D vwCl N ad EE 4 0 0 (fw_E below args s D vwCl N ad EE (some (.int z)) M) M [(0, .ref (ad r0)), (1, .int kx1), (2, .int kx2), (3, .int kx3)] 9 []) (h : P_Mod_goesAt_b34 r0 M K9 x1 x2 x3 = some z) : fw_J p l e (headSpec wsX9_goesAt rm_Mod_goesAt).room s m args below meth c D vwCl N ad EE 4 0 0 (fw_E below args s D vwCl N ad EE (some (.int z)) M) M [(0, .ref (ad r0)), (1, .int x1), (2, .int x2), (3, .int x3)] 34 [] := by
  unfold P_Mod_goesAt_b34 at h
  refine fw_iload_n (pc := 34) C 2 dX9_goesAt_34 rfl rfl ?_
  exact fw_sub [0, 1, 3] rfl (c_Mod_goesAt_b35 C hr0 hK9 h)
set_option maxRecDepth 100000 in
theorem c_Mod_goesAt_b9 {p : Program} {l : Launch} {e : Env} {s : State} {m : MethodId} {args : Array Value} {below : List Frame} {meth : Method} {c : Code} {D : va_G} {cI cZ cH cR : ClassId} {N : Nat} {ad : Nat → Nat} {EE : fw_M → Nat → va_E} {r0 : Nat} {M : fw_M} {K9 : Int32 → Int32 → Int32 → Option Int32} {x1 : Int32} {x2 : Int32} {x3 : Int32} {z : Int32} (C : fw_C p s m args meth c cX9_goesAt RX9 wsX9_goesAt 4 (some .int) D vwCl (fw_tys cI cZ cH cR) N ad fw_nw0) (hr0 : fw_I EE N cI r0 39) (hK9 : ∀ (kx1 : Int32) (kx2 : Int32) (kx3 : Int32), K9 kx1 kx2 kx3 = some z → fw_J p l e (headSpec wsX9_goesAt rm_Mod_goesAt).room s m args below meth c D vwCl N ad EE 4 0 0 (fw_E below args s D vwCl N ad EE (some (.int z)) M) M [(0, .ref (ad r0)), (1, .int kx1), (2, .int kx2), (3, .int kx3)] 9 []) (h : P_Mod_goesAt_b9 r0 M K9 x1 x2 x3 = some z) : fw_J p l e (headSpec wsX9_goesAt rm_Mod_goesAt).room s m args below meth c D vwCl N ad EE 4 0 0 (fw_E below args s D vwCl N ad EE (some (.int z)) M) M [(0, .ref (ad r0)), (1, .int x1), (2, .int x2), (3, .int x3)] 9 [] := by
  unfold P_Mod_goesAt_b9 at h
  refine fw_iload_n (pc := 9) C 3 dX9_goesAt_9 rfl rfl ?_
  refine fw_if_lt (pc := 10) C (tgt := 42) dX9_goesAt_10 (by decide) (fun c1 => ?_) (fun c1 => ?_)
  · have h := fw_ift h c1
    refine fw_iload_n (pc := 42) C 2 dX9_goesAt_42 rfl rfl ?_
    exact fw_iret (pc := 43) C (Option.some.inj h) rfl dX9_goesAt_43
  · have h := fw_iff h c1
    refine fw_aload_n (pc := 13) C 0 dX9_goesAt_13 rfl rfl ?_
    refine fw_iload_n (pc := 14) C 3 dX9_goesAt_14 rfl rfl ?_
    refine fw_iload_n (pc := 15) C 1 dX9_goesAt_15 rfl rfl ?_
    obtain ⟨v2, hv2, h⟩ := fw_bind h
    refine fw_callS1 (pc := 16) C (rest := []) (c_Mod_waits hr0 hv2) (va_cwS 3 C.2.2.2.2.1 gX9_goesAt_X9_waits rfl rfl rfl hd_Mod_waits.2 ⟨Nat.le_of_ble_eq_true rfl, Nat.le_of_ble_eq_true rfl⟩) rfl ⟨Nat.zero_le _, Nat.zero_le _⟩ rfl (Nat.le_of_ble_eq_true rfl) dX9_goesAt_16 ?_
    refine fw_if_eq (pc := 19) C (tgt := 34) dX9_goesAt_19 (by decide) (fun c3 => ?_) (fun c3 => ?_)
    · have h := fw_ift h c3
      exact (c_Mod_goesAt_b34 C hr0 hK9 h)
    · have h := fw_iff h c3
      refine fw_aload_n (pc := 22) C 0 dX9_goesAt_22 rfl rfl ?_
      refine fw_iload_n (pc := 23) C 3 dX9_goesAt_23 rfl rfl ?_
      obtain ⟨v4, hv4, h⟩ := fw_bind h
      refine fw_callS1 (pc := 24) C (rest := []) (c_Mod_may hr0 hv4) (va_cwS 2 C.2.2.2.2.1 gX9_goesAt_X9_may rfl rfl rfl hd_Mod_may.2 ⟨Nat.le_of_ble_eq_true rfl, Nat.le_of_ble_eq_true rfl⟩) rfl ⟨Nat.zero_le _, Nat.zero_le _⟩ rfl (Nat.le_of_ble_eq_true rfl) dX9_goesAt_24 ?_
      refine fw_if_eq (pc := 27) C (tgt := 34) dX9_goesAt_27 (by decide) (fun c5 => ?_) (fun c5 => ?_)
      · have h := fw_ift h c5
        exact (c_Mod_goesAt_b34 C hr0 hK9 h)
      · have h := fw_iff h c5
        refine fw_iload_n (pc := 30) C 3 dX9_goesAt_30 rfl rfl ?_
        refine fw_goto (pc := 31) C (tgt := 35) dX9_goesAt_31 (by decide) ?_
        exact fw_sub [0, 1, 3] rfl (c_Mod_goesAt_b35 C hr0 hK9 h)
theorem c_Mod_goesAt_h9 {p : Program} {l : Launch} {e : Env} {s : State} {m : MethodId} {args : Array Value} {below : List Frame} {meth : Method} {c : Code} {D : va_G} {cI cZ cH cR : ClassId} {N : Nat} {ad : Nat → Nat} {EE : fw_M → Nat → va_E} {r0 : Nat} {M : fw_M} {z : Int32} (C : fw_C p s m args meth c cX9_goesAt RX9 wsX9_goesAt 4 (some .int) D vwCl (fw_tys cI cZ cH cR) N ad fw_nw0) (hr0 : fw_I EE N cI r0 39) : ∀ (n : Nat) (x1 : Int32) (x2 : Int32) (x3 : Int32), P_Mod_goesAt_h9 r0 M n x1 x2 x3 = some z → fw_J p l e (headSpec wsX9_goesAt rm_Mod_goesAt).room s m args below meth c D vwCl N ad EE 4 0 0 (fw_E below args s D vwCl N ad EE (some (.int z)) M) M [(0, .ref (ad r0)), (1, .int x1), (2, .int x2), (3, .int x3)] 9 [] := by
  intro n
  induction n with
  | zero => intro x1 x2 x3  h; cases h
  | succ n ih => intro x1 x2 x3  h; exact c_Mod_goesAt_b9 C hr0 ih  h
set_option maxRecDepth 100000 in
theorem c_Mod_goesAt_b0 {p : Program} {l : Launch} {e : Env} {s : State} {m : MethodId} {args : Array Value} {below : List Frame} {meth : Method} {c : Code} {D : va_G} {cI cZ cH cR : ClassId} {N : Nat} {ad : Nat → Nat} {EE : fw_M → Nat → va_E} {r0 : Nat} {M : fw_M} {x1 : Int32} {z : Int32} (C : fw_C p s m args meth c cX9_goesAt RX9 wsX9_goesAt 4 (some .int) D vwCl (fw_tys cI cZ cH cR) N ad fw_nw0) (hr0 : fw_I EE N cI r0 39) (h : P_Mod_goesAt_b0 r0 M x1 = some z) : fw_J p l e (headSpec wsX9_goesAt rm_Mod_goesAt).room s m args below meth c D vwCl N ad EE 4 0 0 (fw_E below args s D vwCl N ad EE (some (.int z)) M) M [(0, .ref (ad r0)), (1, .int x1)] 0 [] := by
  unfold P_Mod_goesAt_b0 at h
  refine fw_ldc (pc := 0) C (v := -1000000) kX9_goesAt_90 dX9_goesAt_0 ?_
  refine fw_istore_n (pc := 2) C (L2 := [(0, .ref _), (1, .int _), (2, .int _)]) [1, 2, 0] dX9_goesAt_2 rfl (by decide) rfl ?_
  refine fw_aload_n (pc := 3) C 0 dX9_goesAt_3 rfl rfl ?_
  refine fw_iconst (pc := 4) C (v := 2) dX9_goesAt_4 fk_iconst_2 ?_
  obtain ⟨v1, hv1, h⟩ := fw_bind h
  refine fw_iald (pc := 5) C 0 hr0 rfl hv1 dX9_goesAt_5 ?_
  refine fw_iconst (pc := 6) C (v := 1) dX9_goesAt_6 fk_iconst_1 ?_
  refine fw_isub (pc := 7) C dX9_goesAt_7 ?_
  have h := fw_plh h
  refine fw_istore_n (pc := 8) C (L2 := [(0, .ref _), (1, .int _), (2, .int _), (3, .int _)]) [1, 2, 3, 0] dX9_goesAt_8 rfl (by decide) rfl ?_
  exact (c_Mod_goesAt_h9 C hr0 _ _ _ _ h)
theorem c_Mod_goesAt {l : Launch} {D : va_G} {cI cZ cH cR : ClassId} {N : Nat} {ad : Nat → Nat} {EE : fw_M → Nat → va_E} {r0 : Nat} {M : fw_M} {a1 : Int32} {z : Int32} (hr0 : fw_I EE N cI r0 39) (h : P_Mod_goesAt r0 M a1 = some z) : fw_Met l yX9_goesAt wsX9_goesAt rm_Mod_goesAt D vwCl (fw_tys cI cZ cH cR) N ad fw_nw0 EE [.ref (ad r0), .int a1] M (some (.int z)) M := by
  unfold P_Mod_goesAt at h
  exact fw_intro (cc := cX9_goesAt) (maxL := 4) (ret := some .int) (own := RX9) (by decide) rfl rfl (Nat.le_of_ble_eq_true rfl) (fun p e s m args below meth c C => fw_sub [0, 1] rfl (c_Mod_goesAt_b0 C hr0 h))
abbrev rm_Mod_step : Room := { frames := 5, cells := 0, slots := 0, locals := 112 }
theorem hd_Mod_step : yX9_step.cls = RX9 ∧ yX9_step.cls ≠ "java/lang/invoke/MethodHandle" ∧ yX9_step.cls ≠ "java/lang/invoke/VarHandle" ∧ (parseMethodDescriptor yX9_step.desc).map (fun d => d.parameters.length) = some 1 := by decide +kernel
theorem qX9_step_34 : fw_G wsX9_step RX9 34 RX9 TX9 24 19 := ⟨by decide +kernel, by decide +kernel, by decide⟩
theorem kX9_step_90 : Cond.constant RX9 90 (-1000000) ∈ wsX9_step := by decide +kernel
def P_Mod_step_b116 (o : Nat) (r0 : Nat) (K85 : fw_M → Int32 → Int32 → Option (Int32 × fw_M)) (M : fw_M) (x2 : Int32) (x3 : Int32) (t1 : Int32) (t2 : Int32) (t3 : Int32) : Option (Int32 × fw_M) := (fw_ast M r0 39 t1 (t2 - t3)).bind fun M1 => K85 M1 x2 (x3 + (1 : Int32))
def P_Mod_step_b85 (o : Nat) (r0 : Nat) (K85 : fw_M → Int32 → Int32 → Option (Int32 × fw_M)) (M : fw_M) (x2 : Int32) (x3 : Int32) : Option (Int32 × fw_M) := (fw_ald M r0 39 (2 : Int32)).bind fun v1 => (if v1 ≤ x3 then (fw_ald M r0 39 (3 : Int32)).bind fun v3 => (fw_ast M r0 39 (3 : Int32) (v3 + (1 : Int32))).bind fun M4 => some (x2, M4) else (fw_ald M r0 39 (((4 : Int32) + ((5 : Int32) * x3)) + (4 : Int32))).bind fun v5 => (P_Mod_of r0 M x3 (4 : Int32)).bind fun v6 => (if v6 ≤ (0 : Int32) then P_Mod_step_b116 o r0 K85 M x2 x3 (((4 : Int32) + ((5 : Int32) * x3)) + (4 : Int32)) v5 (0 : Int32) else P_Mod_step_b116 o r0 K85 M x2 x3 (((4 : Int32) + ((5 : Int32) * x3)) + (4 : Int32)) v5 (1 : Int32)))
def P_Mod_step_h85 (o : Nat) (r0 : Nat) : Nat → fw_M → Int32 → Int32 → Option (Int32 × fw_M)
  | 0, _, _, _ => none
  | n + 1, M, x2, x3 => P_Mod_step_b85 o r0 (P_Mod_step_h85 o r0 n) M x2 x3
def P_Mod_step_b77 (o : Nat) (r0 : Nat) (K30 : fw_M → Int32 → Int32 → Option (Int32 × fw_M)) (M : fw_M) (x2 : Int32) (x3 : Int32) : Option (Int32 × fw_M) := K30 M x2 (x3 + (1 : Int32))
def P_Mod_step_b30 (o : Nat) (r0 : Nat) (K30 : fw_M → Int32 → Int32 → Option (Int32 × fw_M)) (M : fw_M) (x2 : Int32) (x3 : Int32) : Option (Int32 × fw_M) := (fw_ald M r0 39 (0 : Int32)).bind fun v1 => (if v1 ≤ x3 then P_Mod_step_h85 o r0 fw_fu M x2 (0 : Int32) else (fw_ald M (o + 9) 4 x3).bind fun v3 => (if v3 = (-1000000 : Int32) then P_Mod_step_b77 o r0 K30 M x2 x3 else (fw_ald M (o + 9) 4 x3).bind fun v5 => fw_pl (((4 : Int32) + ((5 : Int32) * v5))) fun y6 => (fw_ast M r0 39 (y6 + (3 : Int32)) (-1 : Int32)).bind fun M7 => (fw_ast M7 r0 39 (y6 + (4 : Int32)) (0 : Int32)).bind fun M8 => P_Mod_step_b77 o r0 K30 M8 (x2 + (1 : Int32)) x3))
def P_Mod_step_h30 (o : Nat) (r0 : Nat) : Nat → fw_M → Int32 → Int32 → Option (Int32 × fw_M)
  | 0, _, _, _ => none
  | n + 1, M, x2, x3 => P_Mod_step_b30 o r0 (P_Mod_step_h30 o r0 n) M x2 x3
def P_Mod_step_b4 (o : Nat) (r0 : Nat) (K4 : fw_M → Int32 → Int32 → Option (Int32 × fw_M)) (M : fw_M) (x2 : Int32) (x3 : Int32) : Option (Int32 × fw_M) := (fw_ald M r0 39 (0 : Int32)).bind fun v1 => (if v1 ≤ x3 then P_Mod_step_h30 o r0 fw_fu M x2 (0 : Int32) else (P_Mod_goesAt r0 M x3).bind fun v3 => (fw_ast M (o + 9) 4 x3 v3).bind fun M4 => K4 M4 x2 (x3 + (1 : Int32)))
def P_Mod_step_h4 (o : Nat) (r0 : Nat) : Nat → fw_M → Int32 → Int32 → Option (Int32 × fw_M)
  | 0, _, _, _ => none
  | n + 1, M, x2, x3 => P_Mod_step_b4 o r0 (P_Mod_step_h4 o r0 n) M x2 x3
def P_Mod_step_b0 (o : Nat) (r0 : Nat) (M : fw_M) : Option (Int32 × fw_M) := P_Mod_step_h4 o r0 fw_fu M (0 : Int32) (0 : Int32)
def P_Mod_step (o : Nat) (r0 : Nat) (M : fw_M) : Option (Int32 × fw_M) := P_Mod_step_b0 o r0 M
set_option maxRecDepth 100000 in
theorem c_Mod_step_b116 {p : Program} {l : Launch} {e : Env} {s : State} {m : MethodId} {args : Array Value} {below : List Frame} {meth : Method} {c : Code} {D : va_G} {cI cZ cH cR : ClassId} {N : Nat} {ad : Nat → Nat} {EE : fw_M → Nat → va_E} {o : Nat} {r0 : Nat} {K85 : fw_M → Int32 → Int32 → Option (Int32 × fw_M)} {M : fw_M} {x2 : Int32} {x3 : Int32} {t1 : Int32} {t2 : Int32} {t3 : Int32} {z : (Int32 × fw_M)} (C : fw_C p s m args meth c cX9_step RX9 wsX9_step 5 (some .int) D vwCl (fw_tys cI cZ cH cR) N ad fw_nw0) (ho : o_Mod EE ad N cI cZ cH cR o) (hr0 : fw_I EE N cI r0 39) (hK85 : ∀ (Mk : fw_M) (kx2 : Int32) (kx3 : Int32), K85 Mk kx2 kx3 = some z → fw_J p l e (headSpec wsX9_step rm_Mod_step).room s m args below meth c D vwCl N ad EE 5 0 0 (fw_E below args s D vwCl N ad EE (some (.int z.1)) z.2) Mk [(1, .ref (ad r0)), (2, .int kx2), (3, .int kx3)] 85 []) (h : P_Mod_step_b116 o r0 K85 M x2 x3 t1 t2 t3 = some z) : fw_J p l e (headSpec wsX9_step rm_Mod_step).room s m args below meth c D vwCl N ad EE 5 0 0 (fw_E below args s D vwCl N ad EE (some (.int z.1)) z.2) M [(1, .ref (ad r0)), (2, .int x2), (3, .int x3)] 116 [.int t3, .int t2, .int t1, .ref (ad r0)] := by
  unfold P_Mod_step_b116 at h
  refine fw_isub (pc := 116) C dX9_step_116 ?_
  obtain ⟨M1, hM1, h⟩ := fw_bind h
  refine fw_iast (pc := 117) C 0 hr0 rfl hM1 dX9_step_117 ?_
  refine fw_iinc (pc := 118) C (v := 1) (L2 := [(1, .ref _), (2, .int _), (3, .int _)]) 2 [1, 2, 0] dX9_step_118 rfl fk_iconst_1 (by decide) rfl ?_
  refine fw_goto (pc := 121) C (tgt := 85) dX9_step_121 (by decide) ?_
  exact (hK85 _ _ _ h)
set_option maxRecDepth 100000 in
theorem c_Mod_step_b85 {p : Program} {l : Launch} {e : Env} {s : State} {m : MethodId} {args : Array Value} {below : List Frame} {meth : Method} {c : Code} {D : va_G} {cI cZ cH cR : ClassId} {N : Nat} {ad : Nat → Nat} {EE : fw_M → Nat → va_E} {o : Nat} {r0 : Nat} {K85 : fw_M → Int32 → Int32 → Option (Int32 × fw_M)} {M : fw_M} {x2 : Int32} {x3 : Int32} {z : (Int32 × fw_M)} (C : fw_C p s m args meth c cX9_step RX9 wsX9_step 5 (some .int) D vwCl (fw_tys cI cZ cH cR) N ad fw_nw0) (ho : o_Mod EE ad N cI cZ cH cR o) (hr0 : fw_I EE N cI r0 39) (hK85 : ∀ (Mk : fw_M) (kx2 : Int32) (kx3 : Int32), K85 Mk kx2 kx3 = some z → fw_J p l e (headSpec wsX9_step rm_Mod_step).room s m args below meth c D vwCl N ad EE 5 0 0 (fw_E below args s D vwCl N ad EE (some (.int z.1)) z.2) Mk [(1, .ref (ad r0)), (2, .int kx2), (3, .int kx3)] 85 []) (h : P_Mod_step_b85 o r0 K85 M x2 x3 = some z) : fw_J p l e (headSpec wsX9_step rm_Mod_step).room s m args below meth c D vwCl N ad EE 5 0 0 (fw_E below args s D vwCl N ad EE (some (.int z.1)) z.2) M [(1, .ref (ad r0)), (2, .int x2), (3, .int x3)] 85 [] := by
  unfold P_Mod_step_b85 at h
  refine fw_iload_n (pc := 85) C 2 dX9_step_85 rfl rfl ?_
  refine fw_aload_n (pc := 86) C 0 dX9_step_86 rfl rfl ?_
  refine fw_iconst (pc := 87) C (v := 2) dX9_step_87 fk_iconst_2 ?_
  obtain ⟨v1, hv1, h⟩ := fw_bind h
  refine fw_iald (pc := 88) C 0 hr0 rfl hv1 dX9_step_88 ?_
  refine fw_icmp_ge (pc := 89) C (tgt := 124) dX9_step_89 (by decide) (fun c2 => ?_) (fun c2 => ?_)
  · have h := fw_ift h c2
    refine fw_aload_n (pc := 124) C 0 dX9_step_124 rfl rfl ?_
    refine fw_iconst (pc := 125) C (v := 3) dX9_step_125 fk_iconst_3 ?_
    refine fw_dup2 (pc := 126) C dX9_step_126 rfl rfl ?_
    obtain ⟨v3, hv3, h⟩ := fw_bind h
    refine fw_iald (pc := 127) C 0 hr0 rfl hv3 dX9_step_127 ?_
    refine fw_iconst (pc := 128) C (v := 1) dX9_step_128 fk_iconst_1 ?_
    refine fw_iadd (pc := 129) C dX9_step_129 ?_
    obtain ⟨M4, hM4, h⟩ := fw_bind h
    refine fw_iast (pc := 130) C 0 hr0 rfl hM4 dX9_step_130 ?_
    refine fw_iload_n (pc := 131) C 1 dX9_step_131 rfl rfl ?_
    exact fw_iret (pc := 132) C (fw_p1 h) (fw_p2 h) dX9_step_132
  · have h := fw_iff h c2
    refine fw_aload_n (pc := 92) C 0 dX9_step_92 rfl rfl ?_
    refine fw_iconst (pc := 93) C (v := 4) dX9_step_93 fk_iconst_4 ?_
    refine fw_iconst (pc := 94) C (v := 5) dX9_step_94 fk_iconst_5 ?_
    refine fw_iload_n (pc := 95) C 2 dX9_step_95 rfl rfl ?_
    refine fw_imul (pc := 96) C dX9_step_96 ?_
    refine fw_iadd (pc := 97) C dX9_step_97 ?_
    refine fw_iconst (pc := 98) C (v := 4) dX9_step_98 fk_iconst_4 ?_
    refine fw_iadd (pc := 99) C dX9_step_99 ?_
    refine fw_dup2 (pc := 100) C dX9_step_100 rfl rfl ?_
    obtain ⟨v5, hv5, h⟩ := fw_bind h
    refine fw_iald (pc := 101) C 0 hr0 rfl hv5 dX9_step_101 ?_
    refine fw_aload_n (pc := 102) C 0 dX9_step_102 rfl rfl ?_
    refine fw_iload_n (pc := 103) C 2 dX9_step_103 rfl rfl ?_
    refine fw_iconst (pc := 104) C (v := 4) dX9_step_104 fk_iconst_4 ?_
    obtain ⟨v6, hv6, h⟩ := fw_bind h
    refine fw_callS1 (pc := 105) C (rest := [_, _, _]) (c_Mod_of hr0 hv6) (va_cwS 3 C.2.2.2.2.1 gX9_step_X9_of rfl rfl rfl hd_Mod_of.2 ⟨Nat.le_of_ble_eq_true rfl, Nat.le_of_ble_eq_true rfl⟩) rfl ⟨Nat.zero_le _, Nat.zero_le _⟩ rfl (Nat.le_of_ble_eq_true rfl) dX9_step_105 ?_
    refine fw_if_le (pc := 108) C (tgt := 115) dX9_step_108 (by decide) (fun c7 => ?_) (fun c7 => ?_)
    · have h := fw_ift h c7
      refine fw_iconst (pc := 115) C (v := 0) dX9_step_115 fk_iconst_0 ?_
      exact (c_Mod_step_b116 C ho hr0 hK85 h)
    · have h := fw_iff h c7
      refine fw_iconst (pc := 111) C (v := 1) dX9_step_111 fk_iconst_1 ?_
      refine fw_goto (pc := 112) C (tgt := 116) dX9_step_112 (by decide) ?_
      exact (c_Mod_step_b116 C ho hr0 hK85 h)
theorem c_Mod_step_h85 {p : Program} {l : Launch} {e : Env} {s : State} {m : MethodId} {args : Array Value} {below : List Frame} {meth : Method} {c : Code} {D : va_G} {cI cZ cH cR : ClassId} {N : Nat} {ad : Nat → Nat} {EE : fw_M → Nat → va_E} {o : Nat} {r0 : Nat} {z : (Int32 × fw_M)} (C : fw_C p s m args meth c cX9_step RX9 wsX9_step 5 (some .int) D vwCl (fw_tys cI cZ cH cR) N ad fw_nw0) (ho : o_Mod EE ad N cI cZ cH cR o) (hr0 : fw_I EE N cI r0 39) : ∀ (n : Nat) (M : fw_M) (x2 : Int32) (x3 : Int32), P_Mod_step_h85 o r0 n M x2 x3 = some z → fw_J p l e (headSpec wsX9_step rm_Mod_step).room s m args below meth c D vwCl N ad EE 5 0 0 (fw_E below args s D vwCl N ad EE (some (.int z.1)) z.2) M [(1, .ref (ad r0)), (2, .int x2), (3, .int x3)] 85 [] := by
  intro n
  induction n with
  | zero => intro M x2 x3  h; cases h
  | succ n ih => intro M x2 x3  h; exact c_Mod_step_b85 C ho hr0 ih  h
set_option maxRecDepth 100000 in
theorem c_Mod_step_b77 {p : Program} {l : Launch} {e : Env} {s : State} {m : MethodId} {args : Array Value} {below : List Frame} {meth : Method} {c : Code} {D : va_G} {cI cZ cH cR : ClassId} {N : Nat} {ad : Nat → Nat} {EE : fw_M → Nat → va_E} {o : Nat} {r0 : Nat} {K30 : fw_M → Int32 → Int32 → Option (Int32 × fw_M)} {M : fw_M} {x2 : Int32} {x3 : Int32} {z : (Int32 × fw_M)} (C : fw_C p s m args meth c cX9_step RX9 wsX9_step 5 (some .int) D vwCl (fw_tys cI cZ cH cR) N ad fw_nw0) (ho : o_Mod EE ad N cI cZ cH cR o) (hr0 : fw_I EE N cI r0 39) (hK30 : ∀ (Mk : fw_M) (kx2 : Int32) (kx3 : Int32), K30 Mk kx2 kx3 = some z → fw_J p l e (headSpec wsX9_step rm_Mod_step).room s m args below meth c D vwCl N ad EE 5 0 0 (fw_E below args s D vwCl N ad EE (some (.int z.1)) z.2) Mk [(0, .ref (ad o)), (1, .ref (ad r0)), (2, .int kx2), (3, .int kx3)] 30 []) (h : P_Mod_step_b77 o r0 K30 M x2 x3 = some z) : fw_J p l e (headSpec wsX9_step rm_Mod_step).room s m args below meth c D vwCl N ad EE 5 0 0 (fw_E below args s D vwCl N ad EE (some (.int z.1)) z.2) M [(0, .ref (ad o)), (1, .ref (ad r0)), (2, .int x2), (3, .int x3)] 77 [] := by
  unfold P_Mod_step_b77 at h
  refine fw_iinc (pc := 77) C (v := 1) (L2 := [(0, .ref _), (1, .ref _), (2, .int _), (3, .int _)]) 3 [1, 2, 3, 0] dX9_step_77 rfl fk_iconst_1 (by decide) rfl ?_
  refine fw_goto (pc := 80) C (tgt := 30) dX9_step_80 (by decide) ?_
  exact (hK30 _ _ _ h)
set_option maxRecDepth 100000 in
theorem c_Mod_step_b30 {p : Program} {l : Launch} {e : Env} {s : State} {m : MethodId} {args : Array Value} {below : List Frame} {meth : Method} {c : Code} {D : va_G} {cI cZ cH cR : ClassId} {N : Nat} {ad : Nat → Nat} {EE : fw_M → Nat → va_E} {o : Nat} {r0 : Nat} {K30 : fw_M → Int32 → Int32 → Option (Int32 × fw_M)} {M : fw_M} {x2 : Int32} {x3 : Int32} {z : (Int32 × fw_M)} (C : fw_C p s m args meth c cX9_step RX9 wsX9_step 5 (some .int) D vwCl (fw_tys cI cZ cH cR) N ad fw_nw0) (ho : o_Mod EE ad N cI cZ cH cR o) (hr0 : fw_I EE N cI r0 39) (hK30 : ∀ (Mk : fw_M) (kx2 : Int32) (kx3 : Int32), K30 Mk kx2 kx3 = some z → fw_J p l e (headSpec wsX9_step rm_Mod_step).room s m args below meth c D vwCl N ad EE 5 0 0 (fw_E below args s D vwCl N ad EE (some (.int z.1)) z.2) Mk [(0, .ref (ad o)), (1, .ref (ad r0)), (2, .int kx2), (3, .int kx3)] 30 []) (h : P_Mod_step_b30 o r0 K30 M x2 x3 = some z) : fw_J p l e (headSpec wsX9_step rm_Mod_step).room s m args below meth c D vwCl N ad EE 5 0 0 (fw_E below args s D vwCl N ad EE (some (.int z.1)) z.2) M [(0, .ref (ad o)), (1, .ref (ad r0)), (2, .int x2), (3, .int x3)] 30 [] := by
  unfold P_Mod_step_b30 at h
  refine fw_iload_n (pc := 30) C 3 dX9_step_30 rfl rfl ?_
  refine fw_aload_n (pc := 31) C 1 dX9_step_31 rfl rfl ?_
  refine fw_iconst (pc := 32) C (v := 0) dX9_step_32 fk_iconst_0 ?_
  obtain ⟨v1, hv1, h⟩ := fw_bind h
  refine fw_iald (pc := 33) C 0 hr0 rfl hv1 dX9_step_33 ?_
  refine fw_icmp_ge (pc := 34) C (tgt := 83) dX9_step_34 (by decide) (fun c2 => ?_) (fun c2 => ?_)
  · have h := fw_ift h c2
    refine fw_iconst (pc := 83) C (v := 0) dX9_step_83 fk_iconst_0 ?_
    refine fw_istore_n (pc := 84) C (L2 := [(0, .ref _), (1, .ref _), (2, .int _), (3, .int _)]) [1, 2, 3, 0] dX9_step_84 rfl (by decide) rfl ?_
    exact fw_sub [1, 2, 3] rfl (c_Mod_step_h85 C ho hr0 _ _ _ _ h)
  · have h := fw_iff h c2
    refine fw_aload_n (pc := 37) C 0 dX9_step_37 rfl rfl ?_
    refine fw_getr (pc := 38) C ho.2.2.2.2.2.2.2.2.2.2.2.2.2.2.2.2.2.2.2.2.1.1 rfl qX9_step_34 dX9_step_38 ?_
    refine fw_iload_n (pc := 41) C 3 dX9_step_41 rfl rfl ?_
    obtain ⟨v3, hv3, h⟩ := fw_bind h
    refine fw_iald (pc := 42) C 0 ho.2.2.2.2.2.2.2.2.2.2.2.2.2.2.2.2.2.2.2.2.1.2 rfl hv3 dX9_step_42 ?_
    refine fw_ldc (pc := 43) C (v := -1000000) kX9_step_90 dX9_step_43 ?_
    refine fw_icmp_eq (pc := 45) C (tgt := 77) dX9_step_45 (by decide) (fun c4 => ?_) (fun c4 => ?_)
    · have h := fw_ift h c4
      exact (c_Mod_step_b77 C ho hr0 hK30 h)
    · have h := fw_iff h c4
      refine fw_iconst (pc := 48) C (v := 4) dX9_step_48 fk_iconst_4 ?_
      refine fw_iconst (pc := 49) C (v := 5) dX9_step_49 fk_iconst_5 ?_
      refine fw_aload_n (pc := 50) C 0 dX9_step_50 rfl rfl ?_
      refine fw_getr (pc := 51) C ho.2.2.2.2.2.2.2.2.2.2.2.2.2.2.2.2.2.2.2.2.1.1 rfl qX9_step_34 dX9_step_51 ?_
      refine fw_iload_n (pc := 54) C 3 dX9_step_54 rfl rfl ?_
      obtain ⟨v5, hv5, h⟩ := fw_bind h
      refine fw_iald (pc := 55) C 0 ho.2.2.2.2.2.2.2.2.2.2.2.2.2.2.2.2.2.2.2.2.1.2 rfl hv5 dX9_step_55 ?_
      refine fw_imul (pc := 56) C dX9_step_56 ?_
      refine fw_iadd (pc := 57) C dX9_step_57 ?_
      have h := fw_plh h
      refine fw_istore (pc := 58) C (L2 := [(0, .ref _), (1, .ref _), (2, .int _), (3, .int _), (4, .int _)]) [1, 2, 3, 4, 0] dX9_step_58 (by decide) rfl ?_
      refine fw_aload_n (pc := 60) C 1 dX9_step_60 rfl rfl ?_
      refine fw_iload (pc := 61) C 4 dX9_step_61 rfl ?_
      refine fw_iconst (pc := 63) C (v := 3) dX9_step_63 fk_iconst_3 ?_
      refine fw_iadd (pc := 64) C dX9_step_64 ?_
      refine fw_iconst (pc := 65) C (v := -1) dX9_step_65 fk_iconst_m1 ?_
      obtain ⟨M7, hM7, h⟩ := fw_bind h
      refine fw_iast (pc := 66) C 0 hr0 rfl hM7 dX9_step_66 ?_
      refine fw_aload_n (pc := 67) C 1 dX9_step_67 rfl rfl ?_
      refine fw_iload (pc := 68) C 4 dX9_step_68 rfl ?_
      refine fw_iconst (pc := 70) C (v := 4) dX9_step_70 fk_iconst_4 ?_
      refine fw_iadd (pc := 71) C dX9_step_71 ?_
      refine fw_iconst (pc := 72) C (v := 0) dX9_step_72 fk_iconst_0 ?_
      obtain ⟨M8, hM8, h⟩ := fw_bind h
      refine fw_iast (pc := 73) C 0 hr0 rfl hM8 dX9_step_73 ?_
      refine fw_iinc (pc := 74) C (v := 1) (L2 := [(0, .ref _), (1, .ref _), (2, .int _), (3, .int _), (4, .int _)]) 2 [1, 2, 0, 3, 4] dX9_step_74 rfl fk_iconst_1 (by decide) rfl ?_
      exact fw_sub [0, 1, 2, 3] rfl (c_Mod_step_b77 C ho hr0 hK30 h)
theorem c_Mod_step_h30 {p : Program} {l : Launch} {e : Env} {s : State} {m : MethodId} {args : Array Value} {below : List Frame} {meth : Method} {c : Code} {D : va_G} {cI cZ cH cR : ClassId} {N : Nat} {ad : Nat → Nat} {EE : fw_M → Nat → va_E} {o : Nat} {r0 : Nat} {z : (Int32 × fw_M)} (C : fw_C p s m args meth c cX9_step RX9 wsX9_step 5 (some .int) D vwCl (fw_tys cI cZ cH cR) N ad fw_nw0) (ho : o_Mod EE ad N cI cZ cH cR o) (hr0 : fw_I EE N cI r0 39) : ∀ (n : Nat) (M : fw_M) (x2 : Int32) (x3 : Int32), P_Mod_step_h30 o r0 n M x2 x3 = some z → fw_J p l e (headSpec wsX9_step rm_Mod_step).room s m args below meth c D vwCl N ad EE 5 0 0 (fw_E below args s D vwCl N ad EE (some (.int z.1)) z.2) M [(0, .ref (ad o)), (1, .ref (ad r0)), (2, .int x2), (3, .int x3)] 30 [] := by
  intro n
  induction n with
  | zero => intro M x2 x3  h; cases h
  | succ n ih => intro M x2 x3  h; exact c_Mod_step_b30 C ho hr0 ih  h
set_option maxRecDepth 100000 in
theorem c_Mod_step_b4 {p : Program} {l : Launch} {e : Env} {s : State} {m : MethodId} {args : Array Value} {below : List Frame} {meth : Method} {c : Code} {D : va_G} {cI cZ cH cR : ClassId} {N : Nat} {ad : Nat → Nat} {EE : fw_M → Nat → va_E} {o : Nat} {r0 : Nat} {K4 : fw_M → Int32 → Int32 → Option (Int32 × fw_M)} {M : fw_M} {x2 : Int32} {x3 : Int32} {z : (Int32 × fw_M)} (C : fw_C p s m args meth c cX9_step RX9 wsX9_step 5 (some .int) D vwCl (fw_tys cI cZ cH cR) N ad fw_nw0) (ho : o_Mod EE ad N cI cZ cH cR o) (hr0 : fw_I EE N cI r0 39) (hK4 : ∀ (Mk : fw_M) (kx2 : Int32) (kx3 : Int32), K4 Mk kx2 kx3 = some z → fw_J p l e (headSpec wsX9_step rm_Mod_step).room s m args below meth c D vwCl N ad EE 5 0 0 (fw_E below args s D vwCl N ad EE (some (.int z.1)) z.2) Mk [(0, .ref (ad o)), (1, .ref (ad r0)), (2, .int kx2), (3, .int kx3)] 4 []) (h : P_Mod_step_b4 o r0 K4 M x2 x3 = some z) : fw_J p l e (headSpec wsX9_step rm_Mod_step).room s m args below meth c D vwCl N ad EE 5 0 0 (fw_E below args s D vwCl N ad EE (some (.int z.1)) z.2) M [(0, .ref (ad o)), (1, .ref (ad r0)), (2, .int x2), (3, .int x3)] 4 [] := by
  unfold P_Mod_step_b4 at h
  refine fw_iload_n (pc := 4) C 3 dX9_step_4 rfl rfl ?_
  refine fw_aload_n (pc := 5) C 1 dX9_step_5 rfl rfl ?_
  refine fw_iconst (pc := 6) C (v := 0) dX9_step_6 fk_iconst_0 ?_
  obtain ⟨v1, hv1, h⟩ := fw_bind h
  refine fw_iald (pc := 7) C 0 hr0 rfl hv1 dX9_step_7 ?_
  refine fw_icmp_ge (pc := 8) C (tgt := 28) dX9_step_8 (by decide) (fun c2 => ?_) (fun c2 => ?_)
  · have h := fw_ift h c2
    refine fw_iconst (pc := 28) C (v := 0) dX9_step_28 fk_iconst_0 ?_
    refine fw_istore_n (pc := 29) C (L2 := [(0, .ref _), (1, .ref _), (2, .int _), (3, .int _)]) [1, 2, 3, 0] dX9_step_29 rfl (by decide) rfl ?_
    exact (c_Mod_step_h30 C ho hr0 _ _ _ _ h)
  · have h := fw_iff h c2
    refine fw_aload_n (pc := 11) C 0 dX9_step_11 rfl rfl ?_
    refine fw_getr (pc := 12) C ho.2.2.2.2.2.2.2.2.2.2.2.2.2.2.2.2.2.2.2.2.1.1 rfl qX9_step_34 dX9_step_12 ?_
    refine fw_iload_n (pc := 15) C 3 dX9_step_15 rfl rfl ?_
    refine fw_aload_n (pc := 16) C 1 dX9_step_16 rfl rfl ?_
    refine fw_iload_n (pc := 17) C 3 dX9_step_17 rfl rfl ?_
    obtain ⟨v3, hv3, h⟩ := fw_bind h
    refine fw_callS1 (pc := 18) C (rest := [_, _]) (c_Mod_goesAt hr0 hv3) (va_cwS 2 C.2.2.2.2.1 gX9_step_X9_goesAt rfl rfl rfl hd_Mod_goesAt.2 ⟨Nat.le_of_ble_eq_true rfl, Nat.le_of_ble_eq_true rfl⟩) rfl ⟨Nat.zero_le _, Nat.zero_le _⟩ rfl (Nat.le_of_ble_eq_true rfl) dX9_step_18 ?_
    obtain ⟨M4, hM4, h⟩ := fw_bind h
    refine fw_iast (pc := 21) C 0 ho.2.2.2.2.2.2.2.2.2.2.2.2.2.2.2.2.2.2.2.2.1.2 rfl hM4 dX9_step_21 ?_
    refine fw_iinc (pc := 22) C (v := 1) (L2 := [(0, .ref _), (1, .ref _), (2, .int _), (3, .int _)]) 3 [1, 2, 3, 0] dX9_step_22 rfl fk_iconst_1 (by decide) rfl ?_
    refine fw_goto (pc := 25) C (tgt := 4) dX9_step_25 (by decide) ?_
    exact (hK4 _ _ _ h)
theorem c_Mod_step_h4 {p : Program} {l : Launch} {e : Env} {s : State} {m : MethodId} {args : Array Value} {below : List Frame} {meth : Method} {c : Code} {D : va_G} {cI cZ cH cR : ClassId} {N : Nat} {ad : Nat → Nat} {EE : fw_M → Nat → va_E} {o : Nat} {r0 : Nat} {z : (Int32 × fw_M)} (C : fw_C p s m args meth c cX9_step RX9 wsX9_step 5 (some .int) D vwCl (fw_tys cI cZ cH cR) N ad fw_nw0) (ho : o_Mod EE ad N cI cZ cH cR o) (hr0 : fw_I EE N cI r0 39) : ∀ (n : Nat) (M : fw_M) (x2 : Int32) (x3 : Int32), P_Mod_step_h4 o r0 n M x2 x3 = some z → fw_J p l e (headSpec wsX9_step rm_Mod_step).room s m args below meth c D vwCl N ad EE 5 0 0 (fw_E below args s D vwCl N ad EE (some (.int z.1)) z.2) M [(0, .ref (ad o)), (1, .ref (ad r0)), (2, .int x2), (3, .int x3)] 4 [] := by
  intro n
  induction n with
  | zero => intro M x2 x3  h; cases h
  | succ n ih => intro M x2 x3  h; exact c_Mod_step_b4 C ho hr0 ih  h
set_option maxRecDepth 100000 in
theorem c_Mod_step_b0 {p : Program} {l : Launch} {e : Env} {s : State} {m : MethodId} {args : Array Value} {below : List Frame} {meth : Method} {c : Code} {D : va_G} {cI cZ cH cR : ClassId} {N : Nat} {ad : Nat → Nat} {EE : fw_M → Nat → va_E} {o : Nat} {r0 : Nat} {M : fw_M} {z : (Int32 × fw_M)} (C : fw_C p s m args meth c cX9_step RX9 wsX9_step 5 (some .int) D vwCl (fw_tys cI cZ cH cR) N ad fw_nw0) (ho : o_Mod EE ad N cI cZ cH cR o) (hr0 : fw_I EE N cI r0 39) (h : P_Mod_step_b0 o r0 M = some z) : fw_J p l e (headSpec wsX9_step rm_Mod_step).room s m args below meth c D vwCl N ad EE 5 0 0 (fw_E below args s D vwCl N ad EE (some (.int z.1)) z.2) M [(0, .ref (ad o)), (1, .ref (ad r0))] 0 [] := by
  unfold P_Mod_step_b0 at h
  refine fw_iconst (pc := 0) C (v := 0) dX9_step_0 fk_iconst_0 ?_
  refine fw_istore_n (pc := 1) C (L2 := [(0, .ref _), (1, .ref _), (2, .int _)]) [1, 2, 0] dX9_step_1 rfl (by decide) rfl ?_
  refine fw_iconst (pc := 2) C (v := 0) dX9_step_2 fk_iconst_0 ?_
  refine fw_istore_n (pc := 3) C (L2 := [(0, .ref _), (1, .ref _), (2, .int _), (3, .int _)]) [1, 2, 3, 0] dX9_step_3 rfl (by decide) rfl ?_
  exact (c_Mod_step_h4 C ho hr0 _ _ _ _ h)
theorem c_Mod_step {l : Launch} {D : va_G} {cI cZ cH cR : ClassId} {N : Nat} {ad : Nat → Nat} {EE : fw_M → Nat → va_E} {o : Nat} {r0 : Nat} {M : fw_M} {z : (Int32 × fw_M)} (ho : o_Mod EE ad N cI cZ cH cR o) (hr0 : fw_I EE N cI r0 39) (h : P_Mod_step o r0 M = some z) : fw_Met l yX9_step wsX9_step rm_Mod_step D vwCl (fw_tys cI cZ cH cR) N ad fw_nw0 EE [.ref (ad o), .ref (ad r0)] M (some (.int z.1)) z.2 := by
  unfold P_Mod_step at h
  exact fw_intro (cc := cX9_step) (maxL := 5) (ret := some .int) (own := RX9) (by decide) rfl rfl (Nat.le_of_ble_eq_true rfl) (fun p e s m args below meth c C => fw_sub [0, 1] rfl (c_Mod_step_b0 C ho hr0 h))
abbrev rm_Mod_stepsOf : Room := { frames := 6, cells := 0, slots := 0, locals := 136 }
theorem hd_Mod_stepsOf : yX9_stepsOf.cls = RX9 ∧ yX9_stepsOf.cls ≠ "java/lang/invoke/MethodHandle" ∧ yX9_stepsOf.cls ≠ "java/lang/invoke/VarHandle" ∧ (parseMethodDescriptor yX9_stepsOf.desc).map (fun d => d.parameters.length) = some 2 := by decide +kernel
def P_Mod_stepsOf_b5 (o : Nat) (r0 : Nat) (K5 : fw_M → Int32 → Int32 → Int32 → Option (Int32 × fw_M)) (M : fw_M) (x2 : Int32) (x3 : Int32) (x4 : Int32) : Option (Int32 × fw_M) := (if x2 ≤ x4 then some (x3, M) else (P_Mod_step o r0 M).bind fun q2 => fw_pl ((x3 + q2.1)) fun y3 => K5 q2.2 x2 y3 (x4 + (1 : Int32)))
def P_Mod_stepsOf_h5 (o : Nat) (r0 : Nat) : Nat → fw_M → Int32 → Int32 → Int32 → Option (Int32 × fw_M)
  | 0, _, _, _, _ => none
  | n + 1, M, x2, x3, x4 => P_Mod_stepsOf_b5 o r0 (P_Mod_stepsOf_h5 o r0 n) M x2 x3 x4
def P_Mod_stepsOf_b0 (o : Nat) (r0 : Nat) (M : fw_M) (x2 : Int32) : Option (Int32 × fw_M) := P_Mod_stepsOf_h5 o r0 fw_fu M x2 (0 : Int32) (0 : Int32)
def P_Mod_stepsOf (o : Nat) (r0 : Nat) (M : fw_M) (a1 : Int32) : Option (Int32 × fw_M) := P_Mod_stepsOf_b0 o r0 M a1
set_option maxRecDepth 100000 in
theorem c_Mod_stepsOf_b5 {p : Program} {l : Launch} {e : Env} {s : State} {m : MethodId} {args : Array Value} {below : List Frame} {meth : Method} {c : Code} {D : va_G} {cI cZ cH cR : ClassId} {N : Nat} {ad : Nat → Nat} {EE : fw_M → Nat → va_E} {o : Nat} {r0 : Nat} {K5 : fw_M → Int32 → Int32 → Int32 → Option (Int32 × fw_M)} {M : fw_M} {x2 : Int32} {x3 : Int32} {x4 : Int32} {z : (Int32 × fw_M)} (C : fw_C p s m args meth c cX9_stepsOf RX9 wsX9_stepsOf 5 (some .int) D vwCl (fw_tys cI cZ cH cR) N ad fw_nw0) (ho : o_Mod EE ad N cI cZ cH cR o) (hr0 : fw_I EE N cI r0 39) (hK5 : ∀ (Mk : fw_M) (kx2 : Int32) (kx3 : Int32) (kx4 : Int32), K5 Mk kx2 kx3 kx4 = some z → fw_J p l e (headSpec wsX9_stepsOf rm_Mod_stepsOf).room s m args below meth c D vwCl N ad EE 5 0 0 (fw_E below args s D vwCl N ad EE (some (.int z.1)) z.2) Mk [(0, .ref (ad o)), (1, .ref (ad r0)), (2, .int kx2), (3, .int kx3), (4, .int kx4)] 5 []) (h : P_Mod_stepsOf_b5 o r0 K5 M x2 x3 x4 = some z) : fw_J p l e (headSpec wsX9_stepsOf rm_Mod_stepsOf).room s m args below meth c D vwCl N ad EE 5 0 0 (fw_E below args s D vwCl N ad EE (some (.int z.1)) z.2) M [(0, .ref (ad o)), (1, .ref (ad r0)), (2, .int x2), (3, .int x3), (4, .int x4)] 5 [] := by
  unfold P_Mod_stepsOf_b5 at h
  refine fw_iload (pc := 5) C 4 dX9_stepsOf_5 rfl ?_
  refine fw_iload_n (pc := 7) C 2 dX9_stepsOf_7 rfl rfl ?_
  refine fw_icmp_ge (pc := 8) C (tgt := 25) dX9_stepsOf_8 (by decide) (fun c1 => ?_) (fun c1 => ?_)
  · have h := fw_ift h c1
    refine fw_iload_n (pc := 25) C 3 dX9_stepsOf_25 rfl rfl ?_
    exact fw_iret (pc := 26) C (fw_p1 h) (fw_p2 h) dX9_stepsOf_26
  · have h := fw_iff h c1
    refine fw_iload_n (pc := 11) C 3 dX9_stepsOf_11 rfl rfl ?_
    refine fw_aload_n (pc := 12) C 0 dX9_stepsOf_12 rfl rfl ?_
    refine fw_aload_n (pc := 13) C 1 dX9_stepsOf_13 rfl rfl ?_
    obtain ⟨q2, hq2, h⟩ := fw_bind h
    refine fw_callV1 (pc := 14) C (rest := [_]) (c_Mod_step ho hr0 hq2) (cwV 1 C.2.2.2.2.1 gX9_stepsOf_X9_step rfl rfl rfl hd_Mod_step ⟨Nat.le_of_ble_eq_true rfl, Nat.le_of_ble_eq_true rfl⟩) ho.1 rfl rfl ⟨Nat.zero_le _, Nat.zero_le _⟩ rfl (Nat.le_of_ble_eq_true rfl) dX9_stepsOf_14 ?_
    refine fw_iadd (pc := 17) C dX9_stepsOf_17 ?_
    have h := fw_plh h
    refine fw_istore_n (pc := 18) C (L2 := [(0, .ref _), (1, .ref _), (2, .int _), (3, .int _), (4, .int _)]) [1, 2, 3, 0, 4] dX9_stepsOf_18 rfl (by decide) rfl ?_
    refine fw_iinc (pc := 19) C (v := 1) (L2 := [(0, .ref _), (1, .ref _), (2, .int _), (3, .int _), (4, .int _)]) 4 [1, 2, 3, 4, 0] dX9_stepsOf_19 rfl fk_iconst_1 (by decide) rfl ?_
    refine fw_goto (pc := 22) C (tgt := 5) dX9_stepsOf_22 (by decide) ?_
    exact (hK5 _ _ _ _ h)
theorem c_Mod_stepsOf_h5 {p : Program} {l : Launch} {e : Env} {s : State} {m : MethodId} {args : Array Value} {below : List Frame} {meth : Method} {c : Code} {D : va_G} {cI cZ cH cR : ClassId} {N : Nat} {ad : Nat → Nat} {EE : fw_M → Nat → va_E} {o : Nat} {r0 : Nat} {z : (Int32 × fw_M)} (C : fw_C p s m args meth c cX9_stepsOf RX9 wsX9_stepsOf 5 (some .int) D vwCl (fw_tys cI cZ cH cR) N ad fw_nw0) (ho : o_Mod EE ad N cI cZ cH cR o) (hr0 : fw_I EE N cI r0 39) : ∀ (n : Nat) (M : fw_M) (x2 : Int32) (x3 : Int32) (x4 : Int32), P_Mod_stepsOf_h5 o r0 n M x2 x3 x4 = some z → fw_J p l e (headSpec wsX9_stepsOf rm_Mod_stepsOf).room s m args below meth c D vwCl N ad EE 5 0 0 (fw_E below args s D vwCl N ad EE (some (.int z.1)) z.2) M [(0, .ref (ad o)), (1, .ref (ad r0)), (2, .int x2), (3, .int x3), (4, .int x4)] 5 [] := by
  intro n
  induction n with
  | zero => intro M x2 x3 x4  h; cases h
  | succ n ih => intro M x2 x3 x4  h; exact c_Mod_stepsOf_b5 C ho hr0 ih  h
set_option maxRecDepth 100000 in
theorem c_Mod_stepsOf_b0 {p : Program} {l : Launch} {e : Env} {s : State} {m : MethodId} {args : Array Value} {below : List Frame} {meth : Method} {c : Code} {D : va_G} {cI cZ cH cR : ClassId} {N : Nat} {ad : Nat → Nat} {EE : fw_M → Nat → va_E} {o : Nat} {r0 : Nat} {M : fw_M} {x2 : Int32} {z : (Int32 × fw_M)} (C : fw_C p s m args meth c cX9_stepsOf RX9 wsX9_stepsOf 5 (some .int) D vwCl (fw_tys cI cZ cH cR) N ad fw_nw0) (ho : o_Mod EE ad N cI cZ cH cR o) (hr0 : fw_I EE N cI r0 39) (h : P_Mod_stepsOf_b0 o r0 M x2 = some z) : fw_J p l e (headSpec wsX9_stepsOf rm_Mod_stepsOf).room s m args below meth c D vwCl N ad EE 5 0 0 (fw_E below args s D vwCl N ad EE (some (.int z.1)) z.2) M [(0, .ref (ad o)), (1, .ref (ad r0)), (2, .int x2)] 0 [] := by
  unfold P_Mod_stepsOf_b0 at h
  refine fw_iconst (pc := 0) C (v := 0) dX9_stepsOf_0 fk_iconst_0 ?_
  refine fw_istore_n (pc := 1) C (L2 := [(0, .ref _), (1, .ref _), (2, .int _), (3, .int _)]) [1, 2, 3, 0] dX9_stepsOf_1 rfl (by decide) rfl ?_
  refine fw_iconst (pc := 2) C (v := 0) dX9_stepsOf_2 fk_iconst_0 ?_
  refine fw_istore (pc := 3) C (L2 := [(0, .ref _), (1, .ref _), (2, .int _), (3, .int _), (4, .int _)]) [1, 2, 3, 4, 0] dX9_stepsOf_3 (by decide) rfl ?_
  exact (c_Mod_stepsOf_h5 C ho hr0 _ _ _ _ _ h)
theorem c_Mod_stepsOf {l : Launch} {D : va_G} {cI cZ cH cR : ClassId} {N : Nat} {ad : Nat → Nat} {EE : fw_M → Nat → va_E} {o : Nat} {r0 : Nat} {M : fw_M} {a1 : Int32} {z : (Int32 × fw_M)} (ho : o_Mod EE ad N cI cZ cH cR o) (hr0 : fw_I EE N cI r0 39) (h : P_Mod_stepsOf o r0 M a1 = some z) : fw_Met l yX9_stepsOf wsX9_stepsOf rm_Mod_stepsOf D vwCl (fw_tys cI cZ cH cR) N ad fw_nw0 EE [.ref (ad o), .ref (ad r0), .int a1] M (some (.int z.1)) z.2 := by
  unfold P_Mod_stepsOf at h
  exact fw_intro (cc := cX9_stepsOf) (maxL := 5) (ret := some .int) (own := RX9) (by decide) rfl rfl (Nat.le_of_ble_eq_true rfl) (fun p e s m args below meth c C => fw_sub [0, 1, 2] rfl (c_Mod_stepsOf_b0 C ho hr0 h))
abbrev rm_Mod_waiting : Room := { frames := 2, cells := 0, slots := 0, locals := 44 }
theorem hd_Mod_waiting : yX9_waiting.cls = RX9 ∧ yX9_waiting.cls ≠ "java/lang/invoke/MethodHandle" ∧ yX9_waiting.cls ≠ "java/lang/invoke/VarHandle" ∧ (parseMethodDescriptor yX9_waiting.desc).map (fun d => d.parameters.length) = some 2 := by decide +kernel
def P_Mod_waiting_b28 (r0 : Nat) (M : fw_M) (K4 : Int32 → Int32 → Int32 → Option Int32) (x1 : Int32) (x3 : Int32) (t0 : Int32) (t1 : Int32) : Option Int32 := fw_pl ((t0 ||| t1)) fun y1 => K4 x1 y1 (x3 + (1 : Int32))
def P_Mod_waiting_b4 (r0 : Nat) (M : fw_M) (K4 : Int32 → Int32 → Int32 → Option Int32) (x1 : Int32) (x2 : Int32) (x3 : Int32) : Option Int32 := (fw_ald M r0 39 (2 : Int32)).bind fun v1 => (if v1 ≤ x3 then some x2 else (P_Mod_waits r0 M x3 x1).bind fun v3 => (if v3 = (0 : Int32) then P_Mod_waiting_b28 r0 M K4 x1 x3 x2 (0 : Int32) else P_Mod_waiting_b28 r0 M K4 x1 x3 x2 ((1 : Int32) <<< (x3 &&& 31))))
def P_Mod_waiting_h4 (r0 : Nat) (M : fw_M) : Nat → Int32 → Int32 → Int32 → Option Int32
  | 0, _, _, _ => none
  | n + 1, x1, x2, x3 => P_Mod_waiting_b4 r0 M (P_Mod_waiting_h4 r0 M n) x1 x2 x3
def P_Mod_waiting_b0 (r0 : Nat) (M : fw_M) (x1 : Int32) : Option Int32 := P_Mod_waiting_h4 r0 M fw_fu x1 (0 : Int32) (0 : Int32)
def P_Mod_waiting (r0 : Nat) (M : fw_M) (a1 : Int32) : Option Int32 := P_Mod_waiting_b0 r0 M a1
set_option maxRecDepth 100000 in
theorem c_Mod_waiting_b28 {p : Program} {l : Launch} {e : Env} {s : State} {m : MethodId} {args : Array Value} {below : List Frame} {meth : Method} {c : Code} {D : va_G} {cI cZ cH cR : ClassId} {N : Nat} {ad : Nat → Nat} {EE : fw_M → Nat → va_E} {r0 : Nat} {M : fw_M} {K4 : Int32 → Int32 → Int32 → Option Int32} {x1 : Int32} {x3 : Int32} {t0 : Int32} {t1 : Int32} {z : Int32} (C : fw_C p s m args meth c cX9_waiting RX9 wsX9_waiting 4 (some .int) D vwCl (fw_tys cI cZ cH cR) N ad fw_nw0) (hr0 : fw_I EE N cI r0 39) (hK4 : ∀ (kx1 : Int32) (kx2 : Int32) (kx3 : Int32), K4 kx1 kx2 kx3 = some z → fw_J p l e (headSpec wsX9_waiting rm_Mod_waiting).room s m args below meth c D vwCl N ad EE 4 0 0 (fw_E below args s D vwCl N ad EE (some (.int z)) M) M [(0, .ref (ad r0)), (1, .int kx1), (2, .int kx2), (3, .int kx3)] 4 []) (h : P_Mod_waiting_b28 r0 M K4 x1 x3 t0 t1 = some z) : fw_J p l e (headSpec wsX9_waiting rm_Mod_waiting).room s m args below meth c D vwCl N ad EE 4 0 0 (fw_E below args s D vwCl N ad EE (some (.int z)) M) M [(0, .ref (ad r0)), (1, .int x1), (3, .int x3)] 28 [.int t1, .int t0] := by
  unfold P_Mod_waiting_b28 at h
  refine fw_ior (pc := 28) C dX9_waiting_28 ?_
  have h := fw_plh h
  refine fw_istore_n (pc := 29) C (L2 := [(0, .ref _), (1, .int _), (2, .int _), (3, .int _)]) [1, 2, 0, 3] dX9_waiting_29 rfl (by decide) rfl ?_
  refine fw_iinc (pc := 30) C (v := 1) (L2 := [(0, .ref _), (1, .int _), (2, .int _), (3, .int _)]) 3 [1, 2, 3, 0] dX9_waiting_30 rfl fk_iconst_1 (by decide) rfl ?_
  refine fw_goto (pc := 33) C (tgt := 4) dX9_waiting_33 (by decide) ?_
  exact (hK4 _ _ _ h)
set_option maxRecDepth 100000 in
theorem c_Mod_waiting_b4 {p : Program} {l : Launch} {e : Env} {s : State} {m : MethodId} {args : Array Value} {below : List Frame} {meth : Method} {c : Code} {D : va_G} {cI cZ cH cR : ClassId} {N : Nat} {ad : Nat → Nat} {EE : fw_M → Nat → va_E} {r0 : Nat} {M : fw_M} {K4 : Int32 → Int32 → Int32 → Option Int32} {x1 : Int32} {x2 : Int32} {x3 : Int32} {z : Int32} (C : fw_C p s m args meth c cX9_waiting RX9 wsX9_waiting 4 (some .int) D vwCl (fw_tys cI cZ cH cR) N ad fw_nw0) (hr0 : fw_I EE N cI r0 39) (hK4 : ∀ (kx1 : Int32) (kx2 : Int32) (kx3 : Int32), K4 kx1 kx2 kx3 = some z → fw_J p l e (headSpec wsX9_waiting rm_Mod_waiting).room s m args below meth c D vwCl N ad EE 4 0 0 (fw_E below args s D vwCl N ad EE (some (.int z)) M) M [(0, .ref (ad r0)), (1, .int kx1), (2, .int kx2), (3, .int kx3)] 4 []) (h : P_Mod_waiting_b4 r0 M K4 x1 x2 x3 = some z) : fw_J p l e (headSpec wsX9_waiting rm_Mod_waiting).room s m args below meth c D vwCl N ad EE 4 0 0 (fw_E below args s D vwCl N ad EE (some (.int z)) M) M [(0, .ref (ad r0)), (1, .int x1), (2, .int x2), (3, .int x3)] 4 [] := by
  unfold P_Mod_waiting_b4 at h
  refine fw_iload_n (pc := 4) C 3 dX9_waiting_4 rfl rfl ?_
  refine fw_aload_n (pc := 5) C 0 dX9_waiting_5 rfl rfl ?_
  refine fw_iconst (pc := 6) C (v := 2) dX9_waiting_6 fk_iconst_2 ?_
  obtain ⟨v1, hv1, h⟩ := fw_bind h
  refine fw_iald (pc := 7) C 0 hr0 rfl hv1 dX9_waiting_7 ?_
  refine fw_icmp_ge (pc := 8) C (tgt := 36) dX9_waiting_8 (by decide) (fun c2 => ?_) (fun c2 => ?_)
  · have h := fw_ift h c2
    refine fw_iload_n (pc := 36) C 2 dX9_waiting_36 rfl rfl ?_
    exact fw_iret (pc := 37) C (Option.some.inj h) rfl dX9_waiting_37
  · have h := fw_iff h c2
    refine fw_iload_n (pc := 11) C 2 dX9_waiting_11 rfl rfl ?_
    refine fw_aload_n (pc := 12) C 0 dX9_waiting_12 rfl rfl ?_
    refine fw_iload_n (pc := 13) C 3 dX9_waiting_13 rfl rfl ?_
    refine fw_iload_n (pc := 14) C 1 dX9_waiting_14 rfl rfl ?_
    obtain ⟨v3, hv3, h⟩ := fw_bind h
    refine fw_callS1 (pc := 15) C (rest := [_]) (c_Mod_waits hr0 hv3) (va_cwS 3 C.2.2.2.2.1 gX9_waiting_X9_waits rfl rfl rfl hd_Mod_waits.2 ⟨Nat.le_of_ble_eq_true rfl, Nat.le_of_ble_eq_true rfl⟩) rfl ⟨Nat.zero_le _, Nat.zero_le _⟩ rfl (Nat.le_of_ble_eq_true rfl) dX9_waiting_15 ?_
    refine fw_if_eq (pc := 18) C (tgt := 27) dX9_waiting_18 (by decide) (fun c4 => ?_) (fun c4 => ?_)
    · have h := fw_ift h c4
      refine fw_iconst (pc := 27) C (v := 0) dX9_waiting_27 fk_iconst_0 ?_
      exact fw_sub [0, 1, 3] rfl (c_Mod_waiting_b28 C hr0 hK4 h)
    · have h := fw_iff h c4
      refine fw_iconst (pc := 21) C (v := 1) dX9_waiting_21 fk_iconst_1 ?_
      refine fw_iload_n (pc := 22) C 3 dX9_waiting_22 rfl rfl ?_
      refine fw_ishl (pc := 23) C dX9_waiting_23 ?_
      refine fw_goto (pc := 24) C (tgt := 28) dX9_waiting_24 (by decide) ?_
      exact fw_sub [0, 1, 3] rfl (c_Mod_waiting_b28 C hr0 hK4 h)
theorem c_Mod_waiting_h4 {p : Program} {l : Launch} {e : Env} {s : State} {m : MethodId} {args : Array Value} {below : List Frame} {meth : Method} {c : Code} {D : va_G} {cI cZ cH cR : ClassId} {N : Nat} {ad : Nat → Nat} {EE : fw_M → Nat → va_E} {r0 : Nat} {M : fw_M} {z : Int32} (C : fw_C p s m args meth c cX9_waiting RX9 wsX9_waiting 4 (some .int) D vwCl (fw_tys cI cZ cH cR) N ad fw_nw0) (hr0 : fw_I EE N cI r0 39) : ∀ (n : Nat) (x1 : Int32) (x2 : Int32) (x3 : Int32), P_Mod_waiting_h4 r0 M n x1 x2 x3 = some z → fw_J p l e (headSpec wsX9_waiting rm_Mod_waiting).room s m args below meth c D vwCl N ad EE 4 0 0 (fw_E below args s D vwCl N ad EE (some (.int z)) M) M [(0, .ref (ad r0)), (1, .int x1), (2, .int x2), (3, .int x3)] 4 [] := by
  intro n
  induction n with
  | zero => intro x1 x2 x3  h; cases h
  | succ n ih => intro x1 x2 x3  h; exact c_Mod_waiting_b4 C hr0 ih  h
set_option maxRecDepth 100000 in
theorem c_Mod_waiting_b0 {p : Program} {l : Launch} {e : Env} {s : State} {m : MethodId} {args : Array Value} {below : List Frame} {meth : Method} {c : Code} {D : va_G} {cI cZ cH cR : ClassId} {N : Nat} {ad : Nat → Nat} {EE : fw_M → Nat → va_E} {r0 : Nat} {M : fw_M} {x1 : Int32} {z : Int32} (C : fw_C p s m args meth c cX9_waiting RX9 wsX9_waiting 4 (some .int) D vwCl (fw_tys cI cZ cH cR) N ad fw_nw0) (hr0 : fw_I EE N cI r0 39) (h : P_Mod_waiting_b0 r0 M x1 = some z) : fw_J p l e (headSpec wsX9_waiting rm_Mod_waiting).room s m args below meth c D vwCl N ad EE 4 0 0 (fw_E below args s D vwCl N ad EE (some (.int z)) M) M [(0, .ref (ad r0)), (1, .int x1)] 0 [] := by
  unfold P_Mod_waiting_b0 at h
  refine fw_iconst (pc := 0) C (v := 0) dX9_waiting_0 fk_iconst_0 ?_
  refine fw_istore_n (pc := 1) C (L2 := [(0, .ref _), (1, .int _), (2, .int _)]) [1, 2, 0] dX9_waiting_1 rfl (by decide) rfl ?_
  refine fw_iconst (pc := 2) C (v := 0) dX9_waiting_2 fk_iconst_0 ?_
  refine fw_istore_n (pc := 3) C (L2 := [(0, .ref _), (1, .int _), (2, .int _), (3, .int _)]) [1, 2, 3, 0] dX9_waiting_3 rfl (by decide) rfl ?_
  exact (c_Mod_waiting_h4 C hr0 _ _ _ _ h)
theorem c_Mod_waiting {l : Launch} {D : va_G} {cI cZ cH cR : ClassId} {N : Nat} {ad : Nat → Nat} {EE : fw_M → Nat → va_E} {r0 : Nat} {M : fw_M} {a1 : Int32} {z : Int32} (hr0 : fw_I EE N cI r0 39) (h : P_Mod_waiting r0 M a1 = some z) : fw_Met l yX9_waiting wsX9_waiting rm_Mod_waiting D vwCl (fw_tys cI cZ cH cR) N ad fw_nw0 EE [.ref (ad r0), .int a1] M (some (.int z)) M := by
  unfold P_Mod_waiting at h
  exact fw_intro (cc := cX9_waiting) (maxL := 4) (ret := some .int) (own := RX9) (by decide) rfl rfl (Nat.le_of_ble_eq_true rfl) (fun p e s m args below meth c C => fw_sub [0, 1] rfl (c_Mod_waiting_b0 C hr0 h))
abbrev rm_Mod_bits : Room := { frames := 0, cells := 0, slots := 0, locals := 0 }
theorem hd_Mod_bits : yX9_bits.cls = RX9 ∧ yX9_bits.cls ≠ "java/lang/invoke/MethodHandle" ∧ yX9_bits.cls ≠ "java/lang/invoke/VarHandle" ∧ (parseMethodDescriptor yX9_bits.desc).map (fun d => d.parameters.length) = some 1 := by decide +kernel
def P_Mod_bits_b4 (M : fw_M) (K4 : Int32 → Int32 → Int32 → Option Int32) (x0 : Int32) (x1 : Int32) (x2 : Int32) : Option Int32 := (if (7 : Int32) ≤ x2 then some x1 else fw_pl ((x1 + ((x0 >>> (x2 &&& 31)) &&& (1 : Int32)))) fun y2 => K4 x0 y2 (x2 + (1 : Int32)))
def P_Mod_bits_h4 (M : fw_M) : Nat → Int32 → Int32 → Int32 → Option Int32
  | 0, _, _, _ => none
  | n + 1, x0, x1, x2 => P_Mod_bits_b4 M (P_Mod_bits_h4 M n) x0 x1 x2
def P_Mod_bits_b0 (M : fw_M) (x0 : Int32) : Option Int32 := P_Mod_bits_h4 M fw_fu x0 (0 : Int32) (0 : Int32)
def P_Mod_bits (M : fw_M) (a0 : Int32) : Option Int32 := P_Mod_bits_b0 M a0
set_option maxRecDepth 100000 in
theorem c_Mod_bits_b4 {p : Program} {l : Launch} {e : Env} {s : State} {m : MethodId} {args : Array Value} {below : List Frame} {meth : Method} {c : Code} {D : va_G} {cI cZ cH cR : ClassId} {N : Nat} {ad : Nat → Nat} {EE : fw_M → Nat → va_E} {M : fw_M} {K4 : Int32 → Int32 → Int32 → Option Int32} {x0 : Int32} {x1 : Int32} {x2 : Int32} {z : Int32} (C : fw_C p s m args meth c cX9_bits RX9 wsX9_bits 3 (some .int) D vwCl (fw_tys cI cZ cH cR) N ad fw_nw0) (hK4 : ∀ (kx0 : Int32) (kx1 : Int32) (kx2 : Int32), K4 kx0 kx1 kx2 = some z → fw_J p l e (headSpec wsX9_bits rm_Mod_bits).room s m args below meth c D vwCl N ad EE 3 0 0 (fw_E below args s D vwCl N ad EE (some (.int z)) M) M [(0, .int kx0), (1, .int kx1), (2, .int kx2)] 4 []) (h : P_Mod_bits_b4 M K4 x0 x1 x2 = some z) : fw_J p l e (headSpec wsX9_bits rm_Mod_bits).room s m args below meth c D vwCl N ad EE 3 0 0 (fw_E below args s D vwCl N ad EE (some (.int z)) M) M [(0, .int x0), (1, .int x1), (2, .int x2)] 4 [] := by
  unfold P_Mod_bits_b4 at h
  refine fw_iload_n (pc := 4) C 2 dX9_bits_4 rfl rfl ?_
  refine fw_bipush (pc := 5) C (v := 7) dX9_bits_5 fk_bipush_7 ?_
  refine fw_icmp_ge (pc := 7) C (tgt := 24) dX9_bits_7 (by decide) (fun c1 => ?_) (fun c1 => ?_)
  · have h := fw_ift h c1
    refine fw_iload_n (pc := 24) C 1 dX9_bits_24 rfl rfl ?_
    exact fw_iret (pc := 25) C (Option.some.inj h) rfl dX9_bits_25
  · have h := fw_iff h c1
    refine fw_iload_n (pc := 10) C 1 dX9_bits_10 rfl rfl ?_
    refine fw_iload_n (pc := 11) C 0 dX9_bits_11 rfl rfl ?_
    refine fw_iload_n (pc := 12) C 2 dX9_bits_12 rfl rfl ?_
    refine fw_ishr (pc := 13) C dX9_bits_13 ?_
    refine fw_iconst (pc := 14) C (v := 1) dX9_bits_14 fk_iconst_1 ?_
    refine fw_iand (pc := 15) C dX9_bits_15 ?_
    refine fw_iadd (pc := 16) C dX9_bits_16 ?_
    have h := fw_plh h
    refine fw_istore_n (pc := 17) C (L2 := [(0, .int _), (1, .int _), (2, .int _)]) [1, 0, 2] dX9_bits_17 rfl (by decide) rfl ?_
    refine fw_iinc (pc := 18) C (v := 1) (L2 := [(0, .int _), (1, .int _), (2, .int _)]) 2 [1, 2, 0] dX9_bits_18 rfl fk_iconst_1 (by decide) rfl ?_
    refine fw_goto (pc := 21) C (tgt := 4) dX9_bits_21 (by decide) ?_
    exact (hK4 _ _ _ h)
theorem c_Mod_bits_h4 {p : Program} {l : Launch} {e : Env} {s : State} {m : MethodId} {args : Array Value} {below : List Frame} {meth : Method} {c : Code} {D : va_G} {cI cZ cH cR : ClassId} {N : Nat} {ad : Nat → Nat} {EE : fw_M → Nat → va_E} {M : fw_M} {z : Int32} (C : fw_C p s m args meth c cX9_bits RX9 wsX9_bits 3 (some .int) D vwCl (fw_tys cI cZ cH cR) N ad fw_nw0) : ∀ (n : Nat) (x0 : Int32) (x1 : Int32) (x2 : Int32), P_Mod_bits_h4 M n x0 x1 x2 = some z → fw_J p l e (headSpec wsX9_bits rm_Mod_bits).room s m args below meth c D vwCl N ad EE 3 0 0 (fw_E below args s D vwCl N ad EE (some (.int z)) M) M [(0, .int x0), (1, .int x1), (2, .int x2)] 4 [] := by
  intro n
  induction n with
  | zero => intro x0 x1 x2  h; cases h
  | succ n ih => intro x0 x1 x2  h; exact c_Mod_bits_b4 C  ih  h
set_option maxRecDepth 100000 in
theorem c_Mod_bits_b0 {p : Program} {l : Launch} {e : Env} {s : State} {m : MethodId} {args : Array Value} {below : List Frame} {meth : Method} {c : Code} {D : va_G} {cI cZ cH cR : ClassId} {N : Nat} {ad : Nat → Nat} {EE : fw_M → Nat → va_E} {M : fw_M} {x0 : Int32} {z : Int32} (C : fw_C p s m args meth c cX9_bits RX9 wsX9_bits 3 (some .int) D vwCl (fw_tys cI cZ cH cR) N ad fw_nw0) (h : P_Mod_bits_b0 M x0 = some z) : fw_J p l e (headSpec wsX9_bits rm_Mod_bits).room s m args below meth c D vwCl N ad EE 3 0 0 (fw_E below args s D vwCl N ad EE (some (.int z)) M) M [(0, .int x0)] 0 [] := by
  unfold P_Mod_bits_b0 at h
  refine fw_iconst (pc := 0) C (v := 0) dX9_bits_0 fk_iconst_0 ?_
  refine fw_istore_n (pc := 1) C (L2 := [(0, .int _), (1, .int _)]) [1, 0] dX9_bits_1 rfl (by decide) rfl ?_
  refine fw_iconst (pc := 2) C (v := 0) dX9_bits_2 fk_iconst_0 ?_
  refine fw_istore_n (pc := 3) C (L2 := [(0, .int _), (1, .int _), (2, .int _)]) [1, 2, 0] dX9_bits_3 rfl (by decide) rfl ?_
  exact (c_Mod_bits_h4 C  _ _ _ _ h)
theorem c_Mod_bits {l : Launch} {D : va_G} {cI cZ cH cR : ClassId} {N : Nat} {ad : Nat → Nat} {EE : fw_M → Nat → va_E} {M : fw_M} {a0 : Int32} {z : Int32} (h : P_Mod_bits M a0 = some z) : fw_Met l yX9_bits wsX9_bits rm_Mod_bits D vwCl (fw_tys cI cZ cH cR) N ad fw_nw0 EE [.int a0] M (some (.int z)) M := by
  unfold P_Mod_bits at h
  exact fw_intro (cc := cX9_bits) (maxL := 3) (ret := some .int) (own := RX9) (by decide) rfl rfl (Nat.le_of_ble_eq_true rfl) (fun p e s m args below meth c C => fw_sub [0] rfl (c_Mod_bits_b0 C  h))
abbrev rm_Mod_nobodies : Room := { frames := 1, cells := 0, slots := 0, locals := 22 }
theorem hd_Mod_nobodies : yX9_nobodies.cls = RX9 ∧ yX9_nobodies.cls ≠ "java/lang/invoke/MethodHandle" ∧ yX9_nobodies.cls ≠ "java/lang/invoke/VarHandle" ∧ (parseMethodDescriptor yX9_nobodies.desc).map (fun d => d.parameters.length) = some 1 := by decide +kernel
def P_Mod_nobodies_b28 (r0 : Nat) (M : fw_M) (K4 : Int32 → Int32 → Option Int32) (x2 : Int32) (t0 : Int32) (t1 : Int32) : Option Int32 := fw_pl ((t0 ||| t1)) fun y1 => K4 y1 (x2 + (1 : Int32))
def P_Mod_nobodies_b4 (r0 : Nat) (M : fw_M) (K4 : Int32 → Int32 → Option Int32) (x1 : Int32) (x2 : Int32) : Option Int32 := (fw_ald M r0 39 (2 : Int32)).bind fun v1 => (if v1 ≤ x2 then some x1 else (P_Mod_of r0 M x2 (4 : Int32)).bind fun v3 => (if v3 ≤ (0 : Int32) then P_Mod_nobodies_b28 r0 M K4 x2 x1 (0 : Int32) else P_Mod_nobodies_b28 r0 M K4 x2 x1 ((1 : Int32) <<< (x2 &&& 31))))
def P_Mod_nobodies_h4 (r0 : Nat) (M : fw_M) : Nat → Int32 → Int32 → Option Int32
  | 0, _, _ => none
  | n + 1, x1, x2 => P_Mod_nobodies_b4 r0 M (P_Mod_nobodies_h4 r0 M n) x1 x2
def P_Mod_nobodies_b0 (r0 : Nat) (M : fw_M) : Option Int32 := P_Mod_nobodies_h4 r0 M fw_fu (0 : Int32) (0 : Int32)
def P_Mod_nobodies (r0 : Nat) (M : fw_M) : Option Int32 := P_Mod_nobodies_b0 r0 M
set_option maxRecDepth 100000 in
theorem c_Mod_nobodies_b28 {p : Program} {l : Launch} {e : Env} {s : State} {m : MethodId} {args : Array Value} {below : List Frame} {meth : Method} {c : Code} {D : va_G} {cI cZ cH cR : ClassId} {N : Nat} {ad : Nat → Nat} {EE : fw_M → Nat → va_E} {r0 : Nat} {M : fw_M} {K4 : Int32 → Int32 → Option Int32} {x2 : Int32} {t0 : Int32} {t1 : Int32} {z : Int32} (C : fw_C p s m args meth c cX9_nobodies RX9 wsX9_nobodies 3 (some .int) D vwCl (fw_tys cI cZ cH cR) N ad fw_nw0) (hr0 : fw_I EE N cI r0 39) (hK4 : ∀ (kx1 : Int32) (kx2 : Int32), K4 kx1 kx2 = some z → fw_J p l e (headSpec wsX9_nobodies rm_Mod_nobodies).room s m args below meth c D vwCl N ad EE 3 0 0 (fw_E below args s D vwCl N ad EE (some (.int z)) M) M [(0, .ref (ad r0)), (1, .int kx1), (2, .int kx2)] 4 []) (h : P_Mod_nobodies_b28 r0 M K4 x2 t0 t1 = some z) : fw_J p l e (headSpec wsX9_nobodies rm_Mod_nobodies).room s m args below meth c D vwCl N ad EE 3 0 0 (fw_E below args s D vwCl N ad EE (some (.int z)) M) M [(0, .ref (ad r0)), (2, .int x2)] 28 [.int t1, .int t0] := by
  unfold P_Mod_nobodies_b28 at h
  refine fw_ior (pc := 28) C dX9_nobodies_28 ?_
  have h := fw_plh h
  refine fw_istore_n (pc := 29) C (L2 := [(0, .ref _), (1, .int _), (2, .int _)]) [1, 0, 2] dX9_nobodies_29 rfl (by decide) rfl ?_
  refine fw_iinc (pc := 30) C (v := 1) (L2 := [(0, .ref _), (1, .int _), (2, .int _)]) 2 [1, 2, 0] dX9_nobodies_30 rfl fk_iconst_1 (by decide) rfl ?_
  refine fw_goto (pc := 33) C (tgt := 4) dX9_nobodies_33 (by decide) ?_
  exact (hK4 _ _ h)
set_option maxRecDepth 100000 in
theorem c_Mod_nobodies_b4 {p : Program} {l : Launch} {e : Env} {s : State} {m : MethodId} {args : Array Value} {below : List Frame} {meth : Method} {c : Code} {D : va_G} {cI cZ cH cR : ClassId} {N : Nat} {ad : Nat → Nat} {EE : fw_M → Nat → va_E} {r0 : Nat} {M : fw_M} {K4 : Int32 → Int32 → Option Int32} {x1 : Int32} {x2 : Int32} {z : Int32} (C : fw_C p s m args meth c cX9_nobodies RX9 wsX9_nobodies 3 (some .int) D vwCl (fw_tys cI cZ cH cR) N ad fw_nw0) (hr0 : fw_I EE N cI r0 39) (hK4 : ∀ (kx1 : Int32) (kx2 : Int32), K4 kx1 kx2 = some z → fw_J p l e (headSpec wsX9_nobodies rm_Mod_nobodies).room s m args below meth c D vwCl N ad EE 3 0 0 (fw_E below args s D vwCl N ad EE (some (.int z)) M) M [(0, .ref (ad r0)), (1, .int kx1), (2, .int kx2)] 4 []) (h : P_Mod_nobodies_b4 r0 M K4 x1 x2 = some z) : fw_J p l e (headSpec wsX9_nobodies rm_Mod_nobodies).room s m args below meth c D vwCl N ad EE 3 0 0 (fw_E below args s D vwCl N ad EE (some (.int z)) M) M [(0, .ref (ad r0)), (1, .int x1), (2, .int x2)] 4 [] := by
  unfold P_Mod_nobodies_b4 at h
  refine fw_iload_n (pc := 4) C 2 dX9_nobodies_4 rfl rfl ?_
  refine fw_aload_n (pc := 5) C 0 dX9_nobodies_5 rfl rfl ?_
  refine fw_iconst (pc := 6) C (v := 2) dX9_nobodies_6 fk_iconst_2 ?_
  obtain ⟨v1, hv1, h⟩ := fw_bind h
  refine fw_iald (pc := 7) C 0 hr0 rfl hv1 dX9_nobodies_7 ?_
  refine fw_icmp_ge (pc := 8) C (tgt := 36) dX9_nobodies_8 (by decide) (fun c2 => ?_) (fun c2 => ?_)
  · have h := fw_ift h c2
    refine fw_iload_n (pc := 36) C 1 dX9_nobodies_36 rfl rfl ?_
    exact fw_iret (pc := 37) C (Option.some.inj h) rfl dX9_nobodies_37
  · have h := fw_iff h c2
    refine fw_iload_n (pc := 11) C 1 dX9_nobodies_11 rfl rfl ?_
    refine fw_aload_n (pc := 12) C 0 dX9_nobodies_12 rfl rfl ?_
    refine fw_iload_n (pc := 13) C 2 dX9_nobodies_13 rfl rfl ?_
    refine fw_iconst (pc := 14) C (v := 4) dX9_nobodies_14 fk_iconst_4 ?_
    obtain ⟨v3, hv3, h⟩ := fw_bind h
    refine fw_callS1 (pc := 15) C (rest := [_]) (c_Mod_of hr0 hv3) (va_cwS 3 C.2.2.2.2.1 gX9_nobodies_X9_of rfl rfl rfl hd_Mod_of.2 ⟨Nat.le_of_ble_eq_true rfl, Nat.le_of_ble_eq_true rfl⟩) rfl ⟨Nat.zero_le _, Nat.zero_le _⟩ rfl (Nat.le_of_ble_eq_true rfl) dX9_nobodies_15 ?_
    refine fw_if_le (pc := 18) C (tgt := 27) dX9_nobodies_18 (by decide) (fun c4 => ?_) (fun c4 => ?_)
    · have h := fw_ift h c4
      refine fw_iconst (pc := 27) C (v := 0) dX9_nobodies_27 fk_iconst_0 ?_
      exact fw_sub [0, 2] rfl (c_Mod_nobodies_b28 C hr0 hK4 h)
    · have h := fw_iff h c4
      refine fw_iconst (pc := 21) C (v := 1) dX9_nobodies_21 fk_iconst_1 ?_
      refine fw_iload_n (pc := 22) C 2 dX9_nobodies_22 rfl rfl ?_
      refine fw_ishl (pc := 23) C dX9_nobodies_23 ?_
      refine fw_goto (pc := 24) C (tgt := 28) dX9_nobodies_24 (by decide) ?_
      exact fw_sub [0, 2] rfl (c_Mod_nobodies_b28 C hr0 hK4 h)
theorem c_Mod_nobodies_h4 {p : Program} {l : Launch} {e : Env} {s : State} {m : MethodId} {args : Array Value} {below : List Frame} {meth : Method} {c : Code} {D : va_G} {cI cZ cH cR : ClassId} {N : Nat} {ad : Nat → Nat} {EE : fw_M → Nat → va_E} {r0 : Nat} {M : fw_M} {z : Int32} (C : fw_C p s m args meth c cX9_nobodies RX9 wsX9_nobodies 3 (some .int) D vwCl (fw_tys cI cZ cH cR) N ad fw_nw0) (hr0 : fw_I EE N cI r0 39) : ∀ (n : Nat) (x1 : Int32) (x2 : Int32), P_Mod_nobodies_h4 r0 M n x1 x2 = some z → fw_J p l e (headSpec wsX9_nobodies rm_Mod_nobodies).room s m args below meth c D vwCl N ad EE 3 0 0 (fw_E below args s D vwCl N ad EE (some (.int z)) M) M [(0, .ref (ad r0)), (1, .int x1), (2, .int x2)] 4 [] := by
  intro n
  induction n with
  | zero => intro x1 x2  h; cases h
  | succ n ih => intro x1 x2  h; exact c_Mod_nobodies_b4 C hr0 ih  h
set_option maxRecDepth 100000 in
theorem c_Mod_nobodies_b0 {p : Program} {l : Launch} {e : Env} {s : State} {m : MethodId} {args : Array Value} {below : List Frame} {meth : Method} {c : Code} {D : va_G} {cI cZ cH cR : ClassId} {N : Nat} {ad : Nat → Nat} {EE : fw_M → Nat → va_E} {r0 : Nat} {M : fw_M} {z : Int32} (C : fw_C p s m args meth c cX9_nobodies RX9 wsX9_nobodies 3 (some .int) D vwCl (fw_tys cI cZ cH cR) N ad fw_nw0) (hr0 : fw_I EE N cI r0 39) (h : P_Mod_nobodies_b0 r0 M = some z) : fw_J p l e (headSpec wsX9_nobodies rm_Mod_nobodies).room s m args below meth c D vwCl N ad EE 3 0 0 (fw_E below args s D vwCl N ad EE (some (.int z)) M) M [(0, .ref (ad r0))] 0 [] := by
  unfold P_Mod_nobodies_b0 at h
  refine fw_iconst (pc := 0) C (v := 0) dX9_nobodies_0 fk_iconst_0 ?_
  refine fw_istore_n (pc := 1) C (L2 := [(0, .ref _), (1, .int _)]) [1, 0] dX9_nobodies_1 rfl (by decide) rfl ?_
  refine fw_iconst (pc := 2) C (v := 0) dX9_nobodies_2 fk_iconst_0 ?_
  refine fw_istore_n (pc := 3) C (L2 := [(0, .ref _), (1, .int _), (2, .int _)]) [1, 2, 0] dX9_nobodies_3 rfl (by decide) rfl ?_
  exact (c_Mod_nobodies_h4 C hr0 _ _ _ h)
theorem c_Mod_nobodies {l : Launch} {D : va_G} {cI cZ cH cR : ClassId} {N : Nat} {ad : Nat → Nat} {EE : fw_M → Nat → va_E} {r0 : Nat} {M : fw_M} {z : Int32} (hr0 : fw_I EE N cI r0 39) (h : P_Mod_nobodies r0 M = some z) : fw_Met l yX9_nobodies wsX9_nobodies rm_Mod_nobodies D vwCl (fw_tys cI cZ cH cR) N ad fw_nw0 EE [.ref (ad r0)] M (some (.int z)) M := by
  unfold P_Mod_nobodies at h
  exact fw_intro (cc := cX9_nobodies) (maxL := 3) (ret := some .int) (own := RX9) (by decide) rfl rfl (Nat.le_of_ble_eq_true rfl) (fun p e s m args below meth c C => fw_sub [0] rfl (c_Mod_nobodies_b0 C hr0 h))
abbrev rm_Mod_layThen : Room := { frames := 0, cells := 0, slots := 0, locals := 0 }
theorem hd_Mod_layThen : yX9_layThen.cls = RX9 ∧ yX9_layThen.cls ≠ "java/lang/invoke/MethodHandle" ∧ yX9_layThen.cls ≠ "java/lang/invoke/VarHandle" ∧ (parseMethodDescriptor yX9_layThen.desc).map (fun d => d.parameters.length) = some 0 := by decide +kernel
theorem qX9_layThen_25 : fw_G wsX9_layThen RX9 25 RX9 TX9 24 7 := ⟨by decide +kernel, by decide +kernel, by decide⟩
theorem qX9_layThen_19 : fw_G wsX9_layThen RX9 19 RX9 TX9 24 5 := ⟨by decide +kernel, by decide +kernel, by decide⟩
def P_Mod_layThen_b2 (o : Nat) (K2 : fw_M → Int32 → Option fw_M) (M : fw_M) (x1 : Int32) : Option fw_M := (if (39 : Int32) ≤ x1 then some M else (fw_ald M (o + 4) 39 x1).bind fun v2 => (fw_ast M (o + 6) 39 x1 v2).bind fun M3 => K2 M3 (x1 + (1 : Int32)))
def P_Mod_layThen_h2 (o : Nat) : Nat → fw_M → Int32 → Option fw_M
  | 0, _, _ => none
  | n + 1, M, x1 => P_Mod_layThen_b2 o (P_Mod_layThen_h2 o n) M x1
def P_Mod_layThen_b0 (o : Nat) (M : fw_M) : Option fw_M := P_Mod_layThen_h2 o fw_fu M (0 : Int32)
def P_Mod_layThen (o : Nat) (M : fw_M) : Option fw_M := P_Mod_layThen_b0 o M
set_option maxRecDepth 100000 in
theorem c_Mod_layThen_b2 {p : Program} {l : Launch} {e : Env} {s : State} {m : MethodId} {args : Array Value} {below : List Frame} {meth : Method} {c : Code} {D : va_G} {cI cZ cH cR : ClassId} {N : Nat} {ad : Nat → Nat} {EE : fw_M → Nat → va_E} {o : Nat} {K2 : fw_M → Int32 → Option fw_M} {M : fw_M} {x1 : Int32} {z : fw_M} (C : fw_C p s m args meth c cX9_layThen RX9 wsX9_layThen 2 (none) D vwCl (fw_tys cI cZ cH cR) N ad fw_nw0) (ho : o_Mod EE ad N cI cZ cH cR o) (hK2 : ∀ (Mk : fw_M) (kx1 : Int32), K2 Mk kx1 = some z → fw_J p l e (headSpec wsX9_layThen rm_Mod_layThen).room s m args below meth c D vwCl N ad EE 2 0 0 (fw_E below args s D vwCl N ad EE none z) Mk [(0, .ref (ad o)), (1, .int kx1)] 2 []) (h : P_Mod_layThen_b2 o K2 M x1 = some z) : fw_J p l e (headSpec wsX9_layThen rm_Mod_layThen).room s m args below meth c D vwCl N ad EE 2 0 0 (fw_E below args s D vwCl N ad EE none z) M [(0, .ref (ad o)), (1, .int x1)] 2 [] := by
  unfold P_Mod_layThen_b2 at h
  refine fw_iload_n (pc := 2) C 1 dX9_layThen_2 rfl rfl ?_
  refine fw_bipush (pc := 3) C (v := 39) dX9_layThen_3 fk_bipush_39 ?_
  refine fw_icmp_ge (pc := 5) C (tgt := 26) dX9_layThen_5 (by decide) (fun c1 => ?_) (fun c1 => ?_)
  · have h := fw_ift h c1
    exact fw_vret (pc := 26) C (Option.some.inj h) dX9_layThen_26
  · have h := fw_iff h c1
    refine fw_aload_n (pc := 8) C 0 dX9_layThen_8 rfl rfl ?_
    refine fw_getr (pc := 9) C ho.2.2.2.2.2.2.2.2.1.1 rfl qX9_layThen_25 dX9_layThen_9 ?_
    refine fw_iload_n (pc := 12) C 1 dX9_layThen_12 rfl rfl ?_
    refine fw_aload_n (pc := 13) C 0 dX9_layThen_13 rfl rfl ?_
    refine fw_getr (pc := 14) C ho.2.2.2.2.2.2.1.1 rfl qX9_layThen_19 dX9_layThen_14 ?_
    refine fw_iload_n (pc := 17) C 1 dX9_layThen_17 rfl rfl ?_
    obtain ⟨v2, hv2, h⟩ := fw_bind h
    refine fw_iald (pc := 18) C 0 ho.2.2.2.2.2.2.1.2 rfl hv2 dX9_layThen_18 ?_
    obtain ⟨M3, hM3, h⟩ := fw_bind h
    refine fw_iast (pc := 19) C 0 ho.2.2.2.2.2.2.2.2.1.2 rfl hM3 dX9_layThen_19 ?_
    refine fw_iinc (pc := 20) C (v := 1) (L2 := [(0, .ref _), (1, .int _)]) 1 [1, 0] dX9_layThen_20 rfl fk_iconst_1 (by decide) rfl ?_
    refine fw_goto (pc := 23) C (tgt := 2) dX9_layThen_23 (by decide) ?_
    exact (hK2 _ _ h)
theorem c_Mod_layThen_h2 {p : Program} {l : Launch} {e : Env} {s : State} {m : MethodId} {args : Array Value} {below : List Frame} {meth : Method} {c : Code} {D : va_G} {cI cZ cH cR : ClassId} {N : Nat} {ad : Nat → Nat} {EE : fw_M → Nat → va_E} {o : Nat} {z : fw_M} (C : fw_C p s m args meth c cX9_layThen RX9 wsX9_layThen 2 (none) D vwCl (fw_tys cI cZ cH cR) N ad fw_nw0) (ho : o_Mod EE ad N cI cZ cH cR o) : ∀ (n : Nat) (M : fw_M) (x1 : Int32), P_Mod_layThen_h2 o n M x1 = some z → fw_J p l e (headSpec wsX9_layThen rm_Mod_layThen).room s m args below meth c D vwCl N ad EE 2 0 0 (fw_E below args s D vwCl N ad EE none z) M [(0, .ref (ad o)), (1, .int x1)] 2 [] := by
  intro n
  induction n with
  | zero => intro M x1  h; cases h
  | succ n ih => intro M x1  h; exact c_Mod_layThen_b2 C ho ih  h
set_option maxRecDepth 100000 in
theorem c_Mod_layThen_b0 {p : Program} {l : Launch} {e : Env} {s : State} {m : MethodId} {args : Array Value} {below : List Frame} {meth : Method} {c : Code} {D : va_G} {cI cZ cH cR : ClassId} {N : Nat} {ad : Nat → Nat} {EE : fw_M → Nat → va_E} {o : Nat} {M : fw_M} {z : fw_M} (C : fw_C p s m args meth c cX9_layThen RX9 wsX9_layThen 2 (none) D vwCl (fw_tys cI cZ cH cR) N ad fw_nw0) (ho : o_Mod EE ad N cI cZ cH cR o) (h : P_Mod_layThen_b0 o M = some z) : fw_J p l e (headSpec wsX9_layThen rm_Mod_layThen).room s m args below meth c D vwCl N ad EE 2 0 0 (fw_E below args s D vwCl N ad EE none z) M [(0, .ref (ad o))] 0 [] := by
  unfold P_Mod_layThen_b0 at h
  refine fw_iconst (pc := 0) C (v := 0) dX9_layThen_0 fk_iconst_0 ?_
  refine fw_istore_n (pc := 1) C (L2 := [(0, .ref _), (1, .int _)]) [1, 0] dX9_layThen_1 rfl (by decide) rfl ?_
  exact (c_Mod_layThen_h2 C ho _ _ _ h)
theorem c_Mod_layThen {l : Launch} {D : va_G} {cI cZ cH cR : ClassId} {N : Nat} {ad : Nat → Nat} {EE : fw_M → Nat → va_E} {o : Nat} {M : fw_M} {z : fw_M} (ho : o_Mod EE ad N cI cZ cH cR o) (h : P_Mod_layThen o M = some z) : fw_Met l yX9_layThen wsX9_layThen rm_Mod_layThen D vwCl (fw_tys cI cZ cH cR) N ad fw_nw0 EE [.ref (ad o)] M none z := by
  unfold P_Mod_layThen at h
  exact fw_intro (cc := cX9_layThen) (maxL := 2) (ret := none) (own := RX9) (by decide) rfl rfl (Nat.le_of_ble_eq_true rfl) (fun p e s m args below meth c C => fw_sub [0] rfl (c_Mod_layThen_b0 C ho h))
end
