noncomputable section
abbrev rm_J6_bitCount : Room := { frames := 0, cells := 0, slots := 0, locals := 0 }
theorem hd_J6_bitCount : yJ6_bitCount_0f7a4.cls = RJ6 ∧ yJ6_bitCount_0f7a4.cls ≠ "java/lang/invoke/MethodHandle" ∧ yJ6_bitCount_0f7a4.cls ≠ "java/lang/invoke/VarHandle" ∧ (parseMethodDescriptor yJ6_bitCount_0f7a4.desc).map (fun d => d.parameters.length) = some 1 := by decide +kernel
theorem kJ6_bitCount_0f7a4_265 : Cond.constant RJ6 265 (1431655765) ∈ wsJ6_bitCount_0f7a4 := by decide +kernel
theorem kJ6_bitCount_0f7a4_266 : Cond.constant RJ6 266 (858993459) ∈ wsJ6_bitCount_0f7a4 := by decide +kernel
theorem kJ6_bitCount_0f7a4_267 : Cond.constant RJ6 267 (252645135) ∈ wsJ6_bitCount_0f7a4 := by decide +kernel
def P_J6_bitCount_b0 (x0 : Int32) : Option Int32 := fw_pl ((x0 - (((x0).toUInt32 >>> (((1 : Int32)).toUInt32 &&& Int32.toUInt32 31)).toInt32 &&& (1431655765 : Int32)))) fun y1 => fw_pl (((y1 &&& (858993459 : Int32)) + (((y1).toUInt32 >>> (((2 : Int32)).toUInt32 &&& Int32.toUInt32 31)).toInt32 &&& (858993459 : Int32)))) fun y2 => fw_pl (((y2 + ((y2).toUInt32 >>> (((4 : Int32)).toUInt32 &&& Int32.toUInt32 31)).toInt32) &&& (252645135 : Int32))) fun y3 => fw_pl ((y3 + ((y3).toUInt32 >>> (((8 : Int32)).toUInt32 &&& Int32.toUInt32 31)).toInt32)) fun y4 => fw_pl ((y4 + ((y4).toUInt32 >>> (((16 : Int32)).toUInt32 &&& Int32.toUInt32 31)).toInt32)) fun y5 => some (y5 &&& (63 : Int32))
def P_J6_bitCount (a0 : Int32) : Option Int32 := P_J6_bitCount_b0 a0
set_option maxRecDepth 100000 in
theorem c_J6_bitCount_b0 {p : Program} {l : Launch} {e : Env} {s : State} {m : MethodId} {args : Array Value} {below : List Frame} {meth : Method} {c : Code} {D : va_G} {cI cZ cH cR : ClassId} {N : Nat} {ad : Nat → Nat} {EE : fw_M → Nat → va_E} {M : fw_M} {x0 : Int32} {z : Int32} (C : fw_C p s m args meth c cJ6_bitCount_0f7a4 RJ6 wsJ6_bitCount_0f7a4 1 (some .int) D vwCl (fw_tys cI cZ cH cR) N ad fw_nw0) (h : P_J6_bitCount_b0 x0 = some z) : fw_J p l e (headSpec wsJ6_bitCount_0f7a4 rm_J6_bitCount).room s m args below meth c D vwCl N ad EE 1 0 0 (fw_E below args s D vwCl N ad EE (some (.int z)) M) M [(0, .int x0)] 0 [] := by
  unfold P_J6_bitCount_b0 at h
  refine fw_iload_n (pc := 0) C 0 dJ6_bitCount_0f7a4_0 rfl rfl ?_
  refine fw_iload_n (pc := 1) C 0 dJ6_bitCount_0f7a4_1 rfl rfl ?_
  refine fw_iconst (pc := 2) C (v := 1) dJ6_bitCount_0f7a4_2 fk_iconst_1 ?_
  refine fw_iushr (pc := 3) C dJ6_bitCount_0f7a4_3 ?_
  refine fw_ldcw (pc := 4) C (v := 1431655765) kJ6_bitCount_0f7a4_265 dJ6_bitCount_0f7a4_4 ?_
  refine fw_iand (pc := 7) C dJ6_bitCount_0f7a4_7 ?_
  refine fw_isub (pc := 8) C dJ6_bitCount_0f7a4_8 ?_
  have h := fw_plh h
  refine fw_istore_n (pc := 9) C (L2 := [(0, .int _)]) [0] dJ6_bitCount_0f7a4_9 rfl (by decide) rfl ?_
  refine fw_iload_n (pc := 10) C 0 dJ6_bitCount_0f7a4_10 rfl rfl ?_
  refine fw_ldcw (pc := 11) C (v := 858993459) kJ6_bitCount_0f7a4_266 dJ6_bitCount_0f7a4_11 ?_
  refine fw_iand (pc := 14) C dJ6_bitCount_0f7a4_14 ?_
  refine fw_iload_n (pc := 15) C 0 dJ6_bitCount_0f7a4_15 rfl rfl ?_
  refine fw_iconst (pc := 16) C (v := 2) dJ6_bitCount_0f7a4_16 fk_iconst_2 ?_
  refine fw_iushr (pc := 17) C dJ6_bitCount_0f7a4_17 ?_
  refine fw_ldcw (pc := 18) C (v := 858993459) kJ6_bitCount_0f7a4_266 dJ6_bitCount_0f7a4_18 ?_
  refine fw_iand (pc := 21) C dJ6_bitCount_0f7a4_21 ?_
  refine fw_iadd (pc := 22) C dJ6_bitCount_0f7a4_22 ?_
  have h := fw_plh h
  refine fw_istore_n (pc := 23) C (L2 := [(0, .int _)]) [0] dJ6_bitCount_0f7a4_23 rfl (by decide) rfl ?_
  refine fw_iload_n (pc := 24) C 0 dJ6_bitCount_0f7a4_24 rfl rfl ?_
  refine fw_iload_n (pc := 25) C 0 dJ6_bitCount_0f7a4_25 rfl rfl ?_
  refine fw_iconst (pc := 26) C (v := 4) dJ6_bitCount_0f7a4_26 fk_iconst_4 ?_
  refine fw_iushr (pc := 27) C dJ6_bitCount_0f7a4_27 ?_
  refine fw_iadd (pc := 28) C dJ6_bitCount_0f7a4_28 ?_
  refine fw_ldcw (pc := 29) C (v := 252645135) kJ6_bitCount_0f7a4_267 dJ6_bitCount_0f7a4_29 ?_
  refine fw_iand (pc := 32) C dJ6_bitCount_0f7a4_32 ?_
  have h := fw_plh h
  refine fw_istore_n (pc := 33) C (L2 := [(0, .int _)]) [0] dJ6_bitCount_0f7a4_33 rfl (by decide) rfl ?_
  refine fw_iload_n (pc := 34) C 0 dJ6_bitCount_0f7a4_34 rfl rfl ?_
  refine fw_iload_n (pc := 35) C 0 dJ6_bitCount_0f7a4_35 rfl rfl ?_
  refine fw_bipush (pc := 36) C (v := 8) dJ6_bitCount_0f7a4_36 fk_bipush_8 ?_
  refine fw_iushr (pc := 38) C dJ6_bitCount_0f7a4_38 ?_
  refine fw_iadd (pc := 39) C dJ6_bitCount_0f7a4_39 ?_
  have h := fw_plh h
  refine fw_istore_n (pc := 40) C (L2 := [(0, .int _)]) [0] dJ6_bitCount_0f7a4_40 rfl (by decide) rfl ?_
  refine fw_iload_n (pc := 41) C 0 dJ6_bitCount_0f7a4_41 rfl rfl ?_
  refine fw_iload_n (pc := 42) C 0 dJ6_bitCount_0f7a4_42 rfl rfl ?_
  refine fw_bipush (pc := 43) C (v := 16) dJ6_bitCount_0f7a4_43 fk_bipush_16 ?_
  refine fw_iushr (pc := 45) C dJ6_bitCount_0f7a4_45 ?_
  refine fw_iadd (pc := 46) C dJ6_bitCount_0f7a4_46 ?_
  have h := fw_plh h
  refine fw_istore_n (pc := 47) C (L2 := [(0, .int _)]) [0] dJ6_bitCount_0f7a4_47 rfl (by decide) rfl ?_
  refine fw_iload_n (pc := 48) C 0 dJ6_bitCount_0f7a4_48 rfl rfl ?_
  refine fw_bipush (pc := 49) C (v := 63) dJ6_bitCount_0f7a4_49 fk_bipush_63 ?_
  refine fw_iand (pc := 51) C dJ6_bitCount_0f7a4_51 ?_
  exact fw_iret (pc := 52) C (Option.some.inj h) rfl dJ6_bitCount_0f7a4_52
theorem c_J6_bitCount {l : Launch} {D : va_G} {cI cZ cH cR : ClassId} {N : Nat} {ad : Nat → Nat} {EE : fw_M → Nat → va_E} {M : fw_M} {a0 : Int32} {z : Int32} (h : P_J6_bitCount a0 = some z) : fw_Met l yJ6_bitCount_0f7a4 wsJ6_bitCount_0f7a4 rm_J6_bitCount D vwCl (fw_tys cI cZ cH cR) N ad fw_nw0 EE [.int a0] M (some (.int z)) M := by
  unfold P_J6_bitCount at h
  exact fw_intro (cc := cJ6_bitCount_0f7a4) (maxL := 1) (ret := some .int) (own := RJ6) (by decide) rfl rfl (Nat.le_of_ble_eq_true rfl) (fun p e s m args below meth c C => fw_sub [0] rfl (c_J6_bitCount_b0 C  h))
end
