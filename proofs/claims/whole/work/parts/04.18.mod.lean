noncomputable section
abbrev rm_Mod_leftAt : Room := { frames := 7, cells := 0, slots := 0, locals := 160 }
theorem hd_Mod_leftAt : yX9_leftAt.cls = RX9 ∧ yX9_leftAt.cls ≠ "java/lang/invoke/MethodHandle" ∧ yX9_leftAt.cls ≠ "java/lang/invoke/VarHandle" ∧ (parseMethodDescriptor yX9_leftAt.desc).map (fun d => d.parameters.length) = some 1 := by decide +kernel
theorem qX9_leftAt_25 : fw_G wsX9_leftAt RX9 25 RX9 TX9 24 7 := ⟨by decide +kernel, by decide +kernel, by decide⟩
def P_Mod_leftAt_b0 (o : Nat) (M : fw_M) (x1 : Int32) : Option (Int32 × fw_M) := (P_Mod_stepsOf o (o + 6) M (60 : Int32)).bind fun q1 => (P_Mod_waiting (o + 6) q1.2 x1).bind fun v2 => (P_Mod_bits q1.2 v2).bind fun v3 => some (v3, q1.2)
def P_Mod_leftAt (o : Nat) (M : fw_M) (a0 : Int32) : Option (Int32 × fw_M) := P_Mod_leftAt_b0 o M a0
set_option maxRecDepth 100000 in
theorem c_Mod_leftAt_b0 {p : Program} {l : Launch} {e : Env} {s : State} {m : MethodId} {args : Array Value} {below : List Frame} {meth : Method} {c : Code} {D : va_G} {cI cZ cH cR : ClassId} {N : Nat} {ad : Nat → Nat} {EE : fw_M → Nat → va_E} {o : Nat} {M : fw_M} {x1 : Int32} {z : (Int32 × fw_M)} (C : fw_C p s m args meth c cX9_leftAt RX9 wsX9_leftAt 3 (some .int) D vwCl (fw_tys cI cZ cH cR) N ad fw_nw0) (ho : o_Mod EE ad N cI cZ cH cR o) (h : P_Mod_leftAt_b0 o M x1 = some z) : fw_J p l e (headSpec wsX9_leftAt rm_Mod_leftAt).room s m args below meth c D vwCl N ad EE 3 0 0 (fw_E below args s D vwCl N ad EE (some (.int z.1)) z.2) M [(0, .ref (ad o)), (1, .int x1)] 0 [] := by
  unfold P_Mod_leftAt_b0 at h
  refine fw_aload_n (pc := 0) C 0 dX9_leftAt_0 rfl rfl ?_
  refine fw_aload_n (pc := 1) C 0 dX9_leftAt_1 rfl rfl ?_
  refine fw_getr (pc := 2) C ho.2.2.2.2.2.2.2.2.1.1 rfl qX9_leftAt_25 dX9_leftAt_2 ?_
  refine fw_bipush (pc := 5) C (v := 60) dX9_leftAt_5 fk_bipush_60 ?_
  obtain ⟨q1, hq1, h⟩ := fw_bind h
  refine fw_callV1 (pc := 7) C (rest := []) (c_Mod_stepsOf ho ho.2.2.2.2.2.2.2.2.1.2 hq1) (cwV 2 C.2.2.2.2.1 gX9_leftAt_X9_stepsOf rfl rfl rfl hd_Mod_stepsOf ⟨Nat.le_of_ble_eq_true rfl, Nat.le_of_ble_eq_true rfl⟩) ho.1 rfl rfl ⟨Nat.zero_le _, Nat.zero_le _⟩ rfl (Nat.le_of_ble_eq_true rfl) dX9_leftAt_7 ?_
  refine fw_istore_n (pc := 10) C (L2 := [(0, .ref _), (1, .int _), (2, .int _)]) [1, 2, 0] dX9_leftAt_10 rfl (by decide) rfl ?_
  refine fw_aload_n (pc := 11) C 0 dX9_leftAt_11 rfl rfl ?_
  refine fw_getr (pc := 12) C ho.2.2.2.2.2.2.2.2.1.1 rfl qX9_leftAt_25 dX9_leftAt_12 ?_
  refine fw_iload_n (pc := 15) C 1 dX9_leftAt_15 rfl rfl ?_
  obtain ⟨v2, hv2, h⟩ := fw_bind h
  refine fw_callS1 (pc := 16) C (rest := []) (c_Mod_waiting ho.2.2.2.2.2.2.2.2.1.2 hv2) (va_cwS 2 C.2.2.2.2.1 gX9_leftAt_X9_waiting rfl rfl rfl hd_Mod_waiting.2 ⟨Nat.le_of_ble_eq_true rfl, Nat.le_of_ble_eq_true rfl⟩) rfl ⟨Nat.zero_le _, Nat.zero_le _⟩ rfl (Nat.le_of_ble_eq_true rfl) dX9_leftAt_16 ?_
  obtain ⟨v3, hv3, h⟩ := fw_bind h
  refine fw_callS1 (pc := 19) C (rest := []) (c_Mod_bits  hv3) (va_cwS 1 C.2.2.2.2.1 gX9_leftAt_X9_bits rfl rfl rfl hd_Mod_bits.2 ⟨Nat.le_of_ble_eq_true rfl, Nat.le_of_ble_eq_true rfl⟩) rfl ⟨Nat.zero_le _, Nat.zero_le _⟩ rfl (Nat.le_of_ble_eq_true rfl) dX9_leftAt_19 ?_
  exact fw_iret (pc := 22) C (fw_p1 h) (fw_p2 h) dX9_leftAt_22
theorem c_Mod_leftAt {l : Launch} {D : va_G} {cI cZ cH cR : ClassId} {N : Nat} {ad : Nat → Nat} {EE : fw_M → Nat → va_E} {o : Nat} {M : fw_M} {a0 : Int32} {z : (Int32 × fw_M)} (ho : o_Mod EE ad N cI cZ cH cR o) (h : P_Mod_leftAt o M a0 = some z) : fw_Met l yX9_leftAt wsX9_leftAt rm_Mod_leftAt D vwCl (fw_tys cI cZ cH cR) N ad fw_nw0 EE [.ref (ad o), .int a0] M (some (.int z.1)) z.2 := by
  unfold P_Mod_leftAt at h
  exact fw_intro (cc := cX9_leftAt) (maxL := 3) (ret := some .int) (own := RX9) (by decide) rfl rfl (Nat.le_of_ble_eq_true rfl) (fun p e s m args below meth c C => fw_sub [0, 1] rfl (c_Mod_leftAt_b0 C ho h))
abbrev rm_Mod_keep : Room := { frames := 0, cells := 0, slots := 0, locals := 0 }
theorem hd_Mod_keep : yX9_keep.cls = RX9 ∧ yX9_keep.cls ≠ "java/lang/invoke/MethodHandle" ∧ yX9_keep.cls ≠ "java/lang/invoke/VarHandle" ∧ (parseMethodDescriptor yX9_keep.desc).map (fun d => d.parameters.length) = some 0 := by decide +kernel
theorem qX9_keep_146 : fw_G wsX9_keep RX9 146 RX9 TX9 24 9 := ⟨by decide +kernel, by decide +kernel, by decide⟩
theorem qX9_keep_28 : fw_G wsX9_keep RX9 28 RX9 TX9 24 8 := ⟨by decide +kernel, by decide +kernel, by decide⟩
theorem qX9_keep_19 : fw_G wsX9_keep RX9 19 RX9 TX9 24 5 := ⟨by decide +kernel, by decide +kernel, by decide⟩
def P_Mod_keep_b51 (o : Nat) (K51 : fw_M → Int32 → Option fw_M) (M : fw_M) (x1 : Int32) : Option fw_M := (if (39 : Int32) ≤ x1 then fw_pl (fw_set M o 9 ((M o 9) + (1 : Int32))) fun M2 => some M2 else (fw_ald M (o + 4) 39 x1).bind fun v3 => (fw_ast M (o + 7) 936 (((39 : Int32) * (M o 9)) + x1) v3).bind fun M4 => K51 M4 (x1 + (1 : Int32)))
def P_Mod_keep_h51 (o : Nat) : Nat → fw_M → Int32 → Option fw_M
  | 0, _, _ => none
  | n + 1, M, x1 => P_Mod_keep_b51 o (P_Mod_keep_h51 o n) M x1
def P_Mod_keep_b49 (o : Nat) (M : fw_M) : Option fw_M := P_Mod_keep_h51 o fw_fu M (0 : Int32)
def P_Mod_keep_b11 (o : Nat) (K11 : fw_M → Int32 → Option fw_M) (M : fw_M) (x1 : Int32) : Option fw_M := (if (897 : Int32) ≤ x1 then fw_pl (fw_set M o 9 ((M o 9) - (1 : Int32))) fun M2 => P_Mod_keep_b49 o M2 else (fw_ald M (o + 7) 936 (x1 + (39 : Int32))).bind fun v3 => (fw_ast M (o + 7) 936 x1 v3).bind fun M4 => K11 M4 (x1 + (1 : Int32)))
def P_Mod_keep_h11 (o : Nat) : Nat → fw_M → Int32 → Option fw_M
  | 0, _, _ => none
  | n + 1, M, x1 => P_Mod_keep_b11 o (P_Mod_keep_h11 o n) M x1
def P_Mod_keep_b0 (o : Nat) (M : fw_M) : Option fw_M := (if (M o 9) = (24 : Int32) then P_Mod_keep_h11 o fw_fu M (0 : Int32) else P_Mod_keep_b49 o M)
def P_Mod_keep (o : Nat) (M : fw_M) : Option fw_M := P_Mod_keep_b0 o M
set_option maxRecDepth 100000 in
theorem c_Mod_keep_b51 {p : Program} {l : Launch} {e : Env} {s : State} {m : MethodId} {args : Array Value} {below : List Frame} {meth : Method} {c : Code} {D : va_G} {cI cZ cH cR : ClassId} {N : Nat} {ad : Nat → Nat} {EE : fw_M → Nat → va_E} {o : Nat} {K51 : fw_M → Int32 → Option fw_M} {M : fw_M} {x1 : Int32} {z : fw_M} (C : fw_C p s m args meth c cX9_keep RX9 wsX9_keep 2 (none) D vwCl (fw_tys cI cZ cH cR) N ad fw_nw0) (ho : o_Mod EE ad N cI cZ cH cR o) (hK51 : ∀ (Mk : fw_M) (kx1 : Int32), K51 Mk kx1 = some z → fw_J p l e (headSpec wsX9_keep rm_Mod_keep).room s m args below meth c D vwCl N ad EE 2 0 0 (fw_E below args s D vwCl N ad EE none z) Mk [(0, .ref (ad o)), (1, .int kx1)] 51 []) (h : P_Mod_keep_b51 o K51 M x1 = some z) : fw_J p l e (headSpec wsX9_keep rm_Mod_keep).room s m args below meth c D vwCl N ad EE 2 0 0 (fw_E below args s D vwCl N ad EE none z) M [(0, .ref (ad o)), (1, .int x1)] 51 [] := by
  unfold P_Mod_keep_b51 at h
  refine fw_iload_n (pc := 51) C 1 dX9_keep_51 rfl rfl ?_
  refine fw_bipush (pc := 52) C (v := 39) dX9_keep_52 fk_bipush_39 ?_
  refine fw_icmp_ge (pc := 54) C (tgt := 83) dX9_keep_54 (by decide) (fun c1 => ?_) (fun c1 => ?_)
  · have h := fw_ift h c1
    refine fw_aload_n (pc := 83) C 0 dX9_keep_83 rfl rfl ?_
    refine fw_dup (pc := 84) C dX9_keep_84 rfl ?_
    refine fw_geti (pc := 85) C ho.2.2.2.2.2.2.2.2.2.2.1 rfl qX9_keep_146 dX9_keep_85 ?_
    refine fw_iconst (pc := 88) C (v := 1) dX9_keep_88 fk_iconst_1 ?_
    refine fw_iadd (pc := 89) C dX9_keep_89 ?_
    have h := fw_plh h
    refine fw_puti (pc := 90) C ho.2.2.2.2.2.2.2.2.2.2.1 rfl qX9_keep_146 tyX9 tyX9_ok nmX9 rfl rfl dX9_keep_90 ?_
    exact fw_vret (pc := 93) C (Option.some.inj h) dX9_keep_93
  · have h := fw_iff h c1
    refine fw_aload_n (pc := 57) C 0 dX9_keep_57 rfl rfl ?_
    refine fw_getr (pc := 58) C ho.2.2.2.2.2.2.2.2.2.1.1 rfl qX9_keep_28 dX9_keep_58 ?_
    refine fw_bipush (pc := 61) C (v := 39) dX9_keep_61 fk_bipush_39 ?_
    refine fw_aload_n (pc := 63) C 0 dX9_keep_63 rfl rfl ?_
    refine fw_geti (pc := 64) C ho.2.2.2.2.2.2.2.2.2.2.1 rfl qX9_keep_146 dX9_keep_64 ?_
    refine fw_imul (pc := 67) C dX9_keep_67 ?_
    refine fw_iload_n (pc := 68) C 1 dX9_keep_68 rfl rfl ?_
    refine fw_iadd (pc := 69) C dX9_keep_69 ?_
    refine fw_aload_n (pc := 70) C 0 dX9_keep_70 rfl rfl ?_
    refine fw_getr (pc := 71) C ho.2.2.2.2.2.2.1.1 rfl qX9_keep_19 dX9_keep_71 ?_
    refine fw_iload_n (pc := 74) C 1 dX9_keep_74 rfl rfl ?_
    obtain ⟨v3, hv3, h⟩ := fw_bind h
    refine fw_iald (pc := 75) C 0 ho.2.2.2.2.2.2.1.2 rfl hv3 dX9_keep_75 ?_
    obtain ⟨M4, hM4, h⟩ := fw_bind h
    refine fw_iast (pc := 76) C 0 ho.2.2.2.2.2.2.2.2.2.1.2 rfl hM4 dX9_keep_76 ?_
    refine fw_iinc (pc := 77) C (v := 1) (L2 := [(0, .ref _), (1, .int _)]) 1 [1, 0] dX9_keep_77 rfl fk_iconst_1 (by decide) rfl ?_
    refine fw_goto (pc := 80) C (tgt := 51) dX9_keep_80 (by decide) ?_
    exact (hK51 _ _ h)
theorem c_Mod_keep_h51 {p : Program} {l : Launch} {e : Env} {s : State} {m : MethodId} {args : Array Value} {below : List Frame} {meth : Method} {c : Code} {D : va_G} {cI cZ cH cR : ClassId} {N : Nat} {ad : Nat → Nat} {EE : fw_M → Nat → va_E} {o : Nat} {z : fw_M} (C : fw_C p s m args meth c cX9_keep RX9 wsX9_keep 2 (none) D vwCl (fw_tys cI cZ cH cR) N ad fw_nw0) (ho : o_Mod EE ad N cI cZ cH cR o) : ∀ (n : Nat) (M : fw_M) (x1 : Int32), P_Mod_keep_h51 o n M x1 = some z → fw_J p l e (headSpec wsX9_keep rm_Mod_keep).room s m args below meth c D vwCl N ad EE 2 0 0 (fw_E below args s D vwCl N ad EE none z) M [(0, .ref (ad o)), (1, .int x1)] 51 [] := by
  intro n
  induction n with
  | zero => intro M x1  h; cases h
  | succ n ih => intro M x1  h; exact c_Mod_keep_b51 C ho ih  h
set_option maxRecDepth 100000 in
theorem c_Mod_keep_b49 {p : Program} {l : Launch} {e : Env} {s : State} {m : MethodId} {args : Array Value} {below : List Frame} {meth : Method} {c : Code} {D : va_G} {cI cZ cH cR : ClassId} {N : Nat} {ad : Nat → Nat} {EE : fw_M → Nat → va_E} {o : Nat} {M : fw_M} {z : fw_M} (C : fw_C p s m args meth c cX9_keep RX9 wsX9_keep 2 (none) D vwCl (fw_tys cI cZ cH cR) N ad fw_nw0) (ho : o_Mod EE ad N cI cZ cH cR o) (h : P_Mod_keep_b49 o M = some z) : fw_J p l e (headSpec wsX9_keep rm_Mod_keep).room s m args below meth c D vwCl N ad EE 2 0 0 (fw_E below args s D vwCl N ad EE none z) M [(0, .ref (ad o))] 49 [] := by
  unfold P_Mod_keep_b49 at h
  refine fw_iconst (pc := 49) C (v := 0) dX9_keep_49 fk_iconst_0 ?_
  refine fw_istore_n (pc := 50) C (L2 := [(0, .ref _), (1, .int _)]) [1, 0] dX9_keep_50 rfl (by decide) rfl ?_
  exact (c_Mod_keep_h51 C ho _ _ _ h)
set_option maxRecDepth 100000 in
theorem c_Mod_keep_b11 {p : Program} {l : Launch} {e : Env} {s : State} {m : MethodId} {args : Array Value} {below : List Frame} {meth : Method} {c : Code} {D : va_G} {cI cZ cH cR : ClassId} {N : Nat} {ad : Nat → Nat} {EE : fw_M → Nat → va_E} {o : Nat} {K11 : fw_M → Int32 → Option fw_M} {M : fw_M} {x1 : Int32} {z : fw_M} (C : fw_C p s m args meth c cX9_keep RX9 wsX9_keep 2 (none) D vwCl (fw_tys cI cZ cH cR) N ad fw_nw0) (ho : o_Mod EE ad N cI cZ cH cR o) (hK11 : ∀ (Mk : fw_M) (kx1 : Int32), K11 Mk kx1 = some z → fw_J p l e (headSpec wsX9_keep rm_Mod_keep).room s m args below meth c D vwCl N ad EE 2 0 0 (fw_E below args s D vwCl N ad EE none z) Mk [(0, .ref (ad o)), (1, .int kx1)] 11 []) (h : P_Mod_keep_b11 o K11 M x1 = some z) : fw_J p l e (headSpec wsX9_keep rm_Mod_keep).room s m args below meth c D vwCl N ad EE 2 0 0 (fw_E below args s D vwCl N ad EE none z) M [(0, .ref (ad o)), (1, .int x1)] 11 [] := by
  unfold P_Mod_keep_b11 at h
  refine fw_iload_n (pc := 11) C 1 dX9_keep_11 rfl rfl ?_
  refine fw_sipush (pc := 12) C (v := 897) dX9_keep_12 fk_sipush_897 ?_
  refine fw_icmp_ge (pc := 15) C (tgt := 39) dX9_keep_15 (by decide) (fun c1 => ?_) (fun c1 => ?_)
  · have h := fw_ift h c1
    refine fw_aload_n (pc := 39) C 0 dX9_keep_39 rfl rfl ?_
    refine fw_dup (pc := 40) C dX9_keep_40 rfl ?_
    refine fw_geti (pc := 41) C ho.2.2.2.2.2.2.2.2.2.2.1 rfl qX9_keep_146 dX9_keep_41 ?_
    refine fw_iconst (pc := 44) C (v := 1) dX9_keep_44 fk_iconst_1 ?_
    refine fw_isub (pc := 45) C dX9_keep_45 ?_
    have h := fw_plh h
    refine fw_puti (pc := 46) C ho.2.2.2.2.2.2.2.2.2.2.1 rfl qX9_keep_146 tyX9 tyX9_ok nmX9 rfl rfl dX9_keep_46 ?_
    exact fw_sub [0] rfl (c_Mod_keep_b49 C ho h)
  · have h := fw_iff h c1
    refine fw_aload_n (pc := 18) C 0 dX9_keep_18 rfl rfl ?_
    refine fw_getr (pc := 19) C ho.2.2.2.2.2.2.2.2.2.1.1 rfl qX9_keep_28 dX9_keep_19 ?_
    refine fw_iload_n (pc := 22) C 1 dX9_keep_22 rfl rfl ?_
    refine fw_aload_n (pc := 23) C 0 dX9_keep_23 rfl rfl ?_
    refine fw_getr (pc := 24) C ho.2.2.2.2.2.2.2.2.2.1.1 rfl qX9_keep_28 dX9_keep_24 ?_
    refine fw_iload_n (pc := 27) C 1 dX9_keep_27 rfl rfl ?_
    refine fw_bipush (pc := 28) C (v := 39) dX9_keep_28 fk_bipush_39 ?_
    refine fw_iadd (pc := 30) C dX9_keep_30 ?_
    obtain ⟨v3, hv3, h⟩ := fw_bind h
    refine fw_iald (pc := 31) C 0 ho.2.2.2.2.2.2.2.2.2.1.2 rfl hv3 dX9_keep_31 ?_
    obtain ⟨M4, hM4, h⟩ := fw_bind h
    refine fw_iast (pc := 32) C 0 ho.2.2.2.2.2.2.2.2.2.1.2 rfl hM4 dX9_keep_32 ?_
    refine fw_iinc (pc := 33) C (v := 1) (L2 := [(0, .ref _), (1, .int _)]) 1 [1, 0] dX9_keep_33 rfl fk_iconst_1 (by decide) rfl ?_
    refine fw_goto (pc := 36) C (tgt := 11) dX9_keep_36 (by decide) ?_
    exact (hK11 _ _ h)
theorem c_Mod_keep_h11 {p : Program} {l : Launch} {e : Env} {s : State} {m : MethodId} {args : Array Value} {below : List Frame} {meth : Method} {c : Code} {D : va_G} {cI cZ cH cR : ClassId} {N : Nat} {ad : Nat → Nat} {EE : fw_M → Nat → va_E} {o : Nat} {z : fw_M} (C : fw_C p s m args meth c cX9_keep RX9 wsX9_keep 2 (none) D vwCl (fw_tys cI cZ cH cR) N ad fw_nw0) (ho : o_Mod EE ad N cI cZ cH cR o) : ∀ (n : Nat) (M : fw_M) (x1 : Int32), P_Mod_keep_h11 o n M x1 = some z → fw_J p l e (headSpec wsX9_keep rm_Mod_keep).room s m args below meth c D vwCl N ad EE 2 0 0 (fw_E below args s D vwCl N ad EE none z) M [(0, .ref (ad o)), (1, .int x1)] 11 [] := by
  intro n
  induction n with
  | zero => intro M x1  h; cases h
  | succ n ih => intro M x1  h; exact c_Mod_keep_b11 C ho ih  h
set_option maxRecDepth 100000 in
theorem c_Mod_keep_b0 {p : Program} {l : Launch} {e : Env} {s : State} {m : MethodId} {args : Array Value} {below : List Frame} {meth : Method} {c : Code} {D : va_G} {cI cZ cH cR : ClassId} {N : Nat} {ad : Nat → Nat} {EE : fw_M → Nat → va_E} {o : Nat} {M : fw_M} {z : fw_M} (C : fw_C p s m args meth c cX9_keep RX9 wsX9_keep 2 (none) D vwCl (fw_tys cI cZ cH cR) N ad fw_nw0) (ho : o_Mod EE ad N cI cZ cH cR o) (h : P_Mod_keep_b0 o M = some z) : fw_J p l e (headSpec wsX9_keep rm_Mod_keep).room s m args below meth c D vwCl N ad EE 2 0 0 (fw_E below args s D vwCl N ad EE none z) M [(0, .ref (ad o))] 0 [] := by
  unfold P_Mod_keep_b0 at h
  refine fw_aload_n (pc := 0) C 0 dX9_keep_0 rfl rfl ?_
  refine fw_geti (pc := 1) C ho.2.2.2.2.2.2.2.2.2.2.1 rfl qX9_keep_146 dX9_keep_1 ?_
  refine fw_bipush (pc := 4) C (v := 24) dX9_keep_4 fk_bipush_24 ?_
  refine fw_icmp_ne (pc := 6) C (tgt := 49) dX9_keep_6 (by decide) (fun c1 => ?_) (fun c1 => ?_)
  · have h := fw_iff h c1
    exact (c_Mod_keep_b49 C ho h)
  · have h := fw_ift h c1
    refine fw_iconst (pc := 9) C (v := 0) dX9_keep_9 fk_iconst_0 ?_
    refine fw_istore_n (pc := 10) C (L2 := [(0, .ref _), (1, .int _)]) [1, 0] dX9_keep_10 rfl (by decide) rfl ?_
    exact (c_Mod_keep_h11 C ho _ _ _ h)
theorem c_Mod_keep {l : Launch} {D : va_G} {cI cZ cH cR : ClassId} {N : Nat} {ad : Nat → Nat} {EE : fw_M → Nat → va_E} {o : Nat} {M : fw_M} {z : fw_M} (ho : o_Mod EE ad N cI cZ cH cR o) (h : P_Mod_keep o M = some z) : fw_Met l yX9_keep wsX9_keep rm_Mod_keep D vwCl (fw_tys cI cZ cH cR) N ad fw_nw0 EE [.ref (ad o)] M none z := by
  unfold P_Mod_keep at h
  exact fw_intro (cc := cX9_keep) (maxL := 2) (ret := none) (own := RX9) (by decide) rfl rfl (Nat.le_of_ble_eq_true rfl) (fun p e s m args below meth c C => fw_sub [0] rfl (c_Mod_keep_b0 C ho h))
abbrev rm_Mod_steps : Room := { frames := 6, cells := 0, slots := 0, locals := 136 }
theorem hd_Mod_steps : yX9_steps.cls = RX9 ∧ yX9_steps.cls ≠ "java/lang/invoke/MethodHandle" ∧ yX9_steps.cls ≠ "java/lang/invoke/VarHandle" ∧ (parseMethodDescriptor yX9_steps.desc).map (fun d => d.parameters.length) = some 1 := by decide +kernel
theorem qX9_steps_47 : fw_G wsX9_steps RX9 47 RX9 TX9 24 0 := ⟨by decide +kernel, by decide +kernel, by decide⟩
theorem kX9_steps_187 : Cond.constant RX9 187 (-1000002) ∈ wsX9_steps := by decide +kernel
theorem kX9_steps_188 : Cond.constantLong RX9 188 (24) ∈ wsX9_steps := by decide +kernel
theorem kX9_steps_67 : Cond.constant RX9 67 (-1000001) ∈ wsX9_steps := by decide +kernel
theorem qX9_steps_19 : fw_G wsX9_steps RX9 19 RX9 TX9 24 5 := ⟨by decide +kernel, by decide +kernel, by decide⟩
theorem kX9_steps_77 : Cond.constant RX9 77 (-1000003) ∈ wsX9_steps := by decide +kernel
def P_Mod_steps_b51 (o : Nat) (K51 : fw_M → Int32 → Int32 → Int32 → Option (Int32 × fw_M)) (M : fw_M) (x1 : Int32) (x2 : Int32) (x3 : Int32) : Option (Int32 × fw_M) := (if x1 ≤ x3 then some (x2, M) else (P_Mod_keep o M).bind fun q2 => (P_Mod_step o (o + 4) q2).bind fun q3 => fw_pl ((x2 + q3.1)) fun y4 => K51 q3.2 x1 y4 (x3 + (1 : Int32)))
def P_Mod_steps_h51 (o : Nat) : Nat → fw_M → Int32 → Int32 → Int32 → Option (Int32 × fw_M)
  | 0, _, _, _, _ => none
  | n + 1, M, x1, x2, x3 => P_Mod_steps_b51 o (P_Mod_steps_h51 o n) M x1 x2 x3
def P_Mod_steps_b0 (o : Nat) (M : fw_M) (x1 : Int32) : Option (Int32 × fw_M) := fw_pl (fw_set M o 0 (0 : Int32)) fun M1 => (P_Mod_isThere o M1).bind fun v2 => (if v2 = (0 : Int32) then some ((-1000002 : Int32), M1) else (P_Mod_in M1 (Int32.toInt64 x1) (1 : Int64) (24 : Int64)).bind fun v4 => (if v4 = (0 : Int32) then some ((-1000001 : Int32), M1) else (fw_ald M1 (o + 4) 39 (3 : Int32)).bind fun v6 => (if (v6 + x1) ≤ (999 : Int32) then P_Mod_steps_h51 o fw_fu M1 x1 (0 : Int32) (0 : Int32) else some ((-1000003 : Int32), M1))))
def P_Mod_steps (o : Nat) (M : fw_M) (a0 : Int32) : Option (Int32 × fw_M) := P_Mod_steps_b0 o M a0
set_option maxRecDepth 100000 in
theorem c_Mod_steps_b51 {p : Program} {l : Launch} {e : Env} {s : State} {m : MethodId} {args : Array Value} {below : List Frame} {meth : Method} {c : Code} {D : va_G} {cI cZ cH cR : ClassId} {N : Nat} {ad : Nat → Nat} {EE : fw_M → Nat → va_E} {o : Nat} {K51 : fw_M → Int32 → Int32 → Int32 → Option (Int32 × fw_M)} {M : fw_M} {x1 : Int32} {x2 : Int32} {x3 : Int32} {z : (Int32 × fw_M)} (C : fw_C p s m args meth c cX9_steps RX9 wsX9_steps 4 (some .int) D vwCl (fw_tys cI cZ cH cR) N ad fw_nw0) (ho : o_Mod EE ad N cI cZ cH cR o) (hK51 : ∀ (Mk : fw_M) (kx1 : Int32) (kx2 : Int32) (kx3 : Int32), K51 Mk kx1 kx2 kx3 = some z → fw_J p l e (headSpec wsX9_steps rm_Mod_steps).room s m args below meth c D vwCl N ad EE 4 0 0 (fw_E below args s D vwCl N ad EE (some (.int z.1)) z.2) Mk [(0, .ref (ad o)), (1, .int kx1), (2, .int kx2), (3, .int kx3)] 51 []) (h : P_Mod_steps_b51 o K51 M x1 x2 x3 = some z) : fw_J p l e (headSpec wsX9_steps rm_Mod_steps).room s m args below meth c D vwCl N ad EE 4 0 0 (fw_E below args s D vwCl N ad EE (some (.int z.1)) z.2) M [(0, .ref (ad o)), (1, .int x1), (2, .int x2), (3, .int x3)] 51 [] := by
  unfold P_Mod_steps_b51 at h
  refine fw_iload_n (pc := 51) C 3 dX9_steps_51 rfl rfl ?_
  refine fw_iload_n (pc := 52) C 1 dX9_steps_52 rfl rfl ?_
  refine fw_icmp_ge (pc := 53) C (tgt := 77) dX9_steps_53 (by decide) (fun c1 => ?_) (fun c1 => ?_)
  · have h := fw_ift h c1
    refine fw_iload_n (pc := 77) C 2 dX9_steps_77 rfl rfl ?_
    exact fw_iret (pc := 78) C (fw_p1 h) (fw_p2 h) dX9_steps_78
  · have h := fw_iff h c1
    refine fw_aload_n (pc := 56) C 0 dX9_steps_56 rfl rfl ?_
    obtain ⟨q2, hq2, h⟩ := fw_bind h
    refine fw_callV0 (pc := 57) C (rest := []) (c_Mod_keep ho hq2) (cwV 0 C.2.2.2.2.1 gX9_steps_X9_keep rfl rfl rfl hd_Mod_keep ⟨Nat.le_of_ble_eq_true rfl, Nat.le_of_ble_eq_true rfl⟩) ho.1 rfl rfl ⟨Nat.zero_le _, Nat.zero_le _⟩ rfl (Nat.le_of_ble_eq_true rfl) dX9_steps_57 ?_
    refine fw_iload_n (pc := 60) C 2 dX9_steps_60 rfl rfl ?_
    refine fw_aload_n (pc := 61) C 0 dX9_steps_61 rfl rfl ?_
    refine fw_aload_n (pc := 62) C 0 dX9_steps_62 rfl rfl ?_
    refine fw_getr (pc := 63) C ho.2.2.2.2.2.2.1.1 rfl qX9_steps_19 dX9_steps_63 ?_
    obtain ⟨q3, hq3, h⟩ := fw_bind h
    refine fw_callV1 (pc := 66) C (rest := [_]) (c_Mod_step ho ho.2.2.2.2.2.2.1.2 hq3) (cwV 1 C.2.2.2.2.1 gX9_steps_X9_step rfl rfl rfl hd_Mod_step ⟨Nat.le_of_ble_eq_true rfl, Nat.le_of_ble_eq_true rfl⟩) ho.1 rfl rfl ⟨Nat.zero_le _, Nat.zero_le _⟩ rfl (Nat.le_of_ble_eq_true rfl) dX9_steps_66 ?_
    refine fw_iadd (pc := 69) C dX9_steps_69 ?_
    have h := fw_plh h
    refine fw_istore_n (pc := 70) C (L2 := [(0, .ref _), (1, .int _), (2, .int _), (3, .int _)]) [1, 2, 0, 3] dX9_steps_70 rfl (by decide) rfl ?_
    refine fw_iinc (pc := 71) C (v := 1) (L2 := [(0, .ref _), (1, .int _), (2, .int _), (3, .int _)]) 3 [1, 2, 3, 0] dX9_steps_71 rfl fk_iconst_1 (by decide) rfl ?_
    refine fw_goto (pc := 74) C (tgt := 51) dX9_steps_74 (by decide) ?_
    exact (hK51 _ _ _ _ h)
theorem c_Mod_steps_h51 {p : Program} {l : Launch} {e : Env} {s : State} {m : MethodId} {args : Array Value} {below : List Frame} {meth : Method} {c : Code} {D : va_G} {cI cZ cH cR : ClassId} {N : Nat} {ad : Nat → Nat} {EE : fw_M → Nat → va_E} {o : Nat} {z : (Int32 × fw_M)} (C : fw_C p s m args meth c cX9_steps RX9 wsX9_steps 4 (some .int) D vwCl (fw_tys cI cZ cH cR) N ad fw_nw0) (ho : o_Mod EE ad N cI cZ cH cR o) : ∀ (n : Nat) (M : fw_M) (x1 : Int32) (x2 : Int32) (x3 : Int32), P_Mod_steps_h51 o n M x1 x2 x3 = some z → fw_J p l e (headSpec wsX9_steps rm_Mod_steps).room s m args below meth c D vwCl N ad EE 4 0 0 (fw_E below args s D vwCl N ad EE (some (.int z.1)) z.2) M [(0, .ref (ad o)), (1, .int x1), (2, .int x2), (3, .int x3)] 51 [] := by
  intro n
  induction n with
  | zero => intro M x1 x2 x3  h; cases h
  | succ n ih => intro M x1 x2 x3  h; exact c_Mod_steps_b51 C ho ih  h
set_option maxRecDepth 100000 in
theorem c_Mod_steps_b0 {p : Program} {l : Launch} {e : Env} {s : State} {m : MethodId} {args : Array Value} {below : List Frame} {meth : Method} {c : Code} {D : va_G} {cI cZ cH cR : ClassId} {N : Nat} {ad : Nat → Nat} {EE : fw_M → Nat → va_E} {o : Nat} {M : fw_M} {x1 : Int32} {z : (Int32 × fw_M)} (C : fw_C p s m args meth c cX9_steps RX9 wsX9_steps 4 (some .int) D vwCl (fw_tys cI cZ cH cR) N ad fw_nw0) (ho : o_Mod EE ad N cI cZ cH cR o) (h : P_Mod_steps_b0 o M x1 = some z) : fw_J p l e (headSpec wsX9_steps rm_Mod_steps).room s m args below meth c D vwCl N ad EE 4 0 0 (fw_E below args s D vwCl N ad EE (some (.int z.1)) z.2) M [(0, .ref (ad o)), (1, .int x1)] 0 [] := by
  unfold P_Mod_steps_b0 at h
  refine fw_aload_n (pc := 0) C 0 dX9_steps_0 rfl rfl ?_
  refine fw_iconst (pc := 1) C (v := 0) dX9_steps_1 fk_iconst_0 ?_
  have h := fw_plh h
  refine fw_puti (pc := 2) C ho.2.1 rfl qX9_steps_47 tyX9 tyX9_ok nmX9 rfl rfl dX9_steps_2 ?_
  refine fw_aload_n (pc := 5) C 0 dX9_steps_5 rfl rfl ?_
  obtain ⟨v2, hv2, h⟩ := fw_bind h
  refine fw_callV1 (pc := 6) C (rest := []) (c_Mod_isThere ho hv2) (cwV 0 C.2.2.2.2.1 gX9_steps_X9_isThere rfl rfl rfl hd_Mod_isThere ⟨Nat.le_of_ble_eq_true rfl, Nat.le_of_ble_eq_true rfl⟩) ho.1 rfl rfl ⟨Nat.zero_le _, Nat.zero_le _⟩ rfl (Nat.le_of_ble_eq_true rfl) dX9_steps_6 ?_
  refine fw_if_ne (pc := 9) C (tgt := 15) dX9_steps_9 (by decide) (fun c3 => ?_) (fun c3 => ?_)
  · have h := fw_iff h c3
    refine fw_iload_n (pc := 15) C 1 dX9_steps_15 rfl rfl ?_
    refine fw_i2l (pc := 16) C dX9_steps_16 ?_
    refine fw_lconst (pc := 17) C (v := 1) dX9_steps_17 fk_lconst_1 ?_
    refine fw_ldc2 (pc := 18) C (v := 24) kX9_steps_188 dX9_steps_18 ?_
    obtain ⟨v4, hv4, h⟩ := fw_bind h
    refine fw_callS1 (pc := 21) C (rest := []) (c_Mod_in  hv4) (va_cwS 3 C.2.2.2.2.1 gX9_steps_X9_in rfl rfl rfl hd_Mod_in.2 ⟨Nat.le_of_ble_eq_true rfl, Nat.le_of_ble_eq_true rfl⟩) rfl ⟨Nat.zero_le _, Nat.zero_le _⟩ rfl (Nat.le_of_ble_eq_true rfl) dX9_steps_21 ?_
    refine fw_if_ne (pc := 24) C (tgt := 30) dX9_steps_24 (by decide) (fun c5 => ?_) (fun c5 => ?_)
    · have h := fw_iff h c5
      refine fw_aload_n (pc := 30) C 0 dX9_steps_30 rfl rfl ?_
      refine fw_getr (pc := 31) C ho.2.2.2.2.2.2.1.1 rfl qX9_steps_19 dX9_steps_31 ?_
      refine fw_iconst (pc := 34) C (v := 3) dX9_steps_34 fk_iconst_3 ?_
      obtain ⟨v6, hv6, h⟩ := fw_bind h
      refine fw_iald (pc := 35) C 0 ho.2.2.2.2.2.2.1.2 rfl hv6 dX9_steps_35 ?_
      refine fw_iload_n (pc := 36) C 1 dX9_steps_36 rfl rfl ?_
      refine fw_iadd (pc := 37) C dX9_steps_37 ?_
      refine fw_sipush (pc := 38) C (v := 999) dX9_steps_38 fk_sipush_999 ?_
      refine fw_icmp_le (pc := 41) C (tgt := 47) dX9_steps_41 (by decide) (fun c7 => ?_) (fun c7 => ?_)
      · have h := fw_ift h c7
        refine fw_iconst (pc := 47) C (v := 0) dX9_steps_47 fk_iconst_0 ?_
        refine fw_istore_n (pc := 48) C (L2 := [(0, .ref _), (1, .int _), (2, .int _)]) [1, 2, 0] dX9_steps_48 rfl (by decide) rfl ?_
        refine fw_iconst (pc := 49) C (v := 0) dX9_steps_49 fk_iconst_0 ?_
        refine fw_istore_n (pc := 50) C (L2 := [(0, .ref _), (1, .int _), (2, .int _), (3, .int _)]) [1, 2, 3, 0] dX9_steps_50 rfl (by decide) rfl ?_
        exact (c_Mod_steps_h51 C ho _ _ _ _ _ h)
      · have h := fw_iff h c7
        refine fw_ldc (pc := 44) C (v := -1000003) kX9_steps_77 dX9_steps_44 ?_
        exact fw_iret (pc := 46) C (fw_p1 h) (fw_p2 h) dX9_steps_46
    · have h := fw_ift h c5
      refine fw_ldc (pc := 27) C (v := -1000001) kX9_steps_67 dX9_steps_27 ?_
      exact fw_iret (pc := 29) C (fw_p1 h) (fw_p2 h) dX9_steps_29
  · have h := fw_ift h c3
    refine fw_ldc (pc := 12) C (v := -1000002) kX9_steps_187 dX9_steps_12 ?_
    exact fw_iret (pc := 14) C (fw_p1 h) (fw_p2 h) dX9_steps_14
theorem c_Mod_steps {l : Launch} {D : va_G} {cI cZ cH cR : ClassId} {N : Nat} {ad : Nat → Nat} {EE : fw_M → Nat → va_E} {o : Nat} {M : fw_M} {a0 : Int32} {z : (Int32 × fw_M)} (ho : o_Mod EE ad N cI cZ cH cR o) (h : P_Mod_steps o M a0 = some z) : fw_Met l yX9_steps wsX9_steps rm_Mod_steps D vwCl (fw_tys cI cZ cH cR) N ad fw_nw0 EE [.ref (ad o), .int a0] M (some (.int z.1)) z.2 := by
  unfold P_Mod_steps at h
  exact fw_intro (cc := cX9_steps) (maxL := 4) (ret := some .int) (own := RX9) (by decide) rfl rfl (Nat.le_of_ble_eq_true rfl) (fun p e s m args below meth c C => fw_sub [0, 1] rfl (c_Mod_steps_b0 C ho h))
abbrev rm_Mod_come : Room := { frames := 2, cells := 0, slots := 0, locals := 46 }
theorem hd_Mod_come : yX9_come.cls = RX9 ∧ yX9_come.cls ≠ "java/lang/invoke/MethodHandle" ∧ yX9_come.cls ≠ "java/lang/invoke/VarHandle" ∧ (parseMethodDescriptor yX9_come.desc).map (fun d => d.parameters.length) = some 2 := by decide +kernel
theorem qX9_come_47 : fw_G wsX9_come RX9 47 RX9 TX9 24 0 := ⟨by decide +kernel, by decide +kernel, by decide⟩
theorem qX9_come_19 : fw_G wsX9_come RX9 19 RX9 TX9 24 5 := ⟨by decide +kernel, by decide +kernel, by decide⟩
theorem kX9_come_187 : Cond.constant RX9 187 (-1000002) ∈ wsX9_come := by decide +kernel
theorem kX9_come_90 : Cond.constant RX9 90 (-1000000) ∈ wsX9_come := by decide +kernel
theorem kX9_come_67 : Cond.constant RX9 67 (-1000001) ∈ wsX9_come := by decide +kernel
def P_Mod_come_b21 (o : Nat) (M : fw_M) : Option (Int32 × fw_M) := some ((-1000001 : Int32), M)
def P_Mod_come_b69 (o : Nat) (M : fw_M) (t0 : Int32) : Option (Int32 × fw_M) := some (t0, M)
def P_Mod_come_b0 (o : Nat) (M : fw_M) (x1 : Int32) (x2 : Int32) : Option (Int32 × fw_M) := fw_pl (fw_set M o 0 (0 : Int32)) fun M1 => (P_Mod_isPerson o M1 x1).bind fun v2 => (if v2 = (0 : Int32) then P_Mod_come_b21 o M1 else (P_Mod_isDoor o M1 x2).bind fun v4 => (if v4 = (0 : Int32) then P_Mod_come_b21 o M1 else (P_Mod_of (o + 4) M1 x1 (3 : Int32)).bind fun v6 => (if v6 = x2 then some ((-1000002 : Int32), M1) else (P_Mod_keep o M1).bind fun q8 => (fw_ast q8 (o + 4) 39 (((4 : Int32) + ((5 : Int32) * x1)) + (3 : Int32)) x2).bind fun M9 => (if (0 : Int32) ≤ v6 then P_Mod_come_b69 o M9 v6 else P_Mod_come_b69 o M9 (-1000000 : Int32)))))
def P_Mod_come (o : Nat) (M : fw_M) (a0 : Int32) (a1 : Int32) : Option (Int32 × fw_M) := P_Mod_come_b0 o M a0 a1
set_option maxRecDepth 100000 in
theorem c_Mod_come_b21 {p : Program} {l : Launch} {e : Env} {s : State} {m : MethodId} {args : Array Value} {below : List Frame} {meth : Method} {c : Code} {D : va_G} {cI cZ cH cR : ClassId} {N : Nat} {ad : Nat → Nat} {EE : fw_M → Nat → va_E} {o : Nat} {M : fw_M} {z : (Int32 × fw_M)} (C : fw_C p s m args meth c cX9_come RX9 wsX9_come 4 (some .int) D vwCl (fw_tys cI cZ cH cR) N ad fw_nw0) (ho : o_Mod EE ad N cI cZ cH cR o) (h : P_Mod_come_b21 o M = some z) : fw_J p l e (headSpec wsX9_come rm_Mod_come).room s m args below meth c D vwCl N ad EE 4 0 0 (fw_E below args s D vwCl N ad EE (some (.int z.1)) z.2) M [] 21 [] := by
  unfold P_Mod_come_b21 at h
  refine fw_ldc (pc := 21) C (v := -1000001) kX9_come_67 dX9_come_21 ?_
  exact fw_iret (pc := 23) C (fw_p1 h) (fw_p2 h) dX9_come_23
set_option maxRecDepth 100000 in
theorem c_Mod_come_b69 {p : Program} {l : Launch} {e : Env} {s : State} {m : MethodId} {args : Array Value} {below : List Frame} {meth : Method} {c : Code} {D : va_G} {cI cZ cH cR : ClassId} {N : Nat} {ad : Nat → Nat} {EE : fw_M → Nat → va_E} {o : Nat} {M : fw_M} {t0 : Int32} {z : (Int32 × fw_M)} (C : fw_C p s m args meth c cX9_come RX9 wsX9_come 4 (some .int) D vwCl (fw_tys cI cZ cH cR) N ad fw_nw0) (ho : o_Mod EE ad N cI cZ cH cR o) (h : P_Mod_come_b69 o M t0 = some z) : fw_J p l e (headSpec wsX9_come rm_Mod_come).room s m args below meth c D vwCl N ad EE 4 0 0 (fw_E below args s D vwCl N ad EE (some (.int z.1)) z.2) M [] 69 [.int t0] := by
  unfold P_Mod_come_b69 at h
  exact fw_iret (pc := 69) C (fw_p1 h) (fw_p2 h) dX9_come_69
set_option maxRecDepth 100000 in
theorem c_Mod_come_b0 {p : Program} {l : Launch} {e : Env} {s : State} {m : MethodId} {args : Array Value} {below : List Frame} {meth : Method} {c : Code} {D : va_G} {cI cZ cH cR : ClassId} {N : Nat} {ad : Nat → Nat} {EE : fw_M → Nat → va_E} {o : Nat} {M : fw_M} {x1 : Int32} {x2 : Int32} {z : (Int32 × fw_M)} (C : fw_C p s m args meth c cX9_come RX9 wsX9_come 4 (some .int) D vwCl (fw_tys cI cZ cH cR) N ad fw_nw0) (ho : o_Mod EE ad N cI cZ cH cR o) (h : P_Mod_come_b0 o M x1 x2 = some z) : fw_J p l e (headSpec wsX9_come rm_Mod_come).room s m args below meth c D vwCl N ad EE 4 0 0 (fw_E below args s D vwCl N ad EE (some (.int z.1)) z.2) M [(0, .ref (ad o)), (1, .int x1), (2, .int x2)] 0 [] := by
  unfold P_Mod_come_b0 at h
  refine fw_aload_n (pc := 0) C 0 dX9_come_0 rfl rfl ?_
  refine fw_iconst (pc := 1) C (v := 0) dX9_come_1 fk_iconst_0 ?_
  have h := fw_plh h
  refine fw_puti (pc := 2) C ho.2.1 rfl qX9_come_47 tyX9 tyX9_ok nmX9 rfl rfl dX9_come_2 ?_
  refine fw_aload_n (pc := 5) C 0 dX9_come_5 rfl rfl ?_
  refine fw_iload_n (pc := 6) C 1 dX9_come_6 rfl rfl ?_
  obtain ⟨v2, hv2, h⟩ := fw_bind h
  refine fw_callV1 (pc := 7) C (rest := []) (c_Mod_isPerson ho hv2) (cwV 1 C.2.2.2.2.1 gX9_come_X9_isPerson rfl rfl rfl hd_Mod_isPerson ⟨Nat.le_of_ble_eq_true rfl, Nat.le_of_ble_eq_true rfl⟩) ho.1 rfl rfl ⟨Nat.zero_le _, Nat.zero_le _⟩ rfl (Nat.le_of_ble_eq_true rfl) dX9_come_7 ?_
  refine fw_if_eq (pc := 10) C (tgt := 21) dX9_come_10 (by decide) (fun c3 => ?_) (fun c3 => ?_)
  · have h := fw_ift h c3
    exact fw_sub [] rfl (c_Mod_come_b21 C ho h)
  · have h := fw_iff h c3
    refine fw_aload_n (pc := 13) C 0 dX9_come_13 rfl rfl ?_
    refine fw_iload_n (pc := 14) C 2 dX9_come_14 rfl rfl ?_
    obtain ⟨v4, hv4, h⟩ := fw_bind h
    refine fw_callV1 (pc := 15) C (rest := []) (c_Mod_isDoor ho hv4) (cwV 1 C.2.2.2.2.1 gX9_come_X9_isDoor rfl rfl rfl hd_Mod_isDoor ⟨Nat.le_of_ble_eq_true rfl, Nat.le_of_ble_eq_true rfl⟩) ho.1 rfl rfl ⟨Nat.zero_le _, Nat.zero_le _⟩ rfl (Nat.le_of_ble_eq_true rfl) dX9_come_15 ?_
    refine fw_if_ne (pc := 18) C (tgt := 24) dX9_come_18 (by decide) (fun c5 => ?_) (fun c5 => ?_)
    · have h := fw_iff h c5
      refine fw_aload_n (pc := 24) C 0 dX9_come_24 rfl rfl ?_
      refine fw_getr (pc := 25) C ho.2.2.2.2.2.2.1.1 rfl qX9_come_19 dX9_come_25 ?_
      refine fw_iload_n (pc := 28) C 1 dX9_come_28 rfl rfl ?_
      refine fw_iconst (pc := 29) C (v := 3) dX9_come_29 fk_iconst_3 ?_
      obtain ⟨v6, hv6, h⟩ := fw_bind h
      refine fw_callS1 (pc := 30) C (rest := []) (c_Mod_of ho.2.2.2.2.2.2.1.2 hv6) (va_cwS 3 C.2.2.2.2.1 gX9_come_X9_of rfl rfl rfl hd_Mod_of.2 ⟨Nat.le_of_ble_eq_true rfl, Nat.le_of_ble_eq_true rfl⟩) rfl ⟨Nat.zero_le _, Nat.zero_le _⟩ rfl (Nat.le_of_ble_eq_true rfl) dX9_come_30 ?_
      refine fw_istore_n (pc := 33) C (L2 := [(0, .ref _), (1, .int _), (2, .int _), (3, .int _)]) [1, 2, 3, 0] dX9_come_33 rfl (by decide) rfl ?_
      refine fw_iload_n (pc := 34) C 3 dX9_come_34 rfl rfl ?_
      refine fw_iload_n (pc := 35) C 2 dX9_come_35 rfl rfl ?_
      refine fw_icmp_ne (pc := 36) C (tgt := 42) dX9_come_36 (by decide) (fun c7 => ?_) (fun c7 => ?_)
      · have h := fw_iff h c7
        refine fw_aload_n (pc := 42) C 0 dX9_come_42 rfl rfl ?_
        obtain ⟨q8, hq8, h⟩ := fw_bind h
        refine fw_callV0 (pc := 43) C (rest := []) (c_Mod_keep ho hq8) (cwV 0 C.2.2.2.2.1 gX9_come_X9_keep rfl rfl rfl hd_Mod_keep ⟨Nat.le_of_ble_eq_true rfl, Nat.le_of_ble_eq_true rfl⟩) ho.1 rfl rfl ⟨Nat.zero_le _, Nat.zero_le _⟩ rfl (Nat.le_of_ble_eq_true rfl) dX9_come_43 ?_
        refine fw_aload_n (pc := 46) C 0 dX9_come_46 rfl rfl ?_
        refine fw_getr (pc := 47) C ho.2.2.2.2.2.2.1.1 rfl qX9_come_19 dX9_come_47 ?_
        refine fw_iconst (pc := 50) C (v := 4) dX9_come_50 fk_iconst_4 ?_
        refine fw_iconst (pc := 51) C (v := 5) dX9_come_51 fk_iconst_5 ?_
        refine fw_iload_n (pc := 52) C 1 dX9_come_52 rfl rfl ?_
        refine fw_imul (pc := 53) C dX9_come_53 ?_
        refine fw_iadd (pc := 54) C dX9_come_54 ?_
        refine fw_iconst (pc := 55) C (v := 3) dX9_come_55 fk_iconst_3 ?_
        refine fw_iadd (pc := 56) C dX9_come_56 ?_
        refine fw_iload_n (pc := 57) C 2 dX9_come_57 rfl rfl ?_
        obtain ⟨M9, hM9, h⟩ := fw_bind h
        refine fw_iast (pc := 58) C 0 ho.2.2.2.2.2.2.1.2 rfl hM9 dX9_come_58 ?_
        refine fw_iload_n (pc := 59) C 3 dX9_come_59 rfl rfl ?_
        refine fw_if_ge (pc := 60) C (tgt := 68) dX9_come_60 (by decide) (fun c10 => ?_) (fun c10 => ?_)
        · have h := fw_ift h c10
          refine fw_iload_n (pc := 68) C 3 dX9_come_68 rfl rfl ?_
          exact fw_sub [] rfl (c_Mod_come_b69 C ho h)
        · have h := fw_iff h c10
          refine fw_ldc (pc := 63) C (v := -1000000) kX9_come_90 dX9_come_63 ?_
          refine fw_goto (pc := 65) C (tgt := 69) dX9_come_65 (by decide) ?_
          exact fw_sub [] rfl (c_Mod_come_b69 C ho h)
      · have h := fw_ift h c7
        refine fw_ldc (pc := 39) C (v := -1000002) kX9_come_187 dX9_come_39 ?_
        exact fw_iret (pc := 41) C (fw_p1 h) (fw_p2 h) dX9_come_41
    · have h := fw_ift h c5
      exact fw_sub [] rfl (c_Mod_come_b21 C ho h)
theorem c_Mod_come {l : Launch} {D : va_G} {cI cZ cH cR : ClassId} {N : Nat} {ad : Nat → Nat} {EE : fw_M → Nat → va_E} {o : Nat} {M : fw_M} {a0 : Int32} {a1 : Int32} {z : (Int32 × fw_M)} (ho : o_Mod EE ad N cI cZ cH cR o) (h : P_Mod_come o M a0 a1 = some z) : fw_Met l yX9_come wsX9_come rm_Mod_come D vwCl (fw_tys cI cZ cH cR) N ad fw_nw0 EE [.ref (ad o), .int a0, .int a1] M (some (.int z.1)) z.2 := by
  unfold P_Mod_come at h
  exact fw_intro (cc := cX9_come) (maxL := 4) (ret := some .int) (own := RX9) (by decide) rfl rfl (Nat.le_of_ble_eq_true rfl) (fun p e s m args below meth c C => fw_sub [0, 1, 2] rfl (c_Mod_come_b0 C ho h))
abbrev rm_Mod_bow : Room := { frames := 2, cells := 0, slots := 0, locals := 46 }
theorem hd_Mod_bow : yX9_bow.cls = RX9 ∧ yX9_bow.cls ≠ "java/lang/invoke/MethodHandle" ∧ yX9_bow.cls ≠ "java/lang/invoke/VarHandle" ∧ (parseMethodDescriptor yX9_bow.desc).map (fun d => d.parameters.length) = some 1 := by decide +kernel
theorem qX9_bow_47 : fw_G wsX9_bow RX9 47 RX9 TX9 24 0 := ⟨by decide +kernel, by decide +kernel, by decide⟩
theorem kX9_bow_67 : Cond.constant RX9 67 (-1000001) ∈ wsX9_bow := by decide +kernel
theorem qX9_bow_19 : fw_G wsX9_bow RX9 19 RX9 TX9 24 5 := ⟨by decide +kernel, by decide +kernel, by decide⟩
theorem kX9_bow_187 : Cond.constant RX9 187 (-1000002) ∈ wsX9_bow := by decide +kernel
def P_Mod_bow_b0 (o : Nat) (M : fw_M) (x1 : Int32) : Option (Int32 × fw_M) := fw_pl (fw_set M o 0 (0 : Int32)) fun M1 => (P_Mod_isPerson o M1 x1).bind fun v2 => (if v2 = (0 : Int32) then some ((-1000001 : Int32), M1) else (P_Mod_of (o + 4) M1 x1 (3 : Int32)).bind fun v4 => (if (0 : Int32) ≤ v4 then (P_Mod_keep o M1).bind fun q6 => (fw_ald q6 (o + 4) 39 (1 : Int32)).bind fun v7 => (fw_ast q6 (o + 4) 39 (((4 : Int32) + ((5 : Int32) * x1)) + (4 : Int32)) v7).bind fun M8 => (P_Mod_nobodies (o + 4) M8).bind fun v9 => (P_Mod_bits M8 v9).bind fun v10 => some (v10, M8) else some ((-1000002 : Int32), M1)))
def P_Mod_bow (o : Nat) (M : fw_M) (a0 : Int32) : Option (Int32 × fw_M) := P_Mod_bow_b0 o M a0
set_option maxRecDepth 100000 in
theorem c_Mod_bow_b0 {p : Program} {l : Launch} {e : Env} {s : State} {m : MethodId} {args : Array Value} {below : List Frame} {meth : Method} {c : Code} {D : va_G} {cI cZ cH cR : ClassId} {N : Nat} {ad : Nat → Nat} {EE : fw_M → Nat → va_E} {o : Nat} {M : fw_M} {x1 : Int32} {z : (Int32 × fw_M)} (C : fw_C p s m args meth c cX9_bow RX9 wsX9_bow 2 (some .int) D vwCl (fw_tys cI cZ cH cR) N ad fw_nw0) (ho : o_Mod EE ad N cI cZ cH cR o) (h : P_Mod_bow_b0 o M x1 = some z) : fw_J p l e (headSpec wsX9_bow rm_Mod_bow).room s m args below meth c D vwCl N ad EE 2 0 0 (fw_E below args s D vwCl N ad EE (some (.int z.1)) z.2) M [(0, .ref (ad o)), (1, .int x1)] 0 [] := by
  unfold P_Mod_bow_b0 at h
  refine fw_aload_n (pc := 0) C 0 dX9_bow_0 rfl rfl ?_
  refine fw_iconst (pc := 1) C (v := 0) dX9_bow_1 fk_iconst_0 ?_
  have h := fw_plh h
  refine fw_puti (pc := 2) C ho.2.1 rfl qX9_bow_47 tyX9 tyX9_ok nmX9 rfl rfl dX9_bow_2 ?_
  refine fw_aload_n (pc := 5) C 0 dX9_bow_5 rfl rfl ?_
  refine fw_iload_n (pc := 6) C 1 dX9_bow_6 rfl rfl ?_
  obtain ⟨v2, hv2, h⟩ := fw_bind h
  refine fw_callV1 (pc := 7) C (rest := []) (c_Mod_isPerson ho hv2) (cwV 1 C.2.2.2.2.1 gX9_bow_X9_isPerson rfl rfl rfl hd_Mod_isPerson ⟨Nat.le_of_ble_eq_true rfl, Nat.le_of_ble_eq_true rfl⟩) ho.1 rfl rfl ⟨Nat.zero_le _, Nat.zero_le _⟩ rfl (Nat.le_of_ble_eq_true rfl) dX9_bow_7 ?_
  refine fw_if_ne (pc := 10) C (tgt := 16) dX9_bow_10 (by decide) (fun c3 => ?_) (fun c3 => ?_)
  · have h := fw_iff h c3
    refine fw_aload_n (pc := 16) C 0 dX9_bow_16 rfl rfl ?_
    refine fw_getr (pc := 17) C ho.2.2.2.2.2.2.1.1 rfl qX9_bow_19 dX9_bow_17 ?_
    refine fw_iload_n (pc := 20) C 1 dX9_bow_20 rfl rfl ?_
    refine fw_iconst (pc := 21) C (v := 3) dX9_bow_21 fk_iconst_3 ?_
    obtain ⟨v4, hv4, h⟩ := fw_bind h
    refine fw_callS1 (pc := 22) C (rest := []) (c_Mod_of ho.2.2.2.2.2.2.1.2 hv4) (va_cwS 3 C.2.2.2.2.1 gX9_bow_X9_of rfl rfl rfl hd_Mod_of.2 ⟨Nat.le_of_ble_eq_true rfl, Nat.le_of_ble_eq_true rfl⟩) rfl ⟨Nat.zero_le _, Nat.zero_le _⟩ rfl (Nat.le_of_ble_eq_true rfl) dX9_bow_22 ?_
    refine fw_if_ge (pc := 25) C (tgt := 31) dX9_bow_25 (by decide) (fun c5 => ?_) (fun c5 => ?_)
    · have h := fw_ift h c5
      refine fw_aload_n (pc := 31) C 0 dX9_bow_31 rfl rfl ?_
      obtain ⟨q6, hq6, h⟩ := fw_bind h
      refine fw_callV0 (pc := 32) C (rest := []) (c_Mod_keep ho hq6) (cwV 0 C.2.2.2.2.1 gX9_bow_X9_keep rfl rfl rfl hd_Mod_keep ⟨Nat.le_of_ble_eq_true rfl, Nat.le_of_ble_eq_true rfl⟩) ho.1 rfl rfl ⟨Nat.zero_le _, Nat.zero_le _⟩ rfl (Nat.le_of_ble_eq_true rfl) dX9_bow_32 ?_
      refine fw_aload_n (pc := 35) C 0 dX9_bow_35 rfl rfl ?_
      refine fw_getr (pc := 36) C ho.2.2.2.2.2.2.1.1 rfl qX9_bow_19 dX9_bow_36 ?_
      refine fw_iconst (pc := 39) C (v := 4) dX9_bow_39 fk_iconst_4 ?_
      refine fw_iconst (pc := 40) C (v := 5) dX9_bow_40 fk_iconst_5 ?_
      refine fw_iload_n (pc := 41) C 1 dX9_bow_41 rfl rfl ?_
      refine fw_imul (pc := 42) C dX9_bow_42 ?_
      refine fw_iadd (pc := 43) C dX9_bow_43 ?_
      refine fw_iconst (pc := 44) C (v := 4) dX9_bow_44 fk_iconst_4 ?_
      refine fw_iadd (pc := 45) C dX9_bow_45 ?_
      refine fw_aload_n (pc := 46) C 0 dX9_bow_46 rfl rfl ?_
      refine fw_getr (pc := 47) C ho.2.2.2.2.2.2.1.1 rfl qX9_bow_19 dX9_bow_47 ?_
      refine fw_iconst (pc := 50) C (v := 1) dX9_bow_50 fk_iconst_1 ?_
      obtain ⟨v7, hv7, h⟩ := fw_bind h
      refine fw_iald (pc := 51) C 0 ho.2.2.2.2.2.2.1.2 rfl hv7 dX9_bow_51 ?_
      obtain ⟨M8, hM8, h⟩ := fw_bind h
      refine fw_iast (pc := 52) C 0 ho.2.2.2.2.2.2.1.2 rfl hM8 dX9_bow_52 ?_
      refine fw_aload_n (pc := 53) C 0 dX9_bow_53 rfl rfl ?_
      refine fw_getr (pc := 54) C ho.2.2.2.2.2.2.1.1 rfl qX9_bow_19 dX9_bow_54 ?_
      obtain ⟨v9, hv9, h⟩ := fw_bind h
      refine fw_callS1 (pc := 57) C (rest := []) (c_Mod_nobodies ho.2.2.2.2.2.2.1.2 hv9) (va_cwS 1 C.2.2.2.2.1 gX9_bow_X9_nobodies rfl rfl rfl hd_Mod_nobodies.2 ⟨Nat.le_of_ble_eq_true rfl, Nat.le_of_ble_eq_true rfl⟩) rfl ⟨Nat.zero_le _, Nat.zero_le _⟩ rfl (Nat.le_of_ble_eq_true rfl) dX9_bow_57 ?_
      obtain ⟨v10, hv10, h⟩ := fw_bind h
      refine fw_callS1 (pc := 60) C (rest := []) (c_Mod_bits  hv10) (va_cwS 1 C.2.2.2.2.1 gX9_bow_X9_bits rfl rfl rfl hd_Mod_bits.2 ⟨Nat.le_of_ble_eq_true rfl, Nat.le_of_ble_eq_true rfl⟩) rfl ⟨Nat.zero_le _, Nat.zero_le _⟩ rfl (Nat.le_of_ble_eq_true rfl) dX9_bow_60 ?_
      exact fw_iret (pc := 63) C (fw_p1 h) (fw_p2 h) dX9_bow_63
    · have h := fw_iff h c5
      refine fw_ldc (pc := 28) C (v := -1000002) kX9_bow_187 dX9_bow_28 ?_
      exact fw_iret (pc := 30) C (fw_p1 h) (fw_p2 h) dX9_bow_30
  · have h := fw_ift h c3
    refine fw_ldc (pc := 13) C (v := -1000001) kX9_bow_67 dX9_bow_13 ?_
    exact fw_iret (pc := 15) C (fw_p1 h) (fw_p2 h) dX9_bow_15
theorem c_Mod_bow {l : Launch} {D : va_G} {cI cZ cH cR : ClassId} {N : Nat} {ad : Nat → Nat} {EE : fw_M → Nat → va_E} {o : Nat} {M : fw_M} {a0 : Int32} {z : (Int32 × fw_M)} (ho : o_Mod EE ad N cI cZ cH cR o) (h : P_Mod_bow o M a0 = some z) : fw_Met l yX9_bow wsX9_bow rm_Mod_bow D vwCl (fw_tys cI cZ cH cR) N ad fw_nw0 EE [.ref (ad o), .int a0] M (some (.int z.1)) z.2 := by
  unfold P_Mod_bow at h
  exact fw_intro (cc := cX9_bow) (maxL := 2) (ret := some .int) (own := RX9) (by decide) rfl rfl (Nat.le_of_ble_eq_true rfl) (fun p e s m args below meth c C => fw_sub [0, 1] rfl (c_Mod_bow_b0 C ho h))
abbrev rm_Mod_revise : Room := { frames := 2, cells := 0, slots := 0, locals := 46 }
theorem hd_Mod_revise : yX9_revise.cls = RX9 ∧ yX9_revise.cls ≠ "java/lang/invoke/MethodHandle" ∧ yX9_revise.cls ≠ "java/lang/invoke/VarHandle" ∧ (parseMethodDescriptor yX9_revise.desc).map (fun d => d.parameters.length) = some 3 := by decide +kernel
theorem qX9_revise_47 : fw_G wsX9_revise RX9 47 RX9 TX9 24 0 := ⟨by decide +kernel, by decide +kernel, by decide⟩
theorem kX9_revise_202 : Cond.constantLong RX9 202 (9) ∈ wsX9_revise := by decide +kernel
theorem qX9_revise_19 : fw_G wsX9_revise RX9 19 RX9 TX9 24 5 := ⟨by decide +kernel, by decide +kernel, by decide⟩
theorem kX9_revise_67 : Cond.constant RX9 67 (-1000001) ∈ wsX9_revise := by decide +kernel
def P_Mod_revise_b35 (o : Nat) (M : fw_M) : Option (Int32 × fw_M) := some ((-1000001 : Int32), M)
def P_Mod_revise_b0 (o : Nat) (M : fw_M) (x1 : Int32) (x2 : Int32) (x3 : Int32) : Option (Int32 × fw_M) := fw_pl (fw_set M o 0 (0 : Int32)) fun M1 => (P_Mod_isPerson o M1 x1).bind fun v2 => (if v2 = (0 : Int32) then P_Mod_revise_b35 o M1 else (P_Mod_in M1 (Int32.toInt64 x2) (0 : Int64) (1 : Int64)).bind fun v4 => (if v4 = (0 : Int32) then P_Mod_revise_b35 o M1 else (P_Mod_in M1 (Int32.toInt64 x3) (0 : Int64) (9 : Int64)).bind fun v6 => (if v6 = (0 : Int32) then P_Mod_revise_b35 o M1 else (P_Mod_keep o M1).bind fun q8 => (P_Mod_of (o + 4) q8 x1 ((1 : Int32) + x2)).bind fun v9 => (fw_ast q8 (o + 4) 39 ((((4 : Int32) + ((5 : Int32) * x1)) + (1 : Int32)) + x2) x3).bind fun M10 => some (v9, M10))))
def P_Mod_revise (o : Nat) (M : fw_M) (a0 : Int32) (a1 : Int32) (a2 : Int32) : Option (Int32 × fw_M) := P_Mod_revise_b0 o M a0 a1 a2
set_option maxRecDepth 100000 in
theorem c_Mod_revise_b35 {p : Program} {l : Launch} {e : Env} {s : State} {m : MethodId} {args : Array Value} {below : List Frame} {meth : Method} {c : Code} {D : va_G} {cI cZ cH cR : ClassId} {N : Nat} {ad : Nat → Nat} {EE : fw_M → Nat → va_E} {o : Nat} {M : fw_M} {z : (Int32 × fw_M)} (C : fw_C p s m args meth c cX9_revise RX9 wsX9_revise 5 (some .int) D vwCl (fw_tys cI cZ cH cR) N ad fw_nw0) (ho : o_Mod EE ad N cI cZ cH cR o) (h : P_Mod_revise_b35 o M = some z) : fw_J p l e (headSpec wsX9_revise rm_Mod_revise).room s m args below meth c D vwCl N ad EE 5 0 0 (fw_E below args s D vwCl N ad EE (some (.int z.1)) z.2) M [] 35 [] := by
  unfold P_Mod_revise_b35 at h
  refine fw_ldc (pc := 35) C (v := -1000001) kX9_revise_67 dX9_revise_35 ?_
  exact fw_iret (pc := 37) C (fw_p1 h) (fw_p2 h) dX9_revise_37
set_option maxRecDepth 100000 in
theorem c_Mod_revise_b0 {p : Program} {l : Launch} {e : Env} {s : State} {m : MethodId} {args : Array Value} {below : List Frame} {meth : Method} {c : Code} {D : va_G} {cI cZ cH cR : ClassId} {N : Nat} {ad : Nat → Nat} {EE : fw_M → Nat → va_E} {o : Nat} {M : fw_M} {x1 : Int32} {x2 : Int32} {x3 : Int32} {z : (Int32 × fw_M)} (C : fw_C p s m args meth c cX9_revise RX9 wsX9_revise 5 (some .int) D vwCl (fw_tys cI cZ cH cR) N ad fw_nw0) (ho : o_Mod EE ad N cI cZ cH cR o) (h : P_Mod_revise_b0 o M x1 x2 x3 = some z) : fw_J p l e (headSpec wsX9_revise rm_Mod_revise).room s m args below meth c D vwCl N ad EE 5 0 0 (fw_E below args s D vwCl N ad EE (some (.int z.1)) z.2) M [(0, .ref (ad o)), (1, .int x1), (2, .int x2), (3, .int x3)] 0 [] := by
  unfold P_Mod_revise_b0 at h
  refine fw_aload_n (pc := 0) C 0 dX9_revise_0 rfl rfl ?_
  refine fw_iconst (pc := 1) C (v := 0) dX9_revise_1 fk_iconst_0 ?_
  have h := fw_plh h
  refine fw_puti (pc := 2) C ho.2.1 rfl qX9_revise_47 tyX9 tyX9_ok nmX9 rfl rfl dX9_revise_2 ?_
  refine fw_aload_n (pc := 5) C 0 dX9_revise_5 rfl rfl ?_
  refine fw_iload_n (pc := 6) C 1 dX9_revise_6 rfl rfl ?_
  obtain ⟨v2, hv2, h⟩ := fw_bind h
  refine fw_callV1 (pc := 7) C (rest := []) (c_Mod_isPerson ho hv2) (cwV 1 C.2.2.2.2.1 gX9_revise_X9_isPerson rfl rfl rfl hd_Mod_isPerson ⟨Nat.le_of_ble_eq_true rfl, Nat.le_of_ble_eq_true rfl⟩) ho.1 rfl rfl ⟨Nat.zero_le _, Nat.zero_le _⟩ rfl (Nat.le_of_ble_eq_true rfl) dX9_revise_7 ?_
  refine fw_if_eq (pc := 10) C (tgt := 35) dX9_revise_10 (by decide) (fun c3 => ?_) (fun c3 => ?_)
  · have h := fw_ift h c3
    exact fw_sub [] rfl (c_Mod_revise_b35 C ho h)
  · have h := fw_iff h c3
    refine fw_iload_n (pc := 13) C 2 dX9_revise_13 rfl rfl ?_
    refine fw_i2l (pc := 14) C dX9_revise_14 ?_
    refine fw_lconst (pc := 15) C (v := 0) dX9_revise_15 fk_lconst_0 ?_
    refine fw_lconst (pc := 16) C (v := 1) dX9_revise_16 fk_lconst_1 ?_
    obtain ⟨v4, hv4, h⟩ := fw_bind h
    refine fw_callS1 (pc := 17) C (rest := []) (c_Mod_in  hv4) (va_cwS 3 C.2.2.2.2.1 gX9_revise_X9_in rfl rfl rfl hd_Mod_in.2 ⟨Nat.le_of_ble_eq_true rfl, Nat.le_of_ble_eq_true rfl⟩) rfl ⟨Nat.zero_le _, Nat.zero_le _⟩ rfl (Nat.le_of_ble_eq_true rfl) dX9_revise_17 ?_
    refine fw_if_eq (pc := 20) C (tgt := 35) dX9_revise_20 (by decide) (fun c5 => ?_) (fun c5 => ?_)
    · have h := fw_ift h c5
      exact fw_sub [] rfl (c_Mod_revise_b35 C ho h)
    · have h := fw_iff h c5
      refine fw_iload_n (pc := 23) C 3 dX9_revise_23 rfl rfl ?_
      refine fw_i2l (pc := 24) C dX9_revise_24 ?_
      refine fw_lconst (pc := 25) C (v := 0) dX9_revise_25 fk_lconst_0 ?_
      refine fw_ldc2 (pc := 26) C (v := 9) kX9_revise_202 dX9_revise_26 ?_
      obtain ⟨v6, hv6, h⟩ := fw_bind h
      refine fw_callS1 (pc := 29) C (rest := []) (c_Mod_in  hv6) (va_cwS 3 C.2.2.2.2.1 gX9_revise_X9_in rfl rfl rfl hd_Mod_in.2 ⟨Nat.le_of_ble_eq_true rfl, Nat.le_of_ble_eq_true rfl⟩) rfl ⟨Nat.zero_le _, Nat.zero_le _⟩ rfl (Nat.le_of_ble_eq_true rfl) dX9_revise_29 ?_
      refine fw_if_ne (pc := 32) C (tgt := 38) dX9_revise_32 (by decide) (fun c7 => ?_) (fun c7 => ?_)
      · have h := fw_iff h c7
        refine fw_aload_n (pc := 38) C 0 dX9_revise_38 rfl rfl ?_
        obtain ⟨q8, hq8, h⟩ := fw_bind h
        refine fw_callV0 (pc := 39) C (rest := []) (c_Mod_keep ho hq8) (cwV 0 C.2.2.2.2.1 gX9_revise_X9_keep rfl rfl rfl hd_Mod_keep ⟨Nat.le_of_ble_eq_true rfl, Nat.le_of_ble_eq_true rfl⟩) ho.1 rfl rfl ⟨Nat.zero_le _, Nat.zero_le _⟩ rfl (Nat.le_of_ble_eq_true rfl) dX9_revise_39 ?_
        refine fw_aload_n (pc := 42) C 0 dX9_revise_42 rfl rfl ?_
        refine fw_getr (pc := 43) C ho.2.2.2.2.2.2.1.1 rfl qX9_revise_19 dX9_revise_43 ?_
        refine fw_iload_n (pc := 46) C 1 dX9_revise_46 rfl rfl ?_
        refine fw_iconst (pc := 47) C (v := 1) dX9_revise_47 fk_iconst_1 ?_
        refine fw_iload_n (pc := 48) C 2 dX9_revise_48 rfl rfl ?_
        refine fw_iadd (pc := 49) C dX9_revise_49 ?_
        obtain ⟨v9, hv9, h⟩ := fw_bind h
        refine fw_callS1 (pc := 50) C (rest := []) (c_Mod_of ho.2.2.2.2.2.2.1.2 hv9) (va_cwS 3 C.2.2.2.2.1 gX9_revise_X9_of rfl rfl rfl hd_Mod_of.2 ⟨Nat.le_of_ble_eq_true rfl, Nat.le_of_ble_eq_true rfl⟩) rfl ⟨Nat.zero_le _, Nat.zero_le _⟩ rfl (Nat.le_of_ble_eq_true rfl) dX9_revise_50 ?_
        refine fw_istore (pc := 53) C (L2 := [(0, .ref _), (1, .int _), (2, .int _), (3, .int _), (4, .int _)]) [1, 2, 3, 4, 0] dX9_revise_53 (by decide) rfl ?_
        refine fw_aload_n (pc := 55) C 0 dX9_revise_55 rfl rfl ?_
        refine fw_getr (pc := 56) C ho.2.2.2.2.2.2.1.1 rfl qX9_revise_19 dX9_revise_56 ?_
        refine fw_iconst (pc := 59) C (v := 4) dX9_revise_59 fk_iconst_4 ?_
        refine fw_iconst (pc := 60) C (v := 5) dX9_revise_60 fk_iconst_5 ?_
        refine fw_iload_n (pc := 61) C 1 dX9_revise_61 rfl rfl ?_
        refine fw_imul (pc := 62) C dX9_revise_62 ?_
        refine fw_iadd (pc := 63) C dX9_revise_63 ?_
        refine fw_iconst (pc := 64) C (v := 1) dX9_revise_64 fk_iconst_1 ?_
        refine fw_iadd (pc := 65) C dX9_revise_65 ?_
        refine fw_iload_n (pc := 66) C 2 dX9_revise_66 rfl rfl ?_
        refine fw_iadd (pc := 67) C dX9_revise_67 ?_
        refine fw_iload_n (pc := 68) C 3 dX9_revise_68 rfl rfl ?_
        obtain ⟨M10, hM10, h⟩ := fw_bind h
        refine fw_iast (pc := 69) C 0 ho.2.2.2.2.2.2.1.2 rfl hM10 dX9_revise_69 ?_
        refine fw_iload (pc := 70) C 4 dX9_revise_70 rfl ?_
        exact fw_iret (pc := 72) C (fw_p1 h) (fw_p2 h) dX9_revise_72
      · have h := fw_ift h c7
        exact fw_sub [] rfl (c_Mod_revise_b35 C ho h)
theorem c_Mod_revise {l : Launch} {D : va_G} {cI cZ cH cR : ClassId} {N : Nat} {ad : Nat → Nat} {EE : fw_M → Nat → va_E} {o : Nat} {M : fw_M} {a0 : Int32} {a1 : Int32} {a2 : Int32} {z : (Int32 × fw_M)} (ho : o_Mod EE ad N cI cZ cH cR o) (h : P_Mod_revise o M a0 a1 a2 = some z) : fw_Met l yX9_revise wsX9_revise rm_Mod_revise D vwCl (fw_tys cI cZ cH cR) N ad fw_nw0 EE [.ref (ad o), .int a0, .int a1, .int a2] M (some (.int z.1)) z.2 := by
  unfold P_Mod_revise at h
  exact fw_intro (cc := cX9_revise) (maxL := 5) (ret := some .int) (own := RX9) (by decide) rfl rfl (Nat.le_of_ble_eq_true rfl) (fun p e s m args below meth c C => fw_sub [0, 1, 2, 3] rfl (c_Mod_revise_b0 C ho h))
abbrev rm_Mod_undo : Room := { frames := 0, cells := 0, slots := 0, locals := 0 }
theorem hd_Mod_undo : yX9_undo.cls = RX9 ∧ yX9_undo.cls ≠ "java/lang/invoke/MethodHandle" ∧ yX9_undo.cls ≠ "java/lang/invoke/VarHandle" ∧ (parseMethodDescriptor yX9_undo.desc).map (fun d => d.parameters.length) = some 0 := by decide +kernel
theorem qX9_undo_47 : fw_G wsX9_undo RX9 47 RX9 TX9 24 0 := ⟨by decide +kernel, by decide +kernel, by decide⟩
theorem qX9_undo_146 : fw_G wsX9_undo RX9 146 RX9 TX9 24 9 := ⟨by decide +kernel, by decide +kernel, by decide⟩
theorem kX9_undo_187 : Cond.constant RX9 187 (-1000002) ∈ wsX9_undo := by decide +kernel
theorem qX9_undo_19 : fw_G wsX9_undo RX9 19 RX9 TX9 24 5 := ⟨by decide +kernel, by decide +kernel, by decide⟩
theorem qX9_undo_28 : fw_G wsX9_undo RX9 28 RX9 TX9 24 8 := ⟨by decide +kernel, by decide +kernel, by decide⟩
def P_Mod_undo_b27 (o : Nat) (K27 : fw_M → Int32 → Option (Int32 × fw_M)) (M : fw_M) (x1 : Int32) : Option (Int32 × fw_M) := (if (39 : Int32) ≤ x1 then some ((M o 9), M) else (fw_ald M (o + 7) 936 (((39 : Int32) * (M o 9)) + x1)).bind fun v2 => (fw_ast M (o + 4) 39 x1 v2).bind fun M3 => K27 M3 (x1 + (1 : Int32)))
def P_Mod_undo_h27 (o : Nat) : Nat → fw_M → Int32 → Option (Int32 × fw_M)
  | 0, _, _ => none
  | n + 1, M, x1 => P_Mod_undo_b27 o (P_Mod_undo_h27 o n) M x1
def P_Mod_undo_b0 (o : Nat) (M : fw_M) : Option (Int32 × fw_M) := fw_pl (fw_set M o 0 (0 : Int32)) fun M1 => (if (M1 o 9) = (0 : Int32) then some ((-1000002 : Int32), M1) else fw_pl (fw_set M1 o 9 ((M1 o 9) - (1 : Int32))) fun M3 => P_Mod_undo_h27 o fw_fu M3 (0 : Int32))
def P_Mod_undo (o : Nat) (M : fw_M) : Option (Int32 × fw_M) := P_Mod_undo_b0 o M
set_option maxRecDepth 100000 in
theorem c_Mod_undo_b27 {p : Program} {l : Launch} {e : Env} {s : State} {m : MethodId} {args : Array Value} {below : List Frame} {meth : Method} {c : Code} {D : va_G} {cI cZ cH cR : ClassId} {N : Nat} {ad : Nat → Nat} {EE : fw_M → Nat → va_E} {o : Nat} {K27 : fw_M → Int32 → Option (Int32 × fw_M)} {M : fw_M} {x1 : Int32} {z : (Int32 × fw_M)} (C : fw_C p s m args meth c cX9_undo RX9 wsX9_undo 2 (some .int) D vwCl (fw_tys cI cZ cH cR) N ad fw_nw0) (ho : o_Mod EE ad N cI cZ cH cR o) (hK27 : ∀ (Mk : fw_M) (kx1 : Int32), K27 Mk kx1 = some z → fw_J p l e (headSpec wsX9_undo rm_Mod_undo).room s m args below meth c D vwCl N ad EE 2 0 0 (fw_E below args s D vwCl N ad EE (some (.int z.1)) z.2) Mk [(0, .ref (ad o)), (1, .int kx1)] 27 []) (h : P_Mod_undo_b27 o K27 M x1 = some z) : fw_J p l e (headSpec wsX9_undo rm_Mod_undo).room s m args below meth c D vwCl N ad EE 2 0 0 (fw_E below args s D vwCl N ad EE (some (.int z.1)) z.2) M [(0, .ref (ad o)), (1, .int x1)] 27 [] := by
  unfold P_Mod_undo_b27 at h
  refine fw_iload_n (pc := 27) C 1 dX9_undo_27 rfl rfl ?_
  refine fw_bipush (pc := 28) C (v := 39) dX9_undo_28 fk_bipush_39 ?_
  refine fw_icmp_ge (pc := 30) C (tgt := 59) dX9_undo_30 (by decide) (fun c1 => ?_) (fun c1 => ?_)
  · have h := fw_ift h c1
    refine fw_aload_n (pc := 59) C 0 dX9_undo_59 rfl rfl ?_
    refine fw_geti (pc := 60) C ho.2.2.2.2.2.2.2.2.2.2.1 rfl qX9_undo_146 dX9_undo_60 ?_
    exact fw_iret (pc := 63) C (fw_p1 h) (fw_p2 h) dX9_undo_63
  · have h := fw_iff h c1
    refine fw_aload_n (pc := 33) C 0 dX9_undo_33 rfl rfl ?_
    refine fw_getr (pc := 34) C ho.2.2.2.2.2.2.1.1 rfl qX9_undo_19 dX9_undo_34 ?_
    refine fw_iload_n (pc := 37) C 1 dX9_undo_37 rfl rfl ?_
    refine fw_aload_n (pc := 38) C 0 dX9_undo_38 rfl rfl ?_
    refine fw_getr (pc := 39) C ho.2.2.2.2.2.2.2.2.2.1.1 rfl qX9_undo_28 dX9_undo_39 ?_
    refine fw_bipush (pc := 42) C (v := 39) dX9_undo_42 fk_bipush_39 ?_
    refine fw_aload_n (pc := 44) C 0 dX9_undo_44 rfl rfl ?_
    refine fw_geti (pc := 45) C ho.2.2.2.2.2.2.2.2.2.2.1 rfl qX9_undo_146 dX9_undo_45 ?_
    refine fw_imul (pc := 48) C dX9_undo_48 ?_
    refine fw_iload_n (pc := 49) C 1 dX9_undo_49 rfl rfl ?_
    refine fw_iadd (pc := 50) C dX9_undo_50 ?_
    obtain ⟨v2, hv2, h⟩ := fw_bind h
    refine fw_iald (pc := 51) C 0 ho.2.2.2.2.2.2.2.2.2.1.2 rfl hv2 dX9_undo_51 ?_
    obtain ⟨M3, hM3, h⟩ := fw_bind h
    refine fw_iast (pc := 52) C 0 ho.2.2.2.2.2.2.1.2 rfl hM3 dX9_undo_52 ?_
    refine fw_iinc (pc := 53) C (v := 1) (L2 := [(0, .ref _), (1, .int _)]) 1 [1, 0] dX9_undo_53 rfl fk_iconst_1 (by decide) rfl ?_
    refine fw_goto (pc := 56) C (tgt := 27) dX9_undo_56 (by decide) ?_
    exact (hK27 _ _ h)
theorem c_Mod_undo_h27 {p : Program} {l : Launch} {e : Env} {s : State} {m : MethodId} {args : Array Value} {below : List Frame} {meth : Method} {c : Code} {D : va_G} {cI cZ cH cR : ClassId} {N : Nat} {ad : Nat → Nat} {EE : fw_M → Nat → va_E} {o : Nat} {z : (Int32 × fw_M)} (C : fw_C p s m args meth c cX9_undo RX9 wsX9_undo 2 (some .int) D vwCl (fw_tys cI cZ cH cR) N ad fw_nw0) (ho : o_Mod EE ad N cI cZ cH cR o) : ∀ (n : Nat) (M : fw_M) (x1 : Int32), P_Mod_undo_h27 o n M x1 = some z → fw_J p l e (headSpec wsX9_undo rm_Mod_undo).room s m args below meth c D vwCl N ad EE 2 0 0 (fw_E below args s D vwCl N ad EE (some (.int z.1)) z.2) M [(0, .ref (ad o)), (1, .int x1)] 27 [] := by
  intro n
  induction n with
  | zero => intro M x1  h; cases h
  | succ n ih => intro M x1  h; exact c_Mod_undo_b27 C ho ih  h
set_option maxRecDepth 100000 in
theorem c_Mod_undo_b0 {p : Program} {l : Launch} {e : Env} {s : State} {m : MethodId} {args : Array Value} {below : List Frame} {meth : Method} {c : Code} {D : va_G} {cI cZ cH cR : ClassId} {N : Nat} {ad : Nat → Nat} {EE : fw_M → Nat → va_E} {o : Nat} {M : fw_M} {z : (Int32 × fw_M)} (C : fw_C p s m args meth c cX9_undo RX9 wsX9_undo 2 (some .int) D vwCl (fw_tys cI cZ cH cR) N ad fw_nw0) (ho : o_Mod EE ad N cI cZ cH cR o) (h : P_Mod_undo_b0 o M = some z) : fw_J p l e (headSpec wsX9_undo rm_Mod_undo).room s m args below meth c D vwCl N ad EE 2 0 0 (fw_E below args s D vwCl N ad EE (some (.int z.1)) z.2) M [(0, .ref (ad o))] 0 [] := by
  unfold P_Mod_undo_b0 at h
  refine fw_aload_n (pc := 0) C 0 dX9_undo_0 rfl rfl ?_
  refine fw_iconst (pc := 1) C (v := 0) dX9_undo_1 fk_iconst_0 ?_
  have h := fw_plh h
  refine fw_puti (pc := 2) C ho.2.1 rfl qX9_undo_47 tyX9 tyX9_ok nmX9 rfl rfl dX9_undo_2 ?_
  refine fw_aload_n (pc := 5) C 0 dX9_undo_5 rfl rfl ?_
  refine fw_geti (pc := 6) C ho.2.2.2.2.2.2.2.2.2.2.1 rfl qX9_undo_146 dX9_undo_6 ?_
  refine fw_if_ne (pc := 9) C (tgt := 15) dX9_undo_9 (by decide) (fun c2 => ?_) (fun c2 => ?_)
  · have h := fw_iff h c2
    refine fw_aload_n (pc := 15) C 0 dX9_undo_15 rfl rfl ?_
    refine fw_dup (pc := 16) C dX9_undo_16 rfl ?_
    refine fw_geti (pc := 17) C ho.2.2.2.2.2.2.2.2.2.2.1 rfl qX9_undo_146 dX9_undo_17 ?_
    refine fw_iconst (pc := 20) C (v := 1) dX9_undo_20 fk_iconst_1 ?_
    refine fw_isub (pc := 21) C dX9_undo_21 ?_
    have h := fw_plh h
    refine fw_puti (pc := 22) C ho.2.2.2.2.2.2.2.2.2.2.1 rfl qX9_undo_146 tyX9 tyX9_ok nmX9 rfl rfl dX9_undo_22 ?_
    refine fw_iconst (pc := 25) C (v := 0) dX9_undo_25 fk_iconst_0 ?_
    refine fw_istore_n (pc := 26) C (L2 := [(0, .ref _), (1, .int _)]) [1, 0] dX9_undo_26 rfl (by decide) rfl ?_
    exact (c_Mod_undo_h27 C ho _ _ _ h)
  · have h := fw_ift h c2
    refine fw_ldc (pc := 12) C (v := -1000002) kX9_undo_187 dX9_undo_12 ?_
    exact fw_iret (pc := 14) C (fw_p1 h) (fw_p2 h) dX9_undo_14
theorem c_Mod_undo {l : Launch} {D : va_G} {cI cZ cH cR : ClassId} {N : Nat} {ad : Nat → Nat} {EE : fw_M → Nat → va_E} {o : Nat} {M : fw_M} {z : (Int32 × fw_M)} (ho : o_Mod EE ad N cI cZ cH cR o) (h : P_Mod_undo o M = some z) : fw_Met l yX9_undo wsX9_undo rm_Mod_undo D vwCl (fw_tys cI cZ cH cR) N ad fw_nw0 EE [.ref (ad o)] M (some (.int z.1)) z.2 := by
  unfold P_Mod_undo at h
  exact fw_intro (cc := cX9_undo) (maxL := 2) (ret := some .int) (own := RX9) (by decide) rfl rfl (Nat.le_of_ble_eq_true rfl) (fun p e s m args below meth c C => fw_sub [0] rfl (c_Mod_undo_b0 C ho h))
abbrev rm_Mod_person : Room := { frames := 4, cells := 0, slots := 0, locals := 89 }
theorem hd_Mod_person : yX9_person.cls = RX9 ∧ yX9_person.cls ≠ "java/lang/invoke/MethodHandle" ∧ yX9_person.cls ≠ "java/lang/invoke/VarHandle" ∧ (parseMethodDescriptor yX9_person.desc).map (fun d => d.parameters.length) = some 2 := by decide +kernel
theorem qX9_person_47 : fw_G wsX9_person RX9 47 RX9 TX9 24 0 := ⟨by decide +kernel, by decide +kernel, by decide⟩
theorem kX9_person_67 : Cond.constant RX9 67 (-1000001) ∈ wsX9_person := by decide +kernel
theorem qX9_person_19 : fw_G wsX9_person RX9 19 RX9 TX9 24 5 := ⟨by decide +kernel, by decide +kernel, by decide⟩
theorem kX9_person_90 : Cond.constant RX9 90 (-1000000) ∈ wsX9_person := by decide +kernel
def P_Mod_person_b102 (o : Nat) (M : fw_M) (t0 : Int32) : Option (Int32 × fw_M) := some (t0, M)
def P_Mod_person_b129 (o : Nat) (M : fw_M) (t0 : Int32) : Option (Int32 × fw_M) := some (t0, M)
def P_Mod_person_b0 (o : Nat) (M : fw_M) (x1 : Int32) (x2 : Int32) : Option (Int32 × fw_M) := fw_pl (fw_set M o 0 (0 : Int32)) fun M1 => (P_Mod_isPerson o M1 x1).bind fun v2 => (if v2 = (0 : Int32) then some ((-1000001 : Int32), M1) else (if x2 = (0 : Int32) then (P_Mod_of (o + 4) M1 x1 (1 : Int32)).bind fun v5 => some (v5, M1) else (if x2 = (1 : Int32) then (P_Mod_of (o + 4) M1 x1 (2 : Int32)).bind fun v7 => some (v7, M1) else (if x2 = (2 : Int32) then (P_Mod_of (o + 4) M1 x1 (3 : Int32)).bind fun v9 => (if (0 : Int32) ≤ v9 then (P_Mod_of (o + 4) M1 x1 (3 : Int32)).bind fun v11 => P_Mod_person_b102 o M1 v11 else P_Mod_person_b102 o M1 (-1000000 : Int32)) else (if x2 = (3 : Int32) then (P_Mod_of (o + 4) M1 x1 (4 : Int32)).bind fun v13 => some (v13, M1) else (if x2 = (4 : Int32) then (P_Mod_may (o + 4) M1 x1).bind fun v15 => (if v15 = (0 : Int32) then P_Mod_person_b129 o M1 (0 : Int32) else P_Mod_person_b129 o M1 (1 : Int32)) else (if x2 = (5 : Int32) then (P_Mod_yieldsTo (o + 4) M1 x1).bind fun v18 => some (v18, M1) else some ((-1000001 : Int32), M1))))))))
def P_Mod_person (o : Nat) (M : fw_M) (a0 : Int32) (a1 : Int32) : Option (Int32 × fw_M) := P_Mod_person_b0 o M a0 a1
set_option maxRecDepth 100000 in
theorem c_Mod_person_b102 {p : Program} {l : Launch} {e : Env} {s : State} {m : MethodId} {args : Array Value} {below : List Frame} {meth : Method} {c : Code} {D : va_G} {cI cZ cH cR : ClassId} {N : Nat} {ad : Nat → Nat} {EE : fw_M → Nat → va_E} {o : Nat} {M : fw_M} {t0 : Int32} {z : (Int32 × fw_M)} (C : fw_C p s m args meth c cX9_person RX9 wsX9_person 3 (some .int) D vwCl (fw_tys cI cZ cH cR) N ad fw_nw0) (ho : o_Mod EE ad N cI cZ cH cR o) (h : P_Mod_person_b102 o M t0 = some z) : fw_J p l e (headSpec wsX9_person rm_Mod_person).room s m args below meth c D vwCl N ad EE 3 0 0 (fw_E below args s D vwCl N ad EE (some (.int z.1)) z.2) M [] 102 [.int t0] := by
  unfold P_Mod_person_b102 at h
  exact fw_iret (pc := 102) C (fw_p1 h) (fw_p2 h) dX9_person_102
set_option maxRecDepth 100000 in
theorem c_Mod_person_b129 {p : Program} {l : Launch} {e : Env} {s : State} {m : MethodId} {args : Array Value} {below : List Frame} {meth : Method} {c : Code} {D : va_G} {cI cZ cH cR : ClassId} {N : Nat} {ad : Nat → Nat} {EE : fw_M → Nat → va_E} {o : Nat} {M : fw_M} {t0 : Int32} {z : (Int32 × fw_M)} (C : fw_C p s m args meth c cX9_person RX9 wsX9_person 3 (some .int) D vwCl (fw_tys cI cZ cH cR) N ad fw_nw0) (ho : o_Mod EE ad N cI cZ cH cR o) (h : P_Mod_person_b129 o M t0 = some z) : fw_J p l e (headSpec wsX9_person rm_Mod_person).room s m args below meth c D vwCl N ad EE 3 0 0 (fw_E below args s D vwCl N ad EE (some (.int z.1)) z.2) M [] 129 [.int t0] := by
  unfold P_Mod_person_b129 at h
  exact fw_iret (pc := 129) C (fw_p1 h) (fw_p2 h) dX9_person_129
set_option maxRecDepth 100000 in
theorem c_Mod_person_b0 {p : Program} {l : Launch} {e : Env} {s : State} {m : MethodId} {args : Array Value} {below : List Frame} {meth : Method} {c : Code} {D : va_G} {cI cZ cH cR : ClassId} {N : Nat} {ad : Nat → Nat} {EE : fw_M → Nat → va_E} {o : Nat} {M : fw_M} {x1 : Int32} {x2 : Int32} {z : (Int32 × fw_M)} (C : fw_C p s m args meth c cX9_person RX9 wsX9_person 3 (some .int) D vwCl (fw_tys cI cZ cH cR) N ad fw_nw0) (ho : o_Mod EE ad N cI cZ cH cR o) (h : P_Mod_person_b0 o M x1 x2 = some z) : fw_J p l e (headSpec wsX9_person rm_Mod_person).room s m args below meth c D vwCl N ad EE 3 0 0 (fw_E below args s D vwCl N ad EE (some (.int z.1)) z.2) M [(0, .ref (ad o)), (1, .int x1), (2, .int x2)] 0 [] := by
  unfold P_Mod_person_b0 at h
  refine fw_aload_n (pc := 0) C 0 dX9_person_0 rfl rfl ?_
  refine fw_iconst (pc := 1) C (v := 0) dX9_person_1 fk_iconst_0 ?_
  have h := fw_plh h
  refine fw_puti (pc := 2) C ho.2.1 rfl qX9_person_47 tyX9 tyX9_ok nmX9 rfl rfl dX9_person_2 ?_
  refine fw_aload_n (pc := 5) C 0 dX9_person_5 rfl rfl ?_
  refine fw_iload_n (pc := 6) C 1 dX9_person_6 rfl rfl ?_
  obtain ⟨v2, hv2, h⟩ := fw_bind h
  refine fw_callV1 (pc := 7) C (rest := []) (c_Mod_isPerson ho hv2) (cwV 1 C.2.2.2.2.1 gX9_person_X9_isPerson rfl rfl rfl hd_Mod_isPerson ⟨Nat.le_of_ble_eq_true rfl, Nat.le_of_ble_eq_true rfl⟩) ho.1 rfl rfl ⟨Nat.zero_le _, Nat.zero_le _⟩ rfl (Nat.le_of_ble_eq_true rfl) dX9_person_7 ?_
  refine fw_if_ne (pc := 10) C (tgt := 16) dX9_person_10 (by decide) (fun c3 => ?_) (fun c3 => ?_)
  · have h := fw_iff h c3
    refine fw_iload_n (pc := 16) C 2 dX9_person_16 rfl rfl ?_
    rcases fw_cs h with ⟨c4, h⟩ | ⟨c4, h⟩
    · refine fw_tsin (pc := 17) C dX9_person_17 c4 (v := 0) (off := 39) (by decide) (tgt := 56) (by decide) ?_
      refine fw_aload_n (pc := 56) C 0 dX9_person_56 rfl rfl ?_
      refine fw_getr (pc := 57) C ho.2.2.2.2.2.2.1.1 rfl qX9_person_19 dX9_person_57 ?_
      refine fw_iload_n (pc := 60) C 1 dX9_person_60 rfl rfl ?_
      refine fw_iconst (pc := 61) C (v := 1) dX9_person_61 fk_iconst_1 ?_
      obtain ⟨v5, hv5, h⟩ := fw_bind h
      refine fw_callS1 (pc := 62) C (rest := []) (c_Mod_of ho.2.2.2.2.2.2.1.2 hv5) (va_cwS 3 C.2.2.2.2.1 gX9_person_X9_of rfl rfl rfl hd_Mod_of.2 ⟨Nat.le_of_ble_eq_true rfl, Nat.le_of_ble_eq_true rfl⟩) rfl ⟨Nat.zero_le _, Nat.zero_le _⟩ rfl (Nat.le_of_ble_eq_true rfl) dX9_person_62 ?_
      exact fw_iret (pc := 65) C (fw_p1 h) (fw_p2 h) dX9_person_65
    · rcases fw_cs h with ⟨c6, h⟩ | ⟨c6, h⟩
      · refine fw_tsin (pc := 17) C dX9_person_17 c6 (v := 1) (off := 49) (by decide) (tgt := 66) (by decide) ?_
        refine fw_aload_n (pc := 66) C 0 dX9_person_66 rfl rfl ?_
        refine fw_getr (pc := 67) C ho.2.2.2.2.2.2.1.1 rfl qX9_person_19 dX9_person_67 ?_
        refine fw_iload_n (pc := 70) C 1 dX9_person_70 rfl rfl ?_
        refine fw_iconst (pc := 71) C (v := 2) dX9_person_71 fk_iconst_2 ?_
        obtain ⟨v7, hv7, h⟩ := fw_bind h
        refine fw_callS1 (pc := 72) C (rest := []) (c_Mod_of ho.2.2.2.2.2.2.1.2 hv7) (va_cwS 3 C.2.2.2.2.1 gX9_person_X9_of rfl rfl rfl hd_Mod_of.2 ⟨Nat.le_of_ble_eq_true rfl, Nat.le_of_ble_eq_true rfl⟩) rfl ⟨Nat.zero_le _, Nat.zero_le _⟩ rfl (Nat.le_of_ble_eq_true rfl) dX9_person_72 ?_
        exact fw_iret (pc := 75) C (fw_p1 h) (fw_p2 h) dX9_person_75
      · rcases fw_cs h with ⟨c8, h⟩ | ⟨c8, h⟩
        · refine fw_tsin (pc := 17) C dX9_person_17 c8 (v := 2) (off := 59) (by decide) (tgt := 76) (by decide) ?_
          refine fw_aload_n (pc := 76) C 0 dX9_person_76 rfl rfl ?_
          refine fw_getr (pc := 77) C ho.2.2.2.2.2.2.1.1 rfl qX9_person_19 dX9_person_77 ?_
          refine fw_iload_n (pc := 80) C 1 dX9_person_80 rfl rfl ?_
          refine fw_iconst (pc := 81) C (v := 3) dX9_person_81 fk_iconst_3 ?_
          obtain ⟨v9, hv9, h⟩ := fw_bind h
          refine fw_callS1 (pc := 82) C (rest := []) (c_Mod_of ho.2.2.2.2.2.2.1.2 hv9) (va_cwS 3 C.2.2.2.2.1 gX9_person_X9_of rfl rfl rfl hd_Mod_of.2 ⟨Nat.le_of_ble_eq_true rfl, Nat.le_of_ble_eq_true rfl⟩) rfl ⟨Nat.zero_le _, Nat.zero_le _⟩ rfl (Nat.le_of_ble_eq_true rfl) dX9_person_82 ?_
          refine fw_if_ge (pc := 85) C (tgt := 93) dX9_person_85 (by decide) (fun c10 => ?_) (fun c10 => ?_)
          · have h := fw_ift h c10
            refine fw_aload_n (pc := 93) C 0 dX9_person_93 rfl rfl ?_
            refine fw_getr (pc := 94) C ho.2.2.2.2.2.2.1.1 rfl qX9_person_19 dX9_person_94 ?_
            refine fw_iload_n (pc := 97) C 1 dX9_person_97 rfl rfl ?_
            refine fw_iconst (pc := 98) C (v := 3) dX9_person_98 fk_iconst_3 ?_
            obtain ⟨v11, hv11, h⟩ := fw_bind h
            refine fw_callS1 (pc := 99) C (rest := []) (c_Mod_of ho.2.2.2.2.2.2.1.2 hv11) (va_cwS 3 C.2.2.2.2.1 gX9_person_X9_of rfl rfl rfl hd_Mod_of.2 ⟨Nat.le_of_ble_eq_true rfl, Nat.le_of_ble_eq_true rfl⟩) rfl ⟨Nat.zero_le _, Nat.zero_le _⟩ rfl (Nat.le_of_ble_eq_true rfl) dX9_person_99 ?_
            exact fw_sub [] rfl (c_Mod_person_b102 C ho h)
          · have h := fw_iff h c10
            refine fw_ldc (pc := 88) C (v := -1000000) kX9_person_90 dX9_person_88 ?_
            refine fw_goto (pc := 90) C (tgt := 102) dX9_person_90 (by decide) ?_
            exact fw_sub [] rfl (c_Mod_person_b102 C ho h)
        · rcases fw_cs h with ⟨c12, h⟩ | ⟨c12, h⟩
          · refine fw_tsin (pc := 17) C dX9_person_17 c12 (v := 3) (off := 86) (by decide) (tgt := 103) (by decide) ?_
            refine fw_aload_n (pc := 103) C 0 dX9_person_103 rfl rfl ?_
            refine fw_getr (pc := 104) C ho.2.2.2.2.2.2.1.1 rfl qX9_person_19 dX9_person_104 ?_
            refine fw_iload_n (pc := 107) C 1 dX9_person_107 rfl rfl ?_
            refine fw_iconst (pc := 108) C (v := 4) dX9_person_108 fk_iconst_4 ?_
            obtain ⟨v13, hv13, h⟩ := fw_bind h
            refine fw_callS1 (pc := 109) C (rest := []) (c_Mod_of ho.2.2.2.2.2.2.1.2 hv13) (va_cwS 3 C.2.2.2.2.1 gX9_person_X9_of rfl rfl rfl hd_Mod_of.2 ⟨Nat.le_of_ble_eq_true rfl, Nat.le_of_ble_eq_true rfl⟩) rfl ⟨Nat.zero_le _, Nat.zero_le _⟩ rfl (Nat.le_of_ble_eq_true rfl) dX9_person_109 ?_
            exact fw_iret (pc := 112) C (fw_p1 h) (fw_p2 h) dX9_person_112
          · rcases fw_cs h with ⟨c14, h⟩ | ⟨c14, h⟩
            · refine fw_tsin (pc := 17) C dX9_person_17 c14 (v := 4) (off := 96) (by decide) (tgt := 113) (by decide) ?_
              refine fw_aload_n (pc := 113) C 0 dX9_person_113 rfl rfl ?_
              refine fw_getr (pc := 114) C ho.2.2.2.2.2.2.1.1 rfl qX9_person_19 dX9_person_114 ?_
              refine fw_iload_n (pc := 117) C 1 dX9_person_117 rfl rfl ?_
              obtain ⟨v15, hv15, h⟩ := fw_bind h
              refine fw_callS1 (pc := 118) C (rest := []) (c_Mod_may ho.2.2.2.2.2.2.1.2 hv15) (va_cwS 2 C.2.2.2.2.1 gX9_person_X9_may rfl rfl rfl hd_Mod_may.2 ⟨Nat.le_of_ble_eq_true rfl, Nat.le_of_ble_eq_true rfl⟩) rfl ⟨Nat.zero_le _, Nat.zero_le _⟩ rfl (Nat.le_of_ble_eq_true rfl) dX9_person_118 ?_
              refine fw_if_eq (pc := 121) C (tgt := 128) dX9_person_121 (by decide) (fun c16 => ?_) (fun c16 => ?_)
              · have h := fw_ift h c16
                refine fw_iconst (pc := 128) C (v := 0) dX9_person_128 fk_iconst_0 ?_
                exact fw_sub [] rfl (c_Mod_person_b129 C ho h)
              · have h := fw_iff h c16
                refine fw_iconst (pc := 124) C (v := 1) dX9_person_124 fk_iconst_1 ?_
                refine fw_goto (pc := 125) C (tgt := 129) dX9_person_125 (by decide) ?_
                exact fw_sub [] rfl (c_Mod_person_b129 C ho h)
            · rcases fw_cs h with ⟨c17, h⟩ | ⟨c17, h⟩
              · refine fw_tsin (pc := 17) C dX9_person_17 c17 (v := 5) (off := 113) (by decide) (tgt := 130) (by decide) ?_
                refine fw_aload_n (pc := 130) C 0 dX9_person_130 rfl rfl ?_
                refine fw_getr (pc := 131) C ho.2.2.2.2.2.2.1.1 rfl qX9_person_19 dX9_person_131 ?_
                refine fw_iload_n (pc := 134) C 1 dX9_person_134 rfl rfl ?_
                obtain ⟨v18, hv18, h⟩ := fw_bind h
                refine fw_callS1 (pc := 135) C (rest := []) (c_Mod_yieldsTo ho.2.2.2.2.2.2.1.2 hv18) (va_cwS 2 C.2.2.2.2.1 gX9_person_X9_yieldsTo rfl rfl rfl hd_Mod_yieldsTo.2 ⟨Nat.le_of_ble_eq_true rfl, Nat.le_of_ble_eq_true rfl⟩) rfl ⟨Nat.zero_le _, Nat.zero_le _⟩ rfl (Nat.le_of_ble_eq_true rfl) dX9_person_135 ?_
                exact fw_iret (pc := 138) C (fw_p1 h) (fw_p2 h) dX9_person_138
              · refine fw_tsout (pc := 17) C dX9_person_17 (fun z z1 z2 e => ?_) (tgt := 139) (by decide) ?_
                · subst e
                  have ec4 := lv_neT c4 (a := 0) (by decide)
                  have ec6 := lv_neT c6 (a := 1) (by decide)
                  have ec8 := lv_neT c8 (a := 2) (by decide)
                  have ec12 := lv_neT c12 (a := 3) (by decide)
                  have ec14 := lv_neT c14 (a := 4) (by decide)
                  have ec17 := lv_neT c17 (a := 5) (by decide)
                  omega
                · refine fw_ldc (pc := 139) C (v := -1000001) kX9_person_67 dX9_person_139 ?_
                  exact fw_iret (pc := 141) C (fw_p1 h) (fw_p2 h) dX9_person_141
  · have h := fw_ift h c3
    refine fw_ldc (pc := 13) C (v := -1000001) kX9_person_67 dX9_person_13 ?_
    exact fw_iret (pc := 15) C (fw_p1 h) (fw_p2 h) dX9_person_15
theorem c_Mod_person {l : Launch} {D : va_G} {cI cZ cH cR : ClassId} {N : Nat} {ad : Nat → Nat} {EE : fw_M → Nat → va_E} {o : Nat} {M : fw_M} {a0 : Int32} {a1 : Int32} {z : (Int32 × fw_M)} (ho : o_Mod EE ad N cI cZ cH cR o) (h : P_Mod_person o M a0 a1 = some z) : fw_Met l yX9_person wsX9_person rm_Mod_person D vwCl (fw_tys cI cZ cH cR) N ad fw_nw0 EE [.ref (ad o), .int a0, .int a1] M (some (.int z.1)) z.2 := by
  unfold P_Mod_person at h
  exact fw_intro (cc := cX9_person) (maxL := 3) (ret := some .int) (own := RX9) (by decide) rfl rfl (Nat.le_of_ble_eq_true rfl) (fun p e s m args below meth c C => fw_sub [0, 1, 2] rfl (c_Mod_person_b0 C ho h))
abbrev rm_Mod_door : Room := { frames := 5, cells := 0, slots := 0, locals := 112 }
theorem hd_Mod_door : yX9_door.cls = RX9 ∧ yX9_door.cls ≠ "java/lang/invoke/MethodHandle" ∧ yX9_door.cls ≠ "java/lang/invoke/VarHandle" ∧ (parseMethodDescriptor yX9_door.desc).map (fun d => d.parameters.length) = some 2 := by decide +kernel
theorem qX9_door_47 : fw_G wsX9_door RX9 47 RX9 TX9 24 0 := ⟨by decide +kernel, by decide +kernel, by decide⟩
theorem kX9_door_187 : Cond.constant RX9 187 (-1000002) ∈ wsX9_door := by decide +kernel
theorem qX9_door_19 : fw_G wsX9_door RX9 19 RX9 TX9 24 5 := ⟨by decide +kernel, by decide +kernel, by decide⟩
theorem kX9_door_67 : Cond.constant RX9 67 (-1000001) ∈ wsX9_door := by decide +kernel
def P_Mod_door_b33 (o : Nat) (M : fw_M) : Option (Int32 × fw_M) := some ((-1000001 : Int32), M)
def P_Mod_door_b59 (o : Nat) (M : fw_M) (t0 : Int32) : Option (Int32 × fw_M) := some (t0, M)
def P_Mod_door_b0 (o : Nat) (M : fw_M) (x1 : Int32) (x2 : Int32) : Option (Int32 × fw_M) := fw_pl (fw_set M o 0 (0 : Int32)) fun M1 => (P_Mod_isThere o M1).bind fun v2 => (if v2 = (0 : Int32) then some ((-1000002 : Int32), M1) else (P_Mod_isDoor o M1 x1).bind fun v4 => (if v4 = (0 : Int32) then P_Mod_door_b33 o M1 else (P_Mod_in M1 (Int32.toInt64 x2) (0 : Int64) (1 : Int64)).bind fun v6 => (if v6 = (0 : Int32) then P_Mod_door_b33 o M1 else (if x2 = (0 : Int32) then (P_Mod_waiting (o + 4) M1 x1).bind fun v10 => P_Mod_door_b59 o M1 v10 else (P_Mod_goesAt (o + 4) M1 x1).bind fun v9 => P_Mod_door_b59 o M1 v9))))
def P_Mod_door (o : Nat) (M : fw_M) (a0 : Int32) (a1 : Int32) : Option (Int32 × fw_M) := P_Mod_door_b0 o M a0 a1
set_option maxRecDepth 100000 in
theorem c_Mod_door_b33 {p : Program} {l : Launch} {e : Env} {s : State} {m : MethodId} {args : Array Value} {below : List Frame} {meth : Method} {c : Code} {D : va_G} {cI cZ cH cR : ClassId} {N : Nat} {ad : Nat → Nat} {EE : fw_M → Nat → va_E} {o : Nat} {M : fw_M} {z : (Int32 × fw_M)} (C : fw_C p s m args meth c cX9_door RX9 wsX9_door 3 (some .int) D vwCl (fw_tys cI cZ cH cR) N ad fw_nw0) (ho : o_Mod EE ad N cI cZ cH cR o) (h : P_Mod_door_b33 o M = some z) : fw_J p l e (headSpec wsX9_door rm_Mod_door).room s m args below meth c D vwCl N ad EE 3 0 0 (fw_E below args s D vwCl N ad EE (some (.int z.1)) z.2) M [] 33 [] := by
  unfold P_Mod_door_b33 at h
  refine fw_ldc (pc := 33) C (v := -1000001) kX9_door_67 dX9_door_33 ?_
  exact fw_iret (pc := 35) C (fw_p1 h) (fw_p2 h) dX9_door_35
set_option maxRecDepth 100000 in
theorem c_Mod_door_b59 {p : Program} {l : Launch} {e : Env} {s : State} {m : MethodId} {args : Array Value} {below : List Frame} {meth : Method} {c : Code} {D : va_G} {cI cZ cH cR : ClassId} {N : Nat} {ad : Nat → Nat} {EE : fw_M → Nat → va_E} {o : Nat} {M : fw_M} {t0 : Int32} {z : (Int32 × fw_M)} (C : fw_C p s m args meth c cX9_door RX9 wsX9_door 3 (some .int) D vwCl (fw_tys cI cZ cH cR) N ad fw_nw0) (ho : o_Mod EE ad N cI cZ cH cR o) (h : P_Mod_door_b59 o M t0 = some z) : fw_J p l e (headSpec wsX9_door rm_Mod_door).room s m args below meth c D vwCl N ad EE 3 0 0 (fw_E below args s D vwCl N ad EE (some (.int z.1)) z.2) M [] 59 [.int t0] := by
  unfold P_Mod_door_b59 at h
  exact fw_iret (pc := 59) C (fw_p1 h) (fw_p2 h) dX9_door_59
set_option maxRecDepth 100000 in
theorem c_Mod_door_b0 {p : Program} {l : Launch} {e : Env} {s : State} {m : MethodId} {args : Array Value} {below : List Frame} {meth : Method} {c : Code} {D : va_G} {cI cZ cH cR : ClassId} {N : Nat} {ad : Nat → Nat} {EE : fw_M → Nat → va_E} {o : Nat} {M : fw_M} {x1 : Int32} {x2 : Int32} {z : (Int32 × fw_M)} (C : fw_C p s m args meth c cX9_door RX9 wsX9_door 3 (some .int) D vwCl (fw_tys cI cZ cH cR) N ad fw_nw0) (ho : o_Mod EE ad N cI cZ cH cR o) (h : P_Mod_door_b0 o M x1 x2 = some z) : fw_J p l e (headSpec wsX9_door rm_Mod_door).room s m args below meth c D vwCl N ad EE 3 0 0 (fw_E below args s D vwCl N ad EE (some (.int z.1)) z.2) M [(0, .ref (ad o)), (1, .int x1), (2, .int x2)] 0 [] := by
  unfold P_Mod_door_b0 at h
  refine fw_aload_n (pc := 0) C 0 dX9_door_0 rfl rfl ?_
  refine fw_iconst (pc := 1) C (v := 0) dX9_door_1 fk_iconst_0 ?_
  have h := fw_plh h
  refine fw_puti (pc := 2) C ho.2.1 rfl qX9_door_47 tyX9 tyX9_ok nmX9 rfl rfl dX9_door_2 ?_
  refine fw_aload_n (pc := 5) C 0 dX9_door_5 rfl rfl ?_
  obtain ⟨v2, hv2, h⟩ := fw_bind h
  refine fw_callV1 (pc := 6) C (rest := []) (c_Mod_isThere ho hv2) (cwV 0 C.2.2.2.2.1 gX9_door_X9_isThere rfl rfl rfl hd_Mod_isThere ⟨Nat.le_of_ble_eq_true rfl, Nat.le_of_ble_eq_true rfl⟩) ho.1 rfl rfl ⟨Nat.zero_le _, Nat.zero_le _⟩ rfl (Nat.le_of_ble_eq_true rfl) dX9_door_6 ?_
  refine fw_if_ne (pc := 9) C (tgt := 15) dX9_door_9 (by decide) (fun c3 => ?_) (fun c3 => ?_)
  · have h := fw_iff h c3
    refine fw_aload_n (pc := 15) C 0 dX9_door_15 rfl rfl ?_
    refine fw_iload_n (pc := 16) C 1 dX9_door_16 rfl rfl ?_
    obtain ⟨v4, hv4, h⟩ := fw_bind h
    refine fw_callV1 (pc := 17) C (rest := []) (c_Mod_isDoor ho hv4) (cwV 1 C.2.2.2.2.1 gX9_door_X9_isDoor rfl rfl rfl hd_Mod_isDoor ⟨Nat.le_of_ble_eq_true rfl, Nat.le_of_ble_eq_true rfl⟩) ho.1 rfl rfl ⟨Nat.zero_le _, Nat.zero_le _⟩ rfl (Nat.le_of_ble_eq_true rfl) dX9_door_17 ?_
    refine fw_if_eq (pc := 20) C (tgt := 33) dX9_door_20 (by decide) (fun c5 => ?_) (fun c5 => ?_)
    · have h := fw_ift h c5
      exact fw_sub [] rfl (c_Mod_door_b33 C ho h)
    · have h := fw_iff h c5
      refine fw_iload_n (pc := 23) C 2 dX9_door_23 rfl rfl ?_
      refine fw_i2l (pc := 24) C dX9_door_24 ?_
      refine fw_lconst (pc := 25) C (v := 0) dX9_door_25 fk_lconst_0 ?_
      refine fw_lconst (pc := 26) C (v := 1) dX9_door_26 fk_lconst_1 ?_
      obtain ⟨v6, hv6, h⟩ := fw_bind h
      refine fw_callS1 (pc := 27) C (rest := []) (c_Mod_in  hv6) (va_cwS 3 C.2.2.2.2.1 gX9_door_X9_in rfl rfl rfl hd_Mod_in.2 ⟨Nat.le_of_ble_eq_true rfl, Nat.le_of_ble_eq_true rfl⟩) rfl ⟨Nat.zero_le _, Nat.zero_le _⟩ rfl (Nat.le_of_ble_eq_true rfl) dX9_door_27 ?_
      refine fw_if_ne (pc := 30) C (tgt := 36) dX9_door_30 (by decide) (fun c7 => ?_) (fun c7 => ?_)
      · have h := fw_iff h c7
        refine fw_iload_n (pc := 36) C 2 dX9_door_36 rfl rfl ?_
        refine fw_if_ne (pc := 37) C (tgt := 51) dX9_door_37 (by decide) (fun c8 => ?_) (fun c8 => ?_)
        · have h := fw_iff h c8
          refine fw_aload_n (pc := 51) C 0 dX9_door_51 rfl rfl ?_
          refine fw_getr (pc := 52) C ho.2.2.2.2.2.2.1.1 rfl qX9_door_19 dX9_door_52 ?_
          refine fw_iload_n (pc := 55) C 1 dX9_door_55 rfl rfl ?_
          obtain ⟨v9, hv9, h⟩ := fw_bind h
          refine fw_callS1 (pc := 56) C (rest := []) (c_Mod_goesAt ho.2.2.2.2.2.2.1.2 hv9) (va_cwS 2 C.2.2.2.2.1 gX9_door_X9_goesAt rfl rfl rfl hd_Mod_goesAt.2 ⟨Nat.le_of_ble_eq_true rfl, Nat.le_of_ble_eq_true rfl⟩) rfl ⟨Nat.zero_le _, Nat.zero_le _⟩ rfl (Nat.le_of_ble_eq_true rfl) dX9_door_56 ?_
          exact fw_sub [] rfl (c_Mod_door_b59 C ho h)
        · have h := fw_ift h c8
          refine fw_aload_n (pc := 40) C 0 dX9_door_40 rfl rfl ?_
          refine fw_getr (pc := 41) C ho.2.2.2.2.2.2.1.1 rfl qX9_door_19 dX9_door_41 ?_
          refine fw_iload_n (pc := 44) C 1 dX9_door_44 rfl rfl ?_
          obtain ⟨v10, hv10, h⟩ := fw_bind h
          refine fw_callS1 (pc := 45) C (rest := []) (c_Mod_waiting ho.2.2.2.2.2.2.1.2 hv10) (va_cwS 2 C.2.2.2.2.1 gX9_door_X9_waiting rfl rfl rfl hd_Mod_waiting.2 ⟨Nat.le_of_ble_eq_true rfl, Nat.le_of_ble_eq_true rfl⟩) rfl ⟨Nat.zero_le _, Nat.zero_le _⟩ rfl (Nat.le_of_ble_eq_true rfl) dX9_door_45 ?_
          refine fw_goto (pc := 48) C (tgt := 59) dX9_door_48 (by decide) ?_
          exact fw_sub [] rfl (c_Mod_door_b59 C ho h)
      · have h := fw_ift h c7
        exact fw_sub [] rfl (c_Mod_door_b33 C ho h)
  · have h := fw_ift h c3
    refine fw_ldc (pc := 12) C (v := -1000002) kX9_door_187 dX9_door_12 ?_
    exact fw_iret (pc := 14) C (fw_p1 h) (fw_p2 h) dX9_door_14
theorem c_Mod_door {l : Launch} {D : va_G} {cI cZ cH cR : ClassId} {N : Nat} {ad : Nat → Nat} {EE : fw_M → Nat → va_E} {o : Nat} {M : fw_M} {a0 : Int32} {a1 : Int32} {z : (Int32 × fw_M)} (ho : o_Mod EE ad N cI cZ cH cR o) (h : P_Mod_door o M a0 a1 = some z) : fw_Met l yX9_door wsX9_door rm_Mod_door D vwCl (fw_tys cI cZ cH cR) N ad fw_nw0 EE [.ref (ad o), .int a0, .int a1] M (some (.int z.1)) z.2 := by
  unfold P_Mod_door at h
  exact fw_intro (cc := cX9_door) (maxL := 3) (ret := some .int) (own := RX9) (by decide) rfl rfl (Nat.le_of_ble_eq_true rfl) (fun p e s m args below meth c C => fw_sub [0, 1, 2] rfl (c_Mod_door_b0 C ho h))
abbrev rm_Mod_ahead : Room := { frames := 7, cells := 0, slots := 0, locals := 160 }
theorem hd_Mod_ahead : yX9_ahead.cls = RX9 ∧ yX9_ahead.cls ≠ "java/lang/invoke/MethodHandle" ∧ yX9_ahead.cls ≠ "java/lang/invoke/VarHandle" ∧ (parseMethodDescriptor yX9_ahead.desc).map (fun d => d.parameters.length) = some 2 := by decide +kernel
theorem qX9_ahead_47 : fw_G wsX9_ahead RX9 47 RX9 TX9 24 0 := ⟨by decide +kernel, by decide +kernel, by decide⟩
theorem kX9_ahead_204 : Cond.constantLong RX9 204 (60) ∈ wsX9_ahead := by decide +kernel
theorem qX9_ahead_25 : fw_G wsX9_ahead RX9 25 RX9 TX9 24 7 := ⟨by decide +kernel, by decide +kernel, by decide⟩
theorem kX9_ahead_67 : Cond.constant RX9 67 (-1000001) ∈ wsX9_ahead := by decide +kernel
def P_Mod_ahead_b25 (o : Nat) (M : fw_M) : Option (Int32 × fw_M) := some ((-1000001 : Int32), M)
def P_Mod_ahead_b59 (o : Nat) (M : fw_M) (t0 : Int32) : Option (Int32 × fw_M) := some (t0, M)
def P_Mod_ahead_b0 (o : Nat) (M : fw_M) (x1 : Int32) (x2 : Int32) : Option (Int32 × fw_M) := fw_pl (fw_set M o 0 (0 : Int32)) fun M1 => (P_Mod_isPerson o M1 x1).bind fun v2 => (if v2 = (0 : Int32) then P_Mod_ahead_b25 o M1 else (P_Mod_in M1 (Int32.toInt64 x2) (0 : Int64) (60 : Int64)).bind fun v4 => (if v4 = (0 : Int32) then P_Mod_ahead_b25 o M1 else (P_Mod_layThen o M1).bind fun q6 => (P_Mod_stepsOf o (o + 6) q6 x2).bind fun q7 => (P_Mod_of (o + 6) q7.2 x1 (3 : Int32)).bind fun v8 => (if (0 : Int32) ≤ v8 then P_Mod_ahead_b59 o q7.2 (0 : Int32) else P_Mod_ahead_b59 o q7.2 (1 : Int32))))
def P_Mod_ahead (o : Nat) (M : fw_M) (a0 : Int32) (a1 : Int32) : Option (Int32 × fw_M) := P_Mod_ahead_b0 o M a0 a1
set_option maxRecDepth 100000 in
theorem c_Mod_ahead_b25 {p : Program} {l : Launch} {e : Env} {s : State} {m : MethodId} {args : Array Value} {below : List Frame} {meth : Method} {c : Code} {D : va_G} {cI cZ cH cR : ClassId} {N : Nat} {ad : Nat → Nat} {EE : fw_M → Nat → va_E} {o : Nat} {M : fw_M} {z : (Int32 × fw_M)} (C : fw_C p s m args meth c cX9_ahead RX9 wsX9_ahead 4 (some .int) D vwCl (fw_tys cI cZ cH cR) N ad fw_nw0) (ho : o_Mod EE ad N cI cZ cH cR o) (h : P_Mod_ahead_b25 o M = some z) : fw_J p l e (headSpec wsX9_ahead rm_Mod_ahead).room s m args below meth c D vwCl N ad EE 4 0 0 (fw_E below args s D vwCl N ad EE (some (.int z.1)) z.2) M [] 25 [] := by
  unfold P_Mod_ahead_b25 at h
  refine fw_ldc (pc := 25) C (v := -1000001) kX9_ahead_67 dX9_ahead_25 ?_
  exact fw_iret (pc := 27) C (fw_p1 h) (fw_p2 h) dX9_ahead_27
set_option maxRecDepth 100000 in
theorem c_Mod_ahead_b59 {p : Program} {l : Launch} {e : Env} {s : State} {m : MethodId} {args : Array Value} {below : List Frame} {meth : Method} {c : Code} {D : va_G} {cI cZ cH cR : ClassId} {N : Nat} {ad : Nat → Nat} {EE : fw_M → Nat → va_E} {o : Nat} {M : fw_M} {t0 : Int32} {z : (Int32 × fw_M)} (C : fw_C p s m args meth c cX9_ahead RX9 wsX9_ahead 4 (some .int) D vwCl (fw_tys cI cZ cH cR) N ad fw_nw0) (ho : o_Mod EE ad N cI cZ cH cR o) (h : P_Mod_ahead_b59 o M t0 = some z) : fw_J p l e (headSpec wsX9_ahead rm_Mod_ahead).room s m args below meth c D vwCl N ad EE 4 0 0 (fw_E below args s D vwCl N ad EE (some (.int z.1)) z.2) M [] 59 [.int t0] := by
  unfold P_Mod_ahead_b59 at h
  exact fw_iret (pc := 59) C (fw_p1 h) (fw_p2 h) dX9_ahead_59
set_option maxRecDepth 100000 in
theorem c_Mod_ahead_b0 {p : Program} {l : Launch} {e : Env} {s : State} {m : MethodId} {args : Array Value} {below : List Frame} {meth : Method} {c : Code} {D : va_G} {cI cZ cH cR : ClassId} {N : Nat} {ad : Nat → Nat} {EE : fw_M → Nat → va_E} {o : Nat} {M : fw_M} {x1 : Int32} {x2 : Int32} {z : (Int32 × fw_M)} (C : fw_C p s m args meth c cX9_ahead RX9 wsX9_ahead 4 (some .int) D vwCl (fw_tys cI cZ cH cR) N ad fw_nw0) (ho : o_Mod EE ad N cI cZ cH cR o) (h : P_Mod_ahead_b0 o M x1 x2 = some z) : fw_J p l e (headSpec wsX9_ahead rm_Mod_ahead).room s m args below meth c D vwCl N ad EE 4 0 0 (fw_E below args s D vwCl N ad EE (some (.int z.1)) z.2) M [(0, .ref (ad o)), (1, .int x1), (2, .int x2)] 0 [] := by
  unfold P_Mod_ahead_b0 at h
  refine fw_aload_n (pc := 0) C 0 dX9_ahead_0 rfl rfl ?_
  refine fw_iconst (pc := 1) C (v := 0) dX9_ahead_1 fk_iconst_0 ?_
  have h := fw_plh h
  refine fw_puti (pc := 2) C ho.2.1 rfl qX9_ahead_47 tyX9 tyX9_ok nmX9 rfl rfl dX9_ahead_2 ?_
  refine fw_aload_n (pc := 5) C 0 dX9_ahead_5 rfl rfl ?_
  refine fw_iload_n (pc := 6) C 1 dX9_ahead_6 rfl rfl ?_
  obtain ⟨v2, hv2, h⟩ := fw_bind h
  refine fw_callV1 (pc := 7) C (rest := []) (c_Mod_isPerson ho hv2) (cwV 1 C.2.2.2.2.1 gX9_ahead_X9_isPerson rfl rfl rfl hd_Mod_isPerson ⟨Nat.le_of_ble_eq_true rfl, Nat.le_of_ble_eq_true rfl⟩) ho.1 rfl rfl ⟨Nat.zero_le _, Nat.zero_le _⟩ rfl (Nat.le_of_ble_eq_true rfl) dX9_ahead_7 ?_
  refine fw_if_eq (pc := 10) C (tgt := 25) dX9_ahead_10 (by decide) (fun c3 => ?_) (fun c3 => ?_)
  · have h := fw_ift h c3
    exact fw_sub [] rfl (c_Mod_ahead_b25 C ho h)
  · have h := fw_iff h c3
    refine fw_iload_n (pc := 13) C 2 dX9_ahead_13 rfl rfl ?_
    refine fw_i2l (pc := 14) C dX9_ahead_14 ?_
    refine fw_lconst (pc := 15) C (v := 0) dX9_ahead_15 fk_lconst_0 ?_
    refine fw_ldc2 (pc := 16) C (v := 60) kX9_ahead_204 dX9_ahead_16 ?_
    obtain ⟨v4, hv4, h⟩ := fw_bind h
    refine fw_callS1 (pc := 19) C (rest := []) (c_Mod_in  hv4) (va_cwS 3 C.2.2.2.2.1 gX9_ahead_X9_in rfl rfl rfl hd_Mod_in.2 ⟨Nat.le_of_ble_eq_true rfl, Nat.le_of_ble_eq_true rfl⟩) rfl ⟨Nat.zero_le _, Nat.zero_le _⟩ rfl (Nat.le_of_ble_eq_true rfl) dX9_ahead_19 ?_
    refine fw_if_ne (pc := 22) C (tgt := 28) dX9_ahead_22 (by decide) (fun c5 => ?_) (fun c5 => ?_)
    · have h := fw_iff h c5
      refine fw_aload_n (pc := 28) C 0 dX9_ahead_28 rfl rfl ?_
      obtain ⟨q6, hq6, h⟩ := fw_bind h
      refine fw_callV0 (pc := 29) C (rest := []) (c_Mod_layThen ho hq6) (cwV 0 C.2.2.2.2.1 gX9_ahead_X9_layThen rfl rfl rfl hd_Mod_layThen ⟨Nat.le_of_ble_eq_true rfl, Nat.le_of_ble_eq_true rfl⟩) ho.1 rfl rfl ⟨Nat.zero_le _, Nat.zero_le _⟩ rfl (Nat.le_of_ble_eq_true rfl) dX9_ahead_29 ?_
      refine fw_aload_n (pc := 32) C 0 dX9_ahead_32 rfl rfl ?_
      refine fw_aload_n (pc := 33) C 0 dX9_ahead_33 rfl rfl ?_
      refine fw_getr (pc := 34) C ho.2.2.2.2.2.2.2.2.1.1 rfl qX9_ahead_25 dX9_ahead_34 ?_
      refine fw_iload_n (pc := 37) C 2 dX9_ahead_37 rfl rfl ?_
      obtain ⟨q7, hq7, h⟩ := fw_bind h
      refine fw_callV1 (pc := 38) C (rest := []) (c_Mod_stepsOf ho ho.2.2.2.2.2.2.2.2.1.2 hq7) (cwV 2 C.2.2.2.2.1 gX9_ahead_X9_stepsOf rfl rfl rfl hd_Mod_stepsOf ⟨Nat.le_of_ble_eq_true rfl, Nat.le_of_ble_eq_true rfl⟩) ho.1 rfl rfl ⟨Nat.zero_le _, Nat.zero_le _⟩ rfl (Nat.le_of_ble_eq_true rfl) dX9_ahead_38 ?_
      refine fw_istore_n (pc := 41) C (L2 := [(0, .ref _), (1, .int _), (2, .int _), (3, .int _)]) [1, 2, 3, 0] dX9_ahead_41 rfl (by decide) rfl ?_
      refine fw_aload_n (pc := 42) C 0 dX9_ahead_42 rfl rfl ?_
      refine fw_getr (pc := 43) C ho.2.2.2.2.2.2.2.2.1.1 rfl qX9_ahead_25 dX9_ahead_43 ?_
      refine fw_iload_n (pc := 46) C 1 dX9_ahead_46 rfl rfl ?_
      refine fw_iconst (pc := 47) C (v := 3) dX9_ahead_47 fk_iconst_3 ?_
      obtain ⟨v8, hv8, h⟩ := fw_bind h
      refine fw_callS1 (pc := 48) C (rest := []) (c_Mod_of ho.2.2.2.2.2.2.2.2.1.2 hv8) (va_cwS 3 C.2.2.2.2.1 gX9_ahead_X9_of rfl rfl rfl hd_Mod_of.2 ⟨Nat.le_of_ble_eq_true rfl, Nat.le_of_ble_eq_true rfl⟩) rfl ⟨Nat.zero_le _, Nat.zero_le _⟩ rfl (Nat.le_of_ble_eq_true rfl) dX9_ahead_48 ?_
      refine fw_if_ge (pc := 51) C (tgt := 58) dX9_ahead_51 (by decide) (fun c9 => ?_) (fun c9 => ?_)
      · have h := fw_ift h c9
        refine fw_iconst (pc := 58) C (v := 0) dX9_ahead_58 fk_iconst_0 ?_
        exact fw_sub [] rfl (c_Mod_ahead_b59 C ho h)
      · have h := fw_iff h c9
        refine fw_iconst (pc := 54) C (v := 1) dX9_ahead_54 fk_iconst_1 ?_
        refine fw_goto (pc := 55) C (tgt := 59) dX9_ahead_55 (by decide) ?_
        exact fw_sub [] rfl (c_Mod_ahead_b59 C ho h)
    · have h := fw_ift h c5
      exact fw_sub [] rfl (c_Mod_ahead_b25 C ho h)
theorem c_Mod_ahead {l : Launch} {D : va_G} {cI cZ cH cR : ClassId} {N : Nat} {ad : Nat → Nat} {EE : fw_M → Nat → va_E} {o : Nat} {M : fw_M} {a0 : Int32} {a1 : Int32} {z : (Int32 × fw_M)} (ho : o_Mod EE ad N cI cZ cH cR o) (h : P_Mod_ahead o M a0 a1 = some z) : fw_Met l yX9_ahead wsX9_ahead rm_Mod_ahead D vwCl (fw_tys cI cZ cH cR) N ad fw_nw0 EE [.ref (ad o), .int a0, .int a1] M (some (.int z.1)) z.2 := by
  unfold P_Mod_ahead at h
  exact fw_intro (cc := cX9_ahead) (maxL := 4) (ret := some .int) (own := RX9) (by decide) rfl rfl (Nat.le_of_ble_eq_true rfl) (fun p e s m args below meth c C => fw_sub [0, 1, 2] rfl (c_Mod_ahead_b0 C ho h))
abbrev rm_Mod_waitAhead : Room := { frames := 7, cells := 0, slots := 0, locals := 160 }
theorem hd_Mod_waitAhead : yX9_waitAhead.cls = RX9 ∧ yX9_waitAhead.cls ≠ "java/lang/invoke/MethodHandle" ∧ yX9_waitAhead.cls ≠ "java/lang/invoke/VarHandle" ∧ (parseMethodDescriptor yX9_waitAhead.desc).map (fun d => d.parameters.length) = some 2 := by decide +kernel
theorem qX9_waitAhead_47 : fw_G wsX9_waitAhead RX9 47 RX9 TX9 24 0 := ⟨by decide +kernel, by decide +kernel, by decide⟩
theorem kX9_waitAhead_187 : Cond.constant RX9 187 (-1000002) ∈ wsX9_waitAhead := by decide +kernel
theorem kX9_waitAhead_204 : Cond.constantLong RX9 204 (60) ∈ wsX9_waitAhead := by decide +kernel
theorem qX9_waitAhead_25 : fw_G wsX9_waitAhead RX9 25 RX9 TX9 24 7 := ⟨by decide +kernel, by decide +kernel, by decide⟩
theorem kX9_waitAhead_67 : Cond.constant RX9 67 (-1000001) ∈ wsX9_waitAhead := by decide +kernel
def P_Mod_waitAhead_b35 (o : Nat) (M : fw_M) : Option (Int32 × fw_M) := some ((-1000001 : Int32), M)
def P_Mod_waitAhead_b0 (o : Nat) (M : fw_M) (x1 : Int32) (x2 : Int32) : Option (Int32 × fw_M) := fw_pl (fw_set M o 0 (0 : Int32)) fun M1 => (P_Mod_isThere o M1).bind fun v2 => (if v2 = (0 : Int32) then some ((-1000002 : Int32), M1) else (P_Mod_isDoor o M1 x1).bind fun v4 => (if v4 = (0 : Int32) then P_Mod_waitAhead_b35 o M1 else (P_Mod_in M1 (Int32.toInt64 x2) (0 : Int64) (60 : Int64)).bind fun v6 => (if v6 = (0 : Int32) then P_Mod_waitAhead_b35 o M1 else (P_Mod_layThen o M1).bind fun q8 => (P_Mod_stepsOf o (o + 6) q8 x2).bind fun q9 => (P_Mod_waiting (o + 6) q9.2 x1).bind fun v10 => (P_Mod_bits q9.2 v10).bind fun v11 => some (v11, q9.2))))
def P_Mod_waitAhead (o : Nat) (M : fw_M) (a0 : Int32) (a1 : Int32) : Option (Int32 × fw_M) := P_Mod_waitAhead_b0 o M a0 a1
set_option maxRecDepth 100000 in
theorem c_Mod_waitAhead_b35 {p : Program} {l : Launch} {e : Env} {s : State} {m : MethodId} {args : Array Value} {below : List Frame} {meth : Method} {c : Code} {D : va_G} {cI cZ cH cR : ClassId} {N : Nat} {ad : Nat → Nat} {EE : fw_M → Nat → va_E} {o : Nat} {M : fw_M} {z : (Int32 × fw_M)} (C : fw_C p s m args meth c cX9_waitAhead RX9 wsX9_waitAhead 4 (some .int) D vwCl (fw_tys cI cZ cH cR) N ad fw_nw0) (ho : o_Mod EE ad N cI cZ cH cR o) (h : P_Mod_waitAhead_b35 o M = some z) : fw_J p l e (headSpec wsX9_waitAhead rm_Mod_waitAhead).room s m args below meth c D vwCl N ad EE 4 0 0 (fw_E below args s D vwCl N ad EE (some (.int z.1)) z.2) M [] 35 [] := by
  unfold P_Mod_waitAhead_b35 at h
  refine fw_ldc (pc := 35) C (v := -1000001) kX9_waitAhead_67 dX9_waitAhead_35 ?_
  exact fw_iret (pc := 37) C (fw_p1 h) (fw_p2 h) dX9_waitAhead_37
set_option maxRecDepth 100000 in
theorem c_Mod_waitAhead_b0 {p : Program} {l : Launch} {e : Env} {s : State} {m : MethodId} {args : Array Value} {below : List Frame} {meth : Method} {c : Code} {D : va_G} {cI cZ cH cR : ClassId} {N : Nat} {ad : Nat → Nat} {EE : fw_M → Nat → va_E} {o : Nat} {M : fw_M} {x1 : Int32} {x2 : Int32} {z : (Int32 × fw_M)} (C : fw_C p s m args meth c cX9_waitAhead RX9 wsX9_waitAhead 4 (some .int) D vwCl (fw_tys cI cZ cH cR) N ad fw_nw0) (ho : o_Mod EE ad N cI cZ cH cR o) (h : P_Mod_waitAhead_b0 o M x1 x2 = some z) : fw_J p l e (headSpec wsX9_waitAhead rm_Mod_waitAhead).room s m args below meth c D vwCl N ad EE 4 0 0 (fw_E below args s D vwCl N ad EE (some (.int z.1)) z.2) M [(0, .ref (ad o)), (1, .int x1), (2, .int x2)] 0 [] := by
  unfold P_Mod_waitAhead_b0 at h
  refine fw_aload_n (pc := 0) C 0 dX9_waitAhead_0 rfl rfl ?_
  refine fw_iconst (pc := 1) C (v := 0) dX9_waitAhead_1 fk_iconst_0 ?_
  have h := fw_plh h
  refine fw_puti (pc := 2) C ho.2.1 rfl qX9_waitAhead_47 tyX9 tyX9_ok nmX9 rfl rfl dX9_waitAhead_2 ?_
  refine fw_aload_n (pc := 5) C 0 dX9_waitAhead_5 rfl rfl ?_
  obtain ⟨v2, hv2, h⟩ := fw_bind h
  refine fw_callV1 (pc := 6) C (rest := []) (c_Mod_isThere ho hv2) (cwV 0 C.2.2.2.2.1 gX9_waitAhead_X9_isThere rfl rfl rfl hd_Mod_isThere ⟨Nat.le_of_ble_eq_true rfl, Nat.le_of_ble_eq_true rfl⟩) ho.1 rfl rfl ⟨Nat.zero_le _, Nat.zero_le _⟩ rfl (Nat.le_of_ble_eq_true rfl) dX9_waitAhead_6 ?_
  refine fw_if_ne (pc := 9) C (tgt := 15) dX9_waitAhead_9 (by decide) (fun c3 => ?_) (fun c3 => ?_)
  · have h := fw_iff h c3
    refine fw_aload_n (pc := 15) C 0 dX9_waitAhead_15 rfl rfl ?_
    refine fw_iload_n (pc := 16) C 1 dX9_waitAhead_16 rfl rfl ?_
    obtain ⟨v4, hv4, h⟩ := fw_bind h
    refine fw_callV1 (pc := 17) C (rest := []) (c_Mod_isDoor ho hv4) (cwV 1 C.2.2.2.2.1 gX9_waitAhead_X9_isDoor rfl rfl rfl hd_Mod_isDoor ⟨Nat.le_of_ble_eq_true rfl, Nat.le_of_ble_eq_true rfl⟩) ho.1 rfl rfl ⟨Nat.zero_le _, Nat.zero_le _⟩ rfl (Nat.le_of_ble_eq_true rfl) dX9_waitAhead_17 ?_
    refine fw_if_eq (pc := 20) C (tgt := 35) dX9_waitAhead_20 (by decide) (fun c5 => ?_) (fun c5 => ?_)
    · have h := fw_ift h c5
      exact fw_sub [] rfl (c_Mod_waitAhead_b35 C ho h)
    · have h := fw_iff h c5
      refine fw_iload_n (pc := 23) C 2 dX9_waitAhead_23 rfl rfl ?_
      refine fw_i2l (pc := 24) C dX9_waitAhead_24 ?_
      refine fw_lconst (pc := 25) C (v := 0) dX9_waitAhead_25 fk_lconst_0 ?_
      refine fw_ldc2 (pc := 26) C (v := 60) kX9_waitAhead_204 dX9_waitAhead_26 ?_
      obtain ⟨v6, hv6, h⟩ := fw_bind h
      refine fw_callS1 (pc := 29) C (rest := []) (c_Mod_in  hv6) (va_cwS 3 C.2.2.2.2.1 gX9_waitAhead_X9_in rfl rfl rfl hd_Mod_in.2 ⟨Nat.le_of_ble_eq_true rfl, Nat.le_of_ble_eq_true rfl⟩) rfl ⟨Nat.zero_le _, Nat.zero_le _⟩ rfl (Nat.le_of_ble_eq_true rfl) dX9_waitAhead_29 ?_
      refine fw_if_ne (pc := 32) C (tgt := 38) dX9_waitAhead_32 (by decide) (fun c7 => ?_) (fun c7 => ?_)
      · have h := fw_iff h c7
        refine fw_aload_n (pc := 38) C 0 dX9_waitAhead_38 rfl rfl ?_
        obtain ⟨q8, hq8, h⟩ := fw_bind h
        refine fw_callV0 (pc := 39) C (rest := []) (c_Mod_layThen ho hq8) (cwV 0 C.2.2.2.2.1 gX9_waitAhead_X9_layThen rfl rfl rfl hd_Mod_layThen ⟨Nat.le_of_ble_eq_true rfl, Nat.le_of_ble_eq_true rfl⟩) ho.1 rfl rfl ⟨Nat.zero_le _, Nat.zero_le _⟩ rfl (Nat.le_of_ble_eq_true rfl) dX9_waitAhead_39 ?_
        refine fw_aload_n (pc := 42) C 0 dX9_waitAhead_42 rfl rfl ?_
        refine fw_aload_n (pc := 43) C 0 dX9_waitAhead_43 rfl rfl ?_
        refine fw_getr (pc := 44) C ho.2.2.2.2.2.2.2.2.1.1 rfl qX9_waitAhead_25 dX9_waitAhead_44 ?_
        refine fw_iload_n (pc := 47) C 2 dX9_waitAhead_47 rfl rfl ?_
        obtain ⟨q9, hq9, h⟩ := fw_bind h
        refine fw_callV1 (pc := 48) C (rest := []) (c_Mod_stepsOf ho ho.2.2.2.2.2.2.2.2.1.2 hq9) (cwV 2 C.2.2.2.2.1 gX9_waitAhead_X9_stepsOf rfl rfl rfl hd_Mod_stepsOf ⟨Nat.le_of_ble_eq_true rfl, Nat.le_of_ble_eq_true rfl⟩) ho.1 rfl rfl ⟨Nat.zero_le _, Nat.zero_le _⟩ rfl (Nat.le_of_ble_eq_true rfl) dX9_waitAhead_48 ?_
        refine fw_istore_n (pc := 51) C (L2 := [(0, .ref _), (1, .int _), (2, .int _), (3, .int _)]) [1, 2, 3, 0] dX9_waitAhead_51 rfl (by decide) rfl ?_
        refine fw_aload_n (pc := 52) C 0 dX9_waitAhead_52 rfl rfl ?_
        refine fw_getr (pc := 53) C ho.2.2.2.2.2.2.2.2.1.1 rfl qX9_waitAhead_25 dX9_waitAhead_53 ?_
        refine fw_iload_n (pc := 56) C 1 dX9_waitAhead_56 rfl rfl ?_
        obtain ⟨v10, hv10, h⟩ := fw_bind h
        refine fw_callS1 (pc := 57) C (rest := []) (c_Mod_waiting ho.2.2.2.2.2.2.2.2.1.2 hv10) (va_cwS 2 C.2.2.2.2.1 gX9_waitAhead_X9_waiting rfl rfl rfl hd_Mod_waiting.2 ⟨Nat.le_of_ble_eq_true rfl, Nat.le_of_ble_eq_true rfl⟩) rfl ⟨Nat.zero_le _, Nat.zero_le _⟩ rfl (Nat.le_of_ble_eq_true rfl) dX9_waitAhead_57 ?_
        obtain ⟨v11, hv11, h⟩ := fw_bind h
        refine fw_callS1 (pc := 60) C (rest := []) (c_Mod_bits  hv11) (va_cwS 1 C.2.2.2.2.1 gX9_waitAhead_X9_bits rfl rfl rfl hd_Mod_bits.2 ⟨Nat.le_of_ble_eq_true rfl, Nat.le_of_ble_eq_true rfl⟩) rfl ⟨Nat.zero_le _, Nat.zero_le _⟩ rfl (Nat.le_of_ble_eq_true rfl) dX9_waitAhead_60 ?_
        exact fw_iret (pc := 63) C (fw_p1 h) (fw_p2 h) dX9_waitAhead_63
      · have h := fw_ift h c7
        exact fw_sub [] rfl (c_Mod_waitAhead_b35 C ho h)
  · have h := fw_ift h c3
    refine fw_ldc (pc := 12) C (v := -1000002) kX9_waitAhead_187 dX9_waitAhead_12 ?_
    exact fw_iret (pc := 14) C (fw_p1 h) (fw_p2 h) dX9_waitAhead_14
theorem c_Mod_waitAhead {l : Launch} {D : va_G} {cI cZ cH cR : ClassId} {N : Nat} {ad : Nat → Nat} {EE : fw_M → Nat → va_E} {o : Nat} {M : fw_M} {a0 : Int32} {a1 : Int32} {z : (Int32 × fw_M)} (ho : o_Mod EE ad N cI cZ cH cR o) (h : P_Mod_waitAhead o M a0 a1 = some z) : fw_Met l yX9_waitAhead wsX9_waitAhead rm_Mod_waitAhead D vwCl (fw_tys cI cZ cH cR) N ad fw_nw0 EE [.ref (ad o), .int a0, .int a1] M (some (.int z.1)) z.2 := by
  unfold P_Mod_waitAhead at h
  exact fw_intro (cc := cX9_waitAhead) (maxL := 4) (ret := some .int) (own := RX9) (by decide) rfl rfl (Nat.le_of_ble_eq_true rfl) (fun p e s m args below meth c C => fw_sub [0, 1, 2] rfl (c_Mod_waitAhead_b0 C ho h))
abbrev rm_Mod_throughBy : Room := { frames := 6, cells := 0, slots := 0, locals := 136 }
theorem hd_Mod_throughBy : yX9_throughBy.cls = RX9 ∧ yX9_throughBy.cls ≠ "java/lang/invoke/MethodHandle" ∧ yX9_throughBy.cls ≠ "java/lang/invoke/VarHandle" ∧ (parseMethodDescriptor yX9_throughBy.desc).map (fun d => d.parameters.length) = some 1 := by decide +kernel
theorem qX9_throughBy_25 : fw_G wsX9_throughBy RX9 25 RX9 TX9 24 7 := ⟨by decide +kernel, by decide +kernel, by decide⟩
theorem kX9_throughBy_90 : Cond.constant RX9 90 (-1000000) ∈ wsX9_throughBy := by decide +kernel
def P_Mod_throughBy_b2 (o : Nat) (K2 : fw_M → Int32 → Int32 → Option (Int32 × fw_M)) (M : fw_M) (x1 : Int32) (x2 : Int32) : Option (Int32 × fw_M) := (if (60 : Int32) < x2 then some ((-1000000 : Int32), M) else (P_Mod_of (o + 6) M x1 (3 : Int32)).bind fun v2 => (if (0 : Int32) ≤ v2 then (P_Mod_step o (o + 6) M).bind fun q4 => K2 q4.2 x1 (x2 + (1 : Int32)) else some (x2, M)))
def P_Mod_throughBy_h2 (o : Nat) : Nat → fw_M → Int32 → Int32 → Option (Int32 × fw_M)
  | 0, _, _, _ => none
  | n + 1, M, x1, x2 => P_Mod_throughBy_b2 o (P_Mod_throughBy_h2 o n) M x1 x2
def P_Mod_throughBy_b0 (o : Nat) (M : fw_M) (x1 : Int32) : Option (Int32 × fw_M) := P_Mod_throughBy_h2 o fw_fu M x1 (0 : Int32)
def P_Mod_throughBy (o : Nat) (M : fw_M) (a0 : Int32) : Option (Int32 × fw_M) := P_Mod_throughBy_b0 o M a0
set_option maxRecDepth 100000 in
theorem c_Mod_throughBy_b2 {p : Program} {l : Launch} {e : Env} {s : State} {m : MethodId} {args : Array Value} {below : List Frame} {meth : Method} {c : Code} {D : va_G} {cI cZ cH cR : ClassId} {N : Nat} {ad : Nat → Nat} {EE : fw_M → Nat → va_E} {o : Nat} {K2 : fw_M → Int32 → Int32 → Option (Int32 × fw_M)} {M : fw_M} {x1 : Int32} {x2 : Int32} {z : (Int32 × fw_M)} (C : fw_C p s m args meth c cX9_throughBy RX9 wsX9_throughBy 4 (some .int) D vwCl (fw_tys cI cZ cH cR) N ad fw_nw0) (ho : o_Mod EE ad N cI cZ cH cR o) (hK2 : ∀ (Mk : fw_M) (kx1 : Int32) (kx2 : Int32), K2 Mk kx1 kx2 = some z → fw_J p l e (headSpec wsX9_throughBy rm_Mod_throughBy).room s m args below meth c D vwCl N ad EE 4 0 0 (fw_E below args s D vwCl N ad EE (some (.int z.1)) z.2) Mk [(0, .ref (ad o)), (1, .int kx1), (2, .int kx2)] 2 []) (h : P_Mod_throughBy_b2 o K2 M x1 x2 = some z) : fw_J p l e (headSpec wsX9_throughBy rm_Mod_throughBy).room s m args below meth c D vwCl N ad EE 4 0 0 (fw_E below args s D vwCl N ad EE (some (.int z.1)) z.2) M [(0, .ref (ad o)), (1, .int x1), (2, .int x2)] 2 [] := by
  unfold P_Mod_throughBy_b2 at h
  refine fw_iload_n (pc := 2) C 2 dX9_throughBy_2 rfl rfl ?_
  refine fw_bipush (pc := 3) C (v := 60) dX9_throughBy_3 fk_bipush_60 ?_
  refine fw_icmp_gt (pc := 5) C (tgt := 37) dX9_throughBy_5 (by decide) (fun c1 => ?_) (fun c1 => ?_)
  · have h := fw_ift h c1
    refine fw_ldc (pc := 37) C (v := -1000000) kX9_throughBy_90 dX9_throughBy_37 ?_
    exact fw_iret (pc := 39) C (fw_p1 h) (fw_p2 h) dX9_throughBy_39
  · have h := fw_iff h c1
    refine fw_aload_n (pc := 8) C 0 dX9_throughBy_8 rfl rfl ?_
    refine fw_getr (pc := 9) C ho.2.2.2.2.2.2.2.2.1.1 rfl qX9_throughBy_25 dX9_throughBy_9 ?_
    refine fw_iload_n (pc := 12) C 1 dX9_throughBy_12 rfl rfl ?_
    refine fw_iconst (pc := 13) C (v := 3) dX9_throughBy_13 fk_iconst_3 ?_
    obtain ⟨v2, hv2, h⟩ := fw_bind h
    refine fw_callS1 (pc := 14) C (rest := []) (c_Mod_of ho.2.2.2.2.2.2.2.2.1.2 hv2) (va_cwS 3 C.2.2.2.2.1 gX9_throughBy_X9_of rfl rfl rfl hd_Mod_of.2 ⟨Nat.le_of_ble_eq_true rfl, Nat.le_of_ble_eq_true rfl⟩) rfl ⟨Nat.zero_le _, Nat.zero_le _⟩ rfl (Nat.le_of_ble_eq_true rfl) dX9_throughBy_14 ?_
    refine fw_if_ge (pc := 17) C (tgt := 22) dX9_throughBy_17 (by decide) (fun c3 => ?_) (fun c3 => ?_)
    · have h := fw_ift h c3
      refine fw_aload_n (pc := 22) C 0 dX9_throughBy_22 rfl rfl ?_
      refine fw_aload_n (pc := 23) C 0 dX9_throughBy_23 rfl rfl ?_
      refine fw_getr (pc := 24) C ho.2.2.2.2.2.2.2.2.1.1 rfl qX9_throughBy_25 dX9_throughBy_24 ?_
      obtain ⟨q4, hq4, h⟩ := fw_bind h
      refine fw_callV1 (pc := 27) C (rest := []) (c_Mod_step ho ho.2.2.2.2.2.2.2.2.1.2 hq4) (cwV 1 C.2.2.2.2.1 gX9_throughBy_X9_step rfl rfl rfl hd_Mod_step ⟨Nat.le_of_ble_eq_true rfl, Nat.le_of_ble_eq_true rfl⟩) ho.1 rfl rfl ⟨Nat.zero_le _, Nat.zero_le _⟩ rfl (Nat.le_of_ble_eq_true rfl) dX9_throughBy_27 ?_
      refine fw_istore_n (pc := 30) C (L2 := [(0, .ref _), (1, .int _), (2, .int _), (3, .int _)]) [1, 2, 3, 0] dX9_throughBy_30 rfl (by decide) rfl ?_
      refine fw_iinc (pc := 31) C (v := 1) (L2 := [(0, .ref _), (1, .int _), (2, .int _), (3, .int _)]) 2 [1, 2, 0, 3] dX9_throughBy_31 rfl fk_iconst_1 (by decide) rfl ?_
      refine fw_goto (pc := 34) C (tgt := 2) dX9_throughBy_34 (by decide) ?_
      exact fw_sub [0, 1, 2] rfl (hK2 _ _ _ h)
    · have h := fw_iff h c3
      refine fw_iload_n (pc := 20) C 2 dX9_throughBy_20 rfl rfl ?_
      exact fw_iret (pc := 21) C (fw_p1 h) (fw_p2 h) dX9_throughBy_21
theorem c_Mod_throughBy_h2 {p : Program} {l : Launch} {e : Env} {s : State} {m : MethodId} {args : Array Value} {below : List Frame} {meth : Method} {c : Code} {D : va_G} {cI cZ cH cR : ClassId} {N : Nat} {ad : Nat → Nat} {EE : fw_M → Nat → va_E} {o : Nat} {z : (Int32 × fw_M)} (C : fw_C p s m args meth c cX9_throughBy RX9 wsX9_throughBy 4 (some .int) D vwCl (fw_tys cI cZ cH cR) N ad fw_nw0) (ho : o_Mod EE ad N cI cZ cH cR o) : ∀ (n : Nat) (M : fw_M) (x1 : Int32) (x2 : Int32), P_Mod_throughBy_h2 o n M x1 x2 = some z → fw_J p l e (headSpec wsX9_throughBy rm_Mod_throughBy).room s m args below meth c D vwCl N ad EE 4 0 0 (fw_E below args s D vwCl N ad EE (some (.int z.1)) z.2) M [(0, .ref (ad o)), (1, .int x1), (2, .int x2)] 2 [] := by
  intro n
  induction n with
  | zero => intro M x1 x2  h; cases h
  | succ n ih => intro M x1 x2  h; exact c_Mod_throughBy_b2 C ho ih  h
set_option maxRecDepth 100000 in
theorem c_Mod_throughBy_b0 {p : Program} {l : Launch} {e : Env} {s : State} {m : MethodId} {args : Array Value} {below : List Frame} {meth : Method} {c : Code} {D : va_G} {cI cZ cH cR : ClassId} {N : Nat} {ad : Nat → Nat} {EE : fw_M → Nat → va_E} {o : Nat} {M : fw_M} {x1 : Int32} {z : (Int32 × fw_M)} (C : fw_C p s m args meth c cX9_throughBy RX9 wsX9_throughBy 4 (some .int) D vwCl (fw_tys cI cZ cH cR) N ad fw_nw0) (ho : o_Mod EE ad N cI cZ cH cR o) (h : P_Mod_throughBy_b0 o M x1 = some z) : fw_J p l e (headSpec wsX9_throughBy rm_Mod_throughBy).room s m args below meth c D vwCl N ad EE 4 0 0 (fw_E below args s D vwCl N ad EE (some (.int z.1)) z.2) M [(0, .ref (ad o)), (1, .int x1)] 0 [] := by
  unfold P_Mod_throughBy_b0 at h
  refine fw_iconst (pc := 0) C (v := 0) dX9_throughBy_0 fk_iconst_0 ?_
  refine fw_istore_n (pc := 1) C (L2 := [(0, .ref _), (1, .int _), (2, .int _)]) [1, 2, 0] dX9_throughBy_1 rfl (by decide) rfl ?_
  exact (c_Mod_throughBy_h2 C ho _ _ _ _ h)
theorem c_Mod_throughBy {l : Launch} {D : va_G} {cI cZ cH cR : ClassId} {N : Nat} {ad : Nat → Nat} {EE : fw_M → Nat → va_E} {o : Nat} {M : fw_M} {a0 : Int32} {z : (Int32 × fw_M)} (ho : o_Mod EE ad N cI cZ cH cR o) (h : P_Mod_throughBy o M a0 = some z) : fw_Met l yX9_throughBy wsX9_throughBy rm_Mod_throughBy D vwCl (fw_tys cI cZ cH cR) N ad fw_nw0 EE [.ref (ad o), .int a0] M (some (.int z.1)) z.2 := by
  unfold P_Mod_throughBy at h
  exact fw_intro (cc := cX9_throughBy) (maxL := 4) (ret := some .int) (own := RX9) (by decide) rfl rfl (Nat.le_of_ble_eq_true rfl) (fun p e s m args below meth c C => fw_sub [0, 1] rfl (c_Mod_throughBy_b0 C ho h))
abbrev rm_Mod_goes : Room := { frames := 7, cells := 0, slots := 0, locals := 159 }
theorem hd_Mod_goes : yX9_goes.cls = RX9 ∧ yX9_goes.cls ≠ "java/lang/invoke/MethodHandle" ∧ yX9_goes.cls ≠ "java/lang/invoke/VarHandle" ∧ (parseMethodDescriptor yX9_goes.desc).map (fun d => d.parameters.length) = some 1 := by decide +kernel
theorem qX9_goes_47 : fw_G wsX9_goes RX9 47 RX9 TX9 24 0 := ⟨by decide +kernel, by decide +kernel, by decide⟩
theorem kX9_goes_67 : Cond.constant RX9 67 (-1000001) ∈ wsX9_goes := by decide +kernel
def P_Mod_goes_b0 (o : Nat) (M : fw_M) (x1 : Int32) : Option (Int32 × fw_M) := fw_pl (fw_set M o 0 (0 : Int32)) fun M1 => (P_Mod_isPerson o M1 x1).bind fun v2 => (if v2 = (0 : Int32) then some ((-1000001 : Int32), M1) else (P_Mod_layThen o M1).bind fun q4 => (P_Mod_throughBy o q4 x1).bind fun q5 => some (q5.1, q5.2))
def P_Mod_goes (o : Nat) (M : fw_M) (a0 : Int32) : Option (Int32 × fw_M) := P_Mod_goes_b0 o M a0
set_option maxRecDepth 100000 in
theorem c_Mod_goes_b0 {p : Program} {l : Launch} {e : Env} {s : State} {m : MethodId} {args : Array Value} {below : List Frame} {meth : Method} {c : Code} {D : va_G} {cI cZ cH cR : ClassId} {N : Nat} {ad : Nat → Nat} {EE : fw_M → Nat → va_E} {o : Nat} {M : fw_M} {x1 : Int32} {z : (Int32 × fw_M)} (C : fw_C p s m args meth c cX9_goes RX9 wsX9_goes 2 (some .int) D vwCl (fw_tys cI cZ cH cR) N ad fw_nw0) (ho : o_Mod EE ad N cI cZ cH cR o) (h : P_Mod_goes_b0 o M x1 = some z) : fw_J p l e (headSpec wsX9_goes rm_Mod_goes).room s m args below meth c D vwCl N ad EE 2 0 0 (fw_E below args s D vwCl N ad EE (some (.int z.1)) z.2) M [(0, .ref (ad o)), (1, .int x1)] 0 [] := by
  unfold P_Mod_goes_b0 at h
  refine fw_aload_n (pc := 0) C 0 dX9_goes_0 rfl rfl ?_
  refine fw_iconst (pc := 1) C (v := 0) dX9_goes_1 fk_iconst_0 ?_
  have h := fw_plh h
  refine fw_puti (pc := 2) C ho.2.1 rfl qX9_goes_47 tyX9 tyX9_ok nmX9 rfl rfl dX9_goes_2 ?_
  refine fw_aload_n (pc := 5) C 0 dX9_goes_5 rfl rfl ?_
  refine fw_iload_n (pc := 6) C 1 dX9_goes_6 rfl rfl ?_
  obtain ⟨v2, hv2, h⟩ := fw_bind h
  refine fw_callV1 (pc := 7) C (rest := []) (c_Mod_isPerson ho hv2) (cwV 1 C.2.2.2.2.1 gX9_goes_X9_isPerson rfl rfl rfl hd_Mod_isPerson ⟨Nat.le_of_ble_eq_true rfl, Nat.le_of_ble_eq_true rfl⟩) ho.1 rfl rfl ⟨Nat.zero_le _, Nat.zero_le _⟩ rfl (Nat.le_of_ble_eq_true rfl) dX9_goes_7 ?_
  refine fw_if_ne (pc := 10) C (tgt := 16) dX9_goes_10 (by decide) (fun c3 => ?_) (fun c3 => ?_)
  · have h := fw_iff h c3
    refine fw_aload_n (pc := 16) C 0 dX9_goes_16 rfl rfl ?_
    obtain ⟨q4, hq4, h⟩ := fw_bind h
    refine fw_callV0 (pc := 17) C (rest := []) (c_Mod_layThen ho hq4) (cwV 0 C.2.2.2.2.1 gX9_goes_X9_layThen rfl rfl rfl hd_Mod_layThen ⟨Nat.le_of_ble_eq_true rfl, Nat.le_of_ble_eq_true rfl⟩) ho.1 rfl rfl ⟨Nat.zero_le _, Nat.zero_le _⟩ rfl (Nat.le_of_ble_eq_true rfl) dX9_goes_17 ?_
    refine fw_aload_n (pc := 20) C 0 dX9_goes_20 rfl rfl ?_
    refine fw_iload_n (pc := 21) C 1 dX9_goes_21 rfl rfl ?_
    obtain ⟨q5, hq5, h⟩ := fw_bind h
    refine fw_callV1 (pc := 22) C (rest := []) (c_Mod_throughBy ho hq5) (cwV 1 C.2.2.2.2.1 gX9_goes_X9_throughBy rfl rfl rfl hd_Mod_throughBy ⟨Nat.le_of_ble_eq_true rfl, Nat.le_of_ble_eq_true rfl⟩) ho.1 rfl rfl ⟨Nat.zero_le _, Nat.zero_le _⟩ rfl (Nat.le_of_ble_eq_true rfl) dX9_goes_22 ?_
    exact fw_iret (pc := 25) C (fw_p1 h) (fw_p2 h) dX9_goes_25
  · have h := fw_ift h c3
    refine fw_ldc (pc := 13) C (v := -1000001) kX9_goes_67 dX9_goes_13 ?_
    exact fw_iret (pc := 15) C (fw_p1 h) (fw_p2 h) dX9_goes_15
theorem c_Mod_goes {l : Launch} {D : va_G} {cI cZ cH cR : ClassId} {N : Nat} {ad : Nat → Nat} {EE : fw_M → Nat → va_E} {o : Nat} {M : fw_M} {a0 : Int32} {z : (Int32 × fw_M)} (ho : o_Mod EE ad N cI cZ cH cR o) (h : P_Mod_goes o M a0 = some z) : fw_Met l yX9_goes wsX9_goes rm_Mod_goes D vwCl (fw_tys cI cZ cH cR) N ad fw_nw0 EE [.ref (ad o), .int a0] M (some (.int z.1)) z.2 := by
  unfold P_Mod_goes at h
  exact fw_intro (cc := cX9_goes) (maxL := 2) (ret := some .int) (own := RX9) (by decide) rfl rfl (Nat.le_of_ble_eq_true rfl) (fun p e s m args below meth c C => fw_sub [0, 1] rfl (c_Mod_goes_b0 C ho h))
abbrev rm_Mod_stuck : Room := { frames := 7, cells := 0, slots := 0, locals := 160 }
theorem hd_Mod_stuck : yX9_stuck.cls = RX9 ∧ yX9_stuck.cls ≠ "java/lang/invoke/MethodHandle" ∧ yX9_stuck.cls ≠ "java/lang/invoke/VarHandle" ∧ (parseMethodDescriptor yX9_stuck.desc).map (fun d => d.parameters.length) = some 0 := by decide +kernel
theorem qX9_stuck_47 : fw_G wsX9_stuck RX9 47 RX9 TX9 24 0 := ⟨by decide +kernel, by decide +kernel, by decide⟩
theorem kX9_stuck_187 : Cond.constant RX9 187 (-1000002) ∈ wsX9_stuck := by decide +kernel
theorem qX9_stuck_25 : fw_G wsX9_stuck RX9 25 RX9 TX9 24 7 := ⟨by decide +kernel, by decide +kernel, by decide⟩
def P_Mod_stuck_b64 (o : Nat) (K34 : fw_M → Int32 → Int32 → Option (Int32 × fw_M)) (M : fw_M) (x3 : Int32) (t0 : Int32) (t1 : Int32) : Option (Int32 × fw_M) := fw_pl ((t0 ||| t1)) fun y1 => K34 M y1 (x3 + (1 : Int32))
def P_Mod_stuck_b34 (o : Nat) (K34 : fw_M → Int32 → Int32 → Option (Int32 × fw_M)) (M : fw_M) (x2 : Int32) (x3 : Int32) : Option (Int32 × fw_M) := (fw_ald M (o + 6) 39 (2 : Int32)).bind fun v1 => (if v1 ≤ x3 then some (x2, M) else (P_Mod_of (o + 6) M x3 (3 : Int32)).bind fun v3 => (if (0 : Int32) ≤ v3 then P_Mod_stuck_b64 o K34 M x3 x2 ((1 : Int32) <<< (x3 &&& 31)) else P_Mod_stuck_b64 o K34 M x3 x2 (0 : Int32)))
def P_Mod_stuck_h34 (o : Nat) : Nat → fw_M → Int32 → Int32 → Option (Int32 × fw_M)
  | 0, _, _, _ => none
  | n + 1, M, x2, x3 => P_Mod_stuck_b34 o (P_Mod_stuck_h34 o n) M x2 x3
def P_Mod_stuck_b0 (o : Nat) (M : fw_M) : Option (Int32 × fw_M) := fw_pl (fw_set M o 0 (0 : Int32)) fun M1 => (P_Mod_isThere o M1).bind fun v2 => (if v2 = (0 : Int32) then some ((-1000002 : Int32), M1) else (P_Mod_layThen o M1).bind fun q4 => (P_Mod_stepsOf o (o + 6) q4 (60 : Int32)).bind fun q5 => P_Mod_stuck_h34 o fw_fu q5.2 (0 : Int32) (0 : Int32))
def P_Mod_stuck (o : Nat) (M : fw_M) : Option (Int32 × fw_M) := P_Mod_stuck_b0 o M
set_option maxRecDepth 100000 in
theorem c_Mod_stuck_b64 {p : Program} {l : Launch} {e : Env} {s : State} {m : MethodId} {args : Array Value} {below : List Frame} {meth : Method} {c : Code} {D : va_G} {cI cZ cH cR : ClassId} {N : Nat} {ad : Nat → Nat} {EE : fw_M → Nat → va_E} {o : Nat} {K34 : fw_M → Int32 → Int32 → Option (Int32 × fw_M)} {M : fw_M} {x3 : Int32} {t0 : Int32} {t1 : Int32} {z : (Int32 × fw_M)} (C : fw_C p s m args meth c cX9_stuck RX9 wsX9_stuck 4 (some .int) D vwCl (fw_tys cI cZ cH cR) N ad fw_nw0) (ho : o_Mod EE ad N cI cZ cH cR o) (hK34 : ∀ (Mk : fw_M) (kx2 : Int32) (kx3 : Int32), K34 Mk kx2 kx3 = some z → fw_J p l e (headSpec wsX9_stuck rm_Mod_stuck).room s m args below meth c D vwCl N ad EE 4 0 0 (fw_E below args s D vwCl N ad EE (some (.int z.1)) z.2) Mk [(0, .ref (ad o)), (2, .int kx2), (3, .int kx3)] 34 []) (h : P_Mod_stuck_b64 o K34 M x3 t0 t1 = some z) : fw_J p l e (headSpec wsX9_stuck rm_Mod_stuck).room s m args below meth c D vwCl N ad EE 4 0 0 (fw_E below args s D vwCl N ad EE (some (.int z.1)) z.2) M [(0, .ref (ad o)), (3, .int x3)] 64 [.int t1, .int t0] := by
  unfold P_Mod_stuck_b64 at h
  refine fw_ior (pc := 64) C dX9_stuck_64 ?_
  have h := fw_plh h
  refine fw_istore_n (pc := 65) C (L2 := [(0, .ref _), (2, .int _), (3, .int _)]) [1, 0, 2] dX9_stuck_65 rfl (by decide) rfl ?_
  refine fw_iinc (pc := 66) C (v := 1) (L2 := [(0, .ref _), (2, .int _), (3, .int _)]) 2 [1, 2, 0] dX9_stuck_66 rfl fk_iconst_1 (by decide) rfl ?_
  refine fw_goto (pc := 69) C (tgt := 34) dX9_stuck_69 (by decide) ?_
  exact (hK34 _ _ _ h)
set_option maxRecDepth 100000 in
theorem c_Mod_stuck_b34 {p : Program} {l : Launch} {e : Env} {s : State} {m : MethodId} {args : Array Value} {below : List Frame} {meth : Method} {c : Code} {D : va_G} {cI cZ cH cR : ClassId} {N : Nat} {ad : Nat → Nat} {EE : fw_M → Nat → va_E} {o : Nat} {K34 : fw_M → Int32 → Int32 → Option (Int32 × fw_M)} {M : fw_M} {x2 : Int32} {x3 : Int32} {z : (Int32 × fw_M)} (C : fw_C p s m args meth c cX9_stuck RX9 wsX9_stuck 4 (some .int) D vwCl (fw_tys cI cZ cH cR) N ad fw_nw0) (ho : o_Mod EE ad N cI cZ cH cR o) (hK34 : ∀ (Mk : fw_M) (kx2 : Int32) (kx3 : Int32), K34 Mk kx2 kx3 = some z → fw_J p l e (headSpec wsX9_stuck rm_Mod_stuck).room s m args below meth c D vwCl N ad EE 4 0 0 (fw_E below args s D vwCl N ad EE (some (.int z.1)) z.2) Mk [(0, .ref (ad o)), (2, .int kx2), (3, .int kx3)] 34 []) (h : P_Mod_stuck_b34 o K34 M x2 x3 = some z) : fw_J p l e (headSpec wsX9_stuck rm_Mod_stuck).room s m args below meth c D vwCl N ad EE 4 0 0 (fw_E below args s D vwCl N ad EE (some (.int z.1)) z.2) M [(0, .ref (ad o)), (2, .int x2), (3, .int x3)] 34 [] := by
  unfold P_Mod_stuck_b34 at h
  refine fw_iload_n (pc := 34) C 2 dX9_stuck_34 rfl rfl ?_
  refine fw_aload_n (pc := 35) C 0 dX9_stuck_35 rfl rfl ?_
  refine fw_getr (pc := 36) C ho.2.2.2.2.2.2.2.2.1.1 rfl qX9_stuck_25 dX9_stuck_36 ?_
  refine fw_iconst (pc := 39) C (v := 2) dX9_stuck_39 fk_iconst_2 ?_
  obtain ⟨v1, hv1, h⟩ := fw_bind h
  refine fw_iald (pc := 40) C 0 ho.2.2.2.2.2.2.2.2.1.2 rfl hv1 dX9_stuck_40 ?_
  refine fw_icmp_ge (pc := 41) C (tgt := 72) dX9_stuck_41 (by decide) (fun c2 => ?_) (fun c2 => ?_)
  · have h := fw_ift h c2
    refine fw_iload_n (pc := 72) C 1 dX9_stuck_72 rfl rfl ?_
    exact fw_iret (pc := 73) C (fw_p1 h) (fw_p2 h) dX9_stuck_73
  · have h := fw_iff h c2
    refine fw_iload_n (pc := 44) C 1 dX9_stuck_44 rfl rfl ?_
    refine fw_aload_n (pc := 45) C 0 dX9_stuck_45 rfl rfl ?_
    refine fw_getr (pc := 46) C ho.2.2.2.2.2.2.2.2.1.1 rfl qX9_stuck_25 dX9_stuck_46 ?_
    refine fw_iload_n (pc := 49) C 2 dX9_stuck_49 rfl rfl ?_
    refine fw_iconst (pc := 50) C (v := 3) dX9_stuck_50 fk_iconst_3 ?_
    obtain ⟨v3, hv3, h⟩ := fw_bind h
    refine fw_callS1 (pc := 51) C (rest := [_]) (c_Mod_of ho.2.2.2.2.2.2.2.2.1.2 hv3) (va_cwS 3 C.2.2.2.2.1 gX9_stuck_X9_of rfl rfl rfl hd_Mod_of.2 ⟨Nat.le_of_ble_eq_true rfl, Nat.le_of_ble_eq_true rfl⟩) rfl ⟨Nat.zero_le _, Nat.zero_le _⟩ rfl (Nat.le_of_ble_eq_true rfl) dX9_stuck_51 ?_
    refine fw_if_ge (pc := 54) C (tgt := 61) dX9_stuck_54 (by decide) (fun c4 => ?_) (fun c4 => ?_)
    · have h := fw_ift h c4
      refine fw_iconst (pc := 61) C (v := 1) dX9_stuck_61 fk_iconst_1 ?_
      refine fw_iload_n (pc := 62) C 2 dX9_stuck_62 rfl rfl ?_
      refine fw_ishl (pc := 63) C dX9_stuck_63 ?_
      exact fw_sub [0, 2] rfl (c_Mod_stuck_b64 C ho hK34 h)
    · have h := fw_iff h c4
      refine fw_iconst (pc := 57) C (v := 0) dX9_stuck_57 fk_iconst_0 ?_
      refine fw_goto (pc := 58) C (tgt := 64) dX9_stuck_58 (by decide) ?_
      exact fw_sub [0, 2] rfl (c_Mod_stuck_b64 C ho hK34 h)
theorem c_Mod_stuck_h34 {p : Program} {l : Launch} {e : Env} {s : State} {m : MethodId} {args : Array Value} {below : List Frame} {meth : Method} {c : Code} {D : va_G} {cI cZ cH cR : ClassId} {N : Nat} {ad : Nat → Nat} {EE : fw_M → Nat → va_E} {o : Nat} {z : (Int32 × fw_M)} (C : fw_C p s m args meth c cX9_stuck RX9 wsX9_stuck 4 (some .int) D vwCl (fw_tys cI cZ cH cR) N ad fw_nw0) (ho : o_Mod EE ad N cI cZ cH cR o) : ∀ (n : Nat) (M : fw_M) (x2 : Int32) (x3 : Int32), P_Mod_stuck_h34 o n M x2 x3 = some z → fw_J p l e (headSpec wsX9_stuck rm_Mod_stuck).room s m args below meth c D vwCl N ad EE 4 0 0 (fw_E below args s D vwCl N ad EE (some (.int z.1)) z.2) M [(0, .ref (ad o)), (2, .int x2), (3, .int x3)] 34 [] := by
  intro n
  induction n with
  | zero => intro M x2 x3  h; cases h
  | succ n ih => intro M x2 x3  h; exact c_Mod_stuck_b34 C ho ih  h
set_option maxRecDepth 100000 in
theorem c_Mod_stuck_b0 {p : Program} {l : Launch} {e : Env} {s : State} {m : MethodId} {args : Array Value} {below : List Frame} {meth : Method} {c : Code} {D : va_G} {cI cZ cH cR : ClassId} {N : Nat} {ad : Nat → Nat} {EE : fw_M → Nat → va_E} {o : Nat} {M : fw_M} {z : (Int32 × fw_M)} (C : fw_C p s m args meth c cX9_stuck RX9 wsX9_stuck 4 (some .int) D vwCl (fw_tys cI cZ cH cR) N ad fw_nw0) (ho : o_Mod EE ad N cI cZ cH cR o) (h : P_Mod_stuck_b0 o M = some z) : fw_J p l e (headSpec wsX9_stuck rm_Mod_stuck).room s m args below meth c D vwCl N ad EE 4 0 0 (fw_E below args s D vwCl N ad EE (some (.int z.1)) z.2) M [(0, .ref (ad o))] 0 [] := by
  unfold P_Mod_stuck_b0 at h
  refine fw_aload_n (pc := 0) C 0 dX9_stuck_0 rfl rfl ?_
  refine fw_iconst (pc := 1) C (v := 0) dX9_stuck_1 fk_iconst_0 ?_
  have h := fw_plh h
  refine fw_puti (pc := 2) C ho.2.1 rfl qX9_stuck_47 tyX9 tyX9_ok nmX9 rfl rfl dX9_stuck_2 ?_
  refine fw_aload_n (pc := 5) C 0 dX9_stuck_5 rfl rfl ?_
  obtain ⟨v2, hv2, h⟩ := fw_bind h
  refine fw_callV1 (pc := 6) C (rest := []) (c_Mod_isThere ho hv2) (cwV 0 C.2.2.2.2.1 gX9_stuck_X9_isThere rfl rfl rfl hd_Mod_isThere ⟨Nat.le_of_ble_eq_true rfl, Nat.le_of_ble_eq_true rfl⟩) ho.1 rfl rfl ⟨Nat.zero_le _, Nat.zero_le _⟩ rfl (Nat.le_of_ble_eq_true rfl) dX9_stuck_6 ?_
  refine fw_if_ne (pc := 9) C (tgt := 15) dX9_stuck_9 (by decide) (fun c3 => ?_) (fun c3 => ?_)
  · have h := fw_iff h c3
    refine fw_aload_n (pc := 15) C 0 dX9_stuck_15 rfl rfl ?_
    obtain ⟨q4, hq4, h⟩ := fw_bind h
    refine fw_callV0 (pc := 16) C (rest := []) (c_Mod_layThen ho hq4) (cwV 0 C.2.2.2.2.1 gX9_stuck_X9_layThen rfl rfl rfl hd_Mod_layThen ⟨Nat.le_of_ble_eq_true rfl, Nat.le_of_ble_eq_true rfl⟩) ho.1 rfl rfl ⟨Nat.zero_le _, Nat.zero_le _⟩ rfl (Nat.le_of_ble_eq_true rfl) dX9_stuck_16 ?_
    refine fw_aload_n (pc := 19) C 0 dX9_stuck_19 rfl rfl ?_
    refine fw_aload_n (pc := 20) C 0 dX9_stuck_20 rfl rfl ?_
    refine fw_getr (pc := 21) C ho.2.2.2.2.2.2.2.2.1.1 rfl qX9_stuck_25 dX9_stuck_21 ?_
    refine fw_bipush (pc := 24) C (v := 60) dX9_stuck_24 fk_bipush_60 ?_
    obtain ⟨q5, hq5, h⟩ := fw_bind h
    refine fw_callV1 (pc := 26) C (rest := []) (c_Mod_stepsOf ho ho.2.2.2.2.2.2.2.2.1.2 hq5) (cwV 2 C.2.2.2.2.1 gX9_stuck_X9_stepsOf rfl rfl rfl hd_Mod_stepsOf ⟨Nat.le_of_ble_eq_true rfl, Nat.le_of_ble_eq_true rfl⟩) ho.1 rfl rfl ⟨Nat.zero_le _, Nat.zero_le _⟩ rfl (Nat.le_of_ble_eq_true rfl) dX9_stuck_26 ?_
    refine fw_istore_n (pc := 29) C (L2 := [(0, .ref _), (1, .int _)]) [1, 0] dX9_stuck_29 rfl (by decide) rfl ?_
    refine fw_iconst (pc := 30) C (v := 0) dX9_stuck_30 fk_iconst_0 ?_
    refine fw_istore_n (pc := 31) C (L2 := [(0, .ref _), (1, .int _), (2, .int _)]) [1, 2, 0] dX9_stuck_31 rfl (by decide) rfl ?_
    refine fw_iconst (pc := 32) C (v := 0) dX9_stuck_32 fk_iconst_0 ?_
    refine fw_istore_n (pc := 33) C (L2 := [(0, .ref _), (1, .int _), (2, .int _), (3, .int _)]) [1, 2, 3, 0] dX9_stuck_33 rfl (by decide) rfl ?_
    exact fw_sub [0, 2, 3] rfl (c_Mod_stuck_h34 C ho _ _ _ _ h)
  · have h := fw_ift h c3
    refine fw_ldc (pc := 12) C (v := -1000002) kX9_stuck_187 dX9_stuck_12 ?_
    exact fw_iret (pc := 14) C (fw_p1 h) (fw_p2 h) dX9_stuck_14
theorem c_Mod_stuck {l : Launch} {D : va_G} {cI cZ cH cR : ClassId} {N : Nat} {ad : Nat → Nat} {EE : fw_M → Nat → va_E} {o : Nat} {M : fw_M} {z : (Int32 × fw_M)} (ho : o_Mod EE ad N cI cZ cH cR o) (h : P_Mod_stuck o M = some z) : fw_Met l yX9_stuck wsX9_stuck rm_Mod_stuck D vwCl (fw_tys cI cZ cH cR) N ad fw_nw0 EE [.ref (ad o)] M (some (.int z.1)) z.2 := by
  unfold P_Mod_stuck at h
  exact fw_intro (cc := cX9_stuck) (maxL := 4) (ret := some .int) (own := RX9) (by decide) rfl rfl (Nat.le_of_ble_eq_true rfl) (fun p e s m args below meth c C => fw_sub [0] rfl (c_Mod_stuck_b0 C ho h))
abbrev rm_Mod_hasRing : Room := { frames := 3, cells := 0, slots := 0, locals := 68 }
theorem hd_Mod_hasRing : yX9_hasRing.cls = RX9 ∧ yX9_hasRing.cls ≠ "java/lang/invoke/MethodHandle" ∧ yX9_hasRing.cls ≠ "java/lang/invoke/VarHandle" ∧ (parseMethodDescriptor yX9_hasRing.desc).map (fun d => d.parameters.length) = some 1 := by decide +kernel
theorem qX9_hasRing_19 : fw_G wsX9_hasRing RX9 19 RX9 TX9 24 5 := ⟨by decide +kernel, by decide +kernel, by decide⟩
def P_Mod_hasRing_b90 (o : Nat) (M : fw_M) (t0 : Int32) : Option Int32 := (fw_zr t0).bind fun v1 => some v1
def P_Mod_hasRing_b63 (o : Nat) (M : fw_M) (K4 : Int32 → Int32 → Option Int32) (K16 : Int32 → Int32 → Int32 → Int32 → Option Int32) (x2 : Int32) (x3 : Int32) (x5 : Int32) (t0 : Int32) (t1 : Int32) : Option Int32 := fw_pl ((t0 &&& t1)) fun y1 => K16 x2 x3 y1 (x5 + (1 : Int32))
def P_Mod_hasRing_b62 (o : Nat) (M : fw_M) (K4 : Int32 → Int32 → Option Int32) (K16 : Int32 → Int32 → Int32 → Int32 → Option Int32) (x2 : Int32) (x3 : Int32) (x5 : Int32) (t0 : Int32) : Option Int32 := P_Mod_hasRing_b63 o M K4 K16 x2 x3 x5 t0 (-1 : Int32)
def P_Mod_hasRing_b16 (o : Nat) (M : fw_M) (K4 : Int32 → Int32 → Option Int32) (K16 : Int32 → Int32 → Int32 → Int32 → Option Int32) (x2 : Int32) (x3 : Int32) (x4 : Int32) (x5 : Int32) : Option Int32 := (fw_ald M (o + 4) 39 (2 : Int32)).bind fun v1 => (if v1 ≤ x5 then K4 x4 (x3 + (1 : Int32)) else (if ((x2 >>> (x5 &&& 31)) &&& (1 : Int32)) = (1 : Int32) then (P_Mod_yieldsTo (o + 4) M x5).bind fun v4 => (if (v4 &&& x2) = (0 : Int32) then P_Mod_hasRing_b63 o M K4 K16 x2 x3 x5 x4 (((1 : Int32) <<< (x5 &&& 31)) ^^^ (-1 : Int32)) else P_Mod_hasRing_b62 o M K4 K16 x2 x3 x5 x4) else P_Mod_hasRing_b62 o M K4 K16 x2 x3 x5 x4))
def P_Mod_hasRing_h16 (o : Nat) (M : fw_M) (K4 : Int32 → Int32 → Option Int32) : Nat → Int32 → Int32 → Int32 → Int32 → Option Int32
  | 0, _, _, _, _ => none
  | n + 1, x2, x3, x4, x5 => P_Mod_hasRing_b16 o M K4 (P_Mod_hasRing_h16 o M K4 n) x2 x3 x4 x5
def P_Mod_hasRing_b4 (o : Nat) (M : fw_M) (K4 : Int32 → Int32 → Option Int32) (x2 : Int32) (x3 : Int32) : Option Int32 := (if (7 : Int32) ≤ x3 then (if x2 = (0 : Int32) then P_Mod_hasRing_b90 o M (0 : Int32) else P_Mod_hasRing_b90 o M (1 : Int32)) else P_Mod_hasRing_h16 o M K4 fw_fu x2 x3 x2 (0 : Int32))
def P_Mod_hasRing_h4 (o : Nat) (M : fw_M) : Nat → Int32 → Int32 → Option Int32
  | 0, _, _ => none
  | n + 1, x2, x3 => P_Mod_hasRing_b4 o M (P_Mod_hasRing_h4 o M n) x2 x3
def P_Mod_hasRing_b0 (o : Nat) (M : fw_M) (x1 : Int32) : Option Int32 := P_Mod_hasRing_h4 o M fw_fu x1 (0 : Int32)
def P_Mod_hasRing (o : Nat) (M : fw_M) (a0 : Int32) : Option Int32 := P_Mod_hasRing_b0 o M a0
set_option maxRecDepth 100000 in
theorem c_Mod_hasRing_b90 {p : Program} {l : Launch} {e : Env} {s : State} {m : MethodId} {args : Array Value} {below : List Frame} {meth : Method} {c : Code} {D : va_G} {cI cZ cH cR : ClassId} {N : Nat} {ad : Nat → Nat} {EE : fw_M → Nat → va_E} {o : Nat} {M : fw_M} {t0 : Int32} {z : Int32} (C : fw_C p s m args meth c cX9_hasRing RX9 wsX9_hasRing 6 (some .boolean) D vwCl (fw_tys cI cZ cH cR) N ad fw_nw0) (ho : o_Mod EE ad N cI cZ cH cR o) (h : P_Mod_hasRing_b90 o M t0 = some z) : fw_J p l e (headSpec wsX9_hasRing rm_Mod_hasRing).room s m args below meth c D vwCl N ad EE 6 0 0 (fw_E below args s D vwCl N ad EE (some (.int z)) M) M [] 90 [.int t0] := by
  unfold P_Mod_hasRing_b90 at h
  obtain ⟨v1, hv1, h⟩ := fw_bind h
  exact fw_zret (pc := 90) C (fw_zrh hv1).1 ((fw_zrh hv1).2.trans (Option.some.inj h)) rfl dX9_hasRing_90
set_option maxRecDepth 100000 in
theorem c_Mod_hasRing_b63 {p : Program} {l : Launch} {e : Env} {s : State} {m : MethodId} {args : Array Value} {below : List Frame} {meth : Method} {c : Code} {D : va_G} {cI cZ cH cR : ClassId} {N : Nat} {ad : Nat → Nat} {EE : fw_M → Nat → va_E} {o : Nat} {M : fw_M} {K4 : Int32 → Int32 → Option Int32} {K16 : Int32 → Int32 → Int32 → Int32 → Option Int32} {x2 : Int32} {x3 : Int32} {x5 : Int32} {t0 : Int32} {t1 : Int32} {z : Int32} (C : fw_C p s m args meth c cX9_hasRing RX9 wsX9_hasRing 6 (some .boolean) D vwCl (fw_tys cI cZ cH cR) N ad fw_nw0) (ho : o_Mod EE ad N cI cZ cH cR o) (hK4 : ∀ (kx2 : Int32) (kx3 : Int32), K4 kx2 kx3 = some z → fw_J p l e (headSpec wsX9_hasRing rm_Mod_hasRing).room s m args below meth c D vwCl N ad EE 6 0 0 (fw_E below args s D vwCl N ad EE (some (.int z)) M) M [(0, .ref (ad o)), (2, .int kx2), (3, .int kx3)] 4 []) (hK16 : ∀ (kx2 : Int32) (kx3 : Int32) (kx4 : Int32) (kx5 : Int32), K16 kx2 kx3 kx4 kx5 = some z → fw_J p l e (headSpec wsX9_hasRing rm_Mod_hasRing).room s m args below meth c D vwCl N ad EE 6 0 0 (fw_E below args s D vwCl N ad EE (some (.int z)) M) M [(0, .ref (ad o)), (2, .int kx2), (3, .int kx3), (4, .int kx4), (5, .int kx5)] 16 []) (h : P_Mod_hasRing_b63 o M K4 K16 x2 x3 x5 t0 t1 = some z) : fw_J p l e (headSpec wsX9_hasRing rm_Mod_hasRing).room s m args below meth c D vwCl N ad EE 6 0 0 (fw_E below args s D vwCl N ad EE (some (.int z)) M) M [(0, .ref (ad o)), (2, .int x2), (3, .int x3), (5, .int x5)] 63 [.int t1, .int t0] := by
  unfold P_Mod_hasRing_b63 at h
  refine fw_iand (pc := 63) C dX9_hasRing_63 ?_
  have h := fw_plh h
  refine fw_istore (pc := 64) C (L2 := [(0, .ref _), (2, .int _), (3, .int _), (4, .int _), (5, .int _)]) [1, 2, 3, 0, 4] dX9_hasRing_64 (by decide) rfl ?_
  refine fw_iinc (pc := 66) C (v := 1) (L2 := [(0, .ref _), (2, .int _), (3, .int _), (4, .int _), (5, .int _)]) 4 [1, 2, 3, 4, 0] dX9_hasRing_66 rfl fk_iconst_1 (by decide) rfl ?_
  refine fw_goto (pc := 69) C (tgt := 16) dX9_hasRing_69 (by decide) ?_
  exact (hK16 _ _ _ _ h)
set_option maxRecDepth 100000 in
theorem c_Mod_hasRing_b62 {p : Program} {l : Launch} {e : Env} {s : State} {m : MethodId} {args : Array Value} {below : List Frame} {meth : Method} {c : Code} {D : va_G} {cI cZ cH cR : ClassId} {N : Nat} {ad : Nat → Nat} {EE : fw_M → Nat → va_E} {o : Nat} {M : fw_M} {K4 : Int32 → Int32 → Option Int32} {K16 : Int32 → Int32 → Int32 → Int32 → Option Int32} {x2 : Int32} {x3 : Int32} {x5 : Int32} {t0 : Int32} {z : Int32} (C : fw_C p s m args meth c cX9_hasRing RX9 wsX9_hasRing 6 (some .boolean) D vwCl (fw_tys cI cZ cH cR) N ad fw_nw0) (ho : o_Mod EE ad N cI cZ cH cR o) (hK4 : ∀ (kx2 : Int32) (kx3 : Int32), K4 kx2 kx3 = some z → fw_J p l e (headSpec wsX9_hasRing rm_Mod_hasRing).room s m args below meth c D vwCl N ad EE 6 0 0 (fw_E below args s D vwCl N ad EE (some (.int z)) M) M [(0, .ref (ad o)), (2, .int kx2), (3, .int kx3)] 4 []) (hK16 : ∀ (kx2 : Int32) (kx3 : Int32) (kx4 : Int32) (kx5 : Int32), K16 kx2 kx3 kx4 kx5 = some z → fw_J p l e (headSpec wsX9_hasRing rm_Mod_hasRing).room s m args below meth c D vwCl N ad EE 6 0 0 (fw_E below args s D vwCl N ad EE (some (.int z)) M) M [(0, .ref (ad o)), (2, .int kx2), (3, .int kx3), (4, .int kx4), (5, .int kx5)] 16 []) (h : P_Mod_hasRing_b62 o M K4 K16 x2 x3 x5 t0 = some z) : fw_J p l e (headSpec wsX9_hasRing rm_Mod_hasRing).room s m args below meth c D vwCl N ad EE 6 0 0 (fw_E below args s D vwCl N ad EE (some (.int z)) M) M [(0, .ref (ad o)), (2, .int x2), (3, .int x3), (5, .int x5)] 62 [.int t0] := by
  unfold P_Mod_hasRing_b62 at h
  refine fw_iconst (pc := 62) C (v := -1) dX9_hasRing_62 fk_iconst_m1 ?_
  exact (c_Mod_hasRing_b63 C ho hK4 hK16 h)
set_option maxRecDepth 100000 in
theorem c_Mod_hasRing_b16 {p : Program} {l : Launch} {e : Env} {s : State} {m : MethodId} {args : Array Value} {below : List Frame} {meth : Method} {c : Code} {D : va_G} {cI cZ cH cR : ClassId} {N : Nat} {ad : Nat → Nat} {EE : fw_M → Nat → va_E} {o : Nat} {M : fw_M} {K4 : Int32 → Int32 → Option Int32} {K16 : Int32 → Int32 → Int32 → Int32 → Option Int32} {x2 : Int32} {x3 : Int32} {x4 : Int32} {x5 : Int32} {z : Int32} (C : fw_C p s m args meth c cX9_hasRing RX9 wsX9_hasRing 6 (some .boolean) D vwCl (fw_tys cI cZ cH cR) N ad fw_nw0) (ho : o_Mod EE ad N cI cZ cH cR o) (hK4 : ∀ (kx2 : Int32) (kx3 : Int32), K4 kx2 kx3 = some z → fw_J p l e (headSpec wsX9_hasRing rm_Mod_hasRing).room s m args below meth c D vwCl N ad EE 6 0 0 (fw_E below args s D vwCl N ad EE (some (.int z)) M) M [(0, .ref (ad o)), (2, .int kx2), (3, .int kx3)] 4 []) (hK16 : ∀ (kx2 : Int32) (kx3 : Int32) (kx4 : Int32) (kx5 : Int32), K16 kx2 kx3 kx4 kx5 = some z → fw_J p l e (headSpec wsX9_hasRing rm_Mod_hasRing).room s m args below meth c D vwCl N ad EE 6 0 0 (fw_E below args s D vwCl N ad EE (some (.int z)) M) M [(0, .ref (ad o)), (2, .int kx2), (3, .int kx3), (4, .int kx4), (5, .int kx5)] 16 []) (h : P_Mod_hasRing_b16 o M K4 K16 x2 x3 x4 x5 = some z) : fw_J p l e (headSpec wsX9_hasRing rm_Mod_hasRing).room s m args below meth c D vwCl N ad EE 6 0 0 (fw_E below args s D vwCl N ad EE (some (.int z)) M) M [(0, .ref (ad o)), (2, .int x2), (3, .int x3), (4, .int x4), (5, .int x5)] 16 [] := by
  unfold P_Mod_hasRing_b16 at h
  refine fw_iload (pc := 16) C 4 dX9_hasRing_16 rfl ?_
  refine fw_aload_n (pc := 18) C 0 dX9_hasRing_18 rfl rfl ?_
  refine fw_getr (pc := 19) C ho.2.2.2.2.2.2.1.1 rfl qX9_hasRing_19 dX9_hasRing_19 ?_
  refine fw_iconst (pc := 22) C (v := 2) dX9_hasRing_22 fk_iconst_2 ?_
  obtain ⟨v1, hv1, h⟩ := fw_bind h
  refine fw_iald (pc := 23) C 0 ho.2.2.2.2.2.2.1.2 rfl hv1 dX9_hasRing_23 ?_
  refine fw_icmp_ge (pc := 24) C (tgt := 72) dX9_hasRing_24 (by decide) (fun c2 => ?_) (fun c2 => ?_)
  · have h := fw_ift h c2
    refine fw_iload (pc := 72) C 3 dX9_hasRing_72 rfl ?_
    refine fw_istore_n (pc := 74) C (L2 := [(0, .ref _), (2, .int _), (3, .int _), (4, .int _), (5, .int _)]) [1, 0, 2, 3, 4] dX9_hasRing_74 rfl (by decide) rfl ?_
    refine fw_iinc (pc := 75) C (v := 1) (L2 := [(0, .ref _), (2, .int _), (3, .int _), (4, .int _), (5, .int _)]) 2 [1, 2, 0, 3, 4] dX9_hasRing_75 rfl fk_iconst_1 (by decide) rfl ?_
    refine fw_goto (pc := 78) C (tgt := 4) dX9_hasRing_78 (by decide) ?_
    exact fw_sub [0, 1, 2] rfl (hK4 _ _ h)
  · have h := fw_iff h c2
    refine fw_iload (pc := 27) C 3 dX9_hasRing_27 rfl ?_
    refine fw_iload_n (pc := 29) C 1 dX9_hasRing_29 rfl rfl ?_
    refine fw_iload (pc := 30) C 4 dX9_hasRing_30 rfl ?_
    refine fw_ishr (pc := 32) C dX9_hasRing_32 ?_
    refine fw_iconst (pc := 33) C (v := 1) dX9_hasRing_33 fk_iconst_1 ?_
    refine fw_iand (pc := 34) C dX9_hasRing_34 ?_
    refine fw_iconst (pc := 35) C (v := 1) dX9_hasRing_35 fk_iconst_1 ?_
    refine fw_icmp_ne (pc := 36) C (tgt := 62) dX9_hasRing_36 (by decide) (fun c3 => ?_) (fun c3 => ?_)
    · have h := fw_iff h c3
      exact fw_sub [0, 1, 2, 4] rfl (c_Mod_hasRing_b62 C ho hK4 hK16 h)
    · have h := fw_ift h c3
      refine fw_aload_n (pc := 39) C 0 dX9_hasRing_39 rfl rfl ?_
      refine fw_getr (pc := 40) C ho.2.2.2.2.2.2.1.1 rfl qX9_hasRing_19 dX9_hasRing_40 ?_
      refine fw_iload (pc := 43) C 4 dX9_hasRing_43 rfl ?_
      obtain ⟨v4, hv4, h⟩ := fw_bind h
      refine fw_callS1 (pc := 45) C (rest := [_]) (c_Mod_yieldsTo ho.2.2.2.2.2.2.1.2 hv4) (va_cwS 2 C.2.2.2.2.1 gX9_hasRing_X9_yieldsTo rfl rfl rfl hd_Mod_yieldsTo.2 ⟨Nat.le_of_ble_eq_true rfl, Nat.le_of_ble_eq_true rfl⟩) rfl ⟨Nat.zero_le _, Nat.zero_le _⟩ rfl (Nat.le_of_ble_eq_true rfl) dX9_hasRing_45 ?_
      refine fw_iload_n (pc := 48) C 1 dX9_hasRing_48 rfl rfl ?_
      refine fw_iand (pc := 49) C dX9_hasRing_49 ?_
      refine fw_if_ne (pc := 50) C (tgt := 62) dX9_hasRing_50 (by decide) (fun c5 => ?_) (fun c5 => ?_)
      · have h := fw_iff h c5
        exact fw_sub [0, 1, 2, 4] rfl (c_Mod_hasRing_b62 C ho hK4 hK16 h)
      · have h := fw_ift h c5
        refine fw_iconst (pc := 53) C (v := 1) dX9_hasRing_53 fk_iconst_1 ?_
        refine fw_iload (pc := 54) C 4 dX9_hasRing_54 rfl ?_
        refine fw_ishl (pc := 56) C dX9_hasRing_56 ?_
        refine fw_iconst (pc := 57) C (v := -1) dX9_hasRing_57 fk_iconst_m1 ?_
        refine fw_ixor (pc := 58) C dX9_hasRing_58 ?_
        refine fw_goto (pc := 59) C (tgt := 63) dX9_hasRing_59 (by decide) ?_
        exact fw_sub [0, 1, 2, 4] rfl (c_Mod_hasRing_b63 C ho hK4 hK16 h)
theorem c_Mod_hasRing_h16 {p : Program} {l : Launch} {e : Env} {s : State} {m : MethodId} {args : Array Value} {below : List Frame} {meth : Method} {c : Code} {D : va_G} {cI cZ cH cR : ClassId} {N : Nat} {ad : Nat → Nat} {EE : fw_M → Nat → va_E} {o : Nat} {M : fw_M} {K4 : Int32 → Int32 → Option Int32} {z : Int32} (C : fw_C p s m args meth c cX9_hasRing RX9 wsX9_hasRing 6 (some .boolean) D vwCl (fw_tys cI cZ cH cR) N ad fw_nw0) (ho : o_Mod EE ad N cI cZ cH cR o) (hK4 : ∀ (kx2 : Int32) (kx3 : Int32), K4 kx2 kx3 = some z → fw_J p l e (headSpec wsX9_hasRing rm_Mod_hasRing).room s m args below meth c D vwCl N ad EE 6 0 0 (fw_E below args s D vwCl N ad EE (some (.int z)) M) M [(0, .ref (ad o)), (2, .int kx2), (3, .int kx3)] 4 []) : ∀ (n : Nat) (x2 : Int32) (x3 : Int32) (x4 : Int32) (x5 : Int32), P_Mod_hasRing_h16 o M K4 n x2 x3 x4 x5 = some z → fw_J p l e (headSpec wsX9_hasRing rm_Mod_hasRing).room s m args below meth c D vwCl N ad EE 6 0 0 (fw_E below args s D vwCl N ad EE (some (.int z)) M) M [(0, .ref (ad o)), (2, .int x2), (3, .int x3), (4, .int x4), (5, .int x5)] 16 [] := by
  intro n
  induction n with
  | zero => intro x2 x3 x4 x5  h; cases h
  | succ n ih => intro x2 x3 x4 x5  h; exact c_Mod_hasRing_b16 C ho hK4 ih  h
set_option maxRecDepth 100000 in
theorem c_Mod_hasRing_b4 {p : Program} {l : Launch} {e : Env} {s : State} {m : MethodId} {args : Array Value} {below : List Frame} {meth : Method} {c : Code} {D : va_G} {cI cZ cH cR : ClassId} {N : Nat} {ad : Nat → Nat} {EE : fw_M → Nat → va_E} {o : Nat} {M : fw_M} {K4 : Int32 → Int32 → Option Int32} {x2 : Int32} {x3 : Int32} {z : Int32} (C : fw_C p s m args meth c cX9_hasRing RX9 wsX9_hasRing 6 (some .boolean) D vwCl (fw_tys cI cZ cH cR) N ad fw_nw0) (ho : o_Mod EE ad N cI cZ cH cR o) (hK4 : ∀ (kx2 : Int32) (kx3 : Int32), K4 kx2 kx3 = some z → fw_J p l e (headSpec wsX9_hasRing rm_Mod_hasRing).room s m args below meth c D vwCl N ad EE 6 0 0 (fw_E below args s D vwCl N ad EE (some (.int z)) M) M [(0, .ref (ad o)), (2, .int kx2), (3, .int kx3)] 4 []) (h : P_Mod_hasRing_b4 o M K4 x2 x3 = some z) : fw_J p l e (headSpec wsX9_hasRing rm_Mod_hasRing).room s m args below meth c D vwCl N ad EE 6 0 0 (fw_E below args s D vwCl N ad EE (some (.int z)) M) M [(0, .ref (ad o)), (2, .int x2), (3, .int x3)] 4 [] := by
  unfold P_Mod_hasRing_b4 at h
  refine fw_iload_n (pc := 4) C 2 dX9_hasRing_4 rfl rfl ?_
  refine fw_bipush (pc := 5) C (v := 7) dX9_hasRing_5 fk_bipush_7 ?_
  refine fw_icmp_ge (pc := 7) C (tgt := 81) dX9_hasRing_7 (by decide) (fun c1 => ?_) (fun c1 => ?_)
  · have h := fw_ift h c1
    refine fw_iload_n (pc := 81) C 1 dX9_hasRing_81 rfl rfl ?_
    refine fw_if_eq (pc := 82) C (tgt := 89) dX9_hasRing_82 (by decide) (fun c2 => ?_) (fun c2 => ?_)
    · have h := fw_ift h c2
      refine fw_iconst (pc := 89) C (v := 0) dX9_hasRing_89 fk_iconst_0 ?_
      exact fw_sub [] rfl (c_Mod_hasRing_b90 C ho h)
    · have h := fw_iff h c2
      refine fw_iconst (pc := 85) C (v := 1) dX9_hasRing_85 fk_iconst_1 ?_
      refine fw_goto (pc := 86) C (tgt := 90) dX9_hasRing_86 (by decide) ?_
      exact fw_sub [] rfl (c_Mod_hasRing_b90 C ho h)
  · have h := fw_iff h c1
    refine fw_iload_n (pc := 10) C 1 dX9_hasRing_10 rfl rfl ?_
    refine fw_istore (pc := 11) C (L2 := [(0, .ref _), (2, .int _), (3, .int _), (4, .int _)]) [1, 2, 3, 0] dX9_hasRing_11 (by decide) rfl ?_
    refine fw_iconst (pc := 13) C (v := 0) dX9_hasRing_13 fk_iconst_0 ?_
    refine fw_istore (pc := 14) C (L2 := [(0, .ref _), (2, .int _), (3, .int _), (4, .int _), (5, .int _)]) [1, 2, 3, 4, 0] dX9_hasRing_14 (by decide) rfl ?_
    exact (c_Mod_hasRing_h16 C ho hK4 _ _ _ _ _ h)
theorem c_Mod_hasRing_h4 {p : Program} {l : Launch} {e : Env} {s : State} {m : MethodId} {args : Array Value} {below : List Frame} {meth : Method} {c : Code} {D : va_G} {cI cZ cH cR : ClassId} {N : Nat} {ad : Nat → Nat} {EE : fw_M → Nat → va_E} {o : Nat} {M : fw_M} {z : Int32} (C : fw_C p s m args meth c cX9_hasRing RX9 wsX9_hasRing 6 (some .boolean) D vwCl (fw_tys cI cZ cH cR) N ad fw_nw0) (ho : o_Mod EE ad N cI cZ cH cR o) : ∀ (n : Nat) (x2 : Int32) (x3 : Int32), P_Mod_hasRing_h4 o M n x2 x3 = some z → fw_J p l e (headSpec wsX9_hasRing rm_Mod_hasRing).room s m args below meth c D vwCl N ad EE 6 0 0 (fw_E below args s D vwCl N ad EE (some (.int z)) M) M [(0, .ref (ad o)), (2, .int x2), (3, .int x3)] 4 [] := by
  intro n
  induction n with
  | zero => intro x2 x3  h; cases h
  | succ n ih => intro x2 x3  h; exact c_Mod_hasRing_b4 C ho ih  h
set_option maxRecDepth 100000 in
theorem c_Mod_hasRing_b0 {p : Program} {l : Launch} {e : Env} {s : State} {m : MethodId} {args : Array Value} {below : List Frame} {meth : Method} {c : Code} {D : va_G} {cI cZ cH cR : ClassId} {N : Nat} {ad : Nat → Nat} {EE : fw_M → Nat → va_E} {o : Nat} {M : fw_M} {x1 : Int32} {z : Int32} (C : fw_C p s m args meth c cX9_hasRing RX9 wsX9_hasRing 6 (some .boolean) D vwCl (fw_tys cI cZ cH cR) N ad fw_nw0) (ho : o_Mod EE ad N cI cZ cH cR o) (h : P_Mod_hasRing_b0 o M x1 = some z) : fw_J p l e (headSpec wsX9_hasRing rm_Mod_hasRing).room s m args below meth c D vwCl N ad EE 6 0 0 (fw_E below args s D vwCl N ad EE (some (.int z)) M) M [(0, .ref (ad o)), (1, .int x1)] 0 [] := by
  unfold P_Mod_hasRing_b0 at h
  refine fw_iload_n (pc := 0) C 1 dX9_hasRing_0 rfl rfl ?_
  refine fw_istore_n (pc := 1) C (L2 := [(0, .ref _), (1, .int _), (2, .int _)]) [1, 2, 0] dX9_hasRing_1 rfl (by decide) rfl ?_
  refine fw_iconst (pc := 2) C (v := 0) dX9_hasRing_2 fk_iconst_0 ?_
  refine fw_istore_n (pc := 3) C (L2 := [(0, .ref _), (1, .int _), (2, .int _), (3, .int _)]) [1, 2, 3, 0] dX9_hasRing_3 rfl (by decide) rfl ?_
  exact fw_sub [0, 2, 3] rfl (c_Mod_hasRing_h4 C ho _ _ _ h)
theorem c_Mod_hasRing {l : Launch} {D : va_G} {cI cZ cH cR : ClassId} {N : Nat} {ad : Nat → Nat} {EE : fw_M → Nat → va_E} {o : Nat} {M : fw_M} {a0 : Int32} {z : Int32} (ho : o_Mod EE ad N cI cZ cH cR o) (h : P_Mod_hasRing o M a0 = some z) : fw_Met l yX9_hasRing wsX9_hasRing rm_Mod_hasRing D vwCl (fw_tys cI cZ cH cR) N ad fw_nw0 EE [.ref (ad o), .int a0] M (some (.int z)) M := by
  unfold P_Mod_hasRing at h
  exact fw_intro (cc := cX9_hasRing) (maxL := 6) (ret := some .boolean) (own := RX9) (by decide) rfl rfl (Nat.le_of_ble_eq_true rfl) (fun p e s m args below meth c C => fw_sub [0, 1] rfl (c_Mod_hasRing_b0 C ho h))
abbrev rm_Mod_ring : Room := { frames := 4, cells := 0, slots := 0, locals := 93 }
theorem hd_Mod_ring : yX9_ring.cls = RX9 ∧ yX9_ring.cls ≠ "java/lang/invoke/MethodHandle" ∧ yX9_ring.cls ≠ "java/lang/invoke/VarHandle" ∧ (parseMethodDescriptor yX9_ring.desc).map (fun d => d.parameters.length) = some 2 := by decide +kernel
theorem qX9_ring_47 : fw_G wsX9_ring RX9 47 RX9 TX9 24 0 := ⟨by decide +kernel, by decide +kernel, by decide⟩
theorem kX9_ring_187 : Cond.constant RX9 187 (-1000002) ∈ wsX9_ring := by decide +kernel
theorem qX9_ring_19 : fw_G wsX9_ring RX9 19 RX9 TX9 24 5 := ⟨by decide +kernel, by decide +kernel, by decide⟩
theorem kX9_ring_90 : Cond.constant RX9 90 (-1000000) ∈ wsX9_ring := by decide +kernel
theorem kX9_ring_67 : Cond.constant RX9 67 (-1000001) ∈ wsX9_ring := by decide +kernel
def P_Mod_ring_b33 (o : Nat) (M : fw_M) : Option (Int32 × fw_M) := some ((-1000001 : Int32), M)
def P_Mod_ring_b155 (o : Nat) (M : fw_M) (t0 : Int32) : Option (Int32 × fw_M) := some (t0, M)
def P_Mod_ring_b145 (o : Nat) (M : fw_M) (x4 : Int32) : Option (Int32 × fw_M) := P_Mod_ring_b155 o M x4
def P_Mod_ring_b125 (o : Nat) (K62 : fw_M → Int32 → Int32 → Int32 → Int32 → Option (Int32 × fw_M)) (M : fw_M) (x2 : Int32) (x3 : Int32) (x5 : Int32) (t0 : Int32) : Option (Int32 × fw_M) := K62 M x2 x3 t0 (x5 + (1 : Int32))
def P_Mod_ring_b123 (o : Nat) (K62 : fw_M → Int32 → Int32 → Int32 → Int32 → Option (Int32 × fw_M)) (M : fw_M) (x2 : Int32) (x3 : Int32) (x4 : Int32) (x5 : Int32) : Option (Int32 × fw_M) := P_Mod_ring_b125 o K62 M x2 x3 x5 x4
def P_Mod_ring_b102 (o : Nat) (K62 : fw_M → Int32 → Int32 → Int32 → Int32 → Option (Int32 × fw_M)) (M : fw_M) (x2 : Int32) (x3 : Int32) (x4 : Int32) (x5 : Int32) (t0 : Int32) : Option (Int32 × fw_M) := (if t0 = (0 : Int32) then P_Mod_ring_b123 o K62 M x2 x3 x4 x5 else (P_Mod_hasRing o M x5).bind fun v2 => (if v2 = (0 : Int32) then P_Mod_ring_b123 o K62 M x2 x3 x4 x5 else P_Mod_ring_b125 o K62 M x2 x3 x5 x5))
def P_Mod_ring_b101 (o : Nat) (K62 : fw_M → Int32 → Int32 → Int32 → Int32 → Option (Int32 × fw_M)) (M : fw_M) (x2 : Int32) (x3 : Int32) (x4 : Int32) (x5 : Int32) : Option (Int32 × fw_M) := P_Mod_ring_b102 o K62 M x2 x3 x4 x5 (0 : Int32)
def P_Mod_ring_b97 (o : Nat) (K62 : fw_M → Int32 → Int32 → Int32 → Int32 → Option (Int32 × fw_M)) (M : fw_M) (x2 : Int32) (x3 : Int32) (x4 : Int32) (x5 : Int32) : Option (Int32 × fw_M) := P_Mod_ring_b102 o K62 M x2 x3 x4 x5 (1 : Int32)
def P_Mod_ring_b62 (o : Nat) (K62 : fw_M → Int32 → Int32 → Int32 → Int32 → Option (Int32 × fw_M)) (M : fw_M) (x2 : Int32) (x3 : Int32) (x4 : Int32) (x5 : Int32) : Option (Int32 × fw_M) := (if x3 < x5 then (if x4 = (-1000000 : Int32) then P_Mod_ring_b145 o M x4 else (if x2 = (1 : Int32) then P_Mod_ring_b145 o M x4 else (P_Mod_bits M x4).bind fun v4 => P_Mod_ring_b155 o M v4)) else (if (x5 &&& (x3 ^^^ (-1 : Int32))) = (0 : Int32) then (if x4 = (-1000000 : Int32) then P_Mod_ring_b97 o K62 M x2 x3 x4 x5 else (P_Mod_bits M x5).bind fun v7 => (P_Mod_bits M x4).bind fun v8 => (if v8 ≤ v7 then P_Mod_ring_b101 o K62 M x2 x3 x4 x5 else P_Mod_ring_b97 o K62 M x2 x3 x4 x5)) else P_Mod_ring_b101 o K62 M x2 x3 x4 x5))
def P_Mod_ring_h62 (o : Nat) : Nat → fw_M → Int32 → Int32 → Int32 → Int32 → Option (Int32 × fw_M)
  | 0, _, _, _, _, _ => none
  | n + 1, M, x2, x3, x4, x5 => P_Mod_ring_b62 o (P_Mod_ring_h62 o n) M x2 x3 x4 x5
def P_Mod_ring_b0 (o : Nat) (M : fw_M) (x1 : Int32) (x2 : Int32) : Option (Int32 × fw_M) := fw_pl (fw_set M o 0 (0 : Int32)) fun M1 => (P_Mod_isThere o M1).bind fun v2 => (if v2 = (0 : Int32) then some ((-1000002 : Int32), M1) else (P_Mod_isDoor o M1 x1).bind fun v4 => (if v4 = (0 : Int32) then P_Mod_ring_b33 o M1 else (P_Mod_in M1 (Int32.toInt64 x2) (0 : Int64) (1 : Int64)).bind fun v6 => (if v6 = (0 : Int32) then P_Mod_ring_b33 o M1 else (P_Mod_waiting (o + 4) M1 x1).bind fun v8 => (P_Mod_nobodies (o + 4) M1).bind fun v9 => fw_pl ((v8 &&& (v9 ^^^ (-1 : Int32)))) fun y10 => P_Mod_ring_h62 o fw_fu M1 x2 y10 (-1000000 : Int32) (1 : Int32))))
def P_Mod_ring (o : Nat) (M : fw_M) (a0 : Int32) (a1 : Int32) : Option (Int32 × fw_M) := P_Mod_ring_b0 o M a0 a1
set_option maxRecDepth 100000 in
theorem c_Mod_ring_b33 {p : Program} {l : Launch} {e : Env} {s : State} {m : MethodId} {args : Array Value} {below : List Frame} {meth : Method} {c : Code} {D : va_G} {cI cZ cH cR : ClassId} {N : Nat} {ad : Nat → Nat} {EE : fw_M → Nat → va_E} {o : Nat} {M : fw_M} {z : (Int32 × fw_M)} (C : fw_C p s m args meth c cX9_ring RX9 wsX9_ring 7 (some .int) D vwCl (fw_tys cI cZ cH cR) N ad fw_nw0) (ho : o_Mod EE ad N cI cZ cH cR o) (h : P_Mod_ring_b33 o M = some z) : fw_J p l e (headSpec wsX9_ring rm_Mod_ring).room s m args below meth c D vwCl N ad EE 7 0 0 (fw_E below args s D vwCl N ad EE (some (.int z.1)) z.2) M [] 33 [] := by
  unfold P_Mod_ring_b33 at h
  refine fw_ldc (pc := 33) C (v := -1000001) kX9_ring_67 dX9_ring_33 ?_
  exact fw_iret (pc := 35) C (fw_p1 h) (fw_p2 h) dX9_ring_35
set_option maxRecDepth 100000 in
theorem c_Mod_ring_b155 {p : Program} {l : Launch} {e : Env} {s : State} {m : MethodId} {args : Array Value} {below : List Frame} {meth : Method} {c : Code} {D : va_G} {cI cZ cH cR : ClassId} {N : Nat} {ad : Nat → Nat} {EE : fw_M → Nat → va_E} {o : Nat} {M : fw_M} {t0 : Int32} {z : (Int32 × fw_M)} (C : fw_C p s m args meth c cX9_ring RX9 wsX9_ring 7 (some .int) D vwCl (fw_tys cI cZ cH cR) N ad fw_nw0) (ho : o_Mod EE ad N cI cZ cH cR o) (h : P_Mod_ring_b155 o M t0 = some z) : fw_J p l e (headSpec wsX9_ring rm_Mod_ring).room s m args below meth c D vwCl N ad EE 7 0 0 (fw_E below args s D vwCl N ad EE (some (.int z.1)) z.2) M [] 155 [.int t0] := by
  unfold P_Mod_ring_b155 at h
  exact fw_iret (pc := 155) C (fw_p1 h) (fw_p2 h) dX9_ring_155
set_option maxRecDepth 100000 in
theorem c_Mod_ring_b145 {p : Program} {l : Launch} {e : Env} {s : State} {m : MethodId} {args : Array Value} {below : List Frame} {meth : Method} {c : Code} {D : va_G} {cI cZ cH cR : ClassId} {N : Nat} {ad : Nat → Nat} {EE : fw_M → Nat → va_E} {o : Nat} {M : fw_M} {x4 : Int32} {z : (Int32 × fw_M)} (C : fw_C p s m args meth c cX9_ring RX9 wsX9_ring 7 (some .int) D vwCl (fw_tys cI cZ cH cR) N ad fw_nw0) (ho : o_Mod EE ad N cI cZ cH cR o) (h : P_Mod_ring_b145 o M x4 = some z) : fw_J p l e (headSpec wsX9_ring rm_Mod_ring).room s m args below meth c D vwCl N ad EE 7 0 0 (fw_E below args s D vwCl N ad EE (some (.int z.1)) z.2) M [(4, .int x4)] 145 [] := by
  unfold P_Mod_ring_b145 at h
  refine fw_iload (pc := 145) C 0 dX9_ring_145 rfl ?_
  refine fw_goto (pc := 147) C (tgt := 155) dX9_ring_147 (by decide) ?_
  exact fw_sub [] rfl (c_Mod_ring_b155 C ho h)
set_option maxRecDepth 100000 in
theorem c_Mod_ring_b125 {p : Program} {l : Launch} {e : Env} {s : State} {m : MethodId} {args : Array Value} {below : List Frame} {meth : Method} {c : Code} {D : va_G} {cI cZ cH cR : ClassId} {N : Nat} {ad : Nat → Nat} {EE : fw_M → Nat → va_E} {o : Nat} {K62 : fw_M → Int32 → Int32 → Int32 → Int32 → Option (Int32 × fw_M)} {M : fw_M} {x2 : Int32} {x3 : Int32} {x5 : Int32} {t0 : Int32} {z : (Int32 × fw_M)} (C : fw_C p s m args meth c cX9_ring RX9 wsX9_ring 7 (some .int) D vwCl (fw_tys cI cZ cH cR) N ad fw_nw0) (ho : o_Mod EE ad N cI cZ cH cR o) (hK62 : ∀ (Mk : fw_M) (kx2 : Int32) (kx3 : Int32) (kx4 : Int32) (kx5 : Int32), K62 Mk kx2 kx3 kx4 kx5 = some z → fw_J p l e (headSpec wsX9_ring rm_Mod_ring).room s m args below meth c D vwCl N ad EE 7 0 0 (fw_E below args s D vwCl N ad EE (some (.int z.1)) z.2) Mk [(0, .ref (ad o)), (2, .int kx2), (3, .int kx3), (4, .int kx4), (5, .int kx5)] 62 []) (h : P_Mod_ring_b125 o K62 M x2 x3 x5 t0 = some z) : fw_J p l e (headSpec wsX9_ring rm_Mod_ring).room s m args below meth c D vwCl N ad EE 7 0 0 (fw_E below args s D vwCl N ad EE (some (.int z.1)) z.2) M [(0, .ref (ad o)), (2, .int x2), (3, .int x3), (5, .int x5)] 125 [.int t0] := by
  unfold P_Mod_ring_b125 at h
  refine fw_istore (pc := 125) C (L2 := [(0, .ref _), (2, .int _), (3, .int _), (4, .int _), (5, .int _)]) [1, 2, 3, 0, 4] dX9_ring_125 (by decide) rfl ?_
  refine fw_iinc (pc := 127) C (v := 1) (L2 := [(0, .ref _), (2, .int _), (3, .int _), (4, .int _), (5, .int _)]) 4 [1, 2, 3, 4, 0] dX9_ring_127 rfl fk_iconst_1 (by decide) rfl ?_
  refine fw_goto (pc := 130) C (tgt := 62) dX9_ring_130 (by decide) ?_
  exact (hK62 _ _ _ _ _ h)
set_option maxRecDepth 100000 in
theorem c_Mod_ring_b123 {p : Program} {l : Launch} {e : Env} {s : State} {m : MethodId} {args : Array Value} {below : List Frame} {meth : Method} {c : Code} {D : va_G} {cI cZ cH cR : ClassId} {N : Nat} {ad : Nat → Nat} {EE : fw_M → Nat → va_E} {o : Nat} {K62 : fw_M → Int32 → Int32 → Int32 → Int32 → Option (Int32 × fw_M)} {M : fw_M} {x2 : Int32} {x3 : Int32} {x4 : Int32} {x5 : Int32} {z : (Int32 × fw_M)} (C : fw_C p s m args meth c cX9_ring RX9 wsX9_ring 7 (some .int) D vwCl (fw_tys cI cZ cH cR) N ad fw_nw0) (ho : o_Mod EE ad N cI cZ cH cR o) (hK62 : ∀ (Mk : fw_M) (kx2 : Int32) (kx3 : Int32) (kx4 : Int32) (kx5 : Int32), K62 Mk kx2 kx3 kx4 kx5 = some z → fw_J p l e (headSpec wsX9_ring rm_Mod_ring).room s m args below meth c D vwCl N ad EE 7 0 0 (fw_E below args s D vwCl N ad EE (some (.int z.1)) z.2) Mk [(0, .ref (ad o)), (2, .int kx2), (3, .int kx3), (4, .int kx4), (5, .int kx5)] 62 []) (h : P_Mod_ring_b123 o K62 M x2 x3 x4 x5 = some z) : fw_J p l e (headSpec wsX9_ring rm_Mod_ring).room s m args below meth c D vwCl N ad EE 7 0 0 (fw_E below args s D vwCl N ad EE (some (.int z.1)) z.2) M [(0, .ref (ad o)), (2, .int x2), (3, .int x3), (4, .int x4), (5, .int x5)] 123 [] := by
  unfold P_Mod_ring_b123 at h
  refine fw_iload (pc := 123) C 3 dX9_ring_123 rfl ?_
  exact fw_sub [0, 1, 2, 4] rfl (c_Mod_ring_b125 C ho hK62 h)
set_option maxRecDepth 100000 in
theorem c_Mod_ring_b102 {p : Program} {l : Launch} {e : Env} {s : State} {m : MethodId} {args : Array Value} {below : List Frame} {meth : Method} {c : Code} {D : va_G} {cI cZ cH cR : ClassId} {N : Nat} {ad : Nat → Nat} {EE : fw_M → Nat → va_E} {o : Nat} {K62 : fw_M → Int32 → Int32 → Int32 → Int32 → Option (Int32 × fw_M)} {M : fw_M} {x2 : Int32} {x3 : Int32} {x4 : Int32} {x5 : Int32} {t0 : Int32} {z : (Int32 × fw_M)} (C : fw_C p s m args meth c cX9_ring RX9 wsX9_ring 7 (some .int) D vwCl (fw_tys cI cZ cH cR) N ad fw_nw0) (ho : o_Mod EE ad N cI cZ cH cR o) (hK62 : ∀ (Mk : fw_M) (kx2 : Int32) (kx3 : Int32) (kx4 : Int32) (kx5 : Int32), K62 Mk kx2 kx3 kx4 kx5 = some z → fw_J p l e (headSpec wsX9_ring rm_Mod_ring).room s m args below meth c D vwCl N ad EE 7 0 0 (fw_E below args s D vwCl N ad EE (some (.int z.1)) z.2) Mk [(0, .ref (ad o)), (2, .int kx2), (3, .int kx3), (4, .int kx4), (5, .int kx5)] 62 []) (h : P_Mod_ring_b102 o K62 M x2 x3 x4 x5 t0 = some z) : fw_J p l e (headSpec wsX9_ring rm_Mod_ring).room s m args below meth c D vwCl N ad EE 7 0 0 (fw_E below args s D vwCl N ad EE (some (.int z.1)) z.2) M [(0, .ref (ad o)), (2, .int x2), (3, .int x3), (4, .int x4), (5, .int x5)] 102 [.int t0] := by
  unfold P_Mod_ring_b102 at h
  refine fw_istore (pc := 102) C (L2 := [(0, .ref _), (2, .int _), (3, .int _), (4, .int _), (5, .int _), (6, .int _)]) [1, 2, 3, 4, 5, 0] dX9_ring_102 (by decide) rfl ?_
  refine fw_iload (pc := 104) C 5 dX9_ring_104 rfl ?_
  refine fw_if_eq (pc := 106) C (tgt := 123) dX9_ring_106 (by decide) (fun c1 => ?_) (fun c1 => ?_)
  · have h := fw_ift h c1
    exact fw_sub [0, 1, 2, 3, 4] rfl (c_Mod_ring_b123 C ho hK62 h)
  · have h := fw_iff h c1
    refine fw_aload_n (pc := 109) C 0 dX9_ring_109 rfl rfl ?_
    refine fw_iload (pc := 110) C 4 dX9_ring_110 rfl ?_
    obtain ⟨v2, hv2, h⟩ := fw_bind h
    refine fw_callV1 (pc := 112) C (rest := []) (c_Mod_hasRing ho hv2) (cwV 1 C.2.2.2.2.1 gX9_ring_X9_hasRing rfl rfl rfl hd_Mod_hasRing ⟨Nat.le_of_ble_eq_true rfl, Nat.le_of_ble_eq_true rfl⟩) ho.1 rfl rfl ⟨Nat.zero_le _, Nat.zero_le _⟩ rfl (Nat.le_of_ble_eq_true rfl) dX9_ring_112 ?_
    refine fw_if_eq (pc := 115) C (tgt := 123) dX9_ring_115 (by decide) (fun c3 => ?_) (fun c3 => ?_)
    · have h := fw_ift h c3
      exact fw_sub [0, 1, 2, 3, 4] rfl (c_Mod_ring_b123 C ho hK62 h)
    · have h := fw_iff h c3
      refine fw_iload (pc := 118) C 4 dX9_ring_118 rfl ?_
      refine fw_goto (pc := 120) C (tgt := 125) dX9_ring_120 (by decide) ?_
      exact fw_sub [0, 1, 2, 4] rfl (c_Mod_ring_b125 C ho hK62 h)
set_option maxRecDepth 100000 in
theorem c_Mod_ring_b101 {p : Program} {l : Launch} {e : Env} {s : State} {m : MethodId} {args : Array Value} {below : List Frame} {meth : Method} {c : Code} {D : va_G} {cI cZ cH cR : ClassId} {N : Nat} {ad : Nat → Nat} {EE : fw_M → Nat → va_E} {o : Nat} {K62 : fw_M → Int32 → Int32 → Int32 → Int32 → Option (Int32 × fw_M)} {M : fw_M} {x2 : Int32} {x3 : Int32} {x4 : Int32} {x5 : Int32} {z : (Int32 × fw_M)} (C : fw_C p s m args meth c cX9_ring RX9 wsX9_ring 7 (some .int) D vwCl (fw_tys cI cZ cH cR) N ad fw_nw0) (ho : o_Mod EE ad N cI cZ cH cR o) (hK62 : ∀ (Mk : fw_M) (kx2 : Int32) (kx3 : Int32) (kx4 : Int32) (kx5 : Int32), K62 Mk kx2 kx3 kx4 kx5 = some z → fw_J p l e (headSpec wsX9_ring rm_Mod_ring).room s m args below meth c D vwCl N ad EE 7 0 0 (fw_E below args s D vwCl N ad EE (some (.int z.1)) z.2) Mk [(0, .ref (ad o)), (2, .int kx2), (3, .int kx3), (4, .int kx4), (5, .int kx5)] 62 []) (h : P_Mod_ring_b101 o K62 M x2 x3 x4 x5 = some z) : fw_J p l e (headSpec wsX9_ring rm_Mod_ring).room s m args below meth c D vwCl N ad EE 7 0 0 (fw_E below args s D vwCl N ad EE (some (.int z.1)) z.2) M [(0, .ref (ad o)), (2, .int x2), (3, .int x3), (4, .int x4), (5, .int x5)] 101 [] := by
  unfold P_Mod_ring_b101 at h
  refine fw_iconst (pc := 101) C (v := 0) dX9_ring_101 fk_iconst_0 ?_
  exact (c_Mod_ring_b102 C ho hK62 h)
set_option maxRecDepth 100000 in
theorem c_Mod_ring_b97 {p : Program} {l : Launch} {e : Env} {s : State} {m : MethodId} {args : Array Value} {below : List Frame} {meth : Method} {c : Code} {D : va_G} {cI cZ cH cR : ClassId} {N : Nat} {ad : Nat → Nat} {EE : fw_M → Nat → va_E} {o : Nat} {K62 : fw_M → Int32 → Int32 → Int32 → Int32 → Option (Int32 × fw_M)} {M : fw_M} {x2 : Int32} {x3 : Int32} {x4 : Int32} {x5 : Int32} {z : (Int32 × fw_M)} (C : fw_C p s m args meth c cX9_ring RX9 wsX9_ring 7 (some .int) D vwCl (fw_tys cI cZ cH cR) N ad fw_nw0) (ho : o_Mod EE ad N cI cZ cH cR o) (hK62 : ∀ (Mk : fw_M) (kx2 : Int32) (kx3 : Int32) (kx4 : Int32) (kx5 : Int32), K62 Mk kx2 kx3 kx4 kx5 = some z → fw_J p l e (headSpec wsX9_ring rm_Mod_ring).room s m args below meth c D vwCl N ad EE 7 0 0 (fw_E below args s D vwCl N ad EE (some (.int z.1)) z.2) Mk [(0, .ref (ad o)), (2, .int kx2), (3, .int kx3), (4, .int kx4), (5, .int kx5)] 62 []) (h : P_Mod_ring_b97 o K62 M x2 x3 x4 x5 = some z) : fw_J p l e (headSpec wsX9_ring rm_Mod_ring).room s m args below meth c D vwCl N ad EE 7 0 0 (fw_E below args s D vwCl N ad EE (some (.int z.1)) z.2) M [(0, .ref (ad o)), (2, .int x2), (3, .int x3), (4, .int x4), (5, .int x5)] 97 [] := by
  unfold P_Mod_ring_b97 at h
  refine fw_iconst (pc := 97) C (v := 1) dX9_ring_97 fk_iconst_1 ?_
  refine fw_goto (pc := 98) C (tgt := 102) dX9_ring_98 (by decide) ?_
  exact (c_Mod_ring_b102 C ho hK62 h)
set_option maxRecDepth 100000 in
theorem c_Mod_ring_b62 {p : Program} {l : Launch} {e : Env} {s : State} {m : MethodId} {args : Array Value} {below : List Frame} {meth : Method} {c : Code} {D : va_G} {cI cZ cH cR : ClassId} {N : Nat} {ad : Nat → Nat} {EE : fw_M → Nat → va_E} {o : Nat} {K62 : fw_M → Int32 → Int32 → Int32 → Int32 → Option (Int32 × fw_M)} {M : fw_M} {x2 : Int32} {x3 : Int32} {x4 : Int32} {x5 : Int32} {z : (Int32 × fw_M)} (C : fw_C p s m args meth c cX9_ring RX9 wsX9_ring 7 (some .int) D vwCl (fw_tys cI cZ cH cR) N ad fw_nw0) (ho : o_Mod EE ad N cI cZ cH cR o) (hK62 : ∀ (Mk : fw_M) (kx2 : Int32) (kx3 : Int32) (kx4 : Int32) (kx5 : Int32), K62 Mk kx2 kx3 kx4 kx5 = some z → fw_J p l e (headSpec wsX9_ring rm_Mod_ring).room s m args below meth c D vwCl N ad EE 7 0 0 (fw_E below args s D vwCl N ad EE (some (.int z.1)) z.2) Mk [(0, .ref (ad o)), (2, .int kx2), (3, .int kx3), (4, .int kx4), (5, .int kx5)] 62 []) (h : P_Mod_ring_b62 o K62 M x2 x3 x4 x5 = some z) : fw_J p l e (headSpec wsX9_ring rm_Mod_ring).room s m args below meth c D vwCl N ad EE 7 0 0 (fw_E below args s D vwCl N ad EE (some (.int z.1)) z.2) M [(0, .ref (ad o)), (2, .int x2), (3, .int x3), (4, .int x4), (5, .int x5)] 62 [] := by
  unfold P_Mod_ring_b62 at h
  refine fw_iload (pc := 62) C 4 dX9_ring_62 rfl ?_
  refine fw_iload_n (pc := 64) C 2 dX9_ring_64 rfl rfl ?_
  refine fw_icmp_gt (pc := 65) C (tgt := 133) dX9_ring_65 (by decide) (fun c1 => ?_) (fun c1 => ?_)
  · have h := fw_ift h c1
    refine fw_iload (pc := 133) C 3 dX9_ring_133 rfl ?_
    refine fw_ldc (pc := 135) C (v := -1000000) kX9_ring_90 dX9_ring_135 ?_
    refine fw_icmp_eq (pc := 137) C (tgt := 145) dX9_ring_137 (by decide) (fun c2 => ?_) (fun c2 => ?_)
    · have h := fw_ift h c2
      exact fw_sub [3] rfl (c_Mod_ring_b145 C ho h)
    · have h := fw_iff h c2
      refine fw_iload_n (pc := 140) C 1 dX9_ring_140 rfl rfl ?_
      refine fw_iconst (pc := 141) C (v := 1) dX9_ring_141 fk_iconst_1 ?_
      refine fw_icmp_ne (pc := 142) C (tgt := 150) dX9_ring_142 (by decide) (fun c3 => ?_) (fun c3 => ?_)
      · have h := fw_iff h c3
        refine fw_iload (pc := 150) C 3 dX9_ring_150 rfl ?_
        obtain ⟨v4, hv4, h⟩ := fw_bind h
        refine fw_callS1 (pc := 152) C (rest := []) (c_Mod_bits  hv4) (va_cwS 1 C.2.2.2.2.1 gX9_ring_X9_bits rfl rfl rfl hd_Mod_bits.2 ⟨Nat.le_of_ble_eq_true rfl, Nat.le_of_ble_eq_true rfl⟩) rfl ⟨Nat.zero_le _, Nat.zero_le _⟩ rfl (Nat.le_of_ble_eq_true rfl) dX9_ring_152 ?_
        exact fw_sub [] rfl (c_Mod_ring_b155 C ho h)
      · have h := fw_ift h c3
        exact fw_sub [3] rfl (c_Mod_ring_b145 C ho h)
  · have h := fw_iff h c1
    refine fw_iload (pc := 68) C 4 dX9_ring_68 rfl ?_
    refine fw_iload_n (pc := 70) C 2 dX9_ring_70 rfl rfl ?_
    refine fw_iconst (pc := 71) C (v := -1) dX9_ring_71 fk_iconst_m1 ?_
    refine fw_ixor (pc := 72) C dX9_ring_72 ?_
    refine fw_iand (pc := 73) C dX9_ring_73 ?_
    refine fw_if_ne (pc := 74) C (tgt := 101) dX9_ring_74 (by decide) (fun c5 => ?_) (fun c5 => ?_)
    · have h := fw_iff h c5
      exact (c_Mod_ring_b101 C ho hK62 h)
    · have h := fw_ift h c5
      refine fw_iload (pc := 77) C 3 dX9_ring_77 rfl ?_
      refine fw_ldc (pc := 79) C (v := -1000000) kX9_ring_90 dX9_ring_79 ?_
      refine fw_icmp_eq (pc := 81) C (tgt := 97) dX9_ring_81 (by decide) (fun c6 => ?_) (fun c6 => ?_)
      · have h := fw_ift h c6
        exact (c_Mod_ring_b97 C ho hK62 h)
      · have h := fw_iff h c6
        refine fw_iload (pc := 84) C 4 dX9_ring_84 rfl ?_
        obtain ⟨v7, hv7, h⟩ := fw_bind h
        refine fw_callS1 (pc := 86) C (rest := []) (c_Mod_bits  hv7) (va_cwS 1 C.2.2.2.2.1 gX9_ring_X9_bits rfl rfl rfl hd_Mod_bits.2 ⟨Nat.le_of_ble_eq_true rfl, Nat.le_of_ble_eq_true rfl⟩) rfl ⟨Nat.zero_le _, Nat.zero_le _⟩ rfl (Nat.le_of_ble_eq_true rfl) dX9_ring_86 ?_
        refine fw_iload (pc := 89) C 3 dX9_ring_89 rfl ?_
        obtain ⟨v8, hv8, h⟩ := fw_bind h
        refine fw_callS1 (pc := 91) C (rest := [_]) (c_Mod_bits  hv8) (va_cwS 1 C.2.2.2.2.1 gX9_ring_X9_bits rfl rfl rfl hd_Mod_bits.2 ⟨Nat.le_of_ble_eq_true rfl, Nat.le_of_ble_eq_true rfl⟩) rfl ⟨Nat.zero_le _, Nat.zero_le _⟩ rfl (Nat.le_of_ble_eq_true rfl) dX9_ring_91 ?_
        refine fw_icmp_ge (pc := 94) C (tgt := 101) dX9_ring_94 (by decide) (fun c9 => ?_) (fun c9 => ?_)
        · have h := fw_ift h c9
          exact (c_Mod_ring_b101 C ho hK62 h)
        · have h := fw_iff h c9
          exact (c_Mod_ring_b97 C ho hK62 h)
theorem c_Mod_ring_h62 {p : Program} {l : Launch} {e : Env} {s : State} {m : MethodId} {args : Array Value} {below : List Frame} {meth : Method} {c : Code} {D : va_G} {cI cZ cH cR : ClassId} {N : Nat} {ad : Nat → Nat} {EE : fw_M → Nat → va_E} {o : Nat} {z : (Int32 × fw_M)} (C : fw_C p s m args meth c cX9_ring RX9 wsX9_ring 7 (some .int) D vwCl (fw_tys cI cZ cH cR) N ad fw_nw0) (ho : o_Mod EE ad N cI cZ cH cR o) : ∀ (n : Nat) (M : fw_M) (x2 : Int32) (x3 : Int32) (x4 : Int32) (x5 : Int32), P_Mod_ring_h62 o n M x2 x3 x4 x5 = some z → fw_J p l e (headSpec wsX9_ring rm_Mod_ring).room s m args below meth c D vwCl N ad EE 7 0 0 (fw_E below args s D vwCl N ad EE (some (.int z.1)) z.2) M [(0, .ref (ad o)), (2, .int x2), (3, .int x3), (4, .int x4), (5, .int x5)] 62 [] := by
  intro n
  induction n with
  | zero => intro M x2 x3 x4 x5  h; cases h
  | succ n ih => intro M x2 x3 x4 x5  h; exact c_Mod_ring_b62 C ho ih  h
set_option maxRecDepth 100000 in
theorem c_Mod_ring_b0 {p : Program} {l : Launch} {e : Env} {s : State} {m : MethodId} {args : Array Value} {below : List Frame} {meth : Method} {c : Code} {D : va_G} {cI cZ cH cR : ClassId} {N : Nat} {ad : Nat → Nat} {EE : fw_M → Nat → va_E} {o : Nat} {M : fw_M} {x1 : Int32} {x2 : Int32} {z : (Int32 × fw_M)} (C : fw_C p s m args meth c cX9_ring RX9 wsX9_ring 7 (some .int) D vwCl (fw_tys cI cZ cH cR) N ad fw_nw0) (ho : o_Mod EE ad N cI cZ cH cR o) (h : P_Mod_ring_b0 o M x1 x2 = some z) : fw_J p l e (headSpec wsX9_ring rm_Mod_ring).room s m args below meth c D vwCl N ad EE 7 0 0 (fw_E below args s D vwCl N ad EE (some (.int z.1)) z.2) M [(0, .ref (ad o)), (1, .int x1), (2, .int x2)] 0 [] := by
  unfold P_Mod_ring_b0 at h
  refine fw_aload_n (pc := 0) C 0 dX9_ring_0 rfl rfl ?_
  refine fw_iconst (pc := 1) C (v := 0) dX9_ring_1 fk_iconst_0 ?_
  have h := fw_plh h
  refine fw_puti (pc := 2) C ho.2.1 rfl qX9_ring_47 tyX9 tyX9_ok nmX9 rfl rfl dX9_ring_2 ?_
  refine fw_aload_n (pc := 5) C 0 dX9_ring_5 rfl rfl ?_
  obtain ⟨v2, hv2, h⟩ := fw_bind h
  refine fw_callV1 (pc := 6) C (rest := []) (c_Mod_isThere ho hv2) (cwV 0 C.2.2.2.2.1 gX9_ring_X9_isThere rfl rfl rfl hd_Mod_isThere ⟨Nat.le_of_ble_eq_true rfl, Nat.le_of_ble_eq_true rfl⟩) ho.1 rfl rfl ⟨Nat.zero_le _, Nat.zero_le _⟩ rfl (Nat.le_of_ble_eq_true rfl) dX9_ring_6 ?_
  refine fw_if_ne (pc := 9) C (tgt := 15) dX9_ring_9 (by decide) (fun c3 => ?_) (fun c3 => ?_)
  · have h := fw_iff h c3
    refine fw_aload_n (pc := 15) C 0 dX9_ring_15 rfl rfl ?_
    refine fw_iload_n (pc := 16) C 1 dX9_ring_16 rfl rfl ?_
    obtain ⟨v4, hv4, h⟩ := fw_bind h
    refine fw_callV1 (pc := 17) C (rest := []) (c_Mod_isDoor ho hv4) (cwV 1 C.2.2.2.2.1 gX9_ring_X9_isDoor rfl rfl rfl hd_Mod_isDoor ⟨Nat.le_of_ble_eq_true rfl, Nat.le_of_ble_eq_true rfl⟩) ho.1 rfl rfl ⟨Nat.zero_le _, Nat.zero_le _⟩ rfl (Nat.le_of_ble_eq_true rfl) dX9_ring_17 ?_
    refine fw_if_eq (pc := 20) C (tgt := 33) dX9_ring_20 (by decide) (fun c5 => ?_) (fun c5 => ?_)
    · have h := fw_ift h c5
      exact fw_sub [] rfl (c_Mod_ring_b33 C ho h)
    · have h := fw_iff h c5
      refine fw_iload_n (pc := 23) C 2 dX9_ring_23 rfl rfl ?_
      refine fw_i2l (pc := 24) C dX9_ring_24 ?_
      refine fw_lconst (pc := 25) C (v := 0) dX9_ring_25 fk_lconst_0 ?_
      refine fw_lconst (pc := 26) C (v := 1) dX9_ring_26 fk_lconst_1 ?_
      obtain ⟨v6, hv6, h⟩ := fw_bind h
      refine fw_callS1 (pc := 27) C (rest := []) (c_Mod_in  hv6) (va_cwS 3 C.2.2.2.2.1 gX9_ring_X9_in rfl rfl rfl hd_Mod_in.2 ⟨Nat.le_of_ble_eq_true rfl, Nat.le_of_ble_eq_true rfl⟩) rfl ⟨Nat.zero_le _, Nat.zero_le _⟩ rfl (Nat.le_of_ble_eq_true rfl) dX9_ring_27 ?_
      refine fw_if_ne (pc := 30) C (tgt := 36) dX9_ring_30 (by decide) (fun c7 => ?_) (fun c7 => ?_)
      · have h := fw_iff h c7
        refine fw_aload_n (pc := 36) C 0 dX9_ring_36 rfl rfl ?_
        refine fw_getr (pc := 37) C ho.2.2.2.2.2.2.1.1 rfl qX9_ring_19 dX9_ring_37 ?_
        refine fw_iload_n (pc := 40) C 1 dX9_ring_40 rfl rfl ?_
        obtain ⟨v8, hv8, h⟩ := fw_bind h
        refine fw_callS1 (pc := 41) C (rest := []) (c_Mod_waiting ho.2.2.2.2.2.2.1.2 hv8) (va_cwS 2 C.2.2.2.2.1 gX9_ring_X9_waiting rfl rfl rfl hd_Mod_waiting.2 ⟨Nat.le_of_ble_eq_true rfl, Nat.le_of_ble_eq_true rfl⟩) rfl ⟨Nat.zero_le _, Nat.zero_le _⟩ rfl (Nat.le_of_ble_eq_true rfl) dX9_ring_41 ?_
        refine fw_aload_n (pc := 44) C 0 dX9_ring_44 rfl rfl ?_
        refine fw_getr (pc := 45) C ho.2.2.2.2.2.2.1.1 rfl qX9_ring_19 dX9_ring_45 ?_
        obtain ⟨v9, hv9, h⟩ := fw_bind h
        refine fw_callS1 (pc := 48) C (rest := [_]) (c_Mod_nobodies ho.2.2.2.2.2.2.1.2 hv9) (va_cwS 1 C.2.2.2.2.1 gX9_ring_X9_nobodies rfl rfl rfl hd_Mod_nobodies.2 ⟨Nat.le_of_ble_eq_true rfl, Nat.le_of_ble_eq_true rfl⟩) rfl ⟨Nat.zero_le _, Nat.zero_le _⟩ rfl (Nat.le_of_ble_eq_true rfl) dX9_ring_48 ?_
        refine fw_iconst (pc := 51) C (v := -1) dX9_ring_51 fk_iconst_m1 ?_
        refine fw_ixor (pc := 52) C dX9_ring_52 ?_
        refine fw_iand (pc := 53) C dX9_ring_53 ?_
        have h := fw_plh h
        refine fw_istore_n (pc := 54) C (L2 := [(0, .ref _), (1, .int _), (2, .int _), (3, .int _)]) [1, 2, 3, 0] dX9_ring_54 rfl (by decide) rfl ?_
        refine fw_ldc (pc := 55) C (v := -1000000) kX9_ring_90 dX9_ring_55 ?_
        refine fw_istore (pc := 57) C (L2 := [(0, .ref _), (1, .int _), (2, .int _), (3, .int _), (4, .int _)]) [1, 2, 3, 4, 0] dX9_ring_57 (by decide) rfl ?_
        refine fw_iconst (pc := 59) C (v := 1) dX9_ring_59 fk_iconst_1 ?_
        refine fw_istore (pc := 60) C (L2 := [(0, .ref _), (1, .int _), (2, .int _), (3, .int _), (4, .int _), (5, .int _)]) [1, 2, 3, 4, 5, 0] dX9_ring_60 (by decide) rfl ?_
        exact fw_sub [0, 2, 3, 4, 5] rfl (c_Mod_ring_h62 C ho _ _ _ _ _ _ h)
      · have h := fw_ift h c7
        exact fw_sub [] rfl (c_Mod_ring_b33 C ho h)
  · have h := fw_ift h c3
    refine fw_ldc (pc := 12) C (v := -1000002) kX9_ring_187 dX9_ring_12 ?_
    exact fw_iret (pc := 14) C (fw_p1 h) (fw_p2 h) dX9_ring_14
theorem c_Mod_ring {l : Launch} {D : va_G} {cI cZ cH cR : ClassId} {N : Nat} {ad : Nat → Nat} {EE : fw_M → Nat → va_E} {o : Nat} {M : fw_M} {a0 : Int32} {a1 : Int32} {z : (Int32 × fw_M)} (ho : o_Mod EE ad N cI cZ cH cR o) (h : P_Mod_ring o M a0 a1 = some z) : fw_Met l yX9_ring wsX9_ring rm_Mod_ring D vwCl (fw_tys cI cZ cH cR) N ad fw_nw0 EE [.ref (ad o), .int a0, .int a1] M (some (.int z.1)) z.2 := by
  unfold P_Mod_ring at h
  exact fw_intro (cc := cX9_ring) (maxL := 7) (ret := some .int) (own := RX9) (by decide) rfl rfl (Nat.le_of_ble_eq_true rfl) (fun p e s m args below meth c C => fw_sub [0, 1, 2] rfl (c_Mod_ring_b0 C ho h))
end
