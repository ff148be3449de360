noncomputable section
abbrev rm_Door_goes : Room := { frames := 6, cells := 0, slots := 0, locals := 137 }
theorem hd_Door_goes : yX8_goes.cls = RX8 ∧ yX8_goes.cls ≠ "java/lang/invoke/MethodHandle" ∧ yX8_goes.cls ≠ "java/lang/invoke/VarHandle" ∧ (parseMethodDescriptor yX8_goes.desc).map (fun d => d.parameters.length) = some 1 := by decide +kernel
theorem qX8_goes_43 : fw_G wsX8_goes RX8 43 RX8 TX8 9 5 := ⟨by decide +kernel, by decide +kernel, by decide⟩
theorem qX8_goes_25 : fw_G wsX8_goes RX8 25 RX8 TX8 9 2 := ⟨by decide +kernel, by decide +kernel, by decide⟩
theorem kX8_goes_70 : Cond.constant RX8 70 (-1000001) ∈ wsX8_goes := by decide +kernel
def P_Door_goes_b28 (o : Nat) (M : fw_M) (t0 : Int32) : Option (Int32 × fw_M) := some (t0, M)
def P_Door_goes_b0 (o : Nat) (M : fw_M) (x1 : Int32) : Option (Int32 × fw_M) := (P_Door_isPerson o M x1).bind fun v1 => (if v1 = (0 : Int32) then P_Door_goes_b28 o M (-1000001 : Int32) else (P_Fore_whenThrough (o + 157) (o + 4) M x1).bind fun q3 => (P_Door_orNone q3.2 q3.1).bind fun v4 => P_Door_goes_b28 o q3.2 v4)
def P_Door_goes (o : Nat) (M : fw_M) (a0 : Int32) : Option (Int32 × fw_M) := P_Door_goes_b0 o M a0
set_option maxRecDepth 100000 in
theorem c_Door_goes_b28 {p : Program} {l : Launch} {e : Env} {s : State} {m : MethodId} {args : Array Value} {below : List Frame} {meth : Method} {c : Code} {D : va_G} {cI cZ cH cR : ClassId} {N : Nat} {ad : Nat → Nat} {EE : fw_M → Nat → va_E} {o : Nat} {M : fw_M} {t0 : Int32} {z : (Int32 × fw_M)} (C : fw_C p s m args meth c cX8_goes RX8 wsX8_goes 2 (some .int) D vwCl (fw_tys cI cZ cH cR) N ad fw_nw0) (ho : o_Door EE ad N cI cZ cH cR o) (h : P_Door_goes_b28 o M t0 = some z) : fw_J p l e (headSpec wsX8_goes rm_Door_goes).room s m args below meth c D vwCl N ad EE 2 0 0 (fw_E below args s D vwCl N ad EE (some (.int z.1)) z.2) M [] 28 [.int t0] := by
  unfold P_Door_goes_b28 at h
  exact fw_iret (pc := 28) C (fw_p1 h) (fw_p2 h) dX8_goes_28
set_option maxRecDepth 100000 in
theorem c_Door_goes_b0 {p : Program} {l : Launch} {e : Env} {s : State} {m : MethodId} {args : Array Value} {below : List Frame} {meth : Method} {c : Code} {D : va_G} {cI cZ cH cR : ClassId} {N : Nat} {ad : Nat → Nat} {EE : fw_M → Nat → va_E} {o : Nat} {M : fw_M} {x1 : Int32} {z : (Int32 × fw_M)} (C : fw_C p s m args meth c cX8_goes RX8 wsX8_goes 2 (some .int) D vwCl (fw_tys cI cZ cH cR) N ad fw_nw0) (ho : o_Door EE ad N cI cZ cH cR o) (h : P_Door_goes_b0 o M x1 = some z) : fw_J p l e (headSpec wsX8_goes rm_Door_goes).room s m args below meth c D vwCl N ad EE 2 0 0 (fw_E below args s D vwCl N ad EE (some (.int z.1)) z.2) M [(0, .ref (ad o)), (1, .int x1)] 0 [] := by
  unfold P_Door_goes_b0 at h
  refine fw_aload_n (pc := 0) C 0 dX8_goes_0 rfl rfl ?_
  refine fw_iload_n (pc := 1) C 1 dX8_goes_1 rfl rfl ?_
  obtain ⟨v1, hv1, h⟩ := fw_bind h
  refine fw_callV1 (pc := 2) C (rest := []) (c_Door_isPerson ho hv1) (cwV 1 C.2.2.2.2.1 gX8_goes_X8_isPerson rfl rfl rfl hd_Door_isPerson ⟨Nat.le_of_ble_eq_true rfl, Nat.le_of_ble_eq_true rfl⟩) ho.1 rfl rfl ⟨Nat.zero_le _, Nat.zero_le _⟩ rfl (Nat.le_of_ble_eq_true rfl) dX8_goes_2 ?_
  refine fw_if_eq (pc := 5) C (tgt := 26) dX8_goes_5 (by decide) (fun c2 => ?_) (fun c2 => ?_)
  · have h := fw_ift h c2
    refine fw_ldc (pc := 26) C (v := -1000001) kX8_goes_70 dX8_goes_26 ?_
    exact fw_sub [] rfl (c_Door_goes_b28 C ho h)
  · have h := fw_iff h c2
    refine fw_aload_n (pc := 8) C 0 dX8_goes_8 rfl rfl ?_
    refine fw_getr (pc := 9) C ho.2.2.2.2.2.2.1.1 rfl qX8_goes_43 dX8_goes_9 ?_
    refine fw_aload_n (pc := 12) C 0 dX8_goes_12 rfl rfl ?_
    refine fw_getr (pc := 13) C ho.2.2.2.1.1 rfl qX8_goes_25 dX8_goes_13 ?_
    refine fw_iload_n (pc := 16) C 1 dX8_goes_16 rfl rfl ?_
    obtain ⟨q3, hq3, h⟩ := fw_bind h
    refine fw_callV1 (pc := 17) C (rest := []) (c_Fore_whenThrough ho.2.2.2.2.2.2.1.2 ho.2.2.2.1.2 hq3) (cwV 2 C.2.2.2.2.1 gX8_goes_X2_whenThrough rfl rfl rfl hd_Fore_whenThrough ⟨Nat.le_of_ble_eq_true rfl, Nat.le_of_ble_eq_true rfl⟩) ho.2.2.2.2.2.2.1.2.1 rfl rfl ⟨Nat.zero_le _, Nat.zero_le _⟩ rfl (Nat.le_of_ble_eq_true rfl) dX8_goes_17 ?_
    obtain ⟨v4, hv4, h⟩ := fw_bind h
    refine fw_callS1 (pc := 20) C (rest := []) (c_Door_orNone  hv4) (va_cwS 1 C.2.2.2.2.1 gX8_goes_X8_orNone rfl rfl rfl hd_Door_orNone.2 ⟨Nat.le_of_ble_eq_true rfl, Nat.le_of_ble_eq_true rfl⟩) rfl ⟨Nat.zero_le _, Nat.zero_le _⟩ rfl (Nat.le_of_ble_eq_true rfl) dX8_goes_20 ?_
    refine fw_goto (pc := 23) C (tgt := 28) dX8_goes_23 (by decide) ?_
    exact fw_sub [] rfl (c_Door_goes_b28 C ho h)
theorem c_Door_goes {l : Launch} {D : va_G} {cI cZ cH cR : ClassId} {N : Nat} {ad : Nat → Nat} {EE : fw_M → Nat → va_E} {o : Nat} {M : fw_M} {a0 : Int32} {z : (Int32 × fw_M)} (ho : o_Door EE ad N cI cZ cH cR o) (h : P_Door_goes o M a0 = some z) : fw_Met l yX8_goes wsX8_goes rm_Door_goes D vwCl (fw_tys cI cZ cH cR) N ad fw_nw0 EE [.ref (ad o), .int a0] M (some (.int z.1)) z.2 := by
  unfold P_Door_goes at h
  exact fw_intro (cc := cX8_goes) (maxL := 2) (ret := some .int) (own := RX8) (by decide) rfl rfl (Nat.le_of_ble_eq_true rfl) (fun p e s m args below meth c C => fw_sub [0, 1] rfl (c_Door_goes_b0 C ho h))
abbrev rm_Door_stuck : Room := { frames := 5, cells := 0, slots := 0, locals := 114 }
theorem hd_Door_stuck : yX8_stuck.cls = RX8 ∧ yX8_stuck.cls ≠ "java/lang/invoke/MethodHandle" ∧ yX8_stuck.cls ≠ "java/lang/invoke/VarHandle" ∧ (parseMethodDescriptor yX8_stuck.desc).map (fun d => d.parameters.length) = some 0 := by decide +kernel
theorem qX8_stuck_25 : fw_G wsX8_stuck RX8 25 RX8 TX8 9 2 := ⟨by decide +kernel, by decide +kernel, by decide⟩
theorem qX8_stuck_139 : fw_G wsX8_stuck RX8 139 RX3 TX3 9 2 := ⟨by decide +kernel, by decide +kernel, by decide⟩
theorem kX8_stuck_145 : Cond.constant RX8 145 (-1000002) ∈ wsX8_stuck := by decide +kernel
theorem qX8_stuck_232 : fw_G wsX8_stuck RX8 232 RX3 TX3 9 0 := ⟨by decide +kernel, by decide +kernel, by decide⟩
theorem qX8_stuck_43 : fw_G wsX8_stuck RX8 43 RX8 TX8 9 5 := ⟨by decide +kernel, by decide +kernel, by decide⟩
theorem qX8_stuck_235 : fw_G wsX8_stuck RX8 235 RX5 TX5 4 3 := ⟨by decide +kernel, by decide +kernel, by decide⟩
def P_Door_stuck_b17 (o : Nat) (K17 : fw_M → Int32 → Int32 → Option (Int32 × fw_M)) (M : fw_M) (x1 : Int32) (x2 : Int32) : Option (Int32 × fw_M) := (if (M (o + 4) 0) ≤ x2 then some (x1, M) else (P_Fore_lineAt (o + 157) (o + 4) M x2).bind fun q2 => fw_pl ((x1 ||| (q2 ((o + 157) + 9) 3))) fun y3 => K17 q2 y3 (x2 + (1 : Int32)))
def P_Door_stuck_h17 (o : Nat) : Nat → fw_M → Int32 → Int32 → Option (Int32 × fw_M)
  | 0, _, _, _ => none
  | n + 1, M, x1, x2 => P_Door_stuck_b17 o (P_Door_stuck_h17 o n) M x1 x2
def P_Door_stuck_b0 (o : Nat) (M : fw_M) : Option (Int32 × fw_M) := (if (M (o + 4) 2) = (0 : Int32) then some ((-1000002 : Int32), M) else P_Door_stuck_h17 o fw_fu M (0 : Int32) (0 : Int32))
def P_Door_stuck (o : Nat) (M : fw_M) : Option (Int32 × fw_M) := P_Door_stuck_b0 o M
set_option maxRecDepth 100000 in
theorem c_Door_stuck_b17 {p : Program} {l : Launch} {e : Env} {s : State} {m : MethodId} {args : Array Value} {below : List Frame} {meth : Method} {c : Code} {D : va_G} {cI cZ cH cR : ClassId} {N : Nat} {ad : Nat → Nat} {EE : fw_M → Nat → va_E} {o : Nat} {K17 : fw_M → Int32 → Int32 → Option (Int32 × fw_M)} {M : fw_M} {x1 : Int32} {x2 : Int32} {z : (Int32 × fw_M)} (C : fw_C p s m args meth c cX8_stuck RX8 wsX8_stuck 3 (some .int) D vwCl (fw_tys cI cZ cH cR) N ad fw_nw0) (ho : o_Door EE ad N cI cZ cH cR o) (hK17 : ∀ (Mk : fw_M) (kx1 : Int32) (kx2 : Int32), K17 Mk kx1 kx2 = some z → fw_J p l e (headSpec wsX8_stuck rm_Door_stuck).room s m args below meth c D vwCl N ad EE 3 0 0 (fw_E below args s D vwCl N ad EE (some (.int z.1)) z.2) Mk [(0, .ref (ad o)), (1, .int kx1), (2, .int kx2)] 17 []) (h : P_Door_stuck_b17 o K17 M x1 x2 = some z) : fw_J p l e (headSpec wsX8_stuck rm_Door_stuck).room s m args below meth c D vwCl N ad EE 3 0 0 (fw_E below args s D vwCl N ad EE (some (.int z.1)) z.2) M [(0, .ref (ad o)), (1, .int x1), (2, .int x2)] 17 [] := by
  unfold P_Door_stuck_b17 at h
  refine fw_iload_n (pc := 17) C 2 dX8_stuck_17 rfl rfl ?_
  refine fw_aload_n (pc := 18) C 0 dX8_stuck_18 rfl rfl ?_
  refine fw_getr (pc := 19) C ho.2.2.2.1.1 rfl qX8_stuck_25 dX8_stuck_19 ?_
  refine fw_geti (pc := 22) C ho.2.2.2.1.2.2.1 rfl qX8_stuck_232 dX8_stuck_22 ?_
  refine fw_icmp_ge (pc := 25) C (tgt := 52) dX8_stuck_25 (by decide) (fun c1 => ?_) (fun c1 => ?_)
  · have h := fw_ift h c1
    refine fw_iload_n (pc := 52) C 1 dX8_stuck_52 rfl rfl ?_
    exact fw_iret (pc := 53) C (fw_p1 h) (fw_p2 h) dX8_stuck_53
  · have h := fw_iff h c1
    refine fw_iload_n (pc := 28) C 1 dX8_stuck_28 rfl rfl ?_
    refine fw_aload_n (pc := 29) C 0 dX8_stuck_29 rfl rfl ?_
    refine fw_getr (pc := 30) C ho.2.2.2.2.2.2.1.1 rfl qX8_stuck_43 dX8_stuck_30 ?_
    refine fw_aload_n (pc := 33) C 0 dX8_stuck_33 rfl rfl ?_
    refine fw_getr (pc := 34) C ho.2.2.2.1.1 rfl qX8_stuck_25 dX8_stuck_34 ?_
    refine fw_iload_n (pc := 37) C 2 dX8_stuck_37 rfl rfl ?_
    obtain ⟨q2, hq2, h⟩ := fw_bind h
    refine fw_callV1 (pc := 38) C (rest := [_]) (c_Fore_lineAt ho.2.2.2.2.2.2.1.2 ho.2.2.2.1.2 hq2) (cwV 2 C.2.2.2.2.1 gX8_stuck_X2_lineAt rfl rfl rfl hd_Fore_lineAt ⟨Nat.le_of_ble_eq_true rfl, Nat.le_of_ble_eq_true rfl⟩) ho.2.2.2.2.2.2.1.2.1 rfl rfl ⟨Nat.zero_le _, Nat.zero_le _⟩ rfl (Nat.le_of_ble_eq_true rfl) dX8_stuck_38 ?_
    refine fw_geti (pc := 41) C ho.2.2.2.2.2.2.1.2.2.2.2.2.2.2.2.2 rfl qX8_stuck_235 dX8_stuck_41 ?_
    refine fw_ior (pc := 44) C dX8_stuck_44 ?_
    have h := fw_plh h
    refine fw_istore_n (pc := 45) C (L2 := [(0, .ref _), (1, .int _), (2, .int _)]) [1, 0, 2] dX8_stuck_45 rfl (by decide) rfl ?_
    refine fw_iinc (pc := 46) C (v := 1) (L2 := [(0, .ref _), (1, .int _), (2, .int _)]) 2 [1, 2, 0] dX8_stuck_46 rfl fk_iconst_1 (by decide) rfl ?_
    refine fw_goto (pc := 49) C (tgt := 17) dX8_stuck_49 (by decide) ?_
    exact (hK17 _ _ _ h)
theorem c_Door_stuck_h17 {p : Program} {l : Launch} {e : Env} {s : State} {m : MethodId} {args : Array Value} {below : List Frame} {meth : Method} {c : Code} {D : va_G} {cI cZ cH cR : ClassId} {N : Nat} {ad : Nat → Nat} {EE : fw_M → Nat → va_E} {o : Nat} {z : (Int32 × fw_M)} (C : fw_C p s m args meth c cX8_stuck RX8 wsX8_stuck 3 (some .int) D vwCl (fw_tys cI cZ cH cR) N ad fw_nw0) (ho : o_Door EE ad N cI cZ cH cR o) : ∀ (n : Nat) (M : fw_M) (x1 : Int32) (x2 : Int32), P_Door_stuck_h17 o n M x1 x2 = some z → fw_J p l e (headSpec wsX8_stuck rm_Door_stuck).room s m args below meth c D vwCl N ad EE 3 0 0 (fw_E below args s D vwCl N ad EE (some (.int z.1)) z.2) M [(0, .ref (ad o)), (1, .int x1), (2, .int x2)] 17 [] := by
  intro n
  induction n with
  | zero => intro M x1 x2  h; cases h
  | succ n ih => intro M x1 x2  h; exact c_Door_stuck_b17 C ho ih  h
set_option maxRecDepth 100000 in
theorem c_Door_stuck_b0 {p : Program} {l : Launch} {e : Env} {s : State} {m : MethodId} {args : Array Value} {below : List Frame} {meth : Method} {c : Code} {D : va_G} {cI cZ cH cR : ClassId} {N : Nat} {ad : Nat → Nat} {EE : fw_M → Nat → va_E} {o : Nat} {M : fw_M} {z : (Int32 × fw_M)} (C : fw_C p s m args meth c cX8_stuck RX8 wsX8_stuck 3 (some .int) D vwCl (fw_tys cI cZ cH cR) N ad fw_nw0) (ho : o_Door EE ad N cI cZ cH cR o) (h : P_Door_stuck_b0 o M = some z) : fw_J p l e (headSpec wsX8_stuck rm_Door_stuck).room s m args below meth c D vwCl N ad EE 3 0 0 (fw_E below args s D vwCl N ad EE (some (.int z.1)) z.2) M [(0, .ref (ad o))] 0 [] := by
  unfold P_Door_stuck_b0 at h
  refine fw_aload_n (pc := 0) C 0 dX8_stuck_0 rfl rfl ?_
  refine fw_getr (pc := 1) C ho.2.2.2.1.1 rfl qX8_stuck_25 dX8_stuck_1 ?_
  refine fw_geti (pc := 4) C ho.2.2.2.1.2.2.2.2.1 rfl qX8_stuck_139 dX8_stuck_4 ?_
  refine fw_if_ne (pc := 7) C (tgt := 13) dX8_stuck_7 (by decide) (fun c1 => ?_) (fun c1 => ?_)
  · have h := fw_iff h c1
    refine fw_iconst (pc := 13) C (v := 0) dX8_stuck_13 fk_iconst_0 ?_
    refine fw_istore_n (pc := 14) C (L2 := [(0, .ref _), (1, .int _)]) [1, 0] dX8_stuck_14 rfl (by decide) rfl ?_
    refine fw_iconst (pc := 15) C (v := 0) dX8_stuck_15 fk_iconst_0 ?_
    refine fw_istore_n (pc := 16) C (L2 := [(0, .ref _), (1, .int _), (2, .int _)]) [1, 2, 0] dX8_stuck_16 rfl (by decide) rfl ?_
    exact (c_Door_stuck_h17 C ho _ _ _ _ h)
  · have h := fw_ift h c1
    refine fw_ldc (pc := 10) C (v := -1000002) kX8_stuck_145 dX8_stuck_10 ?_
    exact fw_iret (pc := 12) C (fw_p1 h) (fw_p2 h) dX8_stuck_12
theorem c_Door_stuck {l : Launch} {D : va_G} {cI cZ cH cR : ClassId} {N : Nat} {ad : Nat → Nat} {EE : fw_M → Nat → va_E} {o : Nat} {M : fw_M} {z : (Int32 × fw_M)} (ho : o_Door EE ad N cI cZ cH cR o) (h : P_Door_stuck o M = some z) : fw_Met l yX8_stuck wsX8_stuck rm_Door_stuck D vwCl (fw_tys cI cZ cH cR) N ad fw_nw0 EE [.ref (ad o)] M (some (.int z.1)) z.2 := by
  unfold P_Door_stuck at h
  exact fw_intro (cc := cX8_stuck) (maxL := 3) (ret := some .int) (own := RX8) (by decide) rfl rfl (Nat.le_of_ble_eq_true rfl) (fun p e s m args below meth c C => fw_sub [0] rfl (c_Door_stuck_b0 C ho h))
abbrev rm_Door_setAnswer : Room := { frames := 1, cells := 0, slots := 0, locals := 20 }
theorem hd_Door_setAnswer : yX8_setAnswer.cls = RX8 ∧ yX8_setAnswer.cls ≠ "java/lang/invoke/MethodHandle" ∧ yX8_setAnswer.cls ≠ "java/lang/invoke/VarHandle" ∧ (parseMethodDescriptor yX8_setAnswer.desc).map (fun d => d.parameters.length) = some 2 := by decide +kernel
theorem kX8_setAnswer_317 : Cond.constant RX8 317 (-1000000) ∈ wsX8_setAnswer := by decide +kernel
def P_Door_setAnswer_b20 (M : fw_M) (t0 : Int32) : Option Int32 := some t0
def P_Door_setAnswer_b0 (M : fw_M) (x0 : Int32) (x1 : Int32) : Option Int32 := (if (0 : Int32) ≤ x0 then (if x1 = (0 : Int32) then (P_J6_bitCount x0).bind fun v3 => P_Door_setAnswer_b20 M v3 else P_Door_setAnswer_b20 M x0) else some (-1000000 : Int32))
def P_Door_setAnswer (M : fw_M) (a0 : Int32) (a1 : Int32) : Option Int32 := P_Door_setAnswer_b0 M a0 a1
set_option maxRecDepth 100000 in
theorem c_Door_setAnswer_b20 {p : Program} {l : Launch} {e : Env} {s : State} {m : MethodId} {args : Array Value} {below : List Frame} {meth : Method} {c : Code} {D : va_G} {cI cZ cH cR : ClassId} {N : Nat} {ad : Nat → Nat} {EE : fw_M → Nat → va_E} {M : fw_M} {t0 : Int32} {z : Int32} (C : fw_C p s m args meth c cX8_setAnswer RX8 wsX8_setAnswer 2 (some .int) D vwCl (fw_tys cI cZ cH cR) N ad fw_nw0) (h : P_Door_setAnswer_b20 M t0 = some z) : fw_J p l e (headSpec wsX8_setAnswer rm_Door_setAnswer).room s m args below meth c D vwCl N ad EE 2 0 0 (fw_E below args s D vwCl N ad EE (some (.int z)) M) M [] 20 [.int t0] := by
  unfold P_Door_setAnswer_b20 at h
  exact fw_iret (pc := 20) C (Option.some.inj h) rfl dX8_setAnswer_20
set_option maxRecDepth 100000 in
theorem c_Door_setAnswer_b0 {p : Program} {l : Launch} {e : Env} {s : State} {m : MethodId} {args : Array Value} {below : List Frame} {meth : Method} {c : Code} {D : va_G} {cI cZ cH cR : ClassId} {N : Nat} {ad : Nat → Nat} {EE : fw_M → Nat → va_E} {M : fw_M} {x0 : Int32} {x1 : Int32} {z : Int32} (C : fw_C p s m args meth c cX8_setAnswer RX8 wsX8_setAnswer 2 (some .int) D vwCl (fw_tys cI cZ cH cR) N ad fw_nw0) (h : P_Door_setAnswer_b0 M x0 x1 = some z) : fw_J p l e (headSpec wsX8_setAnswer rm_Door_setAnswer).room s m args below meth c D vwCl N ad EE 2 0 0 (fw_E below args s D vwCl N ad EE (some (.int z)) M) M [(0, .int x0), (1, .int x1)] 0 [] := by
  unfold P_Door_setAnswer_b0 at h
  refine fw_iload_n (pc := 0) C 0 dX8_setAnswer_0 rfl rfl ?_
  refine fw_if_ge (pc := 1) C (tgt := 8) dX8_setAnswer_1 (by decide) (fun c1 => ?_) (fun c1 => ?_)
  · have h := fw_ift h c1
    refine fw_iload_n (pc := 8) C 1 dX8_setAnswer_8 rfl rfl ?_
    refine fw_if_ne (pc := 9) C (tgt := 19) dX8_setAnswer_9 (by decide) (fun c2 => ?_) (fun c2 => ?_)
    · have h := fw_iff h c2
      refine fw_iload_n (pc := 19) C 0 dX8_setAnswer_19 rfl rfl ?_
      exact fw_sub [] rfl (c_Door_setAnswer_b20 C  h)
    · have h := fw_ift h c2
      refine fw_iload_n (pc := 12) C 0 dX8_setAnswer_12 rfl rfl ?_
      obtain ⟨v3, hv3, h⟩ := fw_bind h
      refine fw_callS1 (pc := 13) C (rest := []) (c_J6_bitCount  hv3) (va_cwS 1 C.2.2.2.2.1 gX8_setAnswer_J6_bitCount_0f7a4 rfl rfl rfl hd_J6_bitCount.2 ⟨Nat.le_of_ble_eq_true rfl, Nat.le_of_ble_eq_true rfl⟩) rfl ⟨Nat.zero_le _, Nat.zero_le _⟩ rfl (Nat.le_of_ble_eq_true rfl) dX8_setAnswer_13 ?_
      refine fw_goto (pc := 16) C (tgt := 20) dX8_setAnswer_16 (by decide) ?_
      exact fw_sub [] rfl (c_Door_setAnswer_b20 C  h)
  · have h := fw_iff h c1
    refine fw_ldcw (pc := 4) C (v := -1000000) kX8_setAnswer_317 dX8_setAnswer_4 ?_
    exact fw_iret (pc := 7) C (Option.some.inj h) rfl dX8_setAnswer_7
theorem c_Door_setAnswer {l : Launch} {D : va_G} {cI cZ cH cR : ClassId} {N : Nat} {ad : Nat → Nat} {EE : fw_M → Nat → va_E} {M : fw_M} {a0 : Int32} {a1 : Int32} {z : Int32} (h : P_Door_setAnswer M a0 a1 = some z) : fw_Met l yX8_setAnswer wsX8_setAnswer rm_Door_setAnswer D vwCl (fw_tys cI cZ cH cR) N ad fw_nw0 EE [.int a0, .int a1] M (some (.int z)) M := by
  unfold P_Door_setAnswer at h
  exact fw_intro (cc := cX8_setAnswer) (maxL := 2) (ret := some .int) (own := RX8) (by decide) rfl rfl (Nat.le_of_ble_eq_true rfl) (fun p e s m args below meth c C => fw_sub [0, 1] rfl (c_Door_setAnswer_b0 C  h))
abbrev rm_Door_ring : Room := { frames := 3, cells := 0, slots := 0, locals := 70 }
theorem hd_Door_ring : yX8_ring.cls = RX8 ∧ yX8_ring.cls ≠ "java/lang/invoke/MethodHandle" ∧ yX8_ring.cls ≠ "java/lang/invoke/VarHandle" ∧ (parseMethodDescriptor yX8_ring.desc).map (fun d => d.parameters.length) = some 2 := by decide +kernel
theorem qX8_ring_43 : fw_G wsX8_ring RX8 43 RX8 TX8 9 5 := ⟨by decide +kernel, by decide +kernel, by decide⟩
theorem qX8_ring_25 : fw_G wsX8_ring RX8 25 RX8 TX8 9 2 := ⟨by decide +kernel, by decide +kernel, by decide⟩
def P_Door_ring_b23 (o : Nat) (M : fw_M) (x1 : Int32) (x2 : Int32) (t1 : Int32) : Option (Int32 × fw_M) := (P_Door_refusal o M t1).bind fun v1 => (if v1 = (0 : Int32) then (P_Fore_leastRing (o + 157) (o + 4) M x1).bind fun q3 => (P_Door_setAnswer q3.2 q3.1 x2).bind fun v4 => some (v4, q3.2) else some (v1, M))
def P_Door_ring_b22 (o : Nat) (M : fw_M) (x1 : Int32) (x2 : Int32) : Option (Int32 × fw_M) := P_Door_ring_b23 o M x1 x2 (0 : Int32)
def P_Door_ring_b0 (o : Nat) (M : fw_M) (x1 : Int32) (x2 : Int32) : Option (Int32 × fw_M) := (P_Door_isDoor o M x1).bind fun v1 => (if v1 = (0 : Int32) then P_Door_ring_b22 o M x1 x2 else (P_Door_within M x2 (0 : Int32) (1 : Int32)).bind fun v3 => (if v3 = (0 : Int32) then P_Door_ring_b22 o M x1 x2 else P_Door_ring_b23 o M x1 x2 (1 : Int32)))
def P_Door_ring (o : Nat) (M : fw_M) (a0 : Int32) (a1 : Int32) : Option (Int32 × fw_M) := P_Door_ring_b0 o M a0 a1
set_option maxRecDepth 100000 in
theorem c_Door_ring_b23 {p : Program} {l : Launch} {e : Env} {s : State} {m : MethodId} {args : Array Value} {below : List Frame} {meth : Method} {c : Code} {D : va_G} {cI cZ cH cR : ClassId} {N : Nat} {ad : Nat → Nat} {EE : fw_M → Nat → va_E} {o : Nat} {M : fw_M} {x1 : Int32} {x2 : Int32} {t1 : Int32} {z : (Int32 × fw_M)} (C : fw_C p s m args meth c cX8_ring RX8 wsX8_ring 4 (some .int) D vwCl (fw_tys cI cZ cH cR) N ad fw_nw0) (ho : o_Door EE ad N cI cZ cH cR o) (h : P_Door_ring_b23 o M x1 x2 t1 = some z) : fw_J p l e (headSpec wsX8_ring rm_Door_ring).room s m args below meth c D vwCl N ad EE 4 0 0 (fw_E below args s D vwCl N ad EE (some (.int z.1)) z.2) M [(0, .ref (ad o)), (1, .int x1), (2, .int x2)] 23 [.int t1, .ref (ad o)] := by
  unfold P_Door_ring_b23 at h
  obtain ⟨v1, hv1, h⟩ := fw_bind h
  refine fw_callV1 (pc := 23) C (rest := []) (c_Door_refusal ho hv1) (cwV 1 C.2.2.2.2.1 gX8_ring_X8_refusal rfl rfl rfl hd_Door_refusal ⟨Nat.le_of_ble_eq_true rfl, Nat.le_of_ble_eq_true rfl⟩) ho.1 rfl rfl ⟨Nat.zero_le _, Nat.zero_le _⟩ rfl (Nat.le_of_ble_eq_true rfl) dX8_ring_23 ?_
  refine fw_istore_n (pc := 26) C (L2 := [(0, .ref _), (1, .int _), (2, .int _), (3, .int _)]) [1, 2, 3, 0] dX8_ring_26 rfl (by decide) rfl ?_
  refine fw_iload_n (pc := 27) C 3 dX8_ring_27 rfl rfl ?_
  refine fw_if_eq (pc := 28) C (tgt := 33) dX8_ring_28 (by decide) (fun c2 => ?_) (fun c2 => ?_)
  · have h := fw_ift h c2
    refine fw_aload_n (pc := 33) C 0 dX8_ring_33 rfl rfl ?_
    refine fw_getr (pc := 34) C ho.2.2.2.2.2.2.1.1 rfl qX8_ring_43 dX8_ring_34 ?_
    refine fw_aload_n (pc := 37) C 0 dX8_ring_37 rfl rfl ?_
    refine fw_getr (pc := 38) C ho.2.2.2.1.1 rfl qX8_ring_25 dX8_ring_38 ?_
    refine fw_iload_n (pc := 41) C 1 dX8_ring_41 rfl rfl ?_
    obtain ⟨q3, hq3, h⟩ := fw_bind h
    refine fw_callV1 (pc := 42) C (rest := []) (c_Fore_leastRing ho.2.2.2.2.2.2.1.2 ho.2.2.2.1.2 hq3) (cwV 2 C.2.2.2.2.1 gX8_ring_X2_leastRing rfl rfl rfl hd_Fore_leastRing ⟨Nat.le_of_ble_eq_true rfl, Nat.le_of_ble_eq_true rfl⟩) ho.2.2.2.2.2.2.1.2.1 rfl rfl ⟨Nat.zero_le _, Nat.zero_le _⟩ rfl (Nat.le_of_ble_eq_true rfl) dX8_ring_42 ?_
    refine fw_iload_n (pc := 45) C 2 dX8_ring_45 rfl rfl ?_
    obtain ⟨v4, hv4, h⟩ := fw_bind h
    refine fw_callS1 (pc := 46) C (rest := []) (c_Door_setAnswer  hv4) (va_cwS 2 C.2.2.2.2.1 gX8_ring_X8_setAnswer rfl rfl rfl hd_Door_setAnswer.2 ⟨Nat.le_of_ble_eq_true rfl, Nat.le_of_ble_eq_true rfl⟩) rfl ⟨Nat.zero_le _, Nat.zero_le _⟩ rfl (Nat.le_of_ble_eq_true rfl) dX8_ring_46 ?_
    exact fw_iret (pc := 49) C (fw_p1 h) (fw_p2 h) dX8_ring_49
  · have h := fw_iff h c2
    refine fw_iload_n (pc := 31) C 3 dX8_ring_31 rfl rfl ?_
    exact fw_iret (pc := 32) C (fw_p1 h) (fw_p2 h) dX8_ring_32
set_option maxRecDepth 100000 in
theorem c_Door_ring_b22 {p : Program} {l : Launch} {e : Env} {s : State} {m : MethodId} {args : Array Value} {below : List Frame} {meth : Method} {c : Code} {D : va_G} {cI cZ cH cR : ClassId} {N : Nat} {ad : Nat → Nat} {EE : fw_M → Nat → va_E} {o : Nat} {M : fw_M} {x1 : Int32} {x2 : Int32} {z : (Int32 × fw_M)} (C : fw_C p s m args meth c cX8_ring RX8 wsX8_ring 4 (some .int) D vwCl (fw_tys cI cZ cH cR) N ad fw_nw0) (ho : o_Door EE ad N cI cZ cH cR o) (h : P_Door_ring_b22 o M x1 x2 = some z) : fw_J p l e (headSpec wsX8_ring rm_Door_ring).room s m args below meth c D vwCl N ad EE 4 0 0 (fw_E below args s D vwCl N ad EE (some (.int z.1)) z.2) M [(0, .ref (ad o)), (1, .int x1), (2, .int x2)] 22 [.ref (ad o)] := by
  unfold P_Door_ring_b22 at h
  refine fw_iconst (pc := 22) C (v := 0) dX8_ring_22 fk_iconst_0 ?_
  exact (c_Door_ring_b23 C ho h)
set_option maxRecDepth 100000 in
theorem c_Door_ring_b0 {p : Program} {l : Launch} {e : Env} {s : State} {m : MethodId} {args : Array Value} {below : List Frame} {meth : Method} {c : Code} {D : va_G} {cI cZ cH cR : ClassId} {N : Nat} {ad : Nat → Nat} {EE : fw_M → Nat → va_E} {o : Nat} {M : fw_M} {x1 : Int32} {x2 : Int32} {z : (Int32 × fw_M)} (C : fw_C p s m args meth c cX8_ring RX8 wsX8_ring 4 (some .int) D vwCl (fw_tys cI cZ cH cR) N ad fw_nw0) (ho : o_Door EE ad N cI cZ cH cR o) (h : P_Door_ring_b0 o M x1 x2 = some z) : fw_J p l e (headSpec wsX8_ring rm_Door_ring).room s m args below meth c D vwCl N ad EE 4 0 0 (fw_E below args s D vwCl N ad EE (some (.int z.1)) z.2) M [(0, .ref (ad o)), (1, .int x1), (2, .int x2)] 0 [] := by
  unfold P_Door_ring_b0 at h
  refine fw_aload_n (pc := 0) C 0 dX8_ring_0 rfl rfl ?_
  refine fw_aload_n (pc := 1) C 0 dX8_ring_1 rfl rfl ?_
  refine fw_iload_n (pc := 2) C 1 dX8_ring_2 rfl rfl ?_
  obtain ⟨v1, hv1, h⟩ := fw_bind h
  refine fw_callV1 (pc := 3) C (rest := [_]) (c_Door_isDoor ho hv1) (cwV 1 C.2.2.2.2.1 gX8_ring_X8_isDoor rfl rfl rfl hd_Door_isDoor ⟨Nat.le_of_ble_eq_true rfl, Nat.le_of_ble_eq_true rfl⟩) ho.1 rfl rfl ⟨Nat.zero_le _, Nat.zero_le _⟩ rfl (Nat.le_of_ble_eq_true rfl) dX8_ring_3 ?_
  refine fw_if_eq (pc := 6) C (tgt := 22) dX8_ring_6 (by decide) (fun c2 => ?_) (fun c2 => ?_)
  · have h := fw_ift h c2
    exact (c_Door_ring_b22 C ho h)
  · have h := fw_iff h c2
    refine fw_iload_n (pc := 9) C 2 dX8_ring_9 rfl rfl ?_
    refine fw_iconst (pc := 10) C (v := 0) dX8_ring_10 fk_iconst_0 ?_
    refine fw_iconst (pc := 11) C (v := 1) dX8_ring_11 fk_iconst_1 ?_
    obtain ⟨v3, hv3, h⟩ := fw_bind h
    refine fw_callS1 (pc := 12) C (rest := [_]) (c_Door_within  hv3) (va_cwS 3 C.2.2.2.2.1 gX8_ring_X8_within rfl rfl rfl hd_Door_within.2 ⟨Nat.le_of_ble_eq_true rfl, Nat.le_of_ble_eq_true rfl⟩) rfl ⟨Nat.zero_le _, Nat.zero_le _⟩ rfl (Nat.le_of_ble_eq_true rfl) dX8_ring_12 ?_
    refine fw_if_eq (pc := 15) C (tgt := 22) dX8_ring_15 (by decide) (fun c4 => ?_) (fun c4 => ?_)
    · have h := fw_ift h c4
      exact (c_Door_ring_b22 C ho h)
    · have h := fw_iff h c4
      refine fw_iconst (pc := 18) C (v := 1) dX8_ring_18 fk_iconst_1 ?_
      refine fw_goto (pc := 19) C (tgt := 23) dX8_ring_19 (by decide) ?_
      exact (c_Door_ring_b23 C ho h)
theorem c_Door_ring {l : Launch} {D : va_G} {cI cZ cH cR : ClassId} {N : Nat} {ad : Nat → Nat} {EE : fw_M → Nat → va_E} {o : Nat} {M : fw_M} {a0 : Int32} {a1 : Int32} {z : (Int32 × fw_M)} (ho : o_Door EE ad N cI cZ cH cR o) (h : P_Door_ring o M a0 a1 = some z) : fw_Met l yX8_ring wsX8_ring rm_Door_ring D vwCl (fw_tys cI cZ cH cR) N ad fw_nw0 EE [.ref (ad o), .int a0, .int a1] M (some (.int z.1)) z.2 := by
  unfold P_Door_ring at h
  exact fw_intro (cc := cX8_ring) (maxL := 4) (ret := some .int) (own := RX8) (by decide) rfl rfl (Nat.le_of_ble_eq_true rfl) (fun p e s m args below meth c C => fw_sub [0, 1, 2] rfl (c_Door_ring_b0 C ho h))
abbrev rm_Door_bows : Room := { frames := 5, cells := 0, slots := 0, locals := 119 }
theorem hd_Door_bows : yX8_bows.cls = RX8 ∧ yX8_bows.cls ≠ "java/lang/invoke/MethodHandle" ∧ yX8_bows.cls ≠ "java/lang/invoke/VarHandle" ∧ (parseMethodDescriptor yX8_bows.desc).map (fun d => d.parameters.length) = some 2 := by decide +kernel
theorem qX8_bows_43 : fw_G wsX8_bows RX8 43 RX8 TX8 9 5 := ⟨by decide +kernel, by decide +kernel, by decide⟩
theorem qX8_bows_25 : fw_G wsX8_bows RX8 25 RX8 TX8 9 2 := ⟨by decide +kernel, by decide +kernel, by decide⟩
def P_Door_bows_b23 (o : Nat) (M : fw_M) (x1 : Int32) (x2 : Int32) (t1 : Int32) : Option (Int32 × fw_M) := (P_Door_refusal o M t1).bind fun v1 => (if v1 = (0 : Int32) then (P_Fore_fewestBows (o + 157) (o + 4) M x1).bind fun q3 => (P_Door_setAnswer q3.2 q3.1 x2).bind fun v4 => some (v4, q3.2) else some (v1, M))
def P_Door_bows_b22 (o : Nat) (M : fw_M) (x1 : Int32) (x2 : Int32) : Option (Int32 × fw_M) := P_Door_bows_b23 o M x1 x2 (0 : Int32)
def P_Door_bows_b0 (o : Nat) (M : fw_M) (x1 : Int32) (x2 : Int32) : Option (Int32 × fw_M) := (P_Door_isDoor o M x1).bind fun v1 => (if v1 = (0 : Int32) then P_Door_bows_b22 o M x1 x2 else (P_Door_within M x2 (0 : Int32) (1 : Int32)).bind fun v3 => (if v3 = (0 : Int32) then P_Door_bows_b22 o M x1 x2 else P_Door_bows_b23 o M x1 x2 (1 : Int32)))
def P_Door_bows (o : Nat) (M : fw_M) (a0 : Int32) (a1 : Int32) : Option (Int32 × fw_M) := P_Door_bows_b0 o M a0 a1
set_option maxRecDepth 100000 in
theorem c_Door_bows_b23 {p : Program} {l : Launch} {e : Env} {s : State} {m : MethodId} {args : Array Value} {below : List Frame} {meth : Method} {c : Code} {D : va_G} {cI cZ cH cR : ClassId} {N : Nat} {ad : Nat → Nat} {EE : fw_M → Nat → va_E} {o : Nat} {M : fw_M} {x1 : Int32} {x2 : Int32} {t1 : Int32} {z : (Int32 × fw_M)} (C : fw_C p s m args meth c cX8_bows RX8 wsX8_bows 4 (some .int) D vwCl (fw_tys cI cZ cH cR) N ad fw_nw0) (ho : o_Door EE ad N cI cZ cH cR o) (h : P_Door_bows_b23 o M x1 x2 t1 = some z) : fw_J p l e (headSpec wsX8_bows rm_Door_bows).room s m args below meth c D vwCl N ad EE 4 0 0 (fw_E below args s D vwCl N ad EE (some (.int z.1)) z.2) M [(0, .ref (ad o)), (1, .int x1), (2, .int x2)] 23 [.int t1, .ref (ad o)] := by
  unfold P_Door_bows_b23 at h
  obtain ⟨v1, hv1, h⟩ := fw_bind h
  refine fw_callV1 (pc := 23) C (rest := []) (c_Door_refusal ho hv1) (cwV 1 C.2.2.2.2.1 gX8_bows_X8_refusal rfl rfl rfl hd_Door_refusal ⟨Nat.le_of_ble_eq_true rfl, Nat.le_of_ble_eq_true rfl⟩) ho.1 rfl rfl ⟨Nat.zero_le _, Nat.zero_le _⟩ rfl (Nat.le_of_ble_eq_true rfl) dX8_bows_23 ?_
  refine fw_istore_n (pc := 26) C (L2 := [(0, .ref _), (1, .int _), (2, .int _), (3, .int _)]) [1, 2, 3, 0] dX8_bows_26 rfl (by decide) rfl ?_
  refine fw_iload_n (pc := 27) C 3 dX8_bows_27 rfl rfl ?_
  refine fw_if_eq (pc := 28) C (tgt := 33) dX8_bows_28 (by decide) (fun c2 => ?_) (fun c2 => ?_)
  · have h := fw_ift h c2
    refine fw_aload_n (pc := 33) C 0 dX8_bows_33 rfl rfl ?_
    refine fw_getr (pc := 34) C ho.2.2.2.2.2.2.1.1 rfl qX8_bows_43 dX8_bows_34 ?_
    refine fw_aload_n (pc := 37) C 0 dX8_bows_37 rfl rfl ?_
    refine fw_getr (pc := 38) C ho.2.2.2.1.1 rfl qX8_bows_25 dX8_bows_38 ?_
    refine fw_iload_n (pc := 41) C 1 dX8_bows_41 rfl rfl ?_
    obtain ⟨q3, hq3, h⟩ := fw_bind h
    refine fw_callV1 (pc := 42) C (rest := []) (c_Fore_fewestBows ho.2.2.2.2.2.2.1.2 ho.2.2.2.1.2 hq3) (cwV 2 C.2.2.2.2.1 gX8_bows_X2_fewestBows rfl rfl rfl hd_Fore_fewestBows ⟨Nat.le_of_ble_eq_true rfl, Nat.le_of_ble_eq_true rfl⟩) ho.2.2.2.2.2.2.1.2.1 rfl rfl ⟨Nat.zero_le _, Nat.zero_le _⟩ rfl (Nat.le_of_ble_eq_true rfl) dX8_bows_42 ?_
    refine fw_iload_n (pc := 45) C 2 dX8_bows_45 rfl rfl ?_
    obtain ⟨v4, hv4, h⟩ := fw_bind h
    refine fw_callS1 (pc := 46) C (rest := []) (c_Door_setAnswer  hv4) (va_cwS 2 C.2.2.2.2.1 gX8_bows_X8_setAnswer rfl rfl rfl hd_Door_setAnswer.2 ⟨Nat.le_of_ble_eq_true rfl, Nat.le_of_ble_eq_true rfl⟩) rfl ⟨Nat.zero_le _, Nat.zero_le _⟩ rfl (Nat.le_of_ble_eq_true rfl) dX8_bows_46 ?_
    exact fw_iret (pc := 49) C (fw_p1 h) (fw_p2 h) dX8_bows_49
  · have h := fw_iff h c2
    refine fw_iload_n (pc := 31) C 3 dX8_bows_31 rfl rfl ?_
    exact fw_iret (pc := 32) C (fw_p1 h) (fw_p2 h) dX8_bows_32
set_option maxRecDepth 100000 in
theorem c_Door_bows_b22 {p : Program} {l : Launch} {e : Env} {s : State} {m : MethodId} {args : Array Value} {below : List Frame} {meth : Method} {c : Code} {D : va_G} {cI cZ cH cR : ClassId} {N : Nat} {ad : Nat → Nat} {EE : fw_M → Nat → va_E} {o : Nat} {M : fw_M} {x1 : Int32} {x2 : Int32} {z : (Int32 × fw_M)} (C : fw_C p s m args meth c cX8_bows RX8 wsX8_bows 4 (some .int) D vwCl (fw_tys cI cZ cH cR) N ad fw_nw0) (ho : o_Door EE ad N cI cZ cH cR o) (h : P_Door_bows_b22 o M x1 x2 = some z) : fw_J p l e (headSpec wsX8_bows rm_Door_bows).room s m args below meth c D vwCl N ad EE 4 0 0 (fw_E below args s D vwCl N ad EE (some (.int z.1)) z.2) M [(0, .ref (ad o)), (1, .int x1), (2, .int x2)] 22 [.ref (ad o)] := by
  unfold P_Door_bows_b22 at h
  refine fw_iconst (pc := 22) C (v := 0) dX8_bows_22 fk_iconst_0 ?_
  exact (c_Door_bows_b23 C ho h)
set_option maxRecDepth 100000 in
theorem c_Door_bows_b0 {p : Program} {l : Launch} {e : Env} {s : State} {m : MethodId} {args : Array Value} {below : List Frame} {meth : Method} {c : Code} {D : va_G} {cI cZ cH cR : ClassId} {N : Nat} {ad : Nat → Nat} {EE : fw_M → Nat → va_E} {o : Nat} {M : fw_M} {x1 : Int32} {x2 : Int32} {z : (Int32 × fw_M)} (C : fw_C p s m args meth c cX8_bows RX8 wsX8_bows 4 (some .int) D vwCl (fw_tys cI cZ cH cR) N ad fw_nw0) (ho : o_Door EE ad N cI cZ cH cR o) (h : P_Door_bows_b0 o M x1 x2 = some z) : fw_J p l e (headSpec wsX8_bows rm_Door_bows).room s m args below meth c D vwCl N ad EE 4 0 0 (fw_E below args s D vwCl N ad EE (some (.int z.1)) z.2) M [(0, .ref (ad o)), (1, .int x1), (2, .int x2)] 0 [] := by
  unfold P_Door_bows_b0 at h
  refine fw_aload_n (pc := 0) C 0 dX8_bows_0 rfl rfl ?_
  refine fw_aload_n (pc := 1) C 0 dX8_bows_1 rfl rfl ?_
  refine fw_iload_n (pc := 2) C 1 dX8_bows_2 rfl rfl ?_
  obtain ⟨v1, hv1, h⟩ := fw_bind h
  refine fw_callV1 (pc := 3) C (rest := [_]) (c_Door_isDoor ho hv1) (cwV 1 C.2.2.2.2.1 gX8_bows_X8_isDoor rfl rfl rfl hd_Door_isDoor ⟨Nat.le_of_ble_eq_true rfl, Nat.le_of_ble_eq_true rfl⟩) ho.1 rfl rfl ⟨Nat.zero_le _, Nat.zero_le _⟩ rfl (Nat.le_of_ble_eq_true rfl) dX8_bows_3 ?_
  refine fw_if_eq (pc := 6) C (tgt := 22) dX8_bows_6 (by decide) (fun c2 => ?_) (fun c2 => ?_)
  · have h := fw_ift h c2
    exact (c_Door_bows_b22 C ho h)
  · have h := fw_iff h c2
    refine fw_iload_n (pc := 9) C 2 dX8_bows_9 rfl rfl ?_
    refine fw_iconst (pc := 10) C (v := 0) dX8_bows_10 fk_iconst_0 ?_
    refine fw_iconst (pc := 11) C (v := 1) dX8_bows_11 fk_iconst_1 ?_
    obtain ⟨v3, hv3, h⟩ := fw_bind h
    refine fw_callS1 (pc := 12) C (rest := [_]) (c_Door_within  hv3) (va_cwS 3 C.2.2.2.2.1 gX8_bows_X8_within rfl rfl rfl hd_Door_within.2 ⟨Nat.le_of_ble_eq_true rfl, Nat.le_of_ble_eq_true rfl⟩) rfl ⟨Nat.zero_le _, Nat.zero_le _⟩ rfl (Nat.le_of_ble_eq_true rfl) dX8_bows_12 ?_
    refine fw_if_eq (pc := 15) C (tgt := 22) dX8_bows_15 (by decide) (fun c4 => ?_) (fun c4 => ?_)
    · have h := fw_ift h c4
      exact (c_Door_bows_b22 C ho h)
    · have h := fw_iff h c4
      refine fw_iconst (pc := 18) C (v := 1) dX8_bows_18 fk_iconst_1 ?_
      refine fw_goto (pc := 19) C (tgt := 23) dX8_bows_19 (by decide) ?_
      exact (c_Door_bows_b23 C ho h)
theorem c_Door_bows {l : Launch} {D : va_G} {cI cZ cH cR : ClassId} {N : Nat} {ad : Nat → Nat} {EE : fw_M → Nat → va_E} {o : Nat} {M : fw_M} {a0 : Int32} {a1 : Int32} {z : (Int32 × fw_M)} (ho : o_Door EE ad N cI cZ cH cR o) (h : P_Door_bows o M a0 a1 = some z) : fw_Met l yX8_bows wsX8_bows rm_Door_bows D vwCl (fw_tys cI cZ cH cR) N ad fw_nw0 EE [.ref (ad o), .int a0, .int a1] M (some (.int z.1)) z.2 := by
  unfold P_Door_bows at h
  exact fw_intro (cc := cX8_bows) (maxL := 4) (ret := some .int) (own := RX8) (by decide) rfl rfl (Nat.le_of_ble_eq_true rfl) (fun p e s m args below meth c C => fw_sub [0, 1, 2] rfl (c_Door_bows_b0 C ho h))
abbrev rm_Door_raise : Room := { frames := 6, cells := 0, slots := 0, locals := 144 }
theorem hd_Door_raise : yX8_raise.cls = RX8 ∧ yX8_raise.cls ≠ "java/lang/invoke/MethodHandle" ∧ yX8_raise.cls ≠ "java/lang/invoke/VarHandle" ∧ (parseMethodDescriptor yX8_raise.desc).map (fun d => d.parameters.length) = some 1 := by decide +kernel
theorem qX8_raise_43 : fw_G wsX8_raise RX8 43 RX8 TX8 9 5 := ⟨by decide +kernel, by decide +kernel, by decide⟩
theorem qX8_raise_25 : fw_G wsX8_raise RX8 25 RX8 TX8 9 2 := ⟨by decide +kernel, by decide +kernel, by decide⟩
def P_Door_raise_b33 (o : Nat) (M : fw_M) (t0 : Int32) : Option (Int32 × fw_M) := some (t0, M)
def P_Door_raise_b0 (o : Nat) (M : fw_M) (x1 : Int32) : Option (Int32 × fw_M) := (P_Door_isDoor o M x1).bind fun v1 => (P_Door_refusal o M v1).bind fun v2 => (if v2 = (0 : Int32) then (P_Fore_leastRaise (o + 157) (o + 4) M x1).bind fun q4 => (P_Door_orNone q4.2 q4.1).bind fun v5 => P_Door_raise_b33 o q4.2 v5 else P_Door_raise_b33 o M v2)
def P_Door_raise (o : Nat) (M : fw_M) (a0 : Int32) : Option (Int32 × fw_M) := P_Door_raise_b0 o M a0
set_option maxRecDepth 100000 in
theorem c_Door_raise_b33 {p : Program} {l : Launch} {e : Env} {s : State} {m : MethodId} {args : Array Value} {below : List Frame} {meth : Method} {c : Code} {D : va_G} {cI cZ cH cR : ClassId} {N : Nat} {ad : Nat → Nat} {EE : fw_M → Nat → va_E} {o : Nat} {M : fw_M} {t0 : Int32} {z : (Int32 × fw_M)} (C : fw_C p s m args meth c cX8_raise RX8 wsX8_raise 3 (some .int) D vwCl (fw_tys cI cZ cH cR) N ad fw_nw0) (ho : o_Door EE ad N cI cZ cH cR o) (h : P_Door_raise_b33 o M t0 = some z) : fw_J p l e (headSpec wsX8_raise rm_Door_raise).room s m args below meth c D vwCl N ad EE 3 0 0 (fw_E below args s D vwCl N ad EE (some (.int z.1)) z.2) M [] 33 [.int t0] := by
  unfold P_Door_raise_b33 at h
  exact fw_iret (pc := 33) C (fw_p1 h) (fw_p2 h) dX8_raise_33
set_option maxRecDepth 100000 in
theorem c_Door_raise_b0 {p : Program} {l : Launch} {e : Env} {s : State} {m : MethodId} {args : Array Value} {below : List Frame} {meth : Method} {c : Code} {D : va_G} {cI cZ cH cR : ClassId} {N : Nat} {ad : Nat → Nat} {EE : fw_M → Nat → va_E} {o : Nat} {M : fw_M} {x1 : Int32} {z : (Int32 × fw_M)} (C : fw_C p s m args meth c cX8_raise RX8 wsX8_raise 3 (some .int) D vwCl (fw_tys cI cZ cH cR) N ad fw_nw0) (ho : o_Door EE ad N cI cZ cH cR o) (h : P_Door_raise_b0 o M x1 = some z) : fw_J p l e (headSpec wsX8_raise rm_Door_raise).room s m args below meth c D vwCl N ad EE 3 0 0 (fw_E below args s D vwCl N ad EE (some (.int z.1)) z.2) M [(0, .ref (ad o)), (1, .int x1)] 0 [] := by
  unfold P_Door_raise_b0 at h
  refine fw_aload_n (pc := 0) C 0 dX8_raise_0 rfl rfl ?_
  refine fw_aload_n (pc := 1) C 0 dX8_raise_1 rfl rfl ?_
  refine fw_iload_n (pc := 2) C 1 dX8_raise_2 rfl rfl ?_
  obtain ⟨v1, hv1, h⟩ := fw_bind h
  refine fw_callV1 (pc := 3) C (rest := [_]) (c_Door_isDoor ho hv1) (cwV 1 C.2.2.2.2.1 gX8_raise_X8_isDoor rfl rfl rfl hd_Door_isDoor ⟨Nat.le_of_ble_eq_true rfl, Nat.le_of_ble_eq_true rfl⟩) ho.1 rfl rfl ⟨Nat.zero_le _, Nat.zero_le _⟩ rfl (Nat.le_of_ble_eq_true rfl) dX8_raise_3 ?_
  obtain ⟨v2, hv2, h⟩ := fw_bind h
  refine fw_callV1 (pc := 6) C (rest := []) (c_Door_refusal ho hv2) (cwV 1 C.2.2.2.2.1 gX8_raise_X8_refusal rfl rfl rfl hd_Door_refusal ⟨Nat.le_of_ble_eq_true rfl, Nat.le_of_ble_eq_true rfl⟩) ho.1 rfl rfl ⟨Nat.zero_le _, Nat.zero_le _⟩ rfl (Nat.le_of_ble_eq_true rfl) dX8_raise_6 ?_
  refine fw_istore_n (pc := 9) C (L2 := [(0, .ref _), (1, .int _), (2, .int _)]) [1, 2, 0] dX8_raise_9 rfl (by decide) rfl ?_
  refine fw_iload_n (pc := 10) C 2 dX8_raise_10 rfl rfl ?_
  refine fw_if_eq (pc := 11) C (tgt := 18) dX8_raise_11 (by decide) (fun c3 => ?_) (fun c3 => ?_)
  · have h := fw_ift h c3
    refine fw_aload_n (pc := 18) C 0 dX8_raise_18 rfl rfl ?_
    refine fw_getr (pc := 19) C ho.2.2.2.2.2.2.1.1 rfl qX8_raise_43 dX8_raise_19 ?_
    refine fw_aload_n (pc := 22) C 0 dX8_raise_22 rfl rfl ?_
    refine fw_getr (pc := 23) C ho.2.2.2.1.1 rfl qX8_raise_25 dX8_raise_23 ?_
    refine fw_iload_n (pc := 26) C 1 dX8_raise_26 rfl rfl ?_
    obtain ⟨q4, hq4, h⟩ := fw_bind h
    refine fw_callV1 (pc := 27) C (rest := []) (c_Fore_leastRaise ho.2.2.2.2.2.2.1.2 ho.2.2.2.1.2 hq4) (cwV 2 C.2.2.2.2.1 gX8_raise_X2_leastRaise rfl rfl rfl hd_Fore_leastRaise ⟨Nat.le_of_ble_eq_true rfl, Nat.le_of_ble_eq_true rfl⟩) ho.2.2.2.2.2.2.1.2.1 rfl rfl ⟨Nat.zero_le _, Nat.zero_le _⟩ rfl (Nat.le_of_ble_eq_true rfl) dX8_raise_27 ?_
    obtain ⟨v5, hv5, h⟩ := fw_bind h
    refine fw_callS1 (pc := 30) C (rest := []) (c_Door_orNone  hv5) (va_cwS 1 C.2.2.2.2.1 gX8_raise_X8_orNone rfl rfl rfl hd_Door_orNone.2 ⟨Nat.le_of_ble_eq_true rfl, Nat.le_of_ble_eq_true rfl⟩) rfl ⟨Nat.zero_le _, Nat.zero_le _⟩ rfl (Nat.le_of_ble_eq_true rfl) dX8_raise_30 ?_
    exact fw_sub [] rfl (c_Door_raise_b33 C ho h)
  · have h := fw_iff h c3
    refine fw_iload_n (pc := 14) C 2 dX8_raise_14 rfl rfl ?_
    refine fw_goto (pc := 15) C (tgt := 33) dX8_raise_15 (by decide) ?_
    exact fw_sub [] rfl (c_Door_raise_b33 C ho h)
theorem c_Door_raise {l : Launch} {D : va_G} {cI cZ cH cR : ClassId} {N : Nat} {ad : Nat → Nat} {EE : fw_M → Nat → va_E} {o : Nat} {M : fw_M} {a0 : Int32} {z : (Int32 × fw_M)} (ho : o_Door EE ad N cI cZ cH cR o) (h : P_Door_raise o M a0 = some z) : fw_Met l yX8_raise wsX8_raise rm_Door_raise D vwCl (fw_tys cI cZ cH cR) N ad fw_nw0 EE [.ref (ad o), .int a0] M (some (.int z.1)) z.2 := by
  unfold P_Door_raise at h
  exact fw_intro (cc := cX8_raise) (maxL := 3) (ret := some .int) (own := RX8) (by decide) rfl rfl (Nat.le_of_ble_eq_true rfl) (fun p e s m args below meth c C => fw_sub [0, 1] rfl (c_Door_raise_b0 C ho h))
abbrev rm_Door_third : Room := { frames := 6, cells := 0, slots := 0, locals := 141 }
theorem hd_Door_third : yX8_third.cls = RX8 ∧ yX8_third.cls ≠ "java/lang/invoke/MethodHandle" ∧ yX8_third.cls ≠ "java/lang/invoke/VarHandle" ∧ (parseMethodDescriptor yX8_third.desc).map (fun d => d.parameters.length) = some 2 := by decide +kernel
theorem qX8_third_43 : fw_G wsX8_third RX8 43 RX8 TX8 9 5 := ⟨by decide +kernel, by decide +kernel, by decide⟩
theorem qX8_third_25 : fw_G wsX8_third RX8 25 RX8 TX8 9 2 := ⟨by decide +kernel, by decide +kernel, by decide⟩
def P_Door_third_b76 (o : Nat) (M : fw_M) (t0 : Int32) : Option (Int32 × fw_M) := some (t0, M)
def P_Door_third_b23 (o : Nat) (M : fw_M) (x1 : Int32) (x2 : Int32) (t1 : Int32) : Option (Int32 × fw_M) := (P_Door_refusal o M t1).bind fun v1 => (if v1 = (0 : Int32) then (P_Fore_bestThird (o + 157) (o + 4) M x1).bind fun q3 => (if x2 = (0 : Int32) then (P_Door_orNone q3.2 q3.1).bind fun v7 => P_Door_third_b76 o q3.2 v7 else (P_Fore_leftWith (o + 157) (o + 4) q3.2 x1 q3.1).bind fun q5 => (P_Door_orNone q5.2 q5.1).bind fun v6 => P_Door_third_b76 o q5.2 v6) else some (v1, M))
def P_Door_third_b22 (o : Nat) (M : fw_M) (x1 : Int32) (x2 : Int32) : Option (Int32 × fw_M) := P_Door_third_b23 o M x1 x2 (0 : Int32)
def P_Door_third_b0 (o : Nat) (M : fw_M) (x1 : Int32) (x2 : Int32) : Option (Int32 × fw_M) := (P_Door_isDoor o M x1).bind fun v1 => (if v1 = (0 : Int32) then P_Door_third_b22 o M x1 x2 else (P_Door_within M x2 (0 : Int32) (1 : Int32)).bind fun v3 => (if v3 = (0 : Int32) then P_Door_third_b22 o M x1 x2 else P_Door_third_b23 o M x1 x2 (1 : Int32)))
def P_Door_third (o : Nat) (M : fw_M) (a0 : Int32) (a1 : Int32) : Option (Int32 × fw_M) := P_Door_third_b0 o M a0 a1
set_option maxRecDepth 100000 in
theorem c_Door_third_b76 {p : Program} {l : Launch} {e : Env} {s : State} {m : MethodId} {args : Array Value} {below : List Frame} {meth : Method} {c : Code} {D : va_G} {cI cZ cH cR : ClassId} {N : Nat} {ad : Nat → Nat} {EE : fw_M → Nat → va_E} {o : Nat} {M : fw_M} {t0 : Int32} {z : (Int32 × fw_M)} (C : fw_C p s m args meth c cX8_third RX8 wsX8_third 5 (some .int) D vwCl (fw_tys cI cZ cH cR) N ad fw_nw0) (ho : o_Door EE ad N cI cZ cH cR o) (h : P_Door_third_b76 o M t0 = some z) : fw_J p l e (headSpec wsX8_third rm_Door_third).room s m args below meth c D vwCl N ad EE 5 0 0 (fw_E below args s D vwCl N ad EE (some (.int z.1)) z.2) M [] 76 [.int t0] := by
  unfold P_Door_third_b76 at h
  exact fw_iret (pc := 76) C (fw_p1 h) (fw_p2 h) dX8_third_76
set_option maxRecDepth 100000 in
theorem c_Door_third_b23 {p : Program} {l : Launch} {e : Env} {s : State} {m : MethodId} {args : Array Value} {below : List Frame} {meth : Method} {c : Code} {D : va_G} {cI cZ cH cR : ClassId} {N : Nat} {ad : Nat → Nat} {EE : fw_M → Nat → va_E} {o : Nat} {M : fw_M} {x1 : Int32} {x2 : Int32} {t1 : Int32} {z : (Int32 × fw_M)} (C : fw_C p s m args meth c cX8_third RX8 wsX8_third 5 (some .int) D vwCl (fw_tys cI cZ cH cR) N ad fw_nw0) (ho : o_Door EE ad N cI cZ cH cR o) (h : P_Door_third_b23 o M x1 x2 t1 = some z) : fw_J p l e (headSpec wsX8_third rm_Door_third).room s m args below meth c D vwCl N ad EE 5 0 0 (fw_E below args s D vwCl N ad EE (some (.int z.1)) z.2) M [(0, .ref (ad o)), (1, .int x1), (2, .int x2)] 23 [.int t1, .ref (ad o)] := by
  unfold P_Door_third_b23 at h
  obtain ⟨v1, hv1, h⟩ := fw_bind h
  refine fw_callV1 (pc := 23) C (rest := []) (c_Door_refusal ho hv1) (cwV 1 C.2.2.2.2.1 gX8_third_X8_refusal rfl rfl rfl hd_Door_refusal ⟨Nat.le_of_ble_eq_true rfl, Nat.le_of_ble_eq_true rfl⟩) ho.1 rfl rfl ⟨Nat.zero_le _, Nat.zero_le _⟩ rfl (Nat.le_of_ble_eq_true rfl) dX8_third_23 ?_
  refine fw_istore_n (pc := 26) C (L2 := [(0, .ref _), (1, .int _), (2, .int _), (3, .int _)]) [1, 2, 3, 0] dX8_third_26 rfl (by decide) rfl ?_
  refine fw_iload_n (pc := 27) C 3 dX8_third_27 rfl rfl ?_
  refine fw_if_eq (pc := 28) C (tgt := 33) dX8_third_28 (by decide) (fun c2 => ?_) (fun c2 => ?_)
  · have h := fw_ift h c2
    refine fw_aload_n (pc := 33) C 0 dX8_third_33 rfl rfl ?_
    refine fw_getr (pc := 34) C ho.2.2.2.2.2.2.1.1 rfl qX8_third_43 dX8_third_34 ?_
    refine fw_aload_n (pc := 37) C 0 dX8_third_37 rfl rfl ?_
    refine fw_getr (pc := 38) C ho.2.2.2.1.1 rfl qX8_third_25 dX8_third_38 ?_
    refine fw_iload_n (pc := 41) C 1 dX8_third_41 rfl rfl ?_
    obtain ⟨q3, hq3, h⟩ := fw_bind h
    refine fw_callV1 (pc := 42) C (rest := []) (c_Fore_bestThird ho.2.2.2.2.2.2.1.2 ho.2.2.2.1.2 hq3) (cwV 2 C.2.2.2.2.1 gX8_third_X2_bestThird rfl rfl rfl hd_Fore_bestThird ⟨Nat.le_of_ble_eq_true rfl, Nat.le_of_ble_eq_true rfl⟩) ho.2.2.2.2.2.2.1.2.1 rfl rfl ⟨Nat.zero_le _, Nat.zero_le _⟩ rfl (Nat.le_of_ble_eq_true rfl) dX8_third_42 ?_
    refine fw_istore (pc := 45) C (L2 := [(0, .ref _), (1, .int _), (2, .int _), (3, .int _), (4, .int _)]) [1, 2, 3, 4, 0] dX8_third_45 (by decide) rfl ?_
    refine fw_iload_n (pc := 47) C 2 dX8_third_47 rfl rfl ?_
    refine fw_if_ne (pc := 48) C (tgt := 59) dX8_third_48 (by decide) (fun c4 => ?_) (fun c4 => ?_)
    · have h := fw_iff h c4
      refine fw_aload_n (pc := 59) C 0 dX8_third_59 rfl rfl ?_
      refine fw_getr (pc := 60) C ho.2.2.2.2.2.2.1.1 rfl qX8_third_43 dX8_third_60 ?_
      refine fw_aload_n (pc := 63) C 0 dX8_third_63 rfl rfl ?_
      refine fw_getr (pc := 64) C ho.2.2.2.1.1 rfl qX8_third_25 dX8_third_64 ?_
      refine fw_iload_n (pc := 67) C 1 dX8_third_67 rfl rfl ?_
      refine fw_iload (pc := 68) C 4 dX8_third_68 rfl ?_
      obtain ⟨q5, hq5, h⟩ := fw_bind h
      refine fw_callV1 (pc := 70) C (rest := []) (c_Fore_leftWith ho.2.2.2.2.2.2.1.2 ho.2.2.2.1.2 hq5) (cwV 3 C.2.2.2.2.1 gX8_third_X2_leftWith rfl rfl rfl hd_Fore_leftWith ⟨Nat.le_of_ble_eq_true rfl, Nat.le_of_ble_eq_true rfl⟩) ho.2.2.2.2.2.2.1.2.1 rfl rfl ⟨Nat.zero_le _, Nat.zero_le _⟩ rfl (Nat.le_of_ble_eq_true rfl) dX8_third_70 ?_
      obtain ⟨v6, hv6, h⟩ := fw_bind h
      refine fw_callS1 (pc := 73) C (rest := []) (c_Door_orNone  hv6) (va_cwS 1 C.2.2.2.2.1 gX8_third_X8_orNone rfl rfl rfl hd_Door_orNone.2 ⟨Nat.le_of_ble_eq_true rfl, Nat.le_of_ble_eq_true rfl⟩) rfl ⟨Nat.zero_le _, Nat.zero_le _⟩ rfl (Nat.le_of_ble_eq_true rfl) dX8_third_73 ?_
      exact fw_sub [] rfl (c_Door_third_b76 C ho h)
    · have h := fw_ift h c4
      refine fw_iload (pc := 51) C 4 dX8_third_51 rfl ?_
      obtain ⟨v7, hv7, h⟩ := fw_bind h
      refine fw_callS1 (pc := 53) C (rest := []) (c_Door_orNone  hv7) (va_cwS 1 C.2.2.2.2.1 gX8_third_X8_orNone rfl rfl rfl hd_Door_orNone.2 ⟨Nat.le_of_ble_eq_true rfl, Nat.le_of_ble_eq_true rfl⟩) rfl ⟨Nat.zero_le _, Nat.zero_le _⟩ rfl (Nat.le_of_ble_eq_true rfl) dX8_third_53 ?_
      refine fw_goto (pc := 56) C (tgt := 76) dX8_third_56 (by decide) ?_
      exact fw_sub [] rfl (c_Door_third_b76 C ho h)
  · have h := fw_iff h c2
    refine fw_iload_n (pc := 31) C 3 dX8_third_31 rfl rfl ?_
    exact fw_iret (pc := 32) C (fw_p1 h) (fw_p2 h) dX8_third_32
set_option maxRecDepth 100000 in
theorem c_Door_third_b22 {p : Program} {l : Launch} {e : Env} {s : State} {m : MethodId} {args : Array Value} {below : List Frame} {meth : Method} {c : Code} {D : va_G} {cI cZ cH cR : ClassId} {N : Nat} {ad : Nat → Nat} {EE : fw_M → Nat → va_E} {o : Nat} {M : fw_M} {x1 : Int32} {x2 : Int32} {z : (Int32 × fw_M)} (C : fw_C p s m args meth c cX8_third RX8 wsX8_third 5 (some .int) D vwCl (fw_tys cI cZ cH cR) N ad fw_nw0) (ho : o_Door EE ad N cI cZ cH cR o) (h : P_Door_third_b22 o M x1 x2 = some z) : fw_J p l e (headSpec wsX8_third rm_Door_third).room s m args below meth c D vwCl N ad EE 5 0 0 (fw_E below args s D vwCl N ad EE (some (.int z.1)) z.2) M [(0, .ref (ad o)), (1, .int x1), (2, .int x2)] 22 [.ref (ad o)] := by
  unfold P_Door_third_b22 at h
  refine fw_iconst (pc := 22) C (v := 0) dX8_third_22 fk_iconst_0 ?_
  exact (c_Door_third_b23 C ho h)
set_option maxRecDepth 100000 in
theorem c_Door_third_b0 {p : Program} {l : Launch} {e : Env} {s : State} {m : MethodId} {args : Array Value} {below : List Frame} {meth : Method} {c : Code} {D : va_G} {cI cZ cH cR : ClassId} {N : Nat} {ad : Nat → Nat} {EE : fw_M → Nat → va_E} {o : Nat} {M : fw_M} {x1 : Int32} {x2 : Int32} {z : (Int32 × fw_M)} (C : fw_C p s m args meth c cX8_third RX8 wsX8_third 5 (some .int) D vwCl (fw_tys cI cZ cH cR) N ad fw_nw0) (ho : o_Door EE ad N cI cZ cH cR o) (h : P_Door_third_b0 o M x1 x2 = some z) : fw_J p l e (headSpec wsX8_third rm_Door_third).room s m args below meth c D vwCl N ad EE 5 0 0 (fw_E below args s D vwCl N ad EE (some (.int z.1)) z.2) M [(0, .ref (ad o)), (1, .int x1), (2, .int x2)] 0 [] := by
  unfold P_Door_third_b0 at h
  refine fw_aload_n (pc := 0) C 0 dX8_third_0 rfl rfl ?_
  refine fw_aload_n (pc := 1) C 0 dX8_third_1 rfl rfl ?_
  refine fw_iload_n (pc := 2) C 1 dX8_third_2 rfl rfl ?_
  obtain ⟨v1, hv1, h⟩ := fw_bind h
  refine fw_callV1 (pc := 3) C (rest := [_]) (c_Door_isDoor ho hv1) (cwV 1 C.2.2.2.2.1 gX8_third_X8_isDoor rfl rfl rfl hd_Door_isDoor ⟨Nat.le_of_ble_eq_true rfl, Nat.le_of_ble_eq_true rfl⟩) ho.1 rfl rfl ⟨Nat.zero_le _, Nat.zero_le _⟩ rfl (Nat.le_of_ble_eq_true rfl) dX8_third_3 ?_
  refine fw_if_eq (pc := 6) C (tgt := 22) dX8_third_6 (by decide) (fun c2 => ?_) (fun c2 => ?_)
  · have h := fw_ift h c2
    exact (c_Door_third_b22 C ho h)
  · have h := fw_iff h c2
    refine fw_iload_n (pc := 9) C 2 dX8_third_9 rfl rfl ?_
    refine fw_iconst (pc := 10) C (v := 0) dX8_third_10 fk_iconst_0 ?_
    refine fw_iconst (pc := 11) C (v := 1) dX8_third_11 fk_iconst_1 ?_
    obtain ⟨v3, hv3, h⟩ := fw_bind h
    refine fw_callS1 (pc := 12) C (rest := [_]) (c_Door_within  hv3) (va_cwS 3 C.2.2.2.2.1 gX8_third_X8_within rfl rfl rfl hd_Door_within.2 ⟨Nat.le_of_ble_eq_true rfl, Nat.le_of_ble_eq_true rfl⟩) rfl ⟨Nat.zero_le _, Nat.zero_le _⟩ rfl (Nat.le_of_ble_eq_true rfl) dX8_third_12 ?_
    refine fw_if_eq (pc := 15) C (tgt := 22) dX8_third_15 (by decide) (fun c4 => ?_) (fun c4 => ?_)
    · have h := fw_ift h c4
      exact (c_Door_third_b22 C ho h)
    · have h := fw_iff h c4
      refine fw_iconst (pc := 18) C (v := 1) dX8_third_18 fk_iconst_1 ?_
      refine fw_goto (pc := 19) C (tgt := 23) dX8_third_19 (by decide) ?_
      exact (c_Door_third_b23 C ho h)
theorem c_Door_third {l : Launch} {D : va_G} {cI cZ cH cR : ClassId} {N : Nat} {ad : Nat → Nat} {EE : fw_M → Nat → va_E} {o : Nat} {M : fw_M} {a0 : Int32} {a1 : Int32} {z : (Int32 × fw_M)} (ho : o_Door EE ad N cI cZ cH cR o) (h : P_Door_third o M a0 a1 = some z) : fw_Met l yX8_third wsX8_third rm_Door_third D vwCl (fw_tys cI cZ cH cR) N ad fw_nw0 EE [.ref (ad o), .int a0, .int a1] M (some (.int z.1)) z.2 := by
  unfold P_Door_third at h
  exact fw_intro (cc := cX8_third) (maxL := 5) (ret := some .int) (own := RX8) (by decide) rfl rfl (Nat.le_of_ble_eq_true rfl) (fun p e s m args below meth c C => fw_sub [0, 1, 2] rfl (c_Door_third_b0 C ho h))
abbrev rm_Door_bestDoor : Room := { frames := 6, cells := 0, slots := 0, locals := 141 }
theorem hd_Door_bestDoor : yX8_bestDoor.cls = RX8 ∧ yX8_bestDoor.cls ≠ "java/lang/invoke/MethodHandle" ∧ yX8_bestDoor.cls ≠ "java/lang/invoke/VarHandle" ∧ (parseMethodDescriptor yX8_bestDoor.desc).map (fun d => d.parameters.length) = some 2 := by decide +kernel
theorem qX8_bestDoor_25 : fw_G wsX8_bestDoor RX8 25 RX8 TX8 9 2 := ⟨by decide +kernel, by decide +kernel, by decide⟩
theorem qX8_bestDoor_173 : fw_G wsX8_bestDoor RX8 173 RX3 TX3 9 7 := ⟨by decide +kernel, by decide +kernel, by decide⟩
theorem kX8_bestDoor_145 : Cond.constant RX8 145 (-1000002) ∈ wsX8_bestDoor := by decide +kernel
theorem qX8_bestDoor_43 : fw_G wsX8_bestDoor RX8 43 RX8 TX8 9 5 := ⟨by decide +kernel, by decide +kernel, by decide⟩
theorem kX8_bestDoor_70 : Cond.constant RX8 70 (-1000001) ∈ wsX8_bestDoor := by decide +kernel
def P_Door_bestDoor_b17 (o : Nat) (M : fw_M) : Option (Int32 × fw_M) := some ((-1000001 : Int32), M)
def P_Door_bestDoor_b76 (o : Nat) (M : fw_M) (t0 : Int32) : Option (Int32 × fw_M) := some (t0, M)
def P_Door_bestDoor_b0 (o : Nat) (M : fw_M) (x1 : Int32) (x2 : Int32) : Option (Int32 × fw_M) := (P_Door_isPerson o M x1).bind fun v1 => (if v1 = (0 : Int32) then P_Door_bestDoor_b17 o M else (P_Door_within M x2 (0 : Int32) (1 : Int32)).bind fun v3 => (if v3 = (0 : Int32) then P_Door_bestDoor_b17 o M else (fw_ald M ((o + 4) + 4) 7 x1).bind fun v5 => (if v5 = (-1 : Int32) then some ((-1000002 : Int32), M) else (P_Fore_soonestDoor (o + 157) (o + 4) M x1).bind fun q7 => (if x2 = (0 : Int32) then (P_Door_orNone q7.2 q7.1).bind fun v11 => P_Door_bestDoor_b76 o q7.2 v11 else (P_Fore_whenAt (o + 157) (o + 4) q7.2 x1 q7.1).bind fun q9 => (P_Door_orNone q9.2 q9.1).bind fun v10 => P_Door_bestDoor_b76 o q9.2 v10))))
def P_Door_bestDoor (o : Nat) (M : fw_M) (a0 : Int32) (a1 : Int32) : Option (Int32 × fw_M) := P_Door_bestDoor_b0 o M a0 a1
set_option maxRecDepth 100000 in
theorem c_Door_bestDoor_b17 {p : Program} {l : Launch} {e : Env} {s : State} {m : MethodId} {args : Array Value} {below : List Frame} {meth : Method} {c : Code} {D : va_G} {cI cZ cH cR : ClassId} {N : Nat} {ad : Nat → Nat} {EE : fw_M → Nat → va_E} {o : Nat} {M : fw_M} {z : (Int32 × fw_M)} (C : fw_C p s m args meth c cX8_bestDoor RX8 wsX8_bestDoor 4 (some .int) D vwCl (fw_tys cI cZ cH cR) N ad fw_nw0) (ho : o_Door EE ad N cI cZ cH cR o) (h : P_Door_bestDoor_b17 o M = some z) : fw_J p l e (headSpec wsX8_bestDoor rm_Door_bestDoor).room s m args below meth c D vwCl N ad EE 4 0 0 (fw_E below args s D vwCl N ad EE (some (.int z.1)) z.2) M [] 17 [] := by
  unfold P_Door_bestDoor_b17 at h
  refine fw_ldc (pc := 17) C (v := -1000001) kX8_bestDoor_70 dX8_bestDoor_17 ?_
  exact fw_iret (pc := 19) C (fw_p1 h) (fw_p2 h) dX8_bestDoor_19
set_option maxRecDepth 100000 in
theorem c_Door_bestDoor_b76 {p : Program} {l : Launch} {e : Env} {s : State} {m : MethodId} {args : Array Value} {below : List Frame} {meth : Method} {c : Code} {D : va_G} {cI cZ cH cR : ClassId} {N : Nat} {ad : Nat → Nat} {EE : fw_M → Nat → va_E} {o : Nat} {M : fw_M} {t0 : Int32} {z : (Int32 × fw_M)} (C : fw_C p s m args meth c cX8_bestDoor RX8 wsX8_bestDoor 4 (some .int) D vwCl (fw_tys cI cZ cH cR) N ad fw_nw0) (ho : o_Door EE ad N cI cZ cH cR o) (h : P_Door_bestDoor_b76 o M t0 = some z) : fw_J p l e (headSpec wsX8_bestDoor rm_Door_bestDoor).room s m args below meth c D vwCl N ad EE 4 0 0 (fw_E below args s D vwCl N ad EE (some (.int z.1)) z.2) M [] 76 [.int t0] := by
  unfold P_Door_bestDoor_b76 at h
  exact fw_iret (pc := 76) C (fw_p1 h) (fw_p2 h) dX8_bestDoor_76
set_option maxRecDepth 100000 in
theorem c_Door_bestDoor_b0 {p : Program} {l : Launch} {e : Env} {s : State} {m : MethodId} {args : Array Value} {below : List Frame} {meth : Method} {c : Code} {D : va_G} {cI cZ cH cR : ClassId} {N : Nat} {ad : Nat → Nat} {EE : fw_M → Nat → va_E} {o : Nat} {M : fw_M} {x1 : Int32} {x2 : Int32} {z : (Int32 × fw_M)} (C : fw_C p s m args meth c cX8_bestDoor RX8 wsX8_bestDoor 4 (some .int) D vwCl (fw_tys cI cZ cH cR) N ad fw_nw0) (ho : o_Door EE ad N cI cZ cH cR o) (h : P_Door_bestDoor_b0 o M x1 x2 = some z) : fw_J p l e (headSpec wsX8_bestDoor rm_Door_bestDoor).room s m args below meth c D vwCl N ad EE 4 0 0 (fw_E below args s D vwCl N ad EE (some (.int z.1)) z.2) M [(0, .ref (ad o)), (1, .int x1), (2, .int x2)] 0 [] := by
  unfold P_Door_bestDoor_b0 at h
  refine fw_aload_n (pc := 0) C 0 dX8_bestDoor_0 rfl rfl ?_
  refine fw_iload_n (pc := 1) C 1 dX8_bestDoor_1 rfl rfl ?_
  obtain ⟨v1, hv1, h⟩ := fw_bind h
  refine fw_callV1 (pc := 2) C (rest := []) (c_Door_isPerson ho hv1) (cwV 1 C.2.2.2.2.1 gX8_bestDoor_X8_isPerson rfl rfl rfl hd_Door_isPerson ⟨Nat.le_of_ble_eq_true rfl, Nat.le_of_ble_eq_true rfl⟩) ho.1 rfl rfl ⟨Nat.zero_le _, Nat.zero_le _⟩ rfl (Nat.le_of_ble_eq_true rfl) dX8_bestDoor_2 ?_
  refine fw_if_eq (pc := 5) C (tgt := 17) dX8_bestDoor_5 (by decide) (fun c2 => ?_) (fun c2 => ?_)
  · have h := fw_ift h c2
    exact fw_sub [] rfl (c_Door_bestDoor_b17 C ho h)
  · have h := fw_iff h c2
    refine fw_iload_n (pc := 8) C 2 dX8_bestDoor_8 rfl rfl ?_
    refine fw_iconst (pc := 9) C (v := 0) dX8_bestDoor_9 fk_iconst_0 ?_
    refine fw_iconst (pc := 10) C (v := 1) dX8_bestDoor_10 fk_iconst_1 ?_
    obtain ⟨v3, hv3, h⟩ := fw_bind h
    refine fw_callS1 (pc := 11) C (rest := []) (c_Door_within  hv3) (va_cwS 3 C.2.2.2.2.1 gX8_bestDoor_X8_within rfl rfl rfl hd_Door_within.2 ⟨Nat.le_of_ble_eq_true rfl, Nat.le_of_ble_eq_true rfl⟩) rfl ⟨Nat.zero_le _, Nat.zero_le _⟩ rfl (Nat.le_of_ble_eq_true rfl) dX8_bestDoor_11 ?_
    refine fw_if_ne (pc := 14) C (tgt := 20) dX8_bestDoor_14 (by decide) (fun c4 => ?_) (fun c4 => ?_)
    · have h := fw_iff h c4
      refine fw_aload_n (pc := 20) C 0 dX8_bestDoor_20 rfl rfl ?_
      refine fw_getr (pc := 21) C ho.2.2.2.1.1 rfl qX8_bestDoor_25 dX8_bestDoor_21 ?_
      refine fw_getr (pc := 24) C ho.2.2.2.1.2.2.2.2.2.2.2.2.2.1.1 rfl qX8_bestDoor_173 dX8_bestDoor_24 ?_
      refine fw_iload_n (pc := 27) C 1 dX8_bestDoor_27 rfl rfl ?_
      obtain ⟨v5, hv5, h⟩ := fw_bind h
      refine fw_iald (pc := 28) C 0 ho.2.2.2.1.2.2.2.2.2.2.2.2.2.1.2 rfl hv5 dX8_bestDoor_28 ?_
      refine fw_iconst (pc := 29) C (v := -1) dX8_bestDoor_29 fk_iconst_m1 ?_
      refine fw_icmp_ne (pc := 30) C (tgt := 36) dX8_bestDoor_30 (by decide) (fun c6 => ?_) (fun c6 => ?_)
      · have h := fw_iff h c6
        refine fw_aload_n (pc := 36) C 0 dX8_bestDoor_36 rfl rfl ?_
        refine fw_getr (pc := 37) C ho.2.2.2.2.2.2.1.1 rfl qX8_bestDoor_43 dX8_bestDoor_37 ?_
        refine fw_aload_n (pc := 40) C 0 dX8_bestDoor_40 rfl rfl ?_
        refine fw_getr (pc := 41) C ho.2.2.2.1.1 rfl qX8_bestDoor_25 dX8_bestDoor_41 ?_
        refine fw_iload_n (pc := 44) C 1 dX8_bestDoor_44 rfl rfl ?_
        obtain ⟨q7, hq7, h⟩ := fw_bind h
        refine fw_callV1 (pc := 45) C (rest := []) (c_Fore_soonestDoor ho.2.2.2.2.2.2.1.2 ho.2.2.2.1.2 hq7) (cwV 2 C.2.2.2.2.1 gX8_bestDoor_X2_soonestDoor rfl rfl rfl hd_Fore_soonestDoor ⟨Nat.le_of_ble_eq_true rfl, Nat.le_of_ble_eq_true rfl⟩) ho.2.2.2.2.2.2.1.2.1 rfl rfl ⟨Nat.zero_le _, Nat.zero_le _⟩ rfl (Nat.le_of_ble_eq_true rfl) dX8_bestDoor_45 ?_
        refine fw_istore_n (pc := 48) C (L2 := [(0, .ref _), (1, .int _), (2, .int _), (3, .int _)]) [1, 2, 3, 0] dX8_bestDoor_48 rfl (by decide) rfl ?_
        refine fw_iload_n (pc := 49) C 2 dX8_bestDoor_49 rfl rfl ?_
        refine fw_if_ne (pc := 50) C (tgt := 60) dX8_bestDoor_50 (by decide) (fun c8 => ?_) (fun c8 => ?_)
        · have h := fw_iff h c8
          refine fw_aload_n (pc := 60) C 0 dX8_bestDoor_60 rfl rfl ?_
          refine fw_getr (pc := 61) C ho.2.2.2.2.2.2.1.1 rfl qX8_bestDoor_43 dX8_bestDoor_61 ?_
          refine fw_aload_n (pc := 64) C 0 dX8_bestDoor_64 rfl rfl ?_
          refine fw_getr (pc := 65) C ho.2.2.2.1.1 rfl qX8_bestDoor_25 dX8_bestDoor_65 ?_
          refine fw_iload_n (pc := 68) C 1 dX8_bestDoor_68 rfl rfl ?_
          refine fw_iload_n (pc := 69) C 3 dX8_bestDoor_69 rfl rfl ?_
          obtain ⟨q9, hq9, h⟩ := fw_bind h
          refine fw_callV1 (pc := 70) C (rest := []) (c_Fore_whenAt ho.2.2.2.2.2.2.1.2 ho.2.2.2.1.2 hq9) (cwV 3 C.2.2.2.2.1 gX8_bestDoor_X2_whenAt rfl rfl rfl hd_Fore_whenAt ⟨Nat.le_of_ble_eq_true rfl, Nat.le_of_ble_eq_true rfl⟩) ho.2.2.2.2.2.2.1.2.1 rfl rfl ⟨Nat.zero_le _, Nat.zero_le _⟩ rfl (Nat.le_of_ble_eq_true rfl) dX8_bestDoor_70 ?_
          obtain ⟨v10, hv10, h⟩ := fw_bind h
          refine fw_callS1 (pc := 73) C (rest := []) (c_Door_orNone  hv10) (va_cwS 1 C.2.2.2.2.1 gX8_bestDoor_X8_orNone rfl rfl rfl hd_Door_orNone.2 ⟨Nat.le_of_ble_eq_true rfl, Nat.le_of_ble_eq_true rfl⟩) rfl ⟨Nat.zero_le _, Nat.zero_le _⟩ rfl (Nat.le_of_ble_eq_true rfl) dX8_bestDoor_73 ?_
          exact fw_sub [] rfl (c_Door_bestDoor_b76 C ho h)
        · have h := fw_ift h c8
          refine fw_iload_n (pc := 53) C 3 dX8_bestDoor_53 rfl rfl ?_
          obtain ⟨v11, hv11, h⟩ := fw_bind h
          refine fw_callS1 (pc := 54) C (rest := []) (c_Door_orNone  hv11) (va_cwS 1 C.2.2.2.2.1 gX8_bestDoor_X8_orNone rfl rfl rfl hd_Door_orNone.2 ⟨Nat.le_of_ble_eq_true rfl, Nat.le_of_ble_eq_true rfl⟩) rfl ⟨Nat.zero_le _, Nat.zero_le _⟩ rfl (Nat.le_of_ble_eq_true rfl) dX8_bestDoor_54 ?_
          refine fw_goto (pc := 57) C (tgt := 76) dX8_bestDoor_57 (by decide) ?_
          exact fw_sub [] rfl (c_Door_bestDoor_b76 C ho h)
      · have h := fw_ift h c6
        refine fw_ldc (pc := 33) C (v := -1000002) kX8_bestDoor_145 dX8_bestDoor_33 ?_
        exact fw_iret (pc := 35) C (fw_p1 h) (fw_p2 h) dX8_bestDoor_35
    · have h := fw_ift h c4
      exact fw_sub [] rfl (c_Door_bestDoor_b17 C ho h)
theorem c_Door_bestDoor {l : Launch} {D : va_G} {cI cZ cH cR : ClassId} {N : Nat} {ad : Nat → Nat} {EE : fw_M → Nat → va_E} {o : Nat} {M : fw_M} {a0 : Int32} {a1 : Int32} {z : (Int32 × fw_M)} (ho : o_Door EE ad N cI cZ cH cR o) (h : P_Door_bestDoor o M a0 a1 = some z) : fw_Met l yX8_bestDoor wsX8_bestDoor rm_Door_bestDoor D vwCl (fw_tys cI cZ cH cR) N ad fw_nw0 EE [.ref (ad o), .int a0, .int a1] M (some (.int z.1)) z.2 := by
  unfold P_Door_bestDoor at h
  exact fw_intro (cc := cX8_bestDoor) (maxL := 4) (ret := some .int) (own := RX8) (by decide) rfl rfl (Nat.le_of_ble_eq_true rfl) (fun p e s m args below meth c C => fw_sub [0, 1, 2] rfl (c_Door_bestDoor_b0 C ho h))
abbrev rm_Door_seenTrouble : Room := { frames := 2, cells := 0, slots := 0, locals := 43 }
theorem hd_Door_seenTrouble : yX8_seenTrouble.cls = RX8 ∧ yX8_seenTrouble.cls ≠ "java/lang/invoke/MethodHandle" ∧ yX8_seenTrouble.cls ≠ "java/lang/invoke/VarHandle" ∧ (parseMethodDescriptor yX8_seenTrouble.desc).map (fun d => d.parameters.length) = some 5 := by decide +kernel
theorem qX8_seenTrouble_11 : fw_G wsX8_seenTrouble RX8 11 RX8 TX8 9 0 := ⟨by decide +kernel, by decide +kernel, by decide⟩
theorem kX8_seenTrouble_70 : Cond.constant RX8 70 (-1000001) ∈ wsX8_seenTrouble := by decide +kernel
def P_Door_seenTrouble_b34 (o : Nat) (M : fw_M) : Option (Int32 × fw_M) := some ((-1000001 : Int32), M)
def P_Door_seenTrouble_b80 (o : Nat) (M : fw_M) (t0 : Int32) : Option (Int32 × fw_M) := some (t0, M)
def P_Door_seenTrouble_b0 (o : Nat) (M : fw_M) (x1 : Int32) (x2 : Int32) (x3 : Int32) (x4 : Int32) (x5 : Int32) : Option (Int32 × fw_M) := (P_Door_isDoor o M x1).bind fun v1 => (if v1 = (0 : Int32) then P_Door_seenTrouble_b34 o M else (P_Door_isPerson o M x2).bind fun v3 => (if v3 = (0 : Int32) then P_Door_seenTrouble_b34 o M else (P_Door_isRow M x3).bind fun v5 => (if v5 = (0 : Int32) then P_Door_seenTrouble_b34 o M else (P_Door_within M x5 (1 : Int32) (12 : Int32)).bind fun v7 => (if v7 = (0 : Int32) then P_Door_seenTrouble_b34 o M else (fw_aix 8 x3).bind fun i9 => (P_Row_isMissing (o + 171 + 2 * i9) M).bind fun v10 => (if v10 = (0 : Int32) then (fw_aix 8 x3).bind fun i12 => (P_Row_holds (o + 171 + 2 * i12) M x4 x5).bind fun v13 => (if v13 = (0 : Int32) then (P_Door_found o M (2 : Int32)).bind fun q15 => P_Door_seenTrouble_b80 o q15.2 q15.1 else P_Door_seenTrouble_b80 o M (0 : Int32)) else (P_Door_found o M (1 : Int32)).bind fun q16 => some (q16.1, q16.2))))))
def P_Door_seenTrouble (o : Nat) (M : fw_M) (a0 : Int32) (a1 : Int32) (a2 : Int32) (a3 : Int32) (a4 : Int32) : Option (Int32 × fw_M) := P_Door_seenTrouble_b0 o M a0 a1 a2 a3 a4
set_option maxRecDepth 100000 in
theorem c_Door_seenTrouble_b34 {p : Program} {l : Launch} {e : Env} {s : State} {m : MethodId} {args : Array Value} {below : List Frame} {meth : Method} {c : Code} {D : va_G} {cI cZ cH cR : ClassId} {N : Nat} {ad : Nat → Nat} {EE : fw_M → Nat → va_E} {o : Nat} {M : fw_M} {z : (Int32 × fw_M)} (C : fw_C p s m args meth c cX8_seenTrouble RX8 wsX8_seenTrouble 6 (some .int) D vwCl (fw_tys cI cZ cH cR) N ad fw_nw0) (ho : o_Door EE ad N cI cZ cH cR o) (h : P_Door_seenTrouble_b34 o M = some z) : fw_J p l e (headSpec wsX8_seenTrouble rm_Door_seenTrouble).room s m args below meth c D vwCl N ad EE 6 0 0 (fw_E below args s D vwCl N ad EE (some (.int z.1)) z.2) M [] 34 [] := by
  unfold P_Door_seenTrouble_b34 at h
  refine fw_ldc (pc := 34) C (v := -1000001) kX8_seenTrouble_70 dX8_seenTrouble_34 ?_
  exact fw_iret (pc := 36) C (fw_p1 h) (fw_p2 h) dX8_seenTrouble_36
set_option maxRecDepth 100000 in
theorem c_Door_seenTrouble_b80 {p : Program} {l : Launch} {e : Env} {s : State} {m : MethodId} {args : Array Value} {below : List Frame} {meth : Method} {c : Code} {D : va_G} {cI cZ cH cR : ClassId} {N : Nat} {ad : Nat → Nat} {EE : fw_M → Nat → va_E} {o : Nat} {M : fw_M} {t0 : Int32} {z : (Int32 × fw_M)} (C : fw_C p s m args meth c cX8_seenTrouble RX8 wsX8_seenTrouble 6 (some .int) D vwCl (fw_tys cI cZ cH cR) N ad fw_nw0) (ho : o_Door EE ad N cI cZ cH cR o) (h : P_Door_seenTrouble_b80 o M t0 = some z) : fw_J p l e (headSpec wsX8_seenTrouble rm_Door_seenTrouble).room s m args below meth c D vwCl N ad EE 6 0 0 (fw_E below args s D vwCl N ad EE (some (.int z.1)) z.2) M [] 80 [.int t0] := by
  unfold P_Door_seenTrouble_b80 at h
  exact fw_iret (pc := 80) C (fw_p1 h) (fw_p2 h) dX8_seenTrouble_80
set_option maxRecDepth 100000 in
theorem c_Door_seenTrouble_b0 {p : Program} {l : Launch} {e : Env} {s : State} {m : MethodId} {args : Array Value} {below : List Frame} {meth : Method} {c : Code} {D : va_G} {cI cZ cH cR : ClassId} {N : Nat} {ad : Nat → Nat} {EE : fw_M → Nat → va_E} {o : Nat} {M : fw_M} {x1 : Int32} {x2 : Int32} {x3 : Int32} {x4 : Int32} {x5 : Int32} {z : (Int32 × fw_M)} (C : fw_C p s m args meth c cX8_seenTrouble RX8 wsX8_seenTrouble 6 (some .int) D vwCl (fw_tys cI cZ cH cR) N ad fw_nw0) (ho : o_Door EE ad N cI cZ cH cR o) (h : P_Door_seenTrouble_b0 o M x1 x2 x3 x4 x5 = some z) : fw_J p l e (headSpec wsX8_seenTrouble rm_Door_seenTrouble).room s m args below meth c D vwCl N ad EE 6 0 0 (fw_E below args s D vwCl N ad EE (some (.int z.1)) z.2) M [(0, .ref (ad o)), (1, .int x1), (2, .int x2), (3, .int x3), (4, .int x4), (5, .int x5)] 0 [] := by
  unfold P_Door_seenTrouble_b0 at h
  refine fw_aload_n (pc := 0) C 0 dX8_seenTrouble_0 rfl rfl ?_
  refine fw_iload_n (pc := 1) C 1 dX8_seenTrouble_1 rfl rfl ?_
  obtain ⟨v1, hv1, h⟩ := fw_bind h
  refine fw_callV1 (pc := 2) C (rest := []) (c_Door_isDoor ho hv1) (cwV 1 C.2.2.2.2.1 gX8_seenTrouble_X8_isDoor rfl rfl rfl hd_Door_isDoor ⟨Nat.le_of_ble_eq_true rfl, Nat.le_of_ble_eq_true rfl⟩) ho.1 rfl rfl ⟨Nat.zero_le _, Nat.zero_le _⟩ rfl (Nat.le_of_ble_eq_true rfl) dX8_seenTrouble_2 ?_
  refine fw_if_eq (pc := 5) C (tgt := 34) dX8_seenTrouble_5 (by decide) (fun c2 => ?_) (fun c2 => ?_)
  · have h := fw_ift h c2
    exact fw_sub [] rfl (c_Door_seenTrouble_b34 C ho h)
  · have h := fw_iff h c2
    refine fw_aload_n (pc := 8) C 0 dX8_seenTrouble_8 rfl rfl ?_
    refine fw_iload_n (pc := 9) C 2 dX8_seenTrouble_9 rfl rfl ?_
    obtain ⟨v3, hv3, h⟩ := fw_bind h
    refine fw_callV1 (pc := 10) C (rest := []) (c_Door_isPerson ho hv3) (cwV 1 C.2.2.2.2.1 gX8_seenTrouble_X8_isPerson rfl rfl rfl hd_Door_isPerson ⟨Nat.le_of_ble_eq_true rfl, Nat.le_of_ble_eq_true rfl⟩) ho.1 rfl rfl ⟨Nat.zero_le _, Nat.zero_le _⟩ rfl (Nat.le_of_ble_eq_true rfl) dX8_seenTrouble_10 ?_
    refine fw_if_eq (pc := 13) C (tgt := 34) dX8_seenTrouble_13 (by decide) (fun c4 => ?_) (fun c4 => ?_)
    · have h := fw_ift h c4
      exact fw_sub [] rfl (c_Door_seenTrouble_b34 C ho h)
    · have h := fw_iff h c4
      refine fw_iload_n (pc := 16) C 3 dX8_seenTrouble_16 rfl rfl ?_
      obtain ⟨v5, hv5, h⟩ := fw_bind h
      refine fw_callS1 (pc := 17) C (rest := []) (c_Door_isRow  hv5) (va_cwS 1 C.2.2.2.2.1 gX8_seenTrouble_X8_isRow rfl rfl rfl hd_Door_isRow.2 ⟨Nat.le_of_ble_eq_true rfl, Nat.le_of_ble_eq_true rfl⟩) rfl ⟨Nat.zero_le _, Nat.zero_le _⟩ rfl (Nat.le_of_ble_eq_true rfl) dX8_seenTrouble_17 ?_
      refine fw_if_eq (pc := 20) C (tgt := 34) dX8_seenTrouble_20 (by decide) (fun c6 => ?_) (fun c6 => ?_)
      · have h := fw_ift h c6
        exact fw_sub [] rfl (c_Door_seenTrouble_b34 C ho h)
      · have h := fw_iff h c6
        refine fw_iload (pc := 23) C 5 dX8_seenTrouble_23 rfl ?_
        refine fw_iconst (pc := 25) C (v := 1) dX8_seenTrouble_25 fk_iconst_1 ?_
        refine fw_bipush (pc := 26) C (v := 12) dX8_seenTrouble_26 fk_bipush_12 ?_
        obtain ⟨v7, hv7, h⟩ := fw_bind h
        refine fw_callS1 (pc := 28) C (rest := []) (c_Door_within  hv7) (va_cwS 3 C.2.2.2.2.1 gX8_seenTrouble_X8_within rfl rfl rfl hd_Door_within.2 ⟨Nat.le_of_ble_eq_true rfl, Nat.le_of_ble_eq_true rfl⟩) rfl ⟨Nat.zero_le _, Nat.zero_le _⟩ rfl (Nat.le_of_ble_eq_true rfl) dX8_seenTrouble_28 ?_
        refine fw_if_ne (pc := 31) C (tgt := 37) dX8_seenTrouble_31 (by decide) (fun c8 => ?_) (fun c8 => ?_)
        · have h := fw_iff h c8
          refine fw_aload_n (pc := 37) C 0 dX8_seenTrouble_37 rfl rfl ?_
          refine fw_getr (pc := 38) C ho.2.1.1 rfl qX8_seenTrouble_11 dX8_seenTrouble_38 ?_
          refine fw_iload_n (pc := 41) C 3 dX8_seenTrouble_41 rfl rfl ?_
          obtain ⟨i9, hi9, h⟩ := fw_bind h
          refine fw_aald (pc := 42) C 3 ho.2.1.2.1 rfl hi9 dX8_seenTrouble_42 ?_
          obtain ⟨v10, hv10, h⟩ := fw_bind h
          refine fw_callV1 (pc := 43) C (rest := []) (c_Row_isMissing (ho.2.1.2.2 i9 (fw_aixlt hi9)) hv10) (cwV 0 C.2.2.2.2.1 gX8_seenTrouble_X6_isMissing rfl rfl rfl hd_Row_isMissing ⟨Nat.le_of_ble_eq_true rfl, Nat.le_of_ble_eq_true rfl⟩) (ho.2.1.2.2 i9 (fw_aixlt hi9)).1 rfl rfl ⟨Nat.zero_le _, Nat.zero_le _⟩ rfl (Nat.le_of_ble_eq_true rfl) dX8_seenTrouble_43 ?_
          refine fw_if_eq (pc := 46) C (tgt := 55) dX8_seenTrouble_46 (by decide) (fun c11 => ?_) (fun c11 => ?_)
          · have h := fw_ift h c11
            refine fw_aload_n (pc := 55) C 0 dX8_seenTrouble_55 rfl rfl ?_
            refine fw_getr (pc := 56) C ho.2.1.1 rfl qX8_seenTrouble_11 dX8_seenTrouble_56 ?_
            refine fw_iload_n (pc := 59) C 3 dX8_seenTrouble_59 rfl rfl ?_
            obtain ⟨i12, hi12, h⟩ := fw_bind h
            refine fw_aald (pc := 60) C 3 ho.2.1.2.1 rfl hi12 dX8_seenTrouble_60 ?_
            refine fw_iload (pc := 61) C 4 dX8_seenTrouble_61 rfl ?_
            refine fw_iload (pc := 63) C 5 dX8_seenTrouble_63 rfl ?_
            obtain ⟨v13, hv13, h⟩ := fw_bind h
            refine fw_callV1 (pc := 65) C (rest := []) (c_Row_holds (ho.2.1.2.2 i12 (fw_aixlt hi12)) hv13) (cwV 2 C.2.2.2.2.1 gX8_seenTrouble_X6_holds rfl rfl rfl hd_Row_holds ⟨Nat.le_of_ble_eq_true rfl, Nat.le_of_ble_eq_true rfl⟩) (ho.2.1.2.2 i12 (fw_aixlt hi12)).1 rfl rfl ⟨Nat.zero_le _, Nat.zero_le _⟩ rfl (Nat.le_of_ble_eq_true rfl) dX8_seenTrouble_65 ?_
            refine fw_if_eq (pc := 68) C (tgt := 75) dX8_seenTrouble_68 (by decide) (fun c14 => ?_) (fun c14 => ?_)
            · have h := fw_ift h c14
              refine fw_aload_n (pc := 75) C 0 dX8_seenTrouble_75 rfl rfl ?_
              refine fw_iconst (pc := 76) C (v := 2) dX8_seenTrouble_76 fk_iconst_2 ?_
              obtain ⟨q15, hq15, h⟩ := fw_bind h
              refine fw_callV1 (pc := 77) C (rest := []) (c_Door_found ho hq15) (cwV 1 C.2.2.2.2.1 gX8_seenTrouble_X8_found rfl rfl rfl hd_Door_found ⟨Nat.le_of_ble_eq_true rfl, Nat.le_of_ble_eq_true rfl⟩) ho.1 rfl rfl ⟨Nat.zero_le _, Nat.zero_le _⟩ rfl (Nat.le_of_ble_eq_true rfl) dX8_seenTrouble_77 ?_
              exact fw_sub [] rfl (c_Door_seenTrouble_b80 C ho h)
            · have h := fw_iff h c14
              refine fw_iconst (pc := 71) C (v := 0) dX8_seenTrouble_71 fk_iconst_0 ?_
              refine fw_goto (pc := 72) C (tgt := 80) dX8_seenTrouble_72 (by decide) ?_
              exact fw_sub [] rfl (c_Door_seenTrouble_b80 C ho h)
          · have h := fw_iff h c11
            refine fw_aload_n (pc := 49) C 0 dX8_seenTrouble_49 rfl rfl ?_
            refine fw_iconst (pc := 50) C (v := 1) dX8_seenTrouble_50 fk_iconst_1 ?_
            obtain ⟨q16, hq16, h⟩ := fw_bind h
            refine fw_callV1 (pc := 51) C (rest := []) (c_Door_found ho hq16) (cwV 1 C.2.2.2.2.1 gX8_seenTrouble_X8_found rfl rfl rfl hd_Door_found ⟨Nat.le_of_ble_eq_true rfl, Nat.le_of_ble_eq_true rfl⟩) ho.1 rfl rfl ⟨Nat.zero_le _, Nat.zero_le _⟩ rfl (Nat.le_of_ble_eq_true rfl) dX8_seenTrouble_51 ?_
            exact fw_iret (pc := 54) C (fw_p1 h) (fw_p2 h) dX8_seenTrouble_54
        · have h := fw_ift h c8
          exact fw_sub [] rfl (c_Door_seenTrouble_b34 C ho h)
theorem c_Door_seenTrouble {l : Launch} {D : va_G} {cI cZ cH cR : ClassId} {N : Nat} {ad : Nat → Nat} {EE : fw_M → Nat → va_E} {o : Nat} {M : fw_M} {a0 : Int32} {a1 : Int32} {a2 : Int32} {a3 : Int32} {a4 : Int32} {z : (Int32 × fw_M)} (ho : o_Door EE ad N cI cZ cH cR o) (h : P_Door_seenTrouble o M a0 a1 a2 a3 a4 = some z) : fw_Met l yX8_seenTrouble wsX8_seenTrouble rm_Door_seenTrouble D vwCl (fw_tys cI cZ cH cR) N ad fw_nw0 EE [.ref (ad o), .int a0, .int a1, .int a2, .int a3, .int a4] M (some (.int z.1)) z.2 := by
  unfold P_Door_seenTrouble at h
  exact fw_intro (cc := cX8_seenTrouble) (maxL := 6) (ret := some .int) (own := RX8) (by decide) rfl rfl (Nat.le_of_ble_eq_true rfl) (fun p e s m args below meth c C => fw_sub [0, 1, 2, 3, 4, 5] rfl (c_Door_seenTrouble_b0 C ho h))
abbrev rm_Door_ranks : Room := { frames := 6, cells := 0, slots := 0, locals := 145 }
theorem hd_Door_ranks : yX8_ranks.cls = RX8 ∧ yX8_ranks.cls ≠ "java/lang/invoke/MethodHandle" ∧ yX8_ranks.cls ≠ "java/lang/invoke/VarHandle" ∧ (parseMethodDescriptor yX8_ranks.desc).map (fun d => d.parameters.length) = some 5 := by decide +kernel
theorem qX8_ranks_43 : fw_G wsX8_ranks RX8 43 RX8 TX8 9 5 := ⟨by decide +kernel, by decide +kernel, by decide⟩
theorem qX8_ranks_25 : fw_G wsX8_ranks RX8 25 RX8 TX8 9 2 := ⟨by decide +kernel, by decide +kernel, by decide⟩
theorem qX8_ranks_11 : fw_G wsX8_ranks RX8 11 RX8 TX8 9 0 := ⟨by decide +kernel, by decide +kernel, by decide⟩
def P_Door_ranks_b50 (o : Nat) (M : fw_M) (t0 : Int32) : Option (Int32 × fw_M) := some (t0, M)
def P_Door_ranks_b0 (o : Nat) (M : fw_M) (x1 : Int32) (x2 : Int32) (x3 : Int32) (x4 : Int32) (x5 : Int32) : Option (Int32 × fw_M) := (P_Door_seenTrouble o M x1 x2 x3 x4 x5).bind fun q1 => (if q1.1 = (0 : Int32) then (fw_aix 8 x3).bind fun i3 => (P_Fore_ranksSeen (o + 157) (o + 4) (o + 171 + 2 * i3) q1.2 x1 x2 x4 x5).bind fun q4 => (P_Door_fine o q4.2 q4.1).bind fun q5 => P_Door_ranks_b50 o q5.2 q5.1 else P_Door_ranks_b50 o q1.2 q1.1)
def P_Door_ranks (o : Nat) (M : fw_M) (a0 : Int32) (a1 : Int32) (a2 : Int32) (a3 : Int32) (a4 : Int32) : Option (Int32 × fw_M) := P_Door_ranks_b0 o M a0 a1 a2 a3 a4
set_option maxRecDepth 100000 in
theorem c_Door_ranks_b50 {p : Program} {l : Launch} {e : Env} {s : State} {m : MethodId} {args : Array Value} {below : List Frame} {meth : Method} {c : Code} {D : va_G} {cI cZ cH cR : ClassId} {N : Nat} {ad : Nat → Nat} {EE : fw_M → Nat → va_E} {o : Nat} {M : fw_M} {t0 : Int32} {z : (Int32 × fw_M)} (C : fw_C p s m args meth c cX8_ranks RX8 wsX8_ranks 7 (some .int) D vwCl (fw_tys cI cZ cH cR) N ad fw_nw0) (ho : o_Door EE ad N cI cZ cH cR o) (h : P_Door_ranks_b50 o M t0 = some z) : fw_J p l e (headSpec wsX8_ranks rm_Door_ranks).room s m args below meth c D vwCl N ad EE 7 0 0 (fw_E below args s D vwCl N ad EE (some (.int z.1)) z.2) M [] 50 [.int t0] := by
  unfold P_Door_ranks_b50 at h
  exact fw_iret (pc := 50) C (fw_p1 h) (fw_p2 h) dX8_ranks_50
set_option maxRecDepth 100000 in
theorem c_Door_ranks_b0 {p : Program} {l : Launch} {e : Env} {s : State} {m : MethodId} {args : Array Value} {below : List Frame} {meth : Method} {c : Code} {D : va_G} {cI cZ cH cR : ClassId} {N : Nat} {ad : Nat → Nat} {EE : fw_M → Nat → va_E} {o : Nat} {M : fw_M} {x1 : Int32} {x2 : Int32} {x3 : Int32} {x4 : Int32} {x5 : Int32} {z : (Int32 × fw_M)} (C : fw_C p s m args meth c cX8_ranks RX8 wsX8_ranks 7 (some .int) D vwCl (fw_tys cI cZ cH cR) N ad fw_nw0) (ho : o_Door EE ad N cI cZ cH cR o) (h : P_Door_ranks_b0 o M x1 x2 x3 x4 x5 = some z) : fw_J p l e (headSpec wsX8_ranks rm_Door_ranks).room s m args below meth c D vwCl N ad EE 7 0 0 (fw_E below args s D vwCl N ad EE (some (.int z.1)) z.2) M [(0, .ref (ad o)), (1, .int x1), (2, .int x2), (3, .int x3), (4, .int x4), (5, .int x5)] 0 [] := by
  unfold P_Door_ranks_b0 at h
  refine fw_aload_n (pc := 0) C 0 dX8_ranks_0 rfl rfl ?_
  refine fw_iload_n (pc := 1) C 1 dX8_ranks_1 rfl rfl ?_
  refine fw_iload_n (pc := 2) C 2 dX8_ranks_2 rfl rfl ?_
  refine fw_iload_n (pc := 3) C 3 dX8_ranks_3 rfl rfl ?_
  refine fw_iload (pc := 4) C 4 dX8_ranks_4 rfl ?_
  refine fw_iload (pc := 6) C 5 dX8_ranks_6 rfl ?_
  obtain ⟨q1, hq1, h⟩ := fw_bind h
  refine fw_callV1 (pc := 8) C (rest := []) (c_Door_seenTrouble ho hq1) (cwV 5 C.2.2.2.2.1 gX8_ranks_X8_seenTrouble rfl rfl rfl hd_Door_seenTrouble ⟨Nat.le_of_ble_eq_true rfl, Nat.le_of_ble_eq_true rfl⟩) ho.1 rfl rfl ⟨Nat.zero_le _, Nat.zero_le _⟩ rfl (Nat.le_of_ble_eq_true rfl) dX8_ranks_8 ?_
  refine fw_istore (pc := 11) C (L2 := [(0, .ref _), (1, .int _), (2, .int _), (3, .int _), (4, .int _), (5, .int _), (6, .int _)]) [1, 2, 3, 4, 5, 6, 0] dX8_ranks_11 (by decide) rfl ?_
  refine fw_iload (pc := 13) C 6 dX8_ranks_13 rfl ?_
  refine fw_if_eq (pc := 15) C (tgt := 23) dX8_ranks_15 (by decide) (fun c2 => ?_) (fun c2 => ?_)
  · have h := fw_ift h c2
    refine fw_aload_n (pc := 23) C 0 dX8_ranks_23 rfl rfl ?_
    refine fw_aload_n (pc := 24) C 0 dX8_ranks_24 rfl rfl ?_
    refine fw_getr (pc := 25) C ho.2.2.2.2.2.2.1.1 rfl qX8_ranks_43 dX8_ranks_25 ?_
    refine fw_aload_n (pc := 28) C 0 dX8_ranks_28 rfl rfl ?_
    refine fw_getr (pc := 29) C ho.2.2.2.1.1 rfl qX8_ranks_25 dX8_ranks_29 ?_
    refine fw_iload_n (pc := 32) C 1 dX8_ranks_32 rfl rfl ?_
    refine fw_iload_n (pc := 33) C 2 dX8_ranks_33 rfl rfl ?_
    refine fw_aload_n (pc := 34) C 0 dX8_ranks_34 rfl rfl ?_
    refine fw_getr (pc := 35) C ho.2.1.1 rfl qX8_ranks_11 dX8_ranks_35 ?_
    refine fw_iload_n (pc := 38) C 3 dX8_ranks_38 rfl rfl ?_
    obtain ⟨i3, hi3, h⟩ := fw_bind h
    refine fw_aald (pc := 39) C 3 ho.2.1.2.1 rfl hi3 dX8_ranks_39 ?_
    refine fw_iload (pc := 40) C 4 dX8_ranks_40 rfl ?_
    refine fw_iload (pc := 42) C 5 dX8_ranks_42 rfl ?_
    obtain ⟨q4, hq4, h⟩ := fw_bind h
    refine fw_callV1 (pc := 44) C (rest := [_]) (c_Fore_ranksSeen ho.2.2.2.2.2.2.1.2 ho.2.2.2.1.2 (ho.2.1.2.2 i3 (fw_aixlt hi3)) hq4) (cwV 6 C.2.2.2.2.1 gX8_ranks_X2_ranksSeen rfl rfl rfl hd_Fore_ranksSeen ⟨Nat.le_of_ble_eq_true rfl, Nat.le_of_ble_eq_true rfl⟩) ho.2.2.2.2.2.2.1.2.1 rfl rfl ⟨Nat.zero_le _, Nat.zero_le _⟩ rfl (Nat.le_of_ble_eq_true rfl) dX8_ranks_44 ?_
    obtain ⟨q5, hq5, h⟩ := fw_bind h
    refine fw_callV1 (pc := 47) C (rest := []) (c_Door_fine ho hq5) (cwV 1 C.2.2.2.2.1 gX8_ranks_X8_fine rfl rfl rfl hd_Door_fine ⟨Nat.le_of_ble_eq_true rfl, Nat.le_of_ble_eq_true rfl⟩) ho.1 rfl rfl ⟨Nat.zero_le _, Nat.zero_le _⟩ rfl (Nat.le_of_ble_eq_true rfl) dX8_ranks_47 ?_
    exact fw_sub [] rfl (c_Door_ranks_b50 C ho h)
  · have h := fw_iff h c2
    refine fw_iload (pc := 18) C 6 dX8_ranks_18 rfl ?_
    refine fw_goto (pc := 20) C (tgt := 50) dX8_ranks_20 (by decide) ?_
    exact fw_sub [] rfl (c_Door_ranks_b50 C ho h)
theorem c_Door_ranks {l : Launch} {D : va_G} {cI cZ cH cR : ClassId} {N : Nat} {ad : Nat → Nat} {EE : fw_M → Nat → va_E} {o : Nat} {M : fw_M} {a0 : Int32} {a1 : Int32} {a2 : Int32} {a3 : Int32} {a4 : Int32} {z : (Int32 × fw_M)} (ho : o_Door EE ad N cI cZ cH cR o) (h : P_Door_ranks o M a0 a1 a2 a3 a4 = some z) : fw_Met l yX8_ranks wsX8_ranks rm_Door_ranks D vwCl (fw_tys cI cZ cH cR) N ad fw_nw0 EE [.ref (ad o), .int a0, .int a1, .int a2, .int a3, .int a4] M (some (.int z.1)) z.2 := by
  unfold P_Door_ranks at h
  exact fw_intro (cc := cX8_ranks) (maxL := 7) (ret := some .int) (own := RX8) (by decide) rfl rfl (Nat.le_of_ble_eq_true rfl) (fun p e s m args below meth c C => fw_sub [0, 1, 2, 3, 4, 5] rfl (c_Door_ranks_b0 C ho h))
abbrev rm_Door_who : Room := { frames := 6, cells := 0, slots := 0, locals := 145 }
theorem hd_Door_who : yX8_who.cls = RX8 ∧ yX8_who.cls ≠ "java/lang/invoke/MethodHandle" ∧ yX8_who.cls ≠ "java/lang/invoke/VarHandle" ∧ (parseMethodDescriptor yX8_who.desc).map (fun d => d.parameters.length) = some 5 := by decide +kernel
theorem qX8_who_43 : fw_G wsX8_who RX8 43 RX8 TX8 9 5 := ⟨by decide +kernel, by decide +kernel, by decide⟩
theorem qX8_who_25 : fw_G wsX8_who RX8 25 RX8 TX8 9 2 := ⟨by decide +kernel, by decide +kernel, by decide⟩
theorem qX8_who_11 : fw_G wsX8_who RX8 11 RX8 TX8 9 0 := ⟨by decide +kernel, by decide +kernel, by decide⟩
def P_Door_who_b50 (o : Nat) (M : fw_M) (t0 : Int32) : Option (Int32 × fw_M) := some (t0, M)
def P_Door_who_b0 (o : Nat) (M : fw_M) (x1 : Int32) (x2 : Int32) (x3 : Int32) (x4 : Int32) (x5 : Int32) : Option (Int32 × fw_M) := (P_Door_seenTrouble o M x1 x2 x3 x4 x5).bind fun q1 => (if q1.1 = (0 : Int32) then (fw_aix 8 x3).bind fun i3 => (P_Fore_kindsSeen (o + 157) (o + 4) (o + 171 + 2 * i3) q1.2 x1 x2 x4 x5).bind fun q4 => (P_Door_fine o q4.2 q4.1).bind fun q5 => P_Door_who_b50 o q5.2 q5.1 else P_Door_who_b50 o q1.2 q1.1)
def P_Door_who (o : Nat) (M : fw_M) (a0 : Int32) (a1 : Int32) (a2 : Int32) (a3 : Int32) (a4 : Int32) : Option (Int32 × fw_M) := P_Door_who_b0 o M a0 a1 a2 a3 a4
set_option maxRecDepth 100000 in
theorem c_Door_who_b50 {p : Program} {l : Launch} {e : Env} {s : State} {m : MethodId} {args : Array Value} {below : List Frame} {meth : Method} {c : Code} {D : va_G} {cI cZ cH cR : ClassId} {N : Nat} {ad : Nat → Nat} {EE : fw_M → Nat → va_E} {o : Nat} {M : fw_M} {t0 : Int32} {z : (Int32 × fw_M)} (C : fw_C p s m args meth c cX8_who RX8 wsX8_who 7 (some .int) D vwCl (fw_tys cI cZ cH cR) N ad fw_nw0) (ho : o_Door EE ad N cI cZ cH cR o) (h : P_Door_who_b50 o M t0 = some z) : fw_J p l e (headSpec wsX8_who rm_Door_who).room s m args below meth c D vwCl N ad EE 7 0 0 (fw_E below args s D vwCl N ad EE (some (.int z.1)) z.2) M [] 50 [.int t0] := by
  unfold P_Door_who_b50 at h
  exact fw_iret (pc := 50) C (fw_p1 h) (fw_p2 h) dX8_who_50
set_option maxRecDepth 100000 in
theorem c_Door_who_b0 {p : Program} {l : Launch} {e : Env} {s : State} {m : MethodId} {args : Array Value} {below : List Frame} {meth : Method} {c : Code} {D : va_G} {cI cZ cH cR : ClassId} {N : Nat} {ad : Nat → Nat} {EE : fw_M → Nat → va_E} {o : Nat} {M : fw_M} {x1 : Int32} {x2 : Int32} {x3 : Int32} {x4 : Int32} {x5 : Int32} {z : (Int32 × fw_M)} (C : fw_C p s m args meth c cX8_who RX8 wsX8_who 7 (some .int) D vwCl (fw_tys cI cZ cH cR) N ad fw_nw0) (ho : o_Door EE ad N cI cZ cH cR o) (h : P_Door_who_b0 o M x1 x2 x3 x4 x5 = some z) : fw_J p l e (headSpec wsX8_who rm_Door_who).room s m args below meth c D vwCl N ad EE 7 0 0 (fw_E below args s D vwCl N ad EE (some (.int z.1)) z.2) M [(0, .ref (ad o)), (1, .int x1), (2, .int x2), (3, .int x3), (4, .int x4), (5, .int x5)] 0 [] := by
  unfold P_Door_who_b0 at h
  refine fw_aload_n (pc := 0) C 0 dX8_who_0 rfl rfl ?_
  refine fw_iload_n (pc := 1) C 1 dX8_who_1 rfl rfl ?_
  refine fw_iload_n (pc := 2) C 2 dX8_who_2 rfl rfl ?_
  refine fw_iload_n (pc := 3) C 3 dX8_who_3 rfl rfl ?_
  refine fw_iload (pc := 4) C 4 dX8_who_4 rfl ?_
  refine fw_iload (pc := 6) C 5 dX8_who_6 rfl ?_
  obtain ⟨q1, hq1, h⟩ := fw_bind h
  refine fw_callV1 (pc := 8) C (rest := []) (c_Door_seenTrouble ho hq1) (cwV 5 C.2.2.2.2.1 gX8_who_X8_seenTrouble rfl rfl rfl hd_Door_seenTrouble ⟨Nat.le_of_ble_eq_true rfl, Nat.le_of_ble_eq_true rfl⟩) ho.1 rfl rfl ⟨Nat.zero_le _, Nat.zero_le _⟩ rfl (Nat.le_of_ble_eq_true rfl) dX8_who_8 ?_
  refine fw_istore (pc := 11) C (L2 := [(0, .ref _), (1, .int _), (2, .int _), (3, .int _), (4, .int _), (5, .int _), (6, .int _)]) [1, 2, 3, 4, 5, 6, 0] dX8_who_11 (by decide) rfl ?_
  refine fw_iload (pc := 13) C 6 dX8_who_13 rfl ?_
  refine fw_if_eq (pc := 15) C (tgt := 23) dX8_who_15 (by decide) (fun c2 => ?_) (fun c2 => ?_)
  · have h := fw_ift h c2
    refine fw_aload_n (pc := 23) C 0 dX8_who_23 rfl rfl ?_
    refine fw_aload_n (pc := 24) C 0 dX8_who_24 rfl rfl ?_
    refine fw_getr (pc := 25) C ho.2.2.2.2.2.2.1.1 rfl qX8_who_43 dX8_who_25 ?_
    refine fw_aload_n (pc := 28) C 0 dX8_who_28 rfl rfl ?_
    refine fw_getr (pc := 29) C ho.2.2.2.1.1 rfl qX8_who_25 dX8_who_29 ?_
    refine fw_iload_n (pc := 32) C 1 dX8_who_32 rfl rfl ?_
    refine fw_iload_n (pc := 33) C 2 dX8_who_33 rfl rfl ?_
    refine fw_aload_n (pc := 34) C 0 dX8_who_34 rfl rfl ?_
    refine fw_getr (pc := 35) C ho.2.1.1 rfl qX8_who_11 dX8_who_35 ?_
    refine fw_iload_n (pc := 38) C 3 dX8_who_38 rfl rfl ?_
    obtain ⟨i3, hi3, h⟩ := fw_bind h
    refine fw_aald (pc := 39) C 3 ho.2.1.2.1 rfl hi3 dX8_who_39 ?_
    refine fw_iload (pc := 40) C 4 dX8_who_40 rfl ?_
    refine fw_iload (pc := 42) C 5 dX8_who_42 rfl ?_
    obtain ⟨q4, hq4, h⟩ := fw_bind h
    refine fw_callV1 (pc := 44) C (rest := [_]) (c_Fore_kindsSeen ho.2.2.2.2.2.2.1.2 ho.2.2.2.1.2 (ho.2.1.2.2 i3 (fw_aixlt hi3)) hq4) (cwV 6 C.2.2.2.2.1 gX8_who_X2_kindsSeen rfl rfl rfl hd_Fore_kindsSeen ⟨Nat.le_of_ble_eq_true rfl, Nat.le_of_ble_eq_true rfl⟩) ho.2.2.2.2.2.2.1.2.1 rfl rfl ⟨Nat.zero_le _, Nat.zero_le _⟩ rfl (Nat.le_of_ble_eq_true rfl) dX8_who_44 ?_
    obtain ⟨q5, hq5, h⟩ := fw_bind h
    refine fw_callV1 (pc := 47) C (rest := []) (c_Door_fine ho hq5) (cwV 1 C.2.2.2.2.1 gX8_who_X8_fine rfl rfl rfl hd_Door_fine ⟨Nat.le_of_ble_eq_true rfl, Nat.le_of_ble_eq_true rfl⟩) ho.1 rfl rfl ⟨Nat.zero_le _, Nat.zero_le _⟩ rfl (Nat.le_of_ble_eq_true rfl) dX8_who_47 ?_
    exact fw_sub [] rfl (c_Door_who_b50 C ho h)
  · have h := fw_iff h c2
    refine fw_iload (pc := 18) C 6 dX8_who_18 rfl ?_
    refine fw_goto (pc := 20) C (tgt := 50) dX8_who_20 (by decide) ?_
    exact fw_sub [] rfl (c_Door_who_b50 C ho h)
theorem c_Door_who {l : Launch} {D : va_G} {cI cZ cH cR : ClassId} {N : Nat} {ad : Nat → Nat} {EE : fw_M → Nat → va_E} {o : Nat} {M : fw_M} {a0 : Int32} {a1 : Int32} {a2 : Int32} {a3 : Int32} {a4 : Int32} {z : (Int32 × fw_M)} (ho : o_Door EE ad N cI cZ cH cR o) (h : P_Door_who o M a0 a1 a2 a3 a4 = some z) : fw_Met l yX8_who wsX8_who rm_Door_who D vwCl (fw_tys cI cZ cH cR) N ad fw_nw0 EE [.ref (ad o), .int a0, .int a1, .int a2, .int a3, .int a4] M (some (.int z.1)) z.2 := by
  unfold P_Door_who at h
  exact fw_intro (cc := cX8_who) (maxL := 7) (ret := some .int) (own := RX8) (by decide) rfl rfl (Nat.le_of_ble_eq_true rfl) (fun p e s m args below meth c C => fw_sub [0, 1, 2, 3, 4, 5] rfl (c_Door_who_b0 C ho h))
abbrev rm_Door_precedence : Room := { frames := 5, cells := 0, slots := 0, locals := 114 }
theorem hd_Door_precedence : yX8_precedence.cls = RX8 ∧ yX8_precedence.cls ≠ "java/lang/invoke/MethodHandle" ∧ yX8_precedence.cls ≠ "java/lang/invoke/VarHandle" ∧ (parseMethodDescriptor yX8_precedence.desc).map (fun d => d.parameters.length) = some 2 := by decide +kernel
theorem qX8_precedence_43 : fw_G wsX8_precedence RX8 43 RX8 TX8 9 5 := ⟨by decide +kernel, by decide +kernel, by decide⟩
theorem qX8_precedence_25 : fw_G wsX8_precedence RX8 25 RX8 TX8 9 2 := ⟨by decide +kernel, by decide +kernel, by decide⟩
def P_Door_precedence_b49 (o : Nat) (M : fw_M) (t0 : Int32) : Option (Int32 × fw_M) := some (t0, M)
def P_Door_precedence_b18 (o : Nat) (M : fw_M) (x1 : Int32) (x2 : Int32) (t1 : Int32) : Option (Int32 × fw_M) := (P_Door_refusal o M t1).bind fun v1 => (if v1 = (0 : Int32) then (P_Fore_lineAt (o + 157) (o + 4) M x1).bind fun q3 => (P_Line_goingIn ((o + 157) + 9) q3 x2).bind fun v4 => (P_Door_orNone q3 v4).bind fun v5 => P_Door_precedence_b49 o q3 v5 else P_Door_precedence_b49 o M v1)
def P_Door_precedence_b17 (o : Nat) (M : fw_M) (x1 : Int32) (x2 : Int32) : Option (Int32 × fw_M) := P_Door_precedence_b18 o M x1 x2 (0 : Int32)
def P_Door_precedence_b0 (o : Nat) (M : fw_M) (x1 : Int32) (x2 : Int32) : Option (Int32 × fw_M) := (P_Door_isDoor o M x1).bind fun v1 => (if v1 = (0 : Int32) then P_Door_precedence_b17 o M x1 x2 else (if x2 < (0 : Int32) then P_Door_precedence_b17 o M x1 x2 else P_Door_precedence_b18 o M x1 x2 (1 : Int32)))
def P_Door_precedence (o : Nat) (M : fw_M) (a0 : Int32) (a1 : Int32) : Option (Int32 × fw_M) := P_Door_precedence_b0 o M a0 a1
set_option maxRecDepth 100000 in
theorem c_Door_precedence_b49 {p : Program} {l : Launch} {e : Env} {s : State} {m : MethodId} {args : Array Value} {below : List Frame} {meth : Method} {c : Code} {D : va_G} {cI cZ cH cR : ClassId} {N : Nat} {ad : Nat → Nat} {EE : fw_M → Nat → va_E} {o : Nat} {M : fw_M} {t0 : Int32} {z : (Int32 × fw_M)} (C : fw_C p s m args meth c cX8_precedence RX8 wsX8_precedence 4 (some .int) D vwCl (fw_tys cI cZ cH cR) N ad fw_nw0) (ho : o_Door EE ad N cI cZ cH cR o) (h : P_Door_precedence_b49 o M t0 = some z) : fw_J p l e (headSpec wsX8_precedence rm_Door_precedence).room s m args below meth c D vwCl N ad EE 4 0 0 (fw_E below args s D vwCl N ad EE (some (.int z.1)) z.2) M [] 49 [.int t0] := by
  unfold P_Door_precedence_b49 at h
  exact fw_iret (pc := 49) C (fw_p1 h) (fw_p2 h) dX8_precedence_49
set_option maxRecDepth 100000 in
theorem c_Door_precedence_b18 {p : Program} {l : Launch} {e : Env} {s : State} {m : MethodId} {args : Array Value} {below : List Frame} {meth : Method} {c : Code} {D : va_G} {cI cZ cH cR : ClassId} {N : Nat} {ad : Nat → Nat} {EE : fw_M → Nat → va_E} {o : Nat} {M : fw_M} {x1 : Int32} {x2 : Int32} {t1 : Int32} {z : (Int32 × fw_M)} (C : fw_C p s m args meth c cX8_precedence RX8 wsX8_precedence 4 (some .int) D vwCl (fw_tys cI cZ cH cR) N ad fw_nw0) (ho : o_Door EE ad N cI cZ cH cR o) (h : P_Door_precedence_b18 o M x1 x2 t1 = some z) : fw_J p l e (headSpec wsX8_precedence rm_Door_precedence).room s m args below meth c D vwCl N ad EE 4 0 0 (fw_E below args s D vwCl N ad EE (some (.int z.1)) z.2) M [(0, .ref (ad o)), (1, .int x1), (2, .int x2)] 18 [.int t1, .ref (ad o)] := by
  unfold P_Door_precedence_b18 at h
  obtain ⟨v1, hv1, h⟩ := fw_bind h
  refine fw_callV1 (pc := 18) C (rest := []) (c_Door_refusal ho hv1) (cwV 1 C.2.2.2.2.1 gX8_precedence_X8_refusal rfl rfl rfl hd_Door_refusal ⟨Nat.le_of_ble_eq_true rfl, Nat.le_of_ble_eq_true rfl⟩) ho.1 rfl rfl ⟨Nat.zero_le _, Nat.zero_le _⟩ rfl (Nat.le_of_ble_eq_true rfl) dX8_precedence_18 ?_
  refine fw_istore_n (pc := 21) C (L2 := [(0, .ref _), (1, .int _), (2, .int _), (3, .int _)]) [1, 2, 3, 0] dX8_precedence_21 rfl (by decide) rfl ?_
  refine fw_iload_n (pc := 22) C 3 dX8_precedence_22 rfl rfl ?_
  refine fw_if_eq (pc := 23) C (tgt := 30) dX8_precedence_23 (by decide) (fun c2 => ?_) (fun c2 => ?_)
  · have h := fw_ift h c2
    refine fw_aload_n (pc := 30) C 0 dX8_precedence_30 rfl rfl ?_
    refine fw_getr (pc := 31) C ho.2.2.2.2.2.2.1.1 rfl qX8_precedence_43 dX8_precedence_31 ?_
    refine fw_aload_n (pc := 34) C 0 dX8_precedence_34 rfl rfl ?_
    refine fw_getr (pc := 35) C ho.2.2.2.1.1 rfl qX8_precedence_25 dX8_precedence_35 ?_
    refine fw_iload_n (pc := 38) C 1 dX8_precedence_38 rfl rfl ?_
    obtain ⟨q3, hq3, h⟩ := fw_bind h
    refine fw_callV1 (pc := 39) C (rest := []) (c_Fore_lineAt ho.2.2.2.2.2.2.1.2 ho.2.2.2.1.2 hq3) (cwV 2 C.2.2.2.2.1 gX8_precedence_X2_lineAt rfl rfl rfl hd_Fore_lineAt ⟨Nat.le_of_ble_eq_true rfl, Nat.le_of_ble_eq_true rfl⟩) ho.2.2.2.2.2.2.1.2.1 rfl rfl ⟨Nat.zero_le _, Nat.zero_le _⟩ rfl (Nat.le_of_ble_eq_true rfl) dX8_precedence_39 ?_
    refine fw_iload_n (pc := 42) C 2 dX8_precedence_42 rfl rfl ?_
    obtain ⟨v4, hv4, h⟩ := fw_bind h
    refine fw_callV1 (pc := 43) C (rest := []) (c_Line_goingIn ho.2.2.2.2.2.2.1.2.2.2.2.2 hv4) (cwV 1 C.2.2.2.2.1 gX8_precedence_X5_goingIn rfl rfl rfl hd_Line_goingIn ⟨Nat.le_of_ble_eq_true rfl, Nat.le_of_ble_eq_true rfl⟩) ho.2.2.2.2.2.2.1.2.2.2.2.2.1 rfl rfl ⟨Nat.zero_le _, Nat.zero_le _⟩ rfl (Nat.le_of_ble_eq_true rfl) dX8_precedence_43 ?_
    obtain ⟨v5, hv5, h⟩ := fw_bind h
    refine fw_callS1 (pc := 46) C (rest := []) (c_Door_orNone  hv5) (va_cwS 1 C.2.2.2.2.1 gX8_precedence_X8_orNone rfl rfl rfl hd_Door_orNone.2 ⟨Nat.le_of_ble_eq_true rfl, Nat.le_of_ble_eq_true rfl⟩) rfl ⟨Nat.zero_le _, Nat.zero_le _⟩ rfl (Nat.le_of_ble_eq_true rfl) dX8_precedence_46 ?_
    exact fw_sub [] rfl (c_Door_precedence_b49 C ho h)
  · have h := fw_iff h c2
    refine fw_iload_n (pc := 26) C 3 dX8_precedence_26 rfl rfl ?_
    refine fw_goto (pc := 27) C (tgt := 49) dX8_precedence_27 (by decide) ?_
    exact fw_sub [] rfl (c_Door_precedence_b49 C ho h)
set_option maxRecDepth 100000 in
theorem c_Door_precedence_b17 {p : Program} {l : Launch} {e : Env} {s : State} {m : MethodId} {args : Array Value} {below : List Frame} {meth : Method} {c : Code} {D : va_G} {cI cZ cH cR : ClassId} {N : Nat} {ad : Nat → Nat} {EE : fw_M → Nat → va_E} {o : Nat} {M : fw_M} {x1 : Int32} {x2 : Int32} {z : (Int32 × fw_M)} (C : fw_C p s m args meth c cX8_precedence RX8 wsX8_precedence 4 (some .int) D vwCl (fw_tys cI cZ cH cR) N ad fw_nw0) (ho : o_Door EE ad N cI cZ cH cR o) (h : P_Door_precedence_b17 o M x1 x2 = some z) : fw_J p l e (headSpec wsX8_precedence rm_Door_precedence).room s m args below meth c D vwCl N ad EE 4 0 0 (fw_E below args s D vwCl N ad EE (some (.int z.1)) z.2) M [(0, .ref (ad o)), (1, .int x1), (2, .int x2)] 17 [.ref (ad o)] := by
  unfold P_Door_precedence_b17 at h
  refine fw_iconst (pc := 17) C (v := 0) dX8_precedence_17 fk_iconst_0 ?_
  exact (c_Door_precedence_b18 C ho h)
set_option maxRecDepth 100000 in
theorem c_Door_precedence_b0 {p : Program} {l : Launch} {e : Env} {s : State} {m : MethodId} {args : Array Value} {below : List Frame} {meth : Method} {c : Code} {D : va_G} {cI cZ cH cR : ClassId} {N : Nat} {ad : Nat → Nat} {EE : fw_M → Nat → va_E} {o : Nat} {M : fw_M} {x1 : Int32} {x2 : Int32} {z : (Int32 × fw_M)} (C : fw_C p s m args meth c cX8_precedence RX8 wsX8_precedence 4 (some .int) D vwCl (fw_tys cI cZ cH cR) N ad fw_nw0) (ho : o_Door EE ad N cI cZ cH cR o) (h : P_Door_precedence_b0 o M x1 x2 = some z) : fw_J p l e (headSpec wsX8_precedence rm_Door_precedence).room s m args below meth c D vwCl N ad EE 4 0 0 (fw_E below args s D vwCl N ad EE (some (.int z.1)) z.2) M [(0, .ref (ad o)), (1, .int x1), (2, .int x2)] 0 [] := by
  unfold P_Door_precedence_b0 at h
  refine fw_aload_n (pc := 0) C 0 dX8_precedence_0 rfl rfl ?_
  refine fw_aload_n (pc := 1) C 0 dX8_precedence_1 rfl rfl ?_
  refine fw_iload_n (pc := 2) C 1 dX8_precedence_2 rfl rfl ?_
  obtain ⟨v1, hv1, h⟩ := fw_bind h
  refine fw_callV1 (pc := 3) C (rest := [_]) (c_Door_isDoor ho hv1) (cwV 1 C.2.2.2.2.1 gX8_precedence_X8_isDoor rfl rfl rfl hd_Door_isDoor ⟨Nat.le_of_ble_eq_true rfl, Nat.le_of_ble_eq_true rfl⟩) ho.1 rfl rfl ⟨Nat.zero_le _, Nat.zero_le _⟩ rfl (Nat.le_of_ble_eq_true rfl) dX8_precedence_3 ?_
  refine fw_if_eq (pc := 6) C (tgt := 17) dX8_precedence_6 (by decide) (fun c2 => ?_) (fun c2 => ?_)
  · have h := fw_ift h c2
    exact (c_Door_precedence_b17 C ho h)
  · have h := fw_iff h c2
    refine fw_iload_n (pc := 9) C 2 dX8_precedence_9 rfl rfl ?_
    refine fw_if_lt (pc := 10) C (tgt := 17) dX8_precedence_10 (by decide) (fun c3 => ?_) (fun c3 => ?_)
    · have h := fw_ift h c3
      exact (c_Door_precedence_b17 C ho h)
    · have h := fw_iff h c3
      refine fw_iconst (pc := 13) C (v := 1) dX8_precedence_13 fk_iconst_1 ?_
      refine fw_goto (pc := 14) C (tgt := 18) dX8_precedence_14 (by decide) ?_
      exact (c_Door_precedence_b18 C ho h)
theorem c_Door_precedence {l : Launch} {D : va_G} {cI cZ cH cR : ClassId} {N : Nat} {ad : Nat → Nat} {EE : fw_M → Nat → va_E} {o : Nat} {M : fw_M} {a0 : Int32} {a1 : Int32} {z : (Int32 × fw_M)} (ho : o_Door EE ad N cI cZ cH cR o) (h : P_Door_precedence o M a0 a1 = some z) : fw_Met l yX8_precedence wsX8_precedence rm_Door_precedence D vwCl (fw_tys cI cZ cH cR) N ad fw_nw0 EE [.ref (ad o), .int a0, .int a1] M (some (.int z.1)) z.2 := by
  unfold P_Door_precedence at h
  exact fw_intro (cc := cX8_precedence) (maxL := 4) (ret := some .int) (own := RX8) (by decide) rfl rfl (Nat.le_of_ble_eq_true rfl) (fun p e s m args below meth c C => fw_sub [0, 1, 2] rfl (c_Door_precedence_b0 C ho h))
abbrev rm_Door_both : Room := { frames := 3, cells := 0, slots := 0, locals := 68 }
theorem hd_Door_both : yX8_both.cls = RX8 ∧ yX8_both.cls ≠ "java/lang/invoke/MethodHandle" ∧ yX8_both.cls ≠ "java/lang/invoke/VarHandle" ∧ (parseMethodDescriptor yX8_both.desc).map (fun d => d.parameters.length) = some 1 := by decide +kernel
theorem qX8_both_43 : fw_G wsX8_both RX8 43 RX8 TX8 9 5 := ⟨by decide +kernel, by decide +kernel, by decide⟩
theorem qX8_both_25 : fw_G wsX8_both RX8 25 RX8 TX8 9 2 := ⟨by decide +kernel, by decide +kernel, by decide⟩
def P_Door_both_b49 (o : Nat) (M : fw_M) (t0 : Int32) : Option Int32 := some t0
def P_Door_both_b0 (o : Nat) (M : fw_M) (x1 : Int32) : Option Int32 := (P_Door_within M x1 (0 : Int32) (1 : Int32)).bind fun v1 => (P_Door_refusal o M v1).bind fun v2 => (if v2 = (0 : Int32) then (if x1 = (0 : Int32) then (P_Fore_pairs (o + 157) (o + 4) M).bind fun v7 => P_Door_both_b49 o M v7 else (P_Fore_firstPair (o + 157) (o + 4) M).bind fun v5 => (P_Door_orNone M v5).bind fun v6 => P_Door_both_b49 o M v6) else some v2)
def P_Door_both (o : Nat) (M : fw_M) (a0 : Int32) : Option Int32 := P_Door_both_b0 o M a0
set_option maxRecDepth 100000 in
theorem c_Door_both_b49 {p : Program} {l : Launch} {e : Env} {s : State} {m : MethodId} {args : Array Value} {below : List Frame} {meth : Method} {c : Code} {D : va_G} {cI cZ cH cR : ClassId} {N : Nat} {ad : Nat → Nat} {EE : fw_M → Nat → va_E} {o : Nat} {M : fw_M} {t0 : Int32} {z : Int32} (C : fw_C p s m args meth c cX8_both RX8 wsX8_both 3 (some .int) D vwCl (fw_tys cI cZ cH cR) N ad fw_nw0) (ho : o_Door EE ad N cI cZ cH cR o) (h : P_Door_both_b49 o M t0 = some z) : fw_J p l e (headSpec wsX8_both rm_Door_both).room s m args below meth c D vwCl N ad EE 3 0 0 (fw_E below args s D vwCl N ad EE (some (.int z)) M) M [] 49 [.int t0] := by
  unfold P_Door_both_b49 at h
  exact fw_iret (pc := 49) C (Option.some.inj h) rfl dX8_both_49
set_option maxRecDepth 100000 in
theorem c_Door_both_b0 {p : Program} {l : Launch} {e : Env} {s : State} {m : MethodId} {args : Array Value} {below : List Frame} {meth : Method} {c : Code} {D : va_G} {cI cZ cH cR : ClassId} {N : Nat} {ad : Nat → Nat} {EE : fw_M → Nat → va_E} {o : Nat} {M : fw_M} {x1 : Int32} {z : Int32} (C : fw_C p s m args meth c cX8_both RX8 wsX8_both 3 (some .int) D vwCl (fw_tys cI cZ cH cR) N ad fw_nw0) (ho : o_Door EE ad N cI cZ cH cR o) (h : P_Door_both_b0 o M x1 = some z) : fw_J p l e (headSpec wsX8_both rm_Door_both).room s m args below meth c D vwCl N ad EE 3 0 0 (fw_E below args s D vwCl N ad EE (some (.int z)) M) M [(0, .ref (ad o)), (1, .int x1)] 0 [] := by
  unfold P_Door_both_b0 at h
  refine fw_aload_n (pc := 0) C 0 dX8_both_0 rfl rfl ?_
  refine fw_iload_n (pc := 1) C 1 dX8_both_1 rfl rfl ?_
  refine fw_iconst (pc := 2) C (v := 0) dX8_both_2 fk_iconst_0 ?_
  refine fw_iconst (pc := 3) C (v := 1) dX8_both_3 fk_iconst_1 ?_
  obtain ⟨v1, hv1, h⟩ := fw_bind h
  refine fw_callS1 (pc := 4) C (rest := [_]) (c_Door_within  hv1) (va_cwS 3 C.2.2.2.2.1 gX8_both_X8_within rfl rfl rfl hd_Door_within.2 ⟨Nat.le_of_ble_eq_true rfl, Nat.le_of_ble_eq_true rfl⟩) rfl ⟨Nat.zero_le _, Nat.zero_le _⟩ rfl (Nat.le_of_ble_eq_true rfl) dX8_both_4 ?_
  obtain ⟨v2, hv2, h⟩ := fw_bind h
  refine fw_callV1 (pc := 7) C (rest := []) (c_Door_refusal ho hv2) (cwV 1 C.2.2.2.2.1 gX8_both_X8_refusal rfl rfl rfl hd_Door_refusal ⟨Nat.le_of_ble_eq_true rfl, Nat.le_of_ble_eq_true rfl⟩) ho.1 rfl rfl ⟨Nat.zero_le _, Nat.zero_le _⟩ rfl (Nat.le_of_ble_eq_true rfl) dX8_both_7 ?_
  refine fw_istore_n (pc := 10) C (L2 := [(0, .ref _), (1, .int _), (2, .int _)]) [1, 2, 0] dX8_both_10 rfl (by decide) rfl ?_
  refine fw_iload_n (pc := 11) C 2 dX8_both_11 rfl rfl ?_
  refine fw_if_eq (pc := 12) C (tgt := 17) dX8_both_12 (by decide) (fun c3 => ?_) (fun c3 => ?_)
  · have h := fw_ift h c3
    refine fw_iload_n (pc := 17) C 1 dX8_both_17 rfl rfl ?_
    refine fw_if_ne (pc := 18) C (tgt := 35) dX8_both_18 (by decide) (fun c4 => ?_) (fun c4 => ?_)
    · have h := fw_iff h c4
      refine fw_aload_n (pc := 35) C 0 dX8_both_35 rfl rfl ?_
      refine fw_getr (pc := 36) C ho.2.2.2.2.2.2.1.1 rfl qX8_both_43 dX8_both_36 ?_
      refine fw_aload_n (pc := 39) C 0 dX8_both_39 rfl rfl ?_
      refine fw_getr (pc := 40) C ho.2.2.2.1.1 rfl qX8_both_25 dX8_both_40 ?_
      obtain ⟨v5, hv5, h⟩ := fw_bind h
      refine fw_callV1 (pc := 43) C (rest := []) (c_Fore_firstPair ho.2.2.2.2.2.2.1.2 ho.2.2.2.1.2 hv5) (cwV 1 C.2.2.2.2.1 gX8_both_X2_firstPair rfl rfl rfl hd_Fore_firstPair ⟨Nat.le_of_ble_eq_true rfl, Nat.le_of_ble_eq_true rfl⟩) ho.2.2.2.2.2.2.1.2.1 rfl rfl ⟨Nat.zero_le _, Nat.zero_le _⟩ rfl (Nat.le_of_ble_eq_true rfl) dX8_both_43 ?_
      obtain ⟨v6, hv6, h⟩ := fw_bind h
      refine fw_callS1 (pc := 46) C (rest := []) (c_Door_orNone  hv6) (va_cwS 1 C.2.2.2.2.1 gX8_both_X8_orNone rfl rfl rfl hd_Door_orNone.2 ⟨Nat.le_of_ble_eq_true rfl, Nat.le_of_ble_eq_true rfl⟩) rfl ⟨Nat.zero_le _, Nat.zero_le _⟩ rfl (Nat.le_of_ble_eq_true rfl) dX8_both_46 ?_
      exact fw_sub [] rfl (c_Door_both_b49 C ho h)
    · have h := fw_ift h c4
      refine fw_aload_n (pc := 21) C 0 dX8_both_21 rfl rfl ?_
      refine fw_getr (pc := 22) C ho.2.2.2.2.2.2.1.1 rfl qX8_both_43 dX8_both_22 ?_
      refine fw_aload_n (pc := 25) C 0 dX8_both_25 rfl rfl ?_
      refine fw_getr (pc := 26) C ho.2.2.2.1.1 rfl qX8_both_25 dX8_both_26 ?_
      obtain ⟨v7, hv7, h⟩ := fw_bind h
      refine fw_callV1 (pc := 29) C (rest := []) (c_Fore_pairs ho.2.2.2.2.2.2.1.2 ho.2.2.2.1.2 hv7) (cwV 1 C.2.2.2.2.1 gX8_both_X2_pairs rfl rfl rfl hd_Fore_pairs ⟨Nat.le_of_ble_eq_true rfl, Nat.le_of_ble_eq_true rfl⟩) ho.2.2.2.2.2.2.1.2.1 rfl rfl ⟨Nat.zero_le _, Nat.zero_le _⟩ rfl (Nat.le_of_ble_eq_true rfl) dX8_both_29 ?_
      refine fw_goto (pc := 32) C (tgt := 49) dX8_both_32 (by decide) ?_
      exact fw_sub [] rfl (c_Door_both_b49 C ho h)
  · have h := fw_iff h c3
    refine fw_iload_n (pc := 15) C 2 dX8_both_15 rfl rfl ?_
    exact fw_iret (pc := 16) C (Option.some.inj h) rfl dX8_both_16
theorem c_Door_both {l : Launch} {D : va_G} {cI cZ cH cR : ClassId} {N : Nat} {ad : Nat → Nat} {EE : fw_M → Nat → va_E} {o : Nat} {M : fw_M} {a0 : Int32} {z : Int32} (ho : o_Door EE ad N cI cZ cH cR o) (h : P_Door_both o M a0 = some z) : fw_Met l yX8_both wsX8_both rm_Door_both D vwCl (fw_tys cI cZ cH cR) N ad fw_nw0 EE [.ref (ad o), .int a0] M (some (.int z)) M := by
  unfold P_Door_both at h
  exact fw_intro (cc := cX8_both) (maxL := 3) (ret := some .int) (own := RX8) (by decide) rfl rfl (Nat.le_of_ble_eq_true rfl) (fun p e s m args below meth c C => fw_sub [0, 1] rfl (c_Door_both_b0 C ho h))
abbrev rm_Door_greatestDivisor : Room := { frames := 0, cells := 0, slots := 0, locals := 0 }
theorem hd_Door_greatestDivisor : yX8_greatestDivisor.cls = RX8 ∧ yX8_greatestDivisor.cls ≠ "java/lang/invoke/MethodHandle" ∧ yX8_greatestDivisor.cls ≠ "java/lang/invoke/VarHandle" ∧ (parseMethodDescriptor yX8_greatestDivisor.desc).map (fun d => d.parameters.length) = some 2 := by decide +kernel
def P_Door_greatestDivisor_b57 (M : fw_M) (t0 : Int64) : Option Int64 := some t0
def P_Door_greatestDivisor_b44 (M : fw_M) (x4 : Int64) : Option Int64 := (if (0 : Int32) ≤ (lg_cmp x4 (1 : Int64)) then P_Door_greatestDivisor_b57 M x4 else P_Door_greatestDivisor_b57 M (1 : Int64))
def P_Door_greatestDivisor_b9 (M : fw_M) (K9 : Int64 → Int64 → Int32 → Option Int64) (x4 : Int64) (x6 : Int64) (x8 : Int32) : Option Int64 := (if (100 : Int32) ≤ x8 then P_Door_greatestDivisor_b44 M x4 else (if (lg_cmp x6 (0 : Int64)) = (0 : Int32) then P_Door_greatestDivisor_b44 M x4 else (fw_lremP x4 x6).bind fun v3 => K9 x6 v3 (x8 + (1 : Int32))))
def P_Door_greatestDivisor_h9 (M : fw_M) : Nat → Int64 → Int64 → Int32 → Option Int64
  | 0, _, _, _ => none
  | n + 1, x4, x6, x8 => P_Door_greatestDivisor_b9 M (P_Door_greatestDivisor_h9 M n) x4 x6 x8
def P_Door_greatestDivisor_b0 (M : fw_M) (x0 : Int64) (x2 : Int64) : Option Int64 := P_Door_greatestDivisor_h9 M fw_fu x0 x2 (0 : Int32)
def P_Door_greatestDivisor (M : fw_M) (a0 : Int64) (a1 : Int64) : Option Int64 := P_Door_greatestDivisor_b0 M a0 a1
set_option maxRecDepth 100000 in
theorem c_Door_greatestDivisor_b57 {p : Program} {l : Launch} {e : Env} {s : State} {m : MethodId} {args : Array Value} {below : List Frame} {meth : Method} {c : Code} {D : va_G} {cI cZ cH cR : ClassId} {N : Nat} {ad : Nat → Nat} {EE : fw_M → Nat → va_E} {M : fw_M} {t0 : Int64} {z : Int64} (C : fw_C p s m args meth c cX8_greatestDivisor RX8 wsX8_greatestDivisor 11 (some .long) D vwCl (fw_tys cI cZ cH cR) N ad fw_nw0) (h : P_Door_greatestDivisor_b57 M t0 = some z) : fw_J p l e (headSpec wsX8_greatestDivisor rm_Door_greatestDivisor).room s m args below meth c D vwCl N ad EE 11 0 0 (fw_E below args s D vwCl N ad EE (some (.long z)) M) M [] 57 [.long t0] := by
  unfold P_Door_greatestDivisor_b57 at h
  exact fw_lret (pc := 57) C (Option.some.inj h) rfl dX8_greatestDivisor_57
set_option maxRecDepth 100000 in
theorem c_Door_greatestDivisor_b44 {p : Program} {l : Launch} {e : Env} {s : State} {m : MethodId} {args : Array Value} {below : List Frame} {meth : Method} {c : Code} {D : va_G} {cI cZ cH cR : ClassId} {N : Nat} {ad : Nat → Nat} {EE : fw_M → Nat → va_E} {M : fw_M} {x4 : Int64} {z : Int64} (C : fw_C p s m args meth c cX8_greatestDivisor RX8 wsX8_greatestDivisor 11 (some .long) D vwCl (fw_tys cI cZ cH cR) N ad fw_nw0) (h : P_Door_greatestDivisor_b44 M x4 = some z) : fw_J p l e (headSpec wsX8_greatestDivisor rm_Door_greatestDivisor).room s m args below meth c D vwCl N ad EE 11 0 0 (fw_E below args s D vwCl N ad EE (some (.long z)) M) M [(4, .long x4)] 44 [] := by
  unfold P_Door_greatestDivisor_b44 at h
  refine fw_lload (pc := 44) C 0 dX8_greatestDivisor_44 rfl ?_
  refine fw_lconst (pc := 46) C (v := 1) dX8_greatestDivisor_46 fk_lconst_1 ?_
  refine fw_lcmp (pc := 47) C dX8_greatestDivisor_47 ?_
  refine fw_if_ge (pc := 48) C (tgt := 55) dX8_greatestDivisor_48 (by decide) (fun c1 => ?_) (fun c1 => ?_)
  · have h := fw_ift h c1
    refine fw_lload (pc := 55) C 0 dX8_greatestDivisor_55 rfl ?_
    exact fw_sub [] rfl (c_Door_greatestDivisor_b57 C  h)
  · have h := fw_iff h c1
    refine fw_lconst (pc := 51) C (v := 1) dX8_greatestDivisor_51 fk_lconst_1 ?_
    refine fw_goto (pc := 52) C (tgt := 57) dX8_greatestDivisor_52 (by decide) ?_
    exact fw_sub [] rfl (c_Door_greatestDivisor_b57 C  h)
set_option maxRecDepth 100000 in
theorem c_Door_greatestDivisor_b9 {p : Program} {l : Launch} {e : Env} {s : State} {m : MethodId} {args : Array Value} {below : List Frame} {meth : Method} {c : Code} {D : va_G} {cI cZ cH cR : ClassId} {N : Nat} {ad : Nat → Nat} {EE : fw_M → Nat → va_E} {M : fw_M} {K9 : Int64 → Int64 → Int32 → Option Int64} {x4 : Int64} {x6 : Int64} {x8 : Int32} {z : Int64} (C : fw_C p s m args meth c cX8_greatestDivisor RX8 wsX8_greatestDivisor 11 (some .long) D vwCl (fw_tys cI cZ cH cR) N ad fw_nw0) (hK9 : ∀ (kx4 : Int64) (kx6 : Int64) (kx8 : Int32), K9 kx4 kx6 kx8 = some z → fw_J p l e (headSpec wsX8_greatestDivisor rm_Door_greatestDivisor).room s m args below meth c D vwCl N ad EE 11 0 0 (fw_E below args s D vwCl N ad EE (some (.long z)) M) M [(4, .long kx4), (6, .long kx6), (8, .int kx8)] 9 []) (h : P_Door_greatestDivisor_b9 M K9 x4 x6 x8 = some z) : fw_J p l e (headSpec wsX8_greatestDivisor rm_Door_greatestDivisor).room s m args below meth c D vwCl N ad EE 11 0 0 (fw_E below args s D vwCl N ad EE (some (.long z)) M) M [(4, .long x4), (6, .long x6), (8, .int x8)] 9 [] := by
  unfold P_Door_greatestDivisor_b9 at h
  refine fw_iload (pc := 9) C 2 dX8_greatestDivisor_9 rfl ?_
  refine fw_bipush (pc := 11) C (v := 100) dX8_greatestDivisor_11 fk_bipush_100 ?_
  refine fw_icmp_ge (pc := 13) C (tgt := 44) dX8_greatestDivisor_13 (by decide) (fun c1 => ?_) (fun c1 => ?_)
  · have h := fw_ift h c1
    exact fw_sub [0] rfl (c_Door_greatestDivisor_b44 C  h)
  · have h := fw_iff h c1
    refine fw_lload (pc := 16) C 1 dX8_greatestDivisor_16 rfl ?_
    refine fw_lconst (pc := 18) C (v := 0) dX8_greatestDivisor_18 fk_lconst_0 ?_
    refine fw_lcmp (pc := 19) C dX8_greatestDivisor_19 ?_
    refine fw_if_eq (pc := 20) C (tgt := 44) dX8_greatestDivisor_20 (by decide) (fun c2 => ?_) (fun c2 => ?_)
    · have h := fw_ift h c2
      exact fw_sub [0] rfl (c_Door_greatestDivisor_b44 C  h)
    · have h := fw_iff h c2
      refine fw_lload (pc := 23) C 0 dX8_greatestDivisor_23 rfl ?_
      refine fw_lload (pc := 25) C 1 dX8_greatestDivisor_25 rfl ?_
      obtain ⟨v3, hv3, h⟩ := fw_bind h
      refine fw_lrem (pc := 27) C dX8_greatestDivisor_27 hv3 ?_
      refine fw_lstore (pc := 28) C (L2 := [(4, .long _), (6, .long _), (8, .int _), (9, .long _)]) [1, 2, 3, 0] dX8_greatestDivisor_28 (by decide) rfl ?_
      refine fw_lload (pc := 30) C 1 dX8_greatestDivisor_30 rfl ?_
      refine fw_lstore (pc := 32) C (L2 := [(4, .long _), (6, .long _), (8, .int _), (9, .long _)]) [0, 1, 2, 3] dX8_greatestDivisor_32 (by decide) rfl ?_
      refine fw_lload (pc := 34) C 3 dX8_greatestDivisor_34 rfl ?_
      refine fw_lstore (pc := 36) C (L2 := [(4, .long _), (6, .long _), (8, .int _), (9, .long _)]) [1, 0, 2, 3] dX8_greatestDivisor_36 (by decide) rfl ?_
      refine fw_iinc (pc := 38) C (v := 1) (L2 := [(4, .long _), (6, .long _), (8, .int _), (9, .long _)]) 2 [1, 2, 0, 3] dX8_greatestDivisor_38 rfl fk_iconst_1 (by decide) rfl ?_
      refine fw_goto (pc := 41) C (tgt := 9) dX8_greatestDivisor_41 (by decide) ?_
      exact fw_sub [0, 1, 2] rfl (hK9 _ _ _ h)
theorem c_Door_greatestDivisor_h9 {p : Program} {l : Launch} {e : Env} {s : State} {m : MethodId} {args : Array Value} {below : List Frame} {meth : Method} {c : Code} {D : va_G} {cI cZ cH cR : ClassId} {N : Nat} {ad : Nat → Nat} {EE : fw_M → Nat → va_E} {M : fw_M} {z : Int64} (C : fw_C p s m args meth c cX8_greatestDivisor RX8 wsX8_greatestDivisor 11 (some .long) D vwCl (fw_tys cI cZ cH cR) N ad fw_nw0) : ∀ (n : Nat) (x4 : Int64) (x6 : Int64) (x8 : Int32), P_Door_greatestDivisor_h9 M n x4 x6 x8 = some z → fw_J p l e (headSpec wsX8_greatestDivisor rm_Door_greatestDivisor).room s m args below meth c D vwCl N ad EE 11 0 0 (fw_E below args s D vwCl N ad EE (some (.long z)) M) M [(4, .long x4), (6, .long x6), (8, .int x8)] 9 [] := by
  intro n
  induction n with
  | zero => intro x4 x6 x8  h; cases h
  | succ n ih => intro x4 x6 x8  h; exact c_Door_greatestDivisor_b9 C  ih  h
set_option maxRecDepth 100000 in
theorem c_Door_greatestDivisor_b0 {p : Program} {l : Launch} {e : Env} {s : State} {m : MethodId} {args : Array Value} {below : List Frame} {meth : Method} {c : Code} {D : va_G} {cI cZ cH cR : ClassId} {N : Nat} {ad : Nat → Nat} {EE : fw_M → Nat → va_E} {M : fw_M} {x0 : Int64} {x2 : Int64} {z : Int64} (C : fw_C p s m args meth c cX8_greatestDivisor RX8 wsX8_greatestDivisor 11 (some .long) D vwCl (fw_tys cI cZ cH cR) N ad fw_nw0) (h : P_Door_greatestDivisor_b0 M x0 x2 = some z) : fw_J p l e (headSpec wsX8_greatestDivisor rm_Door_greatestDivisor).room s m args below meth c D vwCl N ad EE 11 0 0 (fw_E below args s D vwCl N ad EE (some (.long z)) M) M [(0, .long x0), (2, .long x2)] 0 [] := by
  unfold P_Door_greatestDivisor_b0 at h
  refine fw_lload_n (pc := 0) C 0 dX8_greatestDivisor_0 rfl rfl ?_
  refine fw_lstore (pc := 1) C (L2 := [(0, .long _), (2, .long _), (4, .long _)]) [1, 2, 0] dX8_greatestDivisor_1 (by decide) rfl ?_
  refine fw_lload_n (pc := 3) C 1 dX8_greatestDivisor_3 rfl rfl ?_
  refine fw_lstore (pc := 4) C (L2 := [(0, .long _), (2, .long _), (4, .long _), (6, .long _)]) [1, 2, 3, 0] dX8_greatestDivisor_4 (by decide) rfl ?_
  refine fw_iconst (pc := 6) C (v := 0) dX8_greatestDivisor_6 fk_iconst_0 ?_
  refine fw_istore (pc := 7) C (L2 := [(0, .long _), (2, .long _), (4, .long _), (6, .long _), (8, .int _)]) [1, 2, 3, 4, 0] dX8_greatestDivisor_7 (by decide) rfl ?_
  exact fw_sub [2, 3, 4] rfl (c_Door_greatestDivisor_h9 C  _ _ _ _ h)
theorem c_Door_greatestDivisor {l : Launch} {D : va_G} {cI cZ cH cR : ClassId} {N : Nat} {ad : Nat → Nat} {EE : fw_M → Nat → va_E} {M : fw_M} {a0 : Int64} {a1 : Int64} {z : Int64} (h : P_Door_greatestDivisor M a0 a1 = some z) : fw_Met l yX8_greatestDivisor wsX8_greatestDivisor rm_Door_greatestDivisor D vwCl (fw_tys cI cZ cH cR) N ad fw_nw0 EE [.long a0, .long a1] M (some (.long z)) M := by
  unfold P_Door_greatestDivisor at h
  exact fw_intro (cc := cX8_greatestDivisor) (maxL := 11) (ret := some .long) (own := RX8) (by decide) rfl rfl (Nat.le_of_ble_eq_true rfl) (fun p e s m args below meth c C => fw_sub [0, 1] rfl (c_Door_greatestDivisor_b0 C  h))
abbrev rm_Door_faint : Room := { frames := 3, cells := 0, slots := 0, locals := 74 }
theorem hd_Door_faint : yX8_faint.cls = RX8 ∧ yX8_faint.cls ≠ "java/lang/invoke/MethodHandle" ∧ yX8_faint.cls ≠ "java/lang/invoke/VarHandle" ∧ (parseMethodDescriptor yX8_faint.desc).map (fun d => d.parameters.length) = some 3 := by decide +kernel
theorem qX8_faint_43 : fw_G wsX8_faint RX8 43 RX8 TX8 9 5 := ⟨by decide +kernel, by decide +kernel, by decide⟩
theorem qX8_faint_25 : fw_G wsX8_faint RX8 25 RX8 TX8 9 2 := ⟨by decide +kernel, by decide +kernel, by decide⟩
theorem kX8_faint_288 : Cond.constantLong RX8 288 (10) ∈ wsX8_faint := by decide +kernel
def P_Door_faint_b122 (o : Nat) (M : fw_M) (x10 : Int64) (t0 : Int64) : Option (Int64 × fw_M) := (fw_ldivP t0 x10).bind fun v1 => some (v1, M)
def P_Door_faint_b81 (o : Nat) (K81 : fw_M → Int32 → Int64 → Int64 → Int32 → Int32 → Option (Int64 × fw_M)) (M : fw_M) (x3 : Int32) (x5 : Int64) (x7 : Int64) (x9 : Int32) (x10 : Int32) : Option (Int64 × fw_M) := (if x9 ≤ x10 then (P_Door_greatestDivisor M x7 x5).bind fun v2 => (if x3 = (0 : Int32) then P_Door_faint_b122 o M v2 x5 else P_Door_faint_b122 o M v2 x7) else fw_pl ((x7 * (10 : Int64))) fun y4 => K81 M x3 x5 y4 x9 (x10 + (1 : Int32)))
def P_Door_faint_h81 (o : Nat) : Nat → fw_M → Int32 → Int64 → Int64 → Int32 → Int32 → Option (Int64 × fw_M)
  | 0, _, _, _, _, _, _ => none
  | n + 1, M, x3, x5, x7, x9, x10 => P_Door_faint_b81 o (P_Door_faint_h81 o n) M x3 x5 x7 x9 x10
def P_Door_faint_b33 (o : Nat) (M : fw_M) (x1 : Int32) (x2 : Int32) (x3 : Int32) (t1 : Int32) : Option (Int64 × fw_M) := (P_Door_refusal o M t1).bind fun v1 => (if v1 = (0 : Int32) then (P_Fore_casesOfGoing (o + 157) (o + 4) M x1 x2).bind fun q3 => (P_Hall_waitingAt (o + 4) q3.2 x1).bind fun v4 => (P_J6_bitCount v4).bind fun v5 => P_Door_faint_h81 o fw_fu q3.2 x3 q3.1 (1 : Int64) v5 (0 : Int32) else some ((Int32.toInt64 v1), M))
def P_Door_faint_b32 (o : Nat) (M : fw_M) (x1 : Int32) (x2 : Int32) (x3 : Int32) : Option (Int64 × fw_M) := P_Door_faint_b33 o M x1 x2 x3 (0 : Int32)
def P_Door_faint_b0 (o : Nat) (M : fw_M) (x1 : Int32) (x2 : Int32) (x3 : Int32) : Option (Int64 × fw_M) := (P_Door_isDoor o M x1).bind fun v1 => (if v1 = (0 : Int32) then P_Door_faint_b32 o M x1 x2 x3 else (P_Door_within M x2 (0 : Int32) (10 : Int32)).bind fun v3 => (if v3 = (0 : Int32) then P_Door_faint_b32 o M x1 x2 x3 else (P_Door_within M x3 (0 : Int32) (1 : Int32)).bind fun v5 => (if v5 = (0 : Int32) then P_Door_faint_b32 o M x1 x2 x3 else P_Door_faint_b33 o M x1 x2 x3 (1 : Int32))))
def P_Door_faint (o : Nat) (M : fw_M) (a0 : Int32) (a1 : Int32) (a2 : Int32) : Option (Int64 × fw_M) := P_Door_faint_b0 o M a0 a1 a2
set_option maxRecDepth 100000 in
theorem c_Door_faint_b122 {p : Program} {l : Launch} {e : Env} {s : State} {m : MethodId} {args : Array Value} {below : List Frame} {meth : Method} {c : Code} {D : va_G} {cI cZ cH cR : ClassId} {N : Nat} {ad : Nat → Nat} {EE : fw_M → Nat → va_E} {o : Nat} {M : fw_M} {x10 : Int64} {t0 : Int64} {z : (Int64 × fw_M)} (C : fw_C p s m args meth c cX8_faint RX8 wsX8_faint 12 (some .long) D vwCl (fw_tys cI cZ cH cR) N ad fw_nw0) (ho : o_Door EE ad N cI cZ cH cR o) (h : P_Door_faint_b122 o M x10 t0 = some z) : fw_J p l e (headSpec wsX8_faint rm_Door_faint).room s m args below meth c D vwCl N ad EE 12 0 0 (fw_E below args s D vwCl N ad EE (some (.long z.1)) z.2) M [(10, .long x10)] 122 [.long t0] := by
  unfold P_Door_faint_b122 at h
  refine fw_lload (pc := 122) C 0 dX8_faint_122 rfl ?_
  obtain ⟨v1, hv1, h⟩ := fw_bind h
  refine fw_ldiv (pc := 124) C dX8_faint_124 hv1 ?_
  exact fw_lret (pc := 125) C (fw_p1 h) (fw_p2 h) dX8_faint_125
set_option maxRecDepth 100000 in
theorem c_Door_faint_b81 {p : Program} {l : Launch} {e : Env} {s : State} {m : MethodId} {args : Array Value} {below : List Frame} {meth : Method} {c : Code} {D : va_G} {cI cZ cH cR : ClassId} {N : Nat} {ad : Nat → Nat} {EE : fw_M → Nat → va_E} {o : Nat} {K81 : fw_M → Int32 → Int64 → Int64 → Int32 → Int32 → Option (Int64 × fw_M)} {M : fw_M} {x3 : Int32} {x5 : Int64} {x7 : Int64} {x9 : Int32} {x10 : Int32} {z : (Int64 × fw_M)} (C : fw_C p s m args meth c cX8_faint RX8 wsX8_faint 12 (some .long) D vwCl (fw_tys cI cZ cH cR) N ad fw_nw0) (ho : o_Door EE ad N cI cZ cH cR o) (hK81 : ∀ (Mk : fw_M) (kx3 : Int32) (kx5 : Int64) (kx7 : Int64) (kx9 : Int32) (kx10 : Int32), K81 Mk kx3 kx5 kx7 kx9 kx10 = some z → fw_J p l e (headSpec wsX8_faint rm_Door_faint).room s m args below meth c D vwCl N ad EE 12 0 0 (fw_E below args s D vwCl N ad EE (some (.long z.1)) z.2) Mk [(3, .int kx3), (5, .long kx5), (7, .long kx7), (9, .int kx9), (10, .int kx10)] 81 []) (h : P_Door_faint_b81 o K81 M x3 x5 x7 x9 x10 = some z) : fw_J p l e (headSpec wsX8_faint rm_Door_faint).room s m args below meth c D vwCl N ad EE 12 0 0 (fw_E below args s D vwCl N ad EE (some (.long z.1)) z.2) M [(3, .int x3), (5, .long x5), (7, .long x7), (9, .int x9), (10, .int x10)] 81 [] := by
  unfold P_Door_faint_b81 at h
  refine fw_iload (pc := 81) C 4 dX8_faint_81 rfl ?_
  refine fw_iload (pc := 83) C 3 dX8_faint_83 rfl ?_
  refine fw_icmp_ge (pc := 85) C (tgt := 102) dX8_faint_85 (by decide) (fun c1 => ?_) (fun c1 => ?_)
  · have h := fw_ift h c1
    refine fw_lload (pc := 102) C 2 dX8_faint_102 rfl ?_
    refine fw_lload (pc := 104) C 1 dX8_faint_104 rfl ?_
    obtain ⟨v2, hv2, h⟩ := fw_bind h
    refine fw_callS1 (pc := 106) C (rest := []) (c_Door_greatestDivisor  hv2) (va_cwS 2 C.2.2.2.2.1 gX8_faint_X8_greatestDivisor rfl rfl rfl hd_Door_greatestDivisor.2 ⟨Nat.le_of_ble_eq_true rfl, Nat.le_of_ble_eq_true rfl⟩) rfl ⟨Nat.zero_le _, Nat.zero_le _⟩ rfl (Nat.le_of_ble_eq_true rfl) dX8_faint_106 ?_
    refine fw_lstore (pc := 109) C (L2 := [(3, .int _), (5, .long _), (7, .long _), (9, .int _), (10, .long _)]) [1, 2, 3, 4, 0] dX8_faint_109 (by decide) rfl ?_
    refine fw_iload_n (pc := 111) C 0 dX8_faint_111 rfl rfl ?_
    refine fw_if_ne (pc := 112) C (tgt := 120) dX8_faint_112 (by decide) (fun c3 => ?_) (fun c3 => ?_)
    · have h := fw_iff h c3
      refine fw_lload (pc := 120) C 2 dX8_faint_120 rfl ?_
      exact fw_sub [4] rfl (c_Door_faint_b122 C ho h)
    · have h := fw_ift h c3
      refine fw_lload (pc := 115) C 1 dX8_faint_115 rfl ?_
      refine fw_goto (pc := 117) C (tgt := 122) dX8_faint_117 (by decide) ?_
      exact fw_sub [4] rfl (c_Door_faint_b122 C ho h)
  · have h := fw_iff h c1
    refine fw_lload (pc := 88) C 2 dX8_faint_88 rfl ?_
    refine fw_ldc2 (pc := 90) C (v := 10) kX8_faint_288 dX8_faint_90 ?_
    refine fw_lmul (pc := 93) C dX8_faint_93 ?_
    have h := fw_plh h
    refine fw_lstore (pc := 94) C (L2 := [(3, .int _), (5, .long _), (7, .long _), (9, .int _), (10, .int _)]) [1, 2, 0, 3, 4] dX8_faint_94 (by decide) rfl ?_
    refine fw_iinc (pc := 96) C (v := 1) (L2 := [(3, .int _), (5, .long _), (7, .long _), (9, .int _), (10, .int _)]) 4 [1, 2, 3, 4, 0] dX8_faint_96 rfl fk_iconst_1 (by decide) rfl ?_
    refine fw_goto (pc := 99) C (tgt := 81) dX8_faint_99 (by decide) ?_
    exact (hK81 _ _ _ _ _ _ h)
theorem c_Door_faint_h81 {p : Program} {l : Launch} {e : Env} {s : State} {m : MethodId} {args : Array Value} {below : List Frame} {meth : Method} {c : Code} {D : va_G} {cI cZ cH cR : ClassId} {N : Nat} {ad : Nat → Nat} {EE : fw_M → Nat → va_E} {o : Nat} {z : (Int64 × fw_M)} (C : fw_C p s m args meth c cX8_faint RX8 wsX8_faint 12 (some .long) D vwCl (fw_tys cI cZ cH cR) N ad fw_nw0) (ho : o_Door EE ad N cI cZ cH cR o) : ∀ (n : Nat) (M : fw_M) (x3 : Int32) (x5 : Int64) (x7 : Int64) (x9 : Int32) (x10 : Int32), P_Door_faint_h81 o n M x3 x5 x7 x9 x10 = some z → fw_J p l e (headSpec wsX8_faint rm_Door_faint).room s m args below meth c D vwCl N ad EE 12 0 0 (fw_E below args s D vwCl N ad EE (some (.long z.1)) z.2) M [(3, .int x3), (5, .long x5), (7, .long x7), (9, .int x9), (10, .int x10)] 81 [] := by
  intro n
  induction n with
  | zero => intro M x3 x5 x7 x9 x10  h; cases h
  | succ n ih => intro M x3 x5 x7 x9 x10  h; exact c_Door_faint_b81 C ho ih  h
set_option maxRecDepth 100000 in
theorem c_Door_faint_b33 {p : Program} {l : Launch} {e : Env} {s : State} {m : MethodId} {args : Array Value} {below : List Frame} {meth : Method} {c : Code} {D : va_G} {cI cZ cH cR : ClassId} {N : Nat} {ad : Nat → Nat} {EE : fw_M → Nat → va_E} {o : Nat} {M : fw_M} {x1 : Int32} {x2 : Int32} {x3 : Int32} {t1 : Int32} {z : (Int64 × fw_M)} (C : fw_C p s m args meth c cX8_faint RX8 wsX8_faint 12 (some .long) D vwCl (fw_tys cI cZ cH cR) N ad fw_nw0) (ho : o_Door EE ad N cI cZ cH cR o) (h : P_Door_faint_b33 o M x1 x2 x3 t1 = some z) : fw_J p l e (headSpec wsX8_faint rm_Door_faint).room s m args below meth c D vwCl N ad EE 12 0 0 (fw_E below args s D vwCl N ad EE (some (.long z.1)) z.2) M [(0, .ref (ad o)), (1, .int x1), (2, .int x2), (3, .int x3)] 33 [.int t1, .ref (ad o)] := by
  unfold P_Door_faint_b33 at h
  obtain ⟨v1, hv1, h⟩ := fw_bind h
  refine fw_callV1 (pc := 33) C (rest := []) (c_Door_refusal ho hv1) (cwV 1 C.2.2.2.2.1 gX8_faint_X8_refusal rfl rfl rfl hd_Door_refusal ⟨Nat.le_of_ble_eq_true rfl, Nat.le_of_ble_eq_true rfl⟩) ho.1 rfl rfl ⟨Nat.zero_le _, Nat.zero_le _⟩ rfl (Nat.le_of_ble_eq_true rfl) dX8_faint_33 ?_
  refine fw_istore (pc := 36) C (L2 := [(0, .ref _), (1, .int _), (2, .int _), (3, .int _), (4, .int _)]) [1, 2, 3, 4, 0] dX8_faint_36 (by decide) rfl ?_
  refine fw_iload (pc := 38) C 4 dX8_faint_38 rfl ?_
  refine fw_if_eq (pc := 40) C (tgt := 47) dX8_faint_40 (by decide) (fun c2 => ?_) (fun c2 => ?_)
  · have h := fw_ift h c2
    refine fw_aload_n (pc := 47) C 0 dX8_faint_47 rfl rfl ?_
    refine fw_getr (pc := 48) C ho.2.2.2.2.2.2.1.1 rfl qX8_faint_43 dX8_faint_48 ?_
    refine fw_aload_n (pc := 51) C 0 dX8_faint_51 rfl rfl ?_
    refine fw_getr (pc := 52) C ho.2.2.2.1.1 rfl qX8_faint_25 dX8_faint_52 ?_
    refine fw_iload_n (pc := 55) C 1 dX8_faint_55 rfl rfl ?_
    refine fw_iload_n (pc := 56) C 2 dX8_faint_56 rfl rfl ?_
    obtain ⟨q3, hq3, h⟩ := fw_bind h
    refine fw_callV1 (pc := 57) C (rest := []) (c_Fore_casesOfGoing ho.2.2.2.2.2.2.1.2 ho.2.2.2.1.2 hq3) (cwV 3 C.2.2.2.2.1 gX8_faint_X2_casesOfGoing rfl rfl rfl hd_Fore_casesOfGoing ⟨Nat.le_of_ble_eq_true rfl, Nat.le_of_ble_eq_true rfl⟩) ho.2.2.2.2.2.2.1.2.1 rfl rfl ⟨Nat.zero_le _, Nat.zero_le _⟩ rfl (Nat.le_of_ble_eq_true rfl) dX8_faint_57 ?_
    refine fw_lstore (pc := 60) C (L2 := [(0, .ref _), (1, .int _), (2, .int _), (3, .int _), (4, .int _), (5, .long _)]) [1, 2, 3, 4, 5, 0] dX8_faint_60 (by decide) rfl ?_
    refine fw_lconst (pc := 62) C (v := 1) dX8_faint_62 fk_lconst_1 ?_
    refine fw_lstore (pc := 63) C (L2 := [(0, .ref _), (1, .int _), (2, .int _), (3, .int _), (4, .int _), (5, .long _), (7, .long _)]) [1, 2, 3, 4, 5, 6, 0] dX8_faint_63 (by decide) rfl ?_
    refine fw_aload_n (pc := 65) C 0 dX8_faint_65 rfl rfl ?_
    refine fw_getr (pc := 66) C ho.2.2.2.1.1 rfl qX8_faint_25 dX8_faint_66 ?_
    refine fw_iload_n (pc := 69) C 1 dX8_faint_69 rfl rfl ?_
    obtain ⟨v4, hv4, h⟩ := fw_bind h
    refine fw_callV1 (pc := 70) C (rest := []) (c_Hall_waitingAt ho.2.2.2.1.2 hv4) (cwV 1 C.2.2.2.2.1 gX8_faint_X3_waitingAt rfl rfl rfl hd_Hall_waitingAt ⟨Nat.le_of_ble_eq_true rfl, Nat.le_of_ble_eq_true rfl⟩) ho.2.2.2.1.2.1 rfl rfl ⟨Nat.zero_le _, Nat.zero_le _⟩ rfl (Nat.le_of_ble_eq_true rfl) dX8_faint_70 ?_
    obtain ⟨v5, hv5, h⟩ := fw_bind h
    refine fw_callS1 (pc := 73) C (rest := []) (c_J6_bitCount  hv5) (va_cwS 1 C.2.2.2.2.1 gX8_faint_J6_bitCount_0f7a4 rfl rfl rfl hd_J6_bitCount.2 ⟨Nat.le_of_ble_eq_true rfl, Nat.le_of_ble_eq_true rfl⟩) rfl ⟨Nat.zero_le _, Nat.zero_le _⟩ rfl (Nat.le_of_ble_eq_true rfl) dX8_faint_73 ?_
    refine fw_istore (pc := 76) C (L2 := [(0, .ref _), (1, .int _), (2, .int _), (3, .int _), (4, .int _), (5, .long _), (7, .long _), (9, .int _)]) [1, 2, 3, 4, 5, 6, 7, 0] dX8_faint_76 (by decide) rfl ?_
    refine fw_iconst (pc := 78) C (v := 0) dX8_faint_78 fk_iconst_0 ?_
    refine fw_istore (pc := 79) C (L2 := [(0, .ref _), (1, .int _), (2, .int _), (3, .int _), (4, .int _), (5, .long _), (7, .long _), (9, .int _), (10, .int _)]) [1, 2, 3, 4, 5, 6, 7, 8, 0] dX8_faint_79 (by decide) rfl ?_
    exact fw_sub [3, 5, 6, 7, 8] rfl (c_Door_faint_h81 C ho _ _ _ _ _ _ _ h)
  · have h := fw_iff h c2
    refine fw_iload (pc := 43) C 4 dX8_faint_43 rfl ?_
    refine fw_i2l (pc := 45) C dX8_faint_45 ?_
    exact fw_lret (pc := 46) C (fw_p1 h) (fw_p2 h) dX8_faint_46
set_option maxRecDepth 100000 in
theorem c_Door_faint_b32 {p : Program} {l : Launch} {e : Env} {s : State} {m : MethodId} {args : Array Value} {below : List Frame} {meth : Method} {c : Code} {D : va_G} {cI cZ cH cR : ClassId} {N : Nat} {ad : Nat → Nat} {EE : fw_M → Nat → va_E} {o : Nat} {M : fw_M} {x1 : Int32} {x2 : Int32} {x3 : Int32} {z : (Int64 × fw_M)} (C : fw_C p s m args meth c cX8_faint RX8 wsX8_faint 12 (some .long) D vwCl (fw_tys cI cZ cH cR) N ad fw_nw0) (ho : o_Door EE ad N cI cZ cH cR o) (h : P_Door_faint_b32 o M x1 x2 x3 = some z) : fw_J p l e (headSpec wsX8_faint rm_Door_faint).room s m args below meth c D vwCl N ad EE 12 0 0 (fw_E below args s D vwCl N ad EE (some (.long z.1)) z.2) M [(0, .ref (ad o)), (1, .int x1), (2, .int x2), (3, .int x3)] 32 [.ref (ad o)] := by
  unfold P_Door_faint_b32 at h
  refine fw_iconst (pc := 32) C (v := 0) dX8_faint_32 fk_iconst_0 ?_
  exact (c_Door_faint_b33 C ho h)
set_option maxRecDepth 100000 in
theorem c_Door_faint_b0 {p : Program} {l : Launch} {e : Env} {s : State} {m : MethodId} {args : Array Value} {below : List Frame} {meth : Method} {c : Code} {D : va_G} {cI cZ cH cR : ClassId} {N : Nat} {ad : Nat → Nat} {EE : fw_M → Nat → va_E} {o : Nat} {M : fw_M} {x1 : Int32} {x2 : Int32} {x3 : Int32} {z : (Int64 × fw_M)} (C : fw_C p s m args meth c cX8_faint RX8 wsX8_faint 12 (some .long) D vwCl (fw_tys cI cZ cH cR) N ad fw_nw0) (ho : o_Door EE ad N cI cZ cH cR o) (h : P_Door_faint_b0 o M x1 x2 x3 = some z) : fw_J p l e (headSpec wsX8_faint rm_Door_faint).room s m args below meth c D vwCl N ad EE 12 0 0 (fw_E below args s D vwCl N ad EE (some (.long z.1)) z.2) M [(0, .ref (ad o)), (1, .int x1), (2, .int x2), (3, .int x3)] 0 [] := by
  unfold P_Door_faint_b0 at h
  refine fw_aload_n (pc := 0) C 0 dX8_faint_0 rfl rfl ?_
  refine fw_aload_n (pc := 1) C 0 dX8_faint_1 rfl rfl ?_
  refine fw_iload_n (pc := 2) C 1 dX8_faint_2 rfl rfl ?_
  obtain ⟨v1, hv1, h⟩ := fw_bind h
  refine fw_callV1 (pc := 3) C (rest := [_]) (c_Door_isDoor ho hv1) (cwV 1 C.2.2.2.2.1 gX8_faint_X8_isDoor rfl rfl rfl hd_Door_isDoor ⟨Nat.le_of_ble_eq_true rfl, Nat.le_of_ble_eq_true rfl⟩) ho.1 rfl rfl ⟨Nat.zero_le _, Nat.zero_le _⟩ rfl (Nat.le_of_ble_eq_true rfl) dX8_faint_3 ?_
  refine fw_if_eq (pc := 6) C (tgt := 32) dX8_faint_6 (by decide) (fun c2 => ?_) (fun c2 => ?_)
  · have h := fw_ift h c2
    exact (c_Door_faint_b32 C ho h)
  · have h := fw_iff h c2
    refine fw_iload_n (pc := 9) C 2 dX8_faint_9 rfl rfl ?_
    refine fw_iconst (pc := 10) C (v := 0) dX8_faint_10 fk_iconst_0 ?_
    refine fw_bipush (pc := 11) C (v := 10) dX8_faint_11 fk_bipush_10 ?_
    obtain ⟨v3, hv3, h⟩ := fw_bind h
    refine fw_callS1 (pc := 13) C (rest := [_]) (c_Door_within  hv3) (va_cwS 3 C.2.2.2.2.1 gX8_faint_X8_within rfl rfl rfl hd_Door_within.2 ⟨Nat.le_of_ble_eq_true rfl, Nat.le_of_ble_eq_true rfl⟩) rfl ⟨Nat.zero_le _, Nat.zero_le _⟩ rfl (Nat.le_of_ble_eq_true rfl) dX8_faint_13 ?_
    refine fw_if_eq (pc := 16) C (tgt := 32) dX8_faint_16 (by decide) (fun c4 => ?_) (fun c4 => ?_)
    · have h := fw_ift h c4
      exact (c_Door_faint_b32 C ho h)
    · have h := fw_iff h c4
      refine fw_iload_n (pc := 19) C 3 dX8_faint_19 rfl rfl ?_
      refine fw_iconst (pc := 20) C (v := 0) dX8_faint_20 fk_iconst_0 ?_
      refine fw_iconst (pc := 21) C (v := 1) dX8_faint_21 fk_iconst_1 ?_
      obtain ⟨v5, hv5, h⟩ := fw_bind h
      refine fw_callS1 (pc := 22) C (rest := [_]) (c_Door_within  hv5) (va_cwS 3 C.2.2.2.2.1 gX8_faint_X8_within rfl rfl rfl hd_Door_within.2 ⟨Nat.le_of_ble_eq_true rfl, Nat.le_of_ble_eq_true rfl⟩) rfl ⟨Nat.zero_le _, Nat.zero_le _⟩ rfl (Nat.le_of_ble_eq_true rfl) dX8_faint_22 ?_
      refine fw_if_eq (pc := 25) C (tgt := 32) dX8_faint_25 (by decide) (fun c6 => ?_) (fun c6 => ?_)
      · have h := fw_ift h c6
        exact (c_Door_faint_b32 C ho h)
      · have h := fw_iff h c6
        refine fw_iconst (pc := 28) C (v := 1) dX8_faint_28 fk_iconst_1 ?_
        refine fw_goto (pc := 29) C (tgt := 33) dX8_faint_29 (by decide) ?_
        exact (c_Door_faint_b33 C ho h)
theorem c_Door_faint {l : Launch} {D : va_G} {cI cZ cH cR : ClassId} {N : Nat} {ad : Nat → Nat} {EE : fw_M → Nat → va_E} {o : Nat} {M : fw_M} {a0 : Int32} {a1 : Int32} {a2 : Int32} {z : (Int64 × fw_M)} (ho : o_Door EE ad N cI cZ cH cR o) (h : P_Door_faint o M a0 a1 a2 = some z) : fw_Met l yX8_faint wsX8_faint rm_Door_faint D vwCl (fw_tys cI cZ cH cR) N ad fw_nw0 EE [.ref (ad o), .int a0, .int a1, .int a2] M (some (.long z.1)) z.2 := by
  unfold P_Door_faint at h
  exact fw_intro (cc := cX8_faint) (maxL := 12) (ret := some .long) (own := RX8) (by decide) rfl rfl (Nat.le_of_ble_eq_true rfl) (fun p e s m args below meth c C => fw_sub [0, 1, 2, 3] rfl (c_Door_faint_b0 C ho h))
abbrev rm_Door_drawn : Room := { frames := 4, cells := 0, slots := 0, locals := 98 }
theorem hd_Door_drawn : yX8_drawn.cls = RX8 ∧ yX8_drawn.cls ≠ "java/lang/invoke/MethodHandle" ∧ yX8_drawn.cls ≠ "java/lang/invoke/VarHandle" ∧ (parseMethodDescriptor yX8_drawn.desc).map (fun d => d.parameters.length) = some 3 := by decide +kernel
theorem kX8_drawn_294 : Cond.constant RX8 294 (999999) ∈ wsX8_drawn := by decide +kernel
theorem qX8_drawn_43 : fw_G wsX8_drawn RX8 43 RX8 TX8 9 5 := ⟨by decide +kernel, by decide +kernel, by decide⟩
theorem qX8_drawn_25 : fw_G wsX8_drawn RX8 25 RX8 TX8 9 2 := ⟨by decide +kernel, by decide +kernel, by decide⟩
theorem qX8_drawn_118 : fw_G wsX8_drawn RX8 118 RX2 TX2 3 0 := ⟨by decide +kernel, by decide +kernel, by decide⟩
theorem qX8_drawn_139 : fw_G wsX8_drawn RX8 139 RX3 TX3 9 2 := ⟨by decide +kernel, by decide +kernel, by decide⟩
def P_Door_drawn_b98 (o : Nat) (M : fw_M) (t0 : Int32) : Option (Int32 × fw_M) := some (t0, M)
def P_Door_drawn_b36 (o : Nat) (M : fw_M) (x1 : Int32) (x2 : Int32) (x3 : Int32) (t1 : Int32) : Option (Int32 × fw_M) := (P_Door_refusal o M t1).bind fun v1 => (if v1 = (0 : Int32) then (P_Fore_daysByDraws (o + 157) (o + 4) M x1 x2).bind fun q3 => (if x3 = (0 : Int32) then P_Door_drawn_b98 o q3.2 q3.1 else (P_Hall_waitingAt ((o + 157) + 1) q3.2 (-1 : Int32)).bind fun v5 => (P_J6_bitCount v5).bind fun v6 => P_Door_drawn_b98 o q3.2 ((q3.2 ((o + 157) + 1) 2) - v6)) else some (v1, M))
def P_Door_drawn_b35 (o : Nat) (M : fw_M) (x1 : Int32) (x2 : Int32) (x3 : Int32) : Option (Int32 × fw_M) := P_Door_drawn_b36 o M x1 x2 x3 (0 : Int32)
def P_Door_drawn_b0 (o : Nat) (M : fw_M) (x1 : Int32) (x2 : Int32) (x3 : Int32) : Option (Int32 × fw_M) := (P_Door_within M x1 (0 : Int32) (60 : Int32)).bind fun v1 => (if v1 = (0 : Int32) then P_Door_drawn_b35 o M x1 x2 x3 else (P_Door_within M x2 (1 : Int32) (999999 : Int32)).bind fun v3 => (if v3 = (0 : Int32) then P_Door_drawn_b35 o M x1 x2 x3 else (P_Door_within M x3 (0 : Int32) (1 : Int32)).bind fun v5 => (if v5 = (0 : Int32) then P_Door_drawn_b35 o M x1 x2 x3 else P_Door_drawn_b36 o M x1 x2 x3 (1 : Int32))))
def P_Door_drawn (o : Nat) (M : fw_M) (a0 : Int32) (a1 : Int32) (a2 : Int32) : Option (Int32 × fw_M) := P_Door_drawn_b0 o M a0 a1 a2
set_option maxRecDepth 100000 in
theorem c_Door_drawn_b98 {p : Program} {l : Launch} {e : Env} {s : State} {m : MethodId} {args : Array Value} {below : List Frame} {meth : Method} {c : Code} {D : va_G} {cI cZ cH cR : ClassId} {N : Nat} {ad : Nat → Nat} {EE : fw_M → Nat → va_E} {o : Nat} {M : fw_M} {t0 : Int32} {z : (Int32 × fw_M)} (C : fw_C p s m args meth c cX8_drawn RX8 wsX8_drawn 6 (some .int) D vwCl (fw_tys cI cZ cH cR) N ad fw_nw0) (ho : o_Door EE ad N cI cZ cH cR o) (h : P_Door_drawn_b98 o M t0 = some z) : fw_J p l e (headSpec wsX8_drawn rm_Door_drawn).room s m args below meth c D vwCl N ad EE 6 0 0 (fw_E below args s D vwCl N ad EE (some (.int z.1)) z.2) M [] 98 [.int t0] := by
  unfold P_Door_drawn_b98 at h
  exact fw_iret (pc := 98) C (fw_p1 h) (fw_p2 h) dX8_drawn_98
set_option maxRecDepth 100000 in
theorem c_Door_drawn_b36 {p : Program} {l : Launch} {e : Env} {s : State} {m : MethodId} {args : Array Value} {below : List Frame} {meth : Method} {c : Code} {D : va_G} {cI cZ cH cR : ClassId} {N : Nat} {ad : Nat → Nat} {EE : fw_M → Nat → va_E} {o : Nat} {M : fw_M} {x1 : Int32} {x2 : Int32} {x3 : Int32} {t1 : Int32} {z : (Int32 × fw_M)} (C : fw_C p s m args meth c cX8_drawn RX8 wsX8_drawn 6 (some .int) D vwCl (fw_tys cI cZ cH cR) N ad fw_nw0) (ho : o_Door EE ad N cI cZ cH cR o) (h : P_Door_drawn_b36 o M x1 x2 x3 t1 = some z) : fw_J p l e (headSpec wsX8_drawn rm_Door_drawn).room s m args below meth c D vwCl N ad EE 6 0 0 (fw_E below args s D vwCl N ad EE (some (.int z.1)) z.2) M [(0, .ref (ad o)), (1, .int x1), (2, .int x2), (3, .int x3)] 36 [.int t1, .ref (ad o)] := by
  unfold P_Door_drawn_b36 at h
  obtain ⟨v1, hv1, h⟩ := fw_bind h
  refine fw_callV1 (pc := 36) C (rest := []) (c_Door_refusal ho hv1) (cwV 1 C.2.2.2.2.1 gX8_drawn_X8_refusal rfl rfl rfl hd_Door_refusal ⟨Nat.le_of_ble_eq_true rfl, Nat.le_of_ble_eq_true rfl⟩) ho.1 rfl rfl ⟨Nat.zero_le _, Nat.zero_le _⟩ rfl (Nat.le_of_ble_eq_true rfl) dX8_drawn_36 ?_
  refine fw_istore (pc := 39) C (L2 := [(0, .ref _), (1, .int _), (2, .int _), (3, .int _), (4, .int _)]) [1, 2, 3, 4, 0] dX8_drawn_39 (by decide) rfl ?_
  refine fw_iload (pc := 41) C 4 dX8_drawn_41 rfl ?_
  refine fw_if_eq (pc := 43) C (tgt := 49) dX8_drawn_43 (by decide) (fun c2 => ?_) (fun c2 => ?_)
  · have h := fw_ift h c2
    refine fw_aload_n (pc := 49) C 0 dX8_drawn_49 rfl rfl ?_
    refine fw_getr (pc := 50) C ho.2.2.2.2.2.2.1.1 rfl qX8_drawn_43 dX8_drawn_50 ?_
    refine fw_aload_n (pc := 53) C 0 dX8_drawn_53 rfl rfl ?_
    refine fw_getr (pc := 54) C ho.2.2.2.1.1 rfl qX8_drawn_25 dX8_drawn_54 ?_
    refine fw_iload_n (pc := 57) C 1 dX8_drawn_57 rfl rfl ?_
    refine fw_iload_n (pc := 58) C 2 dX8_drawn_58 rfl rfl ?_
    obtain ⟨q3, hq3, h⟩ := fw_bind h
    refine fw_callV1 (pc := 59) C (rest := []) (c_Fore_daysByDraws ho.2.2.2.2.2.2.1.2 ho.2.2.2.1.2 hq3) (cwV 3 C.2.2.2.2.1 gX8_drawn_X2_daysByDraws rfl rfl rfl hd_Fore_daysByDraws ⟨Nat.le_of_ble_eq_true rfl, Nat.le_of_ble_eq_true rfl⟩) ho.2.2.2.2.2.2.1.2.1 rfl rfl ⟨Nat.zero_le _, Nat.zero_le _⟩ rfl (Nat.le_of_ble_eq_true rfl) dX8_drawn_59 ?_
    refine fw_istore (pc := 62) C (L2 := [(0, .ref _), (1, .int _), (2, .int _), (3, .int _), (4, .int _), (5, .int _)]) [1, 2, 3, 4, 5, 0] dX8_drawn_62 (by decide) rfl ?_
    refine fw_iload_n (pc := 64) C 3 dX8_drawn_64 rfl rfl ?_
    refine fw_if_ne (pc := 65) C (tgt := 73) dX8_drawn_65 (by decide) (fun c4 => ?_) (fun c4 => ?_)
    · have h := fw_iff h c4
      refine fw_aload_n (pc := 73) C 0 dX8_drawn_73 rfl rfl ?_
      refine fw_getr (pc := 74) C ho.2.2.2.2.2.2.1.1 rfl qX8_drawn_43 dX8_drawn_74 ?_
      refine fw_getr (pc := 77) C ho.2.2.2.2.2.2.1.2.2.1.1 rfl qX8_drawn_118 dX8_drawn_77 ?_
      refine fw_geti (pc := 80) C ho.2.2.2.2.2.2.1.2.2.1.2.2.2.2.1 rfl qX8_drawn_139 dX8_drawn_80 ?_
      refine fw_aload_n (pc := 83) C 0 dX8_drawn_83 rfl rfl ?_
      refine fw_getr (pc := 84) C ho.2.2.2.2.2.2.1.1 rfl qX8_drawn_43 dX8_drawn_84 ?_
      refine fw_getr (pc := 87) C ho.2.2.2.2.2.2.1.2.2.1.1 rfl qX8_drawn_118 dX8_drawn_87 ?_
      refine fw_iconst (pc := 90) C (v := -1) dX8_drawn_90 fk_iconst_m1 ?_
      obtain ⟨v5, hv5, h⟩ := fw_bind h
      refine fw_callV1 (pc := 91) C (rest := [_]) (c_Hall_waitingAt ho.2.2.2.2.2.2.1.2.2.1.2 hv5) (cwV 1 C.2.2.2.2.1 gX8_drawn_X3_waitingAt rfl rfl rfl hd_Hall_waitingAt ⟨Nat.le_of_ble_eq_true rfl, Nat.le_of_ble_eq_true rfl⟩) ho.2.2.2.2.2.2.1.2.2.1.2.1 rfl rfl ⟨Nat.zero_le _, Nat.zero_le _⟩ rfl (Nat.le_of_ble_eq_true rfl) dX8_drawn_91 ?_
      obtain ⟨v6, hv6, h⟩ := fw_bind h
      refine fw_callS1 (pc := 94) C (rest := [_]) (c_J6_bitCount  hv6) (va_cwS 1 C.2.2.2.2.1 gX8_drawn_J6_bitCount_0f7a4 rfl rfl rfl hd_J6_bitCount.2 ⟨Nat.le_of_ble_eq_true rfl, Nat.le_of_ble_eq_true rfl⟩) rfl ⟨Nat.zero_le _, Nat.zero_le _⟩ rfl (Nat.le_of_ble_eq_true rfl) dX8_drawn_94 ?_
      refine fw_isub (pc := 97) C dX8_drawn_97 ?_
      exact fw_sub [] rfl (c_Door_drawn_b98 C ho h)
    · have h := fw_ift h c4
      refine fw_iload (pc := 68) C 5 dX8_drawn_68 rfl ?_
      refine fw_goto (pc := 70) C (tgt := 98) dX8_drawn_70 (by decide) ?_
      exact fw_sub [] rfl (c_Door_drawn_b98 C ho h)
  · have h := fw_iff h c2
    refine fw_iload (pc := 46) C 4 dX8_drawn_46 rfl ?_
    exact fw_iret (pc := 48) C (fw_p1 h) (fw_p2 h) dX8_drawn_48
set_option maxRecDepth 100000 in
theorem c_Door_drawn_b35 {p : Program} {l : Launch} {e : Env} {s : State} {m : MethodId} {args : Array Value} {below : List Frame} {meth : Method} {c : Code} {D : va_G} {cI cZ cH cR : ClassId} {N : Nat} {ad : Nat → Nat} {EE : fw_M → Nat → va_E} {o : Nat} {M : fw_M} {x1 : Int32} {x2 : Int32} {x3 : Int32} {z : (Int32 × fw_M)} (C : fw_C p s m args meth c cX8_drawn RX8 wsX8_drawn 6 (some .int) D vwCl (fw_tys cI cZ cH cR) N ad fw_nw0) (ho : o_Door EE ad N cI cZ cH cR o) (h : P_Door_drawn_b35 o M x1 x2 x3 = some z) : fw_J p l e (headSpec wsX8_drawn rm_Door_drawn).room s m args below meth c D vwCl N ad EE 6 0 0 (fw_E below args s D vwCl N ad EE (some (.int z.1)) z.2) M [(0, .ref (ad o)), (1, .int x1), (2, .int x2), (3, .int x3)] 35 [.ref (ad o)] := by
  unfold P_Door_drawn_b35 at h
  refine fw_iconst (pc := 35) C (v := 0) dX8_drawn_35 fk_iconst_0 ?_
  exact (c_Door_drawn_b36 C ho h)
set_option maxRecDepth 100000 in
theorem c_Door_drawn_b0 {p : Program} {l : Launch} {e : Env} {s : State} {m : MethodId} {args : Array Value} {below : List Frame} {meth : Method} {c : Code} {D : va_G} {cI cZ cH cR : ClassId} {N : Nat} {ad : Nat → Nat} {EE : fw_M → Nat → va_E} {o : Nat} {M : fw_M} {x1 : Int32} {x2 : Int32} {x3 : Int32} {z : (Int32 × fw_M)} (C : fw_C p s m args meth c cX8_drawn RX8 wsX8_drawn 6 (some .int) D vwCl (fw_tys cI cZ cH cR) N ad fw_nw0) (ho : o_Door EE ad N cI cZ cH cR o) (h : P_Door_drawn_b0 o M x1 x2 x3 = some z) : fw_J p l e (headSpec wsX8_drawn rm_Door_drawn).room s m args below meth c D vwCl N ad EE 6 0 0 (fw_E below args s D vwCl N ad EE (some (.int z.1)) z.2) M [(0, .ref (ad o)), (1, .int x1), (2, .int x2), (3, .int x3)] 0 [] := by
  unfold P_Door_drawn_b0 at h
  refine fw_aload_n (pc := 0) C 0 dX8_drawn_0 rfl rfl ?_
  refine fw_iload_n (pc := 1) C 1 dX8_drawn_1 rfl rfl ?_
  refine fw_iconst (pc := 2) C (v := 0) dX8_drawn_2 fk_iconst_0 ?_
  refine fw_bipush (pc := 3) C (v := 60) dX8_drawn_3 fk_bipush_60 ?_
  obtain ⟨v1, hv1, h⟩ := fw_bind h
  refine fw_callS1 (pc := 5) C (rest := [_]) (c_Door_within  hv1) (va_cwS 3 C.2.2.2.2.1 gX8_drawn_X8_within rfl rfl rfl hd_Door_within.2 ⟨Nat.le_of_ble_eq_true rfl, Nat.le_of_ble_eq_true rfl⟩) rfl ⟨Nat.zero_le _, Nat.zero_le _⟩ rfl (Nat.le_of_ble_eq_true rfl) dX8_drawn_5 ?_
  refine fw_if_eq (pc := 8) C (tgt := 35) dX8_drawn_8 (by decide) (fun c2 => ?_) (fun c2 => ?_)
  · have h := fw_ift h c2
    exact (c_Door_drawn_b35 C ho h)
  · have h := fw_iff h c2
    refine fw_iload_n (pc := 11) C 2 dX8_drawn_11 rfl rfl ?_
    refine fw_iconst (pc := 12) C (v := 1) dX8_drawn_12 fk_iconst_1 ?_
    refine fw_ldcw (pc := 13) C (v := 999999) kX8_drawn_294 dX8_drawn_13 ?_
    obtain ⟨v3, hv3, h⟩ := fw_bind h
    refine fw_callS1 (pc := 16) C (rest := [_]) (c_Door_within  hv3) (va_cwS 3 C.2.2.2.2.1 gX8_drawn_X8_within rfl rfl rfl hd_Door_within.2 ⟨Nat.le_of_ble_eq_true rfl, Nat.le_of_ble_eq_true rfl⟩) rfl ⟨Nat.zero_le _, Nat.zero_le _⟩ rfl (Nat.le_of_ble_eq_true rfl) dX8_drawn_16 ?_
    refine fw_if_eq (pc := 19) C (tgt := 35) dX8_drawn_19 (by decide) (fun c4 => ?_) (fun c4 => ?_)
    · have h := fw_ift h c4
      exact (c_Door_drawn_b35 C ho h)
    · have h := fw_iff h c4
      refine fw_iload_n (pc := 22) C 3 dX8_drawn_22 rfl rfl ?_
      refine fw_iconst (pc := 23) C (v := 0) dX8_drawn_23 fk_iconst_0 ?_
      refine fw_iconst (pc := 24) C (v := 1) dX8_drawn_24 fk_iconst_1 ?_
      obtain ⟨v5, hv5, h⟩ := fw_bind h
      refine fw_callS1 (pc := 25) C (rest := [_]) (c_Door_within  hv5) (va_cwS 3 C.2.2.2.2.1 gX8_drawn_X8_within rfl rfl rfl hd_Door_within.2 ⟨Nat.le_of_ble_eq_true rfl, Nat.le_of_ble_eq_true rfl⟩) rfl ⟨Nat.zero_le _, Nat.zero_le _⟩ rfl (Nat.le_of_ble_eq_true rfl) dX8_drawn_25 ?_
      refine fw_if_eq (pc := 28) C (tgt := 35) dX8_drawn_28 (by decide) (fun c6 => ?_) (fun c6 => ?_)
      · have h := fw_ift h c6
        exact (c_Door_drawn_b35 C ho h)
      · have h := fw_iff h c6
        refine fw_iconst (pc := 31) C (v := 1) dX8_drawn_31 fk_iconst_1 ?_
        refine fw_goto (pc := 32) C (tgt := 36) dX8_drawn_32 (by decide) ?_
        exact (c_Door_drawn_b36 C ho h)
theorem c_Door_drawn {l : Launch} {D : va_G} {cI cZ cH cR : ClassId} {N : Nat} {ad : Nat → Nat} {EE : fw_M → Nat → va_E} {o : Nat} {M : fw_M} {a0 : Int32} {a1 : Int32} {a2 : Int32} {z : (Int32 × fw_M)} (ho : o_Door EE ad N cI cZ cH cR o) (h : P_Door_drawn o M a0 a1 a2 = some z) : fw_Met l yX8_drawn wsX8_drawn rm_Door_drawn D vwCl (fw_tys cI cZ cH cR) N ad fw_nw0 EE [.ref (ad o), .int a0, .int a1, .int a2] M (some (.int z.1)) z.2 := by
  unfold P_Door_drawn at h
  exact fw_intro (cc := cX8_drawn) (maxL := 6) (ret := some .int) (own := RX8) (by decide) rfl rfl (Nat.le_of_ble_eq_true rfl) (fun p e s m args below meth c C => fw_sub [0, 1, 2, 3] rfl (c_Door_drawn_b0 C ho h))
abbrev rm_Door_image : Room := { frames := 2, cells := 0, slots := 0, locals := 69 }
theorem hd_Door_image : yX8_image.cls = RX8 ∧ yX8_image.cls ≠ "java/lang/invoke/MethodHandle" ∧ yX8_image.cls ≠ "java/lang/invoke/VarHandle" ∧ (parseMethodDescriptor yX8_image.desc).map (fun d => d.parameters.length) = some 1 := by decide +kernel
theorem kX8_image_70 : Cond.constant RX8 70 (-1000001) ∈ wsX8_image := by decide +kernel
theorem qX8_image_25 : fw_G wsX8_image RX8 25 RX8 TX8 9 2 := ⟨by decide +kernel, by decide +kernel, by decide⟩
theorem qX8_image_139 : fw_G wsX8_image RX8 139 RX3 TX3 9 2 := ⟨by decide +kernel, by decide +kernel, by decide⟩
theorem kX8_image_145 : Cond.constant RX8 145 (-1000002) ∈ wsX8_image := by decide +kernel
theorem qX8_image_36 : fw_G wsX8_image RX8 36 RX8 TX8 9 4 := ⟨by decide +kernel, by decide +kernel, by decide⟩
def P_Door_image_b0 (o : Nat) (M : fw_M) (x1 : Int32) : Option (Int32 × fw_M) := (P_Door_within M x1 (0 : Int32) (1 : Int32)).bind fun v1 => (if v1 = (0 : Int32) then some ((-1000001 : Int32), M) else (if (M (o + 4) 2) = (0 : Int32) then some ((-1000002 : Int32), M) else (fw_aix 2 x1).bind fun i4 => (P_Hall_become (o + 187 + 6 * i4) (o + 4) M).bind fun q5 => some ((1 : Int32), q5)))
def P_Door_image (o : Nat) (M : fw_M) (a0 : Int32) : Option (Int32 × fw_M) := P_Door_image_b0 o M a0
set_option maxRecDepth 100000 in
theorem c_Door_image_b0 {p : Program} {l : Launch} {e : Env} {s : State} {m : MethodId} {args : Array Value} {below : List Frame} {meth : Method} {c : Code} {D : va_G} {cI cZ cH cR : ClassId} {N : Nat} {ad : Nat → Nat} {EE : fw_M → Nat → va_E} {o : Nat} {M : fw_M} {x1 : Int32} {z : (Int32 × fw_M)} (C : fw_C p s m args meth c cX8_image RX8 wsX8_image 2 (some .int) D vwCl (fw_tys cI cZ cH cR) N ad fw_nw0) (ho : o_Door EE ad N cI cZ cH cR o) (h : P_Door_image_b0 o M x1 = some z) : fw_J p l e (headSpec wsX8_image rm_Door_image).room s m args below meth c D vwCl N ad EE 2 0 0 (fw_E below args s D vwCl N ad EE (some (.int z.1)) z.2) M [(0, .ref (ad o)), (1, .int x1)] 0 [] := by
  unfold P_Door_image_b0 at h
  refine fw_iload_n (pc := 0) C 1 dX8_image_0 rfl rfl ?_
  refine fw_iconst (pc := 1) C (v := 0) dX8_image_1 fk_iconst_0 ?_
  refine fw_iconst (pc := 2) C (v := 1) dX8_image_2 fk_iconst_1 ?_
  obtain ⟨v1, hv1, h⟩ := fw_bind h
  refine fw_callS1 (pc := 3) C (rest := []) (c_Door_within  hv1) (va_cwS 3 C.2.2.2.2.1 gX8_image_X8_within rfl rfl rfl hd_Door_within.2 ⟨Nat.le_of_ble_eq_true rfl, Nat.le_of_ble_eq_true rfl⟩) rfl ⟨Nat.zero_le _, Nat.zero_le _⟩ rfl (Nat.le_of_ble_eq_true rfl) dX8_image_3 ?_
  refine fw_if_ne (pc := 6) C (tgt := 12) dX8_image_6 (by decide) (fun c2 => ?_) (fun c2 => ?_)
  · have h := fw_iff h c2
    refine fw_aload_n (pc := 12) C 0 dX8_image_12 rfl rfl ?_
    refine fw_getr (pc := 13) C ho.2.2.2.1.1 rfl qX8_image_25 dX8_image_13 ?_
    refine fw_geti (pc := 16) C ho.2.2.2.1.2.2.2.2.1 rfl qX8_image_139 dX8_image_16 ?_
    refine fw_if_ne (pc := 19) C (tgt := 25) dX8_image_19 (by decide) (fun c3 => ?_) (fun c3 => ?_)
    · have h := fw_iff h c3
      refine fw_aload_n (pc := 25) C 0 dX8_image_25 rfl rfl ?_
      refine fw_getr (pc := 26) C ho.2.2.2.2.2.1.1 rfl qX8_image_36 dX8_image_26 ?_
      refine fw_iload_n (pc := 29) C 1 dX8_image_29 rfl rfl ?_
      obtain ⟨i4, hi4, h⟩ := fw_bind h
      refine fw_aald (pc := 30) C 2 ho.2.2.2.2.2.1.2.1 rfl hi4 dX8_image_30 ?_
      refine fw_aload_n (pc := 31) C 0 dX8_image_31 rfl rfl ?_
      refine fw_getr (pc := 32) C ho.2.2.2.1.1 rfl qX8_image_25 dX8_image_32 ?_
      obtain ⟨q5, hq5, h⟩ := fw_bind h
      refine fw_callV0 (pc := 35) C (rest := []) (c_Hall_become (ho.2.2.2.2.2.1.2.2 i4 (fw_aixlt hi4)) ho.2.2.2.1.2 hq5) (cwV 1 C.2.2.2.2.1 gX8_image_X3_become rfl rfl rfl hd_Hall_become ⟨Nat.le_of_ble_eq_true rfl, Nat.le_of_ble_eq_true rfl⟩) (ho.2.2.2.2.2.1.2.2 i4 (fw_aixlt hi4)).1 rfl rfl ⟨Nat.zero_le _, Nat.zero_le _⟩ rfl (Nat.le_of_ble_eq_true rfl) dX8_image_35 ?_
      refine fw_iconst (pc := 38) C (v := 1) dX8_image_38 fk_iconst_1 ?_
      exact fw_iret (pc := 39) C (fw_p1 h) (fw_p2 h) dX8_image_39
    · have h := fw_ift h c3
      refine fw_ldc (pc := 22) C (v := -1000002) kX8_image_145 dX8_image_22 ?_
      exact fw_iret (pc := 24) C (fw_p1 h) (fw_p2 h) dX8_image_24
  · have h := fw_ift h c2
    refine fw_ldc (pc := 9) C (v := -1000001) kX8_image_70 dX8_image_9 ?_
    exact fw_iret (pc := 11) C (fw_p1 h) (fw_p2 h) dX8_image_11
theorem c_Door_image {l : Launch} {D : va_G} {cI cZ cH cR : ClassId} {N : Nat} {ad : Nat → Nat} {EE : fw_M → Nat → va_E} {o : Nat} {M : fw_M} {a0 : Int32} {z : (Int32 × fw_M)} (ho : o_Door EE ad N cI cZ cH cR o) (h : P_Door_image o M a0 = some z) : fw_Met l yX8_image wsX8_image rm_Door_image D vwCl (fw_tys cI cZ cH cR) N ad fw_nw0 EE [.ref (ad o), .int a0] M (some (.int z.1)) z.2 := by
  unfold P_Door_image at h
  exact fw_intro (cc := cX8_image) (maxL := 2) (ret := some .int) (own := RX8) (by decide) rfl rfl (Nat.le_of_ble_eq_true rfl) (fun p e s m args below meth c C => fw_sub [0, 1] rfl (c_Door_image_b0 C ho h))
abbrev rm_Door_restore : Room := { frames := 2, cells := 0, slots := 0, locals := 69 }
theorem hd_Door_restore : yX8_restore.cls = RX8 ∧ yX8_restore.cls ≠ "java/lang/invoke/MethodHandle" ∧ yX8_restore.cls ≠ "java/lang/invoke/VarHandle" ∧ (parseMethodDescriptor yX8_restore.desc).map (fun d => d.parameters.length) = some 1 := by decide +kernel
theorem kX8_restore_70 : Cond.constant RX8 70 (-1000001) ∈ wsX8_restore := by decide +kernel
theorem qX8_restore_36 : fw_G wsX8_restore RX8 36 RX8 TX8 9 4 := ⟨by decide +kernel, by decide +kernel, by decide⟩
theorem qX8_restore_139 : fw_G wsX8_restore RX8 139 RX3 TX3 9 2 := ⟨by decide +kernel, by decide +kernel, by decide⟩
theorem kX8_restore_145 : Cond.constant RX8 145 (-1000002) ∈ wsX8_restore := by decide +kernel
theorem qX8_restore_25 : fw_G wsX8_restore RX8 25 RX8 TX8 9 2 := ⟨by decide +kernel, by decide +kernel, by decide⟩
theorem qX8_restore_32 : fw_G wsX8_restore RX8 32 RX8 TX8 9 3 := ⟨by decide +kernel, by decide +kernel, by decide⟩
def P_Door_restore_b0 (o : Nat) (M : fw_M) (x1 : Int32) : Option (Int32 × fw_M) := (P_Door_within M x1 (0 : Int32) (1 : Int32)).bind fun v1 => (if v1 = (0 : Int32) then some ((-1000001 : Int32), M) else (fw_aix 2 x1).bind fun i3 => (if (M (o + 187 + 6 * i3) 2) = (0 : Int32) then some ((-1000002 : Int32), M) else (fw_aix 2 x1).bind fun i5 => (P_Hall_become (o + 4) (o + 187 + 6 * i5) M).bind fun q6 => (P_Acts_forget (o + 10) q6).bind fun q7 => some ((1 : Int32), q7)))
def P_Door_restore (o : Nat) (M : fw_M) (a0 : Int32) : Option (Int32 × fw_M) := P_Door_restore_b0 o M a0
set_option maxRecDepth 100000 in
theorem c_Door_restore_b0 {p : Program} {l : Launch} {e : Env} {s : State} {m : MethodId} {args : Array Value} {below : List Frame} {meth : Method} {c : Code} {D : va_G} {cI cZ cH cR : ClassId} {N : Nat} {ad : Nat → Nat} {EE : fw_M → Nat → va_E} {o : Nat} {M : fw_M} {x1 : Int32} {z : (Int32 × fw_M)} (C : fw_C p s m args meth c cX8_restore RX8 wsX8_restore 2 (some .int) D vwCl (fw_tys cI cZ cH cR) N ad fw_nw0) (ho : o_Door EE ad N cI cZ cH cR o) (h : P_Door_restore_b0 o M x1 = some z) : fw_J p l e (headSpec wsX8_restore rm_Door_restore).room s m args below meth c D vwCl N ad EE 2 0 0 (fw_E below args s D vwCl N ad EE (some (.int z.1)) z.2) M [(0, .ref (ad o)), (1, .int x1)] 0 [] := by
  unfold P_Door_restore_b0 at h
  refine fw_iload_n (pc := 0) C 1 dX8_restore_0 rfl rfl ?_
  refine fw_iconst (pc := 1) C (v := 0) dX8_restore_1 fk_iconst_0 ?_
  refine fw_iconst (pc := 2) C (v := 1) dX8_restore_2 fk_iconst_1 ?_
  obtain ⟨v1, hv1, h⟩ := fw_bind h
  refine fw_callS1 (pc := 3) C (rest := []) (c_Door_within  hv1) (va_cwS 3 C.2.2.2.2.1 gX8_restore_X8_within rfl rfl rfl hd_Door_within.2 ⟨Nat.le_of_ble_eq_true rfl, Nat.le_of_ble_eq_true rfl⟩) rfl ⟨Nat.zero_le _, Nat.zero_le _⟩ rfl (Nat.le_of_ble_eq_true rfl) dX8_restore_3 ?_
  refine fw_if_ne (pc := 6) C (tgt := 12) dX8_restore_6 (by decide) (fun c2 => ?_) (fun c2 => ?_)
  · have h := fw_iff h c2
    refine fw_aload_n (pc := 12) C 0 dX8_restore_12 rfl rfl ?_
    refine fw_getr (pc := 13) C ho.2.2.2.2.2.1.1 rfl qX8_restore_36 dX8_restore_13 ?_
    refine fw_iload_n (pc := 16) C 1 dX8_restore_16 rfl rfl ?_
    obtain ⟨i3, hi3, h⟩ := fw_bind h
    refine fw_aald (pc := 17) C 2 ho.2.2.2.2.2.1.2.1 rfl hi3 dX8_restore_17 ?_
    refine fw_geti (pc := 18) C (ho.2.2.2.2.2.1.2.2 i3 (fw_aixlt hi3)).2.2.2.1 rfl qX8_restore_139 dX8_restore_18 ?_
    refine fw_if_ne (pc := 21) C (tgt := 27) dX8_restore_21 (by decide) (fun c4 => ?_) (fun c4 => ?_)
    · have h := fw_iff h c4
      refine fw_aload_n (pc := 27) C 0 dX8_restore_27 rfl rfl ?_
      refine fw_getr (pc := 28) C ho.2.2.2.1.1 rfl qX8_restore_25 dX8_restore_28 ?_
      refine fw_aload_n (pc := 31) C 0 dX8_restore_31 rfl rfl ?_
      refine fw_getr (pc := 32) C ho.2.2.2.2.2.1.1 rfl qX8_restore_36 dX8_restore_32 ?_
      refine fw_iload_n (pc := 35) C 1 dX8_restore_35 rfl rfl ?_
      obtain ⟨i5, hi5, h⟩ := fw_bind h
      refine fw_aald (pc := 36) C 2 ho.2.2.2.2.2.1.2.1 rfl hi5 dX8_restore_36 ?_
      obtain ⟨q6, hq6, h⟩ := fw_bind h
      refine fw_callV0 (pc := 37) C (rest := []) (c_Hall_become ho.2.2.2.1.2 (ho.2.2.2.2.2.1.2.2 i5 (fw_aixlt hi5)) hq6) (cwV 1 C.2.2.2.2.1 gX8_restore_X3_become rfl rfl rfl hd_Hall_become ⟨Nat.le_of_ble_eq_true rfl, Nat.le_of_ble_eq_true rfl⟩) ho.2.2.2.1.2.1 rfl rfl ⟨Nat.zero_le _, Nat.zero_le _⟩ rfl (Nat.le_of_ble_eq_true rfl) dX8_restore_37 ?_
      refine fw_aload_n (pc := 40) C 0 dX8_restore_40 rfl rfl ?_
      refine fw_getr (pc := 41) C ho.2.2.2.2.1.1 rfl qX8_restore_32 dX8_restore_41 ?_
      obtain ⟨q7, hq7, h⟩ := fw_bind h
      refine fw_callV0 (pc := 44) C (rest := []) (c_Acts_forget ho.2.2.2.2.1.2 hq7) (cwV 0 C.2.2.2.2.1 gX8_restore_X0_forget rfl rfl rfl hd_Acts_forget ⟨Nat.le_of_ble_eq_true rfl, Nat.le_of_ble_eq_true rfl⟩) ho.2.2.2.2.1.2.1 rfl rfl ⟨Nat.zero_le _, Nat.zero_le _⟩ rfl (Nat.le_of_ble_eq_true rfl) dX8_restore_44 ?_
      refine fw_iconst (pc := 47) C (v := 1) dX8_restore_47 fk_iconst_1 ?_
      exact fw_iret (pc := 48) C (fw_p1 h) (fw_p2 h) dX8_restore_48
    · have h := fw_ift h c4
      refine fw_ldc (pc := 24) C (v := -1000002) kX8_restore_145 dX8_restore_24 ?_
      exact fw_iret (pc := 26) C (fw_p1 h) (fw_p2 h) dX8_restore_26
  · have h := fw_ift h c2
    refine fw_ldc (pc := 9) C (v := -1000001) kX8_restore_70 dX8_restore_9 ?_
    exact fw_iret (pc := 11) C (fw_p1 h) (fw_p2 h) dX8_restore_11
theorem c_Door_restore {l : Launch} {D : va_G} {cI cZ cH cR : ClassId} {N : Nat} {ad : Nat → Nat} {EE : fw_M → Nat → va_E} {o : Nat} {M : fw_M} {a0 : Int32} {z : (Int32 × fw_M)} (ho : o_Door EE ad N cI cZ cH cR o) (h : P_Door_restore o M a0 = some z) : fw_Met l yX8_restore wsX8_restore rm_Door_restore D vwCl (fw_tys cI cZ cH cR) N ad fw_nw0 EE [.ref (ad o), .int a0] M (some (.int z.1)) z.2 := by
  unfold P_Door_restore at h
  exact fw_intro (cc := cX8_restore) (maxL := 2) (ret := some .int) (own := RX8) (by decide) rfl rfl (Nat.le_of_ble_eq_true rfl) (fun p e s m args below meth c C => fw_sub [0, 1] rfl (c_Door_restore_b0 C ho h))
abbrev rm_Door_kind : Room := { frames := 2, cells := 0, slots := 0, locals := 43 }
theorem hd_Door_kind : yX8_kind.cls = RX8 ∧ yX8_kind.cls ≠ "java/lang/invoke/MethodHandle" ∧ yX8_kind.cls ≠ "java/lang/invoke/VarHandle" ∧ (parseMethodDescriptor yX8_kind.desc).map (fun d => d.parameters.length) = some 1 := by decide +kernel
theorem qX8_kind_25 : fw_G wsX8_kind RX8 25 RX8 TX8 9 2 := ⟨by decide +kernel, by decide +kernel, by decide⟩
theorem qX8_kind_298 : fw_G wsX8_kind RX8 298 RX3 TX3 9 4 := ⟨by decide +kernel, by decide +kernel, by decide⟩
theorem kX8_kind_70 : Cond.constant RX8 70 (-1000001) ∈ wsX8_kind := by decide +kernel
def P_Door_kind_b22 (o : Nat) (M : fw_M) (t0 : Int32) : Option Int32 := some t0
def P_Door_kind_b0 (o : Nat) (M : fw_M) (x1 : Int32) : Option Int32 := (P_Door_isPerson o M x1).bind fun v1 => (if v1 = (0 : Int32) then P_Door_kind_b22 o M (-1000001 : Int32) else (fw_ald M ((o + 4) + 1) 7 x1).bind fun v3 => P_Door_kind_b22 o M v3)
def P_Door_kind (o : Nat) (M : fw_M) (a0 : Int32) : Option Int32 := P_Door_kind_b0 o M a0
set_option maxRecDepth 100000 in
theorem c_Door_kind_b22 {p : Program} {l : Launch} {e : Env} {s : State} {m : MethodId} {args : Array Value} {below : List Frame} {meth : Method} {c : Code} {D : va_G} {cI cZ cH cR : ClassId} {N : Nat} {ad : Nat → Nat} {EE : fw_M → Nat → va_E} {o : Nat} {M : fw_M} {t0 : Int32} {z : Int32} (C : fw_C p s m args meth c cX8_kind RX8 wsX8_kind 2 (some .int) D vwCl (fw_tys cI cZ cH cR) N ad fw_nw0) (ho : o_Door EE ad N cI cZ cH cR o) (h : P_Door_kind_b22 o M t0 = some z) : fw_J p l e (headSpec wsX8_kind rm_Door_kind).room s m args below meth c D vwCl N ad EE 2 0 0 (fw_E below args s D vwCl N ad EE (some (.int z)) M) M [] 22 [.int t0] := by
  unfold P_Door_kind_b22 at h
  exact fw_iret (pc := 22) C (Option.some.inj h) rfl dX8_kind_22
set_option maxRecDepth 100000 in
theorem c_Door_kind_b0 {p : Program} {l : Launch} {e : Env} {s : State} {m : MethodId} {args : Array Value} {below : List Frame} {meth : Method} {c : Code} {D : va_G} {cI cZ cH cR : ClassId} {N : Nat} {ad : Nat → Nat} {EE : fw_M → Nat → va_E} {o : Nat} {M : fw_M} {x1 : Int32} {z : Int32} (C : fw_C p s m args meth c cX8_kind RX8 wsX8_kind 2 (some .int) D vwCl (fw_tys cI cZ cH cR) N ad fw_nw0) (ho : o_Door EE ad N cI cZ cH cR o) (h : P_Door_kind_b0 o M x1 = some z) : fw_J p l e (headSpec wsX8_kind rm_Door_kind).room s m args below meth c D vwCl N ad EE 2 0 0 (fw_E below args s D vwCl N ad EE (some (.int z)) M) M [(0, .ref (ad o)), (1, .int x1)] 0 [] := by
  unfold P_Door_kind_b0 at h
  refine fw_aload_n (pc := 0) C 0 dX8_kind_0 rfl rfl ?_
  refine fw_iload_n (pc := 1) C 1 dX8_kind_1 rfl rfl ?_
  obtain ⟨v1, hv1, h⟩ := fw_bind h
  refine fw_callV1 (pc := 2) C (rest := []) (c_Door_isPerson ho hv1) (cwV 1 C.2.2.2.2.1 gX8_kind_X8_isPerson rfl rfl rfl hd_Door_isPerson ⟨Nat.le_of_ble_eq_true rfl, Nat.le_of_ble_eq_true rfl⟩) ho.1 rfl rfl ⟨Nat.zero_le _, Nat.zero_le _⟩ rfl (Nat.le_of_ble_eq_true rfl) dX8_kind_2 ?_
  refine fw_if_eq (pc := 5) C (tgt := 20) dX8_kind_5 (by decide) (fun c2 => ?_) (fun c2 => ?_)
  · have h := fw_ift h c2
    refine fw_ldc (pc := 20) C (v := -1000001) kX8_kind_70 dX8_kind_20 ?_
    exact fw_sub [] rfl (c_Door_kind_b22 C ho h)
  · have h := fw_iff h c2
    refine fw_aload_n (pc := 8) C 0 dX8_kind_8 rfl rfl ?_
    refine fw_getr (pc := 9) C ho.2.2.2.1.1 rfl qX8_kind_25 dX8_kind_9 ?_
    refine fw_getr (pc := 12) C ho.2.2.2.1.2.2.2.2.2.2.1.1 rfl qX8_kind_298 dX8_kind_12 ?_
    refine fw_iload_n (pc := 15) C 1 dX8_kind_15 rfl rfl ?_
    obtain ⟨v3, hv3, h⟩ := fw_bind h
    refine fw_iald (pc := 16) C 0 ho.2.2.2.1.2.2.2.2.2.2.1.2 rfl hv3 dX8_kind_16 ?_
    refine fw_goto (pc := 17) C (tgt := 22) dX8_kind_17 (by decide) ?_
    exact fw_sub [] rfl (c_Door_kind_b22 C ho h)
theorem c_Door_kind {l : Launch} {D : va_G} {cI cZ cH cR : ClassId} {N : Nat} {ad : Nat → Nat} {EE : fw_M → Nat → va_E} {o : Nat} {M : fw_M} {a0 : Int32} {z : Int32} (ho : o_Door EE ad N cI cZ cH cR o) (h : P_Door_kind o M a0 = some z) : fw_Met l yX8_kind wsX8_kind rm_Door_kind D vwCl (fw_tys cI cZ cH cR) N ad fw_nw0 EE [.ref (ad o), .int a0] M (some (.int z)) M := by
  unfold P_Door_kind at h
  exact fw_intro (cc := cX8_kind) (maxL := 2) (ret := some .int) (own := RX8) (by decide) rfl rfl (Nat.le_of_ble_eq_true rfl) (fun p e s m args below meth c C => fw_sub [0, 1] rfl (c_Door_kind_b0 C ho h))
end
