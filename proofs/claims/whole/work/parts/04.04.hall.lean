noncomputable section
abbrev rm_Hall_pass : Room := { frames := 2, cells := 0, slots := 0, locals := 46 }
theorem hd_Hall_pass : yX3_pass.cls = RX3 ∧ yX3_pass.cls ≠ "java/lang/invoke/MethodHandle" ∧ yX3_pass.cls ≠ "java/lang/invoke/VarHandle" ∧ (parseMethodDescriptor yX3_pass.desc).map (fun d => d.parameters.length) = some 1 := by decide +kernel
theorem qX3_pass_9 : fw_G wsX3_pass RX3 9 RX3 TX3 9 0 := ⟨by decide +kernel, by decide +kernel, by decide⟩
theorem qX3_pass_34 : fw_G wsX3_pass RX3 34 RX3 TX3 9 7 := ⟨by decide +kernel, by decide +kernel, by decide⟩
theorem qX3_pass_37 : fw_G wsX3_pass RX3 37 RX3 TX3 9 8 := ⟨by decide +kernel, by decide +kernel, by decide⟩
theorem qX3_pass_18 : fw_G wsX3_pass RX3 18 RX3 TX3 9 2 := ⟨by decide +kernel, by decide +kernel, by decide⟩
theorem kmX3_pass_67 : Cond.methodLink RX3 67 Lib.Math.max.name ∈ wsX3_pass ∧ Cond.static Lib.Math.max.name ∈ wsX3_pass ∧ Cond.initialized "java/lang/Math" ∈ wsX3_pass ∧ Cond.code Lib.Math.max.name Lib.Math.max.code 2 (some .int) ∈ wsX3_pass := by decide +kernel
theorem qX3_pass_21 : fw_G wsX3_pass RX3 21 RX3 TX3 9 3 := ⟨by decide +kernel, by decide +kernel, by decide⟩
def P_Hall_pass_b66 (o : Nat) (r0 : Nat) (K66 : fw_M → Int32 → Int32 → Option (Int32 × fw_M)) (M : fw_M) (x3 : Int32) (x4 : Int32) : Option (Int32 × fw_M) := (if (M o 2) ≤ x4 then fw_pl (fw_set M o 3 ((M o 3) + (1 : Int32))) fun M2 => some (x3, M2) else (fw_ald M (o + 5) 7 x4).bind fun v3 => (fw_ast M (o + 5) 7 x4 (if (0 : Int32) < (v3 - (1 : Int32)) then (v3 - (1 : Int32)) else (0 : Int32))).bind fun M4 => K66 M4 x3 (x4 + (1 : Int32)))
def P_Hall_pass_h66 (o : Nat) (r0 : Nat) : Nat → fw_M → Int32 → Int32 → Option (Int32 × fw_M)
  | 0, _, _, _ => none
  | n + 1, M, x3, x4 => P_Hall_pass_b66 o r0 (P_Hall_pass_h66 o r0 n) M x3 x4
def P_Hall_pass_b57 (o : Nat) (r0 : Nat) (K10 : fw_M → Int32 → Int32 → Int32 → Option (Int32 × fw_M)) (M : fw_M) (x2 : Int32) (x3 : Int32) (x4 : Int32) : Option (Int32 × fw_M) := K10 M x2 x3 (x4 + (1 : Int32))
def P_Hall_pass_b10 (o : Nat) (r0 : Nat) (K10 : fw_M → Int32 → Int32 → Int32 → Option (Int32 × fw_M)) (M : fw_M) (x2 : Int32) (x3 : Int32) (x4 : Int32) : Option (Int32 × fw_M) := (if (M o 0) ≤ x4 then P_Hall_pass_h66 o r0 fw_fu M x3 (0 : Int32) else (P_Hall_waitingAt o M x4).bind fun v2 => (P_Law_first r0 M v2 x2).bind fun v3 => (if v3 = (-1 : Int32) then P_Hall_pass_b57 o r0 K10 M x2 x3 x4 else (fw_ast M (o + 4) 7 v3 (-1 : Int32)).bind fun M5 => (fw_ast M5 (o + 5) 7 v3 (0 : Int32)).bind fun M6 => P_Hall_pass_b57 o r0 K10 M6 x2 (x3 + (1 : Int32)) x4))
def P_Hall_pass_h10 (o : Nat) (r0 : Nat) : Nat → fw_M → Int32 → Int32 → Int32 → Option (Int32 × fw_M)
  | 0, _, _, _, _ => none
  | n + 1, M, x2, x3, x4 => P_Hall_pass_b10 o r0 (P_Hall_pass_h10 o r0 n) M x2 x3 x4
def P_Hall_pass_b0 (o : Nat) (r0 : Nat) (M : fw_M) : Option (Int32 × fw_M) := (P_Hall_nobodies o M).bind fun v1 => P_Hall_pass_h10 o r0 fw_fu M v1 (0 : Int32) (0 : Int32)
def P_Hall_pass (o : Nat) (r0 : Nat) (M : fw_M) : Option (Int32 × fw_M) := P_Hall_pass_b0 o r0 M
set_option maxRecDepth 100000 in
theorem c_Hall_pass_b66 {p : Program} {l : Launch} {e : Env} {s : State} {m : MethodId} {args : Array Value} {below : List Frame} {meth : Method} {c : Code} {D : va_G} {cI cZ cH cR : ClassId} {N : Nat} {ad : Nat → Nat} {EE : fw_M → Nat → va_E} {o : Nat} {r0 : Nat} {K66 : fw_M → Int32 → Int32 → Option (Int32 × fw_M)} {M : fw_M} {x3 : Int32} {x4 : Int32} {z : (Int32 × fw_M)} (C : fw_C p s m args meth c cX3_pass RX3 wsX3_pass 6 (some .int) D vwCl (fw_tys cI cZ cH cR) N ad fw_nw0) (ho : o_Hall EE ad N cI cZ cH cR o) (hr0 : o_Law EE ad N cI cZ cH cR r0) (hK66 : ∀ (Mk : fw_M) (kx3 : Int32) (kx4 : Int32), K66 Mk kx3 kx4 = some z → fw_J p l e (headSpec wsX3_pass rm_Hall_pass).room s m args below meth c D vwCl N ad EE 6 0 0 (fw_E below args s D vwCl N ad EE (some (.int z.1)) z.2) Mk [(0, .ref (ad o)), (3, .int kx3), (4, .int kx4)] 66 []) (h : P_Hall_pass_b66 o r0 K66 M x3 x4 = some z) : fw_J p l e (headSpec wsX3_pass rm_Hall_pass).room s m args below meth c D vwCl N ad EE 6 0 0 (fw_E below args s D vwCl N ad EE (some (.int z.1)) z.2) M [(0, .ref (ad o)), (3, .int x3), (4, .int x4)] 66 [] := by
  unfold P_Hall_pass_b66 at h
  refine fw_iload (pc := 66) C 2 dX3_pass_66 rfl ?_
  refine fw_aload_n (pc := 68) C 0 dX3_pass_68 rfl rfl ?_
  refine fw_geti (pc := 69) C ho.2.2.2.1 rfl qX3_pass_18 dX3_pass_69 ?_
  refine fw_icmp_ge (pc := 72) C (tgt := 101) dX3_pass_72 (by decide) (fun c1 => ?_) (fun c1 => ?_)
  · have h := fw_ift h c1
    refine fw_aload_n (pc := 101) C 0 dX3_pass_101 rfl rfl ?_
    refine fw_dup (pc := 102) C dX3_pass_102 rfl ?_
    refine fw_geti (pc := 103) C ho.2.2.2.2.1 rfl qX3_pass_21 dX3_pass_103 ?_
    refine fw_iconst (pc := 106) C (v := 1) dX3_pass_106 fk_iconst_1 ?_
    refine fw_iadd (pc := 107) C dX3_pass_107 ?_
    have h := fw_plh h
    refine fw_puti (pc := 108) C ho.2.2.2.2.1 rfl qX3_pass_21 tyX3 tyX3_ok nmX3 rfl rfl dX3_pass_108 ?_
    refine fw_iload_n (pc := 111) C 1 dX3_pass_111 rfl rfl ?_
    exact fw_iret (pc := 112) C (fw_p1 h) (fw_p2 h) dX3_pass_112
  · have h := fw_iff h c1
    refine fw_aload_n (pc := 75) C 0 dX3_pass_75 rfl rfl ?_
    refine fw_getr (pc := 76) C ho.2.2.2.2.2.2.2.2.2.1 rfl qX3_pass_37 dX3_pass_76 ?_
    refine fw_iload (pc := 79) C 2 dX3_pass_79 rfl ?_
    refine fw_iconst (pc := 81) C (v := 0) dX3_pass_81 fk_iconst_0 ?_
    refine fw_aload_n (pc := 82) C 0 dX3_pass_82 rfl rfl ?_
    refine fw_getr (pc := 83) C ho.2.2.2.2.2.2.2.2.2.1 rfl qX3_pass_37 dX3_pass_83 ?_
    refine fw_iload (pc := 86) C 2 dX3_pass_86 rfl ?_
    obtain ⟨v3, hv3, h⟩ := fw_bind h
    refine fw_iald (pc := 88) C 0 ho.2.2.2.2.2.2.2.2.2.2 rfl hv3 dX3_pass_88 ?_
    refine fw_iconst (pc := 89) C (v := 1) dX3_pass_89 fk_iconst_1 ?_
    refine fw_isub (pc := 90) C dX3_pass_90 ?_
    refine fw_mmax (pc := 91) C kmX3_pass_67 ⟨Nat.zero_le _, Nat.zero_le _⟩ (Nat.le_of_ble_eq_true rfl) (Nat.le_of_ble_eq_true rfl) dX3_pass_91 ?_
    obtain ⟨M4, hM4, h⟩ := fw_bind h
    refine fw_iast (pc := 94) C 0 ho.2.2.2.2.2.2.2.2.2.2 rfl hM4 dX3_pass_94 ?_
    refine fw_iinc (pc := 95) C (v := 1) (L2 := [(0, .ref _), (3, .int _), (4, .int _)]) 2 [1, 2, 0] dX3_pass_95 rfl fk_iconst_1 (by decide) rfl ?_
    refine fw_goto (pc := 98) C (tgt := 66) dX3_pass_98 (by decide) ?_
    exact (hK66 _ _ _ h)
theorem c_Hall_pass_h66 {p : Program} {l : Launch} {e : Env} {s : State} {m : MethodId} {args : Array Value} {below : List Frame} {meth : Method} {c : Code} {D : va_G} {cI cZ cH cR : ClassId} {N : Nat} {ad : Nat → Nat} {EE : fw_M → Nat → va_E} {o : Nat} {r0 : Nat} {z : (Int32 × fw_M)} (C : fw_C p s m args meth c cX3_pass RX3 wsX3_pass 6 (some .int) D vwCl (fw_tys cI cZ cH cR) N ad fw_nw0) (ho : o_Hall EE ad N cI cZ cH cR o) (hr0 : o_Law EE ad N cI cZ cH cR r0) : ∀ (n : Nat) (M : fw_M) (x3 : Int32) (x4 : Int32), P_Hall_pass_h66 o r0 n M x3 x4 = some z → fw_J p l e (headSpec wsX3_pass rm_Hall_pass).room s m args below meth c D vwCl N ad EE 6 0 0 (fw_E below args s D vwCl N ad EE (some (.int z.1)) z.2) M [(0, .ref (ad o)), (3, .int x3), (4, .int x4)] 66 [] := by
  intro n
  induction n with
  | zero => intro M x3 x4  h; cases h
  | succ n ih => intro M x3 x4  h; exact c_Hall_pass_b66 C ho hr0 ih  h
set_option maxRecDepth 100000 in
theorem c_Hall_pass_b57 {p : Program} {l : Launch} {e : Env} {s : State} {m : MethodId} {args : Array Value} {below : List Frame} {meth : Method} {c : Code} {D : va_G} {cI cZ cH cR : ClassId} {N : Nat} {ad : Nat → Nat} {EE : fw_M → Nat → va_E} {o : Nat} {r0 : Nat} {K10 : fw_M → Int32 → Int32 → Int32 → Option (Int32 × fw_M)} {M : fw_M} {x2 : Int32} {x3 : Int32} {x4 : Int32} {z : (Int32 × fw_M)} (C : fw_C p s m args meth c cX3_pass RX3 wsX3_pass 6 (some .int) D vwCl (fw_tys cI cZ cH cR) N ad fw_nw0) (ho : o_Hall EE ad N cI cZ cH cR o) (hr0 : o_Law EE ad N cI cZ cH cR r0) (hK10 : ∀ (Mk : fw_M) (kx2 : Int32) (kx3 : Int32) (kx4 : Int32), K10 Mk kx2 kx3 kx4 = some z → fw_J p l e (headSpec wsX3_pass rm_Hall_pass).room s m args below meth c D vwCl N ad EE 6 0 0 (fw_E below args s D vwCl N ad EE (some (.int z.1)) z.2) Mk [(0, .ref (ad o)), (1, .ref (ad r0)), (2, .int kx2), (3, .int kx3), (4, .int kx4)] 10 []) (h : P_Hall_pass_b57 o r0 K10 M x2 x3 x4 = some z) : fw_J p l e (headSpec wsX3_pass rm_Hall_pass).room s m args below meth c D vwCl N ad EE 6 0 0 (fw_E below args s D vwCl N ad EE (some (.int z.1)) z.2) M [(0, .ref (ad o)), (1, .ref (ad r0)), (2, .int x2), (3, .int x3), (4, .int x4)] 57 [] := by
  unfold P_Hall_pass_b57 at h
  refine fw_iinc (pc := 57) C (v := 1) (L2 := [(0, .ref _), (1, .ref _), (2, .int _), (3, .int _), (4, .int _)]) 4 [1, 2, 3, 4, 0] dX3_pass_57 rfl fk_iconst_1 (by decide) rfl ?_
  refine fw_goto (pc := 60) C (tgt := 10) dX3_pass_60 (by decide) ?_
  exact (hK10 _ _ _ _ h)
set_option maxRecDepth 100000 in
theorem c_Hall_pass_b10 {p : Program} {l : Launch} {e : Env} {s : State} {m : MethodId} {args : Array Value} {below : List Frame} {meth : Method} {c : Code} {D : va_G} {cI cZ cH cR : ClassId} {N : Nat} {ad : Nat → Nat} {EE : fw_M → Nat → va_E} {o : Nat} {r0 : Nat} {K10 : fw_M → Int32 → Int32 → Int32 → Option (Int32 × fw_M)} {M : fw_M} {x2 : Int32} {x3 : Int32} {x4 : Int32} {z : (Int32 × fw_M)} (C : fw_C p s m args meth c cX3_pass RX3 wsX3_pass 6 (some .int) D vwCl (fw_tys cI cZ cH cR) N ad fw_nw0) (ho : o_Hall EE ad N cI cZ cH cR o) (hr0 : o_Law EE ad N cI cZ cH cR r0) (hK10 : ∀ (Mk : fw_M) (kx2 : Int32) (kx3 : Int32) (kx4 : Int32), K10 Mk kx2 kx3 kx4 = some z → fw_J p l e (headSpec wsX3_pass rm_Hall_pass).room s m args below meth c D vwCl N ad EE 6 0 0 (fw_E below args s D vwCl N ad EE (some (.int z.1)) z.2) Mk [(0, .ref (ad o)), (1, .ref (ad r0)), (2, .int kx2), (3, .int kx3), (4, .int kx4)] 10 []) (h : P_Hall_pass_b10 o r0 K10 M x2 x3 x4 = some z) : fw_J p l e (headSpec wsX3_pass rm_Hall_pass).room s m args below meth c D vwCl N ad EE 6 0 0 (fw_E below args s D vwCl N ad EE (some (.int z.1)) z.2) M [(0, .ref (ad o)), (1, .ref (ad r0)), (2, .int x2), (3, .int x3), (4, .int x4)] 10 [] := by
  unfold P_Hall_pass_b10 at h
  refine fw_iload (pc := 10) C 4 dX3_pass_10 rfl ?_
  refine fw_aload_n (pc := 12) C 0 dX3_pass_12 rfl rfl ?_
  refine fw_geti (pc := 13) C ho.2.1 rfl qX3_pass_9 dX3_pass_13 ?_
  refine fw_icmp_ge (pc := 16) C (tgt := 63) dX3_pass_16 (by decide) (fun c1 => ?_) (fun c1 => ?_)
  · have h := fw_ift h c1
    refine fw_iconst (pc := 63) C (v := 0) dX3_pass_63 fk_iconst_0 ?_
    refine fw_istore (pc := 64) C (L2 := [(0, .ref _), (1, .ref _), (2, .int _), (3, .int _), (4, .int _)]) [1, 2, 3, 4, 0] dX3_pass_64 (by decide) rfl ?_
    exact fw_sub [0, 3, 4] rfl (c_Hall_pass_h66 C ho hr0 _ _ _ _ h)
  · have h := fw_iff h c1
    refine fw_aload_n (pc := 19) C 1 dX3_pass_19 rfl rfl ?_
    refine fw_aload_n (pc := 20) C 0 dX3_pass_20 rfl rfl ?_
    refine fw_iload (pc := 21) C 4 dX3_pass_21 rfl ?_
    obtain ⟨v2, hv2, h⟩ := fw_bind h
    refine fw_callV1 (pc := 23) C (rest := [_]) (c_Hall_waitingAt ho hv2) (cwV 1 C.2.2.2.2.1 gX3_pass_X3_waitingAt rfl rfl rfl hd_Hall_waitingAt ⟨Nat.le_of_ble_eq_true rfl, Nat.le_of_ble_eq_true rfl⟩) ho.1 rfl rfl ⟨Nat.zero_le _, Nat.zero_le _⟩ rfl (Nat.le_of_ble_eq_true rfl) dX3_pass_23 ?_
    refine fw_iload_n (pc := 26) C 2 dX3_pass_26 rfl rfl ?_
    obtain ⟨v3, hv3, h⟩ := fw_bind h
    refine fw_callV1 (pc := 27) C (rest := []) (c_Law_first hr0 hv3) (cwV 2 C.2.2.2.2.1 gX3_pass_X4_first rfl rfl rfl hd_Law_first ⟨Nat.le_of_ble_eq_true rfl, Nat.le_of_ble_eq_true rfl⟩) hr0.1 rfl rfl ⟨Nat.zero_le _, Nat.zero_le _⟩ rfl (Nat.le_of_ble_eq_true rfl) dX3_pass_27 ?_
    refine fw_istore (pc := 30) C (L2 := [(0, .ref _), (1, .ref _), (2, .int _), (3, .int _), (4, .int _), (5, .int _)]) [1, 2, 3, 4, 5, 0] dX3_pass_30 (by decide) rfl ?_
    refine fw_iload (pc := 32) C 5 dX3_pass_32 rfl ?_
    refine fw_iconst (pc := 34) C (v := -1) dX3_pass_34 fk_iconst_m1 ?_
    refine fw_icmp_eq (pc := 35) C (tgt := 57) dX3_pass_35 (by decide) (fun c4 => ?_) (fun c4 => ?_)
    · have h := fw_ift h c4
      exact fw_sub [0, 1, 2, 3, 4] rfl (c_Hall_pass_b57 C ho hr0 hK10 h)
    · have h := fw_iff h c4
      refine fw_aload_n (pc := 38) C 0 dX3_pass_38 rfl rfl ?_
      refine fw_getr (pc := 39) C ho.2.2.2.2.2.2.2.2.1.1 rfl qX3_pass_34 dX3_pass_39 ?_
      refine fw_iload (pc := 42) C 5 dX3_pass_42 rfl ?_
      refine fw_iconst (pc := 44) C (v := -1) dX3_pass_44 fk_iconst_m1 ?_
      obtain ⟨M5, hM5, h⟩ := fw_bind h
      refine fw_iast (pc := 45) C 0 ho.2.2.2.2.2.2.2.2.1.2 rfl hM5 dX3_pass_45 ?_
      refine fw_aload_n (pc := 46) C 0 dX3_pass_46 rfl rfl ?_
      refine fw_getr (pc := 47) C ho.2.2.2.2.2.2.2.2.2.1 rfl qX3_pass_37 dX3_pass_47 ?_
      refine fw_iload (pc := 50) C 5 dX3_pass_50 rfl ?_
      refine fw_iconst (pc := 52) C (v := 0) dX3_pass_52 fk_iconst_0 ?_
      obtain ⟨M6, hM6, h⟩ := fw_bind h
      refine fw_iast (pc := 53) C 0 ho.2.2.2.2.2.2.2.2.2.2 rfl hM6 dX3_pass_53 ?_
      refine fw_iinc (pc := 54) C (v := 1) (L2 := [(0, .ref _), (1, .ref _), (2, .int _), (3, .int _), (4, .int _), (5, .int _)]) 3 [1, 2, 3, 0, 4, 5] dX3_pass_54 rfl fk_iconst_1 (by decide) rfl ?_
      exact fw_sub [0, 1, 2, 3, 4] rfl (c_Hall_pass_b57 C ho hr0 hK10 h)
theorem c_Hall_pass_h10 {p : Program} {l : Launch} {e : Env} {s : State} {m : MethodId} {args : Array Value} {below : List Frame} {meth : Method} {c : Code} {D : va_G} {cI cZ cH cR : ClassId} {N : Nat} {ad : Nat → Nat} {EE : fw_M → Nat → va_E} {o : Nat} {r0 : Nat} {z : (Int32 × fw_M)} (C : fw_C p s m args meth c cX3_pass RX3 wsX3_pass 6 (some .int) D vwCl (fw_tys cI cZ cH cR) N ad fw_nw0) (ho : o_Hall EE ad N cI cZ cH cR o) (hr0 : o_Law EE ad N cI cZ cH cR r0) : ∀ (n : Nat) (M : fw_M) (x2 : Int32) (x3 : Int32) (x4 : Int32), P_Hall_pass_h10 o r0 n M x2 x3 x4 = some z → fw_J p l e (headSpec wsX3_pass rm_Hall_pass).room s m args below meth c D vwCl N ad EE 6 0 0 (fw_E below args s D vwCl N ad EE (some (.int z.1)) z.2) M [(0, .ref (ad o)), (1, .ref (ad r0)), (2, .int x2), (3, .int x3), (4, .int x4)] 10 [] := by
  intro n
  induction n with
  | zero => intro M x2 x3 x4  h; cases h
  | succ n ih => intro M x2 x3 x4  h; exact c_Hall_pass_b10 C ho hr0 ih  h
set_option maxRecDepth 100000 in
theorem c_Hall_pass_b0 {p : Program} {l : Launch} {e : Env} {s : State} {m : MethodId} {args : Array Value} {below : List Frame} {meth : Method} {c : Code} {D : va_G} {cI cZ cH cR : ClassId} {N : Nat} {ad : Nat → Nat} {EE : fw_M → Nat → va_E} {o : Nat} {r0 : Nat} {M : fw_M} {z : (Int32 × fw_M)} (C : fw_C p s m args meth c cX3_pass RX3 wsX3_pass 6 (some .int) D vwCl (fw_tys cI cZ cH cR) N ad fw_nw0) (ho : o_Hall EE ad N cI cZ cH cR o) (hr0 : o_Law EE ad N cI cZ cH cR r0) (h : P_Hall_pass_b0 o r0 M = some z) : fw_J p l e (headSpec wsX3_pass rm_Hall_pass).room s m args below meth c D vwCl N ad EE 6 0 0 (fw_E below args s D vwCl N ad EE (some (.int z.1)) z.2) M [(0, .ref (ad o)), (1, .ref (ad r0))] 0 [] := by
  unfold P_Hall_pass_b0 at h
  refine fw_aload_n (pc := 0) C 0 dX3_pass_0 rfl rfl ?_
  obtain ⟨v1, hv1, h⟩ := fw_bind h
  refine fw_callV1 (pc := 1) C (rest := []) (c_Hall_nobodies ho hv1) (cwV 0 C.2.2.2.2.1 gX3_pass_X3_nobodies rfl rfl rfl hd_Hall_nobodies ⟨Nat.le_of_ble_eq_true rfl, Nat.le_of_ble_eq_true rfl⟩) ho.1 rfl rfl ⟨Nat.zero_le _, Nat.zero_le _⟩ rfl (Nat.le_of_ble_eq_true rfl) dX3_pass_1 ?_
  refine fw_istore_n (pc := 4) C (L2 := [(0, .ref _), (1, .ref _), (2, .int _)]) [1, 2, 0] dX3_pass_4 rfl (by decide) rfl ?_
  refine fw_iconst (pc := 5) C (v := 0) dX3_pass_5 fk_iconst_0 ?_
  refine fw_istore_n (pc := 6) C (L2 := [(0, .ref _), (1, .ref _), (2, .int _), (3, .int _)]) [1, 2, 3, 0] dX3_pass_6 rfl (by decide) rfl ?_
  refine fw_iconst (pc := 7) C (v := 0) dX3_pass_7 fk_iconst_0 ?_
  refine fw_istore (pc := 8) C (L2 := [(0, .ref _), (1, .ref _), (2, .int _), (3, .int _), (4, .int _)]) [1, 2, 3, 4, 0] dX3_pass_8 (by decide) rfl ?_
  exact (c_Hall_pass_h10 C ho hr0 _ _ _ _ _ h)
theorem c_Hall_pass {l : Launch} {D : va_G} {cI cZ cH cR : ClassId} {N : Nat} {ad : Nat → Nat} {EE : fw_M → Nat → va_E} {o : Nat} {r0 : Nat} {M : fw_M} {z : (Int32 × fw_M)} (ho : o_Hall EE ad N cI cZ cH cR o) (hr0 : o_Law EE ad N cI cZ cH cR r0) (h : P_Hall_pass o r0 M = some z) : fw_Met l yX3_pass wsX3_pass rm_Hall_pass D vwCl (fw_tys cI cZ cH cR) N ad fw_nw0 EE [.ref (ad o), .ref (ad r0)] M (some (.int z.1)) z.2 := by
  unfold P_Hall_pass at h
  exact fw_intro (cc := cX3_pass) (maxL := 6) (ret := some .int) (own := RX3) (by decide) rfl rfl (Nat.le_of_ble_eq_true rfl) (fun p e s m args below meth c C => fw_sub [0, 1] rfl (c_Hall_pass_b0 C ho hr0 h))
end
