noncomputable section
abbrev rm_Mod_in : Room := { frames := 0, cells := 0, slots := 0, locals := 0 }
theorem hd_Mod_in : yX9_in.cls = RX9 ∧ yX9_in.cls ≠ "java/lang/invoke/MethodHandle" ∧ yX9_in.cls ≠ "java/lang/invoke/VarHandle" ∧ (parseMethodDescriptor yX9_in.desc).map (fun d => d.parameters.length) = some 3 := by decide +kernel
def P_Mod_in_b18 (M : fw_M) (t0 : Int32) : Option Int32 := (fw_zr t0).bind fun v1 => some v1
def P_Mod_in_b17 (M : fw_M) : Option Int32 := P_Mod_in_b18 M (0 : Int32)
def P_Mod_in_b0 (M : fw_M) (x0 : Int64) (x2 : Int64) (x4 : Int64) : Option Int32 := (if (lg_cmp x0 x2) < (0 : Int32) then P_Mod_in_b17 M else (if (0 : Int32) < (lg_cmp x0 x4) then P_Mod_in_b17 M else P_Mod_in_b18 M (1 : Int32)))
def P_Mod_in (M : fw_M) (a0 : Int64) (a1 : Int64) (a2 : Int64) : Option Int32 := P_Mod_in_b0 M a0 a1 a2
set_option maxRecDepth 100000 in
theorem c_Mod_in_b18 {p : Program} {l : Launch} {e : Env} {s : State} {m : MethodId} {args : Array Value} {below : List Frame} {meth : Method} {c : Code} {D : va_G} {cI cZ cH cR : ClassId} {N : Nat} {ad : Nat → Nat} {EE : fw_M → Nat → va_E} {M : fw_M} {t0 : Int32} {z : Int32} (C : fw_C p s m args meth c cX9_in RX9 wsX9_in 6 (some .boolean) D vwCl (fw_tys cI cZ cH cR) N ad fw_nw0) (h : P_Mod_in_b18 M t0 = some z) : fw_J p l e (headSpec wsX9_in rm_Mod_in).room s m args below meth c D vwCl N ad EE 6 0 0 (fw_E below args s D vwCl N ad EE (some (.int z)) M) M [] 18 [.int t0] := by
  unfold P_Mod_in_b18 at h
  obtain ⟨v1, hv1, h⟩ := fw_bind h
  exact fw_zret (pc := 18) C (fw_zrh hv1).1 ((fw_zrh hv1).2.trans (Option.some.inj h)) rfl dX9_in_18
set_option maxRecDepth 100000 in
theorem c_Mod_in_b17 {p : Program} {l : Launch} {e : Env} {s : State} {m : MethodId} {args : Array Value} {below : List Frame} {meth : Method} {c : Code} {D : va_G} {cI cZ cH cR : ClassId} {N : Nat} {ad : Nat → Nat} {EE : fw_M → Nat → va_E} {M : fw_M} {z : Int32} (C : fw_C p s m args meth c cX9_in RX9 wsX9_in 6 (some .boolean) D vwCl (fw_tys cI cZ cH cR) N ad fw_nw0) (h : P_Mod_in_b17 M = some z) : fw_J p l e (headSpec wsX9_in rm_Mod_in).room s m args below meth c D vwCl N ad EE 6 0 0 (fw_E below args s D vwCl N ad EE (some (.int z)) M) M [] 17 [] := by
  unfold P_Mod_in_b17 at h
  refine fw_iconst (pc := 17) C (v := 0) dX9_in_17 fk_iconst_0 ?_
  exact (c_Mod_in_b18 C  h)
set_option maxRecDepth 100000 in
theorem c_Mod_in_b0 {p : Program} {l : Launch} {e : Env} {s : State} {m : MethodId} {args : Array Value} {below : List Frame} {meth : Method} {c : Code} {D : va_G} {cI cZ cH cR : ClassId} {N : Nat} {ad : Nat → Nat} {EE : fw_M → Nat → va_E} {M : fw_M} {x0 : Int64} {x2 : Int64} {x4 : Int64} {z : Int32} (C : fw_C p s m args meth c cX9_in RX9 wsX9_in 6 (some .boolean) D vwCl (fw_tys cI cZ cH cR) N ad fw_nw0) (h : P_Mod_in_b0 M x0 x2 x4 = some z) : fw_J p l e (headSpec wsX9_in rm_Mod_in).room s m args below meth c D vwCl N ad EE 6 0 0 (fw_E below args s D vwCl N ad EE (some (.int z)) M) M [(0, .long x0), (2, .long x2), (4, .long x4)] 0 [] := by
  unfold P_Mod_in_b0 at h
  refine fw_lload_n (pc := 0) C 0 dX9_in_0 rfl rfl ?_
  refine fw_lload_n (pc := 1) C 1 dX9_in_1 rfl rfl ?_
  refine fw_lcmp (pc := 2) C dX9_in_2 ?_
  refine fw_if_lt (pc := 3) C (tgt := 17) dX9_in_3 (by decide) (fun c1 => ?_) (fun c1 => ?_)
  · have h := fw_ift h c1
    exact fw_sub [] rfl (c_Mod_in_b17 C  h)
  · have h := fw_iff h c1
    refine fw_lload_n (pc := 6) C 0 dX9_in_6 rfl rfl ?_
    refine fw_lload (pc := 7) C 2 dX9_in_7 rfl ?_
    refine fw_lcmp (pc := 9) C dX9_in_9 ?_
    refine fw_if_gt (pc := 10) C (tgt := 17) dX9_in_10 (by decide) (fun c2 => ?_) (fun c2 => ?_)
    · have h := fw_ift h c2
      exact fw_sub [] rfl (c_Mod_in_b17 C  h)
    · have h := fw_iff h c2
      refine fw_iconst (pc := 13) C (v := 1) dX9_in_13 fk_iconst_1 ?_
      refine fw_goto (pc := 14) C (tgt := 18) dX9_in_14 (by decide) ?_
      exact fw_sub [] rfl (c_Mod_in_b18 C  h)
theorem c_Mod_in {l : Launch} {D : va_G} {cI cZ cH cR : ClassId} {N : Nat} {ad : Nat → Nat} {EE : fw_M → Nat → va_E} {M : fw_M} {a0 : Int64} {a1 : Int64} {a2 : Int64} {z : Int32} (h : P_Mod_in M a0 a1 a2 = some z) : fw_Met l yX9_in wsX9_in rm_Mod_in D vwCl (fw_tys cI cZ cH cR) N ad fw_nw0 EE [.long a0, .long a1, .long a2] M (some (.int z)) M := by
  unfold P_Mod_in at h
  exact fw_intro (cc := cX9_in) (maxL := 6) (ret := some .boolean) (own := RX9) (by decide) rfl rfl (Nat.le_of_ble_eq_true rfl) (fun p e s m args below meth c C => fw_sub [0, 1, 2] rfl (c_Mod_in_b0 C  h))
abbrev rm_Mod_finding : Room := { frames := 0, cells := 0, slots := 0, locals := 0 }
theorem hd_Mod_finding : yX9_finding.cls = RX9 ∧ yX9_finding.cls ≠ "java/lang/invoke/MethodHandle" ∧ yX9_finding.cls ≠ "java/lang/invoke/VarHandle" ∧ (parseMethodDescriptor yX9_finding.desc).map (fun d => d.parameters.length) = some 1 := by decide +kernel
theorem qX9_finding_51 : fw_G wsX9_finding RX9 51 RX9 TX9 24 1 := ⟨by decide +kernel, by decide +kernel, by decide⟩
theorem kX9_finding_54 : Cond.constant RX9 54 (-1000010) ∈ wsX9_finding := by decide +kernel
def P_Mod_finding_b0 (o : Nat) (M : fw_M) (x1 : Int32) : Option (Int32 × fw_M) := fw_pl (fw_set M o 1 x1) fun M1 => some (((-1000010 : Int32) - x1), M1)
def P_Mod_finding (o : Nat) (M : fw_M) (a0 : Int32) : Option (Int32 × fw_M) := P_Mod_finding_b0 o M a0
set_option maxRecDepth 100000 in
theorem c_Mod_finding_b0 {p : Program} {l : Launch} {e : Env} {s : State} {m : MethodId} {args : Array Value} {below : List Frame} {meth : Method} {c : Code} {D : va_G} {cI cZ cH cR : ClassId} {N : Nat} {ad : Nat → Nat} {EE : fw_M → Nat → va_E} {o : Nat} {M : fw_M} {x1 : Int32} {z : (Int32 × fw_M)} (C : fw_C p s m args meth c cX9_finding RX9 wsX9_finding 2 (some .int) D vwCl (fw_tys cI cZ cH cR) N ad fw_nw0) (ho : o_Mod EE ad N cI cZ cH cR o) (h : P_Mod_finding_b0 o M x1 = some z) : fw_J p l e (headSpec wsX9_finding rm_Mod_finding).room s m args below meth c D vwCl N ad EE 2 0 0 (fw_E below args s D vwCl N ad EE (some (.int z.1)) z.2) M [(0, .ref (ad o)), (1, .int x1)] 0 [] := by
  unfold P_Mod_finding_b0 at h
  refine fw_aload_n (pc := 0) C 0 dX9_finding_0 rfl rfl ?_
  refine fw_iload_n (pc := 1) C 1 dX9_finding_1 rfl rfl ?_
  have h := fw_plh h
  refine fw_puti (pc := 2) C ho.2.2.1 rfl qX9_finding_51 tyX9 tyX9_ok nmX9 rfl rfl dX9_finding_2 ?_
  refine fw_ldc (pc := 5) C (v := -1000010) kX9_finding_54 dX9_finding_5 ?_
  refine fw_iload_n (pc := 7) C 1 dX9_finding_7 rfl rfl ?_
  refine fw_isub (pc := 8) C dX9_finding_8 ?_
  exact fw_iret (pc := 9) C (fw_p1 h) (fw_p2 h) dX9_finding_9
theorem c_Mod_finding {l : Launch} {D : va_G} {cI cZ cH cR : ClassId} {N : Nat} {ad : Nat → Nat} {EE : fw_M → Nat → va_E} {o : Nat} {M : fw_M} {a0 : Int32} {z : (Int32 × fw_M)} (ho : o_Mod EE ad N cI cZ cH cR o) (h : P_Mod_finding o M a0 = some z) : fw_Met l yX9_finding wsX9_finding rm_Mod_finding D vwCl (fw_tys cI cZ cH cR) N ad fw_nw0 EE [.ref (ad o), .int a0] M (some (.int z.1)) z.2 := by
  unfold P_Mod_finding at h
  exact fw_intro (cc := cX9_finding) (maxL := 2) (ret := some .int) (own := RX9) (by decide) rfl rfl (Nat.le_of_ble_eq_true rfl) (fun p e s m args below meth c C => fw_sub [0, 1] rfl (c_Mod_finding_b0 C ho h))
abbrev rm_Mod_isRow : Room := { frames := 1, cells := 0, slots := 0, locals := 25 }
theorem hd_Mod_isRow : yX9_isRow.cls = RX9 ∧ yX9_isRow.cls ≠ "java/lang/invoke/MethodHandle" ∧ yX9_isRow.cls ≠ "java/lang/invoke/VarHandle" ∧ (parseMethodDescriptor yX9_isRow.desc).map (fun d => d.parameters.length) = some 1 := by decide +kernel
theorem kX9_isRow_55 : Cond.constantLong RX9 55 (7) ∈ wsX9_isRow := by decide +kernel
def P_Mod_isRow_b0 (M : fw_M) (x0 : Int32) : Option Int32 := (P_Mod_in M (Int32.toInt64 x0) (0 : Int64) (7 : Int64)).bind fun v1 => (fw_zr v1).bind fun v2 => some v2
def P_Mod_isRow (M : fw_M) (a0 : Int32) : Option Int32 := P_Mod_isRow_b0 M a0
set_option maxRecDepth 100000 in
theorem c_Mod_isRow_b0 {p : Program} {l : Launch} {e : Env} {s : State} {m : MethodId} {args : Array Value} {below : List Frame} {meth : Method} {c : Code} {D : va_G} {cI cZ cH cR : ClassId} {N : Nat} {ad : Nat → Nat} {EE : fw_M → Nat → va_E} {M : fw_M} {x0 : Int32} {z : Int32} (C : fw_C p s m args meth c cX9_isRow RX9 wsX9_isRow 1 (some .boolean) D vwCl (fw_tys cI cZ cH cR) N ad fw_nw0) (h : P_Mod_isRow_b0 M x0 = some z) : fw_J p l e (headSpec wsX9_isRow rm_Mod_isRow).room s m args below meth c D vwCl N ad EE 1 0 0 (fw_E below args s D vwCl N ad EE (some (.int z)) M) M [(0, .int x0)] 0 [] := by
  unfold P_Mod_isRow_b0 at h
  refine fw_iload_n (pc := 0) C 0 dX9_isRow_0 rfl rfl ?_
  refine fw_i2l (pc := 1) C dX9_isRow_1 ?_
  refine fw_lconst (pc := 2) C (v := 0) dX9_isRow_2 fk_lconst_0 ?_
  refine fw_ldc2 (pc := 3) C (v := 7) kX9_isRow_55 dX9_isRow_3 ?_
  obtain ⟨v1, hv1, h⟩ := fw_bind h
  refine fw_callS1 (pc := 6) C (rest := []) (c_Mod_in  hv1) (va_cwS 3 C.2.2.2.2.1 gX9_isRow_X9_in rfl rfl rfl hd_Mod_in.2 ⟨Nat.le_of_ble_eq_true rfl, Nat.le_of_ble_eq_true rfl⟩) rfl ⟨Nat.zero_le _, Nat.zero_le _⟩ rfl (Nat.le_of_ble_eq_true rfl) dX9_isRow_6 ?_
  obtain ⟨v2, hv2, h⟩ := fw_bind h
  exact fw_zret (pc := 9) C (fw_zrh hv2).1 ((fw_zrh hv2).2.trans (Option.some.inj h)) rfl dX9_isRow_9
theorem c_Mod_isRow {l : Launch} {D : va_G} {cI cZ cH cR : ClassId} {N : Nat} {ad : Nat → Nat} {EE : fw_M → Nat → va_E} {M : fw_M} {a0 : Int32} {z : Int32} (h : P_Mod_isRow M a0 = some z) : fw_Met l yX9_isRow wsX9_isRow rm_Mod_isRow D vwCl (fw_tys cI cZ cH cR) N ad fw_nw0 EE [.int a0] M (some (.int z)) M := by
  unfold P_Mod_isRow at h
  exact fw_intro (cc := cX9_isRow) (maxL := 1) (ret := some .boolean) (own := RX9) (by decide) rfl rfl (Nat.le_of_ble_eq_true rfl) (fun p e s m args below meth c C => fw_sub [0] rfl (c_Mod_isRow_b0 C  h))
abbrev rm_Mod_row : Room := { frames := 2, cells := 0, slots := 0, locals := 45 }
theorem hd_Mod_row : yX9_row.cls = RX9 ∧ yX9_row.cls ≠ "java/lang/invoke/MethodHandle" ∧ yX9_row.cls ≠ "java/lang/invoke/VarHandle" ∧ (parseMethodDescriptor yX9_row.desc).map (fun d => d.parameters.length) = some 3 := by decide +kernel
theorem qX9_row_47 : fw_G wsX9_row RX9 47 RX9 TX9 24 0 := ⟨by decide +kernel, by decide +kernel, by decide⟩
theorem kX9_row_65 : Cond.constantLong RX9 65 (2) ∈ wsX9_row := by decide +kernel
theorem qX9_row_51 : fw_G wsX9_row RX9 51 RX9 TX9 24 1 := ⟨by decide +kernel, by decide +kernel, by decide⟩
theorem qX9_row_7 : fw_G wsX9_row RX9 7 RX9 TX9 24 2 := ⟨by decide +kernel, by decide +kernel, by decide⟩
theorem qX9_row_13 : fw_G wsX9_row RX9 13 RX9 TX9 24 3 := ⟨by decide +kernel, by decide +kernel, by decide⟩
theorem qX9_row_16 : fw_G wsX9_row RX9 16 RX9 TX9 24 4 := ⟨by decide +kernel, by decide +kernel, by decide⟩
theorem kX9_row_67 : Cond.constant RX9 67 (-1000001) ∈ wsX9_row := by decide +kernel
def P_Mod_row_b30 (o : Nat) (M : fw_M) : Option (Int32 × fw_M) := some ((-1000001 : Int32), M)
def P_Mod_row_b65 (o : Nat) (K65 : fw_M → Int32 → Int32 → Int32 → Option (Int32 × fw_M)) (M : fw_M) (x1 : Int32) (x3 : Int32) (x4 : Int32) : Option (Int32 × fw_M) := (if (40 : Int32) ≤ x4 then some (x3, M) else (fw_ast M (o + 3) 320 (((40 : Int32) * x1) + x4) (0 : Int32)).bind fun M2 => K65 M2 x1 x3 (x4 + (1 : Int32)))
def P_Mod_row_h65 (o : Nat) : Nat → fw_M → Int32 → Int32 → Int32 → Option (Int32 × fw_M)
  | 0, _, _, _, _ => none
  | n + 1, M, x1, x3, x4 => P_Mod_row_b65 o (P_Mod_row_h65 o n) M x1 x3 x4
def P_Mod_row_b0 (o : Nat) (M : fw_M) (x1 : Int32) (x2 : Int32) (x3 : Int32) : Option (Int32 × fw_M) := fw_pl (fw_set M o 0 (0 : Int32)) fun M1 => (P_Mod_isRow M1 x1).bind fun v2 => (if v2 = (0 : Int32) then P_Mod_row_b30 o M1 else (P_Mod_in M1 (Int32.toInt64 x2) (0 : Int64) (2 : Int64)).bind fun v4 => (if v4 = (0 : Int32) then P_Mod_row_b30 o M1 else (if x3 ≤ (40 : Int32) then fw_pl (fw_set M1 o 1 (0 : Int32)) fun M7 => (if (0 : Int32) ≤ x3 then (fw_ast M7 (o + 1) 8 x1 x2).bind fun M9 => (fw_ast M9 (o + 2) 8 x1 x3).bind fun M10 => P_Mod_row_h65 o fw_fu M10 x1 x3 (0 : Int32) else (P_Mod_finding o M7 (4 : Int32)).bind fun q11 => some (q11.1, q11.2)) else P_Mod_row_b30 o M1)))
def P_Mod_row (o : Nat) (M : fw_M) (a0 : Int32) (a1 : Int32) (a2 : Int32) : Option (Int32 × fw_M) := P_Mod_row_b0 o M a0 a1 a2
set_option maxRecDepth 100000 in
theorem c_Mod_row_b30 {p : Program} {l : Launch} {e : Env} {s : State} {m : MethodId} {args : Array Value} {below : List Frame} {meth : Method} {c : Code} {D : va_G} {cI cZ cH cR : ClassId} {N : Nat} {ad : Nat → Nat} {EE : fw_M → Nat → va_E} {o : Nat} {M : fw_M} {z : (Int32 × fw_M)} (C : fw_C p s m args meth c cX9_row RX9 wsX9_row 5 (some .int) D vwCl (fw_tys cI cZ cH cR) N ad fw_nw0) (ho : o_Mod EE ad N cI cZ cH cR o) (h : P_Mod_row_b30 o M = some z) : fw_J p l e (headSpec wsX9_row rm_Mod_row).room s m args below meth c D vwCl N ad EE 5 0 0 (fw_E below args s D vwCl N ad EE (some (.int z.1)) z.2) M [] 30 [] := by
  unfold P_Mod_row_b30 at h
  refine fw_ldc (pc := 30) C (v := -1000001) kX9_row_67 dX9_row_30 ?_
  exact fw_iret (pc := 32) C (fw_p1 h) (fw_p2 h) dX9_row_32
set_option maxRecDepth 100000 in
theorem c_Mod_row_b65 {p : Program} {l : Launch} {e : Env} {s : State} {m : MethodId} {args : Array Value} {below : List Frame} {meth : Method} {c : Code} {D : va_G} {cI cZ cH cR : ClassId} {N : Nat} {ad : Nat → Nat} {EE : fw_M → Nat → va_E} {o : Nat} {K65 : fw_M → Int32 → Int32 → Int32 → Option (Int32 × fw_M)} {M : fw_M} {x1 : Int32} {x3 : Int32} {x4 : Int32} {z : (Int32 × fw_M)} (C : fw_C p s m args meth c cX9_row RX9 wsX9_row 5 (some .int) D vwCl (fw_tys cI cZ cH cR) N ad fw_nw0) (ho : o_Mod EE ad N cI cZ cH cR o) (hK65 : ∀ (Mk : fw_M) (kx1 : Int32) (kx3 : Int32) (kx4 : Int32), K65 Mk kx1 kx3 kx4 = some z → fw_J p l e (headSpec wsX9_row rm_Mod_row).room s m args below meth c D vwCl N ad EE 5 0 0 (fw_E below args s D vwCl N ad EE (some (.int z.1)) z.2) Mk [(0, .ref (ad o)), (1, .int kx1), (3, .int kx3), (4, .int kx4)] 65 []) (h : P_Mod_row_b65 o K65 M x1 x3 x4 = some z) : fw_J p l e (headSpec wsX9_row rm_Mod_row).room s m args below meth c D vwCl N ad EE 5 0 0 (fw_E below args s D vwCl N ad EE (some (.int z.1)) z.2) M [(0, .ref (ad o)), (1, .int x1), (3, .int x3), (4, .int x4)] 65 [] := by
  unfold P_Mod_row_b65 at h
  refine fw_iload (pc := 65) C 3 dX9_row_65 rfl ?_
  refine fw_bipush (pc := 67) C (v := 40) dX9_row_67 fk_bipush_40 ?_
  refine fw_icmp_ge (pc := 69) C (tgt := 91) dX9_row_69 (by decide) (fun c1 => ?_) (fun c1 => ?_)
  · have h := fw_ift h c1
    refine fw_iload_n (pc := 91) C 2 dX9_row_91 rfl rfl ?_
    exact fw_iret (pc := 92) C (fw_p1 h) (fw_p2 h) dX9_row_92
  · have h := fw_iff h c1
    refine fw_aload_n (pc := 72) C 0 dX9_row_72 rfl rfl ?_
    refine fw_getr (pc := 73) C ho.2.2.2.2.2.1.1 rfl qX9_row_16 dX9_row_73 ?_
    refine fw_bipush (pc := 76) C (v := 40) dX9_row_76 fk_bipush_40 ?_
    refine fw_iload_n (pc := 78) C 1 dX9_row_78 rfl rfl ?_
    refine fw_imul (pc := 79) C dX9_row_79 ?_
    refine fw_iload (pc := 80) C 3 dX9_row_80 rfl ?_
    refine fw_iadd (pc := 82) C dX9_row_82 ?_
    refine fw_iconst (pc := 83) C (v := 0) dX9_row_83 fk_iconst_0 ?_
    obtain ⟨M2, hM2, h⟩ := fw_bind h
    refine fw_iast (pc := 84) C 0 ho.2.2.2.2.2.1.2 rfl hM2 dX9_row_84 ?_
    refine fw_iinc (pc := 85) C (v := 1) (L2 := [(0, .ref _), (1, .int _), (3, .int _), (4, .int _)]) 3 [1, 2, 3, 0] dX9_row_85 rfl fk_iconst_1 (by decide) rfl ?_
    refine fw_goto (pc := 88) C (tgt := 65) dX9_row_88 (by decide) ?_
    exact (hK65 _ _ _ _ h)
theorem c_Mod_row_h65 {p : Program} {l : Launch} {e : Env} {s : State} {m : MethodId} {args : Array Value} {below : List Frame} {meth : Method} {c : Code} {D : va_G} {cI cZ cH cR : ClassId} {N : Nat} {ad : Nat → Nat} {EE : fw_M → Nat → va_E} {o : Nat} {z : (Int32 × fw_M)} (C : fw_C p s m args meth c cX9_row RX9 wsX9_row 5 (some .int) D vwCl (fw_tys cI cZ cH cR) N ad fw_nw0) (ho : o_Mod EE ad N cI cZ cH cR o) : ∀ (n : Nat) (M : fw_M) (x1 : Int32) (x3 : Int32) (x4 : Int32), P_Mod_row_h65 o n M x1 x3 x4 = some z → fw_J p l e (headSpec wsX9_row rm_Mod_row).room s m args below meth c D vwCl N ad EE 5 0 0 (fw_E below args s D vwCl N ad EE (some (.int z.1)) z.2) M [(0, .ref (ad o)), (1, .int x1), (3, .int x3), (4, .int x4)] 65 [] := by
  intro n
  induction n with
  | zero => intro M x1 x3 x4  h; cases h
  | succ n ih => intro M x1 x3 x4  h; exact c_Mod_row_b65 C ho ih  h
set_option maxRecDepth 100000 in
theorem c_Mod_row_b0 {p : Program} {l : Launch} {e : Env} {s : State} {m : MethodId} {args : Array Value} {below : List Frame} {meth : Method} {c : Code} {D : va_G} {cI cZ cH cR : ClassId} {N : Nat} {ad : Nat → Nat} {EE : fw_M → Nat → va_E} {o : Nat} {M : fw_M} {x1 : Int32} {x2 : Int32} {x3 : Int32} {z : (Int32 × fw_M)} (C : fw_C p s m args meth c cX9_row RX9 wsX9_row 5 (some .int) D vwCl (fw_tys cI cZ cH cR) N ad fw_nw0) (ho : o_Mod EE ad N cI cZ cH cR o) (h : P_Mod_row_b0 o M x1 x2 x3 = some z) : fw_J p l e (headSpec wsX9_row rm_Mod_row).room s m args below meth c D vwCl N ad EE 5 0 0 (fw_E below args s D vwCl N ad EE (some (.int z.1)) z.2) M [(0, .ref (ad o)), (1, .int x1), (2, .int x2), (3, .int x3)] 0 [] := by
  unfold P_Mod_row_b0 at h
  refine fw_aload_n (pc := 0) C 0 dX9_row_0 rfl rfl ?_
  refine fw_iconst (pc := 1) C (v := 0) dX9_row_1 fk_iconst_0 ?_
  have h := fw_plh h
  refine fw_puti (pc := 2) C ho.2.1 rfl qX9_row_47 tyX9 tyX9_ok nmX9 rfl rfl dX9_row_2 ?_
  refine fw_iload_n (pc := 5) C 1 dX9_row_5 rfl rfl ?_
  obtain ⟨v2, hv2, h⟩ := fw_bind h
  refine fw_callS1 (pc := 6) C (rest := []) (c_Mod_isRow  hv2) (va_cwS 1 C.2.2.2.2.1 gX9_row_X9_isRow rfl rfl rfl hd_Mod_isRow.2 ⟨Nat.le_of_ble_eq_true rfl, Nat.le_of_ble_eq_true rfl⟩) rfl ⟨Nat.zero_le _, Nat.zero_le _⟩ rfl (Nat.le_of_ble_eq_true rfl) dX9_row_6 ?_
  refine fw_if_eq (pc := 9) C (tgt := 30) dX9_row_9 (by decide) (fun c3 => ?_) (fun c3 => ?_)
  · have h := fw_ift h c3
    exact fw_sub [] rfl (c_Mod_row_b30 C ho h)
  · have h := fw_iff h c3
    refine fw_iload_n (pc := 12) C 2 dX9_row_12 rfl rfl ?_
    refine fw_i2l (pc := 13) C dX9_row_13 ?_
    refine fw_lconst (pc := 14) C (v := 0) dX9_row_14 fk_lconst_0 ?_
    refine fw_ldc2 (pc := 15) C (v := 2) kX9_row_65 dX9_row_15 ?_
    obtain ⟨v4, hv4, h⟩ := fw_bind h
    refine fw_callS1 (pc := 18) C (rest := []) (c_Mod_in  hv4) (va_cwS 3 C.2.2.2.2.1 gX9_row_X9_in rfl rfl rfl hd_Mod_in.2 ⟨Nat.le_of_ble_eq_true rfl, Nat.le_of_ble_eq_true rfl⟩) rfl ⟨Nat.zero_le _, Nat.zero_le _⟩ rfl (Nat.le_of_ble_eq_true rfl) dX9_row_18 ?_
    refine fw_if_eq (pc := 21) C (tgt := 30) dX9_row_21 (by decide) (fun c5 => ?_) (fun c5 => ?_)
    · have h := fw_ift h c5
      exact fw_sub [] rfl (c_Mod_row_b30 C ho h)
    · have h := fw_iff h c5
      refine fw_iload_n (pc := 24) C 3 dX9_row_24 rfl rfl ?_
      refine fw_bipush (pc := 25) C (v := 40) dX9_row_25 fk_bipush_40 ?_
      refine fw_icmp_le (pc := 27) C (tgt := 33) dX9_row_27 (by decide) (fun c6 => ?_) (fun c6 => ?_)
      · have h := fw_ift h c6
        refine fw_aload_n (pc := 33) C 0 dX9_row_33 rfl rfl ?_
        refine fw_iconst (pc := 34) C (v := 0) dX9_row_34 fk_iconst_0 ?_
        have h := fw_plh h
        refine fw_puti (pc := 35) C ho.2.2.1 rfl qX9_row_51 tyX9 tyX9_ok nmX9 rfl rfl dX9_row_35 ?_
        refine fw_iload_n (pc := 38) C 3 dX9_row_38 rfl rfl ?_
        refine fw_if_ge (pc := 39) C (tgt := 48) dX9_row_39 (by decide) (fun c8 => ?_) (fun c8 => ?_)
        · have h := fw_ift h c8
          refine fw_aload_n (pc := 48) C 0 dX9_row_48 rfl rfl ?_
          refine fw_getr (pc := 49) C ho.2.2.2.1.1 rfl qX9_row_7 dX9_row_49 ?_
          refine fw_iload_n (pc := 52) C 1 dX9_row_52 rfl rfl ?_
          refine fw_iload_n (pc := 53) C 2 dX9_row_53 rfl rfl ?_
          obtain ⟨M9, hM9, h⟩ := fw_bind h
          refine fw_iast (pc := 54) C 0 ho.2.2.2.1.2 rfl hM9 dX9_row_54 ?_
          refine fw_aload_n (pc := 55) C 0 dX9_row_55 rfl rfl ?_
          refine fw_getr (pc := 56) C ho.2.2.2.2.1.1 rfl qX9_row_13 dX9_row_56 ?_
          refine fw_iload_n (pc := 59) C 1 dX9_row_59 rfl rfl ?_
          refine fw_iload_n (pc := 60) C 3 dX9_row_60 rfl rfl ?_
          obtain ⟨M10, hM10, h⟩ := fw_bind h
          refine fw_iast (pc := 61) C 0 ho.2.2.2.2.1.2 rfl hM10 dX9_row_61 ?_
          refine fw_iconst (pc := 62) C (v := 0) dX9_row_62 fk_iconst_0 ?_
          refine fw_istore (pc := 63) C (L2 := [(0, .ref _), (1, .int _), (2, .int _), (3, .int _), (4, .int _)]) [1, 2, 3, 4, 0] dX9_row_63 (by decide) rfl ?_
          exact fw_sub [0, 1, 3, 4] rfl (c_Mod_row_h65 C ho _ _ _ _ _ h)
        · have h := fw_iff h c8
          refine fw_aload_n (pc := 42) C 0 dX9_row_42 rfl rfl ?_
          refine fw_iconst (pc := 43) C (v := 4) dX9_row_43 fk_iconst_4 ?_
          obtain ⟨q11, hq11, h⟩ := fw_bind h
          refine fw_callV1 (pc := 44) C (rest := []) (c_Mod_finding ho hq11) (cwV 1 C.2.2.2.2.1 gX9_row_X9_finding rfl rfl rfl hd_Mod_finding ⟨Nat.le_of_ble_eq_true rfl, Nat.le_of_ble_eq_true rfl⟩) ho.1 rfl rfl ⟨Nat.zero_le _, Nat.zero_le _⟩ rfl (Nat.le_of_ble_eq_true rfl) dX9_row_44 ?_
          exact fw_iret (pc := 47) C (fw_p1 h) (fw_p2 h) dX9_row_47
      · have h := fw_iff h c6
        exact fw_sub [] rfl (c_Mod_row_b30 C ho h)
theorem c_Mod_row {l : Launch} {D : va_G} {cI cZ cH cR : ClassId} {N : Nat} {ad : Nat → Nat} {EE : fw_M → Nat → va_E} {o : Nat} {M : fw_M} {a0 : Int32} {a1 : Int32} {a2 : Int32} {z : (Int32 × fw_M)} (ho : o_Mod EE ad N cI cZ cH cR o) (h : P_Mod_row o M a0 a1 a2 = some z) : fw_Met l yX9_row wsX9_row rm_Mod_row D vwCl (fw_tys cI cZ cH cR) N ad fw_nw0 EE [.ref (ad o), .int a0, .int a1, .int a2] M (some (.int z.1)) z.2 := by
  unfold P_Mod_row at h
  exact fw_intro (cc := cX9_row) (maxL := 5) (ret := some .int) (own := RX9) (by decide) rfl rfl (Nat.le_of_ble_eq_true rfl) (fun p e s m args below meth c C => fw_sub [0, 1, 2, 3] rfl (c_Mod_row_b0 C ho h))
abbrev rm_Mod_set : Room := { frames := 2, cells := 0, slots := 0, locals := 45 }
theorem hd_Mod_set : yX9_set.cls = RX9 ∧ yX9_set.cls ≠ "java/lang/invoke/MethodHandle" ∧ yX9_set.cls ≠ "java/lang/invoke/VarHandle" ∧ (parseMethodDescriptor yX9_set.desc).map (fun d => d.parameters.length) = some 3 := by decide +kernel
theorem qX9_set_47 : fw_G wsX9_set RX9 47 RX9 TX9 24 0 := ⟨by decide +kernel, by decide +kernel, by decide⟩
theorem kX9_set_67 : Cond.constant RX9 67 (-1000001) ∈ wsX9_set := by decide +kernel
theorem qX9_set_51 : fw_G wsX9_set RX9 51 RX9 TX9 24 1 := ⟨by decide +kernel, by decide +kernel, by decide⟩
theorem qX9_set_7 : fw_G wsX9_set RX9 7 RX9 TX9 24 2 := ⟨by decide +kernel, by decide +kernel, by decide⟩
theorem qX9_set_13 : fw_G wsX9_set RX9 13 RX9 TX9 24 3 := ⟨by decide +kernel, by decide +kernel, by decide⟩
theorem qX9_set_16 : fw_G wsX9_set RX9 16 RX9 TX9 24 4 := ⟨by decide +kernel, by decide +kernel, by decide⟩
def P_Mod_set_b99 (o : Nat) (M : fw_M) (x1 : Int32) (x2 : Int32) (t1 : Int32) (t2 : Int32) : Option (Int32 × fw_M) := (fw_ast M (o + 3) 320 t1 t2).bind fun M1 => (fw_ald M1 (o + 3) 320 (((40 : Int32) * x1) + x2)).bind fun v2 => some (v2, M1)
def P_Mod_set_b0 (o : Nat) (M : fw_M) (x1 : Int32) (x2 : Int32) (x3 : Int32) : Option (Int32 × fw_M) := fw_pl (fw_set M o 0 (0 : Int32)) fun M1 => (P_Mod_isRow M1 x1).bind fun v2 => (if v2 = (0 : Int32) then some ((-1000001 : Int32), M1) else fw_pl (fw_set M1 o 1 (0 : Int32)) fun M4 => (fw_ald M4 (o + 1) 8 x1).bind fun v5 => (if (0 : Int32) ≤ v5 then (fw_ald M4 (o + 2) 8 x1).bind fun v7 => (P_Mod_in M4 (Int32.toInt64 x2) (0 : Int64) (Int32.toInt64 (v7 - (1 : Int32)))).bind fun v8 => (if v8 = (0 : Int32) then (P_Mod_finding o M4 (2 : Int32)).bind fun q14 => some (q14.1, q14.2) else (fw_ald M4 (o + 1) 8 x1).bind fun v10 => (if v10 = (0 : Int32) then P_Mod_set_b99 o M4 x1 x2 (((40 : Int32) * x1) + x2) (Int8.toInt32 (Int32.toInt8 x3)) else (fw_ald M4 (o + 1) 8 x1).bind fun v12 => (if v12 = (1 : Int32) then P_Mod_set_b99 o M4 x1 x2 (((40 : Int32) * x1) + x2) (Int16.toInt32 (Int32.toInt16 x3)) else P_Mod_set_b99 o M4 x1 x2 (((40 : Int32) * x1) + x2) x3))) else (P_Mod_finding o M4 (1 : Int32)).bind fun q15 => some (q15.1, q15.2)))
def P_Mod_set (o : Nat) (M : fw_M) (a0 : Int32) (a1 : Int32) (a2 : Int32) : Option (Int32 × fw_M) := P_Mod_set_b0 o M a0 a1 a2
set_option maxRecDepth 100000 in
theorem c_Mod_set_b99 {p : Program} {l : Launch} {e : Env} {s : State} {m : MethodId} {args : Array Value} {below : List Frame} {meth : Method} {c : Code} {D : va_G} {cI cZ cH cR : ClassId} {N : Nat} {ad : Nat → Nat} {EE : fw_M → Nat → va_E} {o : Nat} {M : fw_M} {x1 : Int32} {x2 : Int32} {t1 : Int32} {t2 : Int32} {z : (Int32 × fw_M)} (C : fw_C p s m args meth c cX9_set RX9 wsX9_set 4 (some .int) D vwCl (fw_tys cI cZ cH cR) N ad fw_nw0) (ho : o_Mod EE ad N cI cZ cH cR o) (h : P_Mod_set_b99 o M x1 x2 t1 t2 = some z) : fw_J p l e (headSpec wsX9_set rm_Mod_set).room s m args below meth c D vwCl N ad EE 4 0 0 (fw_E below args s D vwCl N ad EE (some (.int z.1)) z.2) M [(0, .ref (ad o)), (1, .int x1), (2, .int x2)] 99 [.int t2, .int t1, .ref (ad (o + 3))] := by
  unfold P_Mod_set_b99 at h
  obtain ⟨M1, hM1, h⟩ := fw_bind h
  refine fw_iast (pc := 99) C 0 ho.2.2.2.2.2.1.2 rfl hM1 dX9_set_99 ?_
  refine fw_aload_n (pc := 100) C 0 dX9_set_100 rfl rfl ?_
  refine fw_getr (pc := 101) C ho.2.2.2.2.2.1.1 rfl qX9_set_16 dX9_set_101 ?_
  refine fw_bipush (pc := 104) C (v := 40) dX9_set_104 fk_bipush_40 ?_
  refine fw_iload_n (pc := 106) C 1 dX9_set_106 rfl rfl ?_
  refine fw_imul (pc := 107) C dX9_set_107 ?_
  refine fw_iload_n (pc := 108) C 2 dX9_set_108 rfl rfl ?_
  refine fw_iadd (pc := 109) C dX9_set_109 ?_
  obtain ⟨v2, hv2, h⟩ := fw_bind h
  refine fw_iald (pc := 110) C 0 ho.2.2.2.2.2.1.2 rfl hv2 dX9_set_110 ?_
  exact fw_iret (pc := 111) C (fw_p1 h) (fw_p2 h) dX9_set_111
set_option maxRecDepth 100000 in
theorem c_Mod_set_b0 {p : Program} {l : Launch} {e : Env} {s : State} {m : MethodId} {args : Array Value} {below : List Frame} {meth : Method} {c : Code} {D : va_G} {cI cZ cH cR : ClassId} {N : Nat} {ad : Nat → Nat} {EE : fw_M → Nat → va_E} {o : Nat} {M : fw_M} {x1 : Int32} {x2 : Int32} {x3 : Int32} {z : (Int32 × fw_M)} (C : fw_C p s m args meth c cX9_set RX9 wsX9_set 4 (some .int) D vwCl (fw_tys cI cZ cH cR) N ad fw_nw0) (ho : o_Mod EE ad N cI cZ cH cR o) (h : P_Mod_set_b0 o M x1 x2 x3 = some z) : fw_J p l e (headSpec wsX9_set rm_Mod_set).room s m args below meth c D vwCl N ad EE 4 0 0 (fw_E below args s D vwCl N ad EE (some (.int z.1)) z.2) M [(0, .ref (ad o)), (1, .int x1), (2, .int x2), (3, .int x3)] 0 [] := by
  unfold P_Mod_set_b0 at h
  refine fw_aload_n (pc := 0) C 0 dX9_set_0 rfl rfl ?_
  refine fw_iconst (pc := 1) C (v := 0) dX9_set_1 fk_iconst_0 ?_
  have h := fw_plh h
  refine fw_puti (pc := 2) C ho.2.1 rfl qX9_set_47 tyX9 tyX9_ok nmX9 rfl rfl dX9_set_2 ?_
  refine fw_iload_n (pc := 5) C 1 dX9_set_5 rfl rfl ?_
  obtain ⟨v2, hv2, h⟩ := fw_bind h
  refine fw_callS1 (pc := 6) C (rest := []) (c_Mod_isRow  hv2) (va_cwS 1 C.2.2.2.2.1 gX9_set_X9_isRow rfl rfl rfl hd_Mod_isRow.2 ⟨Nat.le_of_ble_eq_true rfl, Nat.le_of_ble_eq_true rfl⟩) rfl ⟨Nat.zero_le _, Nat.zero_le _⟩ rfl (Nat.le_of_ble_eq_true rfl) dX9_set_6 ?_
  refine fw_if_ne (pc := 9) C (tgt := 15) dX9_set_9 (by decide) (fun c3 => ?_) (fun c3 => ?_)
  · have h := fw_iff h c3
    refine fw_aload_n (pc := 15) C 0 dX9_set_15 rfl rfl ?_
    refine fw_iconst (pc := 16) C (v := 0) dX9_set_16 fk_iconst_0 ?_
    have h := fw_plh h
    refine fw_puti (pc := 17) C ho.2.2.1 rfl qX9_set_51 tyX9 tyX9_ok nmX9 rfl rfl dX9_set_17 ?_
    refine fw_aload_n (pc := 20) C 0 dX9_set_20 rfl rfl ?_
    refine fw_getr (pc := 21) C ho.2.2.2.1.1 rfl qX9_set_7 dX9_set_21 ?_
    refine fw_iload_n (pc := 24) C 1 dX9_set_24 rfl rfl ?_
    obtain ⟨v5, hv5, h⟩ := fw_bind h
    refine fw_iald (pc := 25) C 0 ho.2.2.2.1.2 rfl hv5 dX9_set_25 ?_
    refine fw_if_ge (pc := 26) C (tgt := 35) dX9_set_26 (by decide) (fun c6 => ?_) (fun c6 => ?_)
    · have h := fw_ift h c6
      refine fw_iload_n (pc := 35) C 2 dX9_set_35 rfl rfl ?_
      refine fw_i2l (pc := 36) C dX9_set_36 ?_
      refine fw_lconst (pc := 37) C (v := 0) dX9_set_37 fk_lconst_0 ?_
      refine fw_aload_n (pc := 38) C 0 dX9_set_38 rfl rfl ?_
      refine fw_getr (pc := 39) C ho.2.2.2.2.1.1 rfl qX9_set_13 dX9_set_39 ?_
      refine fw_iload_n (pc := 42) C 1 dX9_set_42 rfl rfl ?_
      obtain ⟨v7, hv7, h⟩ := fw_bind h
      refine fw_iald (pc := 43) C 0 ho.2.2.2.2.1.2 rfl hv7 dX9_set_43 ?_
      refine fw_iconst (pc := 44) C (v := 1) dX9_set_44 fk_iconst_1 ?_
      refine fw_isub (pc := 45) C dX9_set_45 ?_
      refine fw_i2l (pc := 46) C dX9_set_46 ?_
      obtain ⟨v8, hv8, h⟩ := fw_bind h
      refine fw_callS1 (pc := 47) C (rest := []) (c_Mod_in  hv8) (va_cwS 3 C.2.2.2.2.1 gX9_set_X9_in rfl rfl rfl hd_Mod_in.2 ⟨Nat.le_of_ble_eq_true rfl, Nat.le_of_ble_eq_true rfl⟩) rfl ⟨Nat.zero_le _, Nat.zero_le _⟩ rfl (Nat.le_of_ble_eq_true rfl) dX9_set_47 ?_
      refine fw_if_ne (pc := 50) C (tgt := 59) dX9_set_50 (by decide) (fun c9 => ?_) (fun c9 => ?_)
      · have h := fw_iff h c9
        refine fw_aload_n (pc := 59) C 0 dX9_set_59 rfl rfl ?_
        refine fw_getr (pc := 60) C ho.2.2.2.2.2.1.1 rfl qX9_set_16 dX9_set_60 ?_
        refine fw_bipush (pc := 63) C (v := 40) dX9_set_63 fk_bipush_40 ?_
        refine fw_iload_n (pc := 65) C 1 dX9_set_65 rfl rfl ?_
        refine fw_imul (pc := 66) C dX9_set_66 ?_
        refine fw_iload_n (pc := 67) C 2 dX9_set_67 rfl rfl ?_
        refine fw_iadd (pc := 68) C dX9_set_68 ?_
        refine fw_aload_n (pc := 69) C 0 dX9_set_69 rfl rfl ?_
        refine fw_getr (pc := 70) C ho.2.2.2.1.1 rfl qX9_set_7 dX9_set_70 ?_
        refine fw_iload_n (pc := 73) C 1 dX9_set_73 rfl rfl ?_
        obtain ⟨v10, hv10, h⟩ := fw_bind h
        refine fw_iald (pc := 74) C 0 ho.2.2.2.1.2 rfl hv10 dX9_set_74 ?_
        refine fw_if_ne (pc := 75) C (tgt := 83) dX9_set_75 (by decide) (fun c11 => ?_) (fun c11 => ?_)
        · have h := fw_iff h c11
          refine fw_aload_n (pc := 83) C 0 dX9_set_83 rfl rfl ?_
          refine fw_getr (pc := 84) C ho.2.2.2.1.1 rfl qX9_set_7 dX9_set_84 ?_
          refine fw_iload_n (pc := 87) C 1 dX9_set_87 rfl rfl ?_
          obtain ⟨v12, hv12, h⟩ := fw_bind h
          refine fw_iald (pc := 88) C 0 ho.2.2.2.1.2 rfl hv12 dX9_set_88 ?_
          refine fw_iconst (pc := 89) C (v := 1) dX9_set_89 fk_iconst_1 ?_
          refine fw_icmp_ne (pc := 90) C (tgt := 98) dX9_set_90 (by decide) (fun c13 => ?_) (fun c13 => ?_)
          · have h := fw_iff h c13
            refine fw_iload_n (pc := 98) C 3 dX9_set_98 rfl rfl ?_
            exact fw_sub [0, 1, 2] rfl (c_Mod_set_b99 C ho h)
          · have h := fw_ift h c13
            refine fw_iload_n (pc := 93) C 3 dX9_set_93 rfl rfl ?_
            refine fw_i2s (pc := 94) C dX9_set_94 ?_
            refine fw_goto (pc := 95) C (tgt := 99) dX9_set_95 (by decide) ?_
            exact fw_sub [0, 1, 2] rfl (c_Mod_set_b99 C ho h)
        · have h := fw_ift h c11
          refine fw_iload_n (pc := 78) C 3 dX9_set_78 rfl rfl ?_
          refine fw_i2b (pc := 79) C dX9_set_79 ?_
          refine fw_goto (pc := 80) C (tgt := 99) dX9_set_80 (by decide) ?_
          exact fw_sub [0, 1, 2] rfl (c_Mod_set_b99 C ho h)
      · have h := fw_ift h c9
        refine fw_aload_n (pc := 53) C 0 dX9_set_53 rfl rfl ?_
        refine fw_iconst (pc := 54) C (v := 2) dX9_set_54 fk_iconst_2 ?_
        obtain ⟨q14, hq14, h⟩ := fw_bind h
        refine fw_callV1 (pc := 55) C (rest := []) (c_Mod_finding ho hq14) (cwV 1 C.2.2.2.2.1 gX9_set_X9_finding rfl rfl rfl hd_Mod_finding ⟨Nat.le_of_ble_eq_true rfl, Nat.le_of_ble_eq_true rfl⟩) ho.1 rfl rfl ⟨Nat.zero_le _, Nat.zero_le _⟩ rfl (Nat.le_of_ble_eq_true rfl) dX9_set_55 ?_
        exact fw_iret (pc := 58) C (fw_p1 h) (fw_p2 h) dX9_set_58
    · have h := fw_iff h c6
      refine fw_aload_n (pc := 29) C 0 dX9_set_29 rfl rfl ?_
      refine fw_iconst (pc := 30) C (v := 1) dX9_set_30 fk_iconst_1 ?_
      obtain ⟨q15, hq15, h⟩ := fw_bind h
      refine fw_callV1 (pc := 31) C (rest := []) (c_Mod_finding ho hq15) (cwV 1 C.2.2.2.2.1 gX9_set_X9_finding rfl rfl rfl hd_Mod_finding ⟨Nat.le_of_ble_eq_true rfl, Nat.le_of_ble_eq_true rfl⟩) ho.1 rfl rfl ⟨Nat.zero_le _, Nat.zero_le _⟩ rfl (Nat.le_of_ble_eq_true rfl) dX9_set_31 ?_
      exact fw_iret (pc := 34) C (fw_p1 h) (fw_p2 h) dX9_set_34
  · have h := fw_ift h c3
    refine fw_ldc (pc := 12) C (v := -1000001) kX9_set_67 dX9_set_12 ?_
    exact fw_iret (pc := 14) C (fw_p1 h) (fw_p2 h) dX9_set_14
theorem c_Mod_set {l : Launch} {D : va_G} {cI cZ cH cR : ClassId} {N : Nat} {ad : Nat → Nat} {EE : fw_M → Nat → va_E} {o : Nat} {M : fw_M} {a0 : Int32} {a1 : Int32} {a2 : Int32} {z : (Int32 × fw_M)} (ho : o_Mod EE ad N cI cZ cH cR o) (h : P_Mod_set o M a0 a1 a2 = some z) : fw_Met l yX9_set wsX9_set rm_Mod_set D vwCl (fw_tys cI cZ cH cR) N ad fw_nw0 EE [.ref (ad o), .int a0, .int a1, .int a2] M (some (.int z.1)) z.2 := by
  unfold P_Mod_set at h
  exact fw_intro (cc := cX9_set) (maxL := 4) (ret := some .int) (own := RX9) (by decide) rfl rfl (Nat.le_of_ble_eq_true rfl) (fun p e s m args below meth c C => fw_sub [0, 1, 2, 3] rfl (c_Mod_set_b0 C ho h))
abbrev rm_Mod_copy : Room := { frames := 2, cells := 0, slots := 0, locals := 45 }
theorem hd_Mod_copy : yX9_copy.cls = RX9 ∧ yX9_copy.cls ≠ "java/lang/invoke/MethodHandle" ∧ yX9_copy.cls ≠ "java/lang/invoke/VarHandle" ∧ (parseMethodDescriptor yX9_copy.desc).map (fun d => d.parameters.length) = some 5 := by decide +kernel
theorem qX9_copy_47 : fw_G wsX9_copy RX9 47 RX9 TX9 24 0 := ⟨by decide +kernel, by decide +kernel, by decide⟩
theorem qX9_copy_51 : fw_G wsX9_copy RX9 51 RX9 TX9 24 1 := ⟨by decide +kernel, by decide +kernel, by decide⟩
theorem qX9_copy_7 : fw_G wsX9_copy RX9 7 RX9 TX9 24 2 := ⟨by decide +kernel, by decide +kernel, by decide⟩
theorem qX9_copy_13 : fw_G wsX9_copy RX9 13 RX9 TX9 24 3 := ⟨by decide +kernel, by decide +kernel, by decide⟩
theorem qX9_copy_16 : fw_G wsX9_copy RX9 16 RX9 TX9 24 4 := ⟨by decide +kernel, by decide +kernel, by decide⟩
theorem kX9_copy_67 : Cond.constant RX9 67 (-1000001) ∈ wsX9_copy := by decide +kernel
def P_Mod_copy_b19 (o : Nat) (M : fw_M) : Option (Int32 × fw_M) := some ((-1000001 : Int32), M)
def P_Mod_copy_b45 (o : Nat) (M : fw_M) : Option (Int32 × fw_M) := (P_Mod_finding o M (1 : Int32)).bind fun q1 => some (q1.1, q1.2)
def P_Mod_copy_b121 (o : Nat) (M : fw_M) : Option (Int32 × fw_M) := (P_Mod_finding o M (2 : Int32)).bind fun q1 => some (q1.1, q1.2)
def P_Mod_copy_b167 (o : Nat) (K143 : fw_M → Int32 → Int32 → Int32 → Int32 → Int32 → Int32 → Int32 → Option (Int32 × fw_M)) (M : fw_M) (x1 : Int32) (x2 : Int32) (x3 : Int32) (x4 : Int32) (x5 : Int32) (x6 : Int32) (x7 : Int32) (t0 : Int32) : Option (Int32 × fw_M) := (fw_ald M (o + 3) 320 ((((40 : Int32) * x1) + x2) + t0)).bind fun v1 => (fw_ast M (o + 3) 320 ((((40 : Int32) * x3) + x4) + t0) v1).bind fun M2 => K143 M2 x1 x2 x3 x4 x5 x6 (x7 + (1 : Int32))
def P_Mod_copy_b143 (o : Nat) (K143 : fw_M → Int32 → Int32 → Int32 → Int32 → Int32 → Int32 → Int32 → Option (Int32 × fw_M)) (M : fw_M) (x1 : Int32) (x2 : Int32) (x3 : Int32) (x4 : Int32) (x5 : Int32) (x6 : Int32) (x7 : Int32) : Option (Int32 × fw_M) := (if x5 ≤ x7 then some (x5, M) else (if x6 = (0 : Int32) then P_Mod_copy_b167 o K143 M x1 x2 x3 x4 x5 x6 x7 ((x5 - (1 : Int32)) - x7) else P_Mod_copy_b167 o K143 M x1 x2 x3 x4 x5 x6 x7 x7))
def P_Mod_copy_h143 (o : Nat) : Nat → fw_M → Int32 → Int32 → Int32 → Int32 → Int32 → Int32 → Int32 → Option (Int32 × fw_M)
  | 0, _, _, _, _, _, _, _, _ => none
  | n + 1, M, x1, x2, x3, x4, x5, x6, x7 => P_Mod_copy_b143 o (P_Mod_copy_h143 o n) M x1 x2 x3 x4 x5 x6 x7
def P_Mod_copy_b138 (o : Nat) (M : fw_M) (x1 : Int32) (x2 : Int32) (x3 : Int32) (x4 : Int32) (x5 : Int32) (t0 : Int32) : Option (Int32 × fw_M) := P_Mod_copy_h143 o fw_fu M x1 x2 x3 x4 x5 t0 (0 : Int32)
def P_Mod_copy_b0 (o : Nat) (M : fw_M) (x1 : Int32) (x2 : Int32) (x3 : Int32) (x4 : Int32) (x5 : Int32) : Option (Int32 × fw_M) := fw_pl (fw_set M o 0 (0 : Int32)) fun M1 => (P_Mod_isRow M1 x1).bind fun v2 => (if v2 = (0 : Int32) then P_Mod_copy_b19 o M1 else (P_Mod_isRow M1 x3).bind fun v4 => (if v4 = (0 : Int32) then P_Mod_copy_b19 o M1 else fw_pl (fw_set M1 o 1 (0 : Int32)) fun M6 => (fw_ald M6 (o + 1) 8 x1).bind fun v7 => (if v7 < (0 : Int32) then P_Mod_copy_b45 o M6 else (fw_ald M6 (o + 1) 8 x3).bind fun v9 => (if (0 : Int32) ≤ v9 then (fw_ald M6 (o + 1) 8 x1).bind fun v11 => (fw_ald M6 (o + 1) 8 x3).bind fun v12 => (if v11 = v12 then (if x2 < (0 : Int32) then P_Mod_copy_b121 o M6 else (if x4 < (0 : Int32) then P_Mod_copy_b121 o M6 else (if x5 < (0 : Int32) then P_Mod_copy_b121 o M6 else (fw_ald M6 (o + 2) 8 x1).bind fun v17 => (if (0 : Int32) < (lg_cmp ((Int32.toInt64 x2) + (Int32.toInt64 x5)) (Int32.toInt64 v17)) then P_Mod_copy_b121 o M6 else (fw_ald M6 (o + 2) 8 x3).bind fun v19 => (if (lg_cmp ((Int32.toInt64 x4) + (Int32.toInt64 x5)) (Int32.toInt64 v19)) ≤ (0 : Int32) then (if x2 < x4 then P_Mod_copy_b138 o M6 x1 x2 x3 x4 x5 (0 : Int32) else P_Mod_copy_b138 o M6 x1 x2 x3 x4 x5 (1 : Int32)) else P_Mod_copy_b121 o M6))))) else (P_Mod_finding o M6 (5 : Int32)).bind fun q22 => some (q22.1, q22.2)) else P_Mod_copy_b45 o M6))))
def P_Mod_copy (o : Nat) (M : fw_M) (a0 : Int32) (a1 : Int32) (a2 : Int32) (a3 : Int32) (a4 : Int32) : Option (Int32 × fw_M) := P_Mod_copy_b0 o M a0 a1 a2 a3 a4
set_option maxRecDepth 100000 in
theorem c_Mod_copy_b19 {p : Program} {l : Launch} {e : Env} {s : State} {m : MethodId} {args : Array Value} {below : List Frame} {meth : Method} {c : Code} {D : va_G} {cI cZ cH cR : ClassId} {N : Nat} {ad : Nat → Nat} {EE : fw_M → Nat → va_E} {o : Nat} {M : fw_M} {z : (Int32 × fw_M)} (C : fw_C p s m args meth c cX9_copy RX9 wsX9_copy 9 (some .int) D vwCl (fw_tys cI cZ cH cR) N ad fw_nw0) (ho : o_Mod EE ad N cI cZ cH cR o) (h : P_Mod_copy_b19 o M = some z) : fw_J p l e (headSpec wsX9_copy rm_Mod_copy).room s m args below meth c D vwCl N ad EE 9 0 0 (fw_E below args s D vwCl N ad EE (some (.int z.1)) z.2) M [] 19 [] := by
  unfold P_Mod_copy_b19 at h
  refine fw_ldc (pc := 19) C (v := -1000001) kX9_copy_67 dX9_copy_19 ?_
  exact fw_iret (pc := 21) C (fw_p1 h) (fw_p2 h) dX9_copy_21
set_option maxRecDepth 100000 in
theorem c_Mod_copy_b45 {p : Program} {l : Launch} {e : Env} {s : State} {m : MethodId} {args : Array Value} {below : List Frame} {meth : Method} {c : Code} {D : va_G} {cI cZ cH cR : ClassId} {N : Nat} {ad : Nat → Nat} {EE : fw_M → Nat → va_E} {o : Nat} {M : fw_M} {z : (Int32 × fw_M)} (C : fw_C p s m args meth c cX9_copy RX9 wsX9_copy 9 (some .int) D vwCl (fw_tys cI cZ cH cR) N ad fw_nw0) (ho : o_Mod EE ad N cI cZ cH cR o) (h : P_Mod_copy_b45 o M = some z) : fw_J p l e (headSpec wsX9_copy rm_Mod_copy).room s m args below meth c D vwCl N ad EE 9 0 0 (fw_E below args s D vwCl N ad EE (some (.int z.1)) z.2) M [(0, .ref (ad o))] 45 [] := by
  unfold P_Mod_copy_b45 at h
  refine fw_aload_n (pc := 45) C 0 dX9_copy_45 rfl rfl ?_
  refine fw_iconst (pc := 46) C (v := 1) dX9_copy_46 fk_iconst_1 ?_
  obtain ⟨q1, hq1, h⟩ := fw_bind h
  refine fw_callV1 (pc := 47) C (rest := []) (c_Mod_finding ho hq1) (cwV 1 C.2.2.2.2.1 gX9_copy_X9_finding rfl rfl rfl hd_Mod_finding ⟨Nat.le_of_ble_eq_true rfl, Nat.le_of_ble_eq_true rfl⟩) ho.1 rfl rfl ⟨Nat.zero_le _, Nat.zero_le _⟩ rfl (Nat.le_of_ble_eq_true rfl) dX9_copy_47 ?_
  exact fw_iret (pc := 50) C (fw_p1 h) (fw_p2 h) dX9_copy_50
set_option maxRecDepth 100000 in
theorem c_Mod_copy_b121 {p : Program} {l : Launch} {e : Env} {s : State} {m : MethodId} {args : Array Value} {below : List Frame} {meth : Method} {c : Code} {D : va_G} {cI cZ cH cR : ClassId} {N : Nat} {ad : Nat → Nat} {EE : fw_M → Nat → va_E} {o : Nat} {M : fw_M} {z : (Int32 × fw_M)} (C : fw_C p s m args meth c cX9_copy RX9 wsX9_copy 9 (some .int) D vwCl (fw_tys cI cZ cH cR) N ad fw_nw0) (ho : o_Mod EE ad N cI cZ cH cR o) (h : P_Mod_copy_b121 o M = some z) : fw_J p l e (headSpec wsX9_copy rm_Mod_copy).room s m args below meth c D vwCl N ad EE 9 0 0 (fw_E below args s D vwCl N ad EE (some (.int z.1)) z.2) M [(0, .ref (ad o))] 121 [] := by
  unfold P_Mod_copy_b121 at h
  refine fw_aload_n (pc := 121) C 0 dX9_copy_121 rfl rfl ?_
  refine fw_iconst (pc := 122) C (v := 2) dX9_copy_122 fk_iconst_2 ?_
  obtain ⟨q1, hq1, h⟩ := fw_bind h
  refine fw_callV1 (pc := 123) C (rest := []) (c_Mod_finding ho hq1) (cwV 1 C.2.2.2.2.1 gX9_copy_X9_finding rfl rfl rfl hd_Mod_finding ⟨Nat.le_of_ble_eq_true rfl, Nat.le_of_ble_eq_true rfl⟩) ho.1 rfl rfl ⟨Nat.zero_le _, Nat.zero_le _⟩ rfl (Nat.le_of_ble_eq_true rfl) dX9_copy_123 ?_
  exact fw_iret (pc := 126) C (fw_p1 h) (fw_p2 h) dX9_copy_126
set_option maxRecDepth 100000 in
theorem c_Mod_copy_b167 {p : Program} {l : Launch} {e : Env} {s : State} {m : MethodId} {args : Array Value} {below : List Frame} {meth : Method} {c : Code} {D : va_G} {cI cZ cH cR : ClassId} {N : Nat} {ad : Nat → Nat} {EE : fw_M → Nat → va_E} {o : Nat} {K143 : fw_M → Int32 → Int32 → Int32 → Int32 → Int32 → Int32 → Int32 → Option (Int32 × fw_M)} {M : fw_M} {x1 : Int32} {x2 : Int32} {x3 : Int32} {x4 : Int32} {x5 : Int32} {x6 : Int32} {x7 : Int32} {t0 : Int32} {z : (Int32 × fw_M)} (C : fw_C p s m args meth c cX9_copy RX9 wsX9_copy 9 (some .int) D vwCl (fw_tys cI cZ cH cR) N ad fw_nw0) (ho : o_Mod EE ad N cI cZ cH cR o) (hK143 : ∀ (Mk : fw_M) (kx1 : Int32) (kx2 : Int32) (kx3 : Int32) (kx4 : Int32) (kx5 : Int32) (kx6 : Int32) (kx7 : Int32), K143 Mk kx1 kx2 kx3 kx4 kx5 kx6 kx7 = some z → fw_J p l e (headSpec wsX9_copy rm_Mod_copy).room s m args below meth c D vwCl N ad EE 9 0 0 (fw_E below args s D vwCl N ad EE (some (.int z.1)) z.2) Mk [(0, .ref (ad o)), (1, .int kx1), (2, .int kx2), (3, .int kx3), (4, .int kx4), (5, .int kx5), (6, .int kx6), (7, .int kx7)] 143 []) (h : P_Mod_copy_b167 o K143 M x1 x2 x3 x4 x5 x6 x7 t0 = some z) : fw_J p l e (headSpec wsX9_copy rm_Mod_copy).room s m args below meth c D vwCl N ad EE 9 0 0 (fw_E below args s D vwCl N ad EE (some (.int z.1)) z.2) M [(0, .ref (ad o)), (1, .int x1), (2, .int x2), (3, .int x3), (4, .int x4), (5, .int x5), (6, .int x6), (7, .int x7)] 167 [.int t0] := by
  unfold P_Mod_copy_b167 at h
  refine fw_istore (pc := 167) C (L2 := [(0, .ref _), (1, .int _), (2, .int _), (3, .int _), (4, .int _), (5, .int _), (6, .int _), (7, .int _), (8, .int _)]) [1, 2, 3, 4, 5, 6, 7, 8, 0] dX9_copy_167 (by decide) rfl ?_
  refine fw_aload_n (pc := 169) C 0 dX9_copy_169 rfl rfl ?_
  refine fw_getr (pc := 170) C ho.2.2.2.2.2.1.1 rfl qX9_copy_16 dX9_copy_170 ?_
  refine fw_bipush (pc := 173) C (v := 40) dX9_copy_173 fk_bipush_40 ?_
  refine fw_iload_n (pc := 175) C 3 dX9_copy_175 rfl rfl ?_
  refine fw_imul (pc := 176) C dX9_copy_176 ?_
  refine fw_iload (pc := 177) C 4 dX9_copy_177 rfl ?_
  refine fw_iadd (pc := 179) C dX9_copy_179 ?_
  refine fw_iload (pc := 180) C 8 dX9_copy_180 rfl ?_
  refine fw_iadd (pc := 182) C dX9_copy_182 ?_
  refine fw_aload_n (pc := 183) C 0 dX9_copy_183 rfl rfl ?_
  refine fw_getr (pc := 184) C ho.2.2.2.2.2.1.1 rfl qX9_copy_16 dX9_copy_184 ?_
  refine fw_bipush (pc := 187) C (v := 40) dX9_copy_187 fk_bipush_40 ?_
  refine fw_iload_n (pc := 189) C 1 dX9_copy_189 rfl rfl ?_
  refine fw_imul (pc := 190) C dX9_copy_190 ?_
  refine fw_iload_n (pc := 191) C 2 dX9_copy_191 rfl rfl ?_
  refine fw_iadd (pc := 192) C dX9_copy_192 ?_
  refine fw_iload (pc := 193) C 8 dX9_copy_193 rfl ?_
  refine fw_iadd (pc := 195) C dX9_copy_195 ?_
  obtain ⟨v1, hv1, h⟩ := fw_bind h
  refine fw_iald (pc := 196) C 0 ho.2.2.2.2.2.1.2 rfl hv1 dX9_copy_196 ?_
  obtain ⟨M2, hM2, h⟩ := fw_bind h
  refine fw_iast (pc := 197) C 0 ho.2.2.2.2.2.1.2 rfl hM2 dX9_copy_197 ?_
  refine fw_iinc (pc := 198) C (v := 1) (L2 := [(0, .ref _), (1, .int _), (2, .int _), (3, .int _), (4, .int _), (5, .int _), (6, .int _), (7, .int _), (8, .int _)]) 7 [1, 2, 3, 4, 5, 6, 7, 0, 8] dX9_copy_198 rfl fk_iconst_1 (by decide) rfl ?_
  refine fw_goto (pc := 201) C (tgt := 143) dX9_copy_201 (by decide) ?_
  exact fw_sub [0, 1, 2, 3, 4, 5, 6, 7] rfl (hK143 _ _ _ _ _ _ _ _ h)
set_option maxRecDepth 100000 in
theorem c_Mod_copy_b143 {p : Program} {l : Launch} {e : Env} {s : State} {m : MethodId} {args : Array Value} {below : List Frame} {meth : Method} {c : Code} {D : va_G} {cI cZ cH cR : ClassId} {N : Nat} {ad : Nat → Nat} {EE : fw_M → Nat → va_E} {o : Nat} {K143 : fw_M → Int32 → Int32 → Int32 → Int32 → Int32 → Int32 → Int32 → Option (Int32 × fw_M)} {M : fw_M} {x1 : Int32} {x2 : Int32} {x3 : Int32} {x4 : Int32} {x5 : Int32} {x6 : Int32} {x7 : Int32} {z : (Int32 × fw_M)} (C : fw_C p s m args meth c cX9_copy RX9 wsX9_copy 9 (some .int) D vwCl (fw_tys cI cZ cH cR) N ad fw_nw0) (ho : o_Mod EE ad N cI cZ cH cR o) (hK143 : ∀ (Mk : fw_M) (kx1 : Int32) (kx2 : Int32) (kx3 : Int32) (kx4 : Int32) (kx5 : Int32) (kx6 : Int32) (kx7 : Int32), K143 Mk kx1 kx2 kx3 kx4 kx5 kx6 kx7 = some z → fw_J p l e (headSpec wsX9_copy rm_Mod_copy).room s m args below meth c D vwCl N ad EE 9 0 0 (fw_E below args s D vwCl N ad EE (some (.int z.1)) z.2) Mk [(0, .ref (ad o)), (1, .int kx1), (2, .int kx2), (3, .int kx3), (4, .int kx4), (5, .int kx5), (6, .int kx6), (7, .int kx7)] 143 []) (h : P_Mod_copy_b143 o K143 M x1 x2 x3 x4 x5 x6 x7 = some z) : fw_J p l e (headSpec wsX9_copy rm_Mod_copy).room s m args below meth c D vwCl N ad EE 9 0 0 (fw_E below args s D vwCl N ad EE (some (.int z.1)) z.2) M [(0, .ref (ad o)), (1, .int x1), (2, .int x2), (3, .int x3), (4, .int x4), (5, .int x5), (6, .int x6), (7, .int x7)] 143 [] := by
  unfold P_Mod_copy_b143 at h
  refine fw_iload (pc := 143) C 7 dX9_copy_143 rfl ?_
  refine fw_iload (pc := 145) C 5 dX9_copy_145 rfl ?_
  refine fw_icmp_ge (pc := 147) C (tgt := 204) dX9_copy_147 (by decide) (fun c1 => ?_) (fun c1 => ?_)
  · have h := fw_ift h c1
    refine fw_iload (pc := 204) C 5 dX9_copy_204 rfl ?_
    exact fw_iret (pc := 206) C (fw_p1 h) (fw_p2 h) dX9_copy_206
  · have h := fw_iff h c1
    refine fw_iload (pc := 150) C 6 dX9_copy_150 rfl ?_
    refine fw_if_eq (pc := 152) C (tgt := 160) dX9_copy_152 (by decide) (fun c2 => ?_) (fun c2 => ?_)
    · have h := fw_ift h c2
      refine fw_iload (pc := 160) C 5 dX9_copy_160 rfl ?_
      refine fw_iconst (pc := 162) C (v := 1) dX9_copy_162 fk_iconst_1 ?_
      refine fw_isub (pc := 163) C dX9_copy_163 ?_
      refine fw_iload (pc := 164) C 7 dX9_copy_164 rfl ?_
      refine fw_isub (pc := 166) C dX9_copy_166 ?_
      exact (c_Mod_copy_b167 C ho hK143 h)
    · have h := fw_iff h c2
      refine fw_iload (pc := 155) C 7 dX9_copy_155 rfl ?_
      refine fw_goto (pc := 157) C (tgt := 167) dX9_copy_157 (by decide) ?_
      exact (c_Mod_copy_b167 C ho hK143 h)
theorem c_Mod_copy_h143 {p : Program} {l : Launch} {e : Env} {s : State} {m : MethodId} {args : Array Value} {below : List Frame} {meth : Method} {c : Code} {D : va_G} {cI cZ cH cR : ClassId} {N : Nat} {ad : Nat → Nat} {EE : fw_M → Nat → va_E} {o : Nat} {z : (Int32 × fw_M)} (C : fw_C p s m args meth c cX9_copy RX9 wsX9_copy 9 (some .int) D vwCl (fw_tys cI cZ cH cR) N ad fw_nw0) (ho : o_Mod EE ad N cI cZ cH cR o) : ∀ (n : Nat) (M : fw_M) (x1 : Int32) (x2 : Int32) (x3 : Int32) (x4 : Int32) (x5 : Int32) (x6 : Int32) (x7 : Int32), P_Mod_copy_h143 o n M x1 x2 x3 x4 x5 x6 x7 = some z → fw_J p l e (headSpec wsX9_copy rm_Mod_copy).room s m args below meth c D vwCl N ad EE 9 0 0 (fw_E below args s D vwCl N ad EE (some (.int z.1)) z.2) M [(0, .ref (ad o)), (1, .int x1), (2, .int x2), (3, .int x3), (4, .int x4), (5, .int x5), (6, .int x6), (7, .int x7)] 143 [] := by
  intro n
  induction n with
  | zero => intro M x1 x2 x3 x4 x5 x6 x7  h; cases h
  | succ n ih => intro M x1 x2 x3 x4 x5 x6 x7  h; exact c_Mod_copy_b143 C ho ih  h
set_option maxRecDepth 100000 in
theorem c_Mod_copy_b138 {p : Program} {l : Launch} {e : Env} {s : State} {m : MethodId} {args : Array Value} {below : List Frame} {meth : Method} {c : Code} {D : va_G} {cI cZ cH cR : ClassId} {N : Nat} {ad : Nat → Nat} {EE : fw_M → Nat → va_E} {o : Nat} {M : fw_M} {x1 : Int32} {x2 : Int32} {x3 : Int32} {x4 : Int32} {x5 : Int32} {t0 : Int32} {z : (Int32 × fw_M)} (C : fw_C p s m args meth c cX9_copy RX9 wsX9_copy 9 (some .int) D vwCl (fw_tys cI cZ cH cR) N ad fw_nw0) (ho : o_Mod EE ad N cI cZ cH cR o) (h : P_Mod_copy_b138 o M x1 x2 x3 x4 x5 t0 = some z) : fw_J p l e (headSpec wsX9_copy rm_Mod_copy).room s m args below meth c D vwCl N ad EE 9 0 0 (fw_E below args s D vwCl N ad EE (some (.int z.1)) z.2) M [(0, .ref (ad o)), (1, .int x1), (2, .int x2), (3, .int x3), (4, .int x4), (5, .int x5)] 138 [.int t0] := by
  unfold P_Mod_copy_b138 at h
  refine fw_istore (pc := 138) C (L2 := [(0, .ref _), (1, .int _), (2, .int _), (3, .int _), (4, .int _), (5, .int _), (6, .int _)]) [1, 2, 3, 4, 5, 6, 0] dX9_copy_138 (by decide) rfl ?_
  refine fw_iconst (pc := 140) C (v := 0) dX9_copy_140 fk_iconst_0 ?_
  refine fw_istore (pc := 141) C (L2 := [(0, .ref _), (1, .int _), (2, .int _), (3, .int _), (4, .int _), (5, .int _), (6, .int _), (7, .int _)]) [1, 2, 3, 4, 5, 6, 7, 0] dX9_copy_141 (by decide) rfl ?_
  exact (c_Mod_copy_h143 C ho _ _ _ _ _ _ _ _ _ h)
set_option maxRecDepth 100000 in
theorem c_Mod_copy_b0 {p : Program} {l : Launch} {e : Env} {s : State} {m : MethodId} {args : Array Value} {below : List Frame} {meth : Method} {c : Code} {D : va_G} {cI cZ cH cR : ClassId} {N : Nat} {ad : Nat → Nat} {EE : fw_M → Nat → va_E} {o : Nat} {M : fw_M} {x1 : Int32} {x2 : Int32} {x3 : Int32} {x4 : Int32} {x5 : Int32} {z : (Int32 × fw_M)} (C : fw_C p s m args meth c cX9_copy RX9 wsX9_copy 9 (some .int) D vwCl (fw_tys cI cZ cH cR) N ad fw_nw0) (ho : o_Mod EE ad N cI cZ cH cR o) (h : P_Mod_copy_b0 o M x1 x2 x3 x4 x5 = some z) : fw_J p l e (headSpec wsX9_copy rm_Mod_copy).room s m args below meth c D vwCl N ad EE 9 0 0 (fw_E below args s D vwCl N ad EE (some (.int z.1)) z.2) M [(0, .ref (ad o)), (1, .int x1), (2, .int x2), (3, .int x3), (4, .int x4), (5, .int x5)] 0 [] := by
  unfold P_Mod_copy_b0 at h
  refine fw_aload_n (pc := 0) C 0 dX9_copy_0 rfl rfl ?_
  refine fw_iconst (pc := 1) C (v := 0) dX9_copy_1 fk_iconst_0 ?_
  have h := fw_plh h
  refine fw_puti (pc := 2) C ho.2.1 rfl qX9_copy_47 tyX9 tyX9_ok nmX9 rfl rfl dX9_copy_2 ?_
  refine fw_iload_n (pc := 5) C 1 dX9_copy_5 rfl rfl ?_
  obtain ⟨v2, hv2, h⟩ := fw_bind h
  refine fw_callS1 (pc := 6) C (rest := []) (c_Mod_isRow  hv2) (va_cwS 1 C.2.2.2.2.1 gX9_copy_X9_isRow rfl rfl rfl hd_Mod_isRow.2 ⟨Nat.le_of_ble_eq_true rfl, Nat.le_of_ble_eq_true rfl⟩) rfl ⟨Nat.zero_le _, Nat.zero_le _⟩ rfl (Nat.le_of_ble_eq_true rfl) dX9_copy_6 ?_
  refine fw_if_eq (pc := 9) C (tgt := 19) dX9_copy_9 (by decide) (fun c3 => ?_) (fun c3 => ?_)
  · have h := fw_ift h c3
    exact fw_sub [] rfl (c_Mod_copy_b19 C ho h)
  · have h := fw_iff h c3
    refine fw_iload_n (pc := 12) C 3 dX9_copy_12 rfl rfl ?_
    obtain ⟨v4, hv4, h⟩ := fw_bind h
    refine fw_callS1 (pc := 13) C (rest := []) (c_Mod_isRow  hv4) (va_cwS 1 C.2.2.2.2.1 gX9_copy_X9_isRow rfl rfl rfl hd_Mod_isRow.2 ⟨Nat.le_of_ble_eq_true rfl, Nat.le_of_ble_eq_true rfl⟩) rfl ⟨Nat.zero_le _, Nat.zero_le _⟩ rfl (Nat.le_of_ble_eq_true rfl) dX9_copy_13 ?_
    refine fw_if_ne (pc := 16) C (tgt := 22) dX9_copy_16 (by decide) (fun c5 => ?_) (fun c5 => ?_)
    · have h := fw_iff h c5
      refine fw_aload_n (pc := 22) C 0 dX9_copy_22 rfl rfl ?_
      refine fw_iconst (pc := 23) C (v := 0) dX9_copy_23 fk_iconst_0 ?_
      have h := fw_plh h
      refine fw_puti (pc := 24) C ho.2.2.1 rfl qX9_copy_51 tyX9 tyX9_ok nmX9 rfl rfl dX9_copy_24 ?_
      refine fw_aload_n (pc := 27) C 0 dX9_copy_27 rfl rfl ?_
      refine fw_getr (pc := 28) C ho.2.2.2.1.1 rfl qX9_copy_7 dX9_copy_28 ?_
      refine fw_iload_n (pc := 31) C 1 dX9_copy_31 rfl rfl ?_
      obtain ⟨v7, hv7, h⟩ := fw_bind h
      refine fw_iald (pc := 32) C 0 ho.2.2.2.1.2 rfl hv7 dX9_copy_32 ?_
      refine fw_if_lt (pc := 33) C (tgt := 45) dX9_copy_33 (by decide) (fun c8 => ?_) (fun c8 => ?_)
      · have h := fw_ift h c8
        exact fw_sub [0] rfl (c_Mod_copy_b45 C ho h)
      · have h := fw_iff h c8
        refine fw_aload_n (pc := 36) C 0 dX9_copy_36 rfl rfl ?_
        refine fw_getr (pc := 37) C ho.2.2.2.1.1 rfl qX9_copy_7 dX9_copy_37 ?_
        refine fw_iload_n (pc := 40) C 3 dX9_copy_40 rfl rfl ?_
        obtain ⟨v9, hv9, h⟩ := fw_bind h
        refine fw_iald (pc := 41) C 0 ho.2.2.2.1.2 rfl hv9 dX9_copy_41 ?_
        refine fw_if_ge (pc := 42) C (tgt := 51) dX9_copy_42 (by decide) (fun c10 => ?_) (fun c10 => ?_)
        · have h := fw_ift h c10
          refine fw_aload_n (pc := 51) C 0 dX9_copy_51 rfl rfl ?_
          refine fw_getr (pc := 52) C ho.2.2.2.1.1 rfl qX9_copy_7 dX9_copy_52 ?_
          refine fw_iload_n (pc := 55) C 1 dX9_copy_55 rfl rfl ?_
          obtain ⟨v11, hv11, h⟩ := fw_bind h
          refine fw_iald (pc := 56) C 0 ho.2.2.2.1.2 rfl hv11 dX9_copy_56 ?_
          refine fw_aload_n (pc := 57) C 0 dX9_copy_57 rfl rfl ?_
          refine fw_getr (pc := 58) C ho.2.2.2.1.1 rfl qX9_copy_7 dX9_copy_58 ?_
          refine fw_iload_n (pc := 61) C 3 dX9_copy_61 rfl rfl ?_
          obtain ⟨v12, hv12, h⟩ := fw_bind h
          refine fw_iald (pc := 62) C 0 ho.2.2.2.1.2 rfl hv12 dX9_copy_62 ?_
          refine fw_icmp_eq (pc := 63) C (tgt := 72) dX9_copy_63 (by decide) (fun c13 => ?_) (fun c13 => ?_)
          · have h := fw_ift h c13
            refine fw_iload_n (pc := 72) C 2 dX9_copy_72 rfl rfl ?_
            refine fw_if_lt (pc := 73) C (tgt := 121) dX9_copy_73 (by decide) (fun c14 => ?_) (fun c14 => ?_)
            · have h := fw_ift h c14
              exact fw_sub [0] rfl (c_Mod_copy_b121 C ho h)
            · have h := fw_iff h c14
              refine fw_iload (pc := 76) C 4 dX9_copy_76 rfl ?_
              refine fw_if_lt (pc := 78) C (tgt := 121) dX9_copy_78 (by decide) (fun c15 => ?_) (fun c15 => ?_)
              · have h := fw_ift h c15
                exact fw_sub [0] rfl (c_Mod_copy_b121 C ho h)
              · have h := fw_iff h c15
                refine fw_iload (pc := 81) C 5 dX9_copy_81 rfl ?_
                refine fw_if_lt (pc := 83) C (tgt := 121) dX9_copy_83 (by decide) (fun c16 => ?_) (fun c16 => ?_)
                · have h := fw_ift h c16
                  exact fw_sub [0] rfl (c_Mod_copy_b121 C ho h)
                · have h := fw_iff h c16
                  refine fw_iload_n (pc := 86) C 2 dX9_copy_86 rfl rfl ?_
                  refine fw_i2l (pc := 87) C dX9_copy_87 ?_
                  refine fw_iload (pc := 88) C 5 dX9_copy_88 rfl ?_
                  refine fw_i2l (pc := 90) C dX9_copy_90 ?_
                  refine fw_ladd (pc := 91) C dX9_copy_91 ?_
                  refine fw_aload_n (pc := 92) C 0 dX9_copy_92 rfl rfl ?_
                  refine fw_getr (pc := 93) C ho.2.2.2.2.1.1 rfl qX9_copy_13 dX9_copy_93 ?_
                  refine fw_iload_n (pc := 96) C 1 dX9_copy_96 rfl rfl ?_
                  obtain ⟨v17, hv17, h⟩ := fw_bind h
                  refine fw_iald (pc := 97) C 0 ho.2.2.2.2.1.2 rfl hv17 dX9_copy_97 ?_
                  refine fw_i2l (pc := 98) C dX9_copy_98 ?_
                  refine fw_lcmp (pc := 99) C dX9_copy_99 ?_
                  refine fw_if_gt (pc := 100) C (tgt := 121) dX9_copy_100 (by decide) (fun c18 => ?_) (fun c18 => ?_)
                  · have h := fw_ift h c18
                    exact fw_sub [0] rfl (c_Mod_copy_b121 C ho h)
                  · have h := fw_iff h c18
                    refine fw_iload (pc := 103) C 4 dX9_copy_103 rfl ?_
                    refine fw_i2l (pc := 105) C dX9_copy_105 ?_
                    refine fw_iload (pc := 106) C 5 dX9_copy_106 rfl ?_
                    refine fw_i2l (pc := 108) C dX9_copy_108 ?_
                    refine fw_ladd (pc := 109) C dX9_copy_109 ?_
                    refine fw_aload_n (pc := 110) C 0 dX9_copy_110 rfl rfl ?_
                    refine fw_getr (pc := 111) C ho.2.2.2.2.1.1 rfl qX9_copy_13 dX9_copy_111 ?_
                    refine fw_iload_n (pc := 114) C 3 dX9_copy_114 rfl rfl ?_
                    obtain ⟨v19, hv19, h⟩ := fw_bind h
                    refine fw_iald (pc := 115) C 0 ho.2.2.2.2.1.2 rfl hv19 dX9_copy_115 ?_
                    refine fw_i2l (pc := 116) C dX9_copy_116 ?_
                    refine fw_lcmp (pc := 117) C dX9_copy_117 ?_
                    refine fw_if_le (pc := 118) C (tgt := 127) dX9_copy_118 (by decide) (fun c20 => ?_) (fun c20 => ?_)
                    · have h := fw_ift h c20
                      refine fw_iload_n (pc := 127) C 2 dX9_copy_127 rfl rfl ?_
                      refine fw_iload (pc := 128) C 4 dX9_copy_128 rfl ?_
                      refine fw_icmp_lt (pc := 130) C (tgt := 137) dX9_copy_130 (by decide) (fun c21 => ?_) (fun c21 => ?_)
                      · have h := fw_ift h c21
                        refine fw_iconst (pc := 137) C (v := 0) dX9_copy_137 fk_iconst_0 ?_
                        exact (c_Mod_copy_b138 C ho h)
                      · have h := fw_iff h c21
                        refine fw_iconst (pc := 133) C (v := 1) dX9_copy_133 fk_iconst_1 ?_
                        refine fw_goto (pc := 134) C (tgt := 138) dX9_copy_134 (by decide) ?_
                        exact (c_Mod_copy_b138 C ho h)
                    · have h := fw_iff h c20
                      exact fw_sub [0] rfl (c_Mod_copy_b121 C ho h)
          · have h := fw_iff h c13
            refine fw_aload_n (pc := 66) C 0 dX9_copy_66 rfl rfl ?_
            refine fw_iconst (pc := 67) C (v := 5) dX9_copy_67 fk_iconst_5 ?_
            obtain ⟨q22, hq22, h⟩ := fw_bind h
            refine fw_callV1 (pc := 68) C (rest := []) (c_Mod_finding ho hq22) (cwV 1 C.2.2.2.2.1 gX9_copy_X9_finding rfl rfl rfl hd_Mod_finding ⟨Nat.le_of_ble_eq_true rfl, Nat.le_of_ble_eq_true rfl⟩) ho.1 rfl rfl ⟨Nat.zero_le _, Nat.zero_le _⟩ rfl (Nat.le_of_ble_eq_true rfl) dX9_copy_68 ?_
            exact fw_iret (pc := 71) C (fw_p1 h) (fw_p2 h) dX9_copy_71
        · have h := fw_iff h c10
          exact fw_sub [0] rfl (c_Mod_copy_b45 C ho h)
    · have h := fw_ift h c5
      exact fw_sub [] rfl (c_Mod_copy_b19 C ho h)
theorem c_Mod_copy {l : Launch} {D : va_G} {cI cZ cH cR : ClassId} {N : Nat} {ad : Nat → Nat} {EE : fw_M → Nat → va_E} {o : Nat} {M : fw_M} {a0 : Int32} {a1 : Int32} {a2 : Int32} {a3 : Int32} {a4 : Int32} {z : (Int32 × fw_M)} (ho : o_Mod EE ad N cI cZ cH cR o) (h : P_Mod_copy o M a0 a1 a2 a3 a4 = some z) : fw_Met l yX9_copy wsX9_copy rm_Mod_copy D vwCl (fw_tys cI cZ cH cR) N ad fw_nw0 EE [.ref (ad o), .int a0, .int a1, .int a2, .int a3, .int a4] M (some (.int z.1)) z.2 := by
  unfold P_Mod_copy at h
  exact fw_intro (cc := cX9_copy) (maxL := 9) (ret := some .int) (own := RX9) (by decide) rfl rfl (Nat.le_of_ble_eq_true rfl) (fun p e s m args below meth c C => fw_sub [0, 1, 2, 3, 4, 5] rfl (c_Mod_copy_b0 C ho h))
abbrev rm_Mod_drop : Room := { frames := 2, cells := 0, slots := 0, locals := 45 }
theorem hd_Mod_drop : yX9_drop.cls = RX9 ∧ yX9_drop.cls ≠ "java/lang/invoke/MethodHandle" ∧ yX9_drop.cls ≠ "java/lang/invoke/VarHandle" ∧ (parseMethodDescriptor yX9_drop.desc).map (fun d => d.parameters.length) = some 1 := by decide +kernel
theorem qX9_drop_47 : fw_G wsX9_drop RX9 47 RX9 TX9 24 0 := ⟨by decide +kernel, by decide +kernel, by decide⟩
theorem kX9_drop_67 : Cond.constant RX9 67 (-1000001) ∈ wsX9_drop := by decide +kernel
theorem qX9_drop_51 : fw_G wsX9_drop RX9 51 RX9 TX9 24 1 := ⟨by decide +kernel, by decide +kernel, by decide⟩
theorem qX9_drop_7 : fw_G wsX9_drop RX9 7 RX9 TX9 24 2 := ⟨by decide +kernel, by decide +kernel, by decide⟩
theorem qX9_drop_13 : fw_G wsX9_drop RX9 13 RX9 TX9 24 3 := ⟨by decide +kernel, by decide +kernel, by decide⟩
def P_Mod_drop_b0 (o : Nat) (M : fw_M) (x1 : Int32) : Option (Int32 × fw_M) := fw_pl (fw_set M o 0 (0 : Int32)) fun M1 => (P_Mod_isRow M1 x1).bind fun v2 => (if v2 = (0 : Int32) then some ((-1000001 : Int32), M1) else fw_pl (fw_set M1 o 1 (0 : Int32)) fun M4 => (fw_ald M4 (o + 1) 8 x1).bind fun v5 => (if (0 : Int32) ≤ v5 then (fw_ast M4 (o + 1) 8 x1 (-1 : Int32)).bind fun M7 => (fw_ald M7 (o + 2) 8 x1).bind fun v8 => some (v8, M7) else (P_Mod_finding o M4 (1 : Int32)).bind fun q9 => some (q9.1, q9.2)))
def P_Mod_drop (o : Nat) (M : fw_M) (a0 : Int32) : Option (Int32 × fw_M) := P_Mod_drop_b0 o M a0
set_option maxRecDepth 100000 in
theorem c_Mod_drop_b0 {p : Program} {l : Launch} {e : Env} {s : State} {m : MethodId} {args : Array Value} {below : List Frame} {meth : Method} {c : Code} {D : va_G} {cI cZ cH cR : ClassId} {N : Nat} {ad : Nat → Nat} {EE : fw_M → Nat → va_E} {o : Nat} {M : fw_M} {x1 : Int32} {z : (Int32 × fw_M)} (C : fw_C p s m args meth c cX9_drop RX9 wsX9_drop 2 (some .int) D vwCl (fw_tys cI cZ cH cR) N ad fw_nw0) (ho : o_Mod EE ad N cI cZ cH cR o) (h : P_Mod_drop_b0 o M x1 = some z) : fw_J p l e (headSpec wsX9_drop rm_Mod_drop).room s m args below meth c D vwCl N ad EE 2 0 0 (fw_E below args s D vwCl N ad EE (some (.int z.1)) z.2) M [(0, .ref (ad o)), (1, .int x1)] 0 [] := by
  unfold P_Mod_drop_b0 at h
  refine fw_aload_n (pc := 0) C 0 dX9_drop_0 rfl rfl ?_
  refine fw_iconst (pc := 1) C (v := 0) dX9_drop_1 fk_iconst_0 ?_
  have h := fw_plh h
  refine fw_puti (pc := 2) C ho.2.1 rfl qX9_drop_47 tyX9 tyX9_ok nmX9 rfl rfl dX9_drop_2 ?_
  refine fw_iload_n (pc := 5) C 1 dX9_drop_5 rfl rfl ?_
  obtain ⟨v2, hv2, h⟩ := fw_bind h
  refine fw_callS1 (pc := 6) C (rest := []) (c_Mod_isRow  hv2) (va_cwS 1 C.2.2.2.2.1 gX9_drop_X9_isRow rfl rfl rfl hd_Mod_isRow.2 ⟨Nat.le_of_ble_eq_true rfl, Nat.le_of_ble_eq_true rfl⟩) rfl ⟨Nat.zero_le _, Nat.zero_le _⟩ rfl (Nat.le_of_ble_eq_true rfl) dX9_drop_6 ?_
  refine fw_if_ne (pc := 9) C (tgt := 15) dX9_drop_9 (by decide) (fun c3 => ?_) (fun c3 => ?_)
  · have h := fw_iff h c3
    refine fw_aload_n (pc := 15) C 0 dX9_drop_15 rfl rfl ?_
    refine fw_iconst (pc := 16) C (v := 0) dX9_drop_16 fk_iconst_0 ?_
    have h := fw_plh h
    refine fw_puti (pc := 17) C ho.2.2.1 rfl qX9_drop_51 tyX9 tyX9_ok nmX9 rfl rfl dX9_drop_17 ?_
    refine fw_aload_n (pc := 20) C 0 dX9_drop_20 rfl rfl ?_
    refine fw_getr (pc := 21) C ho.2.2.2.1.1 rfl qX9_drop_7 dX9_drop_21 ?_
    refine fw_iload_n (pc := 24) C 1 dX9_drop_24 rfl rfl ?_
    obtain ⟨v5, hv5, h⟩ := fw_bind h
    refine fw_iald (pc := 25) C 0 ho.2.2.2.1.2 rfl hv5 dX9_drop_25 ?_
    refine fw_if_ge (pc := 26) C (tgt := 35) dX9_drop_26 (by decide) (fun c6 => ?_) (fun c6 => ?_)
    · have h := fw_ift h c6
      refine fw_aload_n (pc := 35) C 0 dX9_drop_35 rfl rfl ?_
      refine fw_getr (pc := 36) C ho.2.2.2.1.1 rfl qX9_drop_7 dX9_drop_36 ?_
      refine fw_iload_n (pc := 39) C 1 dX9_drop_39 rfl rfl ?_
      refine fw_iconst (pc := 40) C (v := -1) dX9_drop_40 fk_iconst_m1 ?_
      obtain ⟨M7, hM7, h⟩ := fw_bind h
      refine fw_iast (pc := 41) C 0 ho.2.2.2.1.2 rfl hM7 dX9_drop_41 ?_
      refine fw_aload_n (pc := 42) C 0 dX9_drop_42 rfl rfl ?_
      refine fw_getr (pc := 43) C ho.2.2.2.2.1.1 rfl qX9_drop_13 dX9_drop_43 ?_
      refine fw_iload_n (pc := 46) C 1 dX9_drop_46 rfl rfl ?_
      obtain ⟨v8, hv8, h⟩ := fw_bind h
      refine fw_iald (pc := 47) C 0 ho.2.2.2.2.1.2 rfl hv8 dX9_drop_47 ?_
      exact fw_iret (pc := 48) C (fw_p1 h) (fw_p2 h) dX9_drop_48
    · have h := fw_iff h c6
      refine fw_aload_n (pc := 29) C 0 dX9_drop_29 rfl rfl ?_
      refine fw_iconst (pc := 30) C (v := 1) dX9_drop_30 fk_iconst_1 ?_
      obtain ⟨q9, hq9, h⟩ := fw_bind h
      refine fw_callV1 (pc := 31) C (rest := []) (c_Mod_finding ho hq9) (cwV 1 C.2.2.2.2.1 gX9_drop_X9_finding rfl rfl rfl hd_Mod_finding ⟨Nat.le_of_ble_eq_true rfl, Nat.le_of_ble_eq_true rfl⟩) ho.1 rfl rfl ⟨Nat.zero_le _, Nat.zero_le _⟩ rfl (Nat.le_of_ble_eq_true rfl) dX9_drop_31 ?_
      exact fw_iret (pc := 34) C (fw_p1 h) (fw_p2 h) dX9_drop_34
  · have h := fw_ift h c3
    refine fw_ldc (pc := 12) C (v := -1000001) kX9_drop_67 dX9_drop_12 ?_
    exact fw_iret (pc := 14) C (fw_p1 h) (fw_p2 h) dX9_drop_14
theorem c_Mod_drop {l : Launch} {D : va_G} {cI cZ cH cR : ClassId} {N : Nat} {ad : Nat → Nat} {EE : fw_M → Nat → va_E} {o : Nat} {M : fw_M} {a0 : Int32} {z : (Int32 × fw_M)} (ho : o_Mod EE ad N cI cZ cH cR o) (h : P_Mod_drop o M a0 = some z) : fw_Met l yX9_drop wsX9_drop rm_Mod_drop D vwCl (fw_tys cI cZ cH cR) N ad fw_nw0 EE [.ref (ad o), .int a0] M (some (.int z.1)) z.2 := by
  unfold P_Mod_drop at h
  exact fw_intro (cc := cX9_drop) (maxL := 2) (ret := some .int) (own := RX9) (by decide) rfl rfl (Nat.le_of_ble_eq_true rfl) (fun p e s m args below meth c C => fw_sub [0, 1] rfl (c_Mod_drop_b0 C ho h))
abbrev rm_Mod_feed : Room := { frames := 1, cells := 0, slots := 0, locals := 25 }
theorem hd_Mod_feed : yX9_feed.cls = RX9 ∧ yX9_feed.cls ≠ "java/lang/invoke/MethodHandle" ∧ yX9_feed.cls ≠ "java/lang/invoke/VarHandle" ∧ (parseMethodDescriptor yX9_feed.desc).map (fun d => d.parameters.length) = some 1 := by decide +kernel
theorem qX9_feed_47 : fw_G wsX9_feed RX9 47 RX9 TX9 24 0 := ⟨by decide +kernel, by decide +kernel, by decide⟩
theorem kX9_feed_72 : Cond.constantLong RX9 72 (255) ∈ wsX9_feed := by decide +kernel
theorem kX9_feed_67 : Cond.constant RX9 67 (-1000001) ∈ wsX9_feed := by decide +kernel
theorem qX9_feed_74 : fw_G wsX9_feed RX9 74 RX9 TX9 24 11 := ⟨by decide +kernel, by decide +kernel, by decide⟩
theorem kX9_feed_77 : Cond.constant RX9 77 (-1000003) ∈ wsX9_feed := by decide +kernel
theorem qX9_feed_31 : fw_G wsX9_feed RX9 31 RX9 TX9 24 10 := ⟨by decide +kernel, by decide +kernel, by decide⟩
def P_Mod_feed_b0 (o : Nat) (M : fw_M) (x1 : Int32) : Option (Int32 × fw_M) := fw_pl (fw_set M o 0 (0 : Int32)) fun M1 => (P_Mod_in M1 (Int32.toInt64 x1) (0 : Int64) (255 : Int64)).bind fun v2 => (if v2 = (0 : Int32) then some ((-1000001 : Int32), M1) else (if (M1 o 11) = (100 : Int32) then some ((-1000003 : Int32), M1) else (fw_ast M1 (o + 8) 100 (M1 o 11) x1).bind fun M5 => fw_pl (fw_set M5 o 11 ((M5 o 11) + (1 : Int32))) fun M6 => some ((M6 o 11), M6)))
def P_Mod_feed (o : Nat) (M : fw_M) (a0 : Int32) : Option (Int32 × fw_M) := P_Mod_feed_b0 o M a0
set_option maxRecDepth 100000 in
theorem c_Mod_feed_b0 {p : Program} {l : Launch} {e : Env} {s : State} {m : MethodId} {args : Array Value} {below : List Frame} {meth : Method} {c : Code} {D : va_G} {cI cZ cH cR : ClassId} {N : Nat} {ad : Nat → Nat} {EE : fw_M → Nat → va_E} {o : Nat} {M : fw_M} {x1 : Int32} {z : (Int32 × fw_M)} (C : fw_C p s m args meth c cX9_feed RX9 wsX9_feed 2 (some .int) D vwCl (fw_tys cI cZ cH cR) N ad fw_nw0) (ho : o_Mod EE ad N cI cZ cH cR o) (h : P_Mod_feed_b0 o M x1 = some z) : fw_J p l e (headSpec wsX9_feed rm_Mod_feed).room s m args below meth c D vwCl N ad EE 2 0 0 (fw_E below args s D vwCl N ad EE (some (.int z.1)) z.2) M [(0, .ref (ad o)), (1, .int x1)] 0 [] := by
  unfold P_Mod_feed_b0 at h
  refine fw_aload_n (pc := 0) C 0 dX9_feed_0 rfl rfl ?_
  refine fw_iconst (pc := 1) C (v := 0) dX9_feed_1 fk_iconst_0 ?_
  have h := fw_plh h
  refine fw_puti (pc := 2) C ho.2.1 rfl qX9_feed_47 tyX9 tyX9_ok nmX9 rfl rfl dX9_feed_2 ?_
  refine fw_iload_n (pc := 5) C 1 dX9_feed_5 rfl rfl ?_
  refine fw_i2l (pc := 6) C dX9_feed_6 ?_
  refine fw_lconst (pc := 7) C (v := 0) dX9_feed_7 fk_lconst_0 ?_
  refine fw_ldc2 (pc := 8) C (v := 255) kX9_feed_72 dX9_feed_8 ?_
  obtain ⟨v2, hv2, h⟩ := fw_bind h
  refine fw_callS1 (pc := 11) C (rest := []) (c_Mod_in  hv2) (va_cwS 3 C.2.2.2.2.1 gX9_feed_X9_in rfl rfl rfl hd_Mod_in.2 ⟨Nat.le_of_ble_eq_true rfl, Nat.le_of_ble_eq_true rfl⟩) rfl ⟨Nat.zero_le _, Nat.zero_le _⟩ rfl (Nat.le_of_ble_eq_true rfl) dX9_feed_11 ?_
  refine fw_if_ne (pc := 14) C (tgt := 20) dX9_feed_14 (by decide) (fun c3 => ?_) (fun c3 => ?_)
  · have h := fw_iff h c3
    refine fw_aload_n (pc := 20) C 0 dX9_feed_20 rfl rfl ?_
    refine fw_geti (pc := 21) C ho.2.2.2.2.2.2.2.2.2.2.2.2.1 rfl qX9_feed_74 dX9_feed_21 ?_
    refine fw_bipush (pc := 24) C (v := 100) dX9_feed_24 fk_bipush_100 ?_
    refine fw_icmp_ne (pc := 26) C (tgt := 32) dX9_feed_26 (by decide) (fun c4 => ?_) (fun c4 => ?_)
    · have h := fw_iff h c4
      refine fw_aload_n (pc := 32) C 0 dX9_feed_32 rfl rfl ?_
      refine fw_getr (pc := 33) C ho.2.2.2.2.2.2.2.2.2.2.2.1.1 rfl qX9_feed_31 dX9_feed_33 ?_
      refine fw_aload_n (pc := 36) C 0 dX9_feed_36 rfl rfl ?_
      refine fw_geti (pc := 37) C ho.2.2.2.2.2.2.2.2.2.2.2.2.1 rfl qX9_feed_74 dX9_feed_37 ?_
      refine fw_iload_n (pc := 40) C 1 dX9_feed_40 rfl rfl ?_
      obtain ⟨M5, hM5, h⟩ := fw_bind h
      refine fw_iast (pc := 41) C 0 ho.2.2.2.2.2.2.2.2.2.2.2.1.2 rfl hM5 dX9_feed_41 ?_
      refine fw_aload_n (pc := 42) C 0 dX9_feed_42 rfl rfl ?_
      refine fw_dup (pc := 43) C dX9_feed_43 rfl ?_
      refine fw_geti (pc := 44) C ho.2.2.2.2.2.2.2.2.2.2.2.2.1 rfl qX9_feed_74 dX9_feed_44 ?_
      refine fw_iconst (pc := 47) C (v := 1) dX9_feed_47 fk_iconst_1 ?_
      refine fw_iadd (pc := 48) C dX9_feed_48 ?_
      have h := fw_plh h
      refine fw_puti (pc := 49) C ho.2.2.2.2.2.2.2.2.2.2.2.2.1 rfl qX9_feed_74 tyX9 tyX9_ok nmX9 rfl rfl dX9_feed_49 ?_
      refine fw_aload_n (pc := 52) C 0 dX9_feed_52 rfl rfl ?_
      refine fw_geti (pc := 53) C ho.2.2.2.2.2.2.2.2.2.2.2.2.1 rfl qX9_feed_74 dX9_feed_53 ?_
      exact fw_iret (pc := 56) C (fw_p1 h) (fw_p2 h) dX9_feed_56
    · have h := fw_ift h c4
      refine fw_ldc (pc := 29) C (v := -1000003) kX9_feed_77 dX9_feed_29 ?_
      exact fw_iret (pc := 31) C (fw_p1 h) (fw_p2 h) dX9_feed_31
  · have h := fw_ift h c3
    refine fw_ldc (pc := 17) C (v := -1000001) kX9_feed_67 dX9_feed_17 ?_
    exact fw_iret (pc := 19) C (fw_p1 h) (fw_p2 h) dX9_feed_19
theorem c_Mod_feed {l : Launch} {D : va_G} {cI cZ cH cR : ClassId} {N : Nat} {ad : Nat → Nat} {EE : fw_M → Nat → va_E} {o : Nat} {M : fw_M} {a0 : Int32} {z : (Int32 × fw_M)} (ho : o_Mod EE ad N cI cZ cH cR o) (h : P_Mod_feed o M a0 = some z) : fw_Met l yX9_feed wsX9_feed rm_Mod_feed D vwCl (fw_tys cI cZ cH cR) N ad fw_nw0 EE [.ref (ad o), .int a0] M (some (.int z.1)) z.2 := by
  unfold P_Mod_feed at h
  exact fw_intro (cc := cX9_feed) (maxL := 2) (ret := some .int) (own := RX9) (by decide) rfl rfl (Nat.le_of_ble_eq_true rfl) (fun p e s m args below meth c C => fw_sub [0, 1] rfl (c_Mod_feed_b0 C ho h))
abbrev rm_Mod_bad : Room := { frames := 0, cells := 0, slots := 0, locals := 0 }
theorem hd_Mod_bad : yX9_bad.cls = RX9 ∧ yX9_bad.cls ≠ "java/lang/invoke/MethodHandle" ∧ yX9_bad.cls ≠ "java/lang/invoke/VarHandle" ∧ (parseMethodDescriptor yX9_bad.desc).map (fun d => d.parameters.length) = some 1 := by decide +kernel
theorem qX9_bad_78 : fw_G wsX9_bad RX9 78 RX9 TX9 24 16 := ⟨by decide +kernel, by decide +kernel, by decide⟩
theorem qX9_bad_81 : fw_G wsX9_bad RX9 81 RX9 TX9 24 13 := ⟨by decide +kernel, by decide +kernel, by decide⟩
theorem qX9_bad_84 : fw_G wsX9_bad RX9 84 RX9 TX9 24 17 := ⟨by decide +kernel, by decide +kernel, by decide⟩
def P_Mod_bad_b20 (o : Nat) (M : fw_M) : Option fw_M := some M
def P_Mod_bad_b0 (o : Nat) (M : fw_M) (x1 : Int32) : Option fw_M := (if (M o 16) = (0 : Int32) then fw_pl (fw_set M o 16 x1) fun M2 => fw_pl (fw_set M2 o 17 (M2 o 13)) fun M3 => P_Mod_bad_b20 o M3 else P_Mod_bad_b20 o M)
def P_Mod_bad (o : Nat) (M : fw_M) (a0 : Int32) : Option fw_M := P_Mod_bad_b0 o M a0
set_option maxRecDepth 100000 in
theorem c_Mod_bad_b20 {p : Program} {l : Launch} {e : Env} {s : State} {m : MethodId} {args : Array Value} {below : List Frame} {meth : Method} {c : Code} {D : va_G} {cI cZ cH cR : ClassId} {N : Nat} {ad : Nat → Nat} {EE : fw_M → Nat → va_E} {o : Nat} {M : fw_M} {z : fw_M} (C : fw_C p s m args meth c cX9_bad RX9 wsX9_bad 2 (none) D vwCl (fw_tys cI cZ cH cR) N ad fw_nw0) (ho : o_Mod EE ad N cI cZ cH cR o) (h : P_Mod_bad_b20 o M = some z) : fw_J p l e (headSpec wsX9_bad rm_Mod_bad).room s m args below meth c D vwCl N ad EE 2 0 0 (fw_E below args s D vwCl N ad EE none z) M [] 20 [] := by
  unfold P_Mod_bad_b20 at h
  exact fw_vret (pc := 20) C (Option.some.inj h) dX9_bad_20
set_option maxRecDepth 100000 in
theorem c_Mod_bad_b0 {p : Program} {l : Launch} {e : Env} {s : State} {m : MethodId} {args : Array Value} {below : List Frame} {meth : Method} {c : Code} {D : va_G} {cI cZ cH cR : ClassId} {N : Nat} {ad : Nat → Nat} {EE : fw_M → Nat → va_E} {o : Nat} {M : fw_M} {x1 : Int32} {z : fw_M} (C : fw_C p s m args meth c cX9_bad RX9 wsX9_bad 2 (none) D vwCl (fw_tys cI cZ cH cR) N ad fw_nw0) (ho : o_Mod EE ad N cI cZ cH cR o) (h : P_Mod_bad_b0 o M x1 = some z) : fw_J p l e (headSpec wsX9_bad rm_Mod_bad).room s m args below meth c D vwCl N ad EE 2 0 0 (fw_E below args s D vwCl N ad EE none z) M [(0, .ref (ad o)), (1, .int x1)] 0 [] := by
  unfold P_Mod_bad_b0 at h
  refine fw_aload_n (pc := 0) C 0 dX9_bad_0 rfl rfl ?_
  refine fw_geti (pc := 1) C ho.2.2.2.2.2.2.2.2.2.2.2.2.2.2.2.2.2.1 rfl qX9_bad_78 dX9_bad_1 ?_
  refine fw_if_ne (pc := 4) C (tgt := 20) dX9_bad_4 (by decide) (fun c1 => ?_) (fun c1 => ?_)
  · have h := fw_iff h c1
    exact fw_sub [] rfl (c_Mod_bad_b20 C ho h)
  · have h := fw_ift h c1
    refine fw_aload_n (pc := 7) C 0 dX9_bad_7 rfl rfl ?_
    refine fw_iload_n (pc := 8) C 1 dX9_bad_8 rfl rfl ?_
    have h := fw_plh h
    refine fw_puti (pc := 9) C ho.2.2.2.2.2.2.2.2.2.2.2.2.2.2.2.2.2.1 rfl qX9_bad_78 tyX9 tyX9_ok nmX9 rfl rfl dX9_bad_9 ?_
    refine fw_aload_n (pc := 12) C 0 dX9_bad_12 rfl rfl ?_
    refine fw_aload_n (pc := 13) C 0 dX9_bad_13 rfl rfl ?_
    refine fw_geti (pc := 14) C ho.2.2.2.2.2.2.2.2.2.2.2.2.2.2.1 rfl qX9_bad_81 dX9_bad_14 ?_
    have h := fw_plh h
    refine fw_puti (pc := 17) C ho.2.2.2.2.2.2.2.2.2.2.2.2.2.2.2.2.2.2.1 rfl qX9_bad_84 tyX9 tyX9_ok nmX9 rfl rfl dX9_bad_17 ?_
    exact fw_sub [] rfl (c_Mod_bad_b20 C ho h)
theorem c_Mod_bad {l : Launch} {D : va_G} {cI cZ cH cR : ClassId} {N : Nat} {ad : Nat → Nat} {EE : fw_M → Nat → va_E} {o : Nat} {M : fw_M} {a0 : Int32} {z : fw_M} (ho : o_Mod EE ad N cI cZ cH cR o) (h : P_Mod_bad o M a0 = some z) : fw_Met l yX9_bad wsX9_bad rm_Mod_bad D vwCl (fw_tys cI cZ cH cR) N ad fw_nw0 EE [.ref (ad o), .int a0] M none z := by
  unfold P_Mod_bad at h
  exact fw_intro (cc := cX9_bad) (maxL := 2) (ret := none) (own := RX9) (by decide) rfl rfl (Nat.le_of_ble_eq_true rfl) (fun p e s m args below meth c C => fw_sub [0, 1] rfl (c_Mod_bad_b0 C ho h))
abbrev rm_Mod_nextToken : Room := { frames := 1, cells := 0, slots := 0, locals := 25 }
theorem hd_Mod_nextToken : yX9_nextToken.cls = RX9 ∧ yX9_nextToken.cls ≠ "java/lang/invoke/MethodHandle" ∧ yX9_nextToken.cls ≠ "java/lang/invoke/VarHandle" ∧ (parseMethodDescriptor yX9_nextToken.desc).map (fun d => d.parameters.length) = some 0 := by decide +kernel
theorem qX9_nextToken_87 : fw_G wsX9_nextToken RX9 87 RX9 TX9 24 12 := ⟨by decide +kernel, by decide +kernel, by decide⟩
theorem qX9_nextToken_81 : fw_G wsX9_nextToken RX9 81 RX9 TX9 24 13 := ⟨by decide +kernel, by decide +kernel, by decide⟩
theorem qX9_nextToken_74 : fw_G wsX9_nextToken RX9 74 RX9 TX9 24 11 := ⟨by decide +kernel, by decide +kernel, by decide⟩
theorem qX9_nextToken_31 : fw_G wsX9_nextToken RX9 31 RX9 TX9 24 10 := ⟨by decide +kernel, by decide +kernel, by decide⟩
theorem kX9_nextToken_90 : Cond.constant RX9 90 (-1000000) ∈ wsX9_nextToken := by decide +kernel
theorem qX9_nextToken_91 : fw_G wsX9_nextToken RX9 91 RX9 TX9 24 15 := ⟨by decide +kernel, by decide +kernel, by decide⟩
theorem kX9_nextToken_94 : Cond.constantLong RX9 94 (97) ∈ wsX9_nextToken := by decide +kernel
theorem kX9_nextToken_96 : Cond.constantLong RX9 96 (122) ∈ wsX9_nextToken := by decide +kernel
theorem kX9_nextToken_98 : Cond.constantLong RX9 98 (48) ∈ wsX9_nextToken := by decide +kernel
theorem kX9_nextToken_100 : Cond.constantLong RX9 100 (57) ∈ wsX9_nextToken := by decide +kernel
theorem qX9_nextToken_102 : fw_G wsX9_nextToken RX9 102 RX9 TX9 24 14 := ⟨by decide +kernel, by decide +kernel, by decide⟩
def P_Mod_nextToken_b277 (o : Nat) (M : fw_M) : Option fw_M := some M
def P_Mod_nextToken_b274 (o : Nat) (M : fw_M) (t1 : Int32) : Option fw_M := fw_pl (fw_set M o 14 t1) fun M1 => P_Mod_nextToken_b277 o M1
def P_Mod_nextToken_b255 (o : Nat) (M : fw_M) : Option fw_M := (if ((M o 12) - (M o 13)) ≤ (2 : Int32) then P_Mod_nextToken_b274 o M (3 : Int32) else P_Mod_nextToken_b274 o M (0 : Int32))
def P_Mod_nextToken_b239 (o : Nat) (K165 : fw_M → Option fw_M) (M : fw_M) (t1 : Int32) : Option fw_M := fw_pl (fw_set M o 15 t1) fun M1 => fw_pl (fw_set M1 o 12 ((M1 o 12) + (1 : Int32))) fun M2 => K165 M2
def P_Mod_nextToken_b165 (o : Nat) (K165 : fw_M → Option fw_M) (M : fw_M) : Option fw_M := (if (M o 11) ≤ (M o 12) then P_Mod_nextToken_b255 o M else (fw_ald M (o + 8) 100 (M o 12)).bind fun v2 => (P_Mod_in M (Int32.toInt64 v2) (48 : Int64) (57 : Int64)).bind fun v3 => (if v3 = (0 : Int32) then P_Mod_nextToken_b255 o M else (if (2 : Int32) ≤ ((M o 12) - (M o 13)) then P_Mod_nextToken_b239 o K165 M (M o 15) else (fw_ald M (o + 8) 100 (M o 12)).bind fun v6 => P_Mod_nextToken_b239 o K165 M ((((10 : Int32) * (M o 15)) + v6) - (48 : Int32)))))
def P_Mod_nextToken_h165 (o : Nat) : Nat → fw_M → Option fw_M
  | 0, _ => none
  | n + 1, M => P_Mod_nextToken_b165 o (P_Mod_nextToken_h165 o n) M
def P_Mod_nextToken_b142 (o : Nat) (M : fw_M) (t1 : Int32) (t2 : Int32) : Option fw_M := fw_pl (fw_set M o 12 (t1 + t2)) fun M1 => (if (M1 o 14) = (3 : Int32) then fw_pl (fw_set M1 o 15 ((M1 o 15) - (48 : Int32))) fun M3 => P_Mod_nextToken_h165 o fw_fu M3 else P_Mod_nextToken_b277 o M1)
def P_Mod_nextToken_b118 (o : Nat) (M : fw_M) (t1 : Int32) : Option fw_M := fw_pl (fw_set M o 14 t1) fun M1 => (if (M1 o 11) ≤ (M1 o 12) then P_Mod_nextToken_b142 o M1 (M1 o 12) (0 : Int32) else P_Mod_nextToken_b142 o M1 (M1 o 12) (1 : Int32))
def P_Mod_nextToken_b113 (o : Nat) (M : fw_M) : Option fw_M := P_Mod_nextToken_b118 o M (4 : Int32)
def P_Mod_nextToken_b34 (o : Nat) (M : fw_M) (t1 : Int32) : Option fw_M := fw_pl (fw_set M o 15 t1) fun M1 => (if (M1 o 12) = (M1 o 11) then P_Mod_nextToken_b118 o M1 (1 : Int32) else (P_Mod_in M1 (Int32.toInt64 (M1 o 15)) (97 : Int64) (122 : Int64)).bind fun v3 => (if v3 = (0 : Int32) then (P_Mod_in M1 (Int32.toInt64 (M1 o 15)) (48 : Int64) (57 : Int64)).bind fun v5 => (if v5 = (0 : Int32) then (if (M1 o 15) = (44 : Int32) then P_Mod_nextToken_b113 o M1 else (if (M1 o 15) = (59 : Int32) then P_Mod_nextToken_b113 o M1 else P_Mod_nextToken_b118 o M1 (0 : Int32))) else P_Mod_nextToken_b118 o M1 (3 : Int32)) else P_Mod_nextToken_b118 o M1 (2 : Int32)))
def P_Mod_nextToken_b0 (o : Nat) (M : fw_M) : Option fw_M := fw_pl (fw_set M o 13 (M o 12)) fun M1 => (if (M1 o 11) ≤ (M1 o 12) then P_Mod_nextToken_b34 o M1 (-1000000 : Int32) else (fw_ald M1 (o + 8) 100 (M1 o 12)).bind fun v3 => P_Mod_nextToken_b34 o M1 v3)
def P_Mod_nextToken (o : Nat) (M : fw_M) : Option fw_M := P_Mod_nextToken_b0 o M
set_option maxRecDepth 100000 in
theorem c_Mod_nextToken_b277 {p : Program} {l : Launch} {e : Env} {s : State} {m : MethodId} {args : Array Value} {below : List Frame} {meth : Method} {c : Code} {D : va_G} {cI cZ cH cR : ClassId} {N : Nat} {ad : Nat → Nat} {EE : fw_M → Nat → va_E} {o : Nat} {M : fw_M} {z : fw_M} (C : fw_C p s m args meth c cX9_nextToken RX9 wsX9_nextToken 1 (none) D vwCl (fw_tys cI cZ cH cR) N ad fw_nw0) (ho : o_Mod EE ad N cI cZ cH cR o) (h : P_Mod_nextToken_b277 o M = some z) : fw_J p l e (headSpec wsX9_nextToken rm_Mod_nextToken).room s m args below meth c D vwCl N ad EE 1 0 0 (fw_E below args s D vwCl N ad EE none z) M [] 277 [] := by
  unfold P_Mod_nextToken_b277 at h
  exact fw_vret (pc := 277) C (Option.some.inj h) dX9_nextToken_277
set_option maxRecDepth 100000 in
theorem c_Mod_nextToken_b274 {p : Program} {l : Launch} {e : Env} {s : State} {m : MethodId} {args : Array Value} {below : List Frame} {meth : Method} {c : Code} {D : va_G} {cI cZ cH cR : ClassId} {N : Nat} {ad : Nat → Nat} {EE : fw_M → Nat → va_E} {o : Nat} {M : fw_M} {t1 : Int32} {z : fw_M} (C : fw_C p s m args meth c cX9_nextToken RX9 wsX9_nextToken 1 (none) D vwCl (fw_tys cI cZ cH cR) N ad fw_nw0) (ho : o_Mod EE ad N cI cZ cH cR o) (h : P_Mod_nextToken_b274 o M t1 = some z) : fw_J p l e (headSpec wsX9_nextToken rm_Mod_nextToken).room s m args below meth c D vwCl N ad EE 1 0 0 (fw_E below args s D vwCl N ad EE none z) M [] 274 [.int t1, .ref (ad o)] := by
  unfold P_Mod_nextToken_b274 at h
  have h := fw_plh h
  refine fw_puti (pc := 274) C ho.2.2.2.2.2.2.2.2.2.2.2.2.2.2.2.1 rfl qX9_nextToken_102 tyX9 tyX9_ok nmX9 rfl rfl dX9_nextToken_274 ?_
  exact (c_Mod_nextToken_b277 C ho h)
set_option maxRecDepth 100000 in
theorem c_Mod_nextToken_b255 {p : Program} {l : Launch} {e : Env} {s : State} {m : MethodId} {args : Array Value} {below : List Frame} {meth : Method} {c : Code} {D : va_G} {cI cZ cH cR : ClassId} {N : Nat} {ad : Nat → Nat} {EE : fw_M → Nat → va_E} {o : Nat} {M : fw_M} {z : fw_M} (C : fw_C p s m args meth c cX9_nextToken RX9 wsX9_nextToken 1 (none) D vwCl (fw_tys cI cZ cH cR) N ad fw_nw0) (ho : o_Mod EE ad N cI cZ cH cR o) (h : P_Mod_nextToken_b255 o M = some z) : fw_J p l e (headSpec wsX9_nextToken rm_Mod_nextToken).room s m args below meth c D vwCl N ad EE 1 0 0 (fw_E below args s D vwCl N ad EE none z) M [(0, .ref (ad o))] 255 [] := by
  unfold P_Mod_nextToken_b255 at h
  refine fw_aload_n (pc := 255) C 0 dX9_nextToken_255 rfl rfl ?_
  refine fw_aload_n (pc := 256) C 0 dX9_nextToken_256 rfl rfl ?_
  refine fw_geti (pc := 257) C ho.2.2.2.2.2.2.2.2.2.2.2.2.2.1 rfl qX9_nextToken_87 dX9_nextToken_257 ?_
  refine fw_aload_n (pc := 260) C 0 dX9_nextToken_260 rfl rfl ?_
  refine fw_geti (pc := 261) C ho.2.2.2.2.2.2.2.2.2.2.2.2.2.2.1 rfl qX9_nextToken_81 dX9_nextToken_261 ?_
  refine fw_isub (pc := 264) C dX9_nextToken_264 ?_
  refine fw_iconst (pc := 265) C (v := 2) dX9_nextToken_265 fk_iconst_2 ?_
  refine fw_icmp_le (pc := 266) C (tgt := 273) dX9_nextToken_266 (by decide) (fun c1 => ?_) (fun c1 => ?_)
  · have h := fw_ift h c1
    refine fw_iconst (pc := 273) C (v := 3) dX9_nextToken_273 fk_iconst_3 ?_
    exact fw_sub [] rfl (c_Mod_nextToken_b274 C ho h)
  · have h := fw_iff h c1
    refine fw_iconst (pc := 269) C (v := 0) dX9_nextToken_269 fk_iconst_0 ?_
    refine fw_goto (pc := 270) C (tgt := 274) dX9_nextToken_270 (by decide) ?_
    exact fw_sub [] rfl (c_Mod_nextToken_b274 C ho h)
set_option maxRecDepth 100000 in
theorem c_Mod_nextToken_b239 {p : Program} {l : Launch} {e : Env} {s : State} {m : MethodId} {args : Array Value} {below : List Frame} {meth : Method} {c : Code} {D : va_G} {cI cZ cH cR : ClassId} {N : Nat} {ad : Nat → Nat} {EE : fw_M → Nat → va_E} {o : Nat} {K165 : fw_M → Option fw_M} {M : fw_M} {t1 : Int32} {z : fw_M} (C : fw_C p s m args meth c cX9_nextToken RX9 wsX9_nextToken 1 (none) D vwCl (fw_tys cI cZ cH cR) N ad fw_nw0) (ho : o_Mod EE ad N cI cZ cH cR o) (hK165 : ∀ (Mk : fw_M), K165 Mk = some z → fw_J p l e (headSpec wsX9_nextToken rm_Mod_nextToken).room s m args below meth c D vwCl N ad EE 1 0 0 (fw_E below args s D vwCl N ad EE none z) Mk [(0, .ref (ad o))] 165 []) (h : P_Mod_nextToken_b239 o K165 M t1 = some z) : fw_J p l e (headSpec wsX9_nextToken rm_Mod_nextToken).room s m args below meth c D vwCl N ad EE 1 0 0 (fw_E below args s D vwCl N ad EE none z) M [(0, .ref (ad o))] 239 [.int t1, .ref (ad o)] := by
  unfold P_Mod_nextToken_b239 at h
  have h := fw_plh h
  refine fw_puti (pc := 239) C ho.2.2.2.2.2.2.2.2.2.2.2.2.2.2.2.2.1 rfl qX9_nextToken_91 tyX9 tyX9_ok nmX9 rfl rfl dX9_nextToken_239 ?_
  refine fw_aload_n (pc := 242) C 0 dX9_nextToken_242 rfl rfl ?_
  refine fw_dup (pc := 243) C dX9_nextToken_243 rfl ?_
  refine fw_geti (pc := 244) C ho.2.2.2.2.2.2.2.2.2.2.2.2.2.1 rfl qX9_nextToken_87 dX9_nextToken_244 ?_
  refine fw_iconst (pc := 247) C (v := 1) dX9_nextToken_247 fk_iconst_1 ?_
  refine fw_iadd (pc := 248) C dX9_nextToken_248 ?_
  have h := fw_plh h
  refine fw_puti (pc := 249) C ho.2.2.2.2.2.2.2.2.2.2.2.2.2.1 rfl qX9_nextToken_87 tyX9 tyX9_ok nmX9 rfl rfl dX9_nextToken_249 ?_
  refine fw_goto (pc := 252) C (tgt := 165) dX9_nextToken_252 (by decide) ?_
  exact (hK165 _ h)
set_option maxRecDepth 100000 in
theorem c_Mod_nextToken_b165 {p : Program} {l : Launch} {e : Env} {s : State} {m : MethodId} {args : Array Value} {below : List Frame} {meth : Method} {c : Code} {D : va_G} {cI cZ cH cR : ClassId} {N : Nat} {ad : Nat → Nat} {EE : fw_M → Nat → va_E} {o : Nat} {K165 : fw_M → Option fw_M} {M : fw_M} {z : fw_M} (C : fw_C p s m args meth c cX9_nextToken RX9 wsX9_nextToken 1 (none) D vwCl (fw_tys cI cZ cH cR) N ad fw_nw0) (ho : o_Mod EE ad N cI cZ cH cR o) (hK165 : ∀ (Mk : fw_M), K165 Mk = some z → fw_J p l e (headSpec wsX9_nextToken rm_Mod_nextToken).room s m args below meth c D vwCl N ad EE 1 0 0 (fw_E below args s D vwCl N ad EE none z) Mk [(0, .ref (ad o))] 165 []) (h : P_Mod_nextToken_b165 o K165 M = some z) : fw_J p l e (headSpec wsX9_nextToken rm_Mod_nextToken).room s m args below meth c D vwCl N ad EE 1 0 0 (fw_E below args s D vwCl N ad EE none z) M [(0, .ref (ad o))] 165 [] := by
  unfold P_Mod_nextToken_b165 at h
  refine fw_aload_n (pc := 165) C 0 dX9_nextToken_165 rfl rfl ?_
  refine fw_geti (pc := 166) C ho.2.2.2.2.2.2.2.2.2.2.2.2.2.1 rfl qX9_nextToken_87 dX9_nextToken_166 ?_
  refine fw_aload_n (pc := 169) C 0 dX9_nextToken_169 rfl rfl ?_
  refine fw_geti (pc := 170) C ho.2.2.2.2.2.2.2.2.2.2.2.2.1 rfl qX9_nextToken_74 dX9_nextToken_170 ?_
  refine fw_icmp_ge (pc := 173) C (tgt := 255) dX9_nextToken_173 (by decide) (fun c1 => ?_) (fun c1 => ?_)
  · have h := fw_ift h c1
    exact (c_Mod_nextToken_b255 C ho h)
  · have h := fw_iff h c1
    refine fw_aload_n (pc := 176) C 0 dX9_nextToken_176 rfl rfl ?_
    refine fw_getr (pc := 177) C ho.2.2.2.2.2.2.2.2.2.2.2.1.1 rfl qX9_nextToken_31 dX9_nextToken_177 ?_
    refine fw_aload_n (pc := 180) C 0 dX9_nextToken_180 rfl rfl ?_
    refine fw_geti (pc := 181) C ho.2.2.2.2.2.2.2.2.2.2.2.2.2.1 rfl qX9_nextToken_87 dX9_nextToken_181 ?_
    obtain ⟨v2, hv2, h⟩ := fw_bind h
    refine fw_iald (pc := 184) C 0 ho.2.2.2.2.2.2.2.2.2.2.2.1.2 rfl hv2 dX9_nextToken_184 ?_
    refine fw_i2l (pc := 185) C dX9_nextToken_185 ?_
    refine fw_ldc2 (pc := 186) C (v := 48) kX9_nextToken_98 dX9_nextToken_186 ?_
    refine fw_ldc2 (pc := 189) C (v := 57) kX9_nextToken_100 dX9_nextToken_189 ?_
    obtain ⟨v3, hv3, h⟩ := fw_bind h
    refine fw_callS1 (pc := 192) C (rest := []) (c_Mod_in  hv3) (va_cwS 3 C.2.2.2.2.1 gX9_nextToken_X9_in rfl rfl rfl hd_Mod_in.2 ⟨Nat.le_of_ble_eq_true rfl, Nat.le_of_ble_eq_true rfl⟩) rfl ⟨Nat.zero_le _, Nat.zero_le _⟩ rfl (Nat.le_of_ble_eq_true rfl) dX9_nextToken_192 ?_
    refine fw_if_eq (pc := 195) C (tgt := 255) dX9_nextToken_195 (by decide) (fun c4 => ?_) (fun c4 => ?_)
    · have h := fw_ift h c4
      exact (c_Mod_nextToken_b255 C ho h)
    · have h := fw_iff h c4
      refine fw_aload_n (pc := 198) C 0 dX9_nextToken_198 rfl rfl ?_
      refine fw_aload_n (pc := 199) C 0 dX9_nextToken_199 rfl rfl ?_
      refine fw_geti (pc := 200) C ho.2.2.2.2.2.2.2.2.2.2.2.2.2.1 rfl qX9_nextToken_87 dX9_nextToken_200 ?_
      refine fw_aload_n (pc := 203) C 0 dX9_nextToken_203 rfl rfl ?_
      refine fw_geti (pc := 204) C ho.2.2.2.2.2.2.2.2.2.2.2.2.2.2.1 rfl qX9_nextToken_81 dX9_nextToken_204 ?_
      refine fw_isub (pc := 207) C dX9_nextToken_207 ?_
      refine fw_iconst (pc := 208) C (v := 2) dX9_nextToken_208 fk_iconst_2 ?_
      refine fw_icmp_ge (pc := 209) C (tgt := 235) dX9_nextToken_209 (by decide) (fun c5 => ?_) (fun c5 => ?_)
      · have h := fw_ift h c5
        refine fw_aload_n (pc := 235) C 0 dX9_nextToken_235 rfl rfl ?_
        refine fw_geti (pc := 236) C ho.2.2.2.2.2.2.2.2.2.2.2.2.2.2.2.2.1 rfl qX9_nextToken_91 dX9_nextToken_236 ?_
        exact (c_Mod_nextToken_b239 C ho hK165 h)
      · have h := fw_iff h c5
        refine fw_bipush (pc := 212) C (v := 10) dX9_nextToken_212 fk_bipush_10 ?_
        refine fw_aload_n (pc := 214) C 0 dX9_nextToken_214 rfl rfl ?_
        refine fw_geti (pc := 215) C ho.2.2.2.2.2.2.2.2.2.2.2.2.2.2.2.2.1 rfl qX9_nextToken_91 dX9_nextToken_215 ?_
        refine fw_imul (pc := 218) C dX9_nextToken_218 ?_
        refine fw_aload_n (pc := 219) C 0 dX9_nextToken_219 rfl rfl ?_
        refine fw_getr (pc := 220) C ho.2.2.2.2.2.2.2.2.2.2.2.1.1 rfl qX9_nextToken_31 dX9_nextToken_220 ?_
        refine fw_aload_n (pc := 223) C 0 dX9_nextToken_223 rfl rfl ?_
        refine fw_geti (pc := 224) C ho.2.2.2.2.2.2.2.2.2.2.2.2.2.1 rfl qX9_nextToken_87 dX9_nextToken_224 ?_
        obtain ⟨v6, hv6, h⟩ := fw_bind h
        refine fw_iald (pc := 227) C 0 ho.2.2.2.2.2.2.2.2.2.2.2.1.2 rfl hv6 dX9_nextToken_227 ?_
        refine fw_iadd (pc := 228) C dX9_nextToken_228 ?_
        refine fw_bipush (pc := 229) C (v := 48) dX9_nextToken_229 fk_bipush_48 ?_
        refine fw_isub (pc := 231) C dX9_nextToken_231 ?_
        refine fw_goto (pc := 232) C (tgt := 239) dX9_nextToken_232 (by decide) ?_
        exact (c_Mod_nextToken_b239 C ho hK165 h)
theorem c_Mod_nextToken_h165 {p : Program} {l : Launch} {e : Env} {s : State} {m : MethodId} {args : Array Value} {below : List Frame} {meth : Method} {c : Code} {D : va_G} {cI cZ cH cR : ClassId} {N : Nat} {ad : Nat → Nat} {EE : fw_M → Nat → va_E} {o : Nat} {z : fw_M} (C : fw_C p s m args meth c cX9_nextToken RX9 wsX9_nextToken 1 (none) D vwCl (fw_tys cI cZ cH cR) N ad fw_nw0) (ho : o_Mod EE ad N cI cZ cH cR o) : ∀ (n : Nat) (M : fw_M), P_Mod_nextToken_h165 o n M = some z → fw_J p l e (headSpec wsX9_nextToken rm_Mod_nextToken).room s m args below meth c D vwCl N ad EE 1 0 0 (fw_E below args s D vwCl N ad EE none z) M [(0, .ref (ad o))] 165 [] := by
  intro n
  induction n with
  | zero => intro M  h; cases h
  | succ n ih => intro M  h; exact c_Mod_nextToken_b165 C ho ih  h
set_option maxRecDepth 100000 in
theorem c_Mod_nextToken_b142 {p : Program} {l : Launch} {e : Env} {s : State} {m : MethodId} {args : Array Value} {below : List Frame} {meth : Method} {c : Code} {D : va_G} {cI cZ cH cR : ClassId} {N : Nat} {ad : Nat → Nat} {EE : fw_M → Nat → va_E} {o : Nat} {M : fw_M} {t1 : Int32} {t2 : Int32} {z : fw_M} (C : fw_C p s m args meth c cX9_nextToken RX9 wsX9_nextToken 1 (none) D vwCl (fw_tys cI cZ cH cR) N ad fw_nw0) (ho : o_Mod EE ad N cI cZ cH cR o) (h : P_Mod_nextToken_b142 o M t1 t2 = some z) : fw_J p l e (headSpec wsX9_nextToken rm_Mod_nextToken).room s m args below meth c D vwCl N ad EE 1 0 0 (fw_E below args s D vwCl N ad EE none z) M [(0, .ref (ad o))] 142 [.int t2, .int t1, .ref (ad o)] := by
  unfold P_Mod_nextToken_b142 at h
  refine fw_iadd (pc := 142) C dX9_nextToken_142 ?_
  have h := fw_plh h
  refine fw_puti (pc := 143) C ho.2.2.2.2.2.2.2.2.2.2.2.2.2.1 rfl qX9_nextToken_87 tyX9 tyX9_ok nmX9 rfl rfl dX9_nextToken_143 ?_
  refine fw_aload_n (pc := 146) C 0 dX9_nextToken_146 rfl rfl ?_
  refine fw_geti (pc := 147) C ho.2.2.2.2.2.2.2.2.2.2.2.2.2.2.2.1 rfl qX9_nextToken_102 dX9_nextToken_147 ?_
  refine fw_iconst (pc := 150) C (v := 3) dX9_nextToken_150 fk_iconst_3 ?_
  refine fw_icmp_ne (pc := 151) C (tgt := 277) dX9_nextToken_151 (by decide) (fun c2 => ?_) (fun c2 => ?_)
  · have h := fw_iff h c2
    exact fw_sub [] rfl (c_Mod_nextToken_b277 C ho h)
  · have h := fw_ift h c2
    refine fw_aload_n (pc := 154) C 0 dX9_nextToken_154 rfl rfl ?_
    refine fw_dup (pc := 155) C dX9_nextToken_155 rfl ?_
    refine fw_geti (pc := 156) C ho.2.2.2.2.2.2.2.2.2.2.2.2.2.2.2.2.1 rfl qX9_nextToken_91 dX9_nextToken_156 ?_
    refine fw_bipush (pc := 159) C (v := 48) dX9_nextToken_159 fk_bipush_48 ?_
    refine fw_isub (pc := 161) C dX9_nextToken_161 ?_
    have h := fw_plh h
    refine fw_puti (pc := 162) C ho.2.2.2.2.2.2.2.2.2.2.2.2.2.2.2.2.1 rfl qX9_nextToken_91 tyX9 tyX9_ok nmX9 rfl rfl dX9_nextToken_162 ?_
    exact (c_Mod_nextToken_h165 C ho _ _ h)
set_option maxRecDepth 100000 in
theorem c_Mod_nextToken_b118 {p : Program} {l : Launch} {e : Env} {s : State} {m : MethodId} {args : Array Value} {below : List Frame} {meth : Method} {c : Code} {D : va_G} {cI cZ cH cR : ClassId} {N : Nat} {ad : Nat → Nat} {EE : fw_M → Nat → va_E} {o : Nat} {M : fw_M} {t1 : Int32} {z : fw_M} (C : fw_C p s m args meth c cX9_nextToken RX9 wsX9_nextToken 1 (none) D vwCl (fw_tys cI cZ cH cR) N ad fw_nw0) (ho : o_Mod EE ad N cI cZ cH cR o) (h : P_Mod_nextToken_b118 o M t1 = some z) : fw_J p l e (headSpec wsX9_nextToken rm_Mod_nextToken).room s m args below meth c D vwCl N ad EE 1 0 0 (fw_E below args s D vwCl N ad EE none z) M [(0, .ref (ad o))] 118 [.int t1, .ref (ad o)] := by
  unfold P_Mod_nextToken_b118 at h
  have h := fw_plh h
  refine fw_puti (pc := 118) C ho.2.2.2.2.2.2.2.2.2.2.2.2.2.2.2.1 rfl qX9_nextToken_102 tyX9 tyX9_ok nmX9 rfl rfl dX9_nextToken_118 ?_
  refine fw_aload_n (pc := 121) C 0 dX9_nextToken_121 rfl rfl ?_
  refine fw_dup (pc := 122) C dX9_nextToken_122 rfl ?_
  refine fw_geti (pc := 123) C ho.2.2.2.2.2.2.2.2.2.2.2.2.2.1 rfl qX9_nextToken_87 dX9_nextToken_123 ?_
  refine fw_aload_n (pc := 126) C 0 dX9_nextToken_126 rfl rfl ?_
  refine fw_geti (pc := 127) C ho.2.2.2.2.2.2.2.2.2.2.2.2.2.1 rfl qX9_nextToken_87 dX9_nextToken_127 ?_
  refine fw_aload_n (pc := 130) C 0 dX9_nextToken_130 rfl rfl ?_
  refine fw_geti (pc := 131) C ho.2.2.2.2.2.2.2.2.2.2.2.2.1 rfl qX9_nextToken_74 dX9_nextToken_131 ?_
  refine fw_icmp_ge (pc := 134) C (tgt := 141) dX9_nextToken_134 (by decide) (fun c2 => ?_) (fun c2 => ?_)
  · have h := fw_ift h c2
    refine fw_iconst (pc := 141) C (v := 0) dX9_nextToken_141 fk_iconst_0 ?_
    exact (c_Mod_nextToken_b142 C ho h)
  · have h := fw_iff h c2
    refine fw_iconst (pc := 137) C (v := 1) dX9_nextToken_137 fk_iconst_1 ?_
    refine fw_goto (pc := 138) C (tgt := 142) dX9_nextToken_138 (by decide) ?_
    exact (c_Mod_nextToken_b142 C ho h)
set_option maxRecDepth 100000 in
theorem c_Mod_nextToken_b113 {p : Program} {l : Launch} {e : Env} {s : State} {m : MethodId} {args : Array Value} {below : List Frame} {meth : Method} {c : Code} {D : va_G} {cI cZ cH cR : ClassId} {N : Nat} {ad : Nat → Nat} {EE : fw_M → Nat → va_E} {o : Nat} {M : fw_M} {z : fw_M} (C : fw_C p s m args meth c cX9_nextToken RX9 wsX9_nextToken 1 (none) D vwCl (fw_tys cI cZ cH cR) N ad fw_nw0) (ho : o_Mod EE ad N cI cZ cH cR o) (h : P_Mod_nextToken_b113 o M = some z) : fw_J p l e (headSpec wsX9_nextToken rm_Mod_nextToken).room s m args below meth c D vwCl N ad EE 1 0 0 (fw_E below args s D vwCl N ad EE none z) M [(0, .ref (ad o))] 113 [.ref (ad o)] := by
  unfold P_Mod_nextToken_b113 at h
  refine fw_iconst (pc := 113) C (v := 4) dX9_nextToken_113 fk_iconst_4 ?_
  refine fw_goto (pc := 114) C (tgt := 118) dX9_nextToken_114 (by decide) ?_
  exact (c_Mod_nextToken_b118 C ho h)
set_option maxRecDepth 100000 in
theorem c_Mod_nextToken_b34 {p : Program} {l : Launch} {e : Env} {s : State} {m : MethodId} {args : Array Value} {below : List Frame} {meth : Method} {c : Code} {D : va_G} {cI cZ cH cR : ClassId} {N : Nat} {ad : Nat → Nat} {EE : fw_M → Nat → va_E} {o : Nat} {M : fw_M} {t1 : Int32} {z : fw_M} (C : fw_C p s m args meth c cX9_nextToken RX9 wsX9_nextToken 1 (none) D vwCl (fw_tys cI cZ cH cR) N ad fw_nw0) (ho : o_Mod EE ad N cI cZ cH cR o) (h : P_Mod_nextToken_b34 o M t1 = some z) : fw_J p l e (headSpec wsX9_nextToken rm_Mod_nextToken).room s m args below meth c D vwCl N ad EE 1 0 0 (fw_E below args s D vwCl N ad EE none z) M [(0, .ref (ad o))] 34 [.int t1, .ref (ad o)] := by
  unfold P_Mod_nextToken_b34 at h
  have h := fw_plh h
  refine fw_puti (pc := 34) C ho.2.2.2.2.2.2.2.2.2.2.2.2.2.2.2.2.1 rfl qX9_nextToken_91 tyX9 tyX9_ok nmX9 rfl rfl dX9_nextToken_34 ?_
  refine fw_aload_n (pc := 37) C 0 dX9_nextToken_37 rfl rfl ?_
  refine fw_aload_n (pc := 38) C 0 dX9_nextToken_38 rfl rfl ?_
  refine fw_geti (pc := 39) C ho.2.2.2.2.2.2.2.2.2.2.2.2.2.1 rfl qX9_nextToken_87 dX9_nextToken_39 ?_
  refine fw_aload_n (pc := 42) C 0 dX9_nextToken_42 rfl rfl ?_
  refine fw_geti (pc := 43) C ho.2.2.2.2.2.2.2.2.2.2.2.2.1 rfl qX9_nextToken_74 dX9_nextToken_43 ?_
  refine fw_icmp_ne (pc := 46) C (tgt := 53) dX9_nextToken_46 (by decide) (fun c2 => ?_) (fun c2 => ?_)
  · have h := fw_iff h c2
    refine fw_aload_n (pc := 53) C 0 dX9_nextToken_53 rfl rfl ?_
    refine fw_geti (pc := 54) C ho.2.2.2.2.2.2.2.2.2.2.2.2.2.2.2.2.1 rfl qX9_nextToken_91 dX9_nextToken_54 ?_
    refine fw_i2l (pc := 57) C dX9_nextToken_57 ?_
    refine fw_ldc2 (pc := 58) C (v := 97) kX9_nextToken_94 dX9_nextToken_58 ?_
    refine fw_ldc2 (pc := 61) C (v := 122) kX9_nextToken_96 dX9_nextToken_61 ?_
    obtain ⟨v3, hv3, h⟩ := fw_bind h
    refine fw_callS1 (pc := 64) C (rest := [_]) (c_Mod_in  hv3) (va_cwS 3 C.2.2.2.2.1 gX9_nextToken_X9_in rfl rfl rfl hd_Mod_in.2 ⟨Nat.le_of_ble_eq_true rfl, Nat.le_of_ble_eq_true rfl⟩) rfl ⟨Nat.zero_le _, Nat.zero_le _⟩ rfl (Nat.le_of_ble_eq_true rfl) dX9_nextToken_64 ?_
    refine fw_if_eq (pc := 67) C (tgt := 74) dX9_nextToken_67 (by decide) (fun c4 => ?_) (fun c4 => ?_)
    · have h := fw_ift h c4
      refine fw_aload_n (pc := 74) C 0 dX9_nextToken_74 rfl rfl ?_
      refine fw_geti (pc := 75) C ho.2.2.2.2.2.2.2.2.2.2.2.2.2.2.2.2.1 rfl qX9_nextToken_91 dX9_nextToken_75 ?_
      refine fw_i2l (pc := 78) C dX9_nextToken_78 ?_
      refine fw_ldc2 (pc := 79) C (v := 48) kX9_nextToken_98 dX9_nextToken_79 ?_
      refine fw_ldc2 (pc := 82) C (v := 57) kX9_nextToken_100 dX9_nextToken_82 ?_
      obtain ⟨v5, hv5, h⟩ := fw_bind h
      refine fw_callS1 (pc := 85) C (rest := [_]) (c_Mod_in  hv5) (va_cwS 3 C.2.2.2.2.1 gX9_nextToken_X9_in rfl rfl rfl hd_Mod_in.2 ⟨Nat.le_of_ble_eq_true rfl, Nat.le_of_ble_eq_true rfl⟩) rfl ⟨Nat.zero_le _, Nat.zero_le _⟩ rfl (Nat.le_of_ble_eq_true rfl) dX9_nextToken_85 ?_
      refine fw_if_eq (pc := 88) C (tgt := 95) dX9_nextToken_88 (by decide) (fun c6 => ?_) (fun c6 => ?_)
      · have h := fw_ift h c6
        refine fw_aload_n (pc := 95) C 0 dX9_nextToken_95 rfl rfl ?_
        refine fw_geti (pc := 96) C ho.2.2.2.2.2.2.2.2.2.2.2.2.2.2.2.2.1 rfl qX9_nextToken_91 dX9_nextToken_96 ?_
        refine fw_bipush (pc := 99) C (v := 44) dX9_nextToken_99 fk_bipush_44 ?_
        refine fw_icmp_eq (pc := 101) C (tgt := 113) dX9_nextToken_101 (by decide) (fun c7 => ?_) (fun c7 => ?_)
        · have h := fw_ift h c7
          exact (c_Mod_nextToken_b113 C ho h)
        · have h := fw_iff h c7
          refine fw_aload_n (pc := 104) C 0 dX9_nextToken_104 rfl rfl ?_
          refine fw_geti (pc := 105) C ho.2.2.2.2.2.2.2.2.2.2.2.2.2.2.2.2.1 rfl qX9_nextToken_91 dX9_nextToken_105 ?_
          refine fw_bipush (pc := 108) C (v := 59) dX9_nextToken_108 fk_bipush_59 ?_
          refine fw_icmp_ne (pc := 110) C (tgt := 117) dX9_nextToken_110 (by decide) (fun c8 => ?_) (fun c8 => ?_)
          · have h := fw_iff h c8
            refine fw_iconst (pc := 117) C (v := 0) dX9_nextToken_117 fk_iconst_0 ?_
            exact (c_Mod_nextToken_b118 C ho h)
          · have h := fw_ift h c8
            exact (c_Mod_nextToken_b113 C ho h)
      · have h := fw_iff h c6
        refine fw_iconst (pc := 91) C (v := 3) dX9_nextToken_91 fk_iconst_3 ?_
        refine fw_goto (pc := 92) C (tgt := 118) dX9_nextToken_92 (by decide) ?_
        exact (c_Mod_nextToken_b118 C ho h)
    · have h := fw_iff h c4
      refine fw_iconst (pc := 70) C (v := 2) dX9_nextToken_70 fk_iconst_2 ?_
      refine fw_goto (pc := 71) C (tgt := 118) dX9_nextToken_71 (by decide) ?_
      exact (c_Mod_nextToken_b118 C ho h)
  · have h := fw_ift h c2
    refine fw_iconst (pc := 49) C (v := 1) dX9_nextToken_49 fk_iconst_1 ?_
    refine fw_goto (pc := 50) C (tgt := 118) dX9_nextToken_50 (by decide) ?_
    exact (c_Mod_nextToken_b118 C ho h)
set_option maxRecDepth 100000 in
theorem c_Mod_nextToken_b0 {p : Program} {l : Launch} {e : Env} {s : State} {m : MethodId} {args : Array Value} {below : List Frame} {meth : Method} {c : Code} {D : va_G} {cI cZ cH cR : ClassId} {N : Nat} {ad : Nat → Nat} {EE : fw_M → Nat → va_E} {o : Nat} {M : fw_M} {z : fw_M} (C : fw_C p s m args meth c cX9_nextToken RX9 wsX9_nextToken 1 (none) D vwCl (fw_tys cI cZ cH cR) N ad fw_nw0) (ho : o_Mod EE ad N cI cZ cH cR o) (h : P_Mod_nextToken_b0 o M = some z) : fw_J p l e (headSpec wsX9_nextToken rm_Mod_nextToken).room s m args below meth c D vwCl N ad EE 1 0 0 (fw_E below args s D vwCl N ad EE none z) M [(0, .ref (ad o))] 0 [] := by
  unfold P_Mod_nextToken_b0 at h
  refine fw_aload_n (pc := 0) C 0 dX9_nextToken_0 rfl rfl ?_
  refine fw_aload_n (pc := 1) C 0 dX9_nextToken_1 rfl rfl ?_
  refine fw_geti (pc := 2) C ho.2.2.2.2.2.2.2.2.2.2.2.2.2.1 rfl qX9_nextToken_87 dX9_nextToken_2 ?_
  have h := fw_plh h
  refine fw_puti (pc := 5) C ho.2.2.2.2.2.2.2.2.2.2.2.2.2.2.1 rfl qX9_nextToken_81 tyX9 tyX9_ok nmX9 rfl rfl dX9_nextToken_5 ?_
  refine fw_aload_n (pc := 8) C 0 dX9_nextToken_8 rfl rfl ?_
  refine fw_aload_n (pc := 9) C 0 dX9_nextToken_9 rfl rfl ?_
  refine fw_geti (pc := 10) C ho.2.2.2.2.2.2.2.2.2.2.2.2.2.1 rfl qX9_nextToken_87 dX9_nextToken_10 ?_
  refine fw_aload_n (pc := 13) C 0 dX9_nextToken_13 rfl rfl ?_
  refine fw_geti (pc := 14) C ho.2.2.2.2.2.2.2.2.2.2.2.2.1 rfl qX9_nextToken_74 dX9_nextToken_14 ?_
  refine fw_icmp_ge (pc := 17) C (tgt := 32) dX9_nextToken_17 (by decide) (fun c2 => ?_) (fun c2 => ?_)
  · have h := fw_ift h c2
    refine fw_ldc (pc := 32) C (v := -1000000) kX9_nextToken_90 dX9_nextToken_32 ?_
    exact (c_Mod_nextToken_b34 C ho h)
  · have h := fw_iff h c2
    refine fw_aload_n (pc := 20) C 0 dX9_nextToken_20 rfl rfl ?_
    refine fw_getr (pc := 21) C ho.2.2.2.2.2.2.2.2.2.2.2.1.1 rfl qX9_nextToken_31 dX9_nextToken_21 ?_
    refine fw_aload_n (pc := 24) C 0 dX9_nextToken_24 rfl rfl ?_
    refine fw_geti (pc := 25) C ho.2.2.2.2.2.2.2.2.2.2.2.2.2.1 rfl qX9_nextToken_87 dX9_nextToken_25 ?_
    obtain ⟨v3, hv3, h⟩ := fw_bind h
    refine fw_iald (pc := 28) C 0 ho.2.2.2.2.2.2.2.2.2.2.2.1.2 rfl hv3 dX9_nextToken_28 ?_
    refine fw_goto (pc := 29) C (tgt := 34) dX9_nextToken_29 (by decide) ?_
    exact (c_Mod_nextToken_b34 C ho h)
theorem c_Mod_nextToken {l : Launch} {D : va_G} {cI cZ cH cR : ClassId} {N : Nat} {ad : Nat → Nat} {EE : fw_M → Nat → va_E} {o : Nat} {M : fw_M} {z : fw_M} (ho : o_Mod EE ad N cI cZ cH cR o) (h : P_Mod_nextToken o M = some z) : fw_Met l yX9_nextToken wsX9_nextToken rm_Mod_nextToken D vwCl (fw_tys cI cZ cH cR) N ad fw_nw0 EE [.ref (ad o)] M none z := by
  unfold P_Mod_nextToken at h
  exact fw_intro (cc := cX9_nextToken) (maxL := 1) (ret := none) (own := RX9) (by decide) rfl rfl (Nat.le_of_ble_eq_true rfl) (fun p e s m args below meth c C => fw_sub [0] rfl (c_Mod_nextToken_b0 C ho h))
abbrev rm_Mod_must : Room := { frames := 2, cells := 0, slots := 0, locals := 45 }
theorem hd_Mod_must : yX9_must.cls = RX9 ∧ yX9_must.cls ≠ "java/lang/invoke/MethodHandle" ∧ yX9_must.cls ≠ "java/lang/invoke/VarHandle" ∧ (parseMethodDescriptor yX9_must.desc).map (fun d => d.parameters.length) = some 1 := by decide +kernel
theorem qX9_must_78 : fw_G wsX9_must RX9 78 RX9 TX9 24 16 := ⟨by decide +kernel, by decide +kernel, by decide⟩
def P_Mod_must_b20 (o : Nat) (M : fw_M) : Option fw_M := some M
def P_Mod_must_b9 (o : Nat) (M : fw_M) : Option fw_M := (if (M o 16) = (0 : Int32) then (P_Mod_nextToken o M).bind fun q2 => P_Mod_must_b20 o q2 else P_Mod_must_b20 o M)
def P_Mod_must_b0 (o : Nat) (M : fw_M) (x1 : Int32) : Option fw_M := (if x1 = (0 : Int32) then (P_Mod_bad o M (1 : Int32)).bind fun q2 => P_Mod_must_b9 o q2 else P_Mod_must_b9 o M)
def P_Mod_must (o : Nat) (M : fw_M) (a0 : Int32) : Option fw_M := P_Mod_must_b0 o M a0
set_option maxRecDepth 100000 in
theorem c_Mod_must_b20 {p : Program} {l : Launch} {e : Env} {s : State} {m : MethodId} {args : Array Value} {below : List Frame} {meth : Method} {c : Code} {D : va_G} {cI cZ cH cR : ClassId} {N : Nat} {ad : Nat → Nat} {EE : fw_M → Nat → va_E} {o : Nat} {M : fw_M} {z : fw_M} (C : fw_C p s m args meth c cX9_must RX9 wsX9_must 2 (none) D vwCl (fw_tys cI cZ cH cR) N ad fw_nw0) (ho : o_Mod EE ad N cI cZ cH cR o) (h : P_Mod_must_b20 o M = some z) : fw_J p l e (headSpec wsX9_must rm_Mod_must).room s m args below meth c D vwCl N ad EE 2 0 0 (fw_E below args s D vwCl N ad EE none z) M [] 20 [] := by
  unfold P_Mod_must_b20 at h
  exact fw_vret (pc := 20) C (Option.some.inj h) dX9_must_20
set_option maxRecDepth 100000 in
theorem c_Mod_must_b9 {p : Program} {l : Launch} {e : Env} {s : State} {m : MethodId} {args : Array Value} {below : List Frame} {meth : Method} {c : Code} {D : va_G} {cI cZ cH cR : ClassId} {N : Nat} {ad : Nat → Nat} {EE : fw_M → Nat → va_E} {o : Nat} {M : fw_M} {z : fw_M} (C : fw_C p s m args meth c cX9_must RX9 wsX9_must 2 (none) D vwCl (fw_tys cI cZ cH cR) N ad fw_nw0) (ho : o_Mod EE ad N cI cZ cH cR o) (h : P_Mod_must_b9 o M = some z) : fw_J p l e (headSpec wsX9_must rm_Mod_must).room s m args below meth c D vwCl N ad EE 2 0 0 (fw_E below args s D vwCl N ad EE none z) M [(0, .ref (ad o))] 9 [] := by
  unfold P_Mod_must_b9 at h
  refine fw_aload_n (pc := 9) C 0 dX9_must_9 rfl rfl ?_
  refine fw_geti (pc := 10) C ho.2.2.2.2.2.2.2.2.2.2.2.2.2.2.2.2.2.1 rfl qX9_must_78 dX9_must_10 ?_
  refine fw_if_ne (pc := 13) C (tgt := 20) dX9_must_13 (by decide) (fun c1 => ?_) (fun c1 => ?_)
  · have h := fw_iff h c1
    exact fw_sub [] rfl (c_Mod_must_b20 C ho h)
  · have h := fw_ift h c1
    refine fw_aload_n (pc := 16) C 0 dX9_must_16 rfl rfl ?_
    obtain ⟨q2, hq2, h⟩ := fw_bind h
    refine fw_callV0 (pc := 17) C (rest := []) (c_Mod_nextToken ho hq2) (cwV 0 C.2.2.2.2.1 gX9_must_X9_nextToken rfl rfl rfl hd_Mod_nextToken ⟨Nat.le_of_ble_eq_true rfl, Nat.le_of_ble_eq_true rfl⟩) ho.1 rfl rfl ⟨Nat.zero_le _, Nat.zero_le _⟩ rfl (Nat.le_of_ble_eq_true rfl) dX9_must_17 ?_
    exact fw_sub [] rfl (c_Mod_must_b20 C ho h)
set_option maxRecDepth 100000 in
theorem c_Mod_must_b0 {p : Program} {l : Launch} {e : Env} {s : State} {m : MethodId} {args : Array Value} {below : List Frame} {meth : Method} {c : Code} {D : va_G} {cI cZ cH cR : ClassId} {N : Nat} {ad : Nat → Nat} {EE : fw_M → Nat → va_E} {o : Nat} {M : fw_M} {x1 : Int32} {z : fw_M} (C : fw_C p s m args meth c cX9_must RX9 wsX9_must 2 (none) D vwCl (fw_tys cI cZ cH cR) N ad fw_nw0) (ho : o_Mod EE ad N cI cZ cH cR o) (h : P_Mod_must_b0 o M x1 = some z) : fw_J p l e (headSpec wsX9_must rm_Mod_must).room s m args below meth c D vwCl N ad EE 2 0 0 (fw_E below args s D vwCl N ad EE none z) M [(0, .ref (ad o)), (1, .int x1)] 0 [] := by
  unfold P_Mod_must_b0 at h
  refine fw_iload_n (pc := 0) C 1 dX9_must_0 rfl rfl ?_
  refine fw_if_ne (pc := 1) C (tgt := 9) dX9_must_1 (by decide) (fun c1 => ?_) (fun c1 => ?_)
  · have h := fw_iff h c1
    exact fw_sub [0] rfl (c_Mod_must_b9 C ho h)
  · have h := fw_ift h c1
    refine fw_aload_n (pc := 4) C 0 dX9_must_4 rfl rfl ?_
    refine fw_iconst (pc := 5) C (v := 1) dX9_must_5 fk_iconst_1 ?_
    obtain ⟨q2, hq2, h⟩ := fw_bind h
    refine fw_callV0 (pc := 6) C (rest := []) (c_Mod_bad ho hq2) (cwV 1 C.2.2.2.2.1 gX9_must_X9_bad rfl rfl rfl hd_Mod_bad ⟨Nat.le_of_ble_eq_true rfl, Nat.le_of_ble_eq_true rfl⟩) ho.1 rfl rfl ⟨Nat.zero_le _, Nat.zero_le _⟩ rfl (Nat.le_of_ble_eq_true rfl) dX9_must_6 ?_
    exact fw_sub [0] rfl (c_Mod_must_b9 C ho h)
theorem c_Mod_must {l : Launch} {D : va_G} {cI cZ cH cR : ClassId} {N : Nat} {ad : Nat → Nat} {EE : fw_M → Nat → va_E} {o : Nat} {M : fw_M} {a0 : Int32} {z : fw_M} (ho : o_Mod EE ad N cI cZ cH cR o) (h : P_Mod_must o M a0 = some z) : fw_Met l yX9_must wsX9_must rm_Mod_must D vwCl (fw_tys cI cZ cH cR) N ad fw_nw0 EE [.ref (ad o), .int a0] M none z := by
  unfold P_Mod_must at h
  exact fw_intro (cc := cX9_must) (maxL := 2) (ret := none) (own := RX9) (by decide) rfl rfl (Nat.le_of_ble_eq_true rfl) (fun p e s m args below meth c C => fw_sub [0, 1] rfl (c_Mod_must_b0 C ho h))
abbrev rm_Mod_isLetter : Room := { frames := 0, cells := 0, slots := 0, locals := 0 }
theorem hd_Mod_isLetter : yX9_isLetter.cls = RX9 ∧ yX9_isLetter.cls ≠ "java/lang/invoke/MethodHandle" ∧ yX9_isLetter.cls ≠ "java/lang/invoke/VarHandle" ∧ (parseMethodDescriptor yX9_isLetter.desc).map (fun d => d.parameters.length) = some 1 := by decide +kernel
theorem qX9_isLetter_78 : fw_G wsX9_isLetter RX9 78 RX9 TX9 24 16 := ⟨by decide +kernel, by decide +kernel, by decide⟩
theorem qX9_isLetter_102 : fw_G wsX9_isLetter RX9 102 RX9 TX9 24 14 := ⟨by decide +kernel, by decide +kernel, by decide⟩
theorem qX9_isLetter_91 : fw_G wsX9_isLetter RX9 91 RX9 TX9 24 15 := ⟨by decide +kernel, by decide +kernel, by decide⟩
def P_Mod_isLetter_b28 (o : Nat) (M : fw_M) (t0 : Int32) : Option Int32 := (fw_zr t0).bind fun v1 => some v1
def P_Mod_isLetter_b27 (o : Nat) (M : fw_M) : Option Int32 := P_Mod_isLetter_b28 o M (0 : Int32)
def P_Mod_isLetter_b0 (o : Nat) (M : fw_M) (x1 : Int32) : Option Int32 := (if (M o 16) = (0 : Int32) then (if (M o 14) = (2 : Int32) then (if (M o 15) = x1 then P_Mod_isLetter_b28 o M (1 : Int32) else P_Mod_isLetter_b27 o M) else P_Mod_isLetter_b27 o M) else P_Mod_isLetter_b27 o M)
def P_Mod_isLetter (o : Nat) (M : fw_M) (a0 : Int32) : Option Int32 := P_Mod_isLetter_b0 o M a0
set_option maxRecDepth 100000 in
theorem c_Mod_isLetter_b28 {p : Program} {l : Launch} {e : Env} {s : State} {m : MethodId} {args : Array Value} {below : List Frame} {meth : Method} {c : Code} {D : va_G} {cI cZ cH cR : ClassId} {N : Nat} {ad : Nat → Nat} {EE : fw_M → Nat → va_E} {o : Nat} {M : fw_M} {t0 : Int32} {z : Int32} (C : fw_C p s m args meth c cX9_isLetter RX9 wsX9_isLetter 2 (some .boolean) D vwCl (fw_tys cI cZ cH cR) N ad fw_nw0) (ho : o_Mod EE ad N cI cZ cH cR o) (h : P_Mod_isLetter_b28 o M t0 = some z) : fw_J p l e (headSpec wsX9_isLetter rm_Mod_isLetter).room s m args below meth c D vwCl N ad EE 2 0 0 (fw_E below args s D vwCl N ad EE (some (.int z)) M) M [] 28 [.int t0] := by
  unfold P_Mod_isLetter_b28 at h
  obtain ⟨v1, hv1, h⟩ := fw_bind h
  exact fw_zret (pc := 28) C (fw_zrh hv1).1 ((fw_zrh hv1).2.trans (Option.some.inj h)) rfl dX9_isLetter_28
set_option maxRecDepth 100000 in
theorem c_Mod_isLetter_b27 {p : Program} {l : Launch} {e : Env} {s : State} {m : MethodId} {args : Array Value} {below : List Frame} {meth : Method} {c : Code} {D : va_G} {cI cZ cH cR : ClassId} {N : Nat} {ad : Nat → Nat} {EE : fw_M → Nat → va_E} {o : Nat} {M : fw_M} {z : Int32} (C : fw_C p s m args meth c cX9_isLetter RX9 wsX9_isLetter 2 (some .boolean) D vwCl (fw_tys cI cZ cH cR) N ad fw_nw0) (ho : o_Mod EE ad N cI cZ cH cR o) (h : P_Mod_isLetter_b27 o M = some z) : fw_J p l e (headSpec wsX9_isLetter rm_Mod_isLetter).room s m args below meth c D vwCl N ad EE 2 0 0 (fw_E below args s D vwCl N ad EE (some (.int z)) M) M [] 27 [] := by
  unfold P_Mod_isLetter_b27 at h
  refine fw_iconst (pc := 27) C (v := 0) dX9_isLetter_27 fk_iconst_0 ?_
  exact (c_Mod_isLetter_b28 C ho h)
set_option maxRecDepth 100000 in
theorem c_Mod_isLetter_b0 {p : Program} {l : Launch} {e : Env} {s : State} {m : MethodId} {args : Array Value} {below : List Frame} {meth : Method} {c : Code} {D : va_G} {cI cZ cH cR : ClassId} {N : Nat} {ad : Nat → Nat} {EE : fw_M → Nat → va_E} {o : Nat} {M : fw_M} {x1 : Int32} {z : Int32} (C : fw_C p s m args meth c cX9_isLetter RX9 wsX9_isLetter 2 (some .boolean) D vwCl (fw_tys cI cZ cH cR) N ad fw_nw0) (ho : o_Mod EE ad N cI cZ cH cR o) (h : P_Mod_isLetter_b0 o M x1 = some z) : fw_J p l e (headSpec wsX9_isLetter rm_Mod_isLetter).room s m args below meth c D vwCl N ad EE 2 0 0 (fw_E below args s D vwCl N ad EE (some (.int z)) M) M [(0, .ref (ad o)), (1, .int x1)] 0 [] := by
  unfold P_Mod_isLetter_b0 at h
  refine fw_aload_n (pc := 0) C 0 dX9_isLetter_0 rfl rfl ?_
  refine fw_geti (pc := 1) C ho.2.2.2.2.2.2.2.2.2.2.2.2.2.2.2.2.2.1 rfl qX9_isLetter_78 dX9_isLetter_1 ?_
  refine fw_if_ne (pc := 4) C (tgt := 27) dX9_isLetter_4 (by decide) (fun c1 => ?_) (fun c1 => ?_)
  · have h := fw_iff h c1
    exact fw_sub [] rfl (c_Mod_isLetter_b27 C ho h)
  · have h := fw_ift h c1
    refine fw_aload_n (pc := 7) C 0 dX9_isLetter_7 rfl rfl ?_
    refine fw_geti (pc := 8) C ho.2.2.2.2.2.2.2.2.2.2.2.2.2.2.2.1 rfl qX9_isLetter_102 dX9_isLetter_8 ?_
    refine fw_iconst (pc := 11) C (v := 2) dX9_isLetter_11 fk_iconst_2 ?_
    refine fw_icmp_ne (pc := 12) C (tgt := 27) dX9_isLetter_12 (by decide) (fun c2 => ?_) (fun c2 => ?_)
    · have h := fw_iff h c2
      exact fw_sub [] rfl (c_Mod_isLetter_b27 C ho h)
    · have h := fw_ift h c2
      refine fw_aload_n (pc := 15) C 0 dX9_isLetter_15 rfl rfl ?_
      refine fw_geti (pc := 16) C ho.2.2.2.2.2.2.2.2.2.2.2.2.2.2.2.2.1 rfl qX9_isLetter_91 dX9_isLetter_16 ?_
      refine fw_iload_n (pc := 19) C 1 dX9_isLetter_19 rfl rfl ?_
      refine fw_icmp_ne (pc := 20) C (tgt := 27) dX9_isLetter_20 (by decide) (fun c3 => ?_) (fun c3 => ?_)
      · have h := fw_iff h c3
        exact fw_sub [] rfl (c_Mod_isLetter_b27 C ho h)
      · have h := fw_ift h c3
        refine fw_iconst (pc := 23) C (v := 1) dX9_isLetter_23 fk_iconst_1 ?_
        refine fw_goto (pc := 24) C (tgt := 28) dX9_isLetter_24 (by decide) ?_
        exact fw_sub [] rfl (c_Mod_isLetter_b28 C ho h)
theorem c_Mod_isLetter {l : Launch} {D : va_G} {cI cZ cH cR : ClassId} {N : Nat} {ad : Nat → Nat} {EE : fw_M → Nat → va_E} {o : Nat} {M : fw_M} {a0 : Int32} {z : Int32} (ho : o_Mod EE ad N cI cZ cH cR o) (h : P_Mod_isLetter o M a0 = some z) : fw_Met l yX9_isLetter wsX9_isLetter rm_Mod_isLetter D vwCl (fw_tys cI cZ cH cR) N ad fw_nw0 EE [.ref (ad o), .int a0] M (some (.int z)) M := by
  unfold P_Mod_isLetter at h
  exact fw_intro (cc := cX9_isLetter) (maxL := 2) (ret := some .boolean) (own := RX9) (by decide) rfl rfl (Nat.le_of_ble_eq_true rfl) (fun p e s m args below meth c C => fw_sub [0, 1] rfl (c_Mod_isLetter_b0 C ho h))
abbrev rm_Mod_number : Room := { frames := 3, cells := 0, slots := 0, locals := 66 }
theorem hd_Mod_number : yX9_number.cls = RX9 ∧ yX9_number.cls ≠ "java/lang/invoke/MethodHandle" ∧ yX9_number.cls ≠ "java/lang/invoke/VarHandle" ∧ (parseMethodDescriptor yX9_number.desc).map (fun d => d.parameters.length) = some 2 := by decide +kernel
theorem qX9_number_78 : fw_G wsX9_number RX9 78 RX9 TX9 24 16 := ⟨by decide +kernel, by decide +kernel, by decide⟩
theorem qX9_number_102 : fw_G wsX9_number RX9 102 RX9 TX9 24 14 := ⟨by decide +kernel, by decide +kernel, by decide⟩
theorem qX9_number_91 : fw_G wsX9_number RX9 91 RX9 TX9 24 15 := ⟨by decide +kernel, by decide +kernel, by decide⟩
def P_Mod_number_b62 (o : Nat) (M : fw_M) (t0 : Int32) : Option (Int32 × fw_M) := (P_Mod_must o M (1 : Int32)).bind fun q1 => some (t0, q1)
def P_Mod_number_b47 (o : Nat) (M : fw_M) (x1 : Int32) : Option (Int32 × fw_M) := (if (M o 16) = (0 : Int32) then P_Mod_number_b62 o M (M o 15) else P_Mod_number_b62 o M x1)
def P_Mod_number_b20 (o : Nat) (M : fw_M) (x1 : Int32) (x2 : Int32) : Option (Int32 × fw_M) := (if (M o 16) = (0 : Int32) then (P_Mod_in M (Int32.toInt64 (M o 15)) (Int32.toInt64 x1) (Int32.toInt64 x2)).bind fun v2 => (if v2 = (0 : Int32) then (P_Mod_bad o M (2 : Int32)).bind fun q4 => P_Mod_number_b47 o q4 x1 else P_Mod_number_b47 o M x1) else P_Mod_number_b47 o M x1)
def P_Mod_number_b0 (o : Nat) (M : fw_M) (x1 : Int32) (x2 : Int32) : Option (Int32 × fw_M) := (if (M o 16) = (0 : Int32) then (if (M o 14) = (3 : Int32) then P_Mod_number_b20 o M x1 x2 else (P_Mod_bad o M (1 : Int32)).bind fun q3 => P_Mod_number_b20 o q3 x1 x2) else P_Mod_number_b20 o M x1 x2)
def P_Mod_number (o : Nat) (M : fw_M) (a0 : Int32) (a1 : Int32) : Option (Int32 × fw_M) := P_Mod_number_b0 o M a0 a1
set_option maxRecDepth 100000 in
theorem c_Mod_number_b62 {p : Program} {l : Launch} {e : Env} {s : State} {m : MethodId} {args : Array Value} {below : List Frame} {meth : Method} {c : Code} {D : va_G} {cI cZ cH cR : ClassId} {N : Nat} {ad : Nat → Nat} {EE : fw_M → Nat → va_E} {o : Nat} {M : fw_M} {t0 : Int32} {z : (Int32 × fw_M)} (C : fw_C p s m args meth c cX9_number RX9 wsX9_number 4 (some .int) D vwCl (fw_tys cI cZ cH cR) N ad fw_nw0) (ho : o_Mod EE ad N cI cZ cH cR o) (h : P_Mod_number_b62 o M t0 = some z) : fw_J p l e (headSpec wsX9_number rm_Mod_number).room s m args below meth c D vwCl N ad EE 4 0 0 (fw_E below args s D vwCl N ad EE (some (.int z.1)) z.2) M [(0, .ref (ad o))] 62 [.int t0] := by
  unfold P_Mod_number_b62 at h
  refine fw_istore_n (pc := 62) C (L2 := [(0, .ref _), (3, .int _)]) [1, 0] dX9_number_62 rfl (by decide) rfl ?_
  refine fw_aload_n (pc := 63) C 0 dX9_number_63 rfl rfl ?_
  refine fw_iconst (pc := 64) C (v := 1) dX9_number_64 fk_iconst_1 ?_
  obtain ⟨q1, hq1, h⟩ := fw_bind h
  refine fw_callV0 (pc := 65) C (rest := []) (c_Mod_must ho hq1) (cwV 1 C.2.2.2.2.1 gX9_number_X9_must rfl rfl rfl hd_Mod_must ⟨Nat.le_of_ble_eq_true rfl, Nat.le_of_ble_eq_true rfl⟩) ho.1 rfl rfl ⟨Nat.zero_le _, Nat.zero_le _⟩ rfl (Nat.le_of_ble_eq_true rfl) dX9_number_65 ?_
  refine fw_iload_n (pc := 68) C 1 dX9_number_68 rfl rfl ?_
  exact fw_iret (pc := 69) C (fw_p1 h) (fw_p2 h) dX9_number_69
set_option maxRecDepth 100000 in
theorem c_Mod_number_b47 {p : Program} {l : Launch} {e : Env} {s : State} {m : MethodId} {args : Array Value} {below : List Frame} {meth : Method} {c : Code} {D : va_G} {cI cZ cH cR : ClassId} {N : Nat} {ad : Nat → Nat} {EE : fw_M → Nat → va_E} {o : Nat} {M : fw_M} {x1 : Int32} {z : (Int32 × fw_M)} (C : fw_C p s m args meth c cX9_number RX9 wsX9_number 4 (some .int) D vwCl (fw_tys cI cZ cH cR) N ad fw_nw0) (ho : o_Mod EE ad N cI cZ cH cR o) (h : P_Mod_number_b47 o M x1 = some z) : fw_J p l e (headSpec wsX9_number rm_Mod_number).room s m args below meth c D vwCl N ad EE 4 0 0 (fw_E below args s D vwCl N ad EE (some (.int z.1)) z.2) M [(0, .ref (ad o)), (1, .int x1)] 47 [] := by
  unfold P_Mod_number_b47 at h
  refine fw_aload_n (pc := 47) C 0 dX9_number_47 rfl rfl ?_
  refine fw_geti (pc := 48) C ho.2.2.2.2.2.2.2.2.2.2.2.2.2.2.2.2.2.1 rfl qX9_number_78 dX9_number_48 ?_
  refine fw_if_ne (pc := 51) C (tgt := 61) dX9_number_51 (by decide) (fun c1 => ?_) (fun c1 => ?_)
  · have h := fw_iff h c1
    refine fw_iload_n (pc := 61) C 1 dX9_number_61 rfl rfl ?_
    exact fw_sub [0] rfl (c_Mod_number_b62 C ho h)
  · have h := fw_ift h c1
    refine fw_aload_n (pc := 54) C 0 dX9_number_54 rfl rfl ?_
    refine fw_geti (pc := 55) C ho.2.2.2.2.2.2.2.2.2.2.2.2.2.2.2.2.1 rfl qX9_number_91 dX9_number_55 ?_
    refine fw_goto (pc := 58) C (tgt := 62) dX9_number_58 (by decide) ?_
    exact fw_sub [0] rfl (c_Mod_number_b62 C ho h)
set_option maxRecDepth 100000 in
theorem c_Mod_number_b20 {p : Program} {l : Launch} {e : Env} {s : State} {m : MethodId} {args : Array Value} {below : List Frame} {meth : Method} {c : Code} {D : va_G} {cI cZ cH cR : ClassId} {N : Nat} {ad : Nat → Nat} {EE : fw_M → Nat → va_E} {o : Nat} {M : fw_M} {x1 : Int32} {x2 : Int32} {z : (Int32 × fw_M)} (C : fw_C p s m args meth c cX9_number RX9 wsX9_number 4 (some .int) D vwCl (fw_tys cI cZ cH cR) N ad fw_nw0) (ho : o_Mod EE ad N cI cZ cH cR o) (h : P_Mod_number_b20 o M x1 x2 = some z) : fw_J p l e (headSpec wsX9_number rm_Mod_number).room s m args below meth c D vwCl N ad EE 4 0 0 (fw_E below args s D vwCl N ad EE (some (.int z.1)) z.2) M [(0, .ref (ad o)), (1, .int x1), (2, .int x2)] 20 [] := by
  unfold P_Mod_number_b20 at h
  refine fw_aload_n (pc := 20) C 0 dX9_number_20 rfl rfl ?_
  refine fw_geti (pc := 21) C ho.2.2.2.2.2.2.2.2.2.2.2.2.2.2.2.2.2.1 rfl qX9_number_78 dX9_number_21 ?_
  refine fw_if_ne (pc := 24) C (tgt := 47) dX9_number_24 (by decide) (fun c1 => ?_) (fun c1 => ?_)
  · have h := fw_iff h c1
    exact fw_sub [0, 1] rfl (c_Mod_number_b47 C ho h)
  · have h := fw_ift h c1
    refine fw_aload_n (pc := 27) C 0 dX9_number_27 rfl rfl ?_
    refine fw_geti (pc := 28) C ho.2.2.2.2.2.2.2.2.2.2.2.2.2.2.2.2.1 rfl qX9_number_91 dX9_number_28 ?_
    refine fw_i2l (pc := 31) C dX9_number_31 ?_
    refine fw_iload_n (pc := 32) C 1 dX9_number_32 rfl rfl ?_
    refine fw_i2l (pc := 33) C dX9_number_33 ?_
    refine fw_iload_n (pc := 34) C 2 dX9_number_34 rfl rfl ?_
    refine fw_i2l (pc := 35) C dX9_number_35 ?_
    obtain ⟨v2, hv2, h⟩ := fw_bind h
    refine fw_callS1 (pc := 36) C (rest := []) (c_Mod_in  hv2) (va_cwS 3 C.2.2.2.2.1 gX9_number_X9_in rfl rfl rfl hd_Mod_in.2 ⟨Nat.le_of_ble_eq_true rfl, Nat.le_of_ble_eq_true rfl⟩) rfl ⟨Nat.zero_le _, Nat.zero_le _⟩ rfl (Nat.le_of_ble_eq_true rfl) dX9_number_36 ?_
    refine fw_if_ne (pc := 39) C (tgt := 47) dX9_number_39 (by decide) (fun c3 => ?_) (fun c3 => ?_)
    · have h := fw_iff h c3
      exact fw_sub [0, 1] rfl (c_Mod_number_b47 C ho h)
    · have h := fw_ift h c3
      refine fw_aload_n (pc := 42) C 0 dX9_number_42 rfl rfl ?_
      refine fw_iconst (pc := 43) C (v := 2) dX9_number_43 fk_iconst_2 ?_
      obtain ⟨q4, hq4, h⟩ := fw_bind h
      refine fw_callV0 (pc := 44) C (rest := []) (c_Mod_bad ho hq4) (cwV 1 C.2.2.2.2.1 gX9_number_X9_bad rfl rfl rfl hd_Mod_bad ⟨Nat.le_of_ble_eq_true rfl, Nat.le_of_ble_eq_true rfl⟩) ho.1 rfl rfl ⟨Nat.zero_le _, Nat.zero_le _⟩ rfl (Nat.le_of_ble_eq_true rfl) dX9_number_44 ?_
      exact fw_sub [0, 1] rfl (c_Mod_number_b47 C ho h)
set_option maxRecDepth 100000 in
theorem c_Mod_number_b0 {p : Program} {l : Launch} {e : Env} {s : State} {m : MethodId} {args : Array Value} {below : List Frame} {meth : Method} {c : Code} {D : va_G} {cI cZ cH cR : ClassId} {N : Nat} {ad : Nat → Nat} {EE : fw_M → Nat → va_E} {o : Nat} {M : fw_M} {x1 : Int32} {x2 : Int32} {z : (Int32 × fw_M)} (C : fw_C p s m args meth c cX9_number RX9 wsX9_number 4 (some .int) D vwCl (fw_tys cI cZ cH cR) N ad fw_nw0) (ho : o_Mod EE ad N cI cZ cH cR o) (h : P_Mod_number_b0 o M x1 x2 = some z) : fw_J p l e (headSpec wsX9_number rm_Mod_number).room s m args below meth c D vwCl N ad EE 4 0 0 (fw_E below args s D vwCl N ad EE (some (.int z.1)) z.2) M [(0, .ref (ad o)), (1, .int x1), (2, .int x2)] 0 [] := by
  unfold P_Mod_number_b0 at h
  refine fw_aload_n (pc := 0) C 0 dX9_number_0 rfl rfl ?_
  refine fw_geti (pc := 1) C ho.2.2.2.2.2.2.2.2.2.2.2.2.2.2.2.2.2.1 rfl qX9_number_78 dX9_number_1 ?_
  refine fw_if_ne (pc := 4) C (tgt := 20) dX9_number_4 (by decide) (fun c1 => ?_) (fun c1 => ?_)
  · have h := fw_iff h c1
    exact (c_Mod_number_b20 C ho h)
  · have h := fw_ift h c1
    refine fw_aload_n (pc := 7) C 0 dX9_number_7 rfl rfl ?_
    refine fw_geti (pc := 8) C ho.2.2.2.2.2.2.2.2.2.2.2.2.2.2.2.1 rfl qX9_number_102 dX9_number_8 ?_
    refine fw_iconst (pc := 11) C (v := 3) dX9_number_11 fk_iconst_3 ?_
    refine fw_icmp_eq (pc := 12) C (tgt := 20) dX9_number_12 (by decide) (fun c2 => ?_) (fun c2 => ?_)
    · have h := fw_ift h c2
      exact (c_Mod_number_b20 C ho h)
    · have h := fw_iff h c2
      refine fw_aload_n (pc := 15) C 0 dX9_number_15 rfl rfl ?_
      refine fw_iconst (pc := 16) C (v := 1) dX9_number_16 fk_iconst_1 ?_
      obtain ⟨q3, hq3, h⟩ := fw_bind h
      refine fw_callV0 (pc := 17) C (rest := []) (c_Mod_bad ho hq3) (cwV 1 C.2.2.2.2.1 gX9_number_X9_bad rfl rfl rfl hd_Mod_bad ⟨Nat.le_of_ble_eq_true rfl, Nat.le_of_ble_eq_true rfl⟩) ho.1 rfl rfl ⟨Nat.zero_le _, Nat.zero_le _⟩ rfl (Nat.le_of_ble_eq_true rfl) dX9_number_17 ?_
      exact (c_Mod_number_b20 C ho h)
theorem c_Mod_number {l : Launch} {D : va_G} {cI cZ cH cR : ClassId} {N : Nat} {ad : Nat → Nat} {EE : fw_M → Nat → va_E} {o : Nat} {M : fw_M} {a0 : Int32} {a1 : Int32} {z : (Int32 × fw_M)} (ho : o_Mod EE ad N cI cZ cH cR o) (h : P_Mod_number o M a0 a1 = some z) : fw_Met l yX9_number wsX9_number rm_Mod_number D vwCl (fw_tys cI cZ cH cR) N ad fw_nw0 EE [.ref (ad o), .int a0, .int a1] M (some (.int z.1)) z.2 := by
  unfold P_Mod_number at h
  exact fw_intro (cc := cX9_number) (maxL := 4) (ret := some .int) (own := RX9) (by decide) rfl rfl (Nat.le_of_ble_eq_true rfl) (fun p e s m args below meth c C => fw_sub [0, 1, 2] rfl (c_Mod_number_b0 C ho h))
abbrev rm_Mod_mustSign : Room := { frames := 3, cells := 0, slots := 0, locals := 66 }
theorem hd_Mod_mustSign : yX9_mustSign.cls = RX9 ∧ yX9_mustSign.cls ≠ "java/lang/invoke/MethodHandle" ∧ yX9_mustSign.cls ≠ "java/lang/invoke/VarHandle" ∧ (parseMethodDescriptor yX9_mustSign.desc).map (fun d => d.parameters.length) = some 1 := by decide +kernel
theorem qX9_mustSign_102 : fw_G wsX9_mustSign RX9 102 RX9 TX9 24 14 := ⟨by decide +kernel, by decide +kernel, by decide⟩
theorem qX9_mustSign_91 : fw_G wsX9_mustSign RX9 91 RX9 TX9 24 15 := ⟨by decide +kernel, by decide +kernel, by decide⟩
def P_Mod_mustSign_b22 (o : Nat) (M : fw_M) (t1 : Int32) : Option fw_M := (P_Mod_must o M t1).bind fun q1 => some q1
def P_Mod_mustSign_b21 (o : Nat) (M : fw_M) : Option fw_M := P_Mod_mustSign_b22 o M (0 : Int32)
def P_Mod_mustSign_b0 (o : Nat) (M : fw_M) (x1 : Int32) : Option fw_M := (if (M o 14) = (4 : Int32) then (if (M o 15) = x1 then P_Mod_mustSign_b22 o M (1 : Int32) else P_Mod_mustSign_b21 o M) else P_Mod_mustSign_b21 o M)
def P_Mod_mustSign (o : Nat) (M : fw_M) (a0 : Int32) : Option fw_M := P_Mod_mustSign_b0 o M a0
set_option maxRecDepth 100000 in
theorem c_Mod_mustSign_b22 {p : Program} {l : Launch} {e : Env} {s : State} {m : MethodId} {args : Array Value} {below : List Frame} {meth : Method} {c : Code} {D : va_G} {cI cZ cH cR : ClassId} {N : Nat} {ad : Nat → Nat} {EE : fw_M → Nat → va_E} {o : Nat} {M : fw_M} {t1 : Int32} {z : fw_M} (C : fw_C p s m args meth c cX9_mustSign RX9 wsX9_mustSign 2 (none) D vwCl (fw_tys cI cZ cH cR) N ad fw_nw0) (ho : o_Mod EE ad N cI cZ cH cR o) (h : P_Mod_mustSign_b22 o M t1 = some z) : fw_J p l e (headSpec wsX9_mustSign rm_Mod_mustSign).room s m args below meth c D vwCl N ad EE 2 0 0 (fw_E below args s D vwCl N ad EE none z) M [] 22 [.int t1, .ref (ad o)] := by
  unfold P_Mod_mustSign_b22 at h
  obtain ⟨q1, hq1, h⟩ := fw_bind h
  refine fw_callV0 (pc := 22) C (rest := []) (c_Mod_must ho hq1) (cwV 1 C.2.2.2.2.1 gX9_mustSign_X9_must rfl rfl rfl hd_Mod_must ⟨Nat.le_of_ble_eq_true rfl, Nat.le_of_ble_eq_true rfl⟩) ho.1 rfl rfl ⟨Nat.zero_le _, Nat.zero_le _⟩ rfl (Nat.le_of_ble_eq_true rfl) dX9_mustSign_22 ?_
  exact fw_vret (pc := 25) C (Option.some.inj h) dX9_mustSign_25
set_option maxRecDepth 100000 in
theorem c_Mod_mustSign_b21 {p : Program} {l : Launch} {e : Env} {s : State} {m : MethodId} {args : Array Value} {below : List Frame} {meth : Method} {c : Code} {D : va_G} {cI cZ cH cR : ClassId} {N : Nat} {ad : Nat → Nat} {EE : fw_M → Nat → va_E} {o : Nat} {M : fw_M} {z : fw_M} (C : fw_C p s m args meth c cX9_mustSign RX9 wsX9_mustSign 2 (none) D vwCl (fw_tys cI cZ cH cR) N ad fw_nw0) (ho : o_Mod EE ad N cI cZ cH cR o) (h : P_Mod_mustSign_b21 o M = some z) : fw_J p l e (headSpec wsX9_mustSign rm_Mod_mustSign).room s m args below meth c D vwCl N ad EE 2 0 0 (fw_E below args s D vwCl N ad EE none z) M [] 21 [.ref (ad o)] := by
  unfold P_Mod_mustSign_b21 at h
  refine fw_iconst (pc := 21) C (v := 0) dX9_mustSign_21 fk_iconst_0 ?_
  exact (c_Mod_mustSign_b22 C ho h)
set_option maxRecDepth 100000 in
theorem c_Mod_mustSign_b0 {p : Program} {l : Launch} {e : Env} {s : State} {m : MethodId} {args : Array Value} {below : List Frame} {meth : Method} {c : Code} {D : va_G} {cI cZ cH cR : ClassId} {N : Nat} {ad : Nat → Nat} {EE : fw_M → Nat → va_E} {o : Nat} {M : fw_M} {x1 : Int32} {z : fw_M} (C : fw_C p s m args meth c cX9_mustSign RX9 wsX9_mustSign 2 (none) D vwCl (fw_tys cI cZ cH cR) N ad fw_nw0) (ho : o_Mod EE ad N cI cZ cH cR o) (h : P_Mod_mustSign_b0 o M x1 = some z) : fw_J p l e (headSpec wsX9_mustSign rm_Mod_mustSign).room s m args below meth c D vwCl N ad EE 2 0 0 (fw_E below args s D vwCl N ad EE none z) M [(0, .ref (ad o)), (1, .int x1)] 0 [] := by
  unfold P_Mod_mustSign_b0 at h
  refine fw_aload_n (pc := 0) C 0 dX9_mustSign_0 rfl rfl ?_
  refine fw_aload_n (pc := 1) C 0 dX9_mustSign_1 rfl rfl ?_
  refine fw_geti (pc := 2) C ho.2.2.2.2.2.2.2.2.2.2.2.2.2.2.2.1 rfl qX9_mustSign_102 dX9_mustSign_2 ?_
  refine fw_iconst (pc := 5) C (v := 4) dX9_mustSign_5 fk_iconst_4 ?_
  refine fw_icmp_ne (pc := 6) C (tgt := 21) dX9_mustSign_6 (by decide) (fun c1 => ?_) (fun c1 => ?_)
  · have h := fw_iff h c1
    exact fw_sub [] rfl (c_Mod_mustSign_b21 C ho h)
  · have h := fw_ift h c1
    refine fw_aload_n (pc := 9) C 0 dX9_mustSign_9 rfl rfl ?_
    refine fw_geti (pc := 10) C ho.2.2.2.2.2.2.2.2.2.2.2.2.2.2.2.2.1 rfl qX9_mustSign_91 dX9_mustSign_10 ?_
    refine fw_iload_n (pc := 13) C 1 dX9_mustSign_13 rfl rfl ?_
    refine fw_icmp_ne (pc := 14) C (tgt := 21) dX9_mustSign_14 (by decide) (fun c2 => ?_) (fun c2 => ?_)
    · have h := fw_iff h c2
      exact fw_sub [] rfl (c_Mod_mustSign_b21 C ho h)
    · have h := fw_ift h c2
      refine fw_iconst (pc := 17) C (v := 1) dX9_mustSign_17 fk_iconst_1 ?_
      refine fw_goto (pc := 18) C (tgt := 22) dX9_mustSign_18 (by decide) ?_
      exact fw_sub [] rfl (c_Mod_mustSign_b22 C ho h)
theorem c_Mod_mustSign {l : Launch} {D : va_G} {cI cZ cH cR : ClassId} {N : Nat} {ad : Nat → Nat} {EE : fw_M → Nat → va_E} {o : Nat} {M : fw_M} {a0 : Int32} {z : fw_M} (ho : o_Mod EE ad N cI cZ cH cR o) (h : P_Mod_mustSign o M a0 = some z) : fw_Met l yX9_mustSign wsX9_mustSign rm_Mod_mustSign D vwCl (fw_tys cI cZ cH cR) N ad fw_nw0 EE [.ref (ad o), .int a0] M none z := by
  unfold P_Mod_mustSign at h
  exact fw_intro (cc := cX9_mustSign) (maxL := 2) (ret := none) (own := RX9) (by decide) rfl rfl (Nat.le_of_ble_eq_true rfl) (fun p e s m args below meth c C => fw_sub [0, 1] rfl (c_Mod_mustSign_b0 C ho h))
abbrev rm_Mod_begin : Room := { frames := 2, cells := 0, slots := 0, locals := 45 }
theorem hd_Mod_begin : yX9_begin.cls = RX9 ∧ yX9_begin.cls ≠ "java/lang/invoke/MethodHandle" ∧ yX9_begin.cls ≠ "java/lang/invoke/VarHandle" ∧ (parseMethodDescriptor yX9_begin.desc).map (fun d => d.parameters.length) = some 0 := by decide +kernel
theorem qX9_begin_87 : fw_G wsX9_begin RX9 87 RX9 TX9 24 12 := ⟨by decide +kernel, by decide +kernel, by decide⟩
theorem qX9_begin_78 : fw_G wsX9_begin RX9 78 RX9 TX9 24 16 := ⟨by decide +kernel, by decide +kernel, by decide⟩
def P_Mod_begin_b0 (o : Nat) (M : fw_M) : Option fw_M := fw_pl (fw_set M o 12 (0 : Int32)) fun M1 => fw_pl (fw_set M1 o 16 (0 : Int32)) fun M2 => (P_Mod_nextToken o M2).bind fun q3 => some q3
def P_Mod_begin (o : Nat) (M : fw_M) : Option fw_M := P_Mod_begin_b0 o M
set_option maxRecDepth 100000 in
theorem c_Mod_begin_b0 {p : Program} {l : Launch} {e : Env} {s : State} {m : MethodId} {args : Array Value} {below : List Frame} {meth : Method} {c : Code} {D : va_G} {cI cZ cH cR : ClassId} {N : Nat} {ad : Nat → Nat} {EE : fw_M → Nat → va_E} {o : Nat} {M : fw_M} {z : fw_M} (C : fw_C p s m args meth c cX9_begin RX9 wsX9_begin 1 (none) D vwCl (fw_tys cI cZ cH cR) N ad fw_nw0) (ho : o_Mod EE ad N cI cZ cH cR o) (h : P_Mod_begin_b0 o M = some z) : fw_J p l e (headSpec wsX9_begin rm_Mod_begin).room s m args below meth c D vwCl N ad EE 1 0 0 (fw_E below args s D vwCl N ad EE none z) M [(0, .ref (ad o))] 0 [] := by
  unfold P_Mod_begin_b0 at h
  refine fw_aload_n (pc := 0) C 0 dX9_begin_0 rfl rfl ?_
  refine fw_iconst (pc := 1) C (v := 0) dX9_begin_1 fk_iconst_0 ?_
  have h := fw_plh h
  refine fw_puti (pc := 2) C ho.2.2.2.2.2.2.2.2.2.2.2.2.2.1 rfl qX9_begin_87 tyX9 tyX9_ok nmX9 rfl rfl dX9_begin_2 ?_
  refine fw_aload_n (pc := 5) C 0 dX9_begin_5 rfl rfl ?_
  refine fw_iconst (pc := 6) C (v := 0) dX9_begin_6 fk_iconst_0 ?_
  have h := fw_plh h
  refine fw_puti (pc := 7) C ho.2.2.2.2.2.2.2.2.2.2.2.2.2.2.2.2.2.1 rfl qX9_begin_78 tyX9 tyX9_ok nmX9 rfl rfl dX9_begin_7 ?_
  refine fw_aload_n (pc := 10) C 0 dX9_begin_10 rfl rfl ?_
  obtain ⟨q3, hq3, h⟩ := fw_bind h
  refine fw_callV0 (pc := 11) C (rest := []) (c_Mod_nextToken ho hq3) (cwV 0 C.2.2.2.2.1 gX9_begin_X9_nextToken rfl rfl rfl hd_Mod_nextToken ⟨Nat.le_of_ble_eq_true rfl, Nat.le_of_ble_eq_true rfl⟩) ho.1 rfl rfl ⟨Nat.zero_le _, Nat.zero_le _⟩ rfl (Nat.le_of_ble_eq_true rfl) dX9_begin_11 ?_
  exact fw_vret (pc := 14) C (Option.some.inj h) dX9_begin_14
theorem c_Mod_begin {l : Launch} {D : va_G} {cI cZ cH cR : ClassId} {N : Nat} {ad : Nat → Nat} {EE : fw_M → Nat → va_E} {o : Nat} {M : fw_M} {z : fw_M} (ho : o_Mod EE ad N cI cZ cH cR o) (h : P_Mod_begin o M = some z) : fw_Met l yX9_begin wsX9_begin rm_Mod_begin D vwCl (fw_tys cI cZ cH cR) N ad fw_nw0 EE [.ref (ad o)] M none z := by
  unfold P_Mod_begin at h
  exact fw_intro (cc := cX9_begin) (maxL := 1) (ret := none) (own := RX9) (by decide) rfl rfl (Nat.le_of_ble_eq_true rfl) (fun p e s m args below meth c C => fw_sub [0] rfl (c_Mod_begin_b0 C ho h))
abbrev rm_Mod_failed : Room := { frames := 1, cells := 0, slots := 0, locals := 21 }
theorem hd_Mod_failed : yX9_failed.cls = RX9 ∧ yX9_failed.cls ≠ "java/lang/invoke/MethodHandle" ∧ yX9_failed.cls ≠ "java/lang/invoke/VarHandle" ∧ (parseMethodDescriptor yX9_failed.desc).map (fun d => d.parameters.length) = some 0 := by decide +kernel
theorem qX9_failed_78 : fw_G wsX9_failed RX9 78 RX9 TX9 24 16 := ⟨by decide +kernel, by decide +kernel, by decide⟩
theorem qX9_failed_102 : fw_G wsX9_failed RX9 102 RX9 TX9 24 14 := ⟨by decide +kernel, by decide +kernel, by decide⟩
theorem qX9_failed_74 : fw_G wsX9_failed RX9 74 RX9 TX9 24 11 := ⟨by decide +kernel, by decide +kernel, by decide⟩
theorem qX9_failed_116 : fw_G wsX9_failed RX9 116 RX9 TX9 24 18 := ⟨by decide +kernel, by decide +kernel, by decide⟩
def P_Mod_failed_b59 (o : Nat) (M : fw_M) (t0 : Int32) : Option (Int32 × fw_M) := (fw_zr t0).bind fun v1 => some (v1, M)
def P_Mod_failed_b44 (o : Nat) (M : fw_M) (t1 : Int32) : Option (Int32 × fw_M) := fw_pl (fw_set M o 18 t1) fun M1 => (if (M1 o 16) ≤ (0 : Int32) then P_Mod_failed_b59 o M1 (0 : Int32) else P_Mod_failed_b59 o M1 (1 : Int32))
def P_Mod_failed_b20 (o : Nat) (M : fw_M) : Option (Int32 × fw_M) := fw_pl (fw_set M o 11 (0 : Int32)) fun M1 => (if (M1 o 16) ≤ (0 : Int32) then P_Mod_failed_b44 o M1 (M1 o 18) else P_Mod_failed_b44 o M1 (M1 o 16))
def P_Mod_failed_b0 (o : Nat) (M : fw_M) : Option (Int32 × fw_M) := (if (M o 16) = (0 : Int32) then (if (M o 14) = (1 : Int32) then P_Mod_failed_b20 o M else (P_Mod_bad o M (1 : Int32)).bind fun q3 => P_Mod_failed_b20 o q3) else P_Mod_failed_b20 o M)
def P_Mod_failed (o : Nat) (M : fw_M) : Option (Int32 × fw_M) := P_Mod_failed_b0 o M
set_option maxRecDepth 100000 in
theorem c_Mod_failed_b59 {p : Program} {l : Launch} {e : Env} {s : State} {m : MethodId} {args : Array Value} {below : List Frame} {meth : Method} {c : Code} {D : va_G} {cI cZ cH cR : ClassId} {N : Nat} {ad : Nat → Nat} {EE : fw_M → Nat → va_E} {o : Nat} {M : fw_M} {t0 : Int32} {z : (Int32 × fw_M)} (C : fw_C p s m args meth c cX9_failed RX9 wsX9_failed 1 (some .boolean) D vwCl (fw_tys cI cZ cH cR) N ad fw_nw0) (ho : o_Mod EE ad N cI cZ cH cR o) (h : P_Mod_failed_b59 o M t0 = some z) : fw_J p l e (headSpec wsX9_failed rm_Mod_failed).room s m args below meth c D vwCl N ad EE 1 0 0 (fw_E below args s D vwCl N ad EE (some (.int z.1)) z.2) M [] 59 [.int t0] := by
  unfold P_Mod_failed_b59 at h
  obtain ⟨v1, hv1, h⟩ := fw_bind h
  exact fw_zret (pc := 59) C (fw_zrh hv1).1 ((fw_zrh hv1).2.trans (fw_p1 h)) (fw_p2 h) dX9_failed_59
set_option maxRecDepth 100000 in
theorem c_Mod_failed_b44 {p : Program} {l : Launch} {e : Env} {s : State} {m : MethodId} {args : Array Value} {below : List Frame} {meth : Method} {c : Code} {D : va_G} {cI cZ cH cR : ClassId} {N : Nat} {ad : Nat → Nat} {EE : fw_M → Nat → va_E} {o : Nat} {M : fw_M} {t1 : Int32} {z : (Int32 × fw_M)} (C : fw_C p s m args meth c cX9_failed RX9 wsX9_failed 1 (some .boolean) D vwCl (fw_tys cI cZ cH cR) N ad fw_nw0) (ho : o_Mod EE ad N cI cZ cH cR o) (h : P_Mod_failed_b44 o M t1 = some z) : fw_J p l e (headSpec wsX9_failed rm_Mod_failed).room s m args below meth c D vwCl N ad EE 1 0 0 (fw_E below args s D vwCl N ad EE (some (.int z.1)) z.2) M [(0, .ref (ad o))] 44 [.int t1, .ref (ad o)] := by
  unfold P_Mod_failed_b44 at h
  have h := fw_plh h
  refine fw_puti (pc := 44) C ho.2.2.2.2.2.2.2.2.2.2.2.2.2.2.2.2.2.2.2.1 rfl qX9_failed_116 tyX9 tyX9_ok nmX9 rfl rfl dX9_failed_44 ?_
  refine fw_aload_n (pc := 47) C 0 dX9_failed_47 rfl rfl ?_
  refine fw_geti (pc := 48) C ho.2.2.2.2.2.2.2.2.2.2.2.2.2.2.2.2.2.1 rfl qX9_failed_78 dX9_failed_48 ?_
  refine fw_if_le (pc := 51) C (tgt := 58) dX9_failed_51 (by decide) (fun c2 => ?_) (fun c2 => ?_)
  · have h := fw_ift h c2
    refine fw_iconst (pc := 58) C (v := 0) dX9_failed_58 fk_iconst_0 ?_
    exact fw_sub [] rfl (c_Mod_failed_b59 C ho h)
  · have h := fw_iff h c2
    refine fw_iconst (pc := 54) C (v := 1) dX9_failed_54 fk_iconst_1 ?_
    refine fw_goto (pc := 55) C (tgt := 59) dX9_failed_55 (by decide) ?_
    exact fw_sub [] rfl (c_Mod_failed_b59 C ho h)
set_option maxRecDepth 100000 in
theorem c_Mod_failed_b20 {p : Program} {l : Launch} {e : Env} {s : State} {m : MethodId} {args : Array Value} {below : List Frame} {meth : Method} {c : Code} {D : va_G} {cI cZ cH cR : ClassId} {N : Nat} {ad : Nat → Nat} {EE : fw_M → Nat → va_E} {o : Nat} {M : fw_M} {z : (Int32 × fw_M)} (C : fw_C p s m args meth c cX9_failed RX9 wsX9_failed 1 (some .boolean) D vwCl (fw_tys cI cZ cH cR) N ad fw_nw0) (ho : o_Mod EE ad N cI cZ cH cR o) (h : P_Mod_failed_b20 o M = some z) : fw_J p l e (headSpec wsX9_failed rm_Mod_failed).room s m args below meth c D vwCl N ad EE 1 0 0 (fw_E below args s D vwCl N ad EE (some (.int z.1)) z.2) M [(0, .ref (ad o))] 20 [] := by
  unfold P_Mod_failed_b20 at h
  refine fw_aload_n (pc := 20) C 0 dX9_failed_20 rfl rfl ?_
  refine fw_iconst (pc := 21) C (v := 0) dX9_failed_21 fk_iconst_0 ?_
  have h := fw_plh h
  refine fw_puti (pc := 22) C ho.2.2.2.2.2.2.2.2.2.2.2.2.1 rfl qX9_failed_74 tyX9 tyX9_ok nmX9 rfl rfl dX9_failed_22 ?_
  refine fw_aload_n (pc := 25) C 0 dX9_failed_25 rfl rfl ?_
  refine fw_aload_n (pc := 26) C 0 dX9_failed_26 rfl rfl ?_
  refine fw_geti (pc := 27) C ho.2.2.2.2.2.2.2.2.2.2.2.2.2.2.2.2.2.1 rfl qX9_failed_78 dX9_failed_27 ?_
  refine fw_if_le (pc := 30) C (tgt := 40) dX9_failed_30 (by decide) (fun c2 => ?_) (fun c2 => ?_)
  · have h := fw_ift h c2
    refine fw_aload_n (pc := 40) C 0 dX9_failed_40 rfl rfl ?_
    refine fw_geti (pc := 41) C ho.2.2.2.2.2.2.2.2.2.2.2.2.2.2.2.2.2.2.2.1 rfl qX9_failed_116 dX9_failed_41 ?_
    exact (c_Mod_failed_b44 C ho h)
  · have h := fw_iff h c2
    refine fw_aload_n (pc := 33) C 0 dX9_failed_33 rfl rfl ?_
    refine fw_geti (pc := 34) C ho.2.2.2.2.2.2.2.2.2.2.2.2.2.2.2.2.2.1 rfl qX9_failed_78 dX9_failed_34 ?_
    refine fw_goto (pc := 37) C (tgt := 44) dX9_failed_37 (by decide) ?_
    exact (c_Mod_failed_b44 C ho h)
set_option maxRecDepth 100000 in
theorem c_Mod_failed_b0 {p : Program} {l : Launch} {e : Env} {s : State} {m : MethodId} {args : Array Value} {below : List Frame} {meth : Method} {c : Code} {D : va_G} {cI cZ cH cR : ClassId} {N : Nat} {ad : Nat → Nat} {EE : fw_M → Nat → va_E} {o : Nat} {M : fw_M} {z : (Int32 × fw_M)} (C : fw_C p s m args meth c cX9_failed RX9 wsX9_failed 1 (some .boolean) D vwCl (fw_tys cI cZ cH cR) N ad fw_nw0) (ho : o_Mod EE ad N cI cZ cH cR o) (h : P_Mod_failed_b0 o M = some z) : fw_J p l e (headSpec wsX9_failed rm_Mod_failed).room s m args below meth c D vwCl N ad EE 1 0 0 (fw_E below args s D vwCl N ad EE (some (.int z.1)) z.2) M [(0, .ref (ad o))] 0 [] := by
  unfold P_Mod_failed_b0 at h
  refine fw_aload_n (pc := 0) C 0 dX9_failed_0 rfl rfl ?_
  refine fw_geti (pc := 1) C ho.2.2.2.2.2.2.2.2.2.2.2.2.2.2.2.2.2.1 rfl qX9_failed_78 dX9_failed_1 ?_
  refine fw_if_ne (pc := 4) C (tgt := 20) dX9_failed_4 (by decide) (fun c1 => ?_) (fun c1 => ?_)
  · have h := fw_iff h c1
    exact (c_Mod_failed_b20 C ho h)
  · have h := fw_ift h c1
    refine fw_aload_n (pc := 7) C 0 dX9_failed_7 rfl rfl ?_
    refine fw_geti (pc := 8) C ho.2.2.2.2.2.2.2.2.2.2.2.2.2.2.2.1 rfl qX9_failed_102 dX9_failed_8 ?_
    refine fw_iconst (pc := 11) C (v := 1) dX9_failed_11 fk_iconst_1 ?_
    refine fw_icmp_eq (pc := 12) C (tgt := 20) dX9_failed_12 (by decide) (fun c2 => ?_) (fun c2 => ?_)
    · have h := fw_ift h c2
      exact (c_Mod_failed_b20 C ho h)
    · have h := fw_iff h c2
      refine fw_aload_n (pc := 15) C 0 dX9_failed_15 rfl rfl ?_
      refine fw_iconst (pc := 16) C (v := 1) dX9_failed_16 fk_iconst_1 ?_
      obtain ⟨q3, hq3, h⟩ := fw_bind h
      refine fw_callV0 (pc := 17) C (rest := []) (c_Mod_bad ho hq3) (cwV 1 C.2.2.2.2.1 gX9_failed_X9_bad rfl rfl rfl hd_Mod_bad ⟨Nat.le_of_ble_eq_true rfl, Nat.le_of_ble_eq_true rfl⟩) ho.1 rfl rfl ⟨Nat.zero_le _, Nat.zero_le _⟩ rfl (Nat.le_of_ble_eq_true rfl) dX9_failed_17 ?_
      exact (c_Mod_failed_b20 C ho h)
theorem c_Mod_failed {l : Launch} {D : va_G} {cI cZ cH cR : ClassId} {N : Nat} {ad : Nat → Nat} {EE : fw_M → Nat → va_E} {o : Nat} {M : fw_M} {z : (Int32 × fw_M)} (ho : o_Mod EE ad N cI cZ cH cR o) (h : P_Mod_failed o M = some z) : fw_Met l yX9_failed wsX9_failed rm_Mod_failed D vwCl (fw_tys cI cZ cH cR) N ad fw_nw0 EE [.ref (ad o)] M (some (.int z.1)) z.2 := by
  unfold P_Mod_failed at h
  exact fw_intro (cc := cX9_failed) (maxL := 1) (ret := some .boolean) (own := RX9) (by decide) rfl rfl (Nat.le_of_ble_eq_true rfl) (fun p e s m args below meth c C => fw_sub [0] rfl (c_Mod_failed_b0 C ho h))
abbrev rm_Mod_fault : Room := { frames := 0, cells := 0, slots := 0, locals := 0 }
theorem hd_Mod_fault : yX9_fault.cls = RX9 ∧ yX9_fault.cls ≠ "java/lang/invoke/MethodHandle" ∧ yX9_fault.cls ≠ "java/lang/invoke/VarHandle" ∧ (parseMethodDescriptor yX9_fault.desc).map (fun d => d.parameters.length) = some 0 := by decide +kernel
theorem qX9_fault_47 : fw_G wsX9_fault RX9 47 RX9 TX9 24 0 := ⟨by decide +kernel, by decide +kernel, by decide⟩
theorem qX9_fault_116 : fw_G wsX9_fault RX9 116 RX9 TX9 24 18 := ⟨by decide +kernel, by decide +kernel, by decide⟩
def P_Mod_fault_b0 (o : Nat) (M : fw_M) : Option (Int32 × fw_M) := fw_pl (fw_set M o 0 (0 : Int32)) fun M1 => some ((M1 o 18), M1)
def P_Mod_fault (o : Nat) (M : fw_M) : Option (Int32 × fw_M) := P_Mod_fault_b0 o M
set_option maxRecDepth 100000 in
theorem c_Mod_fault_b0 {p : Program} {l : Launch} {e : Env} {s : State} {m : MethodId} {args : Array Value} {below : List Frame} {meth : Method} {c : Code} {D : va_G} {cI cZ cH cR : ClassId} {N : Nat} {ad : Nat → Nat} {EE : fw_M → Nat → va_E} {o : Nat} {M : fw_M} {z : (Int32 × fw_M)} (C : fw_C p s m args meth c cX9_fault RX9 wsX9_fault 1 (some .int) D vwCl (fw_tys cI cZ cH cR) N ad fw_nw0) (ho : o_Mod EE ad N cI cZ cH cR o) (h : P_Mod_fault_b0 o M = some z) : fw_J p l e (headSpec wsX9_fault rm_Mod_fault).room s m args below meth c D vwCl N ad EE 1 0 0 (fw_E below args s D vwCl N ad EE (some (.int z.1)) z.2) M [(0, .ref (ad o))] 0 [] := by
  unfold P_Mod_fault_b0 at h
  refine fw_aload_n (pc := 0) C 0 dX9_fault_0 rfl rfl ?_
  refine fw_iconst (pc := 1) C (v := 0) dX9_fault_1 fk_iconst_0 ?_
  have h := fw_plh h
  refine fw_puti (pc := 2) C ho.2.1 rfl qX9_fault_47 tyX9 tyX9_ok nmX9 rfl rfl dX9_fault_2 ?_
  refine fw_aload_n (pc := 5) C 0 dX9_fault_5 rfl rfl ?_
  refine fw_geti (pc := 6) C ho.2.2.2.2.2.2.2.2.2.2.2.2.2.2.2.2.2.2.2.1 rfl qX9_fault_116 dX9_fault_6 ?_
  exact fw_iret (pc := 9) C (fw_p1 h) (fw_p2 h) dX9_fault_9
theorem c_Mod_fault {l : Launch} {D : va_G} {cI cZ cH cR : ClassId} {N : Nat} {ad : Nat → Nat} {EE : fw_M → Nat → va_E} {o : Nat} {M : fw_M} {z : (Int32 × fw_M)} (ho : o_Mod EE ad N cI cZ cH cR o) (h : P_Mod_fault o M = some z) : fw_Met l yX9_fault wsX9_fault rm_Mod_fault D vwCl (fw_tys cI cZ cH cR) N ad fw_nw0 EE [.ref (ad o)] M (some (.int z.1)) z.2 := by
  unfold P_Mod_fault at h
  exact fw_intro (cc := cX9_fault) (maxL := 1) (ret := some .int) (own := RX9) (by decide) rfl rfl (Nat.le_of_ble_eq_true rfl) (fun p e s m args below meth c C => fw_sub [0] rfl (c_Mod_fault_b0 C ho h))
abbrev rm_Mod_kindBy : Room := { frames := 0, cells := 0, slots := 0, locals := 0 }
theorem hd_Mod_kindBy : yX9_kindBy.cls = RX9 ∧ yX9_kindBy.cls ≠ "java/lang/invoke/MethodHandle" ∧ yX9_kindBy.cls ≠ "java/lang/invoke/VarHandle" ∧ (parseMethodDescriptor yX9_kindBy.desc).map (fun d => d.parameters.length) = some 1 := by decide +kernel
theorem kX9_kindBy_90 : Cond.constant RX9 90 (-1000000) ∈ wsX9_kindBy := by decide +kernel
def P_Mod_kindBy_b52 (M : fw_M) (t0 : Int32) : Option Int32 := some t0
def P_Mod_kindBy_b0 (M : fw_M) (x0 : Int32) : Option Int32 := (if x0 = (99 : Int32) then P_Mod_kindBy_b52 M (1 : Int32) else (if x0 = (115 : Int32) then P_Mod_kindBy_b52 M (2 : Int32) else (if x0 = (106 : Int32) then P_Mod_kindBy_b52 M (3 : Int32) else (if x0 = (103 : Int32) then P_Mod_kindBy_b52 M (4 : Int32) else (if x0 = (98 : Int32) then P_Mod_kindBy_b52 M (5 : Int32) else P_Mod_kindBy_b52 M (-1000000 : Int32))))))
def P_Mod_kindBy (M : fw_M) (a0 : Int32) : Option Int32 := P_Mod_kindBy_b0 M a0
set_option maxRecDepth 100000 in
theorem c_Mod_kindBy_b52 {p : Program} {l : Launch} {e : Env} {s : State} {m : MethodId} {args : Array Value} {below : List Frame} {meth : Method} {c : Code} {D : va_G} {cI cZ cH cR : ClassId} {N : Nat} {ad : Nat → Nat} {EE : fw_M → Nat → va_E} {M : fw_M} {t0 : Int32} {z : Int32} (C : fw_C p s m args meth c cX9_kindBy RX9 wsX9_kindBy 1 (some .int) D vwCl (fw_tys cI cZ cH cR) N ad fw_nw0) (h : P_Mod_kindBy_b52 M t0 = some z) : fw_J p l e (headSpec wsX9_kindBy rm_Mod_kindBy).room s m args below meth c D vwCl N ad EE 1 0 0 (fw_E below args s D vwCl N ad EE (some (.int z)) M) M [] 52 [.int t0] := by
  unfold P_Mod_kindBy_b52 at h
  exact fw_iret (pc := 52) C (Option.some.inj h) rfl dX9_kindBy_52
set_option maxRecDepth 100000 in
theorem c_Mod_kindBy_b0 {p : Program} {l : Launch} {e : Env} {s : State} {m : MethodId} {args : Array Value} {below : List Frame} {meth : Method} {c : Code} {D : va_G} {cI cZ cH cR : ClassId} {N : Nat} {ad : Nat → Nat} {EE : fw_M → Nat → va_E} {M : fw_M} {x0 : Int32} {z : Int32} (C : fw_C p s m args meth c cX9_kindBy RX9 wsX9_kindBy 1 (some .int) D vwCl (fw_tys cI cZ cH cR) N ad fw_nw0) (h : P_Mod_kindBy_b0 M x0 = some z) : fw_J p l e (headSpec wsX9_kindBy rm_Mod_kindBy).room s m args below meth c D vwCl N ad EE 1 0 0 (fw_E below args s D vwCl N ad EE (some (.int z)) M) M [(0, .int x0)] 0 [] := by
  unfold P_Mod_kindBy_b0 at h
  refine fw_iload_n (pc := 0) C 0 dX9_kindBy_0 rfl rfl ?_
  refine fw_bipush (pc := 1) C (v := 99) dX9_kindBy_1 fk_bipush_99 ?_
  refine fw_icmp_ne (pc := 3) C (tgt := 10) dX9_kindBy_3 (by decide) (fun c1 => ?_) (fun c1 => ?_)
  · have h := fw_iff h c1
    refine fw_iload_n (pc := 10) C 0 dX9_kindBy_10 rfl rfl ?_
    refine fw_bipush (pc := 11) C (v := 115) dX9_kindBy_11 fk_bipush_115 ?_
    refine fw_icmp_ne (pc := 13) C (tgt := 20) dX9_kindBy_13 (by decide) (fun c2 => ?_) (fun c2 => ?_)
    · have h := fw_iff h c2
      refine fw_iload_n (pc := 20) C 0 dX9_kindBy_20 rfl rfl ?_
      refine fw_bipush (pc := 21) C (v := 106) dX9_kindBy_21 fk_bipush_106 ?_
      refine fw_icmp_ne (pc := 23) C (tgt := 30) dX9_kindBy_23 (by decide) (fun c3 => ?_) (fun c3 => ?_)
      · have h := fw_iff h c3
        refine fw_iload_n (pc := 30) C 0 dX9_kindBy_30 rfl rfl ?_
        refine fw_bipush (pc := 31) C (v := 103) dX9_kindBy_31 fk_bipush_103 ?_
        refine fw_icmp_ne (pc := 33) C (tgt := 40) dX9_kindBy_33 (by decide) (fun c4 => ?_) (fun c4 => ?_)
        · have h := fw_iff h c4
          refine fw_iload_n (pc := 40) C 0 dX9_kindBy_40 rfl rfl ?_
          refine fw_bipush (pc := 41) C (v := 98) dX9_kindBy_41 fk_bipush_98 ?_
          refine fw_icmp_ne (pc := 43) C (tgt := 50) dX9_kindBy_43 (by decide) (fun c5 => ?_) (fun c5 => ?_)
          · have h := fw_iff h c5
            refine fw_ldc (pc := 50) C (v := -1000000) kX9_kindBy_90 dX9_kindBy_50 ?_
            exact fw_sub [] rfl (c_Mod_kindBy_b52 C  h)
          · have h := fw_ift h c5
            refine fw_iconst (pc := 46) C (v := 5) dX9_kindBy_46 fk_iconst_5 ?_
            refine fw_goto (pc := 47) C (tgt := 52) dX9_kindBy_47 (by decide) ?_
            exact fw_sub [] rfl (c_Mod_kindBy_b52 C  h)
        · have h := fw_ift h c4
          refine fw_iconst (pc := 36) C (v := 4) dX9_kindBy_36 fk_iconst_4 ?_
          refine fw_goto (pc := 37) C (tgt := 52) dX9_kindBy_37 (by decide) ?_
          exact fw_sub [] rfl (c_Mod_kindBy_b52 C  h)
      · have h := fw_ift h c3
        refine fw_iconst (pc := 26) C (v := 3) dX9_kindBy_26 fk_iconst_3 ?_
        refine fw_goto (pc := 27) C (tgt := 52) dX9_kindBy_27 (by decide) ?_
        exact fw_sub [] rfl (c_Mod_kindBy_b52 C  h)
    · have h := fw_ift h c2
      refine fw_iconst (pc := 16) C (v := 2) dX9_kindBy_16 fk_iconst_2 ?_
      refine fw_goto (pc := 17) C (tgt := 52) dX9_kindBy_17 (by decide) ?_
      exact fw_sub [] rfl (c_Mod_kindBy_b52 C  h)
  · have h := fw_ift h c1
    refine fw_iconst (pc := 6) C (v := 1) dX9_kindBy_6 fk_iconst_1 ?_
    refine fw_goto (pc := 7) C (tgt := 52) dX9_kindBy_7 (by decide) ?_
    exact fw_sub [] rfl (c_Mod_kindBy_b52 C  h)
theorem c_Mod_kindBy {l : Launch} {D : va_G} {cI cZ cH cR : ClassId} {N : Nat} {ad : Nat → Nat} {EE : fw_M → Nat → va_E} {M : fw_M} {a0 : Int32} {z : Int32} (h : P_Mod_kindBy M a0 = some z) : fw_Met l yX9_kindBy wsX9_kindBy rm_Mod_kindBy D vwCl (fw_tys cI cZ cH cR) N ad fw_nw0 EE [.int a0] M (some (.int z)) M := by
  unfold P_Mod_kindBy at h
  exact fw_intro (cc := cX9_kindBy) (maxL := 1) (ret := some .int) (own := RX9) (by decide) rfl rfl (Nat.le_of_ble_eq_true rfl) (fun p e s m args below meth c C => fw_sub [0] rfl (c_Mod_kindBy_b0 C  h))
abbrev rm_Mod_isSort : Room := { frames := 1, cells := 0, slots := 0, locals := 20 }
theorem hd_Mod_isSort : yX9_isSort.cls = RX9 ∧ yX9_isSort.cls ≠ "java/lang/invoke/MethodHandle" ∧ yX9_isSort.cls ≠ "java/lang/invoke/VarHandle" ∧ (parseMethodDescriptor yX9_isSort.desc).map (fun d => d.parameters.length) = some 0 := by decide +kernel
theorem qX9_isSort_78 : fw_G wsX9_isSort RX9 78 RX9 TX9 24 16 := ⟨by decide +kernel, by decide +kernel, by decide⟩
theorem qX9_isSort_102 : fw_G wsX9_isSort RX9 102 RX9 TX9 24 14 := ⟨by decide +kernel, by decide +kernel, by decide⟩
theorem qX9_isSort_91 : fw_G wsX9_isSort RX9 91 RX9 TX9 24 15 := ⟨by decide +kernel, by decide +kernel, by decide⟩
theorem kX9_isSort_90 : Cond.constant RX9 90 (-1000000) ∈ wsX9_isSort := by decide +kernel
def P_Mod_isSort_b32 (o : Nat) (M : fw_M) (t0 : Int32) : Option Int32 := (fw_zr t0).bind fun v1 => some v1
def P_Mod_isSort_b31 (o : Nat) (M : fw_M) : Option Int32 := P_Mod_isSort_b32 o M (0 : Int32)
def P_Mod_isSort_b0 (o : Nat) (M : fw_M) : Option Int32 := (if (M o 16) = (0 : Int32) then (if (M o 14) = (2 : Int32) then (P_Mod_kindBy M (M o 15)).bind fun v3 => (if v3 = (-1000000 : Int32) then P_Mod_isSort_b31 o M else P_Mod_isSort_b32 o M (1 : Int32)) else P_Mod_isSort_b31 o M) else P_Mod_isSort_b31 o M)
def P_Mod_isSort (o : Nat) (M : fw_M) : Option Int32 := P_Mod_isSort_b0 o M
set_option maxRecDepth 100000 in
theorem c_Mod_isSort_b32 {p : Program} {l : Launch} {e : Env} {s : State} {m : MethodId} {args : Array Value} {below : List Frame} {meth : Method} {c : Code} {D : va_G} {cI cZ cH cR : ClassId} {N : Nat} {ad : Nat → Nat} {EE : fw_M → Nat → va_E} {o : Nat} {M : fw_M} {t0 : Int32} {z : Int32} (C : fw_C p s m args meth c cX9_isSort RX9 wsX9_isSort 1 (some .boolean) D vwCl (fw_tys cI cZ cH cR) N ad fw_nw0) (ho : o_Mod EE ad N cI cZ cH cR o) (h : P_Mod_isSort_b32 o M t0 = some z) : fw_J p l e (headSpec wsX9_isSort rm_Mod_isSort).room s m args below meth c D vwCl N ad EE 1 0 0 (fw_E below args s D vwCl N ad EE (some (.int z)) M) M [] 32 [.int t0] := by
  unfold P_Mod_isSort_b32 at h
  obtain ⟨v1, hv1, h⟩ := fw_bind h
  exact fw_zret (pc := 32) C (fw_zrh hv1).1 ((fw_zrh hv1).2.trans (Option.some.inj h)) rfl dX9_isSort_32
set_option maxRecDepth 100000 in
theorem c_Mod_isSort_b31 {p : Program} {l : Launch} {e : Env} {s : State} {m : MethodId} {args : Array Value} {below : List Frame} {meth : Method} {c : Code} {D : va_G} {cI cZ cH cR : ClassId} {N : Nat} {ad : Nat → Nat} {EE : fw_M → Nat → va_E} {o : Nat} {M : fw_M} {z : Int32} (C : fw_C p s m args meth c cX9_isSort RX9 wsX9_isSort 1 (some .boolean) D vwCl (fw_tys cI cZ cH cR) N ad fw_nw0) (ho : o_Mod EE ad N cI cZ cH cR o) (h : P_Mod_isSort_b31 o M = some z) : fw_J p l e (headSpec wsX9_isSort rm_Mod_isSort).room s m args below meth c D vwCl N ad EE 1 0 0 (fw_E below args s D vwCl N ad EE (some (.int z)) M) M [] 31 [] := by
  unfold P_Mod_isSort_b31 at h
  refine fw_iconst (pc := 31) C (v := 0) dX9_isSort_31 fk_iconst_0 ?_
  exact (c_Mod_isSort_b32 C ho h)
set_option maxRecDepth 100000 in
theorem c_Mod_isSort_b0 {p : Program} {l : Launch} {e : Env} {s : State} {m : MethodId} {args : Array Value} {below : List Frame} {meth : Method} {c : Code} {D : va_G} {cI cZ cH cR : ClassId} {N : Nat} {ad : Nat → Nat} {EE : fw_M → Nat → va_E} {o : Nat} {M : fw_M} {z : Int32} (C : fw_C p s m args meth c cX9_isSort RX9 wsX9_isSort 1 (some .boolean) D vwCl (fw_tys cI cZ cH cR) N ad fw_nw0) (ho : o_Mod EE ad N cI cZ cH cR o) (h : P_Mod_isSort_b0 o M = some z) : fw_J p l e (headSpec wsX9_isSort rm_Mod_isSort).room s m args below meth c D vwCl N ad EE 1 0 0 (fw_E below args s D vwCl N ad EE (some (.int z)) M) M [(0, .ref (ad o))] 0 [] := by
  unfold P_Mod_isSort_b0 at h
  refine fw_aload_n (pc := 0) C 0 dX9_isSort_0 rfl rfl ?_
  refine fw_geti (pc := 1) C ho.2.2.2.2.2.2.2.2.2.2.2.2.2.2.2.2.2.1 rfl qX9_isSort_78 dX9_isSort_1 ?_
  refine fw_if_ne (pc := 4) C (tgt := 31) dX9_isSort_4 (by decide) (fun c1 => ?_) (fun c1 => ?_)
  · have h := fw_iff h c1
    exact fw_sub [] rfl (c_Mod_isSort_b31 C ho h)
  · have h := fw_ift h c1
    refine fw_aload_n (pc := 7) C 0 dX9_isSort_7 rfl rfl ?_
    refine fw_geti (pc := 8) C ho.2.2.2.2.2.2.2.2.2.2.2.2.2.2.2.1 rfl qX9_isSort_102 dX9_isSort_8 ?_
    refine fw_iconst (pc := 11) C (v := 2) dX9_isSort_11 fk_iconst_2 ?_
    refine fw_icmp_ne (pc := 12) C (tgt := 31) dX9_isSort_12 (by decide) (fun c2 => ?_) (fun c2 => ?_)
    · have h := fw_iff h c2
      exact fw_sub [] rfl (c_Mod_isSort_b31 C ho h)
    · have h := fw_ift h c2
      refine fw_aload_n (pc := 15) C 0 dX9_isSort_15 rfl rfl ?_
      refine fw_geti (pc := 16) C ho.2.2.2.2.2.2.2.2.2.2.2.2.2.2.2.2.1 rfl qX9_isSort_91 dX9_isSort_16 ?_
      obtain ⟨v3, hv3, h⟩ := fw_bind h
      refine fw_callS1 (pc := 19) C (rest := []) (c_Mod_kindBy  hv3) (va_cwS 1 C.2.2.2.2.1 gX9_isSort_X9_kindBy rfl rfl rfl hd_Mod_kindBy.2 ⟨Nat.le_of_ble_eq_true rfl, Nat.le_of_ble_eq_true rfl⟩) rfl ⟨Nat.zero_le _, Nat.zero_le _⟩ rfl (Nat.le_of_ble_eq_true rfl) dX9_isSort_19 ?_
      refine fw_ldc (pc := 22) C (v := -1000000) kX9_isSort_90 dX9_isSort_22 ?_
      refine fw_icmp_eq (pc := 24) C (tgt := 31) dX9_isSort_24 (by decide) (fun c4 => ?_) (fun c4 => ?_)
      · have h := fw_ift h c4
        exact fw_sub [] rfl (c_Mod_isSort_b31 C ho h)
      · have h := fw_iff h c4
        refine fw_iconst (pc := 27) C (v := 1) dX9_isSort_27 fk_iconst_1 ?_
        refine fw_goto (pc := 28) C (tgt := 32) dX9_isSort_28 (by decide) ?_
        exact fw_sub [] rfl (c_Mod_isSort_b32 C ho h)
theorem c_Mod_isSort {l : Launch} {D : va_G} {cI cZ cH cR : ClassId} {N : Nat} {ad : Nat → Nat} {EE : fw_M → Nat → va_E} {o : Nat} {M : fw_M} {z : Int32} (ho : o_Mod EE ad N cI cZ cH cR o) (h : P_Mod_isSort o M = some z) : fw_Met l yX9_isSort wsX9_isSort rm_Mod_isSort D vwCl (fw_tys cI cZ cH cR) N ad fw_nw0 EE [.ref (ad o)] M (some (.int z)) M := by
  unfold P_Mod_isSort at h
  exact fw_intro (cc := cX9_isSort) (maxL := 1) (ret := some .boolean) (own := RX9) (by decide) rfl rfl (Nat.le_of_ble_eq_true rfl) (fun p e s m args below meth c C => fw_sub [0] rfl (c_Mod_isSort_b0 C ho h))
end
