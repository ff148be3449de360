noncomputable section
abbrev rm_Mod_bows : Room := { frames := 8, cells := 0, slots := 0, locals := 182 }
theorem hd_Mod_bows : yX9_bows.cls = RX9 ∧ yX9_bows.cls ≠ "java/lang/invoke/MethodHandle" ∧ yX9_bows.cls ≠ "java/lang/invoke/VarHandle" ∧ (parseMethodDescriptor yX9_bows.desc).map (fun d => d.parameters.length) = some 2 := by decide +kernel
theorem qX9_bows_47 : fw_G wsX9_bows RX9 47 RX9 TX9 24 0 := ⟨by decide +kernel, by decide +kernel, by decide⟩
theorem kX9_bows_187 : Cond.constant RX9 187 (-1000002) ∈ wsX9_bows := by decide +kernel
theorem qX9_bows_19 : fw_G wsX9_bows RX9 19 RX9 TX9 24 5 := ⟨by decide +kernel, by decide +kernel, by decide⟩
theorem kX9_bows_90 : Cond.constant RX9 90 (-1000000) ∈ wsX9_bows := by decide +kernel
theorem qX9_bows_25 : fw_G wsX9_bows RX9 25 RX9 TX9 24 7 := ⟨by decide +kernel, by decide +kernel, by decide⟩
theorem kX9_bows_67 : Cond.constant RX9 67 (-1000001) ∈ wsX9_bows := by decide +kernel
def P_Mod_bows_b33 (o : Nat) (M : fw_M) : Option (Int32 × fw_M) := some ((-1000001 : Int32), M)
def P_Mod_bows_b199 (o : Nat) (M : fw_M) (t0 : Int32) : Option (Int32 × fw_M) := some (t0, M)
def P_Mod_bows_b189 (o : Nat) (M : fw_M) (x4 : Int32) : Option (Int32 × fw_M) := P_Mod_bows_b199 o M x4
def P_Mod_bows_b171 (o : Nat) (K52 : fw_M → Int32 → Int32 → Int32 → Int32 → Int32 → Option (Int32 × fw_M)) (M : fw_M) (x1 : Int32) (x2 : Int32) (x3 : Int32) (x4 : Int32) (x5 : Int32) : Option (Int32 × fw_M) := K52 M x1 x2 x3 x4 (x5 + (1 : Int32))
def P_Mod_bows_b169 (o : Nat) (K52 : fw_M → Int32 → Int32 → Int32 → Int32 → Int32 → Option (Int32 × fw_M)) (M : fw_M) (x1 : Int32) (x2 : Int32) (x3 : Int32) (x5 : Int32) (t0 : Int32) : Option (Int32 × fw_M) := P_Mod_bows_b171 o K52 M x1 x2 x3 t0 x5
def P_Mod_bows_b147 (o : Nat) (K52 : fw_M → Int32 → Int32 → Int32 → Int32 → Int32 → Option (Int32 × fw_M)) (K94 : fw_M → Int32 → Int32 → Int32 → Int32 → Int32 → Int32 → Option (Int32 × fw_M)) (M : fw_M) (x1 : Int32) (x2 : Int32) (x3 : Int32) (x4 : Int32) (x5 : Int32) (x6 : Int32) (t1 : Int32) (t2 : Int32) : Option (Int32 × fw_M) := (fw_ast M (o + 6) 39 t1 t2).bind fun M1 => K94 M1 x1 x2 x3 x4 x5 (x6 + (1 : Int32))
def P_Mod_bows_b94 (o : Nat) (K52 : fw_M → Int32 → Int32 → Int32 → Int32 → Int32 → Option (Int32 × fw_M)) (K94 : fw_M → Int32 → Int32 → Int32 → Int32 → Int32 → Int32 → Option (Int32 × fw_M)) (M : fw_M) (x1 : Int32) (x2 : Int32) (x3 : Int32) (x4 : Int32) (x5 : Int32) (x6 : Int32) : Option (Int32 × fw_M) := (fw_ald M (o + 4) 39 (2 : Int32)).bind fun v1 => (if v1 ≤ x6 then (P_Mod_leftAt o M x1).bind fun q3 => (if q3.1 = (0 : Int32) then P_Mod_bows_b169 o K52 q3.2 x1 x2 x3 x5 x5 else P_Mod_bows_b169 o K52 q3.2 x1 x2 x3 x5 x4) else (if ((x5 >>> (x6 &&& 31)) &&& (1 : Int32)) = (1 : Int32) then (fw_ald M (o + 4) 39 (1 : Int32)).bind fun v7 => P_Mod_bows_b147 o K52 K94 M x1 x2 x3 x4 x5 x6 (((4 : Int32) + ((5 : Int32) * x6)) + (4 : Int32)) v7 else (P_Mod_of (o + 4) M x6 (4 : Int32)).bind fun v6 => P_Mod_bows_b147 o K52 K94 M x1 x2 x3 x4 x5 x6 (((4 : Int32) + ((5 : Int32) * x6)) + (4 : Int32)) v6))
def P_Mod_bows_h94 (o : Nat) (K52 : fw_M → Int32 → Int32 → Int32 → Int32 → Int32 → Option (Int32 × fw_M)) : Nat → fw_M → Int32 → Int32 → Int32 → Int32 → Int32 → Int32 → Option (Int32 × fw_M)
  | 0, _, _, _, _, _, _, _ => none
  | n + 1, M, x1, x2, x3, x4, x5, x6 => P_Mod_bows_b94 o K52 (P_Mod_bows_h94 o K52 n) M x1 x2 x3 x4 x5 x6
def P_Mod_bows_b87 (o : Nat) (K52 : fw_M → Int32 → Int32 → Int32 → Int32 → Int32 → Option (Int32 × fw_M)) (M : fw_M) (x1 : Int32) (x2 : Int32) (x3 : Int32) (x4 : Int32) (x5 : Int32) : Option (Int32 × fw_M) := (P_Mod_layThen o M).bind fun q1 => P_Mod_bows_h94 o K52 fw_fu q1 x1 x2 x3 x4 x5 (0 : Int32)
def P_Mod_bows_b52 (o : Nat) (K52 : fw_M → Int32 → Int32 → Int32 → Int32 → Int32 → Option (Int32 × fw_M)) (M : fw_M) (x1 : Int32) (x2 : Int32) (x3 : Int32) (x4 : Int32) (x5 : Int32) : Option (Int32 × fw_M) := (if x3 < x5 then (if x4 = (-1000000 : Int32) then P_Mod_bows_b189 o M x4 else (if x2 = (1 : Int32) then P_Mod_bows_b189 o M x4 else (P_Mod_bits M x4).bind fun v4 => P_Mod_bows_b199 o M v4)) else (if (x5 &&& (x3 ^^^ (-1 : Int32))) = (0 : Int32) then (if x4 = (-1000000 : Int32) then P_Mod_bows_b87 o K52 M x1 x2 x3 x4 x5 else (P_Mod_bits M x5).bind fun v7 => (P_Mod_bits M x4).bind fun v8 => (if v8 ≤ v7 then P_Mod_bows_b171 o K52 M x1 x2 x3 x4 x5 else P_Mod_bows_b87 o K52 M x1 x2 x3 x4 x5)) else P_Mod_bows_b171 o K52 M x1 x2 x3 x4 x5))
def P_Mod_bows_h52 (o : Nat) : Nat → fw_M → Int32 → Int32 → Int32 → Int32 → Int32 → Option (Int32 × fw_M)
  | 0, _, _, _, _, _, _ => none
  | n + 1, M, x1, x2, x3, x4, x5 => P_Mod_bows_b52 o (P_Mod_bows_h52 o n) M x1 x2 x3 x4 x5
def P_Mod_bows_b0 (o : Nat) (M : fw_M) (x1 : Int32) (x2 : Int32) : Option (Int32 × fw_M) := fw_pl (fw_set M o 0 (0 : Int32)) fun M1 => (P_Mod_isThere o M1).bind fun v2 => (if v2 = (0 : Int32) then some ((-1000002 : Int32), M1) else (P_Mod_isDoor o M1 x1).bind fun v4 => (if v4 = (0 : Int32) then P_Mod_bows_b33 o M1 else (P_Mod_in M1 (Int32.toInt64 x2) (0 : Int64) (1 : Int64)).bind fun v6 => (if v6 = (0 : Int32) then P_Mod_bows_b33 o M1 else (P_Mod_waiting (o + 4) M1 x1).bind fun v8 => P_Mod_bows_h52 o fw_fu M1 x1 x2 v8 (-1000000 : Int32) (0 : Int32))))
def P_Mod_bows (o : Nat) (M : fw_M) (a0 : Int32) (a1 : Int32) : Option (Int32 × fw_M) := P_Mod_bows_b0 o M a0 a1
set_option maxRecDepth 100000 in
theorem c_Mod_bows_b33 {p : Program} {l : Launch} {e : Env} {s : State} {m : MethodId} {args : Array Value} {below : List Frame} {meth : Method} {c : Code} {D : va_G} {cI cZ cH cR : ClassId} {N : Nat} {ad : Nat → Nat} {EE : fw_M → Nat → va_E} {o : Nat} {M : fw_M} {z : (Int32 × fw_M)} (C : fw_C p s m args meth c cX9_bows RX9 wsX9_bows 7 (some .int) D vwCl (fw_tys cI cZ cH cR) N ad fw_nw0) (ho : o_Mod EE ad N cI cZ cH cR o) (h : P_Mod_bows_b33 o M = some z) : fw_J p l e (headSpec wsX9_bows rm_Mod_bows).room s m args below meth c D vwCl N ad EE 7 0 0 (fw_E below args s D vwCl N ad EE (some (.int z.1)) z.2) M [] 33 [] := by
  unfold P_Mod_bows_b33 at h
  refine fw_ldc (pc := 33) C (v := -1000001) kX9_bows_67 dX9_bows_33 ?_
  exact fw_iret (pc := 35) C (fw_p1 h) (fw_p2 h) dX9_bows_35
set_option maxRecDepth 100000 in
theorem c_Mod_bows_b199 {p : Program} {l : Launch} {e : Env} {s : State} {m : MethodId} {args : Array Value} {below : List Frame} {meth : Method} {c : Code} {D : va_G} {cI cZ cH cR : ClassId} {N : Nat} {ad : Nat → Nat} {EE : fw_M → Nat → va_E} {o : Nat} {M : fw_M} {t0 : Int32} {z : (Int32 × fw_M)} (C : fw_C p s m args meth c cX9_bows RX9 wsX9_bows 7 (some .int) D vwCl (fw_tys cI cZ cH cR) N ad fw_nw0) (ho : o_Mod EE ad N cI cZ cH cR o) (h : P_Mod_bows_b199 o M t0 = some z) : fw_J p l e (headSpec wsX9_bows rm_Mod_bows).room s m args below meth c D vwCl N ad EE 7 0 0 (fw_E below args s D vwCl N ad EE (some (.int z.1)) z.2) M [] 199 [.int t0] := by
  unfold P_Mod_bows_b199 at h
  exact fw_iret (pc := 199) C (fw_p1 h) (fw_p2 h) dX9_bows_199
set_option maxRecDepth 100000 in
theorem c_Mod_bows_b189 {p : Program} {l : Launch} {e : Env} {s : State} {m : MethodId} {args : Array Value} {below : List Frame} {meth : Method} {c : Code} {D : va_G} {cI cZ cH cR : ClassId} {N : Nat} {ad : Nat → Nat} {EE : fw_M → Nat → va_E} {o : Nat} {M : fw_M} {x4 : Int32} {z : (Int32 × fw_M)} (C : fw_C p s m args meth c cX9_bows RX9 wsX9_bows 7 (some .int) D vwCl (fw_tys cI cZ cH cR) N ad fw_nw0) (ho : o_Mod EE ad N cI cZ cH cR o) (h : P_Mod_bows_b189 o M x4 = some z) : fw_J p l e (headSpec wsX9_bows rm_Mod_bows).room s m args below meth c D vwCl N ad EE 7 0 0 (fw_E below args s D vwCl N ad EE (some (.int z.1)) z.2) M [(4, .int x4)] 189 [] := by
  unfold P_Mod_bows_b189 at h
  refine fw_iload (pc := 189) C 0 dX9_bows_189 rfl ?_
  refine fw_goto (pc := 191) C (tgt := 199) dX9_bows_191 (by decide) ?_
  exact fw_sub [] rfl (c_Mod_bows_b199 C ho h)
set_option maxRecDepth 100000 in
theorem c_Mod_bows_b171 {p : Program} {l : Launch} {e : Env} {s : State} {m : MethodId} {args : Array Value} {below : List Frame} {meth : Method} {c : Code} {D : va_G} {cI cZ cH cR : ClassId} {N : Nat} {ad : Nat → Nat} {EE : fw_M → Nat → va_E} {o : Nat} {K52 : fw_M → Int32 → Int32 → Int32 → Int32 → Int32 → Option (Int32 × fw_M)} {M : fw_M} {x1 : Int32} {x2 : Int32} {x3 : Int32} {x4 : Int32} {x5 : Int32} {z : (Int32 × fw_M)} (C : fw_C p s m args meth c cX9_bows RX9 wsX9_bows 7 (some .int) D vwCl (fw_tys cI cZ cH cR) N ad fw_nw0) (ho : o_Mod EE ad N cI cZ cH cR o) (hK52 : ∀ (Mk : fw_M) (kx1 : Int32) (kx2 : Int32) (kx3 : Int32) (kx4 : Int32) (kx5 : Int32), K52 Mk kx1 kx2 kx3 kx4 kx5 = some z → fw_J p l e (headSpec wsX9_bows rm_Mod_bows).room s m args below meth c D vwCl N ad EE 7 0 0 (fw_E below args s D vwCl N ad EE (some (.int z.1)) z.2) Mk [(0, .ref (ad o)), (1, .int kx1), (2, .int kx2), (3, .int kx3), (4, .int kx4), (5, .int kx5)] 52 []) (h : P_Mod_bows_b171 o K52 M x1 x2 x3 x4 x5 = some z) : fw_J p l e (headSpec wsX9_bows rm_Mod_bows).room s m args below meth c D vwCl N ad EE 7 0 0 (fw_E below args s D vwCl N ad EE (some (.int z.1)) z.2) M [(0, .ref (ad o)), (1, .int x1), (2, .int x2), (3, .int x3), (4, .int x4), (5, .int x5)] 171 [] := by
  unfold P_Mod_bows_b171 at h
  refine fw_iinc (pc := 171) C (v := 1) (L2 := [(0, .ref _), (1, .int _), (2, .int _), (3, .int _), (4, .int _), (5, .int _)]) 5 [1, 2, 3, 4, 5, 0] dX9_bows_171 rfl fk_iconst_1 (by decide) rfl ?_
  refine fw_goto (pc := 174) C (tgt := 52) dX9_bows_174 (by decide) ?_
  exact (hK52 _ _ _ _ _ _ h)
set_option maxRecDepth 100000 in
theorem c_Mod_bows_b169 {p : Program} {l : Launch} {e : Env} {s : State} {m : MethodId} {args : Array Value} {below : List Frame} {meth : Method} {c : Code} {D : va_G} {cI cZ cH cR : ClassId} {N : Nat} {ad : Nat → Nat} {EE : fw_M → Nat → va_E} {o : Nat} {K52 : fw_M → Int32 → Int32 → Int32 → Int32 → Int32 → Option (Int32 × fw_M)} {M : fw_M} {x1 : Int32} {x2 : Int32} {x3 : Int32} {x5 : Int32} {t0 : Int32} {z : (Int32 × fw_M)} (C : fw_C p s m args meth c cX9_bows RX9 wsX9_bows 7 (some .int) D vwCl (fw_tys cI cZ cH cR) N ad fw_nw0) (ho : o_Mod EE ad N cI cZ cH cR o) (hK52 : ∀ (Mk : fw_M) (kx1 : Int32) (kx2 : Int32) (kx3 : Int32) (kx4 : Int32) (kx5 : Int32), K52 Mk kx1 kx2 kx3 kx4 kx5 = some z → fw_J p l e (headSpec wsX9_bows rm_Mod_bows).room s m args below meth c D vwCl N ad EE 7 0 0 (fw_E below args s D vwCl N ad EE (some (.int z.1)) z.2) Mk [(0, .ref (ad o)), (1, .int kx1), (2, .int kx2), (3, .int kx3), (4, .int kx4), (5, .int kx5)] 52 []) (h : P_Mod_bows_b169 o K52 M x1 x2 x3 x5 t0 = some z) : fw_J p l e (headSpec wsX9_bows rm_Mod_bows).room s m args below meth c D vwCl N ad EE 7 0 0 (fw_E below args s D vwCl N ad EE (some (.int z.1)) z.2) M [(0, .ref (ad o)), (1, .int x1), (2, .int x2), (3, .int x3), (5, .int x5)] 169 [.int t0] := by
  unfold P_Mod_bows_b169 at h
  refine fw_istore (pc := 169) C (L2 := [(0, .ref _), (1, .int _), (2, .int _), (3, .int _), (4, .int _), (5, .int _)]) [1, 2, 3, 4, 0, 5] dX9_bows_169 (by decide) rfl ?_
  exact (c_Mod_bows_b171 C ho hK52 h)
set_option maxRecDepth 100000 in
theorem c_Mod_bows_b147 {p : Program} {l : Launch} {e : Env} {s : State} {m : MethodId} {args : Array Value} {below : List Frame} {meth : Method} {c : Code} {D : va_G} {cI cZ cH cR : ClassId} {N : Nat} {ad : Nat → Nat} {EE : fw_M → Nat → va_E} {o : Nat} {K52 : fw_M → Int32 → Int32 → Int32 → Int32 → Int32 → Option (Int32 × fw_M)} {K94 : fw_M → Int32 → Int32 → Int32 → Int32 → Int32 → Int32 → Option (Int32 × fw_M)} {M : fw_M} {x1 : Int32} {x2 : Int32} {x3 : Int32} {x4 : Int32} {x5 : Int32} {x6 : Int32} {t1 : Int32} {t2 : Int32} {z : (Int32 × fw_M)} (C : fw_C p s m args meth c cX9_bows RX9 wsX9_bows 7 (some .int) D vwCl (fw_tys cI cZ cH cR) N ad fw_nw0) (ho : o_Mod EE ad N cI cZ cH cR o) (hK52 : ∀ (Mk : fw_M) (kx1 : Int32) (kx2 : Int32) (kx3 : Int32) (kx4 : Int32) (kx5 : Int32), K52 Mk kx1 kx2 kx3 kx4 kx5 = some z → fw_J p l e (headSpec wsX9_bows rm_Mod_bows).room s m args below meth c D vwCl N ad EE 7 0 0 (fw_E below args s D vwCl N ad EE (some (.int z.1)) z.2) Mk [(0, .ref (ad o)), (1, .int kx1), (2, .int kx2), (3, .int kx3), (4, .int kx4), (5, .int kx5)] 52 []) (hK94 : ∀ (Mk : fw_M) (kx1 : Int32) (kx2 : Int32) (kx3 : Int32) (kx4 : Int32) (kx5 : Int32) (kx6 : Int32), K94 Mk kx1 kx2 kx3 kx4 kx5 kx6 = some z → fw_J p l e (headSpec wsX9_bows rm_Mod_bows).room s m args below meth c D vwCl N ad EE 7 0 0 (fw_E below args s D vwCl N ad EE (some (.int z.1)) z.2) Mk [(0, .ref (ad o)), (1, .int kx1), (2, .int kx2), (3, .int kx3), (4, .int kx4), (5, .int kx5), (6, .int kx6)] 94 []) (h : P_Mod_bows_b147 o K52 K94 M x1 x2 x3 x4 x5 x6 t1 t2 = some z) : fw_J p l e (headSpec wsX9_bows rm_Mod_bows).room s m args below meth c D vwCl N ad EE 7 0 0 (fw_E below args s D vwCl N ad EE (some (.int z.1)) z.2) M [(0, .ref (ad o)), (1, .int x1), (2, .int x2), (3, .int x3), (4, .int x4), (5, .int x5), (6, .int x6)] 147 [.int t2, .int t1, .ref (ad (o + 6))] := by
  unfold P_Mod_bows_b147 at h
  obtain ⟨M1, hM1, h⟩ := fw_bind h
  refine fw_iast (pc := 147) C 0 ho.2.2.2.2.2.2.2.2.1.2 rfl hM1 dX9_bows_147 ?_
  refine fw_iinc (pc := 148) C (v := 1) (L2 := [(0, .ref _), (1, .int _), (2, .int _), (3, .int _), (4, .int _), (5, .int _), (6, .int _)]) 6 [1, 2, 3, 4, 5, 6, 0] dX9_bows_148 rfl fk_iconst_1 (by decide) rfl ?_
  refine fw_goto (pc := 151) C (tgt := 94) dX9_bows_151 (by decide) ?_
  exact (hK94 _ _ _ _ _ _ _ h)
set_option maxRecDepth 100000 in
theorem c_Mod_bows_b94 {p : Program} {l : Launch} {e : Env} {s : State} {m : MethodId} {args : Array Value} {below : List Frame} {meth : Method} {c : Code} {D : va_G} {cI cZ cH cR : ClassId} {N : Nat} {ad : Nat → Nat} {EE : fw_M → Nat → va_E} {o : Nat} {K52 : fw_M → Int32 → Int32 → Int32 → Int32 → Int32 → Option (Int32 × fw_M)} {K94 : fw_M → Int32 → Int32 → Int32 → Int32 → Int32 → Int32 → Option (Int32 × fw_M)} {M : fw_M} {x1 : Int32} {x2 : Int32} {x3 : Int32} {x4 : Int32} {x5 : Int32} {x6 : Int32} {z : (Int32 × fw_M)} (C : fw_C p s m args meth c cX9_bows RX9 wsX9_bows 7 (some .int) D vwCl (fw_tys cI cZ cH cR) N ad fw_nw0) (ho : o_Mod EE ad N cI cZ cH cR o) (hK52 : ∀ (Mk : fw_M) (kx1 : Int32) (kx2 : Int32) (kx3 : Int32) (kx4 : Int32) (kx5 : Int32), K52 Mk kx1 kx2 kx3 kx4 kx5 = some z → fw_J p l e (headSpec wsX9_bows rm_Mod_bows).room s m args below meth c D vwCl N ad EE 7 0 0 (fw_E below args s D vwCl N ad EE (some (.int z.1)) z.2) Mk [(0, .ref (ad o)), (1, .int kx1), (2, .int kx2), (3, .int kx3), (4, .int kx4), (5, .int kx5)] 52 []) (hK94 : ∀ (Mk : fw_M) (kx1 : Int32) (kx2 : Int32) (kx3 : Int32) (kx4 : Int32) (kx5 : Int32) (kx6 : Int32), K94 Mk kx1 kx2 kx3 kx4 kx5 kx6 = some z → fw_J p l e (headSpec wsX9_bows rm_Mod_bows).room s m args below meth c D vwCl N ad EE 7 0 0 (fw_E below args s D vwCl N ad EE (some (.int z.1)) z.2) Mk [(0, .ref (ad o)), (1, .int kx1), (2, .int kx2), (3, .int kx3), (4, .int kx4), (5, .int kx5), (6, .int kx6)] 94 []) (h : P_Mod_bows_b94 o K52 K94 M x1 x2 x3 x4 x5 x6 = some z) : fw_J p l e (headSpec wsX9_bows rm_Mod_bows).room s m args below meth c D vwCl N ad EE 7 0 0 (fw_E below args s D vwCl N ad EE (some (.int z.1)) z.2) M [(0, .ref (ad o)), (1, .int x1), (2, .int x2), (3, .int x3), (4, .int x4), (5, .int x5), (6, .int x6)] 94 [] := by
  unfold P_Mod_bows_b94 at h
  refine fw_iload (pc := 94) C 6 dX9_bows_94 rfl ?_
  refine fw_aload_n (pc := 96) C 0 dX9_bows_96 rfl rfl ?_
  refine fw_getr (pc := 97) C ho.2.2.2.2.2.2.1.1 rfl qX9_bows_19 dX9_bows_97 ?_
  refine fw_iconst (pc := 100) C (v := 2) dX9_bows_100 fk_iconst_2 ?_
  obtain ⟨v1, hv1, h⟩ := fw_bind h
  refine fw_iald (pc := 101) C 0 ho.2.2.2.2.2.2.1.2 rfl hv1 dX9_bows_101 ?_
  refine fw_icmp_ge (pc := 102) C (tgt := 154) dX9_bows_102 (by decide) (fun c2 => ?_) (fun c2 => ?_)
  · have h := fw_ift h c2
    refine fw_aload_n (pc := 154) C 0 dX9_bows_154 rfl rfl ?_
    refine fw_iload_n (pc := 155) C 1 dX9_bows_155 rfl rfl ?_
    obtain ⟨q3, hq3, h⟩ := fw_bind h
    refine fw_callV1 (pc := 156) C (rest := []) (c_Mod_leftAt ho hq3) (cwV 1 C.2.2.2.2.1 gX9_bows_X9_leftAt rfl rfl rfl hd_Mod_leftAt ⟨Nat.le_of_ble_eq_true rfl, Nat.le_of_ble_eq_true rfl⟩) ho.1 rfl rfl ⟨Nat.zero_le _, Nat.zero_le _⟩ rfl (Nat.le_of_ble_eq_true rfl) dX9_bows_156 ?_
    refine fw_if_ne (pc := 159) C (tgt := 167) dX9_bows_159 (by decide) (fun c4 => ?_) (fun c4 => ?_)
    · have h := fw_iff h c4
      refine fw_iload (pc := 167) C 4 dX9_bows_167 rfl ?_
      exact fw_sub [0, 1, 2, 3, 5] rfl (c_Mod_bows_b169 C ho hK52 h)
    · have h := fw_ift h c4
      refine fw_iload (pc := 162) C 5 dX9_bows_162 rfl ?_
      refine fw_goto (pc := 164) C (tgt := 169) dX9_bows_164 (by decide) ?_
      exact fw_sub [0, 1, 2, 3, 5] rfl (c_Mod_bows_b169 C ho hK52 h)
  · have h := fw_iff h c2
    refine fw_aload_n (pc := 105) C 0 dX9_bows_105 rfl rfl ?_
    refine fw_getr (pc := 106) C ho.2.2.2.2.2.2.2.2.1.1 rfl qX9_bows_25 dX9_bows_106 ?_
    refine fw_iconst (pc := 109) C (v := 4) dX9_bows_109 fk_iconst_4 ?_
    refine fw_iconst (pc := 110) C (v := 5) dX9_bows_110 fk_iconst_5 ?_
    refine fw_iload (pc := 111) C 6 dX9_bows_111 rfl ?_
    refine fw_imul (pc := 113) C dX9_bows_113 ?_
    refine fw_iadd (pc := 114) C dX9_bows_114 ?_
    refine fw_iconst (pc := 115) C (v := 4) dX9_bows_115 fk_iconst_4 ?_
    refine fw_iadd (pc := 116) C dX9_bows_116 ?_
    refine fw_iload (pc := 117) C 5 dX9_bows_117 rfl ?_
    refine fw_iload (pc := 119) C 6 dX9_bows_119 rfl ?_
    refine fw_ishr (pc := 121) C dX9_bows_121 ?_
    refine fw_iconst (pc := 122) C (v := 1) dX9_bows_122 fk_iconst_1 ?_
    refine fw_iand (pc := 123) C dX9_bows_123 ?_
    refine fw_iconst (pc := 124) C (v := 1) dX9_bows_124 fk_iconst_1 ?_
    refine fw_icmp_ne (pc := 125) C (tgt := 137) dX9_bows_125 (by decide) (fun c5 => ?_) (fun c5 => ?_)
    · have h := fw_iff h c5
      refine fw_aload_n (pc := 137) C 0 dX9_bows_137 rfl rfl ?_
      refine fw_getr (pc := 138) C ho.2.2.2.2.2.2.1.1 rfl qX9_bows_19 dX9_bows_138 ?_
      refine fw_iload (pc := 141) C 6 dX9_bows_141 rfl ?_
      refine fw_iconst (pc := 143) C (v := 4) dX9_bows_143 fk_iconst_4 ?_
      obtain ⟨v6, hv6, h⟩ := fw_bind h
      refine fw_callS1 (pc := 144) C (rest := [_, _]) (c_Mod_of ho.2.2.2.2.2.2.1.2 hv6) (va_cwS 3 C.2.2.2.2.1 gX9_bows_X9_of rfl rfl rfl hd_Mod_of.2 ⟨Nat.le_of_ble_eq_true rfl, Nat.le_of_ble_eq_true rfl⟩) rfl ⟨Nat.zero_le _, Nat.zero_le _⟩ rfl (Nat.le_of_ble_eq_true rfl) dX9_bows_144 ?_
      exact (c_Mod_bows_b147 C ho hK52 hK94 h)
    · have h := fw_ift h c5
      refine fw_aload_n (pc := 128) C 0 dX9_bows_128 rfl rfl ?_
      refine fw_getr (pc := 129) C ho.2.2.2.2.2.2.1.1 rfl qX9_bows_19 dX9_bows_129 ?_
      refine fw_iconst (pc := 132) C (v := 1) dX9_bows_132 fk_iconst_1 ?_
      obtain ⟨v7, hv7, h⟩ := fw_bind h
      refine fw_iald (pc := 133) C 0 ho.2.2.2.2.2.2.1.2 rfl hv7 dX9_bows_133 ?_
      refine fw_goto (pc := 134) C (tgt := 147) dX9_bows_134 (by decide) ?_
      exact (c_Mod_bows_b147 C ho hK52 hK94 h)
theorem c_Mod_bows_h94 {p : Program} {l : Launch} {e : Env} {s : State} {m : MethodId} {args : Array Value} {below : List Frame} {meth : Method} {c : Code} {D : va_G} {cI cZ cH cR : ClassId} {N : Nat} {ad : Nat → Nat} {EE : fw_M → Nat → va_E} {o : Nat} {K52 : fw_M → Int32 → Int32 → Int32 → Int32 → Int32 → Option (Int32 × fw_M)} {z : (Int32 × fw_M)} (C : fw_C p s m args meth c cX9_bows RX9 wsX9_bows 7 (some .int) D vwCl (fw_tys cI cZ cH cR) N ad fw_nw0) (ho : o_Mod EE ad N cI cZ cH cR o) (hK52 : ∀ (Mk : fw_M) (kx1 : Int32) (kx2 : Int32) (kx3 : Int32) (kx4 : Int32) (kx5 : Int32), K52 Mk kx1 kx2 kx3 kx4 kx5 = some z → fw_J p l e (headSpec wsX9_bows rm_Mod_bows).room s m args below meth c D vwCl N ad EE 7 0 0 (fw_E below args s D vwCl N ad EE (some (.int z.1)) z.2) Mk [(0, .ref (ad o)), (1, .int kx1), (2, .int kx2), (3, .int kx3), (4, .int kx4), (5, .int kx5)] 52 []) : ∀ (n : Nat) (M : fw_M) (x1 : Int32) (x2 : Int32) (x3 : Int32) (x4 : Int32) (x5 : Int32) (x6 : Int32), P_Mod_bows_h94 o K52 n M x1 x2 x3 x4 x5 x6 = some z → fw_J p l e (headSpec wsX9_bows rm_Mod_bows).room s m args below meth c D vwCl N ad EE 7 0 0 (fw_E below args s D vwCl N ad EE (some (.int z.1)) z.2) M [(0, .ref (ad o)), (1, .int x1), (2, .int x2), (3, .int x3), (4, .int x4), (5, .int x5), (6, .int x6)] 94 [] := by
  intro n
  induction n with
  | zero => intro M x1 x2 x3 x4 x5 x6  h; cases h
  | succ n ih => intro M x1 x2 x3 x4 x5 x6  h; exact c_Mod_bows_b94 C ho hK52 ih  h
set_option maxRecDepth 100000 in
theorem c_Mod_bows_b87 {p : Program} {l : Launch} {e : Env} {s : State} {m : MethodId} {args : Array Value} {below : List Frame} {meth : Method} {c : Code} {D : va_G} {cI cZ cH cR : ClassId} {N : Nat} {ad : Nat → Nat} {EE : fw_M → Nat → va_E} {o : Nat} {K52 : fw_M → Int32 → Int32 → Int32 → Int32 → Int32 → Option (Int32 × fw_M)} {M : fw_M} {x1 : Int32} {x2 : Int32} {x3 : Int32} {x4 : Int32} {x5 : Int32} {z : (Int32 × fw_M)} (C : fw_C p s m args meth c cX9_bows RX9 wsX9_bows 7 (some .int) D vwCl (fw_tys cI cZ cH cR) N ad fw_nw0) (ho : o_Mod EE ad N cI cZ cH cR o) (hK52 : ∀ (Mk : fw_M) (kx1 : Int32) (kx2 : Int32) (kx3 : Int32) (kx4 : Int32) (kx5 : Int32), K52 Mk kx1 kx2 kx3 kx4 kx5 = some z → fw_J p l e (headSpec wsX9_bows rm_Mod_bows).room s m args below meth c D vwCl N ad EE 7 0 0 (fw_E below args s D vwCl N ad EE (some (.int z.1)) z.2) Mk [(0, .ref (ad o)), (1, .int kx1), (2, .int kx2), (3, .int kx3), (4, .int kx4), (5, .int kx5)] 52 []) (h : P_Mod_bows_b87 o K52 M x1 x2 x3 x4 x5 = some z) : fw_J p l e (headSpec wsX9_bows rm_Mod_bows).room s m args below meth c D vwCl N ad EE 7 0 0 (fw_E below args s D vwCl N ad EE (some (.int z.1)) z.2) M [(0, .ref (ad o)), (1, .int x1), (2, .int x2), (3, .int x3), (4, .int x4), (5, .int x5)] 87 [] := by
  unfold P_Mod_bows_b87 at h
  refine fw_aload_n (pc := 87) C 0 dX9_bows_87 rfl rfl ?_
  obtain ⟨q1, hq1, h⟩ := fw_bind h
  refine fw_callV0 (pc := 88) C (rest := []) (c_Mod_layThen ho hq1) (cwV 0 C.2.2.2.2.1 gX9_bows_X9_layThen rfl rfl rfl hd_Mod_layThen ⟨Nat.le_of_ble_eq_true rfl, Nat.le_of_ble_eq_true rfl⟩) ho.1 rfl rfl ⟨Nat.zero_le _, Nat.zero_le _⟩ rfl (Nat.le_of_ble_eq_true rfl) dX9_bows_88 ?_
  refine fw_iconst (pc := 91) C (v := 0) dX9_bows_91 fk_iconst_0 ?_
  refine fw_istore (pc := 92) C (L2 := [(0, .ref _), (1, .int _), (2, .int _), (3, .int _), (4, .int _), (5, .int _), (6, .int _)]) [1, 2, 3, 4, 5, 6, 0] dX9_bows_92 (by decide) rfl ?_
  exact (c_Mod_bows_h94 C ho hK52 _ _ _ _ _ _ _ _ h)
set_option maxRecDepth 100000 in
theorem c_Mod_bows_b52 {p : Program} {l : Launch} {e : Env} {s : State} {m : MethodId} {args : Array Value} {below : List Frame} {meth : Method} {c : Code} {D : va_G} {cI cZ cH cR : ClassId} {N : Nat} {ad : Nat → Nat} {EE : fw_M → Nat → va_E} {o : Nat} {K52 : fw_M → Int32 → Int32 → Int32 → Int32 → Int32 → Option (Int32 × fw_M)} {M : fw_M} {x1 : Int32} {x2 : Int32} {x3 : Int32} {x4 : Int32} {x5 : Int32} {z : (Int32 × fw_M)} (C : fw_C p s m args meth c cX9_bows RX9 wsX9_bows 7 (some .int) D vwCl (fw_tys cI cZ cH cR) N ad fw_nw0) (ho : o_Mod EE ad N cI cZ cH cR o) (hK52 : ∀ (Mk : fw_M) (kx1 : Int32) (kx2 : Int32) (kx3 : Int32) (kx4 : Int32) (kx5 : Int32), K52 Mk kx1 kx2 kx3 kx4 kx5 = some z → fw_J p l e (headSpec wsX9_bows rm_Mod_bows).room s m args below meth c D vwCl N ad EE 7 0 0 (fw_E below args s D vwCl N ad EE (some (.int z.1)) z.2) Mk [(0, .ref (ad o)), (1, .int kx1), (2, .int kx2), (3, .int kx3), (4, .int kx4), (5, .int kx5)] 52 []) (h : P_Mod_bows_b52 o K52 M x1 x2 x3 x4 x5 = some z) : fw_J p l e (headSpec wsX9_bows rm_Mod_bows).room s m args below meth c D vwCl N ad EE 7 0 0 (fw_E below args s D vwCl N ad EE (some (.int z.1)) z.2) M [(0, .ref (ad o)), (1, .int x1), (2, .int x2), (3, .int x3), (4, .int x4), (5, .int x5)] 52 [] := by
  unfold P_Mod_bows_b52 at h
  refine fw_iload (pc := 52) C 5 dX9_bows_52 rfl ?_
  refine fw_iload_n (pc := 54) C 3 dX9_bows_54 rfl rfl ?_
  refine fw_icmp_gt (pc := 55) C (tgt := 177) dX9_bows_55 (by decide) (fun c1 => ?_) (fun c1 => ?_)
  · have h := fw_ift h c1
    refine fw_iload (pc := 177) C 4 dX9_bows_177 rfl ?_
    refine fw_ldc (pc := 179) C (v := -1000000) kX9_bows_90 dX9_bows_179 ?_
    refine fw_icmp_eq (pc := 181) C (tgt := 189) dX9_bows_181 (by decide) (fun c2 => ?_) (fun c2 => ?_)
    · have h := fw_ift h c2
      exact fw_sub [4] rfl (c_Mod_bows_b189 C ho h)
    · have h := fw_iff h c2
      refine fw_iload_n (pc := 184) C 2 dX9_bows_184 rfl rfl ?_
      refine fw_iconst (pc := 185) C (v := 1) dX9_bows_185 fk_iconst_1 ?_
      refine fw_icmp_ne (pc := 186) C (tgt := 194) dX9_bows_186 (by decide) (fun c3 => ?_) (fun c3 => ?_)
      · have h := fw_iff h c3
        refine fw_iload (pc := 194) C 4 dX9_bows_194 rfl ?_
        obtain ⟨v4, hv4, h⟩ := fw_bind h
        refine fw_callS1 (pc := 196) C (rest := []) (c_Mod_bits  hv4) (va_cwS 1 C.2.2.2.2.1 gX9_bows_X9_bits rfl rfl rfl hd_Mod_bits.2 ⟨Nat.le_of_ble_eq_true rfl, Nat.le_of_ble_eq_true rfl⟩) rfl ⟨Nat.zero_le _, Nat.zero_le _⟩ rfl (Nat.le_of_ble_eq_true rfl) dX9_bows_196 ?_
        exact fw_sub [] rfl (c_Mod_bows_b199 C ho h)
      · have h := fw_ift h c3
        exact fw_sub [4] rfl (c_Mod_bows_b189 C ho h)
  · have h := fw_iff h c1
    refine fw_iload (pc := 58) C 5 dX9_bows_58 rfl ?_
    refine fw_iload_n (pc := 60) C 3 dX9_bows_60 rfl rfl ?_
    refine fw_iconst (pc := 61) C (v := -1) dX9_bows_61 fk_iconst_m1 ?_
    refine fw_ixor (pc := 62) C dX9_bows_62 ?_
    refine fw_iand (pc := 63) C dX9_bows_63 ?_
    refine fw_if_ne (pc := 64) C (tgt := 171) dX9_bows_64 (by decide) (fun c5 => ?_) (fun c5 => ?_)
    · have h := fw_iff h c5
      exact (c_Mod_bows_b171 C ho hK52 h)
    · have h := fw_ift h c5
      refine fw_iload (pc := 67) C 4 dX9_bows_67 rfl ?_
      refine fw_ldc (pc := 69) C (v := -1000000) kX9_bows_90 dX9_bows_69 ?_
      refine fw_icmp_eq (pc := 71) C (tgt := 87) dX9_bows_71 (by decide) (fun c6 => ?_) (fun c6 => ?_)
      · have h := fw_ift h c6
        exact (c_Mod_bows_b87 C ho hK52 h)
      · have h := fw_iff h c6
        refine fw_iload (pc := 74) C 5 dX9_bows_74 rfl ?_
        obtain ⟨v7, hv7, h⟩ := fw_bind h
        refine fw_callS1 (pc := 76) C (rest := []) (c_Mod_bits  hv7) (va_cwS 1 C.2.2.2.2.1 gX9_bows_X9_bits rfl rfl rfl hd_Mod_bits.2 ⟨Nat.le_of_ble_eq_true rfl, Nat.le_of_ble_eq_true rfl⟩) rfl ⟨Nat.zero_le _, Nat.zero_le _⟩ rfl (Nat.le_of_ble_eq_true rfl) dX9_bows_76 ?_
        refine fw_iload (pc := 79) C 4 dX9_bows_79 rfl ?_
        obtain ⟨v8, hv8, h⟩ := fw_bind h
        refine fw_callS1 (pc := 81) C (rest := [_]) (c_Mod_bits  hv8) (va_cwS 1 C.2.2.2.2.1 gX9_bows_X9_bits rfl rfl rfl hd_Mod_bits.2 ⟨Nat.le_of_ble_eq_true rfl, Nat.le_of_ble_eq_true rfl⟩) rfl ⟨Nat.zero_le _, Nat.zero_le _⟩ rfl (Nat.le_of_ble_eq_true rfl) dX9_bows_81 ?_
        refine fw_icmp_ge (pc := 84) C (tgt := 171) dX9_bows_84 (by decide) (fun c9 => ?_) (fun c9 => ?_)
        · have h := fw_ift h c9
          exact (c_Mod_bows_b171 C ho hK52 h)
        · have h := fw_iff h c9
          exact (c_Mod_bows_b87 C ho hK52 h)
theorem c_Mod_bows_h52 {p : Program} {l : Launch} {e : Env} {s : State} {m : MethodId} {args : Array Value} {below : List Frame} {meth : Method} {c : Code} {D : va_G} {cI cZ cH cR : ClassId} {N : Nat} {ad : Nat → Nat} {EE : fw_M → Nat → va_E} {o : Nat} {z : (Int32 × fw_M)} (C : fw_C p s m args meth c cX9_bows RX9 wsX9_bows 7 (some .int) D vwCl (fw_tys cI cZ cH cR) N ad fw_nw0) (ho : o_Mod EE ad N cI cZ cH cR o) : ∀ (n : Nat) (M : fw_M) (x1 : Int32) (x2 : Int32) (x3 : Int32) (x4 : Int32) (x5 : Int32), P_Mod_bows_h52 o n M x1 x2 x3 x4 x5 = some z → fw_J p l e (headSpec wsX9_bows rm_Mod_bows).room s m args below meth c D vwCl N ad EE 7 0 0 (fw_E below args s D vwCl N ad EE (some (.int z.1)) z.2) M [(0, .ref (ad o)), (1, .int x1), (2, .int x2), (3, .int x3), (4, .int x4), (5, .int x5)] 52 [] := by
  intro n
  induction n with
  | zero => intro M x1 x2 x3 x4 x5  h; cases h
  | succ n ih => intro M x1 x2 x3 x4 x5  h; exact c_Mod_bows_b52 C ho ih  h
set_option maxRecDepth 100000 in
theorem c_Mod_bows_b0 {p : Program} {l : Launch} {e : Env} {s : State} {m : MethodId} {args : Array Value} {below : List Frame} {meth : Method} {c : Code} {D : va_G} {cI cZ cH cR : ClassId} {N : Nat} {ad : Nat → Nat} {EE : fw_M → Nat → va_E} {o : Nat} {M : fw_M} {x1 : Int32} {x2 : Int32} {z : (Int32 × fw_M)} (C : fw_C p s m args meth c cX9_bows RX9 wsX9_bows 7 (some .int) D vwCl (fw_tys cI cZ cH cR) N ad fw_nw0) (ho : o_Mod EE ad N cI cZ cH cR o) (h : P_Mod_bows_b0 o M x1 x2 = some z) : fw_J p l e (headSpec wsX9_bows rm_Mod_bows).room s m args below meth c D vwCl N ad EE 7 0 0 (fw_E below args s D vwCl N ad EE (some (.int z.1)) z.2) M [(0, .ref (ad o)), (1, .int x1), (2, .int x2)] 0 [] := by
  unfold P_Mod_bows_b0 at h
  refine fw_aload_n (pc := 0) C 0 dX9_bows_0 rfl rfl ?_
  refine fw_iconst (pc := 1) C (v := 0) dX9_bows_1 fk_iconst_0 ?_
  have h := fw_plh h
  refine fw_puti (pc := 2) C ho.2.1 rfl qX9_bows_47 tyX9 tyX9_ok nmX9 rfl rfl dX9_bows_2 ?_
  refine fw_aload_n (pc := 5) C 0 dX9_bows_5 rfl rfl ?_
  obtain ⟨v2, hv2, h⟩ := fw_bind h
  refine fw_callV1 (pc := 6) C (rest := []) (c_Mod_isThere ho hv2) (cwV 0 C.2.2.2.2.1 gX9_bows_X9_isThere rfl rfl rfl hd_Mod_isThere ⟨Nat.le_of_ble_eq_true rfl, Nat.le_of_ble_eq_true rfl⟩) ho.1 rfl rfl ⟨Nat.zero_le _, Nat.zero_le _⟩ rfl (Nat.le_of_ble_eq_true rfl) dX9_bows_6 ?_
  refine fw_if_ne (pc := 9) C (tgt := 15) dX9_bows_9 (by decide) (fun c3 => ?_) (fun c3 => ?_)
  · have h := fw_iff h c3
    refine fw_aload_n (pc := 15) C 0 dX9_bows_15 rfl rfl ?_
    refine fw_iload_n (pc := 16) C 1 dX9_bows_16 rfl rfl ?_
    obtain ⟨v4, hv4, h⟩ := fw_bind h
    refine fw_callV1 (pc := 17) C (rest := []) (c_Mod_isDoor ho hv4) (cwV 1 C.2.2.2.2.1 gX9_bows_X9_isDoor rfl rfl rfl hd_Mod_isDoor ⟨Nat.le_of_ble_eq_true rfl, Nat.le_of_ble_eq_true rfl⟩) ho.1 rfl rfl ⟨Nat.zero_le _, Nat.zero_le _⟩ rfl (Nat.le_of_ble_eq_true rfl) dX9_bows_17 ?_
    refine fw_if_eq (pc := 20) C (tgt := 33) dX9_bows_20 (by decide) (fun c5 => ?_) (fun c5 => ?_)
    · have h := fw_ift h c5
      exact fw_sub [] rfl (c_Mod_bows_b33 C ho h)
    · have h := fw_iff h c5
      refine fw_iload_n (pc := 23) C 2 dX9_bows_23 rfl rfl ?_
      refine fw_i2l (pc := 24) C dX9_bows_24 ?_
      refine fw_lconst (pc := 25) C (v := 0) dX9_bows_25 fk_lconst_0 ?_
      refine fw_lconst (pc := 26) C (v := 1) dX9_bows_26 fk_lconst_1 ?_
      obtain ⟨v6, hv6, h⟩ := fw_bind h
      refine fw_callS1 (pc := 27) C (rest := []) (c_Mod_in  hv6) (va_cwS 3 C.2.2.2.2.1 gX9_bows_X9_in rfl rfl rfl hd_Mod_in.2 ⟨Nat.le_of_ble_eq_true rfl, Nat.le_of_ble_eq_true rfl⟩) rfl ⟨Nat.zero_le _, Nat.zero_le _⟩ rfl (Nat.le_of_ble_eq_true rfl) dX9_bows_27 ?_
      refine fw_if_ne (pc := 30) C (tgt := 36) dX9_bows_30 (by decide) (fun c7 => ?_) (fun c7 => ?_)
      · have h := fw_iff h c7
        refine fw_aload_n (pc := 36) C 0 dX9_bows_36 rfl rfl ?_
        refine fw_getr (pc := 37) C ho.2.2.2.2.2.2.1.1 rfl qX9_bows_19 dX9_bows_37 ?_
        refine fw_iload_n (pc := 40) C 1 dX9_bows_40 rfl rfl ?_
        obtain ⟨v8, hv8, h⟩ := fw_bind h
        refine fw_callS1 (pc := 41) C (rest := []) (c_Mod_waiting ho.2.2.2.2.2.2.1.2 hv8) (va_cwS 2 C.2.2.2.2.1 gX9_bows_X9_waiting rfl rfl rfl hd_Mod_waiting.2 ⟨Nat.le_of_ble_eq_true rfl, Nat.le_of_ble_eq_true rfl⟩) rfl ⟨Nat.zero_le _, Nat.zero_le _⟩ rfl (Nat.le_of_ble_eq_true rfl) dX9_bows_41 ?_
        refine fw_istore_n (pc := 44) C (L2 := [(0, .ref _), (1, .int _), (2, .int _), (3, .int _)]) [1, 2, 3, 0] dX9_bows_44 rfl (by decide) rfl ?_
        refine fw_ldc (pc := 45) C (v := -1000000) kX9_bows_90 dX9_bows_45 ?_
        refine fw_istore (pc := 47) C (L2 := [(0, .ref _), (1, .int _), (2, .int _), (3, .int _), (4, .int _)]) [1, 2, 3, 4, 0] dX9_bows_47 (by decide) rfl ?_
        refine fw_iconst (pc := 49) C (v := 0) dX9_bows_49 fk_iconst_0 ?_
        refine fw_istore (pc := 50) C (L2 := [(0, .ref _), (1, .int _), (2, .int _), (3, .int _), (4, .int _), (5, .int _)]) [1, 2, 3, 4, 5, 0] dX9_bows_50 (by decide) rfl ?_
        exact (c_Mod_bows_h52 C ho _ _ _ _ _ _ _ h)
      · have h := fw_ift h c7
        exact fw_sub [] rfl (c_Mod_bows_b33 C ho h)
  · have h := fw_ift h c3
    refine fw_ldc (pc := 12) C (v := -1000002) kX9_bows_187 dX9_bows_12 ?_
    exact fw_iret (pc := 14) C (fw_p1 h) (fw_p2 h) dX9_bows_14
theorem c_Mod_bows {l : Launch} {D : va_G} {cI cZ cH cR : ClassId} {N : Nat} {ad : Nat → Nat} {EE : fw_M → Nat → va_E} {o : Nat} {M : fw_M} {a0 : Int32} {a1 : Int32} {z : (Int32 × fw_M)} (ho : o_Mod EE ad N cI cZ cH cR o) (h : P_Mod_bows o M a0 a1 = some z) : fw_Met l yX9_bows wsX9_bows rm_Mod_bows D vwCl (fw_tys cI cZ cH cR) N ad fw_nw0 EE [.ref (ad o), .int a0, .int a1] M (some (.int z.1)) z.2 := by
  unfold P_Mod_bows at h
  exact fw_intro (cc := cX9_bows) (maxL := 7) (ret := some .int) (own := RX9) (by decide) rfl rfl (Nat.le_of_ble_eq_true rfl) (fun p e s m args below meth c C => fw_sub [0, 1, 2] rfl (c_Mod_bows_b0 C ho h))
abbrev rm_Mod_raise : Room := { frames := 8, cells := 0, slots := 0, locals := 182 }
theorem hd_Mod_raise : yX9_raise.cls = RX9 ∧ yX9_raise.cls ≠ "java/lang/invoke/MethodHandle" ∧ yX9_raise.cls ≠ "java/lang/invoke/VarHandle" ∧ (parseMethodDescriptor yX9_raise.desc).map (fun d => d.parameters.length) = some 1 := by decide +kernel
theorem qX9_raise_47 : fw_G wsX9_raise RX9 47 RX9 TX9 24 0 := ⟨by decide +kernel, by decide +kernel, by decide⟩
theorem kX9_raise_187 : Cond.constant RX9 187 (-1000002) ∈ wsX9_raise := by decide +kernel
theorem kX9_raise_67 : Cond.constant RX9 67 (-1000001) ∈ wsX9_raise := by decide +kernel
theorem kX9_raise_90 : Cond.constant RX9 90 (-1000000) ∈ wsX9_raise := by decide +kernel
theorem qX9_raise_19 : fw_G wsX9_raise RX9 19 RX9 TX9 24 5 := ⟨by decide +kernel, by decide +kernel, by decide⟩
theorem qX9_raise_25 : fw_G wsX9_raise RX9 25 RX9 TX9 24 7 := ⟨by decide +kernel, by decide +kernel, by decide⟩
def P_Mod_raise_b167 (o : Nat) (K45 : fw_M → Int32 → Int32 → Int32 → Option (Int32 × fw_M)) (K58 : fw_M → Int32 → Int32 → Int32 → Int32 → Option (Int32 × fw_M)) (M : fw_M) (x1 : Int32) (x2 : Int32) (x3 : Int32) (x4 : Int32) : Option (Int32 × fw_M) := K58 M x1 x2 x3 (x4 + (1 : Int32))
def P_Mod_raise_b166 (o : Nat) (K45 : fw_M → Int32 → Int32 → Int32 → Option (Int32 × fw_M)) (K58 : fw_M → Int32 → Int32 → Int32 → Int32 → Option (Int32 × fw_M)) (M : fw_M) (x1 : Int32) (x3 : Int32) (x4 : Int32) (t0 : Int32) : Option (Int32 × fw_M) := P_Mod_raise_b167 o K45 K58 M x1 t0 x3 x4
def P_Mod_raise_b134 (o : Nat) (K45 : fw_M → Int32 → Int32 → Int32 → Option (Int32 × fw_M)) (K58 : fw_M → Int32 → Int32 → Int32 → Int32 → Option (Int32 × fw_M)) (M : fw_M) (x1 : Int32) (x2 : Int32) (x3 : Int32) (x4 : Int32) (x6 : Int32) : Option (Int32 × fw_M) := (P_Mod_layThen o M).bind fun q1 => (fw_ast q1 (o + 6) 39 (((4 : Int32) + ((5 : Int32) * x3)) + (1 : Int32)) x4).bind fun M2 => (P_Mod_leftAt o M2 x1).bind fun q3 => (if q3.1 = (0 : Int32) then P_Mod_raise_b166 o K45 K58 q3.2 x1 x3 x4 x6 else P_Mod_raise_b166 o K45 K58 q3.2 x1 x3 x4 x2)
def P_Mod_raise_b94 (o : Nat) (K45 : fw_M → Int32 → Int32 → Int32 → Option (Int32 × fw_M)) (K58 : fw_M → Int32 → Int32 → Int32 → Int32 → Option (Int32 × fw_M)) (M : fw_M) (x1 : Int32) (x2 : Int32) (x3 : Int32) (x4 : Int32) (x5 : Int32) (t0 : Int32) (t1 : Int32) : Option (Int32 × fw_M) := fw_pl ((((t0 * t1) + ((10 : Int32) * x3)) + x4)) fun y1 => (P_Mod_waits (o + 4) M x3 x1).bind fun v2 => (if v2 = (0 : Int32) then P_Mod_raise_b167 o K45 K58 M x1 x2 x3 x4 else (if x5 = (0 : Int32) then P_Mod_raise_b167 o K45 K58 M x1 x2 x3 x4 else (if x2 = (-1000000 : Int32) then P_Mod_raise_b134 o K45 K58 M x1 x2 x3 x4 y1 else (if x2 ≤ y1 then P_Mod_raise_b167 o K45 K58 M x1 x2 x3 x4 else P_Mod_raise_b134 o K45 K58 M x1 x2 x3 x4 y1))))
def P_Mod_raise_b58 (o : Nat) (K45 : fw_M → Int32 → Int32 → Int32 → Option (Int32 × fw_M)) (K58 : fw_M → Int32 → Int32 → Int32 → Int32 → Option (Int32 × fw_M)) (M : fw_M) (x1 : Int32) (x2 : Int32) (x3 : Int32) (x4 : Int32) : Option (Int32 × fw_M) := (if (10 : Int32) ≤ x4 then K45 M x1 x2 (x3 + (1 : Int32)) else (P_Mod_of (o + 4) M x3 (1 : Int32)).bind fun v2 => fw_pl ((x4 - v2)) fun y3 => (if (0 : Int32) ≤ y3 then P_Mod_raise_b94 o K45 K58 M x1 x2 x3 x4 y3 (100 : Int32) y3 else P_Mod_raise_b94 o K45 K58 M x1 x2 x3 x4 y3 (100 : Int32) (-y3)))
def P_Mod_raise_h58 (o : Nat) (K45 : fw_M → Int32 → Int32 → Int32 → Option (Int32 × fw_M)) : Nat → fw_M → Int32 → Int32 → Int32 → Int32 → Option (Int32 × fw_M)
  | 0, _, _, _, _, _ => none
  | n + 1, M, x1, x2, x3, x4 => P_Mod_raise_b58 o K45 (P_Mod_raise_h58 o K45 n) M x1 x2 x3 x4
def P_Mod_raise_b45 (o : Nat) (K45 : fw_M → Int32 → Int32 → Int32 → Option (Int32 × fw_M)) (M : fw_M) (x1 : Int32) (x2 : Int32) (x3 : Int32) : Option (Int32 × fw_M) := (fw_ald M (o + 4) 39 (2 : Int32)).bind fun v1 => (if v1 ≤ x3 then some (x2, M) else P_Mod_raise_h58 o K45 fw_fu M x1 x2 x3 (0 : Int32))
def P_Mod_raise_h45 (o : Nat) : Nat → fw_M → Int32 → Int32 → Int32 → Option (Int32 × fw_M)
  | 0, _, _, _, _ => none
  | n + 1, M, x1, x2, x3 => P_Mod_raise_b45 o (P_Mod_raise_h45 o n) M x1 x2 x3
def P_Mod_raise_b0 (o : Nat) (M : fw_M) (x1 : Int32) : Option (Int32 × fw_M) := fw_pl (fw_set M o 0 (0 : Int32)) fun M1 => (P_Mod_isThere o M1).bind fun v2 => (if v2 = (0 : Int32) then some ((-1000002 : Int32), M1) else (P_Mod_isDoor o M1 x1).bind fun v4 => (if v4 = (0 : Int32) then some ((-1000001 : Int32), M1) else (P_Mod_layThen o M1).bind fun q6 => (P_Mod_leftAt o q6 x1).bind fun q7 => (if q7.1 = (0 : Int32) then some ((0 : Int32), q7.2) else P_Mod_raise_h45 o fw_fu q7.2 x1 (-1000000 : Int32) (0 : Int32))))
def P_Mod_raise (o : Nat) (M : fw_M) (a0 : Int32) : Option (Int32 × fw_M) := P_Mod_raise_b0 o M a0
set_option maxRecDepth 100000 in
theorem c_Mod_raise_b167 {p : Program} {l : Launch} {e : Env} {s : State} {m : MethodId} {args : Array Value} {below : List Frame} {meth : Method} {c : Code} {D : va_G} {cI cZ cH cR : ClassId} {N : Nat} {ad : Nat → Nat} {EE : fw_M → Nat → va_E} {o : Nat} {K45 : fw_M → Int32 → Int32 → Int32 → Option (Int32 × fw_M)} {K58 : fw_M → Int32 → Int32 → Int32 → Int32 → Option (Int32 × fw_M)} {M : fw_M} {x1 : Int32} {x2 : Int32} {x3 : Int32} {x4 : Int32} {z : (Int32 × fw_M)} (C : fw_C p s m args meth c cX9_raise RX9 wsX9_raise 7 (some .int) D vwCl (fw_tys cI cZ cH cR) N ad fw_nw0) (ho : o_Mod EE ad N cI cZ cH cR o) (hK45 : ∀ (Mk : fw_M) (kx1 : Int32) (kx2 : Int32) (kx3 : Int32), K45 Mk kx1 kx2 kx3 = some z → fw_J p l e (headSpec wsX9_raise rm_Mod_raise).room s m args below meth c D vwCl N ad EE 7 0 0 (fw_E below args s D vwCl N ad EE (some (.int z.1)) z.2) Mk [(0, .ref (ad o)), (1, .int kx1), (2, .int kx2), (3, .int kx3)] 45 []) (hK58 : ∀ (Mk : fw_M) (kx1 : Int32) (kx2 : Int32) (kx3 : Int32) (kx4 : Int32), K58 Mk kx1 kx2 kx3 kx4 = some z → fw_J p l e (headSpec wsX9_raise rm_Mod_raise).room s m args below meth c D vwCl N ad EE 7 0 0 (fw_E below args s D vwCl N ad EE (some (.int z.1)) z.2) Mk [(0, .ref (ad o)), (1, .int kx1), (2, .int kx2), (3, .int kx3), (4, .int kx4)] 58 []) (h : P_Mod_raise_b167 o K45 K58 M x1 x2 x3 x4 = some z) : fw_J p l e (headSpec wsX9_raise rm_Mod_raise).room s m args below meth c D vwCl N ad EE 7 0 0 (fw_E below args s D vwCl N ad EE (some (.int z.1)) z.2) M [(0, .ref (ad o)), (1, .int x1), (2, .int x2), (3, .int x3), (4, .int x4)] 167 [] := by
  unfold P_Mod_raise_b167 at h
  refine fw_iinc (pc := 167) C (v := 1) (L2 := [(0, .ref _), (1, .int _), (2, .int _), (3, .int _), (4, .int _)]) 4 [1, 2, 3, 4, 0] dX9_raise_167 rfl fk_iconst_1 (by decide) rfl ?_
  refine fw_goto (pc := 170) C (tgt := 58) dX9_raise_170 (by decide) ?_
  exact (hK58 _ _ _ _ _ h)
set_option maxRecDepth 100000 in
theorem c_Mod_raise_b166 {p : Program} {l : Launch} {e : Env} {s : State} {m : MethodId} {args : Array Value} {below : List Frame} {meth : Method} {c : Code} {D : va_G} {cI cZ cH cR : ClassId} {N : Nat} {ad : Nat → Nat} {EE : fw_M → Nat → va_E} {o : Nat} {K45 : fw_M → Int32 → Int32 → Int32 → Option (Int32 × fw_M)} {K58 : fw_M → Int32 → Int32 → Int32 → Int32 → Option (Int32 × fw_M)} {M : fw_M} {x1 : Int32} {x3 : Int32} {x4 : Int32} {t0 : Int32} {z : (Int32 × fw_M)} (C : fw_C p s m args meth c cX9_raise RX9 wsX9_raise 7 (some .int) D vwCl (fw_tys cI cZ cH cR) N ad fw_nw0) (ho : o_Mod EE ad N cI cZ cH cR o) (hK45 : ∀ (Mk : fw_M) (kx1 : Int32) (kx2 : Int32) (kx3 : Int32), K45 Mk kx1 kx2 kx3 = some z → fw_J p l e (headSpec wsX9_raise rm_Mod_raise).room s m args below meth c D vwCl N ad EE 7 0 0 (fw_E below args s D vwCl N ad EE (some (.int z.1)) z.2) Mk [(0, .ref (ad o)), (1, .int kx1), (2, .int kx2), (3, .int kx3)] 45 []) (hK58 : ∀ (Mk : fw_M) (kx1 : Int32) (kx2 : Int32) (kx3 : Int32) (kx4 : Int32), K58 Mk kx1 kx2 kx3 kx4 = some z → fw_J p l e (headSpec wsX9_raise rm_Mod_raise).room s m args below meth c D vwCl N ad EE 7 0 0 (fw_E below args s D vwCl N ad EE (some (.int z.1)) z.2) Mk [(0, .ref (ad o)), (1, .int kx1), (2, .int kx2), (3, .int kx3), (4, .int kx4)] 58 []) (h : P_Mod_raise_b166 o K45 K58 M x1 x3 x4 t0 = some z) : fw_J p l e (headSpec wsX9_raise rm_Mod_raise).room s m args below meth c D vwCl N ad EE 7 0 0 (fw_E below args s D vwCl N ad EE (some (.int z.1)) z.2) M [(0, .ref (ad o)), (1, .int x1), (3, .int x3), (4, .int x4)] 166 [.int t0] := by
  unfold P_Mod_raise_b166 at h
  refine fw_istore_n (pc := 166) C (L2 := [(0, .ref _), (1, .int _), (2, .int _), (3, .int _), (4, .int _)]) [1, 2, 0, 3, 4] dX9_raise_166 rfl (by decide) rfl ?_
  exact (c_Mod_raise_b167 C ho hK45 hK58 h)
set_option maxRecDepth 100000 in
theorem c_Mod_raise_b134 {p : Program} {l : Launch} {e : Env} {s : State} {m : MethodId} {args : Array Value} {below : List Frame} {meth : Method} {c : Code} {D : va_G} {cI cZ cH cR : ClassId} {N : Nat} {ad : Nat → Nat} {EE : fw_M → Nat → va_E} {o : Nat} {K45 : fw_M → Int32 → Int32 → Int32 → Option (Int32 × fw_M)} {K58 : fw_M → Int32 → Int32 → Int32 → Int32 → Option (Int32 × fw_M)} {M : fw_M} {x1 : Int32} {x2 : Int32} {x3 : Int32} {x4 : Int32} {x6 : Int32} {z : (Int32 × fw_M)} (C : fw_C p s m args meth c cX9_raise RX9 wsX9_raise 7 (some .int) D vwCl (fw_tys cI cZ cH cR) N ad fw_nw0) (ho : o_Mod EE ad N cI cZ cH cR o) (hK45 : ∀ (Mk : fw_M) (kx1 : Int32) (kx2 : Int32) (kx3 : Int32), K45 Mk kx1 kx2 kx3 = some z → fw_J p l e (headSpec wsX9_raise rm_Mod_raise).room s m args below meth c D vwCl N ad EE 7 0 0 (fw_E below args s D vwCl N ad EE (some (.int z.1)) z.2) Mk [(0, .ref (ad o)), (1, .int kx1), (2, .int kx2), (3, .int kx3)] 45 []) (hK58 : ∀ (Mk : fw_M) (kx1 : Int32) (kx2 : Int32) (kx3 : Int32) (kx4 : Int32), K58 Mk kx1 kx2 kx3 kx4 = some z → fw_J p l e (headSpec wsX9_raise rm_Mod_raise).room s m args below meth c D vwCl N ad EE 7 0 0 (fw_E below args s D vwCl N ad EE (some (.int z.1)) z.2) Mk [(0, .ref (ad o)), (1, .int kx1), (2, .int kx2), (3, .int kx3), (4, .int kx4)] 58 []) (h : P_Mod_raise_b134 o K45 K58 M x1 x2 x3 x4 x6 = some z) : fw_J p l e (headSpec wsX9_raise rm_Mod_raise).room s m args below meth c D vwCl N ad EE 7 0 0 (fw_E below args s D vwCl N ad EE (some (.int z.1)) z.2) M [(0, .ref (ad o)), (1, .int x1), (2, .int x2), (3, .int x3), (4, .int x4), (6, .int x6)] 134 [] := by
  unfold P_Mod_raise_b134 at h
  refine fw_aload_n (pc := 134) C 0 dX9_raise_134 rfl rfl ?_
  obtain ⟨q1, hq1, h⟩ := fw_bind h
  refine fw_callV0 (pc := 135) C (rest := []) (c_Mod_layThen ho hq1) (cwV 0 C.2.2.2.2.1 gX9_raise_X9_layThen rfl rfl rfl hd_Mod_layThen ⟨Nat.le_of_ble_eq_true rfl, Nat.le_of_ble_eq_true rfl⟩) ho.1 rfl rfl ⟨Nat.zero_le _, Nat.zero_le _⟩ rfl (Nat.le_of_ble_eq_true rfl) dX9_raise_135 ?_
  refine fw_aload_n (pc := 138) C 0 dX9_raise_138 rfl rfl ?_
  refine fw_getr (pc := 139) C ho.2.2.2.2.2.2.2.2.1.1 rfl qX9_raise_25 dX9_raise_139 ?_
  refine fw_iconst (pc := 142) C (v := 4) dX9_raise_142 fk_iconst_4 ?_
  refine fw_iconst (pc := 143) C (v := 5) dX9_raise_143 fk_iconst_5 ?_
  refine fw_iload_n (pc := 144) C 3 dX9_raise_144 rfl rfl ?_
  refine fw_imul (pc := 145) C dX9_raise_145 ?_
  refine fw_iadd (pc := 146) C dX9_raise_146 ?_
  refine fw_iconst (pc := 147) C (v := 1) dX9_raise_147 fk_iconst_1 ?_
  refine fw_iadd (pc := 148) C dX9_raise_148 ?_
  refine fw_iload (pc := 149) C 4 dX9_raise_149 rfl ?_
  obtain ⟨M2, hM2, h⟩ := fw_bind h
  refine fw_iast (pc := 151) C 0 ho.2.2.2.2.2.2.2.2.1.2 rfl hM2 dX9_raise_151 ?_
  refine fw_aload_n (pc := 152) C 0 dX9_raise_152 rfl rfl ?_
  refine fw_iload_n (pc := 153) C 1 dX9_raise_153 rfl rfl ?_
  obtain ⟨q3, hq3, h⟩ := fw_bind h
  refine fw_callV1 (pc := 154) C (rest := []) (c_Mod_leftAt ho hq3) (cwV 1 C.2.2.2.2.1 gX9_raise_X9_leftAt rfl rfl rfl hd_Mod_leftAt ⟨Nat.le_of_ble_eq_true rfl, Nat.le_of_ble_eq_true rfl⟩) ho.1 rfl rfl ⟨Nat.zero_le _, Nat.zero_le _⟩ rfl (Nat.le_of_ble_eq_true rfl) dX9_raise_154 ?_
  refine fw_if_ne (pc := 157) C (tgt := 165) dX9_raise_157 (by decide) (fun c4 => ?_) (fun c4 => ?_)
  · have h := fw_iff h c4
    refine fw_iload_n (pc := 165) C 2 dX9_raise_165 rfl rfl ?_
    exact fw_sub [0, 1, 3, 4] rfl (c_Mod_raise_b166 C ho hK45 hK58 h)
  · have h := fw_ift h c4
    refine fw_iload (pc := 160) C 5 dX9_raise_160 rfl ?_
    refine fw_goto (pc := 162) C (tgt := 166) dX9_raise_162 (by decide) ?_
    exact fw_sub [0, 1, 3, 4] rfl (c_Mod_raise_b166 C ho hK45 hK58 h)
set_option maxRecDepth 100000 in
theorem c_Mod_raise_b94 {p : Program} {l : Launch} {e : Env} {s : State} {m : MethodId} {args : Array Value} {below : List Frame} {meth : Method} {c : Code} {D : va_G} {cI cZ cH cR : ClassId} {N : Nat} {ad : Nat → Nat} {EE : fw_M → Nat → va_E} {o : Nat} {K45 : fw_M → Int32 → Int32 → Int32 → Option (Int32 × fw_M)} {K58 : fw_M → Int32 → Int32 → Int32 → Int32 → Option (Int32 × fw_M)} {M : fw_M} {x1 : Int32} {x2 : Int32} {x3 : Int32} {x4 : Int32} {x5 : Int32} {t0 : Int32} {t1 : Int32} {z : (Int32 × fw_M)} (C : fw_C p s m args meth c cX9_raise RX9 wsX9_raise 7 (some .int) D vwCl (fw_tys cI cZ cH cR) N ad fw_nw0) (ho : o_Mod EE ad N cI cZ cH cR o) (hK45 : ∀ (Mk : fw_M) (kx1 : Int32) (kx2 : Int32) (kx3 : Int32), K45 Mk kx1 kx2 kx3 = some z → fw_J p l e (headSpec wsX9_raise rm_Mod_raise).room s m args below meth c D vwCl N ad EE 7 0 0 (fw_E below args s D vwCl N ad EE (some (.int z.1)) z.2) Mk [(0, .ref (ad o)), (1, .int kx1), (2, .int kx2), (3, .int kx3)] 45 []) (hK58 : ∀ (Mk : fw_M) (kx1 : Int32) (kx2 : Int32) (kx3 : Int32) (kx4 : Int32), K58 Mk kx1 kx2 kx3 kx4 = some z → fw_J p l e (headSpec wsX9_raise rm_Mod_raise).room s m args below meth c D vwCl N ad EE 7 0 0 (fw_E below args s D vwCl N ad EE (some (.int z.1)) z.2) Mk [(0, .ref (ad o)), (1, .int kx1), (2, .int kx2), (3, .int kx3), (4, .int kx4)] 58 []) (h : P_Mod_raise_b94 o K45 K58 M x1 x2 x3 x4 x5 t0 t1 = some z) : fw_J p l e (headSpec wsX9_raise rm_Mod_raise).room s m args below meth c D vwCl N ad EE 7 0 0 (fw_E below args s D vwCl N ad EE (some (.int z.1)) z.2) M [(0, .ref (ad o)), (1, .int x1), (2, .int x2), (3, .int x3), (4, .int x4), (5, .int x5)] 94 [.int t1, .int t0] := by
  unfold P_Mod_raise_b94 at h
  refine fw_imul (pc := 94) C dX9_raise_94 ?_
  refine fw_bipush (pc := 95) C (v := 10) dX9_raise_95 fk_bipush_10 ?_
  refine fw_iload_n (pc := 97) C 3 dX9_raise_97 rfl rfl ?_
  refine fw_imul (pc := 98) C dX9_raise_98 ?_
  refine fw_iadd (pc := 99) C dX9_raise_99 ?_
  refine fw_iload (pc := 100) C 4 dX9_raise_100 rfl ?_
  refine fw_iadd (pc := 102) C dX9_raise_102 ?_
  have h := fw_plh h
  refine fw_istore (pc := 103) C (L2 := [(0, .ref _), (1, .int _), (2, .int _), (3, .int _), (4, .int _), (5, .int _), (6, .int _)]) [1, 2, 3, 4, 5, 6, 0] dX9_raise_103 (by decide) rfl ?_
  refine fw_aload_n (pc := 105) C 0 dX9_raise_105 rfl rfl ?_
  refine fw_getr (pc := 106) C ho.2.2.2.2.2.2.1.1 rfl qX9_raise_19 dX9_raise_106 ?_
  refine fw_iload_n (pc := 109) C 3 dX9_raise_109 rfl rfl ?_
  refine fw_iload_n (pc := 110) C 1 dX9_raise_110 rfl rfl ?_
  obtain ⟨v2, hv2, h⟩ := fw_bind h
  refine fw_callS1 (pc := 111) C (rest := []) (c_Mod_waits ho.2.2.2.2.2.2.1.2 hv2) (va_cwS 3 C.2.2.2.2.1 gX9_raise_X9_waits rfl rfl rfl hd_Mod_waits.2 ⟨Nat.le_of_ble_eq_true rfl, Nat.le_of_ble_eq_true rfl⟩) rfl ⟨Nat.zero_le _, Nat.zero_le _⟩ rfl (Nat.le_of_ble_eq_true rfl) dX9_raise_111 ?_
  refine fw_if_eq (pc := 114) C (tgt := 167) dX9_raise_114 (by decide) (fun c3 => ?_) (fun c3 => ?_)
  · have h := fw_ift h c3
    exact fw_sub [0, 1, 2, 3, 4] rfl (c_Mod_raise_b167 C ho hK45 hK58 h)
  · have h := fw_iff h c3
    refine fw_iload (pc := 117) C 5 dX9_raise_117 rfl ?_
    refine fw_if_eq (pc := 119) C (tgt := 167) dX9_raise_119 (by decide) (fun c4 => ?_) (fun c4 => ?_)
    · have h := fw_ift h c4
      exact fw_sub [0, 1, 2, 3, 4] rfl (c_Mod_raise_b167 C ho hK45 hK58 h)
    · have h := fw_iff h c4
      refine fw_iload_n (pc := 122) C 2 dX9_raise_122 rfl rfl ?_
      refine fw_ldc (pc := 123) C (v := -1000000) kX9_raise_90 dX9_raise_123 ?_
      refine fw_icmp_eq (pc := 125) C (tgt := 134) dX9_raise_125 (by decide) (fun c5 => ?_) (fun c5 => ?_)
      · have h := fw_ift h c5
        exact fw_sub [0, 1, 2, 3, 4, 6] rfl (c_Mod_raise_b134 C ho hK45 hK58 h)
      · have h := fw_iff h c5
        refine fw_iload (pc := 128) C 6 dX9_raise_128 rfl ?_
        refine fw_iload_n (pc := 130) C 2 dX9_raise_130 rfl rfl ?_
        refine fw_icmp_ge (pc := 131) C (tgt := 167) dX9_raise_131 (by decide) (fun c6 => ?_) (fun c6 => ?_)
        · have h := fw_ift h c6
          exact fw_sub [0, 1, 2, 3, 4] rfl (c_Mod_raise_b167 C ho hK45 hK58 h)
        · have h := fw_iff h c6
          exact fw_sub [0, 1, 2, 3, 4, 6] rfl (c_Mod_raise_b134 C ho hK45 hK58 h)
set_option maxRecDepth 100000 in
theorem c_Mod_raise_b58 {p : Program} {l : Launch} {e : Env} {s : State} {m : MethodId} {args : Array Value} {below : List Frame} {meth : Method} {c : Code} {D : va_G} {cI cZ cH cR : ClassId} {N : Nat} {ad : Nat → Nat} {EE : fw_M → Nat → va_E} {o : Nat} {K45 : fw_M → Int32 → Int32 → Int32 → Option (Int32 × fw_M)} {K58 : fw_M → Int32 → Int32 → Int32 → Int32 → Option (Int32 × fw_M)} {M : fw_M} {x1 : Int32} {x2 : Int32} {x3 : Int32} {x4 : Int32} {z : (Int32 × fw_M)} (C : fw_C p s m args meth c cX9_raise RX9 wsX9_raise 7 (some .int) D vwCl (fw_tys cI cZ cH cR) N ad fw_nw0) (ho : o_Mod EE ad N cI cZ cH cR o) (hK45 : ∀ (Mk : fw_M) (kx1 : Int32) (kx2 : Int32) (kx3 : Int32), K45 Mk kx1 kx2 kx3 = some z → fw_J p l e (headSpec wsX9_raise rm_Mod_raise).room s m args below meth c D vwCl N ad EE 7 0 0 (fw_E below args s D vwCl N ad EE (some (.int z.1)) z.2) Mk [(0, .ref (ad o)), (1, .int kx1), (2, .int kx2), (3, .int kx3)] 45 []) (hK58 : ∀ (Mk : fw_M) (kx1 : Int32) (kx2 : Int32) (kx3 : Int32) (kx4 : Int32), K58 Mk kx1 kx2 kx3 kx4 = some z → fw_J p l e (headSpec wsX9_raise rm_Mod_raise).room s m args below meth c D vwCl N ad EE 7 0 0 (fw_E below args s D vwCl N ad EE (some (.int z.1)) z.2) Mk [(0, .ref (ad o)), (1, .int kx1), (2, .int kx2), (3, .int kx3), (4, .int kx4)] 58 []) (h : P_Mod_raise_b58 o K45 K58 M x1 x2 x3 x4 = some z) : fw_J p l e (headSpec wsX9_raise rm_Mod_raise).room s m args below meth c D vwCl N ad EE 7 0 0 (fw_E below args s D vwCl N ad EE (some (.int z.1)) z.2) M [(0, .ref (ad o)), (1, .int x1), (2, .int x2), (3, .int x3), (4, .int x4)] 58 [] := by
  unfold P_Mod_raise_b58 at h
  refine fw_iload (pc := 58) C 4 dX9_raise_58 rfl ?_
  refine fw_bipush (pc := 60) C (v := 10) dX9_raise_60 fk_bipush_10 ?_
  refine fw_icmp_ge (pc := 62) C (tgt := 173) dX9_raise_62 (by decide) (fun c1 => ?_) (fun c1 => ?_)
  · have h := fw_ift h c1
    refine fw_iinc (pc := 173) C (v := 1) (L2 := [(0, .ref _), (1, .int _), (2, .int _), (3, .int _), (4, .int _)]) 3 [1, 2, 3, 0, 4] dX9_raise_173 rfl fk_iconst_1 (by decide) rfl ?_
    refine fw_goto (pc := 176) C (tgt := 45) dX9_raise_176 (by decide) ?_
    exact fw_sub [0, 1, 2, 3] rfl (hK45 _ _ _ _ h)
  · have h := fw_iff h c1
    refine fw_iload (pc := 65) C 4 dX9_raise_65 rfl ?_
    refine fw_aload_n (pc := 67) C 0 dX9_raise_67 rfl rfl ?_
    refine fw_getr (pc := 68) C ho.2.2.2.2.2.2.1.1 rfl qX9_raise_19 dX9_raise_68 ?_
    refine fw_iload_n (pc := 71) C 3 dX9_raise_71 rfl rfl ?_
    refine fw_iconst (pc := 72) C (v := 1) dX9_raise_72 fk_iconst_1 ?_
    obtain ⟨v2, hv2, h⟩ := fw_bind h
    refine fw_callS1 (pc := 73) C (rest := [_]) (c_Mod_of ho.2.2.2.2.2.2.1.2 hv2) (va_cwS 3 C.2.2.2.2.1 gX9_raise_X9_of rfl rfl rfl hd_Mod_of.2 ⟨Nat.le_of_ble_eq_true rfl, Nat.le_of_ble_eq_true rfl⟩) rfl ⟨Nat.zero_le _, Nat.zero_le _⟩ rfl (Nat.le_of_ble_eq_true rfl) dX9_raise_73 ?_
    refine fw_isub (pc := 76) C dX9_raise_76 ?_
    have h := fw_plh h
    refine fw_istore (pc := 77) C (L2 := [(0, .ref _), (1, .int _), (2, .int _), (3, .int _), (4, .int _), (5, .int _)]) [1, 2, 3, 4, 5, 0] dX9_raise_77 (by decide) rfl ?_
    refine fw_bipush (pc := 79) C (v := 100) dX9_raise_79 fk_bipush_100 ?_
    refine fw_iload (pc := 81) C 5 dX9_raise_81 rfl ?_
    refine fw_if_ge (pc := 83) C (tgt := 92) dX9_raise_83 (by decide) (fun c4 => ?_) (fun c4 => ?_)
    · have h := fw_ift h c4
      refine fw_iload (pc := 92) C 5 dX9_raise_92 rfl ?_
      exact (c_Mod_raise_b94 C ho hK45 hK58 h)
    · have h := fw_iff h c4
      refine fw_iload (pc := 86) C 5 dX9_raise_86 rfl ?_
      refine fw_ineg (pc := 88) C dX9_raise_88 ?_
      refine fw_goto (pc := 89) C (tgt := 94) dX9_raise_89 (by decide) ?_
      exact (c_Mod_raise_b94 C ho hK45 hK58 h)
theorem c_Mod_raise_h58 {p : Program} {l : Launch} {e : Env} {s : State} {m : MethodId} {args : Array Value} {below : List Frame} {meth : Method} {c : Code} {D : va_G} {cI cZ cH cR : ClassId} {N : Nat} {ad : Nat → Nat} {EE : fw_M → Nat → va_E} {o : Nat} {K45 : fw_M → Int32 → Int32 → Int32 → Option (Int32 × fw_M)} {z : (Int32 × fw_M)} (C : fw_C p s m args meth c cX9_raise RX9 wsX9_raise 7 (some .int) D vwCl (fw_tys cI cZ cH cR) N ad fw_nw0) (ho : o_Mod EE ad N cI cZ cH cR o) (hK45 : ∀ (Mk : fw_M) (kx1 : Int32) (kx2 : Int32) (kx3 : Int32), K45 Mk kx1 kx2 kx3 = some z → fw_J p l e (headSpec wsX9_raise rm_Mod_raise).room s m args below meth c D vwCl N ad EE 7 0 0 (fw_E below args s D vwCl N ad EE (some (.int z.1)) z.2) Mk [(0, .ref (ad o)), (1, .int kx1), (2, .int kx2), (3, .int kx3)] 45 []) : ∀ (n : Nat) (M : fw_M) (x1 : Int32) (x2 : Int32) (x3 : Int32) (x4 : Int32), P_Mod_raise_h58 o K45 n M x1 x2 x3 x4 = some z → fw_J p l e (headSpec wsX9_raise rm_Mod_raise).room s m args below meth c D vwCl N ad EE 7 0 0 (fw_E below args s D vwCl N ad EE (some (.int z.1)) z.2) M [(0, .ref (ad o)), (1, .int x1), (2, .int x2), (3, .int x3), (4, .int x4)] 58 [] := by
  intro n
  induction n with
  | zero => intro M x1 x2 x3 x4  h; cases h
  | succ n ih => intro M x1 x2 x3 x4  h; exact c_Mod_raise_b58 C ho hK45 ih  h
set_option maxRecDepth 100000 in
theorem c_Mod_raise_b45 {p : Program} {l : Launch} {e : Env} {s : State} {m : MethodId} {args : Array Value} {below : List Frame} {meth : Method} {c : Code} {D : va_G} {cI cZ cH cR : ClassId} {N : Nat} {ad : Nat → Nat} {EE : fw_M → Nat → va_E} {o : Nat} {K45 : fw_M → Int32 → Int32 → Int32 → Option (Int32 × fw_M)} {M : fw_M} {x1 : Int32} {x2 : Int32} {x3 : Int32} {z : (Int32 × fw_M)} (C : fw_C p s m args meth c cX9_raise RX9 wsX9_raise 7 (some .int) D vwCl (fw_tys cI cZ cH cR) N ad fw_nw0) (ho : o_Mod EE ad N cI cZ cH cR o) (hK45 : ∀ (Mk : fw_M) (kx1 : Int32) (kx2 : Int32) (kx3 : Int32), K45 Mk kx1 kx2 kx3 = some z → fw_J p l e (headSpec wsX9_raise rm_Mod_raise).room s m args below meth c D vwCl N ad EE 7 0 0 (fw_E below args s D vwCl N ad EE (some (.int z.1)) z.2) Mk [(0, .ref (ad o)), (1, .int kx1), (2, .int kx2), (3, .int kx3)] 45 []) (h : P_Mod_raise_b45 o K45 M x1 x2 x3 = some z) : fw_J p l e (headSpec wsX9_raise rm_Mod_raise).room s m args below meth c D vwCl N ad EE 7 0 0 (fw_E below args s D vwCl N ad EE (some (.int z.1)) z.2) M [(0, .ref (ad o)), (1, .int x1), (2, .int x2), (3, .int x3)] 45 [] := by
  unfold P_Mod_raise_b45 at h
  refine fw_iload_n (pc := 45) C 3 dX9_raise_45 rfl rfl ?_
  refine fw_aload_n (pc := 46) C 0 dX9_raise_46 rfl rfl ?_
  refine fw_getr (pc := 47) C ho.2.2.2.2.2.2.1.1 rfl qX9_raise_19 dX9_raise_47 ?_
  refine fw_iconst (pc := 50) C (v := 2) dX9_raise_50 fk_iconst_2 ?_
  obtain ⟨v1, hv1, h⟩ := fw_bind h
  refine fw_iald (pc := 51) C 0 ho.2.2.2.2.2.2.1.2 rfl hv1 dX9_raise_51 ?_
  refine fw_icmp_ge (pc := 52) C (tgt := 179) dX9_raise_52 (by decide) (fun c2 => ?_) (fun c2 => ?_)
  · have h := fw_ift h c2
    refine fw_iload_n (pc := 179) C 2 dX9_raise_179 rfl rfl ?_
    exact fw_iret (pc := 180) C (fw_p1 h) (fw_p2 h) dX9_raise_180
  · have h := fw_iff h c2
    refine fw_iconst (pc := 55) C (v := 0) dX9_raise_55 fk_iconst_0 ?_
    refine fw_istore (pc := 56) C (L2 := [(0, .ref _), (1, .int _), (2, .int _), (3, .int _), (4, .int _)]) [1, 2, 3, 4, 0] dX9_raise_56 (by decide) rfl ?_
    exact (c_Mod_raise_h58 C ho hK45 _ _ _ _ _ _ h)
theorem c_Mod_raise_h45 {p : Program} {l : Launch} {e : Env} {s : State} {m : MethodId} {args : Array Value} {below : List Frame} {meth : Method} {c : Code} {D : va_G} {cI cZ cH cR : ClassId} {N : Nat} {ad : Nat → Nat} {EE : fw_M → Nat → va_E} {o : Nat} {z : (Int32 × fw_M)} (C : fw_C p s m args meth c cX9_raise RX9 wsX9_raise 7 (some .int) D vwCl (fw_tys cI cZ cH cR) N ad fw_nw0) (ho : o_Mod EE ad N cI cZ cH cR o) : ∀ (n : Nat) (M : fw_M) (x1 : Int32) (x2 : Int32) (x3 : Int32), P_Mod_raise_h45 o n M x1 x2 x3 = some z → fw_J p l e (headSpec wsX9_raise rm_Mod_raise).room s m args below meth c D vwCl N ad EE 7 0 0 (fw_E below args s D vwCl N ad EE (some (.int z.1)) z.2) M [(0, .ref (ad o)), (1, .int x1), (2, .int x2), (3, .int x3)] 45 [] := by
  intro n
  induction n with
  | zero => intro M x1 x2 x3  h; cases h
  | succ n ih => intro M x1 x2 x3  h; exact c_Mod_raise_b45 C ho ih  h
set_option maxRecDepth 100000 in
theorem c_Mod_raise_b0 {p : Program} {l : Launch} {e : Env} {s : State} {m : MethodId} {args : Array Value} {below : List Frame} {meth : Method} {c : Code} {D : va_G} {cI cZ cH cR : ClassId} {N : Nat} {ad : Nat → Nat} {EE : fw_M → Nat → va_E} {o : Nat} {M : fw_M} {x1 : Int32} {z : (Int32 × fw_M)} (C : fw_C p s m args meth c cX9_raise RX9 wsX9_raise 7 (some .int) D vwCl (fw_tys cI cZ cH cR) N ad fw_nw0) (ho : o_Mod EE ad N cI cZ cH cR o) (h : P_Mod_raise_b0 o M x1 = some z) : fw_J p l e (headSpec wsX9_raise rm_Mod_raise).room s m args below meth c D vwCl N ad EE 7 0 0 (fw_E below args s D vwCl N ad EE (some (.int z.1)) z.2) M [(0, .ref (ad o)), (1, .int x1)] 0 [] := by
  unfold P_Mod_raise_b0 at h
  refine fw_aload_n (pc := 0) C 0 dX9_raise_0 rfl rfl ?_
  refine fw_iconst (pc := 1) C (v := 0) dX9_raise_1 fk_iconst_0 ?_
  have h := fw_plh h
  refine fw_puti (pc := 2) C ho.2.1 rfl qX9_raise_47 tyX9 tyX9_ok nmX9 rfl rfl dX9_raise_2 ?_
  refine fw_aload_n (pc := 5) C 0 dX9_raise_5 rfl rfl ?_
  obtain ⟨v2, hv2, h⟩ := fw_bind h
  refine fw_callV1 (pc := 6) C (rest := []) (c_Mod_isThere ho hv2) (cwV 0 C.2.2.2.2.1 gX9_raise_X9_isThere rfl rfl rfl hd_Mod_isThere ⟨Nat.le_of_ble_eq_true rfl, Nat.le_of_ble_eq_true rfl⟩) ho.1 rfl rfl ⟨Nat.zero_le _, Nat.zero_le _⟩ rfl (Nat.le_of_ble_eq_true rfl) dX9_raise_6 ?_
  refine fw_if_ne (pc := 9) C (tgt := 15) dX9_raise_9 (by decide) (fun c3 => ?_) (fun c3 => ?_)
  · have h := fw_iff h c3
    refine fw_aload_n (pc := 15) C 0 dX9_raise_15 rfl rfl ?_
    refine fw_iload_n (pc := 16) C 1 dX9_raise_16 rfl rfl ?_
    obtain ⟨v4, hv4, h⟩ := fw_bind h
    refine fw_callV1 (pc := 17) C (rest := []) (c_Mod_isDoor ho hv4) (cwV 1 C.2.2.2.2.1 gX9_raise_X9_isDoor rfl rfl rfl hd_Mod_isDoor ⟨Nat.le_of_ble_eq_true rfl, Nat.le_of_ble_eq_true rfl⟩) ho.1 rfl rfl ⟨Nat.zero_le _, Nat.zero_le _⟩ rfl (Nat.le_of_ble_eq_true rfl) dX9_raise_17 ?_
    refine fw_if_ne (pc := 20) C (tgt := 26) dX9_raise_20 (by decide) (fun c5 => ?_) (fun c5 => ?_)
    · have h := fw_iff h c5
      refine fw_aload_n (pc := 26) C 0 dX9_raise_26 rfl rfl ?_
      obtain ⟨q6, hq6, h⟩ := fw_bind h
      refine fw_callV0 (pc := 27) C (rest := []) (c_Mod_layThen ho hq6) (cwV 0 C.2.2.2.2.1 gX9_raise_X9_layThen rfl rfl rfl hd_Mod_layThen ⟨Nat.le_of_ble_eq_true rfl, Nat.le_of_ble_eq_true rfl⟩) ho.1 rfl rfl ⟨Nat.zero_le _, Nat.zero_le _⟩ rfl (Nat.le_of_ble_eq_true rfl) dX9_raise_27 ?_
      refine fw_aload_n (pc := 30) C 0 dX9_raise_30 rfl rfl ?_
      refine fw_iload_n (pc := 31) C 1 dX9_raise_31 rfl rfl ?_
      obtain ⟨q7, hq7, h⟩ := fw_bind h
      refine fw_callV1 (pc := 32) C (rest := []) (c_Mod_leftAt ho hq7) (cwV 1 C.2.2.2.2.1 gX9_raise_X9_leftAt rfl rfl rfl hd_Mod_leftAt ⟨Nat.le_of_ble_eq_true rfl, Nat.le_of_ble_eq_true rfl⟩) ho.1 rfl rfl ⟨Nat.zero_le _, Nat.zero_le _⟩ rfl (Nat.le_of_ble_eq_true rfl) dX9_raise_32 ?_
      refine fw_if_ne (pc := 35) C (tgt := 40) dX9_raise_35 (by decide) (fun c8 => ?_) (fun c8 => ?_)
      · have h := fw_iff h c8
        refine fw_ldc (pc := 40) C (v := -1000000) kX9_raise_90 dX9_raise_40 ?_
        refine fw_istore_n (pc := 42) C (L2 := [(0, .ref _), (1, .int _), (2, .int _)]) [1, 2, 0] dX9_raise_42 rfl (by decide) rfl ?_
        refine fw_iconst (pc := 43) C (v := 0) dX9_raise_43 fk_iconst_0 ?_
        refine fw_istore_n (pc := 44) C (L2 := [(0, .ref _), (1, .int _), (2, .int _), (3, .int _)]) [1, 2, 3, 0] dX9_raise_44 rfl (by decide) rfl ?_
        exact (c_Mod_raise_h45 C ho _ _ _ _ _ h)
      · have h := fw_ift h c8
        refine fw_iconst (pc := 38) C (v := 0) dX9_raise_38 fk_iconst_0 ?_
        exact fw_iret (pc := 39) C (fw_p1 h) (fw_p2 h) dX9_raise_39
    · have h := fw_ift h c5
      refine fw_ldc (pc := 23) C (v := -1000001) kX9_raise_67 dX9_raise_23 ?_
      exact fw_iret (pc := 25) C (fw_p1 h) (fw_p2 h) dX9_raise_25
  · have h := fw_ift h c3
    refine fw_ldc (pc := 12) C (v := -1000002) kX9_raise_187 dX9_raise_12 ?_
    exact fw_iret (pc := 14) C (fw_p1 h) (fw_p2 h) dX9_raise_14
theorem c_Mod_raise {l : Launch} {D : va_G} {cI cZ cH cR : ClassId} {N : Nat} {ad : Nat → Nat} {EE : fw_M → Nat → va_E} {o : Nat} {M : fw_M} {a0 : Int32} {z : (Int32 × fw_M)} (ho : o_Mod EE ad N cI cZ cH cR o) (h : P_Mod_raise o M a0 = some z) : fw_Met l yX9_raise wsX9_raise rm_Mod_raise D vwCl (fw_tys cI cZ cH cR) N ad fw_nw0 EE [.ref (ad o), .int a0] M (some (.int z.1)) z.2 := by
  unfold P_Mod_raise at h
  exact fw_intro (cc := cX9_raise) (maxL := 7) (ret := some .int) (own := RX9) (by decide) rfl rfl (Nat.le_of_ble_eq_true rfl) (fun p e s m args below meth c C => fw_sub [0, 1] rfl (c_Mod_raise_b0 C ho h))
abbrev rm_Mod_third : Room := { frames := 8, cells := 0, slots := 0, locals := 182 }
theorem hd_Mod_third : yX9_third.cls = RX9 ∧ yX9_third.cls ≠ "java/lang/invoke/MethodHandle" ∧ yX9_third.cls ≠ "java/lang/invoke/VarHandle" ∧ (parseMethodDescriptor yX9_third.desc).map (fun d => d.parameters.length) = some 2 := by decide +kernel
theorem qX9_third_47 : fw_G wsX9_third RX9 47 RX9 TX9 24 0 := ⟨by decide +kernel, by decide +kernel, by decide⟩
theorem kX9_third_187 : Cond.constant RX9 187 (-1000002) ∈ wsX9_third := by decide +kernel
theorem kX9_third_90 : Cond.constant RX9 90 (-1000000) ∈ wsX9_third := by decide +kernel
theorem qX9_third_19 : fw_G wsX9_third RX9 19 RX9 TX9 24 5 := ⟨by decide +kernel, by decide +kernel, by decide⟩
theorem qX9_third_25 : fw_G wsX9_third RX9 25 RX9 TX9 24 7 := ⟨by decide +kernel, by decide +kernel, by decide⟩
theorem kX9_third_67 : Cond.constant RX9 67 (-1000001) ∈ wsX9_third := by decide +kernel
def P_Mod_third_b33 (o : Nat) (M : fw_M) : Option (Int32 × fw_M) := some ((-1000001 : Int32), M)
def P_Mod_third_b157 (o : Nat) (M : fw_M) (t0 : Int32) : Option (Int32 × fw_M) := some (t0, M)
def P_Mod_third_b141 (o : Nat) (K46 : fw_M → Int32 → Int32 → Int32 → Int32 → Int32 → Option (Int32 × fw_M)) (M : fw_M) (x1 : Int32) (x2 : Int32) (x3 : Int32) (x4 : Int32) (x5 : Int32) : Option (Int32 × fw_M) := K46 M x1 x2 x3 x4 (x5 + (1 : Int32))
def P_Mod_third_b139 (o : Nat) (K46 : fw_M → Int32 → Int32 → Int32 → Int32 → Int32 → Option (Int32 × fw_M)) (M : fw_M) (x1 : Int32) (x2 : Int32) (x3 : Int32) (x5 : Int32) (t0 : Int32) : Option (Int32 × fw_M) := P_Mod_third_b141 o K46 M x1 x2 x3 t0 x5
def P_Mod_third_b126 (o : Nat) (K46 : fw_M → Int32 → Int32 → Int32 → Int32 → Int32 → Option (Int32 × fw_M)) (M : fw_M) (x1 : Int32) (x2 : Int32) (x4 : Int32) (x5 : Int32) (x6 : Int32) (x7 : Int32) (t0 : Int32) : Option (Int32 × fw_M) := (if x7 = (0 : Int32) then P_Mod_third_b139 o K46 M x1 x2 t0 x5 x4 else P_Mod_third_b139 o K46 M x1 x2 t0 x5 x6)
def P_Mod_third_b113 (o : Nat) (K46 : fw_M → Int32 → Int32 → Int32 → Int32 → Int32 → Option (Int32 × fw_M)) (M : fw_M) (x1 : Int32) (x2 : Int32) (x3 : Int32) (x4 : Int32) (x5 : Int32) (x6 : Int32) (t0 : Int32) : Option (Int32 × fw_M) := (if t0 = (0 : Int32) then P_Mod_third_b126 o K46 M x1 x2 x4 x5 x6 t0 x3 else P_Mod_third_b126 o K46 M x1 x2 x4 x5 x6 t0 x5)
def P_Mod_third_b108 (o : Nat) (K46 : fw_M → Int32 → Int32 → Int32 → Int32 → Int32 → Option (Int32 × fw_M)) (M : fw_M) (x1 : Int32) (x2 : Int32) (x3 : Int32) (x4 : Int32) (x5 : Int32) (x6 : Int32) : Option (Int32 × fw_M) := P_Mod_third_b113 o K46 M x1 x2 x3 x4 x5 x6 (1 : Int32)
def P_Mod_third_b46 (o : Nat) (K46 : fw_M → Int32 → Int32 → Int32 → Int32 → Int32 → Option (Int32 × fw_M)) (M : fw_M) (x1 : Int32) (x2 : Int32) (x3 : Int32) (x4 : Int32) (x5 : Int32) : Option (Int32 × fw_M) := (fw_ald M (o + 4) 39 (2 : Int32)).bind fun v1 => (if v1 ≤ x5 then (if x2 = (0 : Int32) then P_Mod_third_b157 o M x3 else P_Mod_third_b157 o M x4) else (P_Mod_waits (o + 4) M x5 x1).bind fun v4 => (if v4 = (0 : Int32) then (P_Mod_layThen o M).bind fun q6 => (fw_ast q6 (o + 6) 39 (((4 : Int32) + ((5 : Int32) * x5)) + (3 : Int32)) x1).bind fun M7 => (P_Mod_leftAt o M7 x1).bind fun q8 => (if x3 = (-1000000 : Int32) then P_Mod_third_b108 o K46 q8.2 x1 x2 x3 x4 x5 q8.1 else (if x4 ≤ q8.1 then P_Mod_third_b113 o K46 q8.2 x1 x2 x3 x4 x5 q8.1 (0 : Int32) else P_Mod_third_b108 o K46 q8.2 x1 x2 x3 x4 x5 q8.1)) else P_Mod_third_b141 o K46 M x1 x2 x3 x4 x5))
def P_Mod_third_h46 (o : Nat) : Nat → fw_M → Int32 → Int32 → Int32 → Int32 → Int32 → Option (Int32 × fw_M)
  | 0, _, _, _, _, _, _ => none
  | n + 1, M, x1, x2, x3, x4, x5 => P_Mod_third_b46 o (P_Mod_third_h46 o n) M x1 x2 x3 x4 x5
def P_Mod_third_b0 (o : Nat) (M : fw_M) (x1 : Int32) (x2 : Int32) : Option (Int32 × fw_M) := fw_pl (fw_set M o 0 (0 : Int32)) fun M1 => (P_Mod_isThere o M1).bind fun v2 => (if v2 = (0 : Int32) then some ((-1000002 : Int32), M1) else (P_Mod_isDoor o M1 x1).bind fun v4 => (if v4 = (0 : Int32) then P_Mod_third_b33 o M1 else (P_Mod_in M1 (Int32.toInt64 x2) (0 : Int64) (1 : Int64)).bind fun v6 => (if v6 = (0 : Int32) then P_Mod_third_b33 o M1 else P_Mod_third_h46 o fw_fu M1 x1 x2 (-1000000 : Int32) (-1000000 : Int32) (0 : Int32))))
def P_Mod_third (o : Nat) (M : fw_M) (a0 : Int32) (a1 : Int32) : Option (Int32 × fw_M) := P_Mod_third_b0 o M a0 a1
set_option maxRecDepth 100000 in
theorem c_Mod_third_b33 {p : Program} {l : Launch} {e : Env} {s : State} {m : MethodId} {args : Array Value} {below : List Frame} {meth : Method} {c : Code} {D : va_G} {cI cZ cH cR : ClassId} {N : Nat} {ad : Nat → Nat} {EE : fw_M → Nat → va_E} {o : Nat} {M : fw_M} {z : (Int32 × fw_M)} (C : fw_C p s m args meth c cX9_third RX9 wsX9_third 8 (some .int) D vwCl (fw_tys cI cZ cH cR) N ad fw_nw0) (ho : o_Mod EE ad N cI cZ cH cR o) (h : P_Mod_third_b33 o M = some z) : fw_J p l e (headSpec wsX9_third rm_Mod_third).room s m args below meth c D vwCl N ad EE 8 0 0 (fw_E below args s D vwCl N ad EE (some (.int z.1)) z.2) M [] 33 [] := by
  unfold P_Mod_third_b33 at h
  refine fw_ldc (pc := 33) C (v := -1000001) kX9_third_67 dX9_third_33 ?_
  exact fw_iret (pc := 35) C (fw_p1 h) (fw_p2 h) dX9_third_35
set_option maxRecDepth 100000 in
theorem c_Mod_third_b157 {p : Program} {l : Launch} {e : Env} {s : State} {m : MethodId} {args : Array Value} {below : List Frame} {meth : Method} {c : Code} {D : va_G} {cI cZ cH cR : ClassId} {N : Nat} {ad : Nat → Nat} {EE : fw_M → Nat → va_E} {o : Nat} {M : fw_M} {t0 : Int32} {z : (Int32 × fw_M)} (C : fw_C p s m args meth c cX9_third RX9 wsX9_third 8 (some .int) D vwCl (fw_tys cI cZ cH cR) N ad fw_nw0) (ho : o_Mod EE ad N cI cZ cH cR o) (h : P_Mod_third_b157 o M t0 = some z) : fw_J p l e (headSpec wsX9_third rm_Mod_third).room s m args below meth c D vwCl N ad EE 8 0 0 (fw_E below args s D vwCl N ad EE (some (.int z.1)) z.2) M [] 157 [.int t0] := by
  unfold P_Mod_third_b157 at h
  exact fw_iret (pc := 157) C (fw_p1 h) (fw_p2 h) dX9_third_157
set_option maxRecDepth 100000 in
theorem c_Mod_third_b141 {p : Program} {l : Launch} {e : Env} {s : State} {m : MethodId} {args : Array Value} {below : List Frame} {meth : Method} {c : Code} {D : va_G} {cI cZ cH cR : ClassId} {N : Nat} {ad : Nat → Nat} {EE : fw_M → Nat → va_E} {o : Nat} {K46 : fw_M → Int32 → Int32 → Int32 → Int32 → Int32 → Option (Int32 × fw_M)} {M : fw_M} {x1 : Int32} {x2 : Int32} {x3 : Int32} {x4 : Int32} {x5 : Int32} {z : (Int32 × fw_M)} (C : fw_C p s m args meth c cX9_third RX9 wsX9_third 8 (some .int) D vwCl (fw_tys cI cZ cH cR) N ad fw_nw0) (ho : o_Mod EE ad N cI cZ cH cR o) (hK46 : ∀ (Mk : fw_M) (kx1 : Int32) (kx2 : Int32) (kx3 : Int32) (kx4 : Int32) (kx5 : Int32), K46 Mk kx1 kx2 kx3 kx4 kx5 = some z → fw_J p l e (headSpec wsX9_third rm_Mod_third).room s m args below meth c D vwCl N ad EE 8 0 0 (fw_E below args s D vwCl N ad EE (some (.int z.1)) z.2) Mk [(0, .ref (ad o)), (1, .int kx1), (2, .int kx2), (3, .int kx3), (4, .int kx4), (5, .int kx5)] 46 []) (h : P_Mod_third_b141 o K46 M x1 x2 x3 x4 x5 = some z) : fw_J p l e (headSpec wsX9_third rm_Mod_third).room s m args below meth c D vwCl N ad EE 8 0 0 (fw_E below args s D vwCl N ad EE (some (.int z.1)) z.2) M [(0, .ref (ad o)), (1, .int x1), (2, .int x2), (3, .int x3), (4, .int x4), (5, .int x5)] 141 [] := by
  unfold P_Mod_third_b141 at h
  refine fw_iinc (pc := 141) C (v := 1) (L2 := [(0, .ref _), (1, .int _), (2, .int _), (3, .int _), (4, .int _), (5, .int _)]) 5 [1, 2, 3, 4, 5, 0] dX9_third_141 rfl fk_iconst_1 (by decide) rfl ?_
  refine fw_goto (pc := 144) C (tgt := 46) dX9_third_144 (by decide) ?_
  exact (hK46 _ _ _ _ _ _ h)
set_option maxRecDepth 100000 in
theorem c_Mod_third_b139 {p : Program} {l : Launch} {e : Env} {s : State} {m : MethodId} {args : Array Value} {below : List Frame} {meth : Method} {c : Code} {D : va_G} {cI cZ cH cR : ClassId} {N : Nat} {ad : Nat → Nat} {EE : fw_M → Nat → va_E} {o : Nat} {K46 : fw_M → Int32 → Int32 → Int32 → Int32 → Int32 → Option (Int32 × fw_M)} {M : fw_M} {x1 : Int32} {x2 : Int32} {x3 : Int32} {x5 : Int32} {t0 : Int32} {z : (Int32 × fw_M)} (C : fw_C p s m args meth c cX9_third RX9 wsX9_third 8 (some .int) D vwCl (fw_tys cI cZ cH cR) N ad fw_nw0) (ho : o_Mod EE ad N cI cZ cH cR o) (hK46 : ∀ (Mk : fw_M) (kx1 : Int32) (kx2 : Int32) (kx3 : Int32) (kx4 : Int32) (kx5 : Int32), K46 Mk kx1 kx2 kx3 kx4 kx5 = some z → fw_J p l e (headSpec wsX9_third rm_Mod_third).room s m args below meth c D vwCl N ad EE 8 0 0 (fw_E below args s D vwCl N ad EE (some (.int z.1)) z.2) Mk [(0, .ref (ad o)), (1, .int kx1), (2, .int kx2), (3, .int kx3), (4, .int kx4), (5, .int kx5)] 46 []) (h : P_Mod_third_b139 o K46 M x1 x2 x3 x5 t0 = some z) : fw_J p l e (headSpec wsX9_third rm_Mod_third).room s m args below meth c D vwCl N ad EE 8 0 0 (fw_E below args s D vwCl N ad EE (some (.int z.1)) z.2) M [(0, .ref (ad o)), (1, .int x1), (2, .int x2), (3, .int x3), (5, .int x5)] 139 [.int t0] := by
  unfold P_Mod_third_b139 at h
  refine fw_istore (pc := 139) C (L2 := [(0, .ref _), (1, .int _), (2, .int _), (3, .int _), (4, .int _), (5, .int _)]) [1, 2, 3, 4, 0, 5] dX9_third_139 (by decide) rfl ?_
  exact (c_Mod_third_b141 C ho hK46 h)
set_option maxRecDepth 100000 in
theorem c_Mod_third_b126 {p : Program} {l : Launch} {e : Env} {s : State} {m : MethodId} {args : Array Value} {below : List Frame} {meth : Method} {c : Code} {D : va_G} {cI cZ cH cR : ClassId} {N : Nat} {ad : Nat → Nat} {EE : fw_M → Nat → va_E} {o : Nat} {K46 : fw_M → Int32 → Int32 → Int32 → Int32 → Int32 → Option (Int32 × fw_M)} {M : fw_M} {x1 : Int32} {x2 : Int32} {x4 : Int32} {x5 : Int32} {x6 : Int32} {x7 : Int32} {t0 : Int32} {z : (Int32 × fw_M)} (C : fw_C p s m args meth c cX9_third RX9 wsX9_third 8 (some .int) D vwCl (fw_tys cI cZ cH cR) N ad fw_nw0) (ho : o_Mod EE ad N cI cZ cH cR o) (hK46 : ∀ (Mk : fw_M) (kx1 : Int32) (kx2 : Int32) (kx3 : Int32) (kx4 : Int32) (kx5 : Int32), K46 Mk kx1 kx2 kx3 kx4 kx5 = some z → fw_J p l e (headSpec wsX9_third rm_Mod_third).room s m args below meth c D vwCl N ad EE 8 0 0 (fw_E below args s D vwCl N ad EE (some (.int z.1)) z.2) Mk [(0, .ref (ad o)), (1, .int kx1), (2, .int kx2), (3, .int kx3), (4, .int kx4), (5, .int kx5)] 46 []) (h : P_Mod_third_b126 o K46 M x1 x2 x4 x5 x6 x7 t0 = some z) : fw_J p l e (headSpec wsX9_third rm_Mod_third).room s m args below meth c D vwCl N ad EE 8 0 0 (fw_E below args s D vwCl N ad EE (some (.int z.1)) z.2) M [(0, .ref (ad o)), (1, .int x1), (2, .int x2), (4, .int x4), (5, .int x5), (6, .int x6), (7, .int x7)] 126 [.int t0] := by
  unfold P_Mod_third_b126 at h
  refine fw_istore_n (pc := 126) C (L2 := [(0, .ref _), (1, .int _), (2, .int _), (3, .int _), (4, .int _), (5, .int _), (6, .int _), (7, .int _)]) [1, 2, 3, 0, 4, 5, 6, 7] dX9_third_126 rfl (by decide) rfl ?_
  refine fw_iload (pc := 127) C 7 dX9_third_127 rfl ?_
  refine fw_if_eq (pc := 129) C (tgt := 137) dX9_third_129 (by decide) (fun c1 => ?_) (fun c1 => ?_)
  · have h := fw_ift h c1
    refine fw_iload (pc := 137) C 4 dX9_third_137 rfl ?_
    exact fw_sub [0, 1, 2, 3, 5] rfl (c_Mod_third_b139 C ho hK46 h)
  · have h := fw_iff h c1
    refine fw_iload (pc := 132) C 6 dX9_third_132 rfl ?_
    refine fw_goto (pc := 134) C (tgt := 139) dX9_third_134 (by decide) ?_
    exact fw_sub [0, 1, 2, 3, 5] rfl (c_Mod_third_b139 C ho hK46 h)
set_option maxRecDepth 100000 in
theorem c_Mod_third_b113 {p : Program} {l : Launch} {e : Env} {s : State} {m : MethodId} {args : Array Value} {below : List Frame} {meth : Method} {c : Code} {D : va_G} {cI cZ cH cR : ClassId} {N : Nat} {ad : Nat → Nat} {EE : fw_M → Nat → va_E} {o : Nat} {K46 : fw_M → Int32 → Int32 → Int32 → Int32 → Int32 → Option (Int32 × fw_M)} {M : fw_M} {x1 : Int32} {x2 : Int32} {x3 : Int32} {x4 : Int32} {x5 : Int32} {x6 : Int32} {t0 : Int32} {z : (Int32 × fw_M)} (C : fw_C p s m args meth c cX9_third RX9 wsX9_third 8 (some .int) D vwCl (fw_tys cI cZ cH cR) N ad fw_nw0) (ho : o_Mod EE ad N cI cZ cH cR o) (hK46 : ∀ (Mk : fw_M) (kx1 : Int32) (kx2 : Int32) (kx3 : Int32) (kx4 : Int32) (kx5 : Int32), K46 Mk kx1 kx2 kx3 kx4 kx5 = some z → fw_J p l e (headSpec wsX9_third rm_Mod_third).room s m args below meth c D vwCl N ad EE 8 0 0 (fw_E below args s D vwCl N ad EE (some (.int z.1)) z.2) Mk [(0, .ref (ad o)), (1, .int kx1), (2, .int kx2), (3, .int kx3), (4, .int kx4), (5, .int kx5)] 46 []) (h : P_Mod_third_b113 o K46 M x1 x2 x3 x4 x5 x6 t0 = some z) : fw_J p l e (headSpec wsX9_third rm_Mod_third).room s m args below meth c D vwCl N ad EE 8 0 0 (fw_E below args s D vwCl N ad EE (some (.int z.1)) z.2) M [(0, .ref (ad o)), (1, .int x1), (2, .int x2), (3, .int x3), (4, .int x4), (5, .int x5), (6, .int x6)] 113 [.int t0] := by
  unfold P_Mod_third_b113 at h
  refine fw_istore (pc := 113) C (L2 := [(0, .ref _), (1, .int _), (2, .int _), (3, .int _), (4, .int _), (5, .int _), (6, .int _), (7, .int _)]) [1, 2, 3, 4, 5, 6, 7, 0] dX9_third_113 (by decide) rfl ?_
  refine fw_iload (pc := 115) C 7 dX9_third_115 rfl ?_
  refine fw_if_eq (pc := 117) C (tgt := 125) dX9_third_117 (by decide) (fun c1 => ?_) (fun c1 => ?_)
  · have h := fw_ift h c1
    refine fw_iload_n (pc := 125) C 3 dX9_third_125 rfl rfl ?_
    exact fw_sub [0, 1, 2, 4, 5, 6, 7] rfl (c_Mod_third_b126 C ho hK46 h)
  · have h := fw_iff h c1
    refine fw_iload (pc := 120) C 5 dX9_third_120 rfl ?_
    refine fw_goto (pc := 122) C (tgt := 126) dX9_third_122 (by decide) ?_
    exact fw_sub [0, 1, 2, 4, 5, 6, 7] rfl (c_Mod_third_b126 C ho hK46 h)
set_option maxRecDepth 100000 in
theorem c_Mod_third_b108 {p : Program} {l : Launch} {e : Env} {s : State} {m : MethodId} {args : Array Value} {below : List Frame} {meth : Method} {c : Code} {D : va_G} {cI cZ cH cR : ClassId} {N : Nat} {ad : Nat → Nat} {EE : fw_M → Nat → va_E} {o : Nat} {K46 : fw_M → Int32 → Int32 → Int32 → Int32 → Int32 → Option (Int32 × fw_M)} {M : fw_M} {x1 : Int32} {x2 : Int32} {x3 : Int32} {x4 : Int32} {x5 : Int32} {x6 : Int32} {z : (Int32 × fw_M)} (C : fw_C p s m args meth c cX9_third RX9 wsX9_third 8 (some .int) D vwCl (fw_tys cI cZ cH cR) N ad fw_nw0) (ho : o_Mod EE ad N cI cZ cH cR o) (hK46 : ∀ (Mk : fw_M) (kx1 : Int32) (kx2 : Int32) (kx3 : Int32) (kx4 : Int32) (kx5 : Int32), K46 Mk kx1 kx2 kx3 kx4 kx5 = some z → fw_J p l e (headSpec wsX9_third rm_Mod_third).room s m args below meth c D vwCl N ad EE 8 0 0 (fw_E below args s D vwCl N ad EE (some (.int z.1)) z.2) Mk [(0, .ref (ad o)), (1, .int kx1), (2, .int kx2), (3, .int kx3), (4, .int kx4), (5, .int kx5)] 46 []) (h : P_Mod_third_b108 o K46 M x1 x2 x3 x4 x5 x6 = some z) : fw_J p l e (headSpec wsX9_third rm_Mod_third).room s m args below meth c D vwCl N ad EE 8 0 0 (fw_E below args s D vwCl N ad EE (some (.int z.1)) z.2) M [(0, .ref (ad o)), (1, .int x1), (2, .int x2), (3, .int x3), (4, .int x4), (5, .int x5), (6, .int x6)] 108 [] := by
  unfold P_Mod_third_b108 at h
  refine fw_iconst (pc := 108) C (v := 1) dX9_third_108 fk_iconst_1 ?_
  refine fw_goto (pc := 109) C (tgt := 113) dX9_third_109 (by decide) ?_
  exact (c_Mod_third_b113 C ho hK46 h)
set_option maxRecDepth 100000 in
theorem c_Mod_third_b46 {p : Program} {l : Launch} {e : Env} {s : State} {m : MethodId} {args : Array Value} {below : List Frame} {meth : Method} {c : Code} {D : va_G} {cI cZ cH cR : ClassId} {N : Nat} {ad : Nat → Nat} {EE : fw_M → Nat → va_E} {o : Nat} {K46 : fw_M → Int32 → Int32 → Int32 → Int32 → Int32 → Option (Int32 × fw_M)} {M : fw_M} {x1 : Int32} {x2 : Int32} {x3 : Int32} {x4 : Int32} {x5 : Int32} {z : (Int32 × fw_M)} (C : fw_C p s m args meth c cX9_third RX9 wsX9_third 8 (some .int) D vwCl (fw_tys cI cZ cH cR) N ad fw_nw0) (ho : o_Mod EE ad N cI cZ cH cR o) (hK46 : ∀ (Mk : fw_M) (kx1 : Int32) (kx2 : Int32) (kx3 : Int32) (kx4 : Int32) (kx5 : Int32), K46 Mk kx1 kx2 kx3 kx4 kx5 = some z → fw_J p l e (headSpec wsX9_third rm_Mod_third).room s m args below meth c D vwCl N ad EE 8 0 0 (fw_E below args s D vwCl N ad EE (some (.int z.1)) z.2) Mk [(0, .ref (ad o)), (1, .int kx1), (2, .int kx2), (3, .int kx3), (4, .int kx4), (5, .int kx5)] 46 []) (h : P_Mod_third_b46 o K46 M x1 x2 x3 x4 x5 = some z) : fw_J p l e (headSpec wsX9_third rm_Mod_third).room s m args below meth c D vwCl N ad EE 8 0 0 (fw_E below args s D vwCl N ad EE (some (.int z.1)) z.2) M [(0, .ref (ad o)), (1, .int x1), (2, .int x2), (3, .int x3), (4, .int x4), (5, .int x5)] 46 [] := by
  unfold P_Mod_third_b46 at h
  refine fw_iload (pc := 46) C 5 dX9_third_46 rfl ?_
  refine fw_aload_n (pc := 48) C 0 dX9_third_48 rfl rfl ?_
  refine fw_getr (pc := 49) C ho.2.2.2.2.2.2.1.1 rfl qX9_third_19 dX9_third_49 ?_
  refine fw_iconst (pc := 52) C (v := 2) dX9_third_52 fk_iconst_2 ?_
  obtain ⟨v1, hv1, h⟩ := fw_bind h
  refine fw_iald (pc := 53) C 0 ho.2.2.2.2.2.2.1.2 rfl hv1 dX9_third_53 ?_
  refine fw_icmp_ge (pc := 54) C (tgt := 147) dX9_third_54 (by decide) (fun c2 => ?_) (fun c2 => ?_)
  · have h := fw_ift h c2
    refine fw_iload_n (pc := 147) C 2 dX9_third_147 rfl rfl ?_
    refine fw_if_ne (pc := 148) C (tgt := 155) dX9_third_148 (by decide) (fun c3 => ?_) (fun c3 => ?_)
    · have h := fw_iff h c3
      refine fw_iload (pc := 155) C 4 dX9_third_155 rfl ?_
      exact fw_sub [] rfl (c_Mod_third_b157 C ho h)
    · have h := fw_ift h c3
      refine fw_iload_n (pc := 151) C 3 dX9_third_151 rfl rfl ?_
      refine fw_goto (pc := 152) C (tgt := 157) dX9_third_152 (by decide) ?_
      exact fw_sub [] rfl (c_Mod_third_b157 C ho h)
  · have h := fw_iff h c2
    refine fw_aload_n (pc := 57) C 0 dX9_third_57 rfl rfl ?_
    refine fw_getr (pc := 58) C ho.2.2.2.2.2.2.1.1 rfl qX9_third_19 dX9_third_58 ?_
    refine fw_iload (pc := 61) C 5 dX9_third_61 rfl ?_
    refine fw_iload_n (pc := 63) C 1 dX9_third_63 rfl rfl ?_
    obtain ⟨v4, hv4, h⟩ := fw_bind h
    refine fw_callS1 (pc := 64) C (rest := []) (c_Mod_waits ho.2.2.2.2.2.2.1.2 hv4) (va_cwS 3 C.2.2.2.2.1 gX9_third_X9_waits rfl rfl rfl hd_Mod_waits.2 ⟨Nat.le_of_ble_eq_true rfl, Nat.le_of_ble_eq_true rfl⟩) rfl ⟨Nat.zero_le _, Nat.zero_le _⟩ rfl (Nat.le_of_ble_eq_true rfl) dX9_third_64 ?_
    refine fw_if_ne (pc := 67) C (tgt := 141) dX9_third_67 (by decide) (fun c5 => ?_) (fun c5 => ?_)
    · have h := fw_iff h c5
      exact (c_Mod_third_b141 C ho hK46 h)
    · have h := fw_ift h c5
      refine fw_aload_n (pc := 70) C 0 dX9_third_70 rfl rfl ?_
      obtain ⟨q6, hq6, h⟩ := fw_bind h
      refine fw_callV0 (pc := 71) C (rest := []) (c_Mod_layThen ho hq6) (cwV 0 C.2.2.2.2.1 gX9_third_X9_layThen rfl rfl rfl hd_Mod_layThen ⟨Nat.le_of_ble_eq_true rfl, Nat.le_of_ble_eq_true rfl⟩) ho.1 rfl rfl ⟨Nat.zero_le _, Nat.zero_le _⟩ rfl (Nat.le_of_ble_eq_true rfl) dX9_third_71 ?_
      refine fw_aload_n (pc := 74) C 0 dX9_third_74 rfl rfl ?_
      refine fw_getr (pc := 75) C ho.2.2.2.2.2.2.2.2.1.1 rfl qX9_third_25 dX9_third_75 ?_
      refine fw_iconst (pc := 78) C (v := 4) dX9_third_78 fk_iconst_4 ?_
      refine fw_iconst (pc := 79) C (v := 5) dX9_third_79 fk_iconst_5 ?_
      refine fw_iload (pc := 80) C 5 dX9_third_80 rfl ?_
      refine fw_imul (pc := 82) C dX9_third_82 ?_
      refine fw_iadd (pc := 83) C dX9_third_83 ?_
      refine fw_iconst (pc := 84) C (v := 3) dX9_third_84 fk_iconst_3 ?_
      refine fw_iadd (pc := 85) C dX9_third_85 ?_
      refine fw_iload_n (pc := 86) C 1 dX9_third_86 rfl rfl ?_
      obtain ⟨M7, hM7, h⟩ := fw_bind h
      refine fw_iast (pc := 87) C 0 ho.2.2.2.2.2.2.2.2.1.2 rfl hM7 dX9_third_87 ?_
      refine fw_aload_n (pc := 88) C 0 dX9_third_88 rfl rfl ?_
      refine fw_iload_n (pc := 89) C 1 dX9_third_89 rfl rfl ?_
      obtain ⟨q8, hq8, h⟩ := fw_bind h
      refine fw_callV1 (pc := 90) C (rest := []) (c_Mod_leftAt ho hq8) (cwV 1 C.2.2.2.2.1 gX9_third_X9_leftAt rfl rfl rfl hd_Mod_leftAt ⟨Nat.le_of_ble_eq_true rfl, Nat.le_of_ble_eq_true rfl⟩) ho.1 rfl rfl ⟨Nat.zero_le _, Nat.zero_le _⟩ rfl (Nat.le_of_ble_eq_true rfl) dX9_third_90 ?_
      refine fw_istore (pc := 93) C (L2 := [(0, .ref _), (1, .int _), (2, .int _), (3, .int _), (4, .int _), (5, .int _), (6, .int _)]) [1, 2, 3, 4, 5, 6, 0] dX9_third_93 (by decide) rfl ?_
      refine fw_iload_n (pc := 95) C 3 dX9_third_95 rfl rfl ?_
      refine fw_ldc (pc := 96) C (v := -1000000) kX9_third_90 dX9_third_96 ?_
      refine fw_icmp_eq (pc := 98) C (tgt := 108) dX9_third_98 (by decide) (fun c9 => ?_) (fun c9 => ?_)
      · have h := fw_ift h c9
        exact (c_Mod_third_b108 C ho hK46 h)
      · have h := fw_iff h c9
        refine fw_iload (pc := 101) C 6 dX9_third_101 rfl ?_
        refine fw_iload (pc := 103) C 4 dX9_third_103 rfl ?_
        refine fw_icmp_ge (pc := 105) C (tgt := 112) dX9_third_105 (by decide) (fun c10 => ?_) (fun c10 => ?_)
        · have h := fw_ift h c10
          refine fw_iconst (pc := 112) C (v := 0) dX9_third_112 fk_iconst_0 ?_
          exact (c_Mod_third_b113 C ho hK46 h)
        · have h := fw_iff h c10
          exact (c_Mod_third_b108 C ho hK46 h)
theorem c_Mod_third_h46 {p : Program} {l : Launch} {e : Env} {s : State} {m : MethodId} {args : Array Value} {below : List Frame} {meth : Method} {c : Code} {D : va_G} {cI cZ cH cR : ClassId} {N : Nat} {ad : Nat → Nat} {EE : fw_M → Nat → va_E} {o : Nat} {z : (Int32 × fw_M)} (C : fw_C p s m args meth c cX9_third RX9 wsX9_third 8 (some .int) D vwCl (fw_tys cI cZ cH cR) N ad fw_nw0) (ho : o_Mod EE ad N cI cZ cH cR o) : ∀ (n : Nat) (M : fw_M) (x1 : Int32) (x2 : Int32) (x3 : Int32) (x4 : Int32) (x5 : Int32), P_Mod_third_h46 o n M x1 x2 x3 x4 x5 = some z → fw_J p l e (headSpec wsX9_third rm_Mod_third).room s m args below meth c D vwCl N ad EE 8 0 0 (fw_E below args s D vwCl N ad EE (some (.int z.1)) z.2) M [(0, .ref (ad o)), (1, .int x1), (2, .int x2), (3, .int x3), (4, .int x4), (5, .int x5)] 46 [] := by
  intro n
  induction n with
  | zero => intro M x1 x2 x3 x4 x5  h; cases h
  | succ n ih => intro M x1 x2 x3 x4 x5  h; exact c_Mod_third_b46 C ho ih  h
set_option maxRecDepth 100000 in
theorem c_Mod_third_b0 {p : Program} {l : Launch} {e : Env} {s : State} {m : MethodId} {args : Array Value} {below : List Frame} {meth : Method} {c : Code} {D : va_G} {cI cZ cH cR : ClassId} {N : Nat} {ad : Nat → Nat} {EE : fw_M → Nat → va_E} {o : Nat} {M : fw_M} {x1 : Int32} {x2 : Int32} {z : (Int32 × fw_M)} (C : fw_C p s m args meth c cX9_third RX9 wsX9_third 8 (some .int) D vwCl (fw_tys cI cZ cH cR) N ad fw_nw0) (ho : o_Mod EE ad N cI cZ cH cR o) (h : P_Mod_third_b0 o M x1 x2 = some z) : fw_J p l e (headSpec wsX9_third rm_Mod_third).room s m args below meth c D vwCl N ad EE 8 0 0 (fw_E below args s D vwCl N ad EE (some (.int z.1)) z.2) M [(0, .ref (ad o)), (1, .int x1), (2, .int x2)] 0 [] := by
  unfold P_Mod_third_b0 at h
  refine fw_aload_n (pc := 0) C 0 dX9_third_0 rfl rfl ?_
  refine fw_iconst (pc := 1) C (v := 0) dX9_third_1 fk_iconst_0 ?_
  have h := fw_plh h
  refine fw_puti (pc := 2) C ho.2.1 rfl qX9_third_47 tyX9 tyX9_ok nmX9 rfl rfl dX9_third_2 ?_
  refine fw_aload_n (pc := 5) C 0 dX9_third_5 rfl rfl ?_
  obtain ⟨v2, hv2, h⟩ := fw_bind h
  refine fw_callV1 (pc := 6) C (rest := []) (c_Mod_isThere ho hv2) (cwV 0 C.2.2.2.2.1 gX9_third_X9_isThere rfl rfl rfl hd_Mod_isThere ⟨Nat.le_of_ble_eq_true rfl, Nat.le_of_ble_eq_true rfl⟩) ho.1 rfl rfl ⟨Nat.zero_le _, Nat.zero_le _⟩ rfl (Nat.le_of_ble_eq_true rfl) dX9_third_6 ?_
  refine fw_if_ne (pc := 9) C (tgt := 15) dX9_third_9 (by decide) (fun c3 => ?_) (fun c3 => ?_)
  · have h := fw_iff h c3
    refine fw_aload_n (pc := 15) C 0 dX9_third_15 rfl rfl ?_
    refine fw_iload_n (pc := 16) C 1 dX9_third_16 rfl rfl ?_
    obtain ⟨v4, hv4, h⟩ := fw_bind h
    refine fw_callV1 (pc := 17) C (rest := []) (c_Mod_isDoor ho hv4) (cwV 1 C.2.2.2.2.1 gX9_third_X9_isDoor rfl rfl rfl hd_Mod_isDoor ⟨Nat.le_of_ble_eq_true rfl, Nat.le_of_ble_eq_true rfl⟩) ho.1 rfl rfl ⟨Nat.zero_le _, Nat.zero_le _⟩ rfl (Nat.le_of_ble_eq_true rfl) dX9_third_17 ?_
    refine fw_if_eq (pc := 20) C (tgt := 33) dX9_third_20 (by decide) (fun c5 => ?_) (fun c5 => ?_)
    · have h := fw_ift h c5
      exact fw_sub [] rfl (c_Mod_third_b33 C ho h)
    · have h := fw_iff h c5
      refine fw_iload_n (pc := 23) C 2 dX9_third_23 rfl rfl ?_
      refine fw_i2l (pc := 24) C dX9_third_24 ?_
      refine fw_lconst (pc := 25) C (v := 0) dX9_third_25 fk_lconst_0 ?_
      refine fw_lconst (pc := 26) C (v := 1) dX9_third_26 fk_lconst_1 ?_
      obtain ⟨v6, hv6, h⟩ := fw_bind h
      refine fw_callS1 (pc := 27) C (rest := []) (c_Mod_in  hv6) (va_cwS 3 C.2.2.2.2.1 gX9_third_X9_in rfl rfl rfl hd_Mod_in.2 ⟨Nat.le_of_ble_eq_true rfl, Nat.le_of_ble_eq_true rfl⟩) rfl ⟨Nat.zero_le _, Nat.zero_le _⟩ rfl (Nat.le_of_ble_eq_true rfl) dX9_third_27 ?_
      refine fw_if_ne (pc := 30) C (tgt := 36) dX9_third_30 (by decide) (fun c7 => ?_) (fun c7 => ?_)
      · have h := fw_iff h c7
        refine fw_ldc (pc := 36) C (v := -1000000) kX9_third_90 dX9_third_36 ?_
        refine fw_istore_n (pc := 38) C (L2 := [(0, .ref _), (1, .int _), (2, .int _), (3, .int _)]) [1, 2, 3, 0] dX9_third_38 rfl (by decide) rfl ?_
        refine fw_ldc (pc := 39) C (v := -1000000) kX9_third_90 dX9_third_39 ?_
        refine fw_istore (pc := 41) C (L2 := [(0, .ref _), (1, .int _), (2, .int _), (3, .int _), (4, .int _)]) [1, 2, 3, 4, 0] dX9_third_41 (by decide) rfl ?_
        refine fw_iconst (pc := 43) C (v := 0) dX9_third_43 fk_iconst_0 ?_
        refine fw_istore (pc := 44) C (L2 := [(0, .ref _), (1, .int _), (2, .int _), (3, .int _), (4, .int _), (5, .int _)]) [1, 2, 3, 4, 5, 0] dX9_third_44 (by decide) rfl ?_
        exact (c_Mod_third_h46 C ho _ _ _ _ _ _ _ h)
      · have h := fw_ift h c7
        exact fw_sub [] rfl (c_Mod_third_b33 C ho h)
  · have h := fw_ift h c3
    refine fw_ldc (pc := 12) C (v := -1000002) kX9_third_187 dX9_third_12 ?_
    exact fw_iret (pc := 14) C (fw_p1 h) (fw_p2 h) dX9_third_14
theorem c_Mod_third {l : Launch} {D : va_G} {cI cZ cH cR : ClassId} {N : Nat} {ad : Nat → Nat} {EE : fw_M → Nat → va_E} {o : Nat} {M : fw_M} {a0 : Int32} {a1 : Int32} {z : (Int32 × fw_M)} (ho : o_Mod EE ad N cI cZ cH cR o) (h : P_Mod_third o M a0 a1 = some z) : fw_Met l yX9_third wsX9_third rm_Mod_third D vwCl (fw_tys cI cZ cH cR) N ad fw_nw0 EE [.ref (ad o), .int a0, .int a1] M (some (.int z.1)) z.2 := by
  unfold P_Mod_third at h
  exact fw_intro (cc := cX9_third) (maxL := 8) (ret := some .int) (own := RX9) (by decide) rfl rfl (Nat.le_of_ble_eq_true rfl) (fun p e s m args below meth c C => fw_sub [0, 1, 2] rfl (c_Mod_third_b0 C ho h))
abbrev rm_Mod_bestDoor : Room := { frames := 7, cells := 0, slots := 0, locals := 159 }
theorem hd_Mod_bestDoor : yX9_bestDoor.cls = RX9 ∧ yX9_bestDoor.cls ≠ "java/lang/invoke/MethodHandle" ∧ yX9_bestDoor.cls ≠ "java/lang/invoke/VarHandle" ∧ (parseMethodDescriptor yX9_bestDoor.desc).map (fun d => d.parameters.length) = some 2 := by decide +kernel
theorem qX9_bestDoor_47 : fw_G wsX9_bestDoor RX9 47 RX9 TX9 24 0 := ⟨by decide +kernel, by decide +kernel, by decide⟩
theorem qX9_bestDoor_19 : fw_G wsX9_bestDoor RX9 19 RX9 TX9 24 5 := ⟨by decide +kernel, by decide +kernel, by decide⟩
theorem kX9_bestDoor_187 : Cond.constant RX9 187 (-1000002) ∈ wsX9_bestDoor := by decide +kernel
theorem kX9_bestDoor_90 : Cond.constant RX9 90 (-1000000) ∈ wsX9_bestDoor := by decide +kernel
theorem qX9_bestDoor_25 : fw_G wsX9_bestDoor RX9 25 RX9 TX9 24 7 := ⟨by decide +kernel, by decide +kernel, by decide⟩
theorem kX9_bestDoor_67 : Cond.constant RX9 67 (-1000001) ∈ wsX9_bestDoor := by decide +kernel
def P_Mod_bestDoor_b23 (o : Nat) (M : fw_M) : Option (Int32 × fw_M) := some ((-1000001 : Int32), M)
def P_Mod_bestDoor_b156 (o : Nat) (M : fw_M) (t0 : Int32) : Option (Int32 × fw_M) := some (t0, M)
def P_Mod_bestDoor_b138 (o : Nat) (K51 : fw_M → Int32 → Int32 → Int32 → Int32 → Int32 → Option (Int32 × fw_M)) (M : fw_M) (x1 : Int32) (x2 : Int32) (x3 : Int32) (x5 : Int32) (t0 : Int32) : Option (Int32 × fw_M) := K51 M x1 x2 x3 t0 (x5 + (1 : Int32))
def P_Mod_bestDoor_b125 (o : Nat) (K51 : fw_M → Int32 → Int32 → Int32 → Int32 → Int32 → Option (Int32 × fw_M)) (M : fw_M) (x1 : Int32) (x2 : Int32) (x4 : Int32) (x5 : Int32) (x6 : Int32) (x7 : Int32) (t0 : Int32) : Option (Int32 × fw_M) := (if x7 = (0 : Int32) then P_Mod_bestDoor_b138 o K51 M x1 x2 t0 x5 x4 else P_Mod_bestDoor_b138 o K51 M x1 x2 t0 x5 x6)
def P_Mod_bestDoor_b112 (o : Nat) (K51 : fw_M → Int32 → Int32 → Int32 → Int32 → Int32 → Option (Int32 × fw_M)) (M : fw_M) (x1 : Int32) (x2 : Int32) (x3 : Int32) (x4 : Int32) (x5 : Int32) (x6 : Int32) (t0 : Int32) : Option (Int32 × fw_M) := (if t0 = (0 : Int32) then P_Mod_bestDoor_b125 o K51 M x1 x2 x4 x5 x6 t0 x3 else P_Mod_bestDoor_b125 o K51 M x1 x2 x4 x5 x6 t0 x5)
def P_Mod_bestDoor_b111 (o : Nat) (K51 : fw_M → Int32 → Int32 → Int32 → Int32 → Int32 → Option (Int32 × fw_M)) (M : fw_M) (x1 : Int32) (x2 : Int32) (x3 : Int32) (x4 : Int32) (x5 : Int32) (x6 : Int32) : Option (Int32 × fw_M) := P_Mod_bestDoor_b112 o K51 M x1 x2 x3 x4 x5 x6 (0 : Int32)
def P_Mod_bestDoor_b107 (o : Nat) (K51 : fw_M → Int32 → Int32 → Int32 → Int32 → Int32 → Option (Int32 × fw_M)) (M : fw_M) (x1 : Int32) (x2 : Int32) (x3 : Int32) (x4 : Int32) (x5 : Int32) (x6 : Int32) : Option (Int32 × fw_M) := P_Mod_bestDoor_b112 o K51 M x1 x2 x3 x4 x5 x6 (1 : Int32)
def P_Mod_bestDoor_b51 (o : Nat) (K51 : fw_M → Int32 → Int32 → Int32 → Int32 → Int32 → Option (Int32 × fw_M)) (M : fw_M) (x1 : Int32) (x2 : Int32) (x3 : Int32) (x4 : Int32) (x5 : Int32) : Option (Int32 × fw_M) := (fw_ald M (o + 4) 39 (0 : Int32)).bind fun v1 => (if v1 ≤ x5 then (if x2 = (0 : Int32) then P_Mod_bestDoor_b156 o M x3 else P_Mod_bestDoor_b156 o M x4) else (P_Mod_layThen o M).bind fun q4 => (fw_ast q4 (o + 6) 39 (((4 : Int32) + ((5 : Int32) * x1)) + (3 : Int32)) x5).bind fun M5 => (P_Mod_throughBy o M5 x1).bind fun q6 => (if q6.1 = (-1000000 : Int32) then P_Mod_bestDoor_b111 o K51 q6.2 x1 x2 x3 x4 x5 q6.1 else (if x3 = (-1000000 : Int32) then P_Mod_bestDoor_b107 o K51 q6.2 x1 x2 x3 x4 x5 q6.1 else (if x4 ≤ q6.1 then P_Mod_bestDoor_b111 o K51 q6.2 x1 x2 x3 x4 x5 q6.1 else P_Mod_bestDoor_b107 o K51 q6.2 x1 x2 x3 x4 x5 q6.1))))
def P_Mod_bestDoor_h51 (o : Nat) : Nat → fw_M → Int32 → Int32 → Int32 → Int32 → Int32 → Option (Int32 × fw_M)
  | 0, _, _, _, _, _, _ => none
  | n + 1, M, x1, x2, x3, x4, x5 => P_Mod_bestDoor_b51 o (P_Mod_bestDoor_h51 o n) M x1 x2 x3 x4 x5
def P_Mod_bestDoor_b0 (o : Nat) (M : fw_M) (x1 : Int32) (x2 : Int32) : Option (Int32 × fw_M) := fw_pl (fw_set M o 0 (0 : Int32)) fun M1 => (P_Mod_isPerson o M1 x1).bind fun v2 => (if v2 = (0 : Int32) then P_Mod_bestDoor_b23 o M1 else (P_Mod_in M1 (Int32.toInt64 x2) (0 : Int64) (1 : Int64)).bind fun v4 => (if v4 = (0 : Int32) then P_Mod_bestDoor_b23 o M1 else (P_Mod_of (o + 4) M1 x1 (3 : Int32)).bind fun v6 => (if (0 : Int32) ≤ v6 then P_Mod_bestDoor_h51 o fw_fu M1 x1 x2 (-1000000 : Int32) (-1000000 : Int32) (0 : Int32) else some ((-1000002 : Int32), M1))))
def P_Mod_bestDoor (o : Nat) (M : fw_M) (a0 : Int32) (a1 : Int32) : Option (Int32 × fw_M) := P_Mod_bestDoor_b0 o M a0 a1
set_option maxRecDepth 100000 in
theorem c_Mod_bestDoor_b23 {p : Program} {l : Launch} {e : Env} {s : State} {m : MethodId} {args : Array Value} {below : List Frame} {meth : Method} {c : Code} {D : va_G} {cI cZ cH cR : ClassId} {N : Nat} {ad : Nat → Nat} {EE : fw_M → Nat → va_E} {o : Nat} {M : fw_M} {z : (Int32 × fw_M)} (C : fw_C p s m args meth c cX9_bestDoor RX9 wsX9_bestDoor 8 (some .int) D vwCl (fw_tys cI cZ cH cR) N ad fw_nw0) (ho : o_Mod EE ad N cI cZ cH cR o) (h : P_Mod_bestDoor_b23 o M = some z) : fw_J p l e (headSpec wsX9_bestDoor rm_Mod_bestDoor).room s m args below meth c D vwCl N ad EE 8 0 0 (fw_E below args s D vwCl N ad EE (some (.int z.1)) z.2) M [] 23 [] := by
  unfold P_Mod_bestDoor_b23 at h
  refine fw_ldc (pc := 23) C (v := -1000001) kX9_bestDoor_67 dX9_bestDoor_23 ?_
  exact fw_iret (pc := 25) C (fw_p1 h) (fw_p2 h) dX9_bestDoor_25
set_option maxRecDepth 100000 in
theorem c_Mod_bestDoor_b156 {p : Program} {l : Launch} {e : Env} {s : State} {m : MethodId} {args : Array Value} {below : List Frame} {meth : Method} {c : Code} {D : va_G} {cI cZ cH cR : ClassId} {N : Nat} {ad : Nat → Nat} {EE : fw_M → Nat → va_E} {o : Nat} {M : fw_M} {t0 : Int32} {z : (Int32 × fw_M)} (C : fw_C p s m args meth c cX9_bestDoor RX9 wsX9_bestDoor 8 (some .int) D vwCl (fw_tys cI cZ cH cR) N ad fw_nw0) (ho : o_Mod EE ad N cI cZ cH cR o) (h : P_Mod_bestDoor_b156 o M t0 = some z) : fw_J p l e (headSpec wsX9_bestDoor rm_Mod_bestDoor).room s m args below meth c D vwCl N ad EE 8 0 0 (fw_E below args s D vwCl N ad EE (some (.int z.1)) z.2) M [] 156 [.int t0] := by
  unfold P_Mod_bestDoor_b156 at h
  exact fw_iret (pc := 156) C (fw_p1 h) (fw_p2 h) dX9_bestDoor_156
set_option maxRecDepth 100000 in
theorem c_Mod_bestDoor_b138 {p : Program} {l : Launch} {e : Env} {s : State} {m : MethodId} {args : Array Value} {below : List Frame} {meth : Method} {c : Code} {D : va_G} {cI cZ cH cR : ClassId} {N : Nat} {ad : Nat → Nat} {EE : fw_M → Nat → va_E} {o : Nat} {K51 : fw_M → Int32 → Int32 → Int32 → Int32 → Int32 → Option (Int32 × fw_M)} {M : fw_M} {x1 : Int32} {x2 : Int32} {x3 : Int32} {x5 : Int32} {t0 : Int32} {z : (Int32 × fw_M)} (C : fw_C p s m args meth c cX9_bestDoor RX9 wsX9_bestDoor 8 (some .int) D vwCl (fw_tys cI cZ cH cR) N ad fw_nw0) (ho : o_Mod EE ad N cI cZ cH cR o) (hK51 : ∀ (Mk : fw_M) (kx1 : Int32) (kx2 : Int32) (kx3 : Int32) (kx4 : Int32) (kx5 : Int32), K51 Mk kx1 kx2 kx3 kx4 kx5 = some z → fw_J p l e (headSpec wsX9_bestDoor rm_Mod_bestDoor).room s m args below meth c D vwCl N ad EE 8 0 0 (fw_E below args s D vwCl N ad EE (some (.int z.1)) z.2) Mk [(0, .ref (ad o)), (1, .int kx1), (2, .int kx2), (3, .int kx3), (4, .int kx4), (5, .int kx5)] 51 []) (h : P_Mod_bestDoor_b138 o K51 M x1 x2 x3 x5 t0 = some z) : fw_J p l e (headSpec wsX9_bestDoor rm_Mod_bestDoor).room s m args below meth c D vwCl N ad EE 8 0 0 (fw_E below args s D vwCl N ad EE (some (.int z.1)) z.2) M [(0, .ref (ad o)), (1, .int x1), (2, .int x2), (3, .int x3), (5, .int x5)] 138 [.int t0] := by
  unfold P_Mod_bestDoor_b138 at h
  refine fw_istore (pc := 138) C (L2 := [(0, .ref _), (1, .int _), (2, .int _), (3, .int _), (4, .int _), (5, .int _)]) [1, 2, 3, 4, 0, 5] dX9_bestDoor_138 (by decide) rfl ?_
  refine fw_iinc (pc := 140) C (v := 1) (L2 := [(0, .ref _), (1, .int _), (2, .int _), (3, .int _), (4, .int _), (5, .int _)]) 5 [1, 2, 3, 4, 5, 0] dX9_bestDoor_140 rfl fk_iconst_1 (by decide) rfl ?_
  refine fw_goto (pc := 143) C (tgt := 51) dX9_bestDoor_143 (by decide) ?_
  exact (hK51 _ _ _ _ _ _ h)
set_option maxRecDepth 100000 in
theorem c_Mod_bestDoor_b125 {p : Program} {l : Launch} {e : Env} {s : State} {m : MethodId} {args : Array Value} {below : List Frame} {meth : Method} {c : Code} {D : va_G} {cI cZ cH cR : ClassId} {N : Nat} {ad : Nat → Nat} {EE : fw_M → Nat → va_E} {o : Nat} {K51 : fw_M → Int32 → Int32 → Int32 → Int32 → Int32 → Option (Int32 × fw_M)} {M : fw_M} {x1 : Int32} {x2 : Int32} {x4 : Int32} {x5 : Int32} {x6 : Int32} {x7 : Int32} {t0 : Int32} {z : (Int32 × fw_M)} (C : fw_C p s m args meth c cX9_bestDoor RX9 wsX9_bestDoor 8 (some .int) D vwCl (fw_tys cI cZ cH cR) N ad fw_nw0) (ho : o_Mod EE ad N cI cZ cH cR o) (hK51 : ∀ (Mk : fw_M) (kx1 : Int32) (kx2 : Int32) (kx3 : Int32) (kx4 : Int32) (kx5 : Int32), K51 Mk kx1 kx2 kx3 kx4 kx5 = some z → fw_J p l e (headSpec wsX9_bestDoor rm_Mod_bestDoor).room s m args below meth c D vwCl N ad EE 8 0 0 (fw_E below args s D vwCl N ad EE (some (.int z.1)) z.2) Mk [(0, .ref (ad o)), (1, .int kx1), (2, .int kx2), (3, .int kx3), (4, .int kx4), (5, .int kx5)] 51 []) (h : P_Mod_bestDoor_b125 o K51 M x1 x2 x4 x5 x6 x7 t0 = some z) : fw_J p l e (headSpec wsX9_bestDoor rm_Mod_bestDoor).room s m args below meth c D vwCl N ad EE 8 0 0 (fw_E below args s D vwCl N ad EE (some (.int z.1)) z.2) M [(0, .ref (ad o)), (1, .int x1), (2, .int x2), (4, .int x4), (5, .int x5), (6, .int x6), (7, .int x7)] 125 [.int t0] := by
  unfold P_Mod_bestDoor_b125 at h
  refine fw_istore_n (pc := 125) C (L2 := [(0, .ref _), (1, .int _), (2, .int _), (3, .int _), (4, .int _), (5, .int _), (6, .int _), (7, .int _)]) [1, 2, 3, 0, 4, 5, 6, 7] dX9_bestDoor_125 rfl (by decide) rfl ?_
  refine fw_iload (pc := 126) C 7 dX9_bestDoor_126 rfl ?_
  refine fw_if_eq (pc := 128) C (tgt := 136) dX9_bestDoor_128 (by decide) (fun c1 => ?_) (fun c1 => ?_)
  · have h := fw_ift h c1
    refine fw_iload (pc := 136) C 4 dX9_bestDoor_136 rfl ?_
    exact fw_sub [0, 1, 2, 3, 5] rfl (c_Mod_bestDoor_b138 C ho hK51 h)
  · have h := fw_iff h c1
    refine fw_iload (pc := 131) C 6 dX9_bestDoor_131 rfl ?_
    refine fw_goto (pc := 133) C (tgt := 138) dX9_bestDoor_133 (by decide) ?_
    exact fw_sub [0, 1, 2, 3, 5] rfl (c_Mod_bestDoor_b138 C ho hK51 h)
set_option maxRecDepth 100000 in
theorem c_Mod_bestDoor_b112 {p : Program} {l : Launch} {e : Env} {s : State} {m : MethodId} {args : Array Value} {below : List Frame} {meth : Method} {c : Code} {D : va_G} {cI cZ cH cR : ClassId} {N : Nat} {ad : Nat → Nat} {EE : fw_M → Nat → va_E} {o : Nat} {K51 : fw_M → Int32 → Int32 → Int32 → Int32 → Int32 → Option (Int32 × fw_M)} {M : fw_M} {x1 : Int32} {x2 : Int32} {x3 : Int32} {x4 : Int32} {x5 : Int32} {x6 : Int32} {t0 : Int32} {z : (Int32 × fw_M)} (C : fw_C p s m args meth c cX9_bestDoor RX9 wsX9_bestDoor 8 (some .int) D vwCl (fw_tys cI cZ cH cR) N ad fw_nw0) (ho : o_Mod EE ad N cI cZ cH cR o) (hK51 : ∀ (Mk : fw_M) (kx1 : Int32) (kx2 : Int32) (kx3 : Int32) (kx4 : Int32) (kx5 : Int32), K51 Mk kx1 kx2 kx3 kx4 kx5 = some z → fw_J p l e (headSpec wsX9_bestDoor rm_Mod_bestDoor).room s m args below meth c D vwCl N ad EE 8 0 0 (fw_E below args s D vwCl N ad EE (some (.int z.1)) z.2) Mk [(0, .ref (ad o)), (1, .int kx1), (2, .int kx2), (3, .int kx3), (4, .int kx4), (5, .int kx5)] 51 []) (h : P_Mod_bestDoor_b112 o K51 M x1 x2 x3 x4 x5 x6 t0 = some z) : fw_J p l e (headSpec wsX9_bestDoor rm_Mod_bestDoor).room s m args below meth c D vwCl N ad EE 8 0 0 (fw_E below args s D vwCl N ad EE (some (.int z.1)) z.2) M [(0, .ref (ad o)), (1, .int x1), (2, .int x2), (3, .int x3), (4, .int x4), (5, .int x5), (6, .int x6)] 112 [.int t0] := by
  unfold P_Mod_bestDoor_b112 at h
  refine fw_istore (pc := 112) C (L2 := [(0, .ref _), (1, .int _), (2, .int _), (3, .int _), (4, .int _), (5, .int _), (6, .int _), (7, .int _)]) [1, 2, 3, 4, 5, 6, 7, 0] dX9_bestDoor_112 (by decide) rfl ?_
  refine fw_iload (pc := 114) C 7 dX9_bestDoor_114 rfl ?_
  refine fw_if_eq (pc := 116) C (tgt := 124) dX9_bestDoor_116 (by decide) (fun c1 => ?_) (fun c1 => ?_)
  · have h := fw_ift h c1
    refine fw_iload_n (pc := 124) C 3 dX9_bestDoor_124 rfl rfl ?_
    exact fw_sub [0, 1, 2, 4, 5, 6, 7] rfl (c_Mod_bestDoor_b125 C ho hK51 h)
  · have h := fw_iff h c1
    refine fw_iload (pc := 119) C 5 dX9_bestDoor_119 rfl ?_
    refine fw_goto (pc := 121) C (tgt := 125) dX9_bestDoor_121 (by decide) ?_
    exact fw_sub [0, 1, 2, 4, 5, 6, 7] rfl (c_Mod_bestDoor_b125 C ho hK51 h)
set_option maxRecDepth 100000 in
theorem c_Mod_bestDoor_b111 {p : Program} {l : Launch} {e : Env} {s : State} {m : MethodId} {args : Array Value} {below : List Frame} {meth : Method} {c : Code} {D : va_G} {cI cZ cH cR : ClassId} {N : Nat} {ad : Nat → Nat} {EE : fw_M → Nat → va_E} {o : Nat} {K51 : fw_M → Int32 → Int32 → Int32 → Int32 → Int32 → Option (Int32 × fw_M)} {M : fw_M} {x1 : Int32} {x2 : Int32} {x3 : Int32} {x4 : Int32} {x5 : Int32} {x6 : Int32} {z : (Int32 × fw_M)} (C : fw_C p s m args meth c cX9_bestDoor RX9 wsX9_bestDoor 8 (some .int) D vwCl (fw_tys cI cZ cH cR) N ad fw_nw0) (ho : o_Mod EE ad N cI cZ cH cR o) (hK51 : ∀ (Mk : fw_M) (kx1 : Int32) (kx2 : Int32) (kx3 : Int32) (kx4 : Int32) (kx5 : Int32), K51 Mk kx1 kx2 kx3 kx4 kx5 = some z → fw_J p l e (headSpec wsX9_bestDoor rm_Mod_bestDoor).room s m args below meth c D vwCl N ad EE 8 0 0 (fw_E below args s D vwCl N ad EE (some (.int z.1)) z.2) Mk [(0, .ref (ad o)), (1, .int kx1), (2, .int kx2), (3, .int kx3), (4, .int kx4), (5, .int kx5)] 51 []) (h : P_Mod_bestDoor_b111 o K51 M x1 x2 x3 x4 x5 x6 = some z) : fw_J p l e (headSpec wsX9_bestDoor rm_Mod_bestDoor).room s m args below meth c D vwCl N ad EE 8 0 0 (fw_E below args s D vwCl N ad EE (some (.int z.1)) z.2) M [(0, .ref (ad o)), (1, .int x1), (2, .int x2), (3, .int x3), (4, .int x4), (5, .int x5), (6, .int x6)] 111 [] := by
  unfold P_Mod_bestDoor_b111 at h
  refine fw_iconst (pc := 111) C (v := 0) dX9_bestDoor_111 fk_iconst_0 ?_
  exact (c_Mod_bestDoor_b112 C ho hK51 h)
set_option maxRecDepth 100000 in
theorem c_Mod_bestDoor_b107 {p : Program} {l : Launch} {e : Env} {s : State} {m : MethodId} {args : Array Value} {below : List Frame} {meth : Method} {c : Code} {D : va_G} {cI cZ cH cR : ClassId} {N : Nat} {ad : Nat → Nat} {EE : fw_M → Nat → va_E} {o : Nat} {K51 : fw_M → Int32 → Int32 → Int32 → Int32 → Int32 → Option (Int32 × fw_M)} {M : fw_M} {x1 : Int32} {x2 : Int32} {x3 : Int32} {x4 : Int32} {x5 : Int32} {x6 : Int32} {z : (Int32 × fw_M)} (C : fw_C p s m args meth c cX9_bestDoor RX9 wsX9_bestDoor 8 (some .int) D vwCl (fw_tys cI cZ cH cR) N ad fw_nw0) (ho : o_Mod EE ad N cI cZ cH cR o) (hK51 : ∀ (Mk : fw_M) (kx1 : Int32) (kx2 : Int32) (kx3 : Int32) (kx4 : Int32) (kx5 : Int32), K51 Mk kx1 kx2 kx3 kx4 kx5 = some z → fw_J p l e (headSpec wsX9_bestDoor rm_Mod_bestDoor).room s m args below meth c D vwCl N ad EE 8 0 0 (fw_E below args s D vwCl N ad EE (some (.int z.1)) z.2) Mk [(0, .ref (ad o)), (1, .int kx1), (2, .int kx2), (3, .int kx3), (4, .int kx4), (5, .int kx5)] 51 []) (h : P_Mod_bestDoor_b107 o K51 M x1 x2 x3 x4 x5 x6 = some z) : fw_J p l e (headSpec wsX9_bestDoor rm_Mod_bestDoor).room s m args below meth c D vwCl N ad EE 8 0 0 (fw_E below args s D vwCl N ad EE (some (.int z.1)) z.2) M [(0, .ref (ad o)), (1, .int x1), (2, .int x2), (3, .int x3), (4, .int x4), (5, .int x5), (6, .int x6)] 107 [] := by
  unfold P_Mod_bestDoor_b107 at h
  refine fw_iconst (pc := 107) C (v := 1) dX9_bestDoor_107 fk_iconst_1 ?_
  refine fw_goto (pc := 108) C (tgt := 112) dX9_bestDoor_108 (by decide) ?_
  exact (c_Mod_bestDoor_b112 C ho hK51 h)
set_option maxRecDepth 100000 in
theorem c_Mod_bestDoor_b51 {p : Program} {l : Launch} {e : Env} {s : State} {m : MethodId} {args : Array Value} {below : List Frame} {meth : Method} {c : Code} {D : va_G} {cI cZ cH cR : ClassId} {N : Nat} {ad : Nat → Nat} {EE : fw_M → Nat → va_E} {o : Nat} {K51 : fw_M → Int32 → Int32 → Int32 → Int32 → Int32 → Option (Int32 × fw_M)} {M : fw_M} {x1 : Int32} {x2 : Int32} {x3 : Int32} {x4 : Int32} {x5 : Int32} {z : (Int32 × fw_M)} (C : fw_C p s m args meth c cX9_bestDoor RX9 wsX9_bestDoor 8 (some .int) D vwCl (fw_tys cI cZ cH cR) N ad fw_nw0) (ho : o_Mod EE ad N cI cZ cH cR o) (hK51 : ∀ (Mk : fw_M) (kx1 : Int32) (kx2 : Int32) (kx3 : Int32) (kx4 : Int32) (kx5 : Int32), K51 Mk kx1 kx2 kx3 kx4 kx5 = some z → fw_J p l e (headSpec wsX9_bestDoor rm_Mod_bestDoor).room s m args below meth c D vwCl N ad EE 8 0 0 (fw_E below args s D vwCl N ad EE (some (.int z.1)) z.2) Mk [(0, .ref (ad o)), (1, .int kx1), (2, .int kx2), (3, .int kx3), (4, .int kx4), (5, .int kx5)] 51 []) (h : P_Mod_bestDoor_b51 o K51 M x1 x2 x3 x4 x5 = some z) : fw_J p l e (headSpec wsX9_bestDoor rm_Mod_bestDoor).room s m args below meth c D vwCl N ad EE 8 0 0 (fw_E below args s D vwCl N ad EE (some (.int z.1)) z.2) M [(0, .ref (ad o)), (1, .int x1), (2, .int x2), (3, .int x3), (4, .int x4), (5, .int x5)] 51 [] := by
  unfold P_Mod_bestDoor_b51 at h
  refine fw_iload (pc := 51) C 5 dX9_bestDoor_51 rfl ?_
  refine fw_aload_n (pc := 53) C 0 dX9_bestDoor_53 rfl rfl ?_
  refine fw_getr (pc := 54) C ho.2.2.2.2.2.2.1.1 rfl qX9_bestDoor_19 dX9_bestDoor_54 ?_
  refine fw_iconst (pc := 57) C (v := 0) dX9_bestDoor_57 fk_iconst_0 ?_
  obtain ⟨v1, hv1, h⟩ := fw_bind h
  refine fw_iald (pc := 58) C 0 ho.2.2.2.2.2.2.1.2 rfl hv1 dX9_bestDoor_58 ?_
  refine fw_icmp_ge (pc := 59) C (tgt := 146) dX9_bestDoor_59 (by decide) (fun c2 => ?_) (fun c2 => ?_)
  · have h := fw_ift h c2
    refine fw_iload_n (pc := 146) C 2 dX9_bestDoor_146 rfl rfl ?_
    refine fw_if_ne (pc := 147) C (tgt := 154) dX9_bestDoor_147 (by decide) (fun c3 => ?_) (fun c3 => ?_)
    · have h := fw_iff h c3
      refine fw_iload (pc := 154) C 4 dX9_bestDoor_154 rfl ?_
      exact fw_sub [] rfl (c_Mod_bestDoor_b156 C ho h)
    · have h := fw_ift h c3
      refine fw_iload_n (pc := 150) C 3 dX9_bestDoor_150 rfl rfl ?_
      refine fw_goto (pc := 151) C (tgt := 156) dX9_bestDoor_151 (by decide) ?_
      exact fw_sub [] rfl (c_Mod_bestDoor_b156 C ho h)
  · have h := fw_iff h c2
    refine fw_aload_n (pc := 62) C 0 dX9_bestDoor_62 rfl rfl ?_
    obtain ⟨q4, hq4, h⟩ := fw_bind h
    refine fw_callV0 (pc := 63) C (rest := []) (c_Mod_layThen ho hq4) (cwV 0 C.2.2.2.2.1 gX9_bestDoor_X9_layThen rfl rfl rfl hd_Mod_layThen ⟨Nat.le_of_ble_eq_true rfl, Nat.le_of_ble_eq_true rfl⟩) ho.1 rfl rfl ⟨Nat.zero_le _, Nat.zero_le _⟩ rfl (Nat.le_of_ble_eq_true rfl) dX9_bestDoor_63 ?_
    refine fw_aload_n (pc := 66) C 0 dX9_bestDoor_66 rfl rfl ?_
    refine fw_getr (pc := 67) C ho.2.2.2.2.2.2.2.2.1.1 rfl qX9_bestDoor_25 dX9_bestDoor_67 ?_
    refine fw_iconst (pc := 70) C (v := 4) dX9_bestDoor_70 fk_iconst_4 ?_
    refine fw_iconst (pc := 71) C (v := 5) dX9_bestDoor_71 fk_iconst_5 ?_
    refine fw_iload_n (pc := 72) C 1 dX9_bestDoor_72 rfl rfl ?_
    refine fw_imul (pc := 73) C dX9_bestDoor_73 ?_
    refine fw_iadd (pc := 74) C dX9_bestDoor_74 ?_
    refine fw_iconst (pc := 75) C (v := 3) dX9_bestDoor_75 fk_iconst_3 ?_
    refine fw_iadd (pc := 76) C dX9_bestDoor_76 ?_
    refine fw_iload (pc := 77) C 5 dX9_bestDoor_77 rfl ?_
    obtain ⟨M5, hM5, h⟩ := fw_bind h
    refine fw_iast (pc := 79) C 0 ho.2.2.2.2.2.2.2.2.1.2 rfl hM5 dX9_bestDoor_79 ?_
    refine fw_aload_n (pc := 80) C 0 dX9_bestDoor_80 rfl rfl ?_
    refine fw_iload_n (pc := 81) C 1 dX9_bestDoor_81 rfl rfl ?_
    obtain ⟨q6, hq6, h⟩ := fw_bind h
    refine fw_callV1 (pc := 82) C (rest := []) (c_Mod_throughBy ho hq6) (cwV 1 C.2.2.2.2.1 gX9_bestDoor_X9_throughBy rfl rfl rfl hd_Mod_throughBy ⟨Nat.le_of_ble_eq_true rfl, Nat.le_of_ble_eq_true rfl⟩) ho.1 rfl rfl ⟨Nat.zero_le _, Nat.zero_le _⟩ rfl (Nat.le_of_ble_eq_true rfl) dX9_bestDoor_82 ?_
    refine fw_istore (pc := 85) C (L2 := [(0, .ref _), (1, .int _), (2, .int _), (3, .int _), (4, .int _), (5, .int _), (6, .int _)]) [1, 2, 3, 4, 5, 6, 0] dX9_bestDoor_85 (by decide) rfl ?_
    refine fw_iload (pc := 87) C 6 dX9_bestDoor_87 rfl ?_
    refine fw_ldc (pc := 89) C (v := -1000000) kX9_bestDoor_90 dX9_bestDoor_89 ?_
    refine fw_icmp_eq (pc := 91) C (tgt := 111) dX9_bestDoor_91 (by decide) (fun c7 => ?_) (fun c7 => ?_)
    · have h := fw_ift h c7
      exact (c_Mod_bestDoor_b111 C ho hK51 h)
    · have h := fw_iff h c7
      refine fw_iload_n (pc := 94) C 3 dX9_bestDoor_94 rfl rfl ?_
      refine fw_ldc (pc := 95) C (v := -1000000) kX9_bestDoor_90 dX9_bestDoor_95 ?_
      refine fw_icmp_eq (pc := 97) C (tgt := 107) dX9_bestDoor_97 (by decide) (fun c8 => ?_) (fun c8 => ?_)
      · have h := fw_ift h c8
        exact (c_Mod_bestDoor_b107 C ho hK51 h)
      · have h := fw_iff h c8
        refine fw_iload (pc := 100) C 6 dX9_bestDoor_100 rfl ?_
        refine fw_iload (pc := 102) C 4 dX9_bestDoor_102 rfl ?_
        refine fw_icmp_ge (pc := 104) C (tgt := 111) dX9_bestDoor_104 (by decide) (fun c9 => ?_) (fun c9 => ?_)
        · have h := fw_ift h c9
          exact (c_Mod_bestDoor_b111 C ho hK51 h)
        · have h := fw_iff h c9
          exact (c_Mod_bestDoor_b107 C ho hK51 h)
theorem c_Mod_bestDoor_h51 {p : Program} {l : Launch} {e : Env} {s : State} {m : MethodId} {args : Array Value} {below : List Frame} {meth : Method} {c : Code} {D : va_G} {cI cZ cH cR : ClassId} {N : Nat} {ad : Nat → Nat} {EE : fw_M → Nat → va_E} {o : Nat} {z : (Int32 × fw_M)} (C : fw_C p s m args meth c cX9_bestDoor RX9 wsX9_bestDoor 8 (some .int) D vwCl (fw_tys cI cZ cH cR) N ad fw_nw0) (ho : o_Mod EE ad N cI cZ cH cR o) : ∀ (n : Nat) (M : fw_M) (x1 : Int32) (x2 : Int32) (x3 : Int32) (x4 : Int32) (x5 : Int32), P_Mod_bestDoor_h51 o n M x1 x2 x3 x4 x5 = some z → fw_J p l e (headSpec wsX9_bestDoor rm_Mod_bestDoor).room s m args below meth c D vwCl N ad EE 8 0 0 (fw_E below args s D vwCl N ad EE (some (.int z.1)) z.2) M [(0, .ref (ad o)), (1, .int x1), (2, .int x2), (3, .int x3), (4, .int x4), (5, .int x5)] 51 [] := by
  intro n
  induction n with
  | zero => intro M x1 x2 x3 x4 x5  h; cases h
  | succ n ih => intro M x1 x2 x3 x4 x5  h; exact c_Mod_bestDoor_b51 C ho ih  h
set_option maxRecDepth 100000 in
theorem c_Mod_bestDoor_b0 {p : Program} {l : Launch} {e : Env} {s : State} {m : MethodId} {args : Array Value} {below : List Frame} {meth : Method} {c : Code} {D : va_G} {cI cZ cH cR : ClassId} {N : Nat} {ad : Nat → Nat} {EE : fw_M → Nat → va_E} {o : Nat} {M : fw_M} {x1 : Int32} {x2 : Int32} {z : (Int32 × fw_M)} (C : fw_C p s m args meth c cX9_bestDoor RX9 wsX9_bestDoor 8 (some .int) D vwCl (fw_tys cI cZ cH cR) N ad fw_nw0) (ho : o_Mod EE ad N cI cZ cH cR o) (h : P_Mod_bestDoor_b0 o M x1 x2 = some z) : fw_J p l e (headSpec wsX9_bestDoor rm_Mod_bestDoor).room s m args below meth c D vwCl N ad EE 8 0 0 (fw_E below args s D vwCl N ad EE (some (.int z.1)) z.2) M [(0, .ref (ad o)), (1, .int x1), (2, .int x2)] 0 [] := by
  unfold P_Mod_bestDoor_b0 at h
  refine fw_aload_n (pc := 0) C 0 dX9_bestDoor_0 rfl rfl ?_
  refine fw_iconst (pc := 1) C (v := 0) dX9_bestDoor_1 fk_iconst_0 ?_
  have h := fw_plh h
  refine fw_puti (pc := 2) C ho.2.1 rfl qX9_bestDoor_47 tyX9 tyX9_ok nmX9 rfl rfl dX9_bestDoor_2 ?_
  refine fw_aload_n (pc := 5) C 0 dX9_bestDoor_5 rfl rfl ?_
  refine fw_iload_n (pc := 6) C 1 dX9_bestDoor_6 rfl rfl ?_
  obtain ⟨v2, hv2, h⟩ := fw_bind h
  refine fw_callV1 (pc := 7) C (rest := []) (c_Mod_isPerson ho hv2) (cwV 1 C.2.2.2.2.1 gX9_bestDoor_X9_isPerson rfl rfl rfl hd_Mod_isPerson ⟨Nat.le_of_ble_eq_true rfl, Nat.le_of_ble_eq_true rfl⟩) ho.1 rfl rfl ⟨Nat.zero_le _, Nat.zero_le _⟩ rfl (Nat.le_of_ble_eq_true rfl) dX9_bestDoor_7 ?_
  refine fw_if_eq (pc := 10) C (tgt := 23) dX9_bestDoor_10 (by decide) (fun c3 => ?_) (fun c3 => ?_)
  · have h := fw_ift h c3
    exact fw_sub [] rfl (c_Mod_bestDoor_b23 C ho h)
  · have h := fw_iff h c3
    refine fw_iload_n (pc := 13) C 2 dX9_bestDoor_13 rfl rfl ?_
    refine fw_i2l (pc := 14) C dX9_bestDoor_14 ?_
    refine fw_lconst (pc := 15) C (v := 0) dX9_bestDoor_15 fk_lconst_0 ?_
    refine fw_lconst (pc := 16) C (v := 1) dX9_bestDoor_16 fk_lconst_1 ?_
    obtain ⟨v4, hv4, h⟩ := fw_bind h
    refine fw_callS1 (pc := 17) C (rest := []) (c_Mod_in  hv4) (va_cwS 3 C.2.2.2.2.1 gX9_bestDoor_X9_in rfl rfl rfl hd_Mod_in.2 ⟨Nat.le_of_ble_eq_true rfl, Nat.le_of_ble_eq_true rfl⟩) rfl ⟨Nat.zero_le _, Nat.zero_le _⟩ rfl (Nat.le_of_ble_eq_true rfl) dX9_bestDoor_17 ?_
    refine fw_if_ne (pc := 20) C (tgt := 26) dX9_bestDoor_20 (by decide) (fun c5 => ?_) (fun c5 => ?_)
    · have h := fw_iff h c5
      refine fw_aload_n (pc := 26) C 0 dX9_bestDoor_26 rfl rfl ?_
      refine fw_getr (pc := 27) C ho.2.2.2.2.2.2.1.1 rfl qX9_bestDoor_19 dX9_bestDoor_27 ?_
      refine fw_iload_n (pc := 30) C 1 dX9_bestDoor_30 rfl rfl ?_
      refine fw_iconst (pc := 31) C (v := 3) dX9_bestDoor_31 fk_iconst_3 ?_
      obtain ⟨v6, hv6, h⟩ := fw_bind h
      refine fw_callS1 (pc := 32) C (rest := []) (c_Mod_of ho.2.2.2.2.2.2.1.2 hv6) (va_cwS 3 C.2.2.2.2.1 gX9_bestDoor_X9_of rfl rfl rfl hd_Mod_of.2 ⟨Nat.le_of_ble_eq_true rfl, Nat.le_of_ble_eq_true rfl⟩) rfl ⟨Nat.zero_le _, Nat.zero_le _⟩ rfl (Nat.le_of_ble_eq_true rfl) dX9_bestDoor_32 ?_
      refine fw_if_ge (pc := 35) C (tgt := 41) dX9_bestDoor_35 (by decide) (fun c7 => ?_) (fun c7 => ?_)
      · have h := fw_ift h c7
        refine fw_ldc (pc := 41) C (v := -1000000) kX9_bestDoor_90 dX9_bestDoor_41 ?_
        refine fw_istore_n (pc := 43) C (L2 := [(0, .ref _), (1, .int _), (2, .int _), (3, .int _)]) [1, 2, 3, 0] dX9_bestDoor_43 rfl (by decide) rfl ?_
        refine fw_ldc (pc := 44) C (v := -1000000) kX9_bestDoor_90 dX9_bestDoor_44 ?_
        refine fw_istore (pc := 46) C (L2 := [(0, .ref _), (1, .int _), (2, .int _), (3, .int _), (4, .int _)]) [1, 2, 3, 4, 0] dX9_bestDoor_46 (by decide) rfl ?_
        refine fw_iconst (pc := 48) C (v := 0) dX9_bestDoor_48 fk_iconst_0 ?_
        refine fw_istore (pc := 49) C (L2 := [(0, .ref _), (1, .int _), (2, .int _), (3, .int _), (4, .int _), (5, .int _)]) [1, 2, 3, 4, 5, 0] dX9_bestDoor_49 (by decide) rfl ?_
        exact (c_Mod_bestDoor_h51 C ho _ _ _ _ _ _ _ h)
      · have h := fw_iff h c7
        refine fw_ldc (pc := 38) C (v := -1000002) kX9_bestDoor_187 dX9_bestDoor_38 ?_
        exact fw_iret (pc := 40) C (fw_p1 h) (fw_p2 h) dX9_bestDoor_40
    · have h := fw_ift h c5
      exact fw_sub [] rfl (c_Mod_bestDoor_b23 C ho h)
theorem c_Mod_bestDoor {l : Launch} {D : va_G} {cI cZ cH cR : ClassId} {N : Nat} {ad : Nat → Nat} {EE : fw_M → Nat → va_E} {o : Nat} {M : fw_M} {a0 : Int32} {a1 : Int32} {z : (Int32 × fw_M)} (ho : o_Mod EE ad N cI cZ cH cR o) (h : P_Mod_bestDoor o M a0 a1 = some z) : fw_Met l yX9_bestDoor wsX9_bestDoor rm_Mod_bestDoor D vwCl (fw_tys cI cZ cH cR) N ad fw_nw0 EE [.ref (ad o), .int a0, .int a1] M (some (.int z.1)) z.2 := by
  unfold P_Mod_bestDoor at h
  exact fw_intro (cc := cX9_bestDoor) (maxL := 8) (ret := some .int) (own := RX9) (by decide) rfl rfl (Nat.le_of_ble_eq_true rfl) (fun p e s m args below meth c C => fw_sub [0, 1, 2] rfl (c_Mod_bestDoor_b0 C ho h))
abbrev rm_Mod_goSo : Room := { frames := 6, cells := 0, slots := 0, locals := 136 }
theorem hd_Mod_goSo : yX9_goSo.cls = RX9 ∧ yX9_goSo.cls ≠ "java/lang/invoke/MethodHandle" ∧ yX9_goSo.cls ≠ "java/lang/invoke/VarHandle" ∧ (parseMethodDescriptor yX9_goSo.desc).map (fun d => d.parameters.length) = some 3 := by decide +kernel
theorem qX9_goSo_25 : fw_G wsX9_goSo RX9 25 RX9 TX9 24 7 := ⟨by decide +kernel, by decide +kernel, by decide⟩
theorem kX9_goSo_90 : Cond.constant RX9 90 (-1000000) ∈ wsX9_goSo := by decide +kernel
theorem qX9_goSo_16 : fw_G wsX9_goSo RX9 16 RX9 TX9 24 4 := ⟨by decide +kernel, by decide +kernel, by decide⟩
def P_Mod_goSo_b57 (o : Nat) (K6 : fw_M → Int32 → Int32 → Int32 → Int32 → Int32 → Option (Int32 × fw_M)) (M : fw_M) (x1 : Int32) (x2 : Int32) (x3 : Int32) (x5 : Int32) (t0 : Int32) : Option (Int32 × fw_M) := (P_Mod_step o (o + 6) M).bind fun q1 => K6 q1.2 x1 x2 x3 t0 (x5 + (1 : Int32))
def P_Mod_goSo_b56 (o : Nat) (K6 : fw_M → Int32 → Int32 → Int32 → Int32 → Int32 → Option (Int32 × fw_M)) (M : fw_M) (x1 : Int32) (x2 : Int32) (x3 : Int32) (x5 : Int32) : Option (Int32 × fw_M) := P_Mod_goSo_b57 o K6 M x1 x2 x3 x5 (0 : Int32)
def P_Mod_goSo_b40 (o : Nat) (K6 : fw_M → Int32 → Int32 → Int32 → Int32 → Int32 → Option (Int32 × fw_M)) (M : fw_M) (x1 : Int32) (x2 : Int32) (x3 : Int32) (x5 : Int32) (t0 : Int32) : Option (Int32 × fw_M) := (fw_ald M (o + 3) 320 (x2 + x5)).bind fun v1 => (if t0 = v1 then P_Mod_goSo_b57 o K6 M x1 x2 x3 x5 (1 : Int32) else P_Mod_goSo_b56 o K6 M x1 x2 x3 x5)
def P_Mod_goSo_b6 (o : Nat) (K6 : fw_M → Int32 → Int32 → Int32 → Int32 → Int32 → Option (Int32 × fw_M)) (M : fw_M) (x1 : Int32) (x2 : Int32) (x3 : Int32) (x4 : Int32) (x5 : Int32) : Option (Int32 × fw_M) := (if x3 ≤ x5 then (fw_zr x4).bind fun v2 => some (v2, M) else (P_Mod_goesAt (o + 6) M x1).bind fun v3 => (if x4 = (0 : Int32) then P_Mod_goSo_b56 o K6 M x1 x2 x3 x5 else (if v3 = (-1000000 : Int32) then P_Mod_goSo_b40 o K6 M x1 x2 x3 x5 (-1 : Int32) else P_Mod_goSo_b40 o K6 M x1 x2 x3 x5 v3)))
def P_Mod_goSo_h6 (o : Nat) : Nat → fw_M → Int32 → Int32 → Int32 → Int32 → Int32 → Option (Int32 × fw_M)
  | 0, _, _, _, _, _, _ => none
  | n + 1, M, x1, x2, x3, x4, x5 => P_Mod_goSo_b6 o (P_Mod_goSo_h6 o n) M x1 x2 x3 x4 x5
def P_Mod_goSo_b0 (o : Nat) (M : fw_M) (x1 : Int32) (x2 : Int32) (x3 : Int32) : Option (Int32 × fw_M) := P_Mod_goSo_h6 o fw_fu M x1 x2 x3 (1 : Int32) (0 : Int32)
def P_Mod_goSo (o : Nat) (M : fw_M) (a0 : Int32) (a1 : Int32) (a2 : Int32) : Option (Int32 × fw_M) := P_Mod_goSo_b0 o M a0 a1 a2
set_option maxRecDepth 100000 in
theorem c_Mod_goSo_b57 {p : Program} {l : Launch} {e : Env} {s : State} {m : MethodId} {args : Array Value} {below : List Frame} {meth : Method} {c : Code} {D : va_G} {cI cZ cH cR : ClassId} {N : Nat} {ad : Nat → Nat} {EE : fw_M → Nat → va_E} {o : Nat} {K6 : fw_M → Int32 → Int32 → Int32 → Int32 → Int32 → Option (Int32 × fw_M)} {M : fw_M} {x1 : Int32} {x2 : Int32} {x3 : Int32} {x5 : Int32} {t0 : Int32} {z : (Int32 × fw_M)} (C : fw_C p s m args meth c cX9_goSo RX9 wsX9_goSo 8 (some .boolean) D vwCl (fw_tys cI cZ cH cR) N ad fw_nw0) (ho : o_Mod EE ad N cI cZ cH cR o) (hK6 : ∀ (Mk : fw_M) (kx1 : Int32) (kx2 : Int32) (kx3 : Int32) (kx4 : Int32) (kx5 : Int32), K6 Mk kx1 kx2 kx3 kx4 kx5 = some z → fw_J p l e (headSpec wsX9_goSo rm_Mod_goSo).room s m args below meth c D vwCl N ad EE 8 0 0 (fw_E below args s D vwCl N ad EE (some (.int z.1)) z.2) Mk [(0, .ref (ad o)), (1, .int kx1), (2, .int kx2), (3, .int kx3), (4, .int kx4), (5, .int kx5)] 6 []) (h : P_Mod_goSo_b57 o K6 M x1 x2 x3 x5 t0 = some z) : fw_J p l e (headSpec wsX9_goSo rm_Mod_goSo).room s m args below meth c D vwCl N ad EE 8 0 0 (fw_E below args s D vwCl N ad EE (some (.int z.1)) z.2) M [(0, .ref (ad o)), (1, .int x1), (2, .int x2), (3, .int x3), (5, .int x5)] 57 [.int t0] := by
  unfold P_Mod_goSo_b57 at h
  refine fw_istore (pc := 57) C (L2 := [(0, .ref _), (1, .int _), (2, .int _), (3, .int _), (4, .int _), (5, .int _)]) [1, 2, 3, 4, 0, 5] dX9_goSo_57 (by decide) rfl ?_
  refine fw_aload_n (pc := 59) C 0 dX9_goSo_59 rfl rfl ?_
  refine fw_aload_n (pc := 60) C 0 dX9_goSo_60 rfl rfl ?_
  refine fw_getr (pc := 61) C ho.2.2.2.2.2.2.2.2.1.1 rfl qX9_goSo_25 dX9_goSo_61 ?_
  obtain ⟨q1, hq1, h⟩ := fw_bind h
  refine fw_callV1 (pc := 64) C (rest := []) (c_Mod_step ho ho.2.2.2.2.2.2.2.2.1.2 hq1) (cwV 1 C.2.2.2.2.1 gX9_goSo_X9_step rfl rfl rfl hd_Mod_step ⟨Nat.le_of_ble_eq_true rfl, Nat.le_of_ble_eq_true rfl⟩) ho.1 rfl rfl ⟨Nat.zero_le _, Nat.zero_le _⟩ rfl (Nat.le_of_ble_eq_true rfl) dX9_goSo_64 ?_
  refine fw_istore (pc := 67) C (L2 := [(0, .ref _), (1, .int _), (2, .int _), (3, .int _), (4, .int _), (5, .int _), (7, .int _)]) [1, 2, 3, 4, 5, 6, 0] dX9_goSo_67 (by decide) rfl ?_
  refine fw_iinc (pc := 69) C (v := 1) (L2 := [(0, .ref _), (1, .int _), (2, .int _), (3, .int _), (4, .int _), (5, .int _), (7, .int _)]) 5 [1, 2, 3, 4, 5, 0, 6] dX9_goSo_69 rfl fk_iconst_1 (by decide) rfl ?_
  refine fw_goto (pc := 72) C (tgt := 6) dX9_goSo_72 (by decide) ?_
  exact fw_sub [0, 1, 2, 3, 4, 5] rfl (hK6 _ _ _ _ _ _ h)
set_option maxRecDepth 100000 in
theorem c_Mod_goSo_b56 {p : Program} {l : Launch} {e : Env} {s : State} {m : MethodId} {args : Array Value} {below : List Frame} {meth : Method} {c : Code} {D : va_G} {cI cZ cH cR : ClassId} {N : Nat} {ad : Nat → Nat} {EE : fw_M → Nat → va_E} {o : Nat} {K6 : fw_M → Int32 → Int32 → Int32 → Int32 → Int32 → Option (Int32 × fw_M)} {M : fw_M} {x1 : Int32} {x2 : Int32} {x3 : Int32} {x5 : Int32} {z : (Int32 × fw_M)} (C : fw_C p s m args meth c cX9_goSo RX9 wsX9_goSo 8 (some .boolean) D vwCl (fw_tys cI cZ cH cR) N ad fw_nw0) (ho : o_Mod EE ad N cI cZ cH cR o) (hK6 : ∀ (Mk : fw_M) (kx1 : Int32) (kx2 : Int32) (kx3 : Int32) (kx4 : Int32) (kx5 : Int32), K6 Mk kx1 kx2 kx3 kx4 kx5 = some z → fw_J p l e (headSpec wsX9_goSo rm_Mod_goSo).room s m args below meth c D vwCl N ad EE 8 0 0 (fw_E below args s D vwCl N ad EE (some (.int z.1)) z.2) Mk [(0, .ref (ad o)), (1, .int kx1), (2, .int kx2), (3, .int kx3), (4, .int kx4), (5, .int kx5)] 6 []) (h : P_Mod_goSo_b56 o K6 M x1 x2 x3 x5 = some z) : fw_J p l e (headSpec wsX9_goSo rm_Mod_goSo).room s m args below meth c D vwCl N ad EE 8 0 0 (fw_E below args s D vwCl N ad EE (some (.int z.1)) z.2) M [(0, .ref (ad o)), (1, .int x1), (2, .int x2), (3, .int x3), (5, .int x5)] 56 [] := by
  unfold P_Mod_goSo_b56 at h
  refine fw_iconst (pc := 56) C (v := 0) dX9_goSo_56 fk_iconst_0 ?_
  exact (c_Mod_goSo_b57 C ho hK6 h)
set_option maxRecDepth 100000 in
theorem c_Mod_goSo_b40 {p : Program} {l : Launch} {e : Env} {s : State} {m : MethodId} {args : Array Value} {below : List Frame} {meth : Method} {c : Code} {D : va_G} {cI cZ cH cR : ClassId} {N : Nat} {ad : Nat → Nat} {EE : fw_M → Nat → va_E} {o : Nat} {K6 : fw_M → Int32 → Int32 → Int32 → Int32 → Int32 → Option (Int32 × fw_M)} {M : fw_M} {x1 : Int32} {x2 : Int32} {x3 : Int32} {x5 : Int32} {t0 : Int32} {z : (Int32 × fw_M)} (C : fw_C p s m args meth c cX9_goSo RX9 wsX9_goSo 8 (some .boolean) D vwCl (fw_tys cI cZ cH cR) N ad fw_nw0) (ho : o_Mod EE ad N cI cZ cH cR o) (hK6 : ∀ (Mk : fw_M) (kx1 : Int32) (kx2 : Int32) (kx3 : Int32) (kx4 : Int32) (kx5 : Int32), K6 Mk kx1 kx2 kx3 kx4 kx5 = some z → fw_J p l e (headSpec wsX9_goSo rm_Mod_goSo).room s m args below meth c D vwCl N ad EE 8 0 0 (fw_E below args s D vwCl N ad EE (some (.int z.1)) z.2) Mk [(0, .ref (ad o)), (1, .int kx1), (2, .int kx2), (3, .int kx3), (4, .int kx4), (5, .int kx5)] 6 []) (h : P_Mod_goSo_b40 o K6 M x1 x2 x3 x5 t0 = some z) : fw_J p l e (headSpec wsX9_goSo rm_Mod_goSo).room s m args below meth c D vwCl N ad EE 8 0 0 (fw_E below args s D vwCl N ad EE (some (.int z.1)) z.2) M [(0, .ref (ad o)), (1, .int x1), (2, .int x2), (3, .int x3), (5, .int x5)] 40 [.int t0] := by
  unfold P_Mod_goSo_b40 at h
  refine fw_aload_n (pc := 40) C 0 dX9_goSo_40 rfl rfl ?_
  refine fw_getr (pc := 41) C ho.2.2.2.2.2.1.1 rfl qX9_goSo_16 dX9_goSo_41 ?_
  refine fw_iload_n (pc := 44) C 2 dX9_goSo_44 rfl rfl ?_
  refine fw_iload (pc := 45) C 4 dX9_goSo_45 rfl ?_
  refine fw_iadd (pc := 47) C dX9_goSo_47 ?_
  obtain ⟨v1, hv1, h⟩ := fw_bind h
  refine fw_iald (pc := 48) C 0 ho.2.2.2.2.2.1.2 rfl hv1 dX9_goSo_48 ?_
  refine fw_icmp_ne (pc := 49) C (tgt := 56) dX9_goSo_49 (by decide) (fun c2 => ?_) (fun c2 => ?_)
  · have h := fw_iff h c2
    exact (c_Mod_goSo_b56 C ho hK6 h)
  · have h := fw_ift h c2
    refine fw_iconst (pc := 52) C (v := 1) dX9_goSo_52 fk_iconst_1 ?_
    refine fw_goto (pc := 53) C (tgt := 57) dX9_goSo_53 (by decide) ?_
    exact (c_Mod_goSo_b57 C ho hK6 h)
set_option maxRecDepth 100000 in
theorem c_Mod_goSo_b6 {p : Program} {l : Launch} {e : Env} {s : State} {m : MethodId} {args : Array Value} {below : List Frame} {meth : Method} {c : Code} {D : va_G} {cI cZ cH cR : ClassId} {N : Nat} {ad : Nat → Nat} {EE : fw_M → Nat → va_E} {o : Nat} {K6 : fw_M → Int32 → Int32 → Int32 → Int32 → Int32 → Option (Int32 × fw_M)} {M : fw_M} {x1 : Int32} {x2 : Int32} {x3 : Int32} {x4 : Int32} {x5 : Int32} {z : (Int32 × fw_M)} (C : fw_C p s m args meth c cX9_goSo RX9 wsX9_goSo 8 (some .boolean) D vwCl (fw_tys cI cZ cH cR) N ad fw_nw0) (ho : o_Mod EE ad N cI cZ cH cR o) (hK6 : ∀ (Mk : fw_M) (kx1 : Int32) (kx2 : Int32) (kx3 : Int32) (kx4 : Int32) (kx5 : Int32), K6 Mk kx1 kx2 kx3 kx4 kx5 = some z → fw_J p l e (headSpec wsX9_goSo rm_Mod_goSo).room s m args below meth c D vwCl N ad EE 8 0 0 (fw_E below args s D vwCl N ad EE (some (.int z.1)) z.2) Mk [(0, .ref (ad o)), (1, .int kx1), (2, .int kx2), (3, .int kx3), (4, .int kx4), (5, .int kx5)] 6 []) (h : P_Mod_goSo_b6 o K6 M x1 x2 x3 x4 x5 = some z) : fw_J p l e (headSpec wsX9_goSo rm_Mod_goSo).room s m args below meth c D vwCl N ad EE 8 0 0 (fw_E below args s D vwCl N ad EE (some (.int z.1)) z.2) M [(0, .ref (ad o)), (1, .int x1), (2, .int x2), (3, .int x3), (4, .int x4), (5, .int x5)] 6 [] := by
  unfold P_Mod_goSo_b6 at h
  refine fw_iload (pc := 6) C 5 dX9_goSo_6 rfl ?_
  refine fw_iload_n (pc := 8) C 3 dX9_goSo_8 rfl rfl ?_
  refine fw_icmp_ge (pc := 9) C (tgt := 75) dX9_goSo_9 (by decide) (fun c1 => ?_) (fun c1 => ?_)
  · have h := fw_ift h c1
    refine fw_iload (pc := 75) C 4 dX9_goSo_75 rfl ?_
    obtain ⟨v2, hv2, h⟩ := fw_bind h
    exact fw_zret (pc := 77) C (fw_zrh hv2).1 ((fw_zrh hv2).2.trans (fw_p1 h)) (fw_p2 h) dX9_goSo_77
  · have h := fw_iff h c1
    refine fw_aload_n (pc := 12) C 0 dX9_goSo_12 rfl rfl ?_
    refine fw_getr (pc := 13) C ho.2.2.2.2.2.2.2.2.1.1 rfl qX9_goSo_25 dX9_goSo_13 ?_
    refine fw_iload_n (pc := 16) C 1 dX9_goSo_16 rfl rfl ?_
    obtain ⟨v3, hv3, h⟩ := fw_bind h
    refine fw_callS1 (pc := 17) C (rest := []) (c_Mod_goesAt ho.2.2.2.2.2.2.2.2.1.2 hv3) (va_cwS 2 C.2.2.2.2.1 gX9_goSo_X9_goesAt rfl rfl rfl hd_Mod_goesAt.2 ⟨Nat.le_of_ble_eq_true rfl, Nat.le_of_ble_eq_true rfl⟩) rfl ⟨Nat.zero_le _, Nat.zero_le _⟩ rfl (Nat.le_of_ble_eq_true rfl) dX9_goSo_17 ?_
    refine fw_istore (pc := 20) C (L2 := [(0, .ref _), (1, .int _), (2, .int _), (3, .int _), (4, .int _), (5, .int _), (6, .int _)]) [1, 2, 3, 4, 5, 6, 0] dX9_goSo_20 (by decide) rfl ?_
    refine fw_iload (pc := 22) C 4 dX9_goSo_22 rfl ?_
    refine fw_if_eq (pc := 24) C (tgt := 56) dX9_goSo_24 (by decide) (fun c4 => ?_) (fun c4 => ?_)
    · have h := fw_ift h c4
      exact fw_sub [0, 1, 2, 3, 5] rfl (c_Mod_goSo_b56 C ho hK6 h)
    · have h := fw_iff h c4
      refine fw_iload (pc := 27) C 6 dX9_goSo_27 rfl ?_
      refine fw_ldc (pc := 29) C (v := -1000000) kX9_goSo_90 dX9_goSo_29 ?_
      refine fw_icmp_ne (pc := 31) C (tgt := 38) dX9_goSo_31 (by decide) (fun c5 => ?_) (fun c5 => ?_)
      · have h := fw_iff h c5
        refine fw_iload (pc := 38) C 6 dX9_goSo_38 rfl ?_
        exact fw_sub [0, 1, 2, 3, 5] rfl (c_Mod_goSo_b40 C ho hK6 h)
      · have h := fw_ift h c5
        refine fw_iconst (pc := 34) C (v := -1) dX9_goSo_34 fk_iconst_m1 ?_
        refine fw_goto (pc := 35) C (tgt := 40) dX9_goSo_35 (by decide) ?_
        exact fw_sub [0, 1, 2, 3, 5] rfl (c_Mod_goSo_b40 C ho hK6 h)
theorem c_Mod_goSo_h6 {p : Program} {l : Launch} {e : Env} {s : State} {m : MethodId} {args : Array Value} {below : List Frame} {meth : Method} {c : Code} {D : va_G} {cI cZ cH cR : ClassId} {N : Nat} {ad : Nat → Nat} {EE : fw_M → Nat → va_E} {o : Nat} {z : (Int32 × fw_M)} (C : fw_C p s m args meth c cX9_goSo RX9 wsX9_goSo 8 (some .boolean) D vwCl (fw_tys cI cZ cH cR) N ad fw_nw0) (ho : o_Mod EE ad N cI cZ cH cR o) : ∀ (n : Nat) (M : fw_M) (x1 : Int32) (x2 : Int32) (x3 : Int32) (x4 : Int32) (x5 : Int32), P_Mod_goSo_h6 o n M x1 x2 x3 x4 x5 = some z → fw_J p l e (headSpec wsX9_goSo rm_Mod_goSo).room s m args below meth c D vwCl N ad EE 8 0 0 (fw_E below args s D vwCl N ad EE (some (.int z.1)) z.2) M [(0, .ref (ad o)), (1, .int x1), (2, .int x2), (3, .int x3), (4, .int x4), (5, .int x5)] 6 [] := by
  intro n
  induction n with
  | zero => intro M x1 x2 x3 x4 x5  h; cases h
  | succ n ih => intro M x1 x2 x3 x4 x5  h; exact c_Mod_goSo_b6 C ho ih  h
set_option maxRecDepth 100000 in
theorem c_Mod_goSo_b0 {p : Program} {l : Launch} {e : Env} {s : State} {m : MethodId} {args : Array Value} {below : List Frame} {meth : Method} {c : Code} {D : va_G} {cI cZ cH cR : ClassId} {N : Nat} {ad : Nat → Nat} {EE : fw_M → Nat → va_E} {o : Nat} {M : fw_M} {x1 : Int32} {x2 : Int32} {x3 : Int32} {z : (Int32 × fw_M)} (C : fw_C p s m args meth c cX9_goSo RX9 wsX9_goSo 8 (some .boolean) D vwCl (fw_tys cI cZ cH cR) N ad fw_nw0) (ho : o_Mod EE ad N cI cZ cH cR o) (h : P_Mod_goSo_b0 o M x1 x2 x3 = some z) : fw_J p l e (headSpec wsX9_goSo rm_Mod_goSo).room s m args below meth c D vwCl N ad EE 8 0 0 (fw_E below args s D vwCl N ad EE (some (.int z.1)) z.2) M [(0, .ref (ad o)), (1, .int x1), (2, .int x2), (3, .int x3)] 0 [] := by
  unfold P_Mod_goSo_b0 at h
  refine fw_iconst (pc := 0) C (v := 1) dX9_goSo_0 fk_iconst_1 ?_
  refine fw_istore (pc := 1) C (L2 := [(0, .ref _), (1, .int _), (2, .int _), (3, .int _), (4, .int _)]) [1, 2, 3, 4, 0] dX9_goSo_1 (by decide) rfl ?_
  refine fw_iconst (pc := 3) C (v := 0) dX9_goSo_3 fk_iconst_0 ?_
  refine fw_istore (pc := 4) C (L2 := [(0, .ref _), (1, .int _), (2, .int _), (3, .int _), (4, .int _), (5, .int _)]) [1, 2, 3, 4, 5, 0] dX9_goSo_4 (by decide) rfl ?_
  exact (c_Mod_goSo_h6 C ho _ _ _ _ _ _ _ h)
theorem c_Mod_goSo {l : Launch} {D : va_G} {cI cZ cH cR : ClassId} {N : Nat} {ad : Nat → Nat} {EE : fw_M → Nat → va_E} {o : Nat} {M : fw_M} {a0 : Int32} {a1 : Int32} {a2 : Int32} {z : (Int32 × fw_M)} (ho : o_Mod EE ad N cI cZ cH cR o) (h : P_Mod_goSo o M a0 a1 a2 = some z) : fw_Met l yX9_goSo wsX9_goSo rm_Mod_goSo D vwCl (fw_tys cI cZ cH cR) N ad fw_nw0 EE [.ref (ad o), .int a0, .int a1, .int a2] M (some (.int z.1)) z.2 := by
  unfold P_Mod_goSo at h
  exact fw_intro (cc := cX9_goSo) (maxL := 8) (ret := some .boolean) (own := RX9) (by decide) rfl rfl (Nat.le_of_ble_eq_true rfl) (fun p e s m args below meth c C => fw_sub [0, 1, 2, 3] rfl (c_Mod_goSo_b0 C ho h))
abbrev rm_Mod_ranks : Room := { frames := 7, cells := 0, slots := 0, locals := 163 }
theorem hd_Mod_ranks : yX9_ranks.cls = RX9 ∧ yX9_ranks.cls ≠ "java/lang/invoke/MethodHandle" ∧ yX9_ranks.cls ≠ "java/lang/invoke/VarHandle" ∧ (parseMethodDescriptor yX9_ranks.desc).map (fun d => d.parameters.length) = some 5 := by decide +kernel
theorem qX9_ranks_47 : fw_G wsX9_ranks RX9 47 RX9 TX9 24 0 := ⟨by decide +kernel, by decide +kernel, by decide⟩
theorem kX9_ranks_218 : Cond.constantLong RX9 218 (12) ∈ wsX9_ranks := by decide +kernel
theorem qX9_ranks_7 : fw_G wsX9_ranks RX9 7 RX9 TX9 24 2 := ⟨by decide +kernel, by decide +kernel, by decide⟩
theorem qX9_ranks_13 : fw_G wsX9_ranks RX9 13 RX9 TX9 24 3 := ⟨by decide +kernel, by decide +kernel, by decide⟩
theorem qX9_ranks_51 : fw_G wsX9_ranks RX9 51 RX9 TX9 24 1 := ⟨by decide +kernel, by decide +kernel, by decide⟩
theorem qX9_ranks_25 : fw_G wsX9_ranks RX9 25 RX9 TX9 24 7 := ⟨by decide +kernel, by decide +kernel, by decide⟩
theorem kX9_ranks_67 : Cond.constant RX9 67 (-1000001) ∈ wsX9_ranks := by decide +kernel
def P_Mod_ranks_b41 (o : Nat) (M : fw_M) : Option (Int32 × fw_M) := some ((-1000001 : Int32), M)
def P_Mod_ranks_b82 (o : Nat) (M : fw_M) : Option (Int32 × fw_M) := (P_Mod_finding o M (2 : Int32)).bind fun q1 => some (q1.1, q1.2)
def P_Mod_ranks_b151 (o : Nat) (K99 : fw_M → Int32 → Int32 → Int32 → Int32 → Int32 → Int32 → Int32 → Option (Int32 × fw_M)) (M : fw_M) (x1 : Int32) (x2 : Int32) (x3 : Int32) (x4 : Int32) (x5 : Int32) (x7 : Int32) (t0 : Int32) (t1 : Int32) : Option (Int32 × fw_M) := fw_pl ((t0 ||| t1)) fun y1 => K99 M x1 x2 x3 x4 x5 y1 (x7 + (1 : Int32))
def P_Mod_ranks_b99 (o : Nat) (K99 : fw_M → Int32 → Int32 → Int32 → Int32 → Int32 → Int32 → Int32 → Option (Int32 × fw_M)) (M : fw_M) (x1 : Int32) (x2 : Int32) (x3 : Int32) (x4 : Int32) (x5 : Int32) (x6 : Int32) (x7 : Int32) : Option (Int32 × fw_M) := (if (10 : Int32) ≤ x7 then some (x6, M) else (P_Mod_layThen o M).bind fun q2 => (fw_ast q2 (o + 6) 39 (((4 : Int32) + ((5 : Int32) * x2)) + (1 : Int32)) x7).bind fun M3 => (P_Mod_goSo o M3 x1 (((40 : Int32) * x3) + x4) x5).bind fun q4 => (if q4.1 = (0 : Int32) then P_Mod_ranks_b151 o K99 q4.2 x1 x2 x3 x4 x5 x7 x6 (0 : Int32) else P_Mod_ranks_b151 o K99 q4.2 x1 x2 x3 x4 x5 x7 x6 ((1 : Int32) <<< (x7 &&& 31))))
def P_Mod_ranks_h99 (o : Nat) : Nat → fw_M → Int32 → Int32 → Int32 → Int32 → Int32 → Int32 → Int32 → Option (Int32 × fw_M)
  | 0, _, _, _, _, _, _, _, _ => none
  | n + 1, M, x1, x2, x3, x4, x5, x6, x7 => P_Mod_ranks_b99 o (P_Mod_ranks_h99 o n) M x1 x2 x3 x4 x5 x6 x7
def P_Mod_ranks_b0 (o : Nat) (M : fw_M) (x1 : Int32) (x2 : Int32) (x3 : Int32) (x4 : Int32) (x5 : Int32) : Option (Int32 × fw_M) := fw_pl (fw_set M o 0 (0 : Int32)) fun M1 => (P_Mod_isDoor o M1 x1).bind fun v2 => (if v2 = (0 : Int32) then P_Mod_ranks_b41 o M1 else (P_Mod_isPerson o M1 x2).bind fun v4 => (if v4 = (0 : Int32) then P_Mod_ranks_b41 o M1 else (P_Mod_isRow M1 x3).bind fun v6 => (if v6 = (0 : Int32) then P_Mod_ranks_b41 o M1 else (P_Mod_in M1 (Int32.toInt64 x5) (1 : Int64) (12 : Int64)).bind fun v8 => (if v8 = (0 : Int32) then P_Mod_ranks_b41 o M1 else (fw_ald M1 (o + 1) 8 x3).bind fun v10 => (if (0 : Int32) ≤ v10 then (if x4 < (0 : Int32) then P_Mod_ranks_b82 o M1 else (fw_ald M1 (o + 2) 8 x3).bind fun v13 => (if (lg_cmp ((Int32.toInt64 x4) + (Int32.toInt64 x5)) (Int32.toInt64 v13)) ≤ (0 : Int32) then fw_pl (fw_set M1 o 1 (0 : Int32)) fun M15 => P_Mod_ranks_h99 o fw_fu M15 x1 x2 x3 x4 x5 (0 : Int32) (0 : Int32) else P_Mod_ranks_b82 o M1)) else (P_Mod_finding o M1 (1 : Int32)).bind fun q16 => some (q16.1, q16.2))))))
def P_Mod_ranks (o : Nat) (M : fw_M) (a0 : Int32) (a1 : Int32) (a2 : Int32) (a3 : Int32) (a4 : Int32) : Option (Int32 × fw_M) := P_Mod_ranks_b0 o M a0 a1 a2 a3 a4
set_option maxRecDepth 100000 in
theorem c_Mod_ranks_b41 {p : Program} {l : Launch} {e : Env} {s : State} {m : MethodId} {args : Array Value} {below : List Frame} {meth : Method} {c : Code} {D : va_G} {cI cZ cH cR : ClassId} {N : Nat} {ad : Nat → Nat} {EE : fw_M → Nat → va_E} {o : Nat} {M : fw_M} {z : (Int32 × fw_M)} (C : fw_C p s m args meth c cX9_ranks RX9 wsX9_ranks 8 (some .int) D vwCl (fw_tys cI cZ cH cR) N ad fw_nw0) (ho : o_Mod EE ad N cI cZ cH cR o) (h : P_Mod_ranks_b41 o M = some z) : fw_J p l e (headSpec wsX9_ranks rm_Mod_ranks).room s m args below meth c D vwCl N ad EE 8 0 0 (fw_E below args s D vwCl N ad EE (some (.int z.1)) z.2) M [] 41 [] := by
  unfold P_Mod_ranks_b41 at h
  refine fw_ldc (pc := 41) C (v := -1000001) kX9_ranks_67 dX9_ranks_41 ?_
  exact fw_iret (pc := 43) C (fw_p1 h) (fw_p2 h) dX9_ranks_43
set_option maxRecDepth 100000 in
theorem c_Mod_ranks_b82 {p : Program} {l : Launch} {e : Env} {s : State} {m : MethodId} {args : Array Value} {below : List Frame} {meth : Method} {c : Code} {D : va_G} {cI cZ cH cR : ClassId} {N : Nat} {ad : Nat → Nat} {EE : fw_M → Nat → va_E} {o : Nat} {M : fw_M} {z : (Int32 × fw_M)} (C : fw_C p s m args meth c cX9_ranks RX9 wsX9_ranks 8 (some .int) D vwCl (fw_tys cI cZ cH cR) N ad fw_nw0) (ho : o_Mod EE ad N cI cZ cH cR o) (h : P_Mod_ranks_b82 o M = some z) : fw_J p l e (headSpec wsX9_ranks rm_Mod_ranks).room s m args below meth c D vwCl N ad EE 8 0 0 (fw_E below args s D vwCl N ad EE (some (.int z.1)) z.2) M [(0, .ref (ad o))] 82 [] := by
  unfold P_Mod_ranks_b82 at h
  refine fw_aload_n (pc := 82) C 0 dX9_ranks_82 rfl rfl ?_
  refine fw_iconst (pc := 83) C (v := 2) dX9_ranks_83 fk_iconst_2 ?_
  obtain ⟨q1, hq1, h⟩ := fw_bind h
  refine fw_callV1 (pc := 84) C (rest := []) (c_Mod_finding ho hq1) (cwV 1 C.2.2.2.2.1 gX9_ranks_X9_finding rfl rfl rfl hd_Mod_finding ⟨Nat.le_of_ble_eq_true rfl, Nat.le_of_ble_eq_true rfl⟩) ho.1 rfl rfl ⟨Nat.zero_le _, Nat.zero_le _⟩ rfl (Nat.le_of_ble_eq_true rfl) dX9_ranks_84 ?_
  exact fw_iret (pc := 87) C (fw_p1 h) (fw_p2 h) dX9_ranks_87
set_option maxRecDepth 100000 in
theorem c_Mod_ranks_b151 {p : Program} {l : Launch} {e : Env} {s : State} {m : MethodId} {args : Array Value} {below : List Frame} {meth : Method} {c : Code} {D : va_G} {cI cZ cH cR : ClassId} {N : Nat} {ad : Nat → Nat} {EE : fw_M → Nat → va_E} {o : Nat} {K99 : fw_M → Int32 → Int32 → Int32 → Int32 → Int32 → Int32 → Int32 → Option (Int32 × fw_M)} {M : fw_M} {x1 : Int32} {x2 : Int32} {x3 : Int32} {x4 : Int32} {x5 : Int32} {x7 : Int32} {t0 : Int32} {t1 : Int32} {z : (Int32 × fw_M)} (C : fw_C p s m args meth c cX9_ranks RX9 wsX9_ranks 8 (some .int) D vwCl (fw_tys cI cZ cH cR) N ad fw_nw0) (ho : o_Mod EE ad N cI cZ cH cR o) (hK99 : ∀ (Mk : fw_M) (kx1 : Int32) (kx2 : Int32) (kx3 : Int32) (kx4 : Int32) (kx5 : Int32) (kx6 : Int32) (kx7 : Int32), K99 Mk kx1 kx2 kx3 kx4 kx5 kx6 kx7 = some z → fw_J p l e (headSpec wsX9_ranks rm_Mod_ranks).room s m args below meth c D vwCl N ad EE 8 0 0 (fw_E below args s D vwCl N ad EE (some (.int z.1)) z.2) Mk [(0, .ref (ad o)), (1, .int kx1), (2, .int kx2), (3, .int kx3), (4, .int kx4), (5, .int kx5), (6, .int kx6), (7, .int kx7)] 99 []) (h : P_Mod_ranks_b151 o K99 M x1 x2 x3 x4 x5 x7 t0 t1 = some z) : fw_J p l e (headSpec wsX9_ranks rm_Mod_ranks).room s m args below meth c D vwCl N ad EE 8 0 0 (fw_E below args s D vwCl N ad EE (some (.int z.1)) z.2) M [(0, .ref (ad o)), (1, .int x1), (2, .int x2), (3, .int x3), (4, .int x4), (5, .int x5), (7, .int x7)] 151 [.int t1, .int t0] := by
  unfold P_Mod_ranks_b151 at h
  refine fw_ior (pc := 151) C dX9_ranks_151 ?_
  have h := fw_plh h
  refine fw_istore (pc := 152) C (L2 := [(0, .ref _), (1, .int _), (2, .int _), (3, .int _), (4, .int _), (5, .int _), (6, .int _), (7, .int _)]) [1, 2, 3, 4, 5, 6, 0, 7] dX9_ranks_152 (by decide) rfl ?_
  refine fw_iinc (pc := 154) C (v := 1) (L2 := [(0, .ref _), (1, .int _), (2, .int _), (3, .int _), (4, .int _), (5, .int _), (6, .int _), (7, .int _)]) 7 [1, 2, 3, 4, 5, 6, 7, 0] dX9_ranks_154 rfl fk_iconst_1 (by decide) rfl ?_
  refine fw_goto (pc := 157) C (tgt := 99) dX9_ranks_157 (by decide) ?_
  exact (hK99 _ _ _ _ _ _ _ _ h)
set_option maxRecDepth 100000 in
theorem c_Mod_ranks_b99 {p : Program} {l : Launch} {e : Env} {s : State} {m : MethodId} {args : Array Value} {below : List Frame} {meth : Method} {c : Code} {D : va_G} {cI cZ cH cR : ClassId} {N : Nat} {ad : Nat → Nat} {EE : fw_M → Nat → va_E} {o : Nat} {K99 : fw_M → Int32 → Int32 → Int32 → Int32 → Int32 → Int32 → Int32 → Option (Int32 × fw_M)} {M : fw_M} {x1 : Int32} {x2 : Int32} {x3 : Int32} {x4 : Int32} {x5 : Int32} {x6 : Int32} {x7 : Int32} {z : (Int32 × fw_M)} (C : fw_C p s m args meth c cX9_ranks RX9 wsX9_ranks 8 (some .int) D vwCl (fw_tys cI cZ cH cR) N ad fw_nw0) (ho : o_Mod EE ad N cI cZ cH cR o) (hK99 : ∀ (Mk : fw_M) (kx1 : Int32) (kx2 : Int32) (kx3 : Int32) (kx4 : Int32) (kx5 : Int32) (kx6 : Int32) (kx7 : Int32), K99 Mk kx1 kx2 kx3 kx4 kx5 kx6 kx7 = some z → fw_J p l e (headSpec wsX9_ranks rm_Mod_ranks).room s m args below meth c D vwCl N ad EE 8 0 0 (fw_E below args s D vwCl N ad EE (some (.int z.1)) z.2) Mk [(0, .ref (ad o)), (1, .int kx1), (2, .int kx2), (3, .int kx3), (4, .int kx4), (5, .int kx5), (6, .int kx6), (7, .int kx7)] 99 []) (h : P_Mod_ranks_b99 o K99 M x1 x2 x3 x4 x5 x6 x7 = some z) : fw_J p l e (headSpec wsX9_ranks rm_Mod_ranks).room s m args below meth c D vwCl N ad EE 8 0 0 (fw_E below args s D vwCl N ad EE (some (.int z.1)) z.2) M [(0, .ref (ad o)), (1, .int x1), (2, .int x2), (3, .int x3), (4, .int x4), (5, .int x5), (6, .int x6), (7, .int x7)] 99 [] := by
  unfold P_Mod_ranks_b99 at h
  refine fw_iload (pc := 99) C 7 dX9_ranks_99 rfl ?_
  refine fw_bipush (pc := 101) C (v := 10) dX9_ranks_101 fk_bipush_10 ?_
  refine fw_icmp_ge (pc := 103) C (tgt := 160) dX9_ranks_103 (by decide) (fun c1 => ?_) (fun c1 => ?_)
  · have h := fw_ift h c1
    refine fw_iload (pc := 160) C 6 dX9_ranks_160 rfl ?_
    exact fw_iret (pc := 162) C (fw_p1 h) (fw_p2 h) dX9_ranks_162
  · have h := fw_iff h c1
    refine fw_aload_n (pc := 106) C 0 dX9_ranks_106 rfl rfl ?_
    obtain ⟨q2, hq2, h⟩ := fw_bind h
    refine fw_callV0 (pc := 107) C (rest := []) (c_Mod_layThen ho hq2) (cwV 0 C.2.2.2.2.1 gX9_ranks_X9_layThen rfl rfl rfl hd_Mod_layThen ⟨Nat.le_of_ble_eq_true rfl, Nat.le_of_ble_eq_true rfl⟩) ho.1 rfl rfl ⟨Nat.zero_le _, Nat.zero_le _⟩ rfl (Nat.le_of_ble_eq_true rfl) dX9_ranks_107 ?_
    refine fw_aload_n (pc := 110) C 0 dX9_ranks_110 rfl rfl ?_
    refine fw_getr (pc := 111) C ho.2.2.2.2.2.2.2.2.1.1 rfl qX9_ranks_25 dX9_ranks_111 ?_
    refine fw_iconst (pc := 114) C (v := 4) dX9_ranks_114 fk_iconst_4 ?_
    refine fw_iconst (pc := 115) C (v := 5) dX9_ranks_115 fk_iconst_5 ?_
    refine fw_iload_n (pc := 116) C 2 dX9_ranks_116 rfl rfl ?_
    refine fw_imul (pc := 117) C dX9_ranks_117 ?_
    refine fw_iadd (pc := 118) C dX9_ranks_118 ?_
    refine fw_iconst (pc := 119) C (v := 1) dX9_ranks_119 fk_iconst_1 ?_
    refine fw_iadd (pc := 120) C dX9_ranks_120 ?_
    refine fw_iload (pc := 121) C 7 dX9_ranks_121 rfl ?_
    obtain ⟨M3, hM3, h⟩ := fw_bind h
    refine fw_iast (pc := 123) C 0 ho.2.2.2.2.2.2.2.2.1.2 rfl hM3 dX9_ranks_123 ?_
    refine fw_iload (pc := 124) C 6 dX9_ranks_124 rfl ?_
    refine fw_aload_n (pc := 126) C 0 dX9_ranks_126 rfl rfl ?_
    refine fw_iload_n (pc := 127) C 1 dX9_ranks_127 rfl rfl ?_
    refine fw_bipush (pc := 128) C (v := 40) dX9_ranks_128 fk_bipush_40 ?_
    refine fw_iload_n (pc := 130) C 3 dX9_ranks_130 rfl rfl ?_
    refine fw_imul (pc := 131) C dX9_ranks_131 ?_
    refine fw_iload (pc := 132) C 4 dX9_ranks_132 rfl ?_
    refine fw_iadd (pc := 134) C dX9_ranks_134 ?_
    refine fw_iload (pc := 135) C 5 dX9_ranks_135 rfl ?_
    obtain ⟨q4, hq4, h⟩ := fw_bind h
    refine fw_callV1 (pc := 137) C (rest := [_]) (c_Mod_goSo ho hq4) (cwV 3 C.2.2.2.2.1 gX9_ranks_X9_goSo rfl rfl rfl hd_Mod_goSo ⟨Nat.le_of_ble_eq_true rfl, Nat.le_of_ble_eq_true rfl⟩) ho.1 rfl rfl ⟨Nat.zero_le _, Nat.zero_le _⟩ rfl (Nat.le_of_ble_eq_true rfl) dX9_ranks_137 ?_
    refine fw_if_eq (pc := 140) C (tgt := 150) dX9_ranks_140 (by decide) (fun c5 => ?_) (fun c5 => ?_)
    · have h := fw_ift h c5
      refine fw_iconst (pc := 150) C (v := 0) dX9_ranks_150 fk_iconst_0 ?_
      exact fw_sub [0, 1, 2, 3, 4, 5, 7] rfl (c_Mod_ranks_b151 C ho hK99 h)
    · have h := fw_iff h c5
      refine fw_iconst (pc := 143) C (v := 1) dX9_ranks_143 fk_iconst_1 ?_
      refine fw_iload (pc := 144) C 7 dX9_ranks_144 rfl ?_
      refine fw_ishl (pc := 146) C dX9_ranks_146 ?_
      refine fw_goto (pc := 147) C (tgt := 151) dX9_ranks_147 (by decide) ?_
      exact fw_sub [0, 1, 2, 3, 4, 5, 7] rfl (c_Mod_ranks_b151 C ho hK99 h)
theorem c_Mod_ranks_h99 {p : Program} {l : Launch} {e : Env} {s : State} {m : MethodId} {args : Array Value} {below : List Frame} {meth : Method} {c : Code} {D : va_G} {cI cZ cH cR : ClassId} {N : Nat} {ad : Nat → Nat} {EE : fw_M → Nat → va_E} {o : Nat} {z : (Int32 × fw_M)} (C : fw_C p s m args meth c cX9_ranks RX9 wsX9_ranks 8 (some .int) D vwCl (fw_tys cI cZ cH cR) N ad fw_nw0) (ho : o_Mod EE ad N cI cZ cH cR o) : ∀ (n : Nat) (M : fw_M) (x1 : Int32) (x2 : Int32) (x3 : Int32) (x4 : Int32) (x5 : Int32) (x6 : Int32) (x7 : Int32), P_Mod_ranks_h99 o n M x1 x2 x3 x4 x5 x6 x7 = some z → fw_J p l e (headSpec wsX9_ranks rm_Mod_ranks).room s m args below meth c D vwCl N ad EE 8 0 0 (fw_E below args s D vwCl N ad EE (some (.int z.1)) z.2) M [(0, .ref (ad o)), (1, .int x1), (2, .int x2), (3, .int x3), (4, .int x4), (5, .int x5), (6, .int x6), (7, .int x7)] 99 [] := by
  intro n
  induction n with
  | zero => intro M x1 x2 x3 x4 x5 x6 x7  h; cases h
  | succ n ih => intro M x1 x2 x3 x4 x5 x6 x7  h; exact c_Mod_ranks_b99 C ho ih  h
set_option maxRecDepth 100000 in
theorem c_Mod_ranks_b0 {p : Program} {l : Launch} {e : Env} {s : State} {m : MethodId} {args : Array Value} {below : List Frame} {meth : Method} {c : Code} {D : va_G} {cI cZ cH cR : ClassId} {N : Nat} {ad : Nat → Nat} {EE : fw_M → Nat → va_E} {o : Nat} {M : fw_M} {x1 : Int32} {x2 : Int32} {x3 : Int32} {x4 : Int32} {x5 : Int32} {z : (Int32 × fw_M)} (C : fw_C p s m args meth c cX9_ranks RX9 wsX9_ranks 8 (some .int) D vwCl (fw_tys cI cZ cH cR) N ad fw_nw0) (ho : o_Mod EE ad N cI cZ cH cR o) (h : P_Mod_ranks_b0 o M x1 x2 x3 x4 x5 = some z) : fw_J p l e (headSpec wsX9_ranks rm_Mod_ranks).room s m args below meth c D vwCl N ad EE 8 0 0 (fw_E below args s D vwCl N ad EE (some (.int z.1)) z.2) M [(0, .ref (ad o)), (1, .int x1), (2, .int x2), (3, .int x3), (4, .int x4), (5, .int x5)] 0 [] := by
  unfold P_Mod_ranks_b0 at h
  refine fw_aload_n (pc := 0) C 0 dX9_ranks_0 rfl rfl ?_
  refine fw_iconst (pc := 1) C (v := 0) dX9_ranks_1 fk_iconst_0 ?_
  have h := fw_plh h
  refine fw_puti (pc := 2) C ho.2.1 rfl qX9_ranks_47 tyX9 tyX9_ok nmX9 rfl rfl dX9_ranks_2 ?_
  refine fw_aload_n (pc := 5) C 0 dX9_ranks_5 rfl rfl ?_
  refine fw_iload_n (pc := 6) C 1 dX9_ranks_6 rfl rfl ?_
  obtain ⟨v2, hv2, h⟩ := fw_bind h
  refine fw_callV1 (pc := 7) C (rest := []) (c_Mod_isDoor ho hv2) (cwV 1 C.2.2.2.2.1 gX9_ranks_X9_isDoor rfl rfl rfl hd_Mod_isDoor ⟨Nat.le_of_ble_eq_true rfl, Nat.le_of_ble_eq_true rfl⟩) ho.1 rfl rfl ⟨Nat.zero_le _, Nat.zero_le _⟩ rfl (Nat.le_of_ble_eq_true rfl) dX9_ranks_7 ?_
  refine fw_if_eq (pc := 10) C (tgt := 41) dX9_ranks_10 (by decide) (fun c3 => ?_) (fun c3 => ?_)
  · have h := fw_ift h c3
    exact fw_sub [] rfl (c_Mod_ranks_b41 C ho h)
  · have h := fw_iff h c3
    refine fw_aload_n (pc := 13) C 0 dX9_ranks_13 rfl rfl ?_
    refine fw_iload_n (pc := 14) C 2 dX9_ranks_14 rfl rfl ?_
    obtain ⟨v4, hv4, h⟩ := fw_bind h
    refine fw_callV1 (pc := 15) C (rest := []) (c_Mod_isPerson ho hv4) (cwV 1 C.2.2.2.2.1 gX9_ranks_X9_isPerson rfl rfl rfl hd_Mod_isPerson ⟨Nat.le_of_ble_eq_true rfl, Nat.le_of_ble_eq_true rfl⟩) ho.1 rfl rfl ⟨Nat.zero_le _, Nat.zero_le _⟩ rfl (Nat.le_of_ble_eq_true rfl) dX9_ranks_15 ?_
    refine fw_if_eq (pc := 18) C (tgt := 41) dX9_ranks_18 (by decide) (fun c5 => ?_) (fun c5 => ?_)
    · have h := fw_ift h c5
      exact fw_sub [] rfl (c_Mod_ranks_b41 C ho h)
    · have h := fw_iff h c5
      refine fw_iload_n (pc := 21) C 3 dX9_ranks_21 rfl rfl ?_
      obtain ⟨v6, hv6, h⟩ := fw_bind h
      refine fw_callS1 (pc := 22) C (rest := []) (c_Mod_isRow  hv6) (va_cwS 1 C.2.2.2.2.1 gX9_ranks_X9_isRow rfl rfl rfl hd_Mod_isRow.2 ⟨Nat.le_of_ble_eq_true rfl, Nat.le_of_ble_eq_true rfl⟩) rfl ⟨Nat.zero_le _, Nat.zero_le _⟩ rfl (Nat.le_of_ble_eq_true rfl) dX9_ranks_22 ?_
      refine fw_if_eq (pc := 25) C (tgt := 41) dX9_ranks_25 (by decide) (fun c7 => ?_) (fun c7 => ?_)
      · have h := fw_ift h c7
        exact fw_sub [] rfl (c_Mod_ranks_b41 C ho h)
      · have h := fw_iff h c7
        refine fw_iload (pc := 28) C 5 dX9_ranks_28 rfl ?_
        refine fw_i2l (pc := 30) C dX9_ranks_30 ?_
        refine fw_lconst (pc := 31) C (v := 1) dX9_ranks_31 fk_lconst_1 ?_
        refine fw_ldc2 (pc := 32) C (v := 12) kX9_ranks_218 dX9_ranks_32 ?_
        obtain ⟨v8, hv8, h⟩ := fw_bind h
        refine fw_callS1 (pc := 35) C (rest := []) (c_Mod_in  hv8) (va_cwS 3 C.2.2.2.2.1 gX9_ranks_X9_in rfl rfl rfl hd_Mod_in.2 ⟨Nat.le_of_ble_eq_true rfl, Nat.le_of_ble_eq_true rfl⟩) rfl ⟨Nat.zero_le _, Nat.zero_le _⟩ rfl (Nat.le_of_ble_eq_true rfl) dX9_ranks_35 ?_
        refine fw_if_ne (pc := 38) C (tgt := 44) dX9_ranks_38 (by decide) (fun c9 => ?_) (fun c9 => ?_)
        · have h := fw_iff h c9
          refine fw_aload_n (pc := 44) C 0 dX9_ranks_44 rfl rfl ?_
          refine fw_getr (pc := 45) C ho.2.2.2.1.1 rfl qX9_ranks_7 dX9_ranks_45 ?_
          refine fw_iload_n (pc := 48) C 3 dX9_ranks_48 rfl rfl ?_
          obtain ⟨v10, hv10, h⟩ := fw_bind h
          refine fw_iald (pc := 49) C 0 ho.2.2.2.1.2 rfl hv10 dX9_ranks_49 ?_
          refine fw_if_ge (pc := 50) C (tgt := 59) dX9_ranks_50 (by decide) (fun c11 => ?_) (fun c11 => ?_)
          · have h := fw_ift h c11
            refine fw_iload (pc := 59) C 4 dX9_ranks_59 rfl ?_
            refine fw_if_lt (pc := 61) C (tgt := 82) dX9_ranks_61 (by decide) (fun c12 => ?_) (fun c12 => ?_)
            · have h := fw_ift h c12
              exact fw_sub [0] rfl (c_Mod_ranks_b82 C ho h)
            · have h := fw_iff h c12
              refine fw_iload (pc := 64) C 4 dX9_ranks_64 rfl ?_
              refine fw_i2l (pc := 66) C dX9_ranks_66 ?_
              refine fw_iload (pc := 67) C 5 dX9_ranks_67 rfl ?_
              refine fw_i2l (pc := 69) C dX9_ranks_69 ?_
              refine fw_ladd (pc := 70) C dX9_ranks_70 ?_
              refine fw_aload_n (pc := 71) C 0 dX9_ranks_71 rfl rfl ?_
              refine fw_getr (pc := 72) C ho.2.2.2.2.1.1 rfl qX9_ranks_13 dX9_ranks_72 ?_
              refine fw_iload_n (pc := 75) C 3 dX9_ranks_75 rfl rfl ?_
              obtain ⟨v13, hv13, h⟩ := fw_bind h
              refine fw_iald (pc := 76) C 0 ho.2.2.2.2.1.2 rfl hv13 dX9_ranks_76 ?_
              refine fw_i2l (pc := 77) C dX9_ranks_77 ?_
              refine fw_lcmp (pc := 78) C dX9_ranks_78 ?_
              refine fw_if_le (pc := 79) C (tgt := 88) dX9_ranks_79 (by decide) (fun c14 => ?_) (fun c14 => ?_)
              · have h := fw_ift h c14
                refine fw_aload_n (pc := 88) C 0 dX9_ranks_88 rfl rfl ?_
                refine fw_iconst (pc := 89) C (v := 0) dX9_ranks_89 fk_iconst_0 ?_
                have h := fw_plh h
                refine fw_puti (pc := 90) C ho.2.2.1 rfl qX9_ranks_51 tyX9 tyX9_ok nmX9 rfl rfl dX9_ranks_90 ?_
                refine fw_iconst (pc := 93) C (v := 0) dX9_ranks_93 fk_iconst_0 ?_
                refine fw_istore (pc := 94) C (L2 := [(0, .ref _), (1, .int _), (2, .int _), (3, .int _), (4, .int _), (5, .int _), (6, .int _)]) [1, 2, 3, 4, 5, 6, 0] dX9_ranks_94 (by decide) rfl ?_
                refine fw_iconst (pc := 96) C (v := 0) dX9_ranks_96 fk_iconst_0 ?_
                refine fw_istore (pc := 97) C (L2 := [(0, .ref _), (1, .int _), (2, .int _), (3, .int _), (4, .int _), (5, .int _), (6, .int _), (7, .int _)]) [1, 2, 3, 4, 5, 6, 7, 0] dX9_ranks_97 (by decide) rfl ?_
                exact (c_Mod_ranks_h99 C ho _ _ _ _ _ _ _ _ _ h)
              · have h := fw_iff h c14
                exact fw_sub [0] rfl (c_Mod_ranks_b82 C ho h)
          · have h := fw_iff h c11
            refine fw_aload_n (pc := 53) C 0 dX9_ranks_53 rfl rfl ?_
            refine fw_iconst (pc := 54) C (v := 1) dX9_ranks_54 fk_iconst_1 ?_
            obtain ⟨q16, hq16, h⟩ := fw_bind h
            refine fw_callV1 (pc := 55) C (rest := []) (c_Mod_finding ho hq16) (cwV 1 C.2.2.2.2.1 gX9_ranks_X9_finding rfl rfl rfl hd_Mod_finding ⟨Nat.le_of_ble_eq_true rfl, Nat.le_of_ble_eq_true rfl⟩) ho.1 rfl rfl ⟨Nat.zero_le _, Nat.zero_le _⟩ rfl (Nat.le_of_ble_eq_true rfl) dX9_ranks_55 ?_
            exact fw_iret (pc := 58) C (fw_p1 h) (fw_p2 h) dX9_ranks_58
        · have h := fw_ift h c9
          exact fw_sub [] rfl (c_Mod_ranks_b41 C ho h)
theorem c_Mod_ranks {l : Launch} {D : va_G} {cI cZ cH cR : ClassId} {N : Nat} {ad : Nat → Nat} {EE : fw_M → Nat → va_E} {o : Nat} {M : fw_M} {a0 : Int32} {a1 : Int32} {a2 : Int32} {a3 : Int32} {a4 : Int32} {z : (Int32 × fw_M)} (ho : o_Mod EE ad N cI cZ cH cR o) (h : P_Mod_ranks o M a0 a1 a2 a3 a4 = some z) : fw_Met l yX9_ranks wsX9_ranks rm_Mod_ranks D vwCl (fw_tys cI cZ cH cR) N ad fw_nw0 EE [.ref (ad o), .int a0, .int a1, .int a2, .int a3, .int a4] M (some (.int z.1)) z.2 := by
  unfold P_Mod_ranks at h
  exact fw_intro (cc := cX9_ranks) (maxL := 8) (ret := some .int) (own := RX9) (by decide) rfl rfl (Nat.le_of_ble_eq_true rfl) (fun p e s m args below meth c C => fw_sub [0, 1, 2, 3, 4, 5] rfl (c_Mod_ranks_b0 C ho h))
end
