noncomputable section
abbrev rm_Mod_who : Room := { frames := 7, cells := 0, slots := 0, locals := 163 }
theorem hd_Mod_who : yX9_who.cls = RX9 ∧ yX9_who.cls ≠ "java/lang/invoke/MethodHandle" ∧ yX9_who.cls ≠ "java/lang/invoke/VarHandle" ∧ (parseMethodDescriptor yX9_who.desc).map (fun d => d.parameters.length) = some 5 := by decide +kernel
theorem qX9_who_47 : fw_G wsX9_who RX9 47 RX9 TX9 24 0 := ⟨by decide +kernel, by decide +kernel, by decide⟩
theorem kX9_who_218 : Cond.constantLong RX9 218 (12) ∈ wsX9_who := by decide +kernel
theorem qX9_who_7 : fw_G wsX9_who RX9 7 RX9 TX9 24 2 := ⟨by decide +kernel, by decide +kernel, by decide⟩
theorem qX9_who_13 : fw_G wsX9_who RX9 13 RX9 TX9 24 3 := ⟨by decide +kernel, by decide +kernel, by decide⟩
theorem qX9_who_51 : fw_G wsX9_who RX9 51 RX9 TX9 24 1 := ⟨by decide +kernel, by decide +kernel, by decide⟩
theorem qX9_who_25 : fw_G wsX9_who RX9 25 RX9 TX9 24 7 := ⟨by decide +kernel, by decide +kernel, by decide⟩
theorem kX9_who_67 : Cond.constant RX9 67 (-1000001) ∈ wsX9_who := by decide +kernel
def P_Mod_who_b41 (o : Nat) (M : fw_M) : Option (Int32 × fw_M) := some ((-1000001 : Int32), M)
def P_Mod_who_b82 (o : Nat) (M : fw_M) : Option (Int32 × fw_M) := (P_Mod_finding o M (2 : Int32)).bind fun q1 => some (q1.1, q1.2)
def P_Mod_who_b150 (o : Nat) (K99 : fw_M → Int32 → Int32 → Int32 → Int32 → Int32 → Int32 → Int32 → Option (Int32 × fw_M)) (M : fw_M) (x1 : Int32) (x2 : Int32) (x3 : Int32) (x4 : Int32) (x5 : Int32) (x7 : Int32) (t0 : Int32) (t1 : Int32) : Option (Int32 × fw_M) := fw_pl ((t0 ||| t1)) fun y1 => K99 M x1 x2 x3 x4 x5 y1 (x7 + (1 : Int32))
def P_Mod_who_b99 (o : Nat) (K99 : fw_M → Int32 → Int32 → Int32 → Int32 → Int32 → Int32 → Int32 → Option (Int32 × fw_M)) (M : fw_M) (x1 : Int32) (x2 : Int32) (x3 : Int32) (x4 : Int32) (x5 : Int32) (x6 : Int32) (x7 : Int32) : Option (Int32 × fw_M) := (if (5 : Int32) < x7 then some (x6, M) else (P_Mod_layThen o M).bind fun q2 => (fw_ast q2 (o + 6) 39 (((4 : Int32) + ((5 : Int32) * x2)) + (0 : Int32)) x7).bind fun M3 => (P_Mod_goSo o M3 x1 (((40 : Int32) * x3) + x4) x5).bind fun q4 => (if q4.1 = (0 : Int32) then P_Mod_who_b150 o K99 q4.2 x1 x2 x3 x4 x5 x7 x6 (0 : Int32) else P_Mod_who_b150 o K99 q4.2 x1 x2 x3 x4 x5 x7 x6 ((1 : Int32) <<< (x7 &&& 31))))
def P_Mod_who_h99 (o : Nat) : Nat → fw_M → Int32 → Int32 → Int32 → Int32 → Int32 → Int32 → Int32 → Option (Int32 × fw_M)
  | 0, _, _, _, _, _, _, _, _ => none
  | n + 1, M, x1, x2, x3, x4, x5, x6, x7 => P_Mod_who_b99 o (P_Mod_who_h99 o n) M x1 x2 x3 x4 x5 x6 x7
def P_Mod_who_b0 (o : Nat) (M : fw_M) (x1 : Int32) (x2 : Int32) (x3 : Int32) (x4 : Int32) (x5 : Int32) : Option (Int32 × fw_M) := fw_pl (fw_set M o 0 (0 : Int32)) fun M1 => (P_Mod_isDoor o M1 x1).bind fun v2 => (if v2 = (0 : Int32) then P_Mod_who_b41 o M1 else (P_Mod_isPerson o M1 x2).bind fun v4 => (if v4 = (0 : Int32) then P_Mod_who_b41 o M1 else (P_Mod_isRow M1 x3).bind fun v6 => (if v6 = (0 : Int32) then P_Mod_who_b41 o M1 else (P_Mod_in M1 (Int32.toInt64 x5) (1 : Int64) (12 : Int64)).bind fun v8 => (if v8 = (0 : Int32) then P_Mod_who_b41 o M1 else (fw_ald M1 (o + 1) 8 x3).bind fun v10 => (if (0 : Int32) ≤ v10 then (if x4 < (0 : Int32) then P_Mod_who_b82 o M1 else (fw_ald M1 (o + 2) 8 x3).bind fun v13 => (if (lg_cmp ((Int32.toInt64 x4) + (Int32.toInt64 x5)) (Int32.toInt64 v13)) ≤ (0 : Int32) then fw_pl (fw_set M1 o 1 (0 : Int32)) fun M15 => P_Mod_who_h99 o fw_fu M15 x1 x2 x3 x4 x5 (0 : Int32) (1 : Int32) else P_Mod_who_b82 o M1)) else (P_Mod_finding o M1 (1 : Int32)).bind fun q16 => some (q16.1, q16.2))))))
def P_Mod_who (o : Nat) (M : fw_M) (a0 : Int32) (a1 : Int32) (a2 : Int32) (a3 : Int32) (a4 : Int32) : Option (Int32 × fw_M) := P_Mod_who_b0 o M a0 a1 a2 a3 a4
set_option maxRecDepth 100000 in
theorem c_Mod_who_b41 {p : Program} {l : Launch} {e : Env} {s : State} {m : MethodId} {args : Array Value} {below : List Frame} {meth : Method} {c : Code} {D : va_G} {cI cZ cH cR : ClassId} {N : Nat} {ad : Nat → Nat} {EE : fw_M → Nat → va_E} {o : Nat} {M : fw_M} {z : (Int32 × fw_M)} (C : fw_C p s m args meth c cX9_who RX9 wsX9_who 8 (some .int) D vwCl (fw_tys cI cZ cH cR) N ad fw_nw0) (ho : o_Mod EE ad N cI cZ cH cR o) (h : P_Mod_who_b41 o M = some z) : fw_J p l e (headSpec wsX9_who rm_Mod_who).room s m args below meth c D vwCl N ad EE 8 0 0 (fw_E below args s D vwCl N ad EE (some (.int z.1)) z.2) M [] 41 [] := by
  unfold P_Mod_who_b41 at h
  refine fw_ldc (pc := 41) C (v := -1000001) kX9_who_67 dX9_who_41 ?_
  exact fw_iret (pc := 43) C (fw_p1 h) (fw_p2 h) dX9_who_43
set_option maxRecDepth 100000 in
theorem c_Mod_who_b82 {p : Program} {l : Launch} {e : Env} {s : State} {m : MethodId} {args : Array Value} {below : List Frame} {meth : Method} {c : Code} {D : va_G} {cI cZ cH cR : ClassId} {N : Nat} {ad : Nat → Nat} {EE : fw_M → Nat → va_E} {o : Nat} {M : fw_M} {z : (Int32 × fw_M)} (C : fw_C p s m args meth c cX9_who RX9 wsX9_who 8 (some .int) D vwCl (fw_tys cI cZ cH cR) N ad fw_nw0) (ho : o_Mod EE ad N cI cZ cH cR o) (h : P_Mod_who_b82 o M = some z) : fw_J p l e (headSpec wsX9_who rm_Mod_who).room s m args below meth c D vwCl N ad EE 8 0 0 (fw_E below args s D vwCl N ad EE (some (.int z.1)) z.2) M [(0, .ref (ad o))] 82 [] := by
  unfold P_Mod_who_b82 at h
  refine fw_aload_n (pc := 82) C 0 dX9_who_82 rfl rfl ?_
  refine fw_iconst (pc := 83) C (v := 2) dX9_who_83 fk_iconst_2 ?_
  obtain ⟨q1, hq1, h⟩ := fw_bind h
  refine fw_callV1 (pc := 84) C (rest := []) (c_Mod_finding ho hq1) (cwV 1 C.2.2.2.2.1 gX9_who_X9_finding rfl rfl rfl hd_Mod_finding ⟨Nat.le_of_ble_eq_true rfl, Nat.le_of_ble_eq_true rfl⟩) ho.1 rfl rfl ⟨Nat.zero_le _, Nat.zero_le _⟩ rfl (Nat.le_of_ble_eq_true rfl) dX9_who_84 ?_
  exact fw_iret (pc := 87) C (fw_p1 h) (fw_p2 h) dX9_who_87
set_option maxRecDepth 100000 in
theorem c_Mod_who_b150 {p : Program} {l : Launch} {e : Env} {s : State} {m : MethodId} {args : Array Value} {below : List Frame} {meth : Method} {c : Code} {D : va_G} {cI cZ cH cR : ClassId} {N : Nat} {ad : Nat → Nat} {EE : fw_M → Nat → va_E} {o : Nat} {K99 : fw_M → Int32 → Int32 → Int32 → Int32 → Int32 → Int32 → Int32 → Option (Int32 × fw_M)} {M : fw_M} {x1 : Int32} {x2 : Int32} {x3 : Int32} {x4 : Int32} {x5 : Int32} {x7 : Int32} {t0 : Int32} {t1 : Int32} {z : (Int32 × fw_M)} (C : fw_C p s m args meth c cX9_who RX9 wsX9_who 8 (some .int) D vwCl (fw_tys cI cZ cH cR) N ad fw_nw0) (ho : o_Mod EE ad N cI cZ cH cR o) (hK99 : ∀ (Mk : fw_M) (kx1 : Int32) (kx2 : Int32) (kx3 : Int32) (kx4 : Int32) (kx5 : Int32) (kx6 : Int32) (kx7 : Int32), K99 Mk kx1 kx2 kx3 kx4 kx5 kx6 kx7 = some z → fw_J p l e (headSpec wsX9_who rm_Mod_who).room s m args below meth c D vwCl N ad EE 8 0 0 (fw_E below args s D vwCl N ad EE (some (.int z.1)) z.2) Mk [(0, .ref (ad o)), (1, .int kx1), (2, .int kx2), (3, .int kx3), (4, .int kx4), (5, .int kx5), (6, .int kx6), (7, .int kx7)] 99 []) (h : P_Mod_who_b150 o K99 M x1 x2 x3 x4 x5 x7 t0 t1 = some z) : fw_J p l e (headSpec wsX9_who rm_Mod_who).room s m args below meth c D vwCl N ad EE 8 0 0 (fw_E below args s D vwCl N ad EE (some (.int z.1)) z.2) M [(0, .ref (ad o)), (1, .int x1), (2, .int x2), (3, .int x3), (4, .int x4), (5, .int x5), (7, .int x7)] 150 [.int t1, .int t0] := by
  unfold P_Mod_who_b150 at h
  refine fw_ior (pc := 150) C dX9_who_150 ?_
  have h := fw_plh h
  refine fw_istore (pc := 151) C (L2 := [(0, .ref _), (1, .int _), (2, .int _), (3, .int _), (4, .int _), (5, .int _), (6, .int _), (7, .int _)]) [1, 2, 3, 4, 5, 6, 0, 7] dX9_who_151 (by decide) rfl ?_
  refine fw_iinc (pc := 153) C (v := 1) (L2 := [(0, .ref _), (1, .int _), (2, .int _), (3, .int _), (4, .int _), (5, .int _), (6, .int _), (7, .int _)]) 7 [1, 2, 3, 4, 5, 6, 7, 0] dX9_who_153 rfl fk_iconst_1 (by decide) rfl ?_
  refine fw_goto (pc := 156) C (tgt := 99) dX9_who_156 (by decide) ?_
  exact (hK99 _ _ _ _ _ _ _ _ h)
set_option maxRecDepth 100000 in
theorem c_Mod_who_b99 {p : Program} {l : Launch} {e : Env} {s : State} {m : MethodId} {args : Array Value} {below : List Frame} {meth : Method} {c : Code} {D : va_G} {cI cZ cH cR : ClassId} {N : Nat} {ad : Nat → Nat} {EE : fw_M → Nat → va_E} {o : Nat} {K99 : fw_M → Int32 → Int32 → Int32 → Int32 → Int32 → Int32 → Int32 → Option (Int32 × fw_M)} {M : fw_M} {x1 : Int32} {x2 : Int32} {x3 : Int32} {x4 : Int32} {x5 : Int32} {x6 : Int32} {x7 : Int32} {z : (Int32 × fw_M)} (C : fw_C p s m args meth c cX9_who RX9 wsX9_who 8 (some .int) D vwCl (fw_tys cI cZ cH cR) N ad fw_nw0) (ho : o_Mod EE ad N cI cZ cH cR o) (hK99 : ∀ (Mk : fw_M) (kx1 : Int32) (kx2 : Int32) (kx3 : Int32) (kx4 : Int32) (kx5 : Int32) (kx6 : Int32) (kx7 : Int32), K99 Mk kx1 kx2 kx3 kx4 kx5 kx6 kx7 = some z → fw_J p l e (headSpec wsX9_who rm_Mod_who).room s m args below meth c D vwCl N ad EE 8 0 0 (fw_E below args s D vwCl N ad EE (some (.int z.1)) z.2) Mk [(0, .ref (ad o)), (1, .int kx1), (2, .int kx2), (3, .int kx3), (4, .int kx4), (5, .int kx5), (6, .int kx6), (7, .int kx7)] 99 []) (h : P_Mod_who_b99 o K99 M x1 x2 x3 x4 x5 x6 x7 = some z) : fw_J p l e (headSpec wsX9_who rm_Mod_who).room s m args below meth c D vwCl N ad EE 8 0 0 (fw_E below args s D vwCl N ad EE (some (.int z.1)) z.2) M [(0, .ref (ad o)), (1, .int x1), (2, .int x2), (3, .int x3), (4, .int x4), (5, .int x5), (6, .int x6), (7, .int x7)] 99 [] := by
  unfold P_Mod_who_b99 at h
  refine fw_iload (pc := 99) C 7 dX9_who_99 rfl ?_
  refine fw_iconst (pc := 101) C (v := 5) dX9_who_101 fk_iconst_5 ?_
  refine fw_icmp_gt (pc := 102) C (tgt := 159) dX9_who_102 (by decide) (fun c1 => ?_) (fun c1 => ?_)
  · have h := fw_ift h c1
    refine fw_iload (pc := 159) C 6 dX9_who_159 rfl ?_
    exact fw_iret (pc := 161) C (fw_p1 h) (fw_p2 h) dX9_who_161
  · have h := fw_iff h c1
    refine fw_aload_n (pc := 105) C 0 dX9_who_105 rfl rfl ?_
    obtain ⟨q2, hq2, h⟩ := fw_bind h
    refine fw_callV0 (pc := 106) C (rest := []) (c_Mod_layThen ho hq2) (cwV 0 C.2.2.2.2.1 gX9_who_X9_layThen rfl rfl rfl hd_Mod_layThen ⟨Nat.le_of_ble_eq_true rfl, Nat.le_of_ble_eq_true rfl⟩) ho.1 rfl rfl ⟨Nat.zero_le _, Nat.zero_le _⟩ rfl (Nat.le_of_ble_eq_true rfl) dX9_who_106 ?_
    refine fw_aload_n (pc := 109) C 0 dX9_who_109 rfl rfl ?_
    refine fw_getr (pc := 110) C ho.2.2.2.2.2.2.2.2.1.1 rfl qX9_who_25 dX9_who_110 ?_
    refine fw_iconst (pc := 113) C (v := 4) dX9_who_113 fk_iconst_4 ?_
    refine fw_iconst (pc := 114) C (v := 5) dX9_who_114 fk_iconst_5 ?_
    refine fw_iload_n (pc := 115) C 2 dX9_who_115 rfl rfl ?_
    refine fw_imul (pc := 116) C dX9_who_116 ?_
    refine fw_iadd (pc := 117) C dX9_who_117 ?_
    refine fw_iconst (pc := 118) C (v := 0) dX9_who_118 fk_iconst_0 ?_
    refine fw_iadd (pc := 119) C dX9_who_119 ?_
    refine fw_iload (pc := 120) C 7 dX9_who_120 rfl ?_
    obtain ⟨M3, hM3, h⟩ := fw_bind h
    refine fw_iast (pc := 122) C 0 ho.2.2.2.2.2.2.2.2.1.2 rfl hM3 dX9_who_122 ?_
    refine fw_iload (pc := 123) C 6 dX9_who_123 rfl ?_
    refine fw_aload_n (pc := 125) C 0 dX9_who_125 rfl rfl ?_
    refine fw_iload_n (pc := 126) C 1 dX9_who_126 rfl rfl ?_
    refine fw_bipush (pc := 127) C (v := 40) dX9_who_127 fk_bipush_40 ?_
    refine fw_iload_n (pc := 129) C 3 dX9_who_129 rfl rfl ?_
    refine fw_imul (pc := 130) C dX9_who_130 ?_
    refine fw_iload (pc := 131) C 4 dX9_who_131 rfl ?_
    refine fw_iadd (pc := 133) C dX9_who_133 ?_
    refine fw_iload (pc := 134) C 5 dX9_who_134 rfl ?_
    obtain ⟨q4, hq4, h⟩ := fw_bind h
    refine fw_callV1 (pc := 136) C (rest := [_]) (c_Mod_goSo ho hq4) (cwV 3 C.2.2.2.2.1 gX9_who_X9_goSo rfl rfl rfl hd_Mod_goSo ⟨Nat.le_of_ble_eq_true rfl, Nat.le_of_ble_eq_true rfl⟩) ho.1 rfl rfl ⟨Nat.zero_le _, Nat.zero_le _⟩ rfl (Nat.le_of_ble_eq_true rfl) dX9_who_136 ?_
    refine fw_if_eq (pc := 139) C (tgt := 149) dX9_who_139 (by decide) (fun c5 => ?_) (fun c5 => ?_)
    · have h := fw_ift h c5
      refine fw_iconst (pc := 149) C (v := 0) dX9_who_149 fk_iconst_0 ?_
      exact fw_sub [0, 1, 2, 3, 4, 5, 7] rfl (c_Mod_who_b150 C ho hK99 h)
    · have h := fw_iff h c5
      refine fw_iconst (pc := 142) C (v := 1) dX9_who_142 fk_iconst_1 ?_
      refine fw_iload (pc := 143) C 7 dX9_who_143 rfl ?_
      refine fw_ishl (pc := 145) C dX9_who_145 ?_
      refine fw_goto (pc := 146) C (tgt := 150) dX9_who_146 (by decide) ?_
      exact fw_sub [0, 1, 2, 3, 4, 5, 7] rfl (c_Mod_who_b150 C ho hK99 h)
theorem c_Mod_who_h99 {p : Program} {l : Launch} {e : Env} {s : State} {m : MethodId} {args : Array Value} {below : List Frame} {meth : Method} {c : Code} {D : va_G} {cI cZ cH cR : ClassId} {N : Nat} {ad : Nat → Nat} {EE : fw_M → Nat → va_E} {o : Nat} {z : (Int32 × fw_M)} (C : fw_C p s m args meth c cX9_who RX9 wsX9_who 8 (some .int) D vwCl (fw_tys cI cZ cH cR) N ad fw_nw0) (ho : o_Mod EE ad N cI cZ cH cR o) : ∀ (n : Nat) (M : fw_M) (x1 : Int32) (x2 : Int32) (x3 : Int32) (x4 : Int32) (x5 : Int32) (x6 : Int32) (x7 : Int32), P_Mod_who_h99 o n M x1 x2 x3 x4 x5 x6 x7 = some z → fw_J p l e (headSpec wsX9_who rm_Mod_who).room s m args below meth c D vwCl N ad EE 8 0 0 (fw_E below args s D vwCl N ad EE (some (.int z.1)) z.2) M [(0, .ref (ad o)), (1, .int x1), (2, .int x2), (3, .int x3), (4, .int x4), (5, .int x5), (6, .int x6), (7, .int x7)] 99 [] := by
  intro n
  induction n with
  | zero => intro M x1 x2 x3 x4 x5 x6 x7  h; cases h
  | succ n ih => intro M x1 x2 x3 x4 x5 x6 x7  h; exact c_Mod_who_b99 C ho ih  h
set_option maxRecDepth 100000 in
theorem c_Mod_who_b0 {p : Program} {l : Launch} {e : Env} {s : State} {m : MethodId} {args : Array Value} {below : List Frame} {meth : Method} {c : Code} {D : va_G} {cI cZ cH cR : ClassId} {N : Nat} {ad : Nat → Nat} {EE : fw_M → Nat → va_E} {o : Nat} {M : fw_M} {x1 : Int32} {x2 : Int32} {x3 : Int32} {x4 : Int32} {x5 : Int32} {z : (Int32 × fw_M)} (C : fw_C p s m args meth c cX9_who RX9 wsX9_who 8 (some .int) D vwCl (fw_tys cI cZ cH cR) N ad fw_nw0) (ho : o_Mod EE ad N cI cZ cH cR o) (h : P_Mod_who_b0 o M x1 x2 x3 x4 x5 = some z) : fw_J p l e (headSpec wsX9_who rm_Mod_who).room s m args below meth c D vwCl N ad EE 8 0 0 (fw_E below args s D vwCl N ad EE (some (.int z.1)) z.2) M [(0, .ref (ad o)), (1, .int x1), (2, .int x2), (3, .int x3), (4, .int x4), (5, .int x5)] 0 [] := by
  unfold P_Mod_who_b0 at h
  refine fw_aload_n (pc := 0) C 0 dX9_who_0 rfl rfl ?_
  refine fw_iconst (pc := 1) C (v := 0) dX9_who_1 fk_iconst_0 ?_
  have h := fw_plh h
  refine fw_puti (pc := 2) C ho.2.1 rfl qX9_who_47 tyX9 tyX9_ok nmX9 rfl rfl dX9_who_2 ?_
  refine fw_aload_n (pc := 5) C 0 dX9_who_5 rfl rfl ?_
  refine fw_iload_n (pc := 6) C 1 dX9_who_6 rfl rfl ?_
  obtain ⟨v2, hv2, h⟩ := fw_bind h
  refine fw_callV1 (pc := 7) C (rest := []) (c_Mod_isDoor ho hv2) (cwV 1 C.2.2.2.2.1 gX9_who_X9_isDoor rfl rfl rfl hd_Mod_isDoor ⟨Nat.le_of_ble_eq_true rfl, Nat.le_of_ble_eq_true rfl⟩) ho.1 rfl rfl ⟨Nat.zero_le _, Nat.zero_le _⟩ rfl (Nat.le_of_ble_eq_true rfl) dX9_who_7 ?_
  refine fw_if_eq (pc := 10) C (tgt := 41) dX9_who_10 (by decide) (fun c3 => ?_) (fun c3 => ?_)
  · have h := fw_ift h c3
    exact fw_sub [] rfl (c_Mod_who_b41 C ho h)
  · have h := fw_iff h c3
    refine fw_aload_n (pc := 13) C 0 dX9_who_13 rfl rfl ?_
    refine fw_iload_n (pc := 14) C 2 dX9_who_14 rfl rfl ?_
    obtain ⟨v4, hv4, h⟩ := fw_bind h
    refine fw_callV1 (pc := 15) C (rest := []) (c_Mod_isPerson ho hv4) (cwV 1 C.2.2.2.2.1 gX9_who_X9_isPerson rfl rfl rfl hd_Mod_isPerson ⟨Nat.le_of_ble_eq_true rfl, Nat.le_of_ble_eq_true rfl⟩) ho.1 rfl rfl ⟨Nat.zero_le _, Nat.zero_le _⟩ rfl (Nat.le_of_ble_eq_true rfl) dX9_who_15 ?_
    refine fw_if_eq (pc := 18) C (tgt := 41) dX9_who_18 (by decide) (fun c5 => ?_) (fun c5 => ?_)
    · have h := fw_ift h c5
      exact fw_sub [] rfl (c_Mod_who_b41 C ho h)
    · have h := fw_iff h c5
      refine fw_iload_n (pc := 21) C 3 dX9_who_21 rfl rfl ?_
      obtain ⟨v6, hv6, h⟩ := fw_bind h
      refine fw_callS1 (pc := 22) C (rest := []) (c_Mod_isRow  hv6) (va_cwS 1 C.2.2.2.2.1 gX9_who_X9_isRow rfl rfl rfl hd_Mod_isRow.2 ⟨Nat.le_of_ble_eq_true rfl, Nat.le_of_ble_eq_true rfl⟩) rfl ⟨Nat.zero_le _, Nat.zero_le _⟩ rfl (Nat.le_of_ble_eq_true rfl) dX9_who_22 ?_
      refine fw_if_eq (pc := 25) C (tgt := 41) dX9_who_25 (by decide) (fun c7 => ?_) (fun c7 => ?_)
      · have h := fw_ift h c7
        exact fw_sub [] rfl (c_Mod_who_b41 C ho h)
      · have h := fw_iff h c7
        refine fw_iload (pc := 28) C 5 dX9_who_28 rfl ?_
        refine fw_i2l (pc := 30) C dX9_who_30 ?_
        refine fw_lconst (pc := 31) C (v := 1) dX9_who_31 fk_lconst_1 ?_
        refine fw_ldc2 (pc := 32) C (v := 12) kX9_who_218 dX9_who_32 ?_
        obtain ⟨v8, hv8, h⟩ := fw_bind h
        refine fw_callS1 (pc := 35) C (rest := []) (c_Mod_in  hv8) (va_cwS 3 C.2.2.2.2.1 gX9_who_X9_in rfl rfl rfl hd_Mod_in.2 ⟨Nat.le_of_ble_eq_true rfl, Nat.le_of_ble_eq_true rfl⟩) rfl ⟨Nat.zero_le _, Nat.zero_le _⟩ rfl (Nat.le_of_ble_eq_true rfl) dX9_who_35 ?_
        refine fw_if_ne (pc := 38) C (tgt := 44) dX9_who_38 (by decide) (fun c9 => ?_) (fun c9 => ?_)
        · have h := fw_iff h c9
          refine fw_aload_n (pc := 44) C 0 dX9_who_44 rfl rfl ?_
          refine fw_getr (pc := 45) C ho.2.2.2.1.1 rfl qX9_who_7 dX9_who_45 ?_
          refine fw_iload_n (pc := 48) C 3 dX9_who_48 rfl rfl ?_
          obtain ⟨v10, hv10, h⟩ := fw_bind h
          refine fw_iald (pc := 49) C 0 ho.2.2.2.1.2 rfl hv10 dX9_who_49 ?_
          refine fw_if_ge (pc := 50) C (tgt := 59) dX9_who_50 (by decide) (fun c11 => ?_) (fun c11 => ?_)
          · have h := fw_ift h c11
            refine fw_iload (pc := 59) C 4 dX9_who_59 rfl ?_
            refine fw_if_lt (pc := 61) C (tgt := 82) dX9_who_61 (by decide) (fun c12 => ?_) (fun c12 => ?_)
            · have h := fw_ift h c12
              exact fw_sub [0] rfl (c_Mod_who_b82 C ho h)
            · have h := fw_iff h c12
              refine fw_iload (pc := 64) C 4 dX9_who_64 rfl ?_
              refine fw_i2l (pc := 66) C dX9_who_66 ?_
              refine fw_iload (pc := 67) C 5 dX9_who_67 rfl ?_
              refine fw_i2l (pc := 69) C dX9_who_69 ?_
              refine fw_ladd (pc := 70) C dX9_who_70 ?_
              refine fw_aload_n (pc := 71) C 0 dX9_who_71 rfl rfl ?_
              refine fw_getr (pc := 72) C ho.2.2.2.2.1.1 rfl qX9_who_13 dX9_who_72 ?_
              refine fw_iload_n (pc := 75) C 3 dX9_who_75 rfl rfl ?_
              obtain ⟨v13, hv13, h⟩ := fw_bind h
              refine fw_iald (pc := 76) C 0 ho.2.2.2.2.1.2 rfl hv13 dX9_who_76 ?_
              refine fw_i2l (pc := 77) C dX9_who_77 ?_
              refine fw_lcmp (pc := 78) C dX9_who_78 ?_
              refine fw_if_le (pc := 79) C (tgt := 88) dX9_who_79 (by decide) (fun c14 => ?_) (fun c14 => ?_)
              · have h := fw_ift h c14
                refine fw_aload_n (pc := 88) C 0 dX9_who_88 rfl rfl ?_
                refine fw_iconst (pc := 89) C (v := 0) dX9_who_89 fk_iconst_0 ?_
                have h := fw_plh h
                refine fw_puti (pc := 90) C ho.2.2.1 rfl qX9_who_51 tyX9 tyX9_ok nmX9 rfl rfl dX9_who_90 ?_
                refine fw_iconst (pc := 93) C (v := 0) dX9_who_93 fk_iconst_0 ?_
                refine fw_istore (pc := 94) C (L2 := [(0, .ref _), (1, .int _), (2, .int _), (3, .int _), (4, .int _), (5, .int _), (6, .int _)]) [1, 2, 3, 4, 5, 6, 0] dX9_who_94 (by decide) rfl ?_
                refine fw_iconst (pc := 96) C (v := 1) dX9_who_96 fk_iconst_1 ?_
                refine fw_istore (pc := 97) C (L2 := [(0, .ref _), (1, .int _), (2, .int _), (3, .int _), (4, .int _), (5, .int _), (6, .int _), (7, .int _)]) [1, 2, 3, 4, 5, 6, 7, 0] dX9_who_97 (by decide) rfl ?_
                exact (c_Mod_who_h99 C ho _ _ _ _ _ _ _ _ _ h)
              · have h := fw_iff h c14
                exact fw_sub [0] rfl (c_Mod_who_b82 C ho h)
          · have h := fw_iff h c11
            refine fw_aload_n (pc := 53) C 0 dX9_who_53 rfl rfl ?_
            refine fw_iconst (pc := 54) C (v := 1) dX9_who_54 fk_iconst_1 ?_
            obtain ⟨q16, hq16, h⟩ := fw_bind h
            refine fw_callV1 (pc := 55) C (rest := []) (c_Mod_finding ho hq16) (cwV 1 C.2.2.2.2.1 gX9_who_X9_finding rfl rfl rfl hd_Mod_finding ⟨Nat.le_of_ble_eq_true rfl, Nat.le_of_ble_eq_true rfl⟩) ho.1 rfl rfl ⟨Nat.zero_le _, Nat.zero_le _⟩ rfl (Nat.le_of_ble_eq_true rfl) dX9_who_55 ?_
            exact fw_iret (pc := 58) C (fw_p1 h) (fw_p2 h) dX9_who_58
        · have h := fw_ift h c9
          exact fw_sub [] rfl (c_Mod_who_b41 C ho h)
theorem c_Mod_who {l : Launch} {D : va_G} {cI cZ cH cR : ClassId} {N : Nat} {ad : Nat → Nat} {EE : fw_M → Nat → va_E} {o : Nat} {M : fw_M} {a0 : Int32} {a1 : Int32} {a2 : Int32} {a3 : Int32} {a4 : Int32} {z : (Int32 × fw_M)} (ho : o_Mod EE ad N cI cZ cH cR o) (h : P_Mod_who o M a0 a1 a2 a3 a4 = some z) : fw_Met l yX9_who wsX9_who rm_Mod_who D vwCl (fw_tys cI cZ cH cR) N ad fw_nw0 EE [.ref (ad o), .int a0, .int a1, .int a2, .int a3, .int a4] M (some (.int z.1)) z.2 := by
  unfold P_Mod_who at h
  exact fw_intro (cc := cX9_who) (maxL := 8) (ret := some .int) (own := RX9) (by decide) rfl rfl (Nat.le_of_ble_eq_true rfl) (fun p e s m args below meth c C => fw_sub [0, 1, 2, 3, 4, 5] rfl (c_Mod_who_b0 C ho h))
abbrev rm_Mod_precedence : Room := { frames := 6, cells := 0, slots := 0, locals := 136 }
theorem hd_Mod_precedence : yX9_precedence.cls = RX9 ∧ yX9_precedence.cls ≠ "java/lang/invoke/MethodHandle" ∧ yX9_precedence.cls ≠ "java/lang/invoke/VarHandle" ∧ (parseMethodDescriptor yX9_precedence.desc).map (fun d => d.parameters.length) = some 2 := by decide +kernel
theorem qX9_precedence_47 : fw_G wsX9_precedence RX9 47 RX9 TX9 24 0 := ⟨by decide +kernel, by decide +kernel, by decide⟩
theorem kX9_precedence_187 : Cond.constant RX9 187 (-1000002) ∈ wsX9_precedence := by decide +kernel
theorem qX9_precedence_25 : fw_G wsX9_precedence RX9 25 RX9 TX9 24 7 := ⟨by decide +kernel, by decide +kernel, by decide⟩
theorem kX9_precedence_90 : Cond.constant RX9 90 (-1000000) ∈ wsX9_precedence := by decide +kernel
theorem kX9_precedence_67 : Cond.constant RX9 67 (-1000001) ∈ wsX9_precedence := by decide +kernel
def P_Mod_precedence_b27 (o : Nat) (M : fw_M) : Option (Int32 × fw_M) := some ((-1000001 : Int32), M)
def P_Mod_precedence_b84 (o : Nat) (K39 : fw_M → Int32 → Int32 → Int32 → Int32 → Option (Int32 × fw_M)) (M : fw_M) (x1 : Int32) (x2 : Int32) (x4 : Int32) (t0 : Int32) (t1 : Int32) : Option (Int32 × fw_M) := fw_pl ((t0 + t1)) fun y1 => (P_Mod_step o (o + 6) M).bind fun q2 => K39 q2.2 x1 x2 y1 (x4 + (1 : Int32))
def P_Mod_precedence_b71 (o : Nat) (K39 : fw_M → Int32 → Int32 → Int32 → Int32 → Option (Int32 × fw_M)) (M : fw_M) (x1 : Int32) (x2 : Int32) (x3 : Int32) (x4 : Int32) (x5 : Int32) : Option (Int32 × fw_M) := (if x5 = (-1000000 : Int32) then P_Mod_precedence_b84 o K39 M x1 x2 x4 x3 (0 : Int32) else P_Mod_precedence_b84 o K39 M x1 x2 x4 x3 (1 : Int32))
def P_Mod_precedence_b39 (o : Nat) (K39 : fw_M → Int32 → Int32 → Int32 → Int32 → Option (Int32 × fw_M)) (M : fw_M) (x1 : Int32) (x2 : Int32) (x3 : Int32) (x4 : Int32) : Option (Int32 × fw_M) := (if (60 : Int32) ≤ x4 then some ((-1000000 : Int32), M) else (P_Mod_goesAt (o + 6) M x1).bind fun v2 => (if v2 = (-1000000 : Int32) then P_Mod_precedence_b71 o K39 M x1 x2 x3 x4 v2 else (if x3 = x2 then some (v2, M) else P_Mod_precedence_b71 o K39 M x1 x2 x3 x4 v2)))
def P_Mod_precedence_h39 (o : Nat) : Nat → fw_M → Int32 → Int32 → Int32 → Int32 → Option (Int32 × fw_M)
  | 0, _, _, _, _, _ => none
  | n + 1, M, x1, x2, x3, x4 => P_Mod_precedence_b39 o (P_Mod_precedence_h39 o n) M x1 x2 x3 x4
def P_Mod_precedence_b0 (o : Nat) (M : fw_M) (x1 : Int32) (x2 : Int32) : Option (Int32 × fw_M) := fw_pl (fw_set M o 0 (0 : Int32)) fun M1 => (P_Mod_isThere o M1).bind fun v2 => (if v2 = (0 : Int32) then some ((-1000002 : Int32), M1) else (P_Mod_isDoor o M1 x1).bind fun v4 => (if v4 = (0 : Int32) then P_Mod_precedence_b27 o M1 else (if (0 : Int32) ≤ x2 then (P_Mod_layThen o M1).bind fun q7 => P_Mod_precedence_h39 o fw_fu q7 x1 x2 (0 : Int32) (0 : Int32) else P_Mod_precedence_b27 o M1)))
def P_Mod_precedence (o : Nat) (M : fw_M) (a0 : Int32) (a1 : Int32) : Option (Int32 × fw_M) := P_Mod_precedence_b0 o M a0 a1
set_option maxRecDepth 100000 in
theorem c_Mod_precedence_b27 {p : Program} {l : Launch} {e : Env} {s : State} {m : MethodId} {args : Array Value} {below : List Frame} {meth : Method} {c : Code} {D : va_G} {cI cZ cH cR : ClassId} {N : Nat} {ad : Nat → Nat} {EE : fw_M → Nat → va_E} {o : Nat} {M : fw_M} {z : (Int32 × fw_M)} (C : fw_C p s m args meth c cX9_precedence RX9 wsX9_precedence 7 (some .int) D vwCl (fw_tys cI cZ cH cR) N ad fw_nw0) (ho : o_Mod EE ad N cI cZ cH cR o) (h : P_Mod_precedence_b27 o M = some z) : fw_J p l e (headSpec wsX9_precedence rm_Mod_precedence).room s m args below meth c D vwCl N ad EE 7 0 0 (fw_E below args s D vwCl N ad EE (some (.int z.1)) z.2) M [] 27 [] := by
  unfold P_Mod_precedence_b27 at h
  refine fw_ldc (pc := 27) C (v := -1000001) kX9_precedence_67 dX9_precedence_27 ?_
  exact fw_iret (pc := 29) C (fw_p1 h) (fw_p2 h) dX9_precedence_29
set_option maxRecDepth 100000 in
theorem c_Mod_precedence_b84 {p : Program} {l : Launch} {e : Env} {s : State} {m : MethodId} {args : Array Value} {below : List Frame} {meth : Method} {c : Code} {D : va_G} {cI cZ cH cR : ClassId} {N : Nat} {ad : Nat → Nat} {EE : fw_M → Nat → va_E} {o : Nat} {K39 : fw_M → Int32 → Int32 → Int32 → Int32 → Option (Int32 × fw_M)} {M : fw_M} {x1 : Int32} {x2 : Int32} {x4 : Int32} {t0 : Int32} {t1 : Int32} {z : (Int32 × fw_M)} (C : fw_C p s m args meth c cX9_precedence RX9 wsX9_precedence 7 (some .int) D vwCl (fw_tys cI cZ cH cR) N ad fw_nw0) (ho : o_Mod EE ad N cI cZ cH cR o) (hK39 : ∀ (Mk : fw_M) (kx1 : Int32) (kx2 : Int32) (kx3 : Int32) (kx4 : Int32), K39 Mk kx1 kx2 kx3 kx4 = some z → fw_J p l e (headSpec wsX9_precedence rm_Mod_precedence).room s m args below meth c D vwCl N ad EE 7 0 0 (fw_E below args s D vwCl N ad EE (some (.int z.1)) z.2) Mk [(0, .ref (ad o)), (1, .int kx1), (2, .int kx2), (3, .int kx3), (4, .int kx4)] 39 []) (h : P_Mod_precedence_b84 o K39 M x1 x2 x4 t0 t1 = some z) : fw_J p l e (headSpec wsX9_precedence rm_Mod_precedence).room s m args below meth c D vwCl N ad EE 7 0 0 (fw_E below args s D vwCl N ad EE (some (.int z.1)) z.2) M [(0, .ref (ad o)), (1, .int x1), (2, .int x2), (4, .int x4)] 84 [.int t1, .int t0] := by
  unfold P_Mod_precedence_b84 at h
  refine fw_iadd (pc := 84) C dX9_precedence_84 ?_
  have h := fw_plh h
  refine fw_istore_n (pc := 85) C (L2 := [(0, .ref _), (1, .int _), (2, .int _), (3, .int _), (4, .int _)]) [1, 2, 3, 0, 4] dX9_precedence_85 rfl (by decide) rfl ?_
  refine fw_aload_n (pc := 86) C 0 dX9_precedence_86 rfl rfl ?_
  refine fw_aload_n (pc := 87) C 0 dX9_precedence_87 rfl rfl ?_
  refine fw_getr (pc := 88) C ho.2.2.2.2.2.2.2.2.1.1 rfl qX9_precedence_25 dX9_precedence_88 ?_
  obtain ⟨q2, hq2, h⟩ := fw_bind h
  refine fw_callV1 (pc := 91) C (rest := []) (c_Mod_step ho ho.2.2.2.2.2.2.2.2.1.2 hq2) (cwV 1 C.2.2.2.2.1 gX9_precedence_X9_step rfl rfl rfl hd_Mod_step ⟨Nat.le_of_ble_eq_true rfl, Nat.le_of_ble_eq_true rfl⟩) ho.1 rfl rfl ⟨Nat.zero_le _, Nat.zero_le _⟩ rfl (Nat.le_of_ble_eq_true rfl) dX9_precedence_91 ?_
  refine fw_istore (pc := 94) C (L2 := [(0, .ref _), (1, .int _), (2, .int _), (3, .int _), (4, .int _), (6, .int _)]) [1, 2, 3, 4, 5, 0] dX9_precedence_94 (by decide) rfl ?_
  refine fw_iinc (pc := 96) C (v := 1) (L2 := [(0, .ref _), (1, .int _), (2, .int _), (3, .int _), (4, .int _), (6, .int _)]) 4 [1, 2, 3, 4, 0, 5] dX9_precedence_96 rfl fk_iconst_1 (by decide) rfl ?_
  refine fw_goto (pc := 99) C (tgt := 39) dX9_precedence_99 (by decide) ?_
  exact fw_sub [0, 1, 2, 3, 4] rfl (hK39 _ _ _ _ _ h)
set_option maxRecDepth 100000 in
theorem c_Mod_precedence_b71 {p : Program} {l : Launch} {e : Env} {s : State} {m : MethodId} {args : Array Value} {below : List Frame} {meth : Method} {c : Code} {D : va_G} {cI cZ cH cR : ClassId} {N : Nat} {ad : Nat → Nat} {EE : fw_M → Nat → va_E} {o : Nat} {K39 : fw_M → Int32 → Int32 → Int32 → Int32 → Option (Int32 × fw_M)} {M : fw_M} {x1 : Int32} {x2 : Int32} {x3 : Int32} {x4 : Int32} {x5 : Int32} {z : (Int32 × fw_M)} (C : fw_C p s m args meth c cX9_precedence RX9 wsX9_precedence 7 (some .int) D vwCl (fw_tys cI cZ cH cR) N ad fw_nw0) (ho : o_Mod EE ad N cI cZ cH cR o) (hK39 : ∀ (Mk : fw_M) (kx1 : Int32) (kx2 : Int32) (kx3 : Int32) (kx4 : Int32), K39 Mk kx1 kx2 kx3 kx4 = some z → fw_J p l e (headSpec wsX9_precedence rm_Mod_precedence).room s m args below meth c D vwCl N ad EE 7 0 0 (fw_E below args s D vwCl N ad EE (some (.int z.1)) z.2) Mk [(0, .ref (ad o)), (1, .int kx1), (2, .int kx2), (3, .int kx3), (4, .int kx4)] 39 []) (h : P_Mod_precedence_b71 o K39 M x1 x2 x3 x4 x5 = some z) : fw_J p l e (headSpec wsX9_precedence rm_Mod_precedence).room s m args below meth c D vwCl N ad EE 7 0 0 (fw_E below args s D vwCl N ad EE (some (.int z.1)) z.2) M [(0, .ref (ad o)), (1, .int x1), (2, .int x2), (3, .int x3), (4, .int x4), (5, .int x5)] 71 [] := by
  unfold P_Mod_precedence_b71 at h
  refine fw_iload_n (pc := 71) C 3 dX9_precedence_71 rfl rfl ?_
  refine fw_iload (pc := 72) C 5 dX9_precedence_72 rfl ?_
  refine fw_ldc (pc := 74) C (v := -1000000) kX9_precedence_90 dX9_precedence_74 ?_
  refine fw_icmp_ne (pc := 76) C (tgt := 83) dX9_precedence_76 (by decide) (fun c1 => ?_) (fun c1 => ?_)
  · have h := fw_iff h c1
    refine fw_iconst (pc := 83) C (v := 1) dX9_precedence_83 fk_iconst_1 ?_
    exact fw_sub [0, 1, 2, 4] rfl (c_Mod_precedence_b84 C ho hK39 h)
  · have h := fw_ift h c1
    refine fw_iconst (pc := 79) C (v := 0) dX9_precedence_79 fk_iconst_0 ?_
    refine fw_goto (pc := 80) C (tgt := 84) dX9_precedence_80 (by decide) ?_
    exact fw_sub [0, 1, 2, 4] rfl (c_Mod_precedence_b84 C ho hK39 h)
set_option maxRecDepth 100000 in
theorem c_Mod_precedence_b39 {p : Program} {l : Launch} {e : Env} {s : State} {m : MethodId} {args : Array Value} {below : List Frame} {meth : Method} {c : Code} {D : va_G} {cI cZ cH cR : ClassId} {N : Nat} {ad : Nat → Nat} {EE : fw_M → Nat → va_E} {o : Nat} {K39 : fw_M → Int32 → Int32 → Int32 → Int32 → Option (Int32 × fw_M)} {M : fw_M} {x1 : Int32} {x2 : Int32} {x3 : Int32} {x4 : Int32} {z : (Int32 × fw_M)} (C : fw_C p s m args meth c cX9_precedence RX9 wsX9_precedence 7 (some .int) D vwCl (fw_tys cI cZ cH cR) N ad fw_nw0) (ho : o_Mod EE ad N cI cZ cH cR o) (hK39 : ∀ (Mk : fw_M) (kx1 : Int32) (kx2 : Int32) (kx3 : Int32) (kx4 : Int32), K39 Mk kx1 kx2 kx3 kx4 = some z → fw_J p l e (headSpec wsX9_precedence rm_Mod_precedence).room s m args below meth c D vwCl N ad EE 7 0 0 (fw_E below args s D vwCl N ad EE (some (.int z.1)) z.2) Mk [(0, .ref (ad o)), (1, .int kx1), (2, .int kx2), (3, .int kx3), (4, .int kx4)] 39 []) (h : P_Mod_precedence_b39 o K39 M x1 x2 x3 x4 = some z) : fw_J p l e (headSpec wsX9_precedence rm_Mod_precedence).room s m args below meth c D vwCl N ad EE 7 0 0 (fw_E below args s D vwCl N ad EE (some (.int z.1)) z.2) M [(0, .ref (ad o)), (1, .int x1), (2, .int x2), (3, .int x3), (4, .int x4)] 39 [] := by
  unfold P_Mod_precedence_b39 at h
  refine fw_iload (pc := 39) C 4 dX9_precedence_39 rfl ?_
  refine fw_bipush (pc := 41) C (v := 60) dX9_precedence_41 fk_bipush_60 ?_
  refine fw_icmp_ge (pc := 43) C (tgt := 102) dX9_precedence_43 (by decide) (fun c1 => ?_) (fun c1 => ?_)
  · have h := fw_ift h c1
    refine fw_ldc (pc := 102) C (v := -1000000) kX9_precedence_90 dX9_precedence_102 ?_
    exact fw_iret (pc := 104) C (fw_p1 h) (fw_p2 h) dX9_precedence_104
  · have h := fw_iff h c1
    refine fw_aload_n (pc := 46) C 0 dX9_precedence_46 rfl rfl ?_
    refine fw_getr (pc := 47) C ho.2.2.2.2.2.2.2.2.1.1 rfl qX9_precedence_25 dX9_precedence_47 ?_
    refine fw_iload_n (pc := 50) C 1 dX9_precedence_50 rfl rfl ?_
    obtain ⟨v2, hv2, h⟩ := fw_bind h
    refine fw_callS1 (pc := 51) C (rest := []) (c_Mod_goesAt ho.2.2.2.2.2.2.2.2.1.2 hv2) (va_cwS 2 C.2.2.2.2.1 gX9_precedence_X9_goesAt rfl rfl rfl hd_Mod_goesAt.2 ⟨Nat.le_of_ble_eq_true rfl, Nat.le_of_ble_eq_true rfl⟩) rfl ⟨Nat.zero_le _, Nat.zero_le _⟩ rfl (Nat.le_of_ble_eq_true rfl) dX9_precedence_51 ?_
    refine fw_istore (pc := 54) C (L2 := [(0, .ref _), (1, .int _), (2, .int _), (3, .int _), (4, .int _), (5, .int _)]) [1, 2, 3, 4, 5, 0] dX9_precedence_54 (by decide) rfl ?_
    refine fw_iload (pc := 56) C 5 dX9_precedence_56 rfl ?_
    refine fw_ldc (pc := 58) C (v := -1000000) kX9_precedence_90 dX9_precedence_58 ?_
    refine fw_icmp_eq (pc := 60) C (tgt := 71) dX9_precedence_60 (by decide) (fun c3 => ?_) (fun c3 => ?_)
    · have h := fw_ift h c3
      exact (c_Mod_precedence_b71 C ho hK39 h)
    · have h := fw_iff h c3
      refine fw_iload_n (pc := 63) C 3 dX9_precedence_63 rfl rfl ?_
      refine fw_iload_n (pc := 64) C 2 dX9_precedence_64 rfl rfl ?_
      refine fw_icmp_ne (pc := 65) C (tgt := 71) dX9_precedence_65 (by decide) (fun c4 => ?_) (fun c4 => ?_)
      · have h := fw_iff h c4
        exact (c_Mod_precedence_b71 C ho hK39 h)
      · have h := fw_ift h c4
        refine fw_iload (pc := 68) C 5 dX9_precedence_68 rfl ?_
        exact fw_iret (pc := 70) C (fw_p1 h) (fw_p2 h) dX9_precedence_70
theorem c_Mod_precedence_h39 {p : Program} {l : Launch} {e : Env} {s : State} {m : MethodId} {args : Array Value} {below : List Frame} {meth : Method} {c : Code} {D : va_G} {cI cZ cH cR : ClassId} {N : Nat} {ad : Nat → Nat} {EE : fw_M → Nat → va_E} {o : Nat} {z : (Int32 × fw_M)} (C : fw_C p s m args meth c cX9_precedence RX9 wsX9_precedence 7 (some .int) D vwCl (fw_tys cI cZ cH cR) N ad fw_nw0) (ho : o_Mod EE ad N cI cZ cH cR o) : ∀ (n : Nat) (M : fw_M) (x1 : Int32) (x2 : Int32) (x3 : Int32) (x4 : Int32), P_Mod_precedence_h39 o n M x1 x2 x3 x4 = some z → fw_J p l e (headSpec wsX9_precedence rm_Mod_precedence).room s m args below meth c D vwCl N ad EE 7 0 0 (fw_E below args s D vwCl N ad EE (some (.int z.1)) z.2) M [(0, .ref (ad o)), (1, .int x1), (2, .int x2), (3, .int x3), (4, .int x4)] 39 [] := by
  intro n
  induction n with
  | zero => intro M x1 x2 x3 x4  h; cases h
  | succ n ih => intro M x1 x2 x3 x4  h; exact c_Mod_precedence_b39 C ho ih  h
set_option maxRecDepth 100000 in
theorem c_Mod_precedence_b0 {p : Program} {l : Launch} {e : Env} {s : State} {m : MethodId} {args : Array Value} {below : List Frame} {meth : Method} {c : Code} {D : va_G} {cI cZ cH cR : ClassId} {N : Nat} {ad : Nat → Nat} {EE : fw_M → Nat → va_E} {o : Nat} {M : fw_M} {x1 : Int32} {x2 : Int32} {z : (Int32 × fw_M)} (C : fw_C p s m args meth c cX9_precedence RX9 wsX9_precedence 7 (some .int) D vwCl (fw_tys cI cZ cH cR) N ad fw_nw0) (ho : o_Mod EE ad N cI cZ cH cR o) (h : P_Mod_precedence_b0 o M x1 x2 = some z) : fw_J p l e (headSpec wsX9_precedence rm_Mod_precedence).room s m args below meth c D vwCl N ad EE 7 0 0 (fw_E below args s D vwCl N ad EE (some (.int z.1)) z.2) M [(0, .ref (ad o)), (1, .int x1), (2, .int x2)] 0 [] := by
  unfold P_Mod_precedence_b0 at h
  refine fw_aload_n (pc := 0) C 0 dX9_precedence_0 rfl rfl ?_
  refine fw_iconst (pc := 1) C (v := 0) dX9_precedence_1 fk_iconst_0 ?_
  have h := fw_plh h
  refine fw_puti (pc := 2) C ho.2.1 rfl qX9_precedence_47 tyX9 tyX9_ok nmX9 rfl rfl dX9_precedence_2 ?_
  refine fw_aload_n (pc := 5) C 0 dX9_precedence_5 rfl rfl ?_
  obtain ⟨v2, hv2, h⟩ := fw_bind h
  refine fw_callV1 (pc := 6) C (rest := []) (c_Mod_isThere ho hv2) (cwV 0 C.2.2.2.2.1 gX9_precedence_X9_isThere rfl rfl rfl hd_Mod_isThere ⟨Nat.le_of_ble_eq_true rfl, Nat.le_of_ble_eq_true rfl⟩) ho.1 rfl rfl ⟨Nat.zero_le _, Nat.zero_le _⟩ rfl (Nat.le_of_ble_eq_true rfl) dX9_precedence_6 ?_
  refine fw_if_ne (pc := 9) C (tgt := 15) dX9_precedence_9 (by decide) (fun c3 => ?_) (fun c3 => ?_)
  · have h := fw_iff h c3
    refine fw_aload_n (pc := 15) C 0 dX9_precedence_15 rfl rfl ?_
    refine fw_iload_n (pc := 16) C 1 dX9_precedence_16 rfl rfl ?_
    obtain ⟨v4, hv4, h⟩ := fw_bind h
    refine fw_callV1 (pc := 17) C (rest := []) (c_Mod_isDoor ho hv4) (cwV 1 C.2.2.2.2.1 gX9_precedence_X9_isDoor rfl rfl rfl hd_Mod_isDoor ⟨Nat.le_of_ble_eq_true rfl, Nat.le_of_ble_eq_true rfl⟩) ho.1 rfl rfl ⟨Nat.zero_le _, Nat.zero_le _⟩ rfl (Nat.le_of_ble_eq_true rfl) dX9_precedence_17 ?_
    refine fw_if_eq (pc := 20) C (tgt := 27) dX9_precedence_20 (by decide) (fun c5 => ?_) (fun c5 => ?_)
    · have h := fw_ift h c5
      exact fw_sub [] rfl (c_Mod_precedence_b27 C ho h)
    · have h := fw_iff h c5
      refine fw_iload_n (pc := 23) C 2 dX9_precedence_23 rfl rfl ?_
      refine fw_if_ge (pc := 24) C (tgt := 30) dX9_precedence_24 (by decide) (fun c6 => ?_) (fun c6 => ?_)
      · have h := fw_ift h c6
        refine fw_aload_n (pc := 30) C 0 dX9_precedence_30 rfl rfl ?_
        obtain ⟨q7, hq7, h⟩ := fw_bind h
        refine fw_callV0 (pc := 31) C (rest := []) (c_Mod_layThen ho hq7) (cwV 0 C.2.2.2.2.1 gX9_precedence_X9_layThen rfl rfl rfl hd_Mod_layThen ⟨Nat.le_of_ble_eq_true rfl, Nat.le_of_ble_eq_true rfl⟩) ho.1 rfl rfl ⟨Nat.zero_le _, Nat.zero_le _⟩ rfl (Nat.le_of_ble_eq_true rfl) dX9_precedence_31 ?_
        refine fw_iconst (pc := 34) C (v := 0) dX9_precedence_34 fk_iconst_0 ?_
        refine fw_istore_n (pc := 35) C (L2 := [(0, .ref _), (1, .int _), (2, .int _), (3, .int _)]) [1, 2, 3, 0] dX9_precedence_35 rfl (by decide) rfl ?_
        refine fw_iconst (pc := 36) C (v := 0) dX9_precedence_36 fk_iconst_0 ?_
        refine fw_istore (pc := 37) C (L2 := [(0, .ref _), (1, .int _), (2, .int _), (3, .int _), (4, .int _)]) [1, 2, 3, 4, 0] dX9_precedence_37 (by decide) rfl ?_
        exact (c_Mod_precedence_h39 C ho _ _ _ _ _ _ h)
      · have h := fw_iff h c6
        exact fw_sub [] rfl (c_Mod_precedence_b27 C ho h)
  · have h := fw_ift h c3
    refine fw_ldc (pc := 12) C (v := -1000002) kX9_precedence_187 dX9_precedence_12 ?_
    exact fw_iret (pc := 14) C (fw_p1 h) (fw_p2 h) dX9_precedence_14
theorem c_Mod_precedence {l : Launch} {D : va_G} {cI cZ cH cR : ClassId} {N : Nat} {ad : Nat → Nat} {EE : fw_M → Nat → va_E} {o : Nat} {M : fw_M} {a0 : Int32} {a1 : Int32} {z : (Int32 × fw_M)} (ho : o_Mod EE ad N cI cZ cH cR o) (h : P_Mod_precedence o M a0 a1 = some z) : fw_Met l yX9_precedence wsX9_precedence rm_Mod_precedence D vwCl (fw_tys cI cZ cH cR) N ad fw_nw0 EE [.ref (ad o), .int a0, .int a1] M (some (.int z.1)) z.2 := by
  unfold P_Mod_precedence at h
  exact fw_intro (cc := cX9_precedence) (maxL := 7) (ret := some .int) (own := RX9) (by decide) rfl rfl (Nat.le_of_ble_eq_true rfl) (fun p e s m args below meth c C => fw_sub [0, 1, 2] rfl (c_Mod_precedence_b0 C ho h))
abbrev rm_Mod_both : Room := { frames := 2, cells := 0, slots := 0, locals := 44 }
theorem hd_Mod_both : yX9_both.cls = RX9 ∧ yX9_both.cls ≠ "java/lang/invoke/MethodHandle" ∧ yX9_both.cls ≠ "java/lang/invoke/VarHandle" ∧ (parseMethodDescriptor yX9_both.desc).map (fun d => d.parameters.length) = some 1 := by decide +kernel
theorem qX9_both_47 : fw_G wsX9_both RX9 47 RX9 TX9 24 0 := ⟨by decide +kernel, by decide +kernel, by decide⟩
theorem kX9_both_187 : Cond.constant RX9 187 (-1000002) ∈ wsX9_both := by decide +kernel
theorem kX9_both_67 : Cond.constant RX9 67 (-1000001) ∈ wsX9_both := by decide +kernel
theorem kX9_both_90 : Cond.constant RX9 90 (-1000000) ∈ wsX9_both := by decide +kernel
theorem qX9_both_19 : fw_G wsX9_both RX9 19 RX9 TX9 24 5 := ⟨by decide +kernel, by decide +kernel, by decide⟩
def P_Mod_both_b152 (o : Nat) (M : fw_M) (t0 : Int32) : Option (Int32 × fw_M) := some (t0, M)
def P_Mod_both_b130 (o : Nat) (K43 : fw_M → Int32 → Int32 → Int32 → Int32 → Option (Int32 × fw_M)) (K58 : fw_M → Int32 → Int32 → Int32 → Int32 → Int32 → Option (Int32 × fw_M)) (M : fw_M) (x1 : Int32) (x2 : Int32) (x4 : Int32) (x5 : Int32) (t0 : Int32) : Option (Int32 × fw_M) := K58 M x1 x2 t0 x4 (x5 + (-1 : Int32))
def P_Mod_both_b111 (o : Nat) (K43 : fw_M → Int32 → Int32 → Int32 → Int32 → Option (Int32 × fw_M)) (K58 : fw_M → Int32 → Int32 → Int32 → Int32 → Int32 → Option (Int32 × fw_M)) (M : fw_M) (x1 : Int32) (x3 : Int32) (x4 : Int32) (x5 : Int32) (x6 : Int32) (t0 : Int32) (t1 : Int32) : Option (Int32 × fw_M) := fw_pl ((t0 + t1)) fun y1 => (if x6 = (0 : Int32) then P_Mod_both_b130 o K43 K58 M x1 y1 x4 x5 x3 else P_Mod_both_b130 o K43 K58 M x1 y1 x4 x5 (((10 : Int32) * x4) + x5))
def P_Mod_both_b98 (o : Nat) (K43 : fw_M → Int32 → Int32 → Int32 → Int32 → Option (Int32 × fw_M)) (K58 : fw_M → Int32 → Int32 → Int32 → Int32 → Int32 → Option (Int32 × fw_M)) (M : fw_M) (x1 : Int32) (x2 : Int32) (x3 : Int32) (x4 : Int32) (x5 : Int32) (t0 : Int32) : Option (Int32 × fw_M) := (if t0 = (0 : Int32) then P_Mod_both_b111 o K43 K58 M x1 x3 x4 x5 t0 x2 (0 : Int32) else P_Mod_both_b111 o K43 K58 M x1 x3 x4 x5 t0 x2 (1 : Int32))
def P_Mod_both_b97 (o : Nat) (K43 : fw_M → Int32 → Int32 → Int32 → Int32 → Option (Int32 × fw_M)) (K58 : fw_M → Int32 → Int32 → Int32 → Int32 → Int32 → Option (Int32 × fw_M)) (M : fw_M) (x1 : Int32) (x2 : Int32) (x3 : Int32) (x4 : Int32) (x5 : Int32) : Option (Int32 × fw_M) := P_Mod_both_b98 o K43 K58 M x1 x2 x3 x4 x5 (0 : Int32)
def P_Mod_both_b58 (o : Nat) (K43 : fw_M → Int32 → Int32 → Int32 → Int32 → Option (Int32 × fw_M)) (K58 : fw_M → Int32 → Int32 → Int32 → Int32 → Int32 → Option (Int32 × fw_M)) (M : fw_M) (x1 : Int32) (x2 : Int32) (x3 : Int32) (x4 : Int32) (x5 : Int32) : Option (Int32 × fw_M) := (if x5 ≤ x4 then K43 M x1 x2 x3 (x4 + (-1 : Int32)) else (P_Mod_yields (o + 4) M x4 x5).bind fun v2 => (if v2 = (0 : Int32) then P_Mod_both_b97 o K43 K58 M x1 x2 x3 x4 x5 else (P_Mod_yields (o + 4) M x5 x4).bind fun v4 => (if v4 = (0 : Int32) then P_Mod_both_b97 o K43 K58 M x1 x2 x3 x4 x5 else P_Mod_both_b98 o K43 K58 M x1 x2 x3 x4 x5 (1 : Int32))))
def P_Mod_both_h58 (o : Nat) (K43 : fw_M → Int32 → Int32 → Int32 → Int32 → Option (Int32 × fw_M)) : Nat → fw_M → Int32 → Int32 → Int32 → Int32 → Int32 → Option (Int32 × fw_M)
  | 0, _, _, _, _, _, _ => none
  | n + 1, M, x1, x2, x3, x4, x5 => P_Mod_both_b58 o K43 (P_Mod_both_h58 o K43 n) M x1 x2 x3 x4 x5
def P_Mod_both_b43 (o : Nat) (K43 : fw_M → Int32 → Int32 → Int32 → Int32 → Option (Int32 × fw_M)) (M : fw_M) (x1 : Int32) (x2 : Int32) (x3 : Int32) (x4 : Int32) : Option (Int32 × fw_M) := (if x4 < (0 : Int32) then (if x1 = (0 : Int32) then P_Mod_both_b152 o M x2 else P_Mod_both_b152 o M x3) else (fw_ald M (o + 4) 39 (2 : Int32)).bind fun v3 => fw_pl ((v3 - (1 : Int32))) fun y4 => P_Mod_both_h58 o K43 fw_fu M x1 x2 x3 x4 y4)
def P_Mod_both_h43 (o : Nat) : Nat → fw_M → Int32 → Int32 → Int32 → Int32 → Option (Int32 × fw_M)
  | 0, _, _, _, _, _ => none
  | n + 1, M, x1, x2, x3, x4 => P_Mod_both_b43 o (P_Mod_both_h43 o n) M x1 x2 x3 x4
def P_Mod_both_b0 (o : Nat) (M : fw_M) (x1 : Int32) : Option (Int32 × fw_M) := fw_pl (fw_set M o 0 (0 : Int32)) fun M1 => (P_Mod_isThere o M1).bind fun v2 => (if v2 = (0 : Int32) then some ((-1000002 : Int32), M1) else (P_Mod_in M1 (Int32.toInt64 x1) (0 : Int64) (1 : Int64)).bind fun v4 => (if v4 = (0 : Int32) then some ((-1000001 : Int32), M1) else (fw_ald M1 (o + 4) 39 (2 : Int32)).bind fun v6 => fw_pl ((v6 - (1 : Int32))) fun y7 => P_Mod_both_h43 o fw_fu M1 x1 (0 : Int32) (-1000000 : Int32) y7))
def P_Mod_both (o : Nat) (M : fw_M) (a0 : Int32) : Option (Int32 × fw_M) := P_Mod_both_b0 o M a0
set_option maxRecDepth 100000 in
theorem c_Mod_both_b152 {p : Program} {l : Launch} {e : Env} {s : State} {m : MethodId} {args : Array Value} {below : List Frame} {meth : Method} {c : Code} {D : va_G} {cI cZ cH cR : ClassId} {N : Nat} {ad : Nat → Nat} {EE : fw_M → Nat → va_E} {o : Nat} {M : fw_M} {t0 : Int32} {z : (Int32 × fw_M)} (C : fw_C p s m args meth c cX9_both RX9 wsX9_both 7 (some .int) D vwCl (fw_tys cI cZ cH cR) N ad fw_nw0) (ho : o_Mod EE ad N cI cZ cH cR o) (h : P_Mod_both_b152 o M t0 = some z) : fw_J p l e (headSpec wsX9_both rm_Mod_both).room s m args below meth c D vwCl N ad EE 7 0 0 (fw_E below args s D vwCl N ad EE (some (.int z.1)) z.2) M [] 152 [.int t0] := by
  unfold P_Mod_both_b152 at h
  exact fw_iret (pc := 152) C (fw_p1 h) (fw_p2 h) dX9_both_152
set_option maxRecDepth 100000 in
theorem c_Mod_both_b130 {p : Program} {l : Launch} {e : Env} {s : State} {m : MethodId} {args : Array Value} {below : List Frame} {meth : Method} {c : Code} {D : va_G} {cI cZ cH cR : ClassId} {N : Nat} {ad : Nat → Nat} {EE : fw_M → Nat → va_E} {o : Nat} {K43 : fw_M → Int32 → Int32 → Int32 → Int32 → Option (Int32 × fw_M)} {K58 : fw_M → Int32 → Int32 → Int32 → Int32 → Int32 → Option (Int32 × fw_M)} {M : fw_M} {x1 : Int32} {x2 : Int32} {x4 : Int32} {x5 : Int32} {t0 : Int32} {z : (Int32 × fw_M)} (C : fw_C p s m args meth c cX9_both RX9 wsX9_both 7 (some .int) D vwCl (fw_tys cI cZ cH cR) N ad fw_nw0) (ho : o_Mod EE ad N cI cZ cH cR o) (hK43 : ∀ (Mk : fw_M) (kx1 : Int32) (kx2 : Int32) (kx3 : Int32) (kx4 : Int32), K43 Mk kx1 kx2 kx3 kx4 = some z → fw_J p l e (headSpec wsX9_both rm_Mod_both).room s m args below meth c D vwCl N ad EE 7 0 0 (fw_E below args s D vwCl N ad EE (some (.int z.1)) z.2) Mk [(0, .ref (ad o)), (1, .int kx1), (2, .int kx2), (3, .int kx3), (4, .int kx4)] 43 []) (hK58 : ∀ (Mk : fw_M) (kx1 : Int32) (kx2 : Int32) (kx3 : Int32) (kx4 : Int32) (kx5 : Int32), K58 Mk kx1 kx2 kx3 kx4 kx5 = some z → fw_J p l e (headSpec wsX9_both rm_Mod_both).room s m args below meth c D vwCl N ad EE 7 0 0 (fw_E below args s D vwCl N ad EE (some (.int z.1)) z.2) Mk [(0, .ref (ad o)), (1, .int kx1), (2, .int kx2), (3, .int kx3), (4, .int kx4), (5, .int kx5)] 58 []) (h : P_Mod_both_b130 o K43 K58 M x1 x2 x4 x5 t0 = some z) : fw_J p l e (headSpec wsX9_both rm_Mod_both).room s m args below meth c D vwCl N ad EE 7 0 0 (fw_E below args s D vwCl N ad EE (some (.int z.1)) z.2) M [(0, .ref (ad o)), (1, .int x1), (2, .int x2), (4, .int x4), (5, .int x5)] 130 [.int t0] := by
  unfold P_Mod_both_b130 at h
  refine fw_istore_n (pc := 130) C (L2 := [(0, .ref _), (1, .int _), (2, .int _), (3, .int _), (4, .int _), (5, .int _)]) [1, 2, 3, 0, 4, 5] dX9_both_130 rfl (by decide) rfl ?_
  refine fw_iinc (pc := 131) C (v := -1) (L2 := [(0, .ref _), (1, .int _), (2, .int _), (3, .int _), (4, .int _), (5, .int _)]) 5 [1, 2, 3, 4, 5, 0] dX9_both_131 rfl fk_iconst_m1 (by decide) rfl ?_
  refine fw_goto (pc := 134) C (tgt := 58) dX9_both_134 (by decide) ?_
  exact (hK58 _ _ _ _ _ _ h)
set_option maxRecDepth 100000 in
theorem c_Mod_both_b111 {p : Program} {l : Launch} {e : Env} {s : State} {m : MethodId} {args : Array Value} {below : List Frame} {meth : Method} {c : Code} {D : va_G} {cI cZ cH cR : ClassId} {N : Nat} {ad : Nat → Nat} {EE : fw_M → Nat → va_E} {o : Nat} {K43 : fw_M → Int32 → Int32 → Int32 → Int32 → Option (Int32 × fw_M)} {K58 : fw_M → Int32 → Int32 → Int32 → Int32 → Int32 → Option (Int32 × fw_M)} {M : fw_M} {x1 : Int32} {x3 : Int32} {x4 : Int32} {x5 : Int32} {x6 : Int32} {t0 : Int32} {t1 : Int32} {z : (Int32 × fw_M)} (C : fw_C p s m args meth c cX9_both RX9 wsX9_both 7 (some .int) D vwCl (fw_tys cI cZ cH cR) N ad fw_nw0) (ho : o_Mod EE ad N cI cZ cH cR o) (hK43 : ∀ (Mk : fw_M) (kx1 : Int32) (kx2 : Int32) (kx3 : Int32) (kx4 : Int32), K43 Mk kx1 kx2 kx3 kx4 = some z → fw_J p l e (headSpec wsX9_both rm_Mod_both).room s m args below meth c D vwCl N ad EE 7 0 0 (fw_E below args s D vwCl N ad EE (some (.int z.1)) z.2) Mk [(0, .ref (ad o)), (1, .int kx1), (2, .int kx2), (3, .int kx3), (4, .int kx4)] 43 []) (hK58 : ∀ (Mk : fw_M) (kx1 : Int32) (kx2 : Int32) (kx3 : Int32) (kx4 : Int32) (kx5 : Int32), K58 Mk kx1 kx2 kx3 kx4 kx5 = some z → fw_J p l e (headSpec wsX9_both rm_Mod_both).room s m args below meth c D vwCl N ad EE 7 0 0 (fw_E below args s D vwCl N ad EE (some (.int z.1)) z.2) Mk [(0, .ref (ad o)), (1, .int kx1), (2, .int kx2), (3, .int kx3), (4, .int kx4), (5, .int kx5)] 58 []) (h : P_Mod_both_b111 o K43 K58 M x1 x3 x4 x5 x6 t0 t1 = some z) : fw_J p l e (headSpec wsX9_both rm_Mod_both).room s m args below meth c D vwCl N ad EE 7 0 0 (fw_E below args s D vwCl N ad EE (some (.int z.1)) z.2) M [(0, .ref (ad o)), (1, .int x1), (3, .int x3), (4, .int x4), (5, .int x5), (6, .int x6)] 111 [.int t1, .int t0] := by
  unfold P_Mod_both_b111 at h
  refine fw_iadd (pc := 111) C dX9_both_111 ?_
  have h := fw_plh h
  refine fw_istore_n (pc := 112) C (L2 := [(0, .ref _), (1, .int _), (2, .int _), (3, .int _), (4, .int _), (5, .int _), (6, .int _)]) [1, 2, 0, 3, 4, 5, 6] dX9_both_112 rfl (by decide) rfl ?_
  refine fw_iload (pc := 113) C 6 dX9_both_113 rfl ?_
  refine fw_if_eq (pc := 115) C (tgt := 129) dX9_both_115 (by decide) (fun c2 => ?_) (fun c2 => ?_)
  · have h := fw_ift h c2
    refine fw_iload_n (pc := 129) C 3 dX9_both_129 rfl rfl ?_
    exact fw_sub [0, 1, 2, 4, 5] rfl (c_Mod_both_b130 C ho hK43 hK58 h)
  · have h := fw_iff h c2
    refine fw_bipush (pc := 118) C (v := 10) dX9_both_118 fk_bipush_10 ?_
    refine fw_iload (pc := 120) C 4 dX9_both_120 rfl ?_
    refine fw_imul (pc := 122) C dX9_both_122 ?_
    refine fw_iload (pc := 123) C 5 dX9_both_123 rfl ?_
    refine fw_iadd (pc := 125) C dX9_both_125 ?_
    refine fw_goto (pc := 126) C (tgt := 130) dX9_both_126 (by decide) ?_
    exact fw_sub [0, 1, 2, 4, 5] rfl (c_Mod_both_b130 C ho hK43 hK58 h)
set_option maxRecDepth 100000 in
theorem c_Mod_both_b98 {p : Program} {l : Launch} {e : Env} {s : State} {m : MethodId} {args : Array Value} {below : List Frame} {meth : Method} {c : Code} {D : va_G} {cI cZ cH cR : ClassId} {N : Nat} {ad : Nat → Nat} {EE : fw_M → Nat → va_E} {o : Nat} {K43 : fw_M → Int32 → Int32 → Int32 → Int32 → Option (Int32 × fw_M)} {K58 : fw_M → Int32 → Int32 → Int32 → Int32 → Int32 → Option (Int32 × fw_M)} {M : fw_M} {x1 : Int32} {x2 : Int32} {x3 : Int32} {x4 : Int32} {x5 : Int32} {t0 : Int32} {z : (Int32 × fw_M)} (C : fw_C p s m args meth c cX9_both RX9 wsX9_both 7 (some .int) D vwCl (fw_tys cI cZ cH cR) N ad fw_nw0) (ho : o_Mod EE ad N cI cZ cH cR o) (hK43 : ∀ (Mk : fw_M) (kx1 : Int32) (kx2 : Int32) (kx3 : Int32) (kx4 : Int32), K43 Mk kx1 kx2 kx3 kx4 = some z → fw_J p l e (headSpec wsX9_both rm_Mod_both).room s m args below meth c D vwCl N ad EE 7 0 0 (fw_E below args s D vwCl N ad EE (some (.int z.1)) z.2) Mk [(0, .ref (ad o)), (1, .int kx1), (2, .int kx2), (3, .int kx3), (4, .int kx4)] 43 []) (hK58 : ∀ (Mk : fw_M) (kx1 : Int32) (kx2 : Int32) (kx3 : Int32) (kx4 : Int32) (kx5 : Int32), K58 Mk kx1 kx2 kx3 kx4 kx5 = some z → fw_J p l e (headSpec wsX9_both rm_Mod_both).room s m args below meth c D vwCl N ad EE 7 0 0 (fw_E below args s D vwCl N ad EE (some (.int z.1)) z.2) Mk [(0, .ref (ad o)), (1, .int kx1), (2, .int kx2), (3, .int kx3), (4, .int kx4), (5, .int kx5)] 58 []) (h : P_Mod_both_b98 o K43 K58 M x1 x2 x3 x4 x5 t0 = some z) : fw_J p l e (headSpec wsX9_both rm_Mod_both).room s m args below meth c D vwCl N ad EE 7 0 0 (fw_E below args s D vwCl N ad EE (some (.int z.1)) z.2) M [(0, .ref (ad o)), (1, .int x1), (2, .int x2), (3, .int x3), (4, .int x4), (5, .int x5)] 98 [.int t0] := by
  unfold P_Mod_both_b98 at h
  refine fw_istore (pc := 98) C (L2 := [(0, .ref _), (1, .int _), (2, .int _), (3, .int _), (4, .int _), (5, .int _), (6, .int _)]) [1, 2, 3, 4, 5, 6, 0] dX9_both_98 (by decide) rfl ?_
  refine fw_iload_n (pc := 100) C 2 dX9_both_100 rfl rfl ?_
  refine fw_iload (pc := 101) C 6 dX9_both_101 rfl ?_
  refine fw_if_eq (pc := 103) C (tgt := 110) dX9_both_103 (by decide) (fun c1 => ?_) (fun c1 => ?_)
  · have h := fw_ift h c1
    refine fw_iconst (pc := 110) C (v := 0) dX9_both_110 fk_iconst_0 ?_
    exact fw_sub [0, 1, 3, 4, 5, 6] rfl (c_Mod_both_b111 C ho hK43 hK58 h)
  · have h := fw_iff h c1
    refine fw_iconst (pc := 106) C (v := 1) dX9_both_106 fk_iconst_1 ?_
    refine fw_goto (pc := 107) C (tgt := 111) dX9_both_107 (by decide) ?_
    exact fw_sub [0, 1, 3, 4, 5, 6] rfl (c_Mod_both_b111 C ho hK43 hK58 h)
set_option maxRecDepth 100000 in
theorem c_Mod_both_b97 {p : Program} {l : Launch} {e : Env} {s : State} {m : MethodId} {args : Array Value} {below : List Frame} {meth : Method} {c : Code} {D : va_G} {cI cZ cH cR : ClassId} {N : Nat} {ad : Nat → Nat} {EE : fw_M → Nat → va_E} {o : Nat} {K43 : fw_M → Int32 → Int32 → Int32 → Int32 → Option (Int32 × fw_M)} {K58 : fw_M → Int32 → Int32 → Int32 → Int32 → Int32 → Option (Int32 × fw_M)} {M : fw_M} {x1 : Int32} {x2 : Int32} {x3 : Int32} {x4 : Int32} {x5 : Int32} {z : (Int32 × fw_M)} (C : fw_C p s m args meth c cX9_both RX9 wsX9_both 7 (some .int) D vwCl (fw_tys cI cZ cH cR) N ad fw_nw0) (ho : o_Mod EE ad N cI cZ cH cR o) (hK43 : ∀ (Mk : fw_M) (kx1 : Int32) (kx2 : Int32) (kx3 : Int32) (kx4 : Int32), K43 Mk kx1 kx2 kx3 kx4 = some z → fw_J p l e (headSpec wsX9_both rm_Mod_both).room s m args below meth c D vwCl N ad EE 7 0 0 (fw_E below args s D vwCl N ad EE (some (.int z.1)) z.2) Mk [(0, .ref (ad o)), (1, .int kx1), (2, .int kx2), (3, .int kx3), (4, .int kx4)] 43 []) (hK58 : ∀ (Mk : fw_M) (kx1 : Int32) (kx2 : Int32) (kx3 : Int32) (kx4 : Int32) (kx5 : Int32), K58 Mk kx1 kx2 kx3 kx4 kx5 = some z → fw_J p l e (headSpec wsX9_both rm_Mod_both).room s m args below meth c D vwCl N ad EE 7 0 0 (fw_E below args s D vwCl N ad EE (some (.int z.1)) z.2) Mk [(0, .ref (ad o)), (1, .int kx1), (2, .int kx2), (3, .int kx3), (4, .int kx4), (5, .int kx5)] 58 []) (h : P_Mod_both_b97 o K43 K58 M x1 x2 x3 x4 x5 = some z) : fw_J p l e (headSpec wsX9_both rm_Mod_both).room s m args below meth c D vwCl N ad EE 7 0 0 (fw_E below args s D vwCl N ad EE (some (.int z.1)) z.2) M [(0, .ref (ad o)), (1, .int x1), (2, .int x2), (3, .int x3), (4, .int x4), (5, .int x5)] 97 [] := by
  unfold P_Mod_both_b97 at h
  refine fw_iconst (pc := 97) C (v := 0) dX9_both_97 fk_iconst_0 ?_
  exact (c_Mod_both_b98 C ho hK43 hK58 h)
set_option maxRecDepth 100000 in
theorem c_Mod_both_b58 {p : Program} {l : Launch} {e : Env} {s : State} {m : MethodId} {args : Array Value} {below : List Frame} {meth : Method} {c : Code} {D : va_G} {cI cZ cH cR : ClassId} {N : Nat} {ad : Nat → Nat} {EE : fw_M → Nat → va_E} {o : Nat} {K43 : fw_M → Int32 → Int32 → Int32 → Int32 → Option (Int32 × fw_M)} {K58 : fw_M → Int32 → Int32 → Int32 → Int32 → Int32 → Option (Int32 × fw_M)} {M : fw_M} {x1 : Int32} {x2 : Int32} {x3 : Int32} {x4 : Int32} {x5 : Int32} {z : (Int32 × fw_M)} (C : fw_C p s m args meth c cX9_both RX9 wsX9_both 7 (some .int) D vwCl (fw_tys cI cZ cH cR) N ad fw_nw0) (ho : o_Mod EE ad N cI cZ cH cR o) (hK43 : ∀ (Mk : fw_M) (kx1 : Int32) (kx2 : Int32) (kx3 : Int32) (kx4 : Int32), K43 Mk kx1 kx2 kx3 kx4 = some z → fw_J p l e (headSpec wsX9_both rm_Mod_both).room s m args below meth c D vwCl N ad EE 7 0 0 (fw_E below args s D vwCl N ad EE (some (.int z.1)) z.2) Mk [(0, .ref (ad o)), (1, .int kx1), (2, .int kx2), (3, .int kx3), (4, .int kx4)] 43 []) (hK58 : ∀ (Mk : fw_M) (kx1 : Int32) (kx2 : Int32) (kx3 : Int32) (kx4 : Int32) (kx5 : Int32), K58 Mk kx1 kx2 kx3 kx4 kx5 = some z → fw_J p l e (headSpec wsX9_both rm_Mod_both).room s m args below meth c D vwCl N ad EE 7 0 0 (fw_E below args s D vwCl N ad EE (some (.int z.1)) z.2) Mk [(0, .ref (ad o)), (1, .int kx1), (2, .int kx2), (3, .int kx3), (4, .int kx4), (5, .int kx5)] 58 []) (h : P_Mod_both_b58 o K43 K58 M x1 x2 x3 x4 x5 = some z) : fw_J p l e (headSpec wsX9_both rm_Mod_both).room s m args below meth c D vwCl N ad EE 7 0 0 (fw_E below args s D vwCl N ad EE (some (.int z.1)) z.2) M [(0, .ref (ad o)), (1, .int x1), (2, .int x2), (3, .int x3), (4, .int x4), (5, .int x5)] 58 [] := by
  unfold P_Mod_both_b58 at h
  refine fw_iload (pc := 58) C 5 dX9_both_58 rfl ?_
  refine fw_iload (pc := 60) C 4 dX9_both_60 rfl ?_
  refine fw_icmp_le (pc := 62) C (tgt := 137) dX9_both_62 (by decide) (fun c1 => ?_) (fun c1 => ?_)
  · have h := fw_ift h c1
    refine fw_iinc (pc := 137) C (v := -1) (L2 := [(0, .ref _), (1, .int _), (2, .int _), (3, .int _), (4, .int _), (5, .int _)]) 4 [1, 2, 3, 4, 0, 5] dX9_both_137 rfl fk_iconst_m1 (by decide) rfl ?_
    refine fw_goto (pc := 140) C (tgt := 43) dX9_both_140 (by decide) ?_
    exact fw_sub [0, 1, 2, 3, 4] rfl (hK43 _ _ _ _ _ h)
  · have h := fw_iff h c1
    refine fw_aload_n (pc := 65) C 0 dX9_both_65 rfl rfl ?_
    refine fw_getr (pc := 66) C ho.2.2.2.2.2.2.1.1 rfl qX9_both_19 dX9_both_66 ?_
    refine fw_iload (pc := 69) C 4 dX9_both_69 rfl ?_
    refine fw_iload (pc := 71) C 5 dX9_both_71 rfl ?_
    obtain ⟨v2, hv2, h⟩ := fw_bind h
    refine fw_callS1 (pc := 73) C (rest := []) (c_Mod_yields ho.2.2.2.2.2.2.1.2 hv2) (va_cwS 3 C.2.2.2.2.1 gX9_both_X9_yields rfl rfl rfl hd_Mod_yields.2 ⟨Nat.le_of_ble_eq_true rfl, Nat.le_of_ble_eq_true rfl⟩) rfl ⟨Nat.zero_le _, Nat.zero_le _⟩ rfl (Nat.le_of_ble_eq_true rfl) dX9_both_73 ?_
    refine fw_if_eq (pc := 76) C (tgt := 97) dX9_both_76 (by decide) (fun c3 => ?_) (fun c3 => ?_)
    · have h := fw_ift h c3
      exact (c_Mod_both_b97 C ho hK43 hK58 h)
    · have h := fw_iff h c3
      refine fw_aload_n (pc := 79) C 0 dX9_both_79 rfl rfl ?_
      refine fw_getr (pc := 80) C ho.2.2.2.2.2.2.1.1 rfl qX9_both_19 dX9_both_80 ?_
      refine fw_iload (pc := 83) C 5 dX9_both_83 rfl ?_
      refine fw_iload (pc := 85) C 4 dX9_both_85 rfl ?_
      obtain ⟨v4, hv4, h⟩ := fw_bind h
      refine fw_callS1 (pc := 87) C (rest := []) (c_Mod_yields ho.2.2.2.2.2.2.1.2 hv4) (va_cwS 3 C.2.2.2.2.1 gX9_both_X9_yields rfl rfl rfl hd_Mod_yields.2 ⟨Nat.le_of_ble_eq_true rfl, Nat.le_of_ble_eq_true rfl⟩) rfl ⟨Nat.zero_le _, Nat.zero_le _⟩ rfl (Nat.le_of_ble_eq_true rfl) dX9_both_87 ?_
      refine fw_if_eq (pc := 90) C (tgt := 97) dX9_both_90 (by decide) (fun c5 => ?_) (fun c5 => ?_)
      · have h := fw_ift h c5
        exact (c_Mod_both_b97 C ho hK43 hK58 h)
      · have h := fw_iff h c5
        refine fw_iconst (pc := 93) C (v := 1) dX9_both_93 fk_iconst_1 ?_
        refine fw_goto (pc := 94) C (tgt := 98) dX9_both_94 (by decide) ?_
        exact (c_Mod_both_b98 C ho hK43 hK58 h)
theorem c_Mod_both_h58 {p : Program} {l : Launch} {e : Env} {s : State} {m : MethodId} {args : Array Value} {below : List Frame} {meth : Method} {c : Code} {D : va_G} {cI cZ cH cR : ClassId} {N : Nat} {ad : Nat → Nat} {EE : fw_M → Nat → va_E} {o : Nat} {K43 : fw_M → Int32 → Int32 → Int32 → Int32 → Option (Int32 × fw_M)} {z : (Int32 × fw_M)} (C : fw_C p s m args meth c cX9_both RX9 wsX9_both 7 (some .int) D vwCl (fw_tys cI cZ cH cR) N ad fw_nw0) (ho : o_Mod EE ad N cI cZ cH cR o) (hK43 : ∀ (Mk : fw_M) (kx1 : Int32) (kx2 : Int32) (kx3 : Int32) (kx4 : Int32), K43 Mk kx1 kx2 kx3 kx4 = some z → fw_J p l e (headSpec wsX9_both rm_Mod_both).room s m args below meth c D vwCl N ad EE 7 0 0 (fw_E below args s D vwCl N ad EE (some (.int z.1)) z.2) Mk [(0, .ref (ad o)), (1, .int kx1), (2, .int kx2), (3, .int kx3), (4, .int kx4)] 43 []) : ∀ (n : Nat) (M : fw_M) (x1 : Int32) (x2 : Int32) (x3 : Int32) (x4 : Int32) (x5 : Int32), P_Mod_both_h58 o K43 n M x1 x2 x3 x4 x5 = some z → fw_J p l e (headSpec wsX9_both rm_Mod_both).room s m args below meth c D vwCl N ad EE 7 0 0 (fw_E below args s D vwCl N ad EE (some (.int z.1)) z.2) M [(0, .ref (ad o)), (1, .int x1), (2, .int x2), (3, .int x3), (4, .int x4), (5, .int x5)] 58 [] := by
  intro n
  induction n with
  | zero => intro M x1 x2 x3 x4 x5  h; cases h
  | succ n ih => intro M x1 x2 x3 x4 x5  h; exact c_Mod_both_b58 C ho hK43 ih  h
set_option maxRecDepth 100000 in
theorem c_Mod_both_b43 {p : Program} {l : Launch} {e : Env} {s : State} {m : MethodId} {args : Array Value} {below : List Frame} {meth : Method} {c : Code} {D : va_G} {cI cZ cH cR : ClassId} {N : Nat} {ad : Nat → Nat} {EE : fw_M → Nat → va_E} {o : Nat} {K43 : fw_M → Int32 → Int32 → Int32 → Int32 → Option (Int32 × fw_M)} {M : fw_M} {x1 : Int32} {x2 : Int32} {x3 : Int32} {x4 : Int32} {z : (Int32 × fw_M)} (C : fw_C p s m args meth c cX9_both RX9 wsX9_both 7 (some .int) D vwCl (fw_tys cI cZ cH cR) N ad fw_nw0) (ho : o_Mod EE ad N cI cZ cH cR o) (hK43 : ∀ (Mk : fw_M) (kx1 : Int32) (kx2 : Int32) (kx3 : Int32) (kx4 : Int32), K43 Mk kx1 kx2 kx3 kx4 = some z → fw_J p l e (headSpec wsX9_both rm_Mod_both).room s m args below meth c D vwCl N ad EE 7 0 0 (fw_E below args s D vwCl N ad EE (some (.int z.1)) z.2) Mk [(0, .ref (ad o)), (1, .int kx1), (2, .int kx2), (3, .int kx3), (4, .int kx4)] 43 []) (h : P_Mod_both_b43 o K43 M x1 x2 x3 x4 = some z) : fw_J p l e (headSpec wsX9_both rm_Mod_both).room s m args below meth c D vwCl N ad EE 7 0 0 (fw_E below args s D vwCl N ad EE (some (.int z.1)) z.2) M [(0, .ref (ad o)), (1, .int x1), (2, .int x2), (3, .int x3), (4, .int x4)] 43 [] := by
  unfold P_Mod_both_b43 at h
  refine fw_iload (pc := 43) C 4 dX9_both_43 rfl ?_
  refine fw_if_lt (pc := 45) C (tgt := 143) dX9_both_45 (by decide) (fun c1 => ?_) (fun c1 => ?_)
  · have h := fw_ift h c1
    refine fw_iload_n (pc := 143) C 1 dX9_both_143 rfl rfl ?_
    refine fw_if_ne (pc := 144) C (tgt := 151) dX9_both_144 (by decide) (fun c2 => ?_) (fun c2 => ?_)
    · have h := fw_iff h c2
      refine fw_iload_n (pc := 151) C 3 dX9_both_151 rfl rfl ?_
      exact fw_sub [] rfl (c_Mod_both_b152 C ho h)
    · have h := fw_ift h c2
      refine fw_iload_n (pc := 147) C 2 dX9_both_147 rfl rfl ?_
      refine fw_goto (pc := 148) C (tgt := 152) dX9_both_148 (by decide) ?_
      exact fw_sub [] rfl (c_Mod_both_b152 C ho h)
  · have h := fw_iff h c1
    refine fw_aload_n (pc := 48) C 0 dX9_both_48 rfl rfl ?_
    refine fw_getr (pc := 49) C ho.2.2.2.2.2.2.1.1 rfl qX9_both_19 dX9_both_49 ?_
    refine fw_iconst (pc := 52) C (v := 2) dX9_both_52 fk_iconst_2 ?_
    obtain ⟨v3, hv3, h⟩ := fw_bind h
    refine fw_iald (pc := 53) C 0 ho.2.2.2.2.2.2.1.2 rfl hv3 dX9_both_53 ?_
    refine fw_iconst (pc := 54) C (v := 1) dX9_both_54 fk_iconst_1 ?_
    refine fw_isub (pc := 55) C dX9_both_55 ?_
    have h := fw_plh h
    refine fw_istore (pc := 56) C (L2 := [(0, .ref _), (1, .int _), (2, .int _), (3, .int _), (4, .int _), (5, .int _)]) [1, 2, 3, 4, 5, 0] dX9_both_56 (by decide) rfl ?_
    exact (c_Mod_both_h58 C ho hK43 _ _ _ _ _ _ _ h)
theorem c_Mod_both_h43 {p : Program} {l : Launch} {e : Env} {s : State} {m : MethodId} {args : Array Value} {below : List Frame} {meth : Method} {c : Code} {D : va_G} {cI cZ cH cR : ClassId} {N : Nat} {ad : Nat → Nat} {EE : fw_M → Nat → va_E} {o : Nat} {z : (Int32 × fw_M)} (C : fw_C p s m args meth c cX9_both RX9 wsX9_both 7 (some .int) D vwCl (fw_tys cI cZ cH cR) N ad fw_nw0) (ho : o_Mod EE ad N cI cZ cH cR o) : ∀ (n : Nat) (M : fw_M) (x1 : Int32) (x2 : Int32) (x3 : Int32) (x4 : Int32), P_Mod_both_h43 o n M x1 x2 x3 x4 = some z → fw_J p l e (headSpec wsX9_both rm_Mod_both).room s m args below meth c D vwCl N ad EE 7 0 0 (fw_E below args s D vwCl N ad EE (some (.int z.1)) z.2) M [(0, .ref (ad o)), (1, .int x1), (2, .int x2), (3, .int x3), (4, .int x4)] 43 [] := by
  intro n
  induction n with
  | zero => intro M x1 x2 x3 x4  h; cases h
  | succ n ih => intro M x1 x2 x3 x4  h; exact c_Mod_both_b43 C ho ih  h
set_option maxRecDepth 100000 in
theorem c_Mod_both_b0 {p : Program} {l : Launch} {e : Env} {s : State} {m : MethodId} {args : Array Value} {below : List Frame} {meth : Method} {c : Code} {D : va_G} {cI cZ cH cR : ClassId} {N : Nat} {ad : Nat → Nat} {EE : fw_M → Nat → va_E} {o : Nat} {M : fw_M} {x1 : Int32} {z : (Int32 × fw_M)} (C : fw_C p s m args meth c cX9_both RX9 wsX9_both 7 (some .int) D vwCl (fw_tys cI cZ cH cR) N ad fw_nw0) (ho : o_Mod EE ad N cI cZ cH cR o) (h : P_Mod_both_b0 o M x1 = some z) : fw_J p l e (headSpec wsX9_both rm_Mod_both).room s m args below meth c D vwCl N ad EE 7 0 0 (fw_E below args s D vwCl N ad EE (some (.int z.1)) z.2) M [(0, .ref (ad o)), (1, .int x1)] 0 [] := by
  unfold P_Mod_both_b0 at h
  refine fw_aload_n (pc := 0) C 0 dX9_both_0 rfl rfl ?_
  refine fw_iconst (pc := 1) C (v := 0) dX9_both_1 fk_iconst_0 ?_
  have h := fw_plh h
  refine fw_puti (pc := 2) C ho.2.1 rfl qX9_both_47 tyX9 tyX9_ok nmX9 rfl rfl dX9_both_2 ?_
  refine fw_aload_n (pc := 5) C 0 dX9_both_5 rfl rfl ?_
  obtain ⟨v2, hv2, h⟩ := fw_bind h
  refine fw_callV1 (pc := 6) C (rest := []) (c_Mod_isThere ho hv2) (cwV 0 C.2.2.2.2.1 gX9_both_X9_isThere rfl rfl rfl hd_Mod_isThere ⟨Nat.le_of_ble_eq_true rfl, Nat.le_of_ble_eq_true rfl⟩) ho.1 rfl rfl ⟨Nat.zero_le _, Nat.zero_le _⟩ rfl (Nat.le_of_ble_eq_true rfl) dX9_both_6 ?_
  refine fw_if_ne (pc := 9) C (tgt := 15) dX9_both_9 (by decide) (fun c3 => ?_) (fun c3 => ?_)
  · have h := fw_iff h c3
    refine fw_iload_n (pc := 15) C 1 dX9_both_15 rfl rfl ?_
    refine fw_i2l (pc := 16) C dX9_both_16 ?_
    refine fw_lconst (pc := 17) C (v := 0) dX9_both_17 fk_lconst_0 ?_
    refine fw_lconst (pc := 18) C (v := 1) dX9_both_18 fk_lconst_1 ?_
    obtain ⟨v4, hv4, h⟩ := fw_bind h
    refine fw_callS1 (pc := 19) C (rest := []) (c_Mod_in  hv4) (va_cwS 3 C.2.2.2.2.1 gX9_both_X9_in rfl rfl rfl hd_Mod_in.2 ⟨Nat.le_of_ble_eq_true rfl, Nat.le_of_ble_eq_true rfl⟩) rfl ⟨Nat.zero_le _, Nat.zero_le _⟩ rfl (Nat.le_of_ble_eq_true rfl) dX9_both_19 ?_
    refine fw_if_ne (pc := 22) C (tgt := 28) dX9_both_22 (by decide) (fun c5 => ?_) (fun c5 => ?_)
    · have h := fw_iff h c5
      refine fw_iconst (pc := 28) C (v := 0) dX9_both_28 fk_iconst_0 ?_
      refine fw_istore_n (pc := 29) C (L2 := [(0, .ref _), (1, .int _), (2, .int _)]) [1, 2, 0] dX9_both_29 rfl (by decide) rfl ?_
      refine fw_ldc (pc := 30) C (v := -1000000) kX9_both_90 dX9_both_30 ?_
      refine fw_istore_n (pc := 32) C (L2 := [(0, .ref _), (1, .int _), (2, .int _), (3, .int _)]) [1, 2, 3, 0] dX9_both_32 rfl (by decide) rfl ?_
      refine fw_aload_n (pc := 33) C 0 dX9_both_33 rfl rfl ?_
      refine fw_getr (pc := 34) C ho.2.2.2.2.2.2.1.1 rfl qX9_both_19 dX9_both_34 ?_
      refine fw_iconst (pc := 37) C (v := 2) dX9_both_37 fk_iconst_2 ?_
      obtain ⟨v6, hv6, h⟩ := fw_bind h
      refine fw_iald (pc := 38) C 0 ho.2.2.2.2.2.2.1.2 rfl hv6 dX9_both_38 ?_
      refine fw_iconst (pc := 39) C (v := 1) dX9_both_39 fk_iconst_1 ?_
      refine fw_isub (pc := 40) C dX9_both_40 ?_
      have h := fw_plh h
      refine fw_istore (pc := 41) C (L2 := [(0, .ref _), (1, .int _), (2, .int _), (3, .int _), (4, .int _)]) [1, 2, 3, 4, 0] dX9_both_41 (by decide) rfl ?_
      exact (c_Mod_both_h43 C ho _ _ _ _ _ _ h)
    · have h := fw_ift h c5
      refine fw_ldc (pc := 25) C (v := -1000001) kX9_both_67 dX9_both_25 ?_
      exact fw_iret (pc := 27) C (fw_p1 h) (fw_p2 h) dX9_both_27
  · have h := fw_ift h c3
    refine fw_ldc (pc := 12) C (v := -1000002) kX9_both_187 dX9_both_12 ?_
    exact fw_iret (pc := 14) C (fw_p1 h) (fw_p2 h) dX9_both_14
theorem c_Mod_both {l : Launch} {D : va_G} {cI cZ cH cR : ClassId} {N : Nat} {ad : Nat → Nat} {EE : fw_M → Nat → va_E} {o : Nat} {M : fw_M} {a0 : Int32} {z : (Int32 × fw_M)} (ho : o_Mod EE ad N cI cZ cH cR o) (h : P_Mod_both o M a0 = some z) : fw_Met l yX9_both wsX9_both rm_Mod_both D vwCl (fw_tys cI cZ cH cR) N ad fw_nw0 EE [.ref (ad o), .int a0] M (some (.int z.1)) z.2 := by
  unfold P_Mod_both at h
  exact fw_intro (cc := cX9_both) (maxL := 7) (ret := some .int) (own := RX9) (by decide) rfl rfl (Nat.le_of_ble_eq_true rfl) (fun p e s m args below meth c C => fw_sub [0, 1] rfl (c_Mod_both_b0 C ho h))
abbrev rm_Mod_faint : Room := { frames := 5, cells := 0, slots := 0, locals := 112 }
theorem hd_Mod_faint : yX9_faint.cls = RX9 ∧ yX9_faint.cls ≠ "java/lang/invoke/MethodHandle" ∧ yX9_faint.cls ≠ "java/lang/invoke/VarHandle" ∧ (parseMethodDescriptor yX9_faint.desc).map (fun d => d.parameters.length) = some 3 := by decide +kernel
theorem qX9_faint_47 : fw_G wsX9_faint RX9 47 RX9 TX9 24 0 := ⟨by decide +kernel, by decide +kernel, by decide⟩
theorem kX9_faint_224 : Cond.constantLong RX9 224 (-1000002) ∈ wsX9_faint := by decide +kernel
theorem kX9_faint_226 : Cond.constantLong RX9 226 (10) ∈ wsX9_faint := by decide +kernel
theorem qX9_faint_19 : fw_G wsX9_faint RX9 19 RX9 TX9 24 5 := ⟨by decide +kernel, by decide +kernel, by decide⟩
theorem qX9_faint_25 : fw_G wsX9_faint RX9 25 RX9 TX9 24 7 := ⟨by decide +kernel, by decide +kernel, by decide⟩
theorem kX9_faint_90 : Cond.constant RX9 90 (-1000000) ∈ wsX9_faint := by decide +kernel
theorem kX9_faint_228 : Cond.constantLong RX9 228 (-1000001) ∈ wsX9_faint := by decide +kernel
def P_Mod_faint_b46 (o : Nat) (M : fw_M) : Option (Int64 × fw_M) := some ((-1000001 : Int64), M)
def P_Mod_faint_b273 (o : Nat) (M : fw_M) (x9 : Int64) (t0 : Int64) : Option (Int64 × fw_M) := (fw_ldivP t0 x9).bind fun v1 => some (v1, M)
def P_Mod_faint_b237 (o : Nat) (K237 : fw_M → Int32 → Int64 → Int64 → Int64 → Int64 → Option (Int64 × fw_M)) (M : fw_M) (x3 : Int32) (x5 : Int64) (x7 : Int64) (x9 : Int64) (x11 : Int64) : Option (Int64 × fw_M) := (if (lg_cmp x11 (0 : Int64)) = (0 : Int32) then (if x3 = (0 : Int32) then P_Mod_faint_b273 o M x9 x5 else P_Mod_faint_b273 o M x9 x7) else (fw_lremP x9 x11).bind fun v3 => K237 M x3 x5 x7 x11 v3)
def P_Mod_faint_h237 (o : Nat) : Nat → fw_M → Int32 → Int64 → Int64 → Int64 → Int64 → Option (Int64 × fw_M)
  | 0, _, _, _, _, _, _ => none
  | n + 1, M, x3, x5, x7, x9, x11 => P_Mod_faint_b237 o (P_Mod_faint_h237 o n) M x3 x5 x7 x9 x11
def P_Mod_faint_b223 (o : Nat) (K69 : fw_M → Int32 → Int32 → Int32 → Int32 → Int64 → Int64 → Int32 → Option (Int64 × fw_M)) (M : fw_M) (x1 : Int32) (x2 : Int32) (x3 : Int32) (x4 : Int32) (x5 : Int64) (x7 : Int64) (x9 : Int32) : Option (Int64 × fw_M) := K69 M x1 x2 x3 x4 x5 x7 (x9 + (1 : Int32))
def P_Mod_faint_b220 (o : Nat) (K69 : fw_M → Int32 → Int32 → Int32 → Int32 → Int64 → Int64 → Int32 → Option (Int64 × fw_M)) (M : fw_M) (x1 : Int32) (x2 : Int32) (x3 : Int32) (x4 : Int32) (x7 : Int64) (x9 : Int32) (t0 : Int64) (t1 : Int64) : Option (Int64 × fw_M) := fw_pl ((t0 + t1)) fun y1 => P_Mod_faint_b223 o K69 M x1 x2 x3 x4 y1 x7 x9
def P_Mod_faint_b185 (o : Nat) (K69 : fw_M → Int32 → Int32 → Int32 → Int32 → Int64 → Int64 → Int32 → Option (Int64 × fw_M)) (K96 : fw_M → Int32 → Int32 → Int32 → Int32 → Int64 → Int64 → Int32 → Int64 → Int32 → Option (Int64 × fw_M)) (M : fw_M) (x1 : Int32) (x2 : Int32) (x3 : Int32) (x4 : Int32) (x5 : Int64) (x7 : Int64) (x9 : Int32) (x10 : Int64) (x12 : Int32) (t1 : Int32) (t2 : Int32) : Option (Int64 × fw_M) := (fw_ast M (o + 6) 39 t1 t2).bind fun M1 => K96 M1 x1 x2 x3 x4 x5 x7 x9 x10 (x12 + (1 : Int32))
def P_Mod_faint_b145 (o : Nat) (K69 : fw_M → Int32 → Int32 → Int32 → Int32 → Int64 → Int64 → Int32 → Option (Int64 × fw_M)) (K96 : fw_M → Int32 → Int32 → Int32 → Int32 → Int64 → Int64 → Int32 → Int64 → Int32 → Option (Int64 × fw_M)) (M : fw_M) (x1 : Int32) (x2 : Int32) (x3 : Int32) (x4 : Int32) (x5 : Int64) (x7 : Int64) (x9 : Int32) (x12 : Int32) (t0 : Int64) (t1 : Int64) : Option (Int64 × fw_M) := fw_pl ((t0 * t1)) fun y1 => (if ((x9 >>> (x12 &&& 31)) &&& (1 : Int32)) = (1 : Int32) then P_Mod_faint_b185 o K69 K96 M x1 x2 x3 x4 x5 x7 x9 y1 x12 (((4 : Int32) + ((5 : Int32) * x12)) + (3 : Int32)) (-1 : Int32) else (P_Mod_of (o + 4) M x12 (3 : Int32)).bind fun v3 => P_Mod_faint_b185 o K69 K96 M x1 x2 x3 x4 x5 x7 x9 y1 x12 (((4 : Int32) + ((5 : Int32) * x12)) + (3 : Int32)) v3)
def P_Mod_faint_b96 (o : Nat) (K69 : fw_M → Int32 → Int32 → Int32 → Int32 → Int64 → Int64 → Int32 → Option (Int64 × fw_M)) (K96 : fw_M → Int32 → Int32 → Int32 → Int32 → Int64 → Int64 → Int32 → Int64 → Int32 → Option (Int64 × fw_M)) (M : fw_M) (x1 : Int32) (x2 : Int32) (x3 : Int32) (x4 : Int32) (x5 : Int64) (x7 : Int64) (x9 : Int32) (x10 : Int64) (x12 : Int32) : Option (Int64 × fw_M) := (fw_ald M (o + 4) 39 (2 : Int32)).bind fun v1 => (if v1 ≤ x12 then fw_pl ((x7 + x10)) fun y3 => (P_Mod_goesAt (o + 6) M x1).bind fun v4 => (if v4 = (-1000000 : Int32) then P_Mod_faint_b220 o K69 M x1 x2 x3 x4 y3 x9 x5 (0 : Int64) else P_Mod_faint_b220 o K69 M x1 x2 x3 x4 y3 x9 x5 x10) else (if ((x4 >>> (x12 &&& 31)) &&& (1 : Int32)) = (0 : Int32) then P_Mod_faint_b145 o K69 K96 M x1 x2 x3 x4 x5 x7 x9 x12 x10 (1 : Int64) else (if ((x9 >>> (x12 &&& 31)) &&& (1 : Int32)) = (1 : Int32) then P_Mod_faint_b145 o K69 K96 M x1 x2 x3 x4 x5 x7 x9 x12 x10 (Int32.toInt64 x2) else P_Mod_faint_b145 o K69 K96 M x1 x2 x3 x4 x5 x7 x9 x12 x10 ((10 : Int64) - (Int32.toInt64 x2)))))
def P_Mod_faint_h96 (o : Nat) (K69 : fw_M → Int32 → Int32 → Int32 → Int32 → Int64 → Int64 → Int32 → Option (Int64 × fw_M)) : Nat → fw_M → Int32 → Int32 → Int32 → Int32 → Int64 → Int64 → Int32 → Int64 → Int32 → Option (Int64 × fw_M)
  | 0, _, _, _, _, _, _, _, _, _, _ => none
  | n + 1, M, x1, x2, x3, x4, x5, x7, x9, x10, x12 => P_Mod_faint_b96 o K69 (P_Mod_faint_h96 o K69 n) M x1 x2 x3 x4 x5 x7 x9 x10 x12
def P_Mod_faint_b69 (o : Nat) (K69 : fw_M → Int32 → Int32 → Int32 → Int32 → Int64 → Int64 → Int32 → Option (Int64 × fw_M)) (M : fw_M) (x1 : Int32) (x2 : Int32) (x3 : Int32) (x4 : Int32) (x5 : Int64) (x7 : Int64) (x9 : Int32) : Option (Int64 × fw_M) := (if x4 < x9 then P_Mod_faint_h237 o fw_fu M x3 x5 x7 x5 x7 else (if (x9 &&& (x4 ^^^ (-1 : Int32))) = (0 : Int32) then (P_Mod_layThen o M).bind fun q3 => P_Mod_faint_h96 o K69 fw_fu q3 x1 x2 x3 x4 x5 x7 x9 (1 : Int64) (0 : Int32) else P_Mod_faint_b223 o K69 M x1 x2 x3 x4 x5 x7 x9))
def P_Mod_faint_h69 (o : Nat) : Nat → fw_M → Int32 → Int32 → Int32 → Int32 → Int64 → Int64 → Int32 → Option (Int64 × fw_M)
  | 0, _, _, _, _, _, _, _, _ => none
  | n + 1, M, x1, x2, x3, x4, x5, x7, x9 => P_Mod_faint_b69 o (P_Mod_faint_h69 o n) M x1 x2 x3 x4 x5 x7 x9
def P_Mod_faint_b0 (o : Nat) (M : fw_M) (x1 : Int32) (x2 : Int32) (x3 : Int32) : Option (Int64 × fw_M) := fw_pl (fw_set M o 0 (0 : Int32)) fun M1 => (P_Mod_isThere o M1).bind fun v2 => (if v2 = (0 : Int32) then some ((-1000002 : Int64), M1) else (P_Mod_isDoor o M1 x1).bind fun v4 => (if v4 = (0 : Int32) then P_Mod_faint_b46 o M1 else (P_Mod_in M1 (Int32.toInt64 x2) (0 : Int64) (10 : Int64)).bind fun v6 => (if v6 = (0 : Int32) then P_Mod_faint_b46 o M1 else (P_Mod_in M1 (Int32.toInt64 x3) (0 : Int64) (1 : Int64)).bind fun v8 => (if v8 = (0 : Int32) then P_Mod_faint_b46 o M1 else (P_Mod_waiting (o + 4) M1 x1).bind fun v10 => P_Mod_faint_h69 o fw_fu M1 x1 x2 x3 v10 (0 : Int64) (0 : Int64) (0 : Int32)))))
def P_Mod_faint (o : Nat) (M : fw_M) (a0 : Int32) (a1 : Int32) (a2 : Int32) : Option (Int64 × fw_M) := P_Mod_faint_b0 o M a0 a1 a2
set_option maxRecDepth 100000 in
theorem c_Mod_faint_b46 {p : Program} {l : Launch} {e : Env} {s : State} {m : MethodId} {args : Array Value} {below : List Frame} {meth : Method} {c : Code} {D : va_G} {cI cZ cH cR : ClassId} {N : Nat} {ad : Nat → Nat} {EE : fw_M → Nat → va_E} {o : Nat} {M : fw_M} {z : (Int64 × fw_M)} (C : fw_C p s m args meth c cX9_faint RX9 wsX9_faint 15 (some .long) D vwCl (fw_tys cI cZ cH cR) N ad fw_nw0) (ho : o_Mod EE ad N cI cZ cH cR o) (h : P_Mod_faint_b46 o M = some z) : fw_J p l e (headSpec wsX9_faint rm_Mod_faint).room s m args below meth c D vwCl N ad EE 15 0 0 (fw_E below args s D vwCl N ad EE (some (.long z.1)) z.2) M [] 46 [] := by
  unfold P_Mod_faint_b46 at h
  refine fw_ldc2 (pc := 46) C (v := -1000001) kX9_faint_228 dX9_faint_46 ?_
  exact fw_lret (pc := 49) C (fw_p1 h) (fw_p2 h) dX9_faint_49
set_option maxRecDepth 100000 in
theorem c_Mod_faint_b273 {p : Program} {l : Launch} {e : Env} {s : State} {m : MethodId} {args : Array Value} {below : List Frame} {meth : Method} {c : Code} {D : va_G} {cI cZ cH cR : ClassId} {N : Nat} {ad : Nat → Nat} {EE : fw_M → Nat → va_E} {o : Nat} {M : fw_M} {x9 : Int64} {t0 : Int64} {z : (Int64 × fw_M)} (C : fw_C p s m args meth c cX9_faint RX9 wsX9_faint 15 (some .long) D vwCl (fw_tys cI cZ cH cR) N ad fw_nw0) (ho : o_Mod EE ad N cI cZ cH cR o) (h : P_Mod_faint_b273 o M x9 t0 = some z) : fw_J p l e (headSpec wsX9_faint rm_Mod_faint).room s m args below meth c D vwCl N ad EE 15 0 0 (fw_E below args s D vwCl N ad EE (some (.long z.1)) z.2) M [(9, .long x9)] 273 [.long t0] := by
  unfold P_Mod_faint_b273 at h
  refine fw_lload (pc := 273) C 0 dX9_faint_273 rfl ?_
  obtain ⟨v1, hv1, h⟩ := fw_bind h
  refine fw_ldiv (pc := 275) C dX9_faint_275 hv1 ?_
  exact fw_lret (pc := 276) C (fw_p1 h) (fw_p2 h) dX9_faint_276
set_option maxRecDepth 100000 in
theorem c_Mod_faint_b237 {p : Program} {l : Launch} {e : Env} {s : State} {m : MethodId} {args : Array Value} {below : List Frame} {meth : Method} {c : Code} {D : va_G} {cI cZ cH cR : ClassId} {N : Nat} {ad : Nat → Nat} {EE : fw_M → Nat → va_E} {o : Nat} {K237 : fw_M → Int32 → Int64 → Int64 → Int64 → Int64 → Option (Int64 × fw_M)} {M : fw_M} {x3 : Int32} {x5 : Int64} {x7 : Int64} {x9 : Int64} {x11 : Int64} {z : (Int64 × fw_M)} (C : fw_C p s m args meth c cX9_faint RX9 wsX9_faint 15 (some .long) D vwCl (fw_tys cI cZ cH cR) N ad fw_nw0) (ho : o_Mod EE ad N cI cZ cH cR o) (hK237 : ∀ (Mk : fw_M) (kx3 : Int32) (kx5 : Int64) (kx7 : Int64) (kx9 : Int64) (kx11 : Int64), K237 Mk kx3 kx5 kx7 kx9 kx11 = some z → fw_J p l e (headSpec wsX9_faint rm_Mod_faint).room s m args below meth c D vwCl N ad EE 15 0 0 (fw_E below args s D vwCl N ad EE (some (.long z.1)) z.2) Mk [(3, .int kx3), (5, .long kx5), (7, .long kx7), (9, .long kx9), (11, .long kx11)] 237 []) (h : P_Mod_faint_b237 o K237 M x3 x5 x7 x9 x11 = some z) : fw_J p l e (headSpec wsX9_faint rm_Mod_faint).room s m args below meth c D vwCl N ad EE 15 0 0 (fw_E below args s D vwCl N ad EE (some (.long z.1)) z.2) M [(3, .int x3), (5, .long x5), (7, .long x7), (9, .long x9), (11, .long x11)] 237 [] := by
  unfold P_Mod_faint_b237 at h
  refine fw_lload (pc := 237) C 4 dX9_faint_237 rfl ?_
  refine fw_lconst (pc := 239) C (v := 0) dX9_faint_239 fk_lconst_0 ?_
  refine fw_lcmp (pc := 240) C dX9_faint_240 ?_
  refine fw_if_eq (pc := 241) C (tgt := 262) dX9_faint_241 (by decide) (fun c1 => ?_) (fun c1 => ?_)
  · have h := fw_ift h c1
    refine fw_iload_n (pc := 262) C 0 dX9_faint_262 rfl rfl ?_
    refine fw_if_ne (pc := 263) C (tgt := 271) dX9_faint_263 (by decide) (fun c2 => ?_) (fun c2 => ?_)
    · have h := fw_iff h c2
      refine fw_lload (pc := 271) C 2 dX9_faint_271 rfl ?_
      exact fw_sub [3] rfl (c_Mod_faint_b273 C ho h)
    · have h := fw_ift h c2
      refine fw_lload (pc := 266) C 1 dX9_faint_266 rfl ?_
      refine fw_goto (pc := 268) C (tgt := 273) dX9_faint_268 (by decide) ?_
      exact fw_sub [3] rfl (c_Mod_faint_b273 C ho h)
  · have h := fw_iff h c1
    refine fw_lload (pc := 244) C 3 dX9_faint_244 rfl ?_
    refine fw_lload (pc := 246) C 4 dX9_faint_246 rfl ?_
    obtain ⟨v3, hv3, h⟩ := fw_bind h
    refine fw_lrem (pc := 248) C dX9_faint_248 hv3 ?_
    refine fw_lstore (pc := 249) C (L2 := [(3, .int _), (5, .long _), (7, .long _), (9, .long _), (11, .long _), (13, .long _)]) [1, 2, 3, 4, 5, 0] dX9_faint_249 (by decide) rfl ?_
    refine fw_lload (pc := 251) C 4 dX9_faint_251 rfl ?_
    refine fw_lstore (pc := 253) C (L2 := [(3, .int _), (5, .long _), (7, .long _), (9, .long _), (11, .long _), (13, .long _)]) [1, 2, 3, 0, 4, 5] dX9_faint_253 (by decide) rfl ?_
    refine fw_lload (pc := 255) C 5 dX9_faint_255 rfl ?_
    refine fw_lstore (pc := 257) C (L2 := [(3, .int _), (5, .long _), (7, .long _), (9, .long _), (11, .long _), (13, .long _)]) [1, 2, 3, 4, 0, 5] dX9_faint_257 (by decide) rfl ?_
    refine fw_goto (pc := 259) C (tgt := 237) dX9_faint_259 (by decide) ?_
    exact fw_sub [0, 1, 2, 3, 4] rfl (hK237 _ _ _ _ _ _ h)
theorem c_Mod_faint_h237 {p : Program} {l : Launch} {e : Env} {s : State} {m : MethodId} {args : Array Value} {below : List Frame} {meth : Method} {c : Code} {D : va_G} {cI cZ cH cR : ClassId} {N : Nat} {ad : Nat → Nat} {EE : fw_M → Nat → va_E} {o : Nat} {z : (Int64 × fw_M)} (C : fw_C p s m args meth c cX9_faint RX9 wsX9_faint 15 (some .long) D vwCl (fw_tys cI cZ cH cR) N ad fw_nw0) (ho : o_Mod EE ad N cI cZ cH cR o) : ∀ (n : Nat) (M : fw_M) (x3 : Int32) (x5 : Int64) (x7 : Int64) (x9 : Int64) (x11 : Int64), P_Mod_faint_h237 o n M x3 x5 x7 x9 x11 = some z → fw_J p l e (headSpec wsX9_faint rm_Mod_faint).room s m args below meth c D vwCl N ad EE 15 0 0 (fw_E below args s D vwCl N ad EE (some (.long z.1)) z.2) M [(3, .int x3), (5, .long x5), (7, .long x7), (9, .long x9), (11, .long x11)] 237 [] := by
  intro n
  induction n with
  | zero => intro M x3 x5 x7 x9 x11  h; cases h
  | succ n ih => intro M x3 x5 x7 x9 x11  h; exact c_Mod_faint_b237 C ho ih  h
set_option maxRecDepth 100000 in
theorem c_Mod_faint_b223 {p : Program} {l : Launch} {e : Env} {s : State} {m : MethodId} {args : Array Value} {below : List Frame} {meth : Method} {c : Code} {D : va_G} {cI cZ cH cR : ClassId} {N : Nat} {ad : Nat → Nat} {EE : fw_M → Nat → va_E} {o : Nat} {K69 : fw_M → Int32 → Int32 → Int32 → Int32 → Int64 → Int64 → Int32 → Option (Int64 × fw_M)} {M : fw_M} {x1 : Int32} {x2 : Int32} {x3 : Int32} {x4 : Int32} {x5 : Int64} {x7 : Int64} {x9 : Int32} {z : (Int64 × fw_M)} (C : fw_C p s m args meth c cX9_faint RX9 wsX9_faint 15 (some .long) D vwCl (fw_tys cI cZ cH cR) N ad fw_nw0) (ho : o_Mod EE ad N cI cZ cH cR o) (hK69 : ∀ (Mk : fw_M) (kx1 : Int32) (kx2 : Int32) (kx3 : Int32) (kx4 : Int32) (kx5 : Int64) (kx7 : Int64) (kx9 : Int32), K69 Mk kx1 kx2 kx3 kx4 kx5 kx7 kx9 = some z → fw_J p l e (headSpec wsX9_faint rm_Mod_faint).room s m args below meth c D vwCl N ad EE 15 0 0 (fw_E below args s D vwCl N ad EE (some (.long z.1)) z.2) Mk [(0, .ref (ad o)), (1, .int kx1), (2, .int kx2), (3, .int kx3), (4, .int kx4), (5, .long kx5), (7, .long kx7), (9, .int kx9)] 69 []) (h : P_Mod_faint_b223 o K69 M x1 x2 x3 x4 x5 x7 x9 = some z) : fw_J p l e (headSpec wsX9_faint rm_Mod_faint).room s m args below meth c D vwCl N ad EE 15 0 0 (fw_E below args s D vwCl N ad EE (some (.long z.1)) z.2) M [(0, .ref (ad o)), (1, .int x1), (2, .int x2), (3, .int x3), (4, .int x4), (5, .long x5), (7, .long x7), (9, .int x9)] 223 [] := by
  unfold P_Mod_faint_b223 at h
  refine fw_iinc (pc := 223) C (v := 1) (L2 := [(0, .ref _), (1, .int _), (2, .int _), (3, .int _), (4, .int _), (5, .long _), (7, .long _), (9, .int _)]) 7 [1, 2, 3, 4, 5, 6, 7, 0] dX9_faint_223 rfl fk_iconst_1 (by decide) rfl ?_
  refine fw_goto (pc := 226) C (tgt := 69) dX9_faint_226 (by decide) ?_
  exact (hK69 _ _ _ _ _ _ _ _ h)
set_option maxRecDepth 100000 in
theorem c_Mod_faint_b220 {p : Program} {l : Launch} {e : Env} {s : State} {m : MethodId} {args : Array Value} {below : List Frame} {meth : Method} {c : Code} {D : va_G} {cI cZ cH cR : ClassId} {N : Nat} {ad : Nat → Nat} {EE : fw_M → Nat → va_E} {o : Nat} {K69 : fw_M → Int32 → Int32 → Int32 → Int32 → Int64 → Int64 → Int32 → Option (Int64 × fw_M)} {M : fw_M} {x1 : Int32} {x2 : Int32} {x3 : Int32} {x4 : Int32} {x7 : Int64} {x9 : Int32} {t0 : Int64} {t1 : Int64} {z : (Int64 × fw_M)} (C : fw_C p s m args meth c cX9_faint RX9 wsX9_faint 15 (some .long) D vwCl (fw_tys cI cZ cH cR) N ad fw_nw0) (ho : o_Mod EE ad N cI cZ cH cR o) (hK69 : ∀ (Mk : fw_M) (kx1 : Int32) (kx2 : Int32) (kx3 : Int32) (kx4 : Int32) (kx5 : Int64) (kx7 : Int64) (kx9 : Int32), K69 Mk kx1 kx2 kx3 kx4 kx5 kx7 kx9 = some z → fw_J p l e (headSpec wsX9_faint rm_Mod_faint).room s m args below meth c D vwCl N ad EE 15 0 0 (fw_E below args s D vwCl N ad EE (some (.long z.1)) z.2) Mk [(0, .ref (ad o)), (1, .int kx1), (2, .int kx2), (3, .int kx3), (4, .int kx4), (5, .long kx5), (7, .long kx7), (9, .int kx9)] 69 []) (h : P_Mod_faint_b220 o K69 M x1 x2 x3 x4 x7 x9 t0 t1 = some z) : fw_J p l e (headSpec wsX9_faint rm_Mod_faint).room s m args below meth c D vwCl N ad EE 15 0 0 (fw_E below args s D vwCl N ad EE (some (.long z.1)) z.2) M [(0, .ref (ad o)), (1, .int x1), (2, .int x2), (3, .int x3), (4, .int x4), (7, .long x7), (9, .int x9)] 220 [.long t1, .long t0] := by
  unfold P_Mod_faint_b220 at h
  refine fw_ladd (pc := 220) C dX9_faint_220 ?_
  have h := fw_plh h
  refine fw_lstore (pc := 221) C (L2 := [(0, .ref _), (1, .int _), (2, .int _), (3, .int _), (4, .int _), (5, .long _), (7, .long _), (9, .int _)]) [1, 2, 3, 4, 5, 0, 6, 7] dX9_faint_221 (by decide) rfl ?_
  exact (c_Mod_faint_b223 C ho hK69 h)
set_option maxRecDepth 100000 in
theorem c_Mod_faint_b185 {p : Program} {l : Launch} {e : Env} {s : State} {m : MethodId} {args : Array Value} {below : List Frame} {meth : Method} {c : Code} {D : va_G} {cI cZ cH cR : ClassId} {N : Nat} {ad : Nat → Nat} {EE : fw_M → Nat → va_E} {o : Nat} {K69 : fw_M → Int32 → Int32 → Int32 → Int32 → Int64 → Int64 → Int32 → Option (Int64 × fw_M)} {K96 : fw_M → Int32 → Int32 → Int32 → Int32 → Int64 → Int64 → Int32 → Int64 → Int32 → Option (Int64 × fw_M)} {M : fw_M} {x1 : Int32} {x2 : Int32} {x3 : Int32} {x4 : Int32} {x5 : Int64} {x7 : Int64} {x9 : Int32} {x10 : Int64} {x12 : Int32} {t1 : Int32} {t2 : Int32} {z : (Int64 × fw_M)} (C : fw_C p s m args meth c cX9_faint RX9 wsX9_faint 15 (some .long) D vwCl (fw_tys cI cZ cH cR) N ad fw_nw0) (ho : o_Mod EE ad N cI cZ cH cR o) (hK69 : ∀ (Mk : fw_M) (kx1 : Int32) (kx2 : Int32) (kx3 : Int32) (kx4 : Int32) (kx5 : Int64) (kx7 : Int64) (kx9 : Int32), K69 Mk kx1 kx2 kx3 kx4 kx5 kx7 kx9 = some z → fw_J p l e (headSpec wsX9_faint rm_Mod_faint).room s m args below meth c D vwCl N ad EE 15 0 0 (fw_E below args s D vwCl N ad EE (some (.long z.1)) z.2) Mk [(0, .ref (ad o)), (1, .int kx1), (2, .int kx2), (3, .int kx3), (4, .int kx4), (5, .long kx5), (7, .long kx7), (9, .int kx9)] 69 []) (hK96 : ∀ (Mk : fw_M) (kx1 : Int32) (kx2 : Int32) (kx3 : Int32) (kx4 : Int32) (kx5 : Int64) (kx7 : Int64) (kx9 : Int32) (kx10 : Int64) (kx12 : Int32), K96 Mk kx1 kx2 kx3 kx4 kx5 kx7 kx9 kx10 kx12 = some z → fw_J p l e (headSpec wsX9_faint rm_Mod_faint).room s m args below meth c D vwCl N ad EE 15 0 0 (fw_E below args s D vwCl N ad EE (some (.long z.1)) z.2) Mk [(0, .ref (ad o)), (1, .int kx1), (2, .int kx2), (3, .int kx3), (4, .int kx4), (5, .long kx5), (7, .long kx7), (9, .int kx9), (10, .long kx10), (12, .int kx12)] 96 []) (h : P_Mod_faint_b185 o K69 K96 M x1 x2 x3 x4 x5 x7 x9 x10 x12 t1 t2 = some z) : fw_J p l e (headSpec wsX9_faint rm_Mod_faint).room s m args below meth c D vwCl N ad EE 15 0 0 (fw_E below args s D vwCl N ad EE (some (.long z.1)) z.2) M [(0, .ref (ad o)), (1, .int x1), (2, .int x2), (3, .int x3), (4, .int x4), (5, .long x5), (7, .long x7), (9, .int x9), (10, .long x10), (12, .int x12)] 185 [.int t2, .int t1, .ref (ad (o + 6))] := by
  unfold P_Mod_faint_b185 at h
  obtain ⟨M1, hM1, h⟩ := fw_bind h
  refine fw_iast (pc := 185) C 0 ho.2.2.2.2.2.2.2.2.1.2 rfl hM1 dX9_faint_185 ?_
  refine fw_iinc (pc := 186) C (v := 1) (L2 := [(0, .ref _), (1, .int _), (2, .int _), (3, .int _), (4, .int _), (5, .long _), (7, .long _), (9, .int _), (10, .long _), (12, .int _)]) 9 [1, 2, 3, 4, 5, 6, 7, 8, 9, 0] dX9_faint_186 rfl fk_iconst_1 (by decide) rfl ?_
  refine fw_goto (pc := 189) C (tgt := 96) dX9_faint_189 (by decide) ?_
  exact (hK96 _ _ _ _ _ _ _ _ _ _ h)
set_option maxRecDepth 100000 in
theorem c_Mod_faint_b145 {p : Program} {l : Launch} {e : Env} {s : State} {m : MethodId} {args : Array Value} {below : List Frame} {meth : Method} {c : Code} {D : va_G} {cI cZ cH cR : ClassId} {N : Nat} {ad : Nat → Nat} {EE : fw_M → Nat → va_E} {o : Nat} {K69 : fw_M → Int32 → Int32 → Int32 → Int32 → Int64 → Int64 → Int32 → Option (Int64 × fw_M)} {K96 : fw_M → Int32 → Int32 → Int32 → Int32 → Int64 → Int64 → Int32 → Int64 → Int32 → Option (Int64 × fw_M)} {M : fw_M} {x1 : Int32} {x2 : Int32} {x3 : Int32} {x4 : Int32} {x5 : Int64} {x7 : Int64} {x9 : Int32} {x12 : Int32} {t0 : Int64} {t1 : Int64} {z : (Int64 × fw_M)} (C : fw_C p s m args meth c cX9_faint RX9 wsX9_faint 15 (some .long) D vwCl (fw_tys cI cZ cH cR) N ad fw_nw0) (ho : o_Mod EE ad N cI cZ cH cR o) (hK69 : ∀ (Mk : fw_M) (kx1 : Int32) (kx2 : Int32) (kx3 : Int32) (kx4 : Int32) (kx5 : Int64) (kx7 : Int64) (kx9 : Int32), K69 Mk kx1 kx2 kx3 kx4 kx5 kx7 kx9 = some z → fw_J p l e (headSpec wsX9_faint rm_Mod_faint).room s m args below meth c D vwCl N ad EE 15 0 0 (fw_E below args s D vwCl N ad EE (some (.long z.1)) z.2) Mk [(0, .ref (ad o)), (1, .int kx1), (2, .int kx2), (3, .int kx3), (4, .int kx4), (5, .long kx5), (7, .long kx7), (9, .int kx9)] 69 []) (hK96 : ∀ (Mk : fw_M) (kx1 : Int32) (kx2 : Int32) (kx3 : Int32) (kx4 : Int32) (kx5 : Int64) (kx7 : Int64) (kx9 : Int32) (kx10 : Int64) (kx12 : Int32), K96 Mk kx1 kx2 kx3 kx4 kx5 kx7 kx9 kx10 kx12 = some z → fw_J p l e (headSpec wsX9_faint rm_Mod_faint).room s m args below meth c D vwCl N ad EE 15 0 0 (fw_E below args s D vwCl N ad EE (some (.long z.1)) z.2) Mk [(0, .ref (ad o)), (1, .int kx1), (2, .int kx2), (3, .int kx3), (4, .int kx4), (5, .long kx5), (7, .long kx7), (9, .int kx9), (10, .long kx10), (12, .int kx12)] 96 []) (h : P_Mod_faint_b145 o K69 K96 M x1 x2 x3 x4 x5 x7 x9 x12 t0 t1 = some z) : fw_J p l e (headSpec wsX9_faint rm_Mod_faint).room s m args below meth c D vwCl N ad EE 15 0 0 (fw_E below args s D vwCl N ad EE (some (.long z.1)) z.2) M [(0, .ref (ad o)), (1, .int x1), (2, .int x2), (3, .int x3), (4, .int x4), (5, .long x5), (7, .long x7), (9, .int x9), (12, .int x12)] 145 [.long t1, .long t0] := by
  unfold P_Mod_faint_b145 at h
  refine fw_lmul (pc := 145) C dX9_faint_145 ?_
  have h := fw_plh h
  refine fw_lstore (pc := 146) C (L2 := [(0, .ref _), (1, .int _), (2, .int _), (3, .int _), (4, .int _), (5, .long _), (7, .long _), (9, .int _), (10, .long _), (12, .int _)]) [1, 2, 3, 4, 5, 6, 7, 8, 0, 9] dX9_faint_146 (by decide) rfl ?_
  refine fw_aload_n (pc := 148) C 0 dX9_faint_148 rfl rfl ?_
  refine fw_getr (pc := 149) C ho.2.2.2.2.2.2.2.2.1.1 rfl qX9_faint_25 dX9_faint_149 ?_
  refine fw_iconst (pc := 152) C (v := 4) dX9_faint_152 fk_iconst_4 ?_
  refine fw_iconst (pc := 153) C (v := 5) dX9_faint_153 fk_iconst_5 ?_
  refine fw_iload (pc := 154) C 9 dX9_faint_154 rfl ?_
  refine fw_imul (pc := 156) C dX9_faint_156 ?_
  refine fw_iadd (pc := 157) C dX9_faint_157 ?_
  refine fw_iconst (pc := 158) C (v := 3) dX9_faint_158 fk_iconst_3 ?_
  refine fw_iadd (pc := 159) C dX9_faint_159 ?_
  refine fw_iload (pc := 160) C 7 dX9_faint_160 rfl ?_
  refine fw_iload (pc := 162) C 9 dX9_faint_162 rfl ?_
  refine fw_ishr (pc := 164) C dX9_faint_164 ?_
  refine fw_iconst (pc := 165) C (v := 1) dX9_faint_165 fk_iconst_1 ?_
  refine fw_iand (pc := 166) C dX9_faint_166 ?_
  refine fw_iconst (pc := 167) C (v := 1) dX9_faint_167 fk_iconst_1 ?_
  refine fw_icmp_ne (pc := 168) C (tgt := 175) dX9_faint_168 (by decide) (fun c2 => ?_) (fun c2 => ?_)
  · have h := fw_iff h c2
    refine fw_aload_n (pc := 175) C 0 dX9_faint_175 rfl rfl ?_
    refine fw_getr (pc := 176) C ho.2.2.2.2.2.2.1.1 rfl qX9_faint_19 dX9_faint_176 ?_
    refine fw_iload (pc := 179) C 9 dX9_faint_179 rfl ?_
    refine fw_iconst (pc := 181) C (v := 3) dX9_faint_181 fk_iconst_3 ?_
    obtain ⟨v3, hv3, h⟩ := fw_bind h
    refine fw_callS1 (pc := 182) C (rest := [_, _]) (c_Mod_of ho.2.2.2.2.2.2.1.2 hv3) (va_cwS 3 C.2.2.2.2.1 gX9_faint_X9_of rfl rfl rfl hd_Mod_of.2 ⟨Nat.le_of_ble_eq_true rfl, Nat.le_of_ble_eq_true rfl⟩) rfl ⟨Nat.zero_le _, Nat.zero_le _⟩ rfl (Nat.le_of_ble_eq_true rfl) dX9_faint_182 ?_
    exact (c_Mod_faint_b185 C ho hK69 hK96 h)
  · have h := fw_ift h c2
    refine fw_iconst (pc := 171) C (v := -1) dX9_faint_171 fk_iconst_m1 ?_
    refine fw_goto (pc := 172) C (tgt := 185) dX9_faint_172 (by decide) ?_
    exact (c_Mod_faint_b185 C ho hK69 hK96 h)
set_option maxRecDepth 100000 in
theorem c_Mod_faint_b96 {p : Program} {l : Launch} {e : Env} {s : State} {m : MethodId} {args : Array Value} {below : List Frame} {meth : Method} {c : Code} {D : va_G} {cI cZ cH cR : ClassId} {N : Nat} {ad : Nat → Nat} {EE : fw_M → Nat → va_E} {o : Nat} {K69 : fw_M → Int32 → Int32 → Int32 → Int32 → Int64 → Int64 → Int32 → Option (Int64 × fw_M)} {K96 : fw_M → Int32 → Int32 → Int32 → Int32 → Int64 → Int64 → Int32 → Int64 → Int32 → Option (Int64 × fw_M)} {M : fw_M} {x1 : Int32} {x2 : Int32} {x3 : Int32} {x4 : Int32} {x5 : Int64} {x7 : Int64} {x9 : Int32} {x10 : Int64} {x12 : Int32} {z : (Int64 × fw_M)} (C : fw_C p s m args meth c cX9_faint RX9 wsX9_faint 15 (some .long) D vwCl (fw_tys cI cZ cH cR) N ad fw_nw0) (ho : o_Mod EE ad N cI cZ cH cR o) (hK69 : ∀ (Mk : fw_M) (kx1 : Int32) (kx2 : Int32) (kx3 : Int32) (kx4 : Int32) (kx5 : Int64) (kx7 : Int64) (kx9 : Int32), K69 Mk kx1 kx2 kx3 kx4 kx5 kx7 kx9 = some z → fw_J p l e (headSpec wsX9_faint rm_Mod_faint).room s m args below meth c D vwCl N ad EE 15 0 0 (fw_E below args s D vwCl N ad EE (some (.long z.1)) z.2) Mk [(0, .ref (ad o)), (1, .int kx1), (2, .int kx2), (3, .int kx3), (4, .int kx4), (5, .long kx5), (7, .long kx7), (9, .int kx9)] 69 []) (hK96 : ∀ (Mk : fw_M) (kx1 : Int32) (kx2 : Int32) (kx3 : Int32) (kx4 : Int32) (kx5 : Int64) (kx7 : Int64) (kx9 : Int32) (kx10 : Int64) (kx12 : Int32), K96 Mk kx1 kx2 kx3 kx4 kx5 kx7 kx9 kx10 kx12 = some z → fw_J p l e (headSpec wsX9_faint rm_Mod_faint).room s m args below meth c D vwCl N ad EE 15 0 0 (fw_E below args s D vwCl N ad EE (some (.long z.1)) z.2) Mk [(0, .ref (ad o)), (1, .int kx1), (2, .int kx2), (3, .int kx3), (4, .int kx4), (5, .long kx5), (7, .long kx7), (9, .int kx9), (10, .long kx10), (12, .int kx12)] 96 []) (h : P_Mod_faint_b96 o K69 K96 M x1 x2 x3 x4 x5 x7 x9 x10 x12 = some z) : fw_J p l e (headSpec wsX9_faint rm_Mod_faint).room s m args below meth c D vwCl N ad EE 15 0 0 (fw_E below args s D vwCl N ad EE (some (.long z.1)) z.2) M [(0, .ref (ad o)), (1, .int x1), (2, .int x2), (3, .int x3), (4, .int x4), (5, .long x5), (7, .long x7), (9, .int x9), (10, .long x10), (12, .int x12)] 96 [] := by
  unfold P_Mod_faint_b96 at h
  refine fw_iload (pc := 96) C 9 dX9_faint_96 rfl ?_
  refine fw_aload_n (pc := 98) C 0 dX9_faint_98 rfl rfl ?_
  refine fw_getr (pc := 99) C ho.2.2.2.2.2.2.1.1 rfl qX9_faint_19 dX9_faint_99 ?_
  refine fw_iconst (pc := 102) C (v := 2) dX9_faint_102 fk_iconst_2 ?_
  obtain ⟨v1, hv1, h⟩ := fw_bind h
  refine fw_iald (pc := 103) C 0 ho.2.2.2.2.2.2.1.2 rfl hv1 dX9_faint_103 ?_
  refine fw_icmp_ge (pc := 104) C (tgt := 192) dX9_faint_104 (by decide) (fun c2 => ?_) (fun c2 => ?_)
  · have h := fw_ift h c2
    refine fw_lload (pc := 192) C 6 dX9_faint_192 rfl ?_
    refine fw_lload (pc := 194) C 8 dX9_faint_194 rfl ?_
    refine fw_ladd (pc := 196) C dX9_faint_196 ?_
    have h := fw_plh h
    refine fw_lstore (pc := 197) C (L2 := [(0, .ref _), (1, .int _), (2, .int _), (3, .int _), (4, .int _), (5, .long _), (7, .long _), (9, .int _), (10, .long _), (12, .int _)]) [1, 2, 3, 4, 5, 6, 0, 7, 8, 9] dX9_faint_197 (by decide) rfl ?_
    refine fw_lload (pc := 199) C 5 dX9_faint_199 rfl ?_
    refine fw_aload_n (pc := 201) C 0 dX9_faint_201 rfl rfl ?_
    refine fw_getr (pc := 202) C ho.2.2.2.2.2.2.2.2.1.1 rfl qX9_faint_25 dX9_faint_202 ?_
    refine fw_iload_n (pc := 205) C 1 dX9_faint_205 rfl rfl ?_
    obtain ⟨v4, hv4, h⟩ := fw_bind h
    refine fw_callS1 (pc := 206) C (rest := [_]) (c_Mod_goesAt ho.2.2.2.2.2.2.2.2.1.2 hv4) (va_cwS 2 C.2.2.2.2.1 gX9_faint_X9_goesAt rfl rfl rfl hd_Mod_goesAt.2 ⟨Nat.le_of_ble_eq_true rfl, Nat.le_of_ble_eq_true rfl⟩) rfl ⟨Nat.zero_le _, Nat.zero_le _⟩ rfl (Nat.le_of_ble_eq_true rfl) dX9_faint_206 ?_
    refine fw_ldc (pc := 209) C (v := -1000000) kX9_faint_90 dX9_faint_209 ?_
    refine fw_icmp_ne (pc := 211) C (tgt := 218) dX9_faint_211 (by decide) (fun c5 => ?_) (fun c5 => ?_)
    · have h := fw_iff h c5
      refine fw_lload (pc := 218) C 8 dX9_faint_218 rfl ?_
      exact fw_sub [0, 1, 2, 3, 4, 6, 7] rfl (c_Mod_faint_b220 C ho hK69 h)
    · have h := fw_ift h c5
      refine fw_lconst (pc := 214) C (v := 0) dX9_faint_214 fk_lconst_0 ?_
      refine fw_goto (pc := 215) C (tgt := 220) dX9_faint_215 (by decide) ?_
      exact fw_sub [0, 1, 2, 3, 4, 6, 7] rfl (c_Mod_faint_b220 C ho hK69 h)
  · have h := fw_iff h c2
    refine fw_lload (pc := 107) C 8 dX9_faint_107 rfl ?_
    refine fw_iload (pc := 109) C 4 dX9_faint_109 rfl ?_
    refine fw_iload (pc := 111) C 9 dX9_faint_111 rfl ?_
    refine fw_ishr (pc := 113) C dX9_faint_113 ?_
    refine fw_iconst (pc := 114) C (v := 1) dX9_faint_114 fk_iconst_1 ?_
    refine fw_iand (pc := 115) C dX9_faint_115 ?_
    refine fw_if_ne (pc := 116) C (tgt := 123) dX9_faint_116 (by decide) (fun c6 => ?_) (fun c6 => ?_)
    · have h := fw_iff h c6
      refine fw_iload (pc := 123) C 7 dX9_faint_123 rfl ?_
      refine fw_iload (pc := 125) C 9 dX9_faint_125 rfl ?_
      refine fw_ishr (pc := 127) C dX9_faint_127 ?_
      refine fw_iconst (pc := 128) C (v := 1) dX9_faint_128 fk_iconst_1 ?_
      refine fw_iand (pc := 129) C dX9_faint_129 ?_
      refine fw_iconst (pc := 130) C (v := 1) dX9_faint_130 fk_iconst_1 ?_
      refine fw_icmp_ne (pc := 131) C (tgt := 139) dX9_faint_131 (by decide) (fun c7 => ?_) (fun c7 => ?_)
      · have h := fw_iff h c7
        refine fw_ldc2 (pc := 139) C (v := 10) kX9_faint_226 dX9_faint_139 ?_
        refine fw_iload_n (pc := 142) C 2 dX9_faint_142 rfl rfl ?_
        refine fw_i2l (pc := 143) C dX9_faint_143 ?_
        refine fw_lsub (pc := 144) C dX9_faint_144 ?_
        exact fw_sub [0, 1, 2, 3, 4, 5, 6, 7, 9] rfl (c_Mod_faint_b145 C ho hK69 hK96 h)
      · have h := fw_ift h c7
        refine fw_iload_n (pc := 134) C 2 dX9_faint_134 rfl rfl ?_
        refine fw_i2l (pc := 135) C dX9_faint_135 ?_
        refine fw_goto (pc := 136) C (tgt := 145) dX9_faint_136 (by decide) ?_
        exact fw_sub [0, 1, 2, 3, 4, 5, 6, 7, 9] rfl (c_Mod_faint_b145 C ho hK69 hK96 h)
    · have h := fw_ift h c6
      refine fw_lconst (pc := 119) C (v := 1) dX9_faint_119 fk_lconst_1 ?_
      refine fw_goto (pc := 120) C (tgt := 145) dX9_faint_120 (by decide) ?_
      exact fw_sub [0, 1, 2, 3, 4, 5, 6, 7, 9] rfl (c_Mod_faint_b145 C ho hK69 hK96 h)
theorem c_Mod_faint_h96 {p : Program} {l : Launch} {e : Env} {s : State} {m : MethodId} {args : Array Value} {below : List Frame} {meth : Method} {c : Code} {D : va_G} {cI cZ cH cR : ClassId} {N : Nat} {ad : Nat → Nat} {EE : fw_M → Nat → va_E} {o : Nat} {K69 : fw_M → Int32 → Int32 → Int32 → Int32 → Int64 → Int64 → Int32 → Option (Int64 × fw_M)} {z : (Int64 × fw_M)} (C : fw_C p s m args meth c cX9_faint RX9 wsX9_faint 15 (some .long) D vwCl (fw_tys cI cZ cH cR) N ad fw_nw0) (ho : o_Mod EE ad N cI cZ cH cR o) (hK69 : ∀ (Mk : fw_M) (kx1 : Int32) (kx2 : Int32) (kx3 : Int32) (kx4 : Int32) (kx5 : Int64) (kx7 : Int64) (kx9 : Int32), K69 Mk kx1 kx2 kx3 kx4 kx5 kx7 kx9 = some z → fw_J p l e (headSpec wsX9_faint rm_Mod_faint).room s m args below meth c D vwCl N ad EE 15 0 0 (fw_E below args s D vwCl N ad EE (some (.long z.1)) z.2) Mk [(0, .ref (ad o)), (1, .int kx1), (2, .int kx2), (3, .int kx3), (4, .int kx4), (5, .long kx5), (7, .long kx7), (9, .int kx9)] 69 []) : ∀ (n : Nat) (M : fw_M) (x1 : Int32) (x2 : Int32) (x3 : Int32) (x4 : Int32) (x5 : Int64) (x7 : Int64) (x9 : Int32) (x10 : Int64) (x12 : Int32), P_Mod_faint_h96 o K69 n M x1 x2 x3 x4 x5 x7 x9 x10 x12 = some z → fw_J p l e (headSpec wsX9_faint rm_Mod_faint).room s m args below meth c D vwCl N ad EE 15 0 0 (fw_E below args s D vwCl N ad EE (some (.long z.1)) z.2) M [(0, .ref (ad o)), (1, .int x1), (2, .int x2), (3, .int x3), (4, .int x4), (5, .long x5), (7, .long x7), (9, .int x9), (10, .long x10), (12, .int x12)] 96 [] := by
  intro n
  induction n with
  | zero => intro M x1 x2 x3 x4 x5 x7 x9 x10 x12  h; cases h
  | succ n ih => intro M x1 x2 x3 x4 x5 x7 x9 x10 x12  h; exact c_Mod_faint_b96 C ho hK69 ih  h
set_option maxRecDepth 100000 in
theorem c_Mod_faint_b69 {p : Program} {l : Launch} {e : Env} {s : State} {m : MethodId} {args : Array Value} {below : List Frame} {meth : Method} {c : Code} {D : va_G} {cI cZ cH cR : ClassId} {N : Nat} {ad : Nat → Nat} {EE : fw_M → Nat → va_E} {o : Nat} {K69 : fw_M → Int32 → Int32 → Int32 → Int32 → Int64 → Int64 → Int32 → Option (Int64 × fw_M)} {M : fw_M} {x1 : Int32} {x2 : Int32} {x3 : Int32} {x4 : Int32} {x5 : Int64} {x7 : Int64} {x9 : Int32} {z : (Int64 × fw_M)} (C : fw_C p s m args meth c cX9_faint RX9 wsX9_faint 15 (some .long) D vwCl (fw_tys cI cZ cH cR) N ad fw_nw0) (ho : o_Mod EE ad N cI cZ cH cR o) (hK69 : ∀ (Mk : fw_M) (kx1 : Int32) (kx2 : Int32) (kx3 : Int32) (kx4 : Int32) (kx5 : Int64) (kx7 : Int64) (kx9 : Int32), K69 Mk kx1 kx2 kx3 kx4 kx5 kx7 kx9 = some z → fw_J p l e (headSpec wsX9_faint rm_Mod_faint).room s m args below meth c D vwCl N ad EE 15 0 0 (fw_E below args s D vwCl N ad EE (some (.long z.1)) z.2) Mk [(0, .ref (ad o)), (1, .int kx1), (2, .int kx2), (3, .int kx3), (4, .int kx4), (5, .long kx5), (7, .long kx7), (9, .int kx9)] 69 []) (h : P_Mod_faint_b69 o K69 M x1 x2 x3 x4 x5 x7 x9 = some z) : fw_J p l e (headSpec wsX9_faint rm_Mod_faint).room s m args below meth c D vwCl N ad EE 15 0 0 (fw_E below args s D vwCl N ad EE (some (.long z.1)) z.2) M [(0, .ref (ad o)), (1, .int x1), (2, .int x2), (3, .int x3), (4, .int x4), (5, .long x5), (7, .long x7), (9, .int x9)] 69 [] := by
  unfold P_Mod_faint_b69 at h
  refine fw_iload (pc := 69) C 7 dX9_faint_69 rfl ?_
  refine fw_iload (pc := 71) C 4 dX9_faint_71 rfl ?_
  refine fw_icmp_gt (pc := 73) C (tgt := 229) dX9_faint_73 (by decide) (fun c1 => ?_) (fun c1 => ?_)
  · have h := fw_ift h c1
    refine fw_lload (pc := 229) C 5 dX9_faint_229 rfl ?_
    refine fw_lstore (pc := 231) C (L2 := [(0, .ref _), (1, .int _), (2, .int _), (3, .int _), (4, .int _), (5, .long _), (7, .long _), (9, .long _)]) [1, 2, 3, 4, 5, 6, 7, 0] dX9_faint_231 (by decide) rfl ?_
    refine fw_lload (pc := 233) C 6 dX9_faint_233 rfl ?_
    refine fw_lstore (pc := 235) C (L2 := [(0, .ref _), (1, .int _), (2, .int _), (3, .int _), (4, .int _), (5, .long _), (7, .long _), (9, .long _), (11, .long _)]) [1, 2, 3, 4, 5, 6, 7, 8, 0] dX9_faint_235 (by decide) rfl ?_
    exact fw_sub [3, 5, 6, 7, 8] rfl (c_Mod_faint_h237 C ho _ _ _ _ _ _ _ h)
  · have h := fw_iff h c1
    refine fw_iload (pc := 76) C 7 dX9_faint_76 rfl ?_
    refine fw_iload (pc := 78) C 4 dX9_faint_78 rfl ?_
    refine fw_iconst (pc := 80) C (v := -1) dX9_faint_80 fk_iconst_m1 ?_
    refine fw_ixor (pc := 81) C dX9_faint_81 ?_
    refine fw_iand (pc := 82) C dX9_faint_82 ?_
    refine fw_if_ne (pc := 83) C (tgt := 223) dX9_faint_83 (by decide) (fun c2 => ?_) (fun c2 => ?_)
    · have h := fw_iff h c2
      exact (c_Mod_faint_b223 C ho hK69 h)
    · have h := fw_ift h c2
      refine fw_aload_n (pc := 86) C 0 dX9_faint_86 rfl rfl ?_
      obtain ⟨q3, hq3, h⟩ := fw_bind h
      refine fw_callV0 (pc := 87) C (rest := []) (c_Mod_layThen ho hq3) (cwV 0 C.2.2.2.2.1 gX9_faint_X9_layThen rfl rfl rfl hd_Mod_layThen ⟨Nat.le_of_ble_eq_true rfl, Nat.le_of_ble_eq_true rfl⟩) ho.1 rfl rfl ⟨Nat.zero_le _, Nat.zero_le _⟩ rfl (Nat.le_of_ble_eq_true rfl) dX9_faint_87 ?_
      refine fw_lconst (pc := 90) C (v := 1) dX9_faint_90 fk_lconst_1 ?_
      refine fw_lstore (pc := 91) C (L2 := [(0, .ref _), (1, .int _), (2, .int _), (3, .int _), (4, .int _), (5, .long _), (7, .long _), (9, .int _), (10, .long _)]) [1, 2, 3, 4, 5, 6, 7, 8, 0] dX9_faint_91 (by decide) rfl ?_
      refine fw_iconst (pc := 93) C (v := 0) dX9_faint_93 fk_iconst_0 ?_
      refine fw_istore (pc := 94) C (L2 := [(0, .ref _), (1, .int _), (2, .int _), (3, .int _), (4, .int _), (5, .long _), (7, .long _), (9, .int _), (10, .long _), (12, .int _)]) [1, 2, 3, 4, 5, 6, 7, 8, 9, 0] dX9_faint_94 (by decide) rfl ?_
      exact (c_Mod_faint_h96 C ho hK69 _ _ _ _ _ _ _ _ _ _ _ h)
theorem c_Mod_faint_h69 {p : Program} {l : Launch} {e : Env} {s : State} {m : MethodId} {args : Array Value} {below : List Frame} {meth : Method} {c : Code} {D : va_G} {cI cZ cH cR : ClassId} {N : Nat} {ad : Nat → Nat} {EE : fw_M → Nat → va_E} {o : Nat} {z : (Int64 × fw_M)} (C : fw_C p s m args meth c cX9_faint RX9 wsX9_faint 15 (some .long) D vwCl (fw_tys cI cZ cH cR) N ad fw_nw0) (ho : o_Mod EE ad N cI cZ cH cR o) : ∀ (n : Nat) (M : fw_M) (x1 : Int32) (x2 : Int32) (x3 : Int32) (x4 : Int32) (x5 : Int64) (x7 : Int64) (x9 : Int32), P_Mod_faint_h69 o n M x1 x2 x3 x4 x5 x7 x9 = some z → fw_J p l e (headSpec wsX9_faint rm_Mod_faint).room s m args below meth c D vwCl N ad EE 15 0 0 (fw_E below args s D vwCl N ad EE (some (.long z.1)) z.2) M [(0, .ref (ad o)), (1, .int x1), (2, .int x2), (3, .int x3), (4, .int x4), (5, .long x5), (7, .long x7), (9, .int x9)] 69 [] := by
  intro n
  induction n with
  | zero => intro M x1 x2 x3 x4 x5 x7 x9  h; cases h
  | succ n ih => intro M x1 x2 x3 x4 x5 x7 x9  h; exact c_Mod_faint_b69 C ho ih  h
set_option maxRecDepth 100000 in
theorem c_Mod_faint_b0 {p : Program} {l : Launch} {e : Env} {s : State} {m : MethodId} {args : Array Value} {below : List Frame} {meth : Method} {c : Code} {D : va_G} {cI cZ cH cR : ClassId} {N : Nat} {ad : Nat → Nat} {EE : fw_M → Nat → va_E} {o : Nat} {M : fw_M} {x1 : Int32} {x2 : Int32} {x3 : Int32} {z : (Int64 × fw_M)} (C : fw_C p s m args meth c cX9_faint RX9 wsX9_faint 15 (some .long) D vwCl (fw_tys cI cZ cH cR) N ad fw_nw0) (ho : o_Mod EE ad N cI cZ cH cR o) (h : P_Mod_faint_b0 o M x1 x2 x3 = some z) : fw_J p l e (headSpec wsX9_faint rm_Mod_faint).room s m args below meth c D vwCl N ad EE 15 0 0 (fw_E below args s D vwCl N ad EE (some (.long z.1)) z.2) M [(0, .ref (ad o)), (1, .int x1), (2, .int x2), (3, .int x3)] 0 [] := by
  unfold P_Mod_faint_b0 at h
  refine fw_aload_n (pc := 0) C 0 dX9_faint_0 rfl rfl ?_
  refine fw_iconst (pc := 1) C (v := 0) dX9_faint_1 fk_iconst_0 ?_
  have h := fw_plh h
  refine fw_puti (pc := 2) C ho.2.1 rfl qX9_faint_47 tyX9 tyX9_ok nmX9 rfl rfl dX9_faint_2 ?_
  refine fw_aload_n (pc := 5) C 0 dX9_faint_5 rfl rfl ?_
  obtain ⟨v2, hv2, h⟩ := fw_bind h
  refine fw_callV1 (pc := 6) C (rest := []) (c_Mod_isThere ho hv2) (cwV 0 C.2.2.2.2.1 gX9_faint_X9_isThere rfl rfl rfl hd_Mod_isThere ⟨Nat.le_of_ble_eq_true rfl, Nat.le_of_ble_eq_true rfl⟩) ho.1 rfl rfl ⟨Nat.zero_le _, Nat.zero_le _⟩ rfl (Nat.le_of_ble_eq_true rfl) dX9_faint_6 ?_
  refine fw_if_ne (pc := 9) C (tgt := 16) dX9_faint_9 (by decide) (fun c3 => ?_) (fun c3 => ?_)
  · have h := fw_iff h c3
    refine fw_aload_n (pc := 16) C 0 dX9_faint_16 rfl rfl ?_
    refine fw_iload_n (pc := 17) C 1 dX9_faint_17 rfl rfl ?_
    obtain ⟨v4, hv4, h⟩ := fw_bind h
    refine fw_callV1 (pc := 18) C (rest := []) (c_Mod_isDoor ho hv4) (cwV 1 C.2.2.2.2.1 gX9_faint_X9_isDoor rfl rfl rfl hd_Mod_isDoor ⟨Nat.le_of_ble_eq_true rfl, Nat.le_of_ble_eq_true rfl⟩) ho.1 rfl rfl ⟨Nat.zero_le _, Nat.zero_le _⟩ rfl (Nat.le_of_ble_eq_true rfl) dX9_faint_18 ?_
    refine fw_if_eq (pc := 21) C (tgt := 46) dX9_faint_21 (by decide) (fun c5 => ?_) (fun c5 => ?_)
    · have h := fw_ift h c5
      exact fw_sub [] rfl (c_Mod_faint_b46 C ho h)
    · have h := fw_iff h c5
      refine fw_iload_n (pc := 24) C 2 dX9_faint_24 rfl rfl ?_
      refine fw_i2l (pc := 25) C dX9_faint_25 ?_
      refine fw_lconst (pc := 26) C (v := 0) dX9_faint_26 fk_lconst_0 ?_
      refine fw_ldc2 (pc := 27) C (v := 10) kX9_faint_226 dX9_faint_27 ?_
      obtain ⟨v6, hv6, h⟩ := fw_bind h
      refine fw_callS1 (pc := 30) C (rest := []) (c_Mod_in  hv6) (va_cwS 3 C.2.2.2.2.1 gX9_faint_X9_in rfl rfl rfl hd_Mod_in.2 ⟨Nat.le_of_ble_eq_true rfl, Nat.le_of_ble_eq_true rfl⟩) rfl ⟨Nat.zero_le _, Nat.zero_le _⟩ rfl (Nat.le_of_ble_eq_true rfl) dX9_faint_30 ?_
      refine fw_if_eq (pc := 33) C (tgt := 46) dX9_faint_33 (by decide) (fun c7 => ?_) (fun c7 => ?_)
      · have h := fw_ift h c7
        exact fw_sub [] rfl (c_Mod_faint_b46 C ho h)
      · have h := fw_iff h c7
        refine fw_iload_n (pc := 36) C 3 dX9_faint_36 rfl rfl ?_
        refine fw_i2l (pc := 37) C dX9_faint_37 ?_
        refine fw_lconst (pc := 38) C (v := 0) dX9_faint_38 fk_lconst_0 ?_
        refine fw_lconst (pc := 39) C (v := 1) dX9_faint_39 fk_lconst_1 ?_
        obtain ⟨v8, hv8, h⟩ := fw_bind h
        refine fw_callS1 (pc := 40) C (rest := []) (c_Mod_in  hv8) (va_cwS 3 C.2.2.2.2.1 gX9_faint_X9_in rfl rfl rfl hd_Mod_in.2 ⟨Nat.le_of_ble_eq_true rfl, Nat.le_of_ble_eq_true rfl⟩) rfl ⟨Nat.zero_le _, Nat.zero_le _⟩ rfl (Nat.le_of_ble_eq_true rfl) dX9_faint_40 ?_
        refine fw_if_ne (pc := 43) C (tgt := 50) dX9_faint_43 (by decide) (fun c9 => ?_) (fun c9 => ?_)
        · have h := fw_iff h c9
          refine fw_aload_n (pc := 50) C 0 dX9_faint_50 rfl rfl ?_
          refine fw_getr (pc := 51) C ho.2.2.2.2.2.2.1.1 rfl qX9_faint_19 dX9_faint_51 ?_
          refine fw_iload_n (pc := 54) C 1 dX9_faint_54 rfl rfl ?_
          obtain ⟨v10, hv10, h⟩ := fw_bind h
          refine fw_callS1 (pc := 55) C (rest := []) (c_Mod_waiting ho.2.2.2.2.2.2.1.2 hv10) (va_cwS 2 C.2.2.2.2.1 gX9_faint_X9_waiting rfl rfl rfl hd_Mod_waiting.2 ⟨Nat.le_of_ble_eq_true rfl, Nat.le_of_ble_eq_true rfl⟩) rfl ⟨Nat.zero_le _, Nat.zero_le _⟩ rfl (Nat.le_of_ble_eq_true rfl) dX9_faint_55 ?_
          refine fw_istore (pc := 58) C (L2 := [(0, .ref _), (1, .int _), (2, .int _), (3, .int _), (4, .int _)]) [1, 2, 3, 4, 0] dX9_faint_58 (by decide) rfl ?_
          refine fw_lconst (pc := 60) C (v := 0) dX9_faint_60 fk_lconst_0 ?_
          refine fw_lstore (pc := 61) C (L2 := [(0, .ref _), (1, .int _), (2, .int _), (3, .int _), (4, .int _), (5, .long _)]) [1, 2, 3, 4, 5, 0] dX9_faint_61 (by decide) rfl ?_
          refine fw_lconst (pc := 63) C (v := 0) dX9_faint_63 fk_lconst_0 ?_
          refine fw_lstore (pc := 64) C (L2 := [(0, .ref _), (1, .int _), (2, .int _), (3, .int _), (4, .int _), (5, .long _), (7, .long _)]) [1, 2, 3, 4, 5, 6, 0] dX9_faint_64 (by decide) rfl ?_
          refine fw_iconst (pc := 66) C (v := 0) dX9_faint_66 fk_iconst_0 ?_
          refine fw_istore (pc := 67) C (L2 := [(0, .ref _), (1, .int _), (2, .int _), (3, .int _), (4, .int _), (5, .long _), (7, .long _), (9, .int _)]) [1, 2, 3, 4, 5, 6, 7, 0] dX9_faint_67 (by decide) rfl ?_
          exact (c_Mod_faint_h69 C ho _ _ _ _ _ _ _ _ _ h)
        · have h := fw_ift h c9
          exact fw_sub [] rfl (c_Mod_faint_b46 C ho h)
  · have h := fw_ift h c3
    refine fw_ldc2 (pc := 12) C (v := -1000002) kX9_faint_224 dX9_faint_12 ?_
    exact fw_lret (pc := 15) C (fw_p1 h) (fw_p2 h) dX9_faint_15
theorem c_Mod_faint {l : Launch} {D : va_G} {cI cZ cH cR : ClassId} {N : Nat} {ad : Nat → Nat} {EE : fw_M → Nat → va_E} {o : Nat} {M : fw_M} {a0 : Int32} {a1 : Int32} {a2 : Int32} {z : (Int64 × fw_M)} (ho : o_Mod EE ad N cI cZ cH cR o) (h : P_Mod_faint o M a0 a1 a2 = some z) : fw_Met l yX9_faint wsX9_faint rm_Mod_faint D vwCl (fw_tys cI cZ cH cR) N ad fw_nw0 EE [.ref (ad o), .int a0, .int a1, .int a2] M (some (.long z.1)) z.2 := by
  unfold P_Mod_faint at h
  exact fw_intro (cc := cX9_faint) (maxL := 15) (ret := some .long) (own := RX9) (by decide) rfl rfl (Nat.le_of_ble_eq_true rfl) (fun p e s m args below meth c C => fw_sub [0, 1, 2, 3] rfl (c_Mod_faint_b0 C ho h))
abbrev rm_Mod_drawn : Room := { frames := 6, cells := 0, slots := 0, locals := 136 }
theorem hd_Mod_drawn : yX9_drawn.cls = RX9 ∧ yX9_drawn.cls ≠ "java/lang/invoke/MethodHandle" ∧ yX9_drawn.cls ≠ "java/lang/invoke/VarHandle" ∧ (parseMethodDescriptor yX9_drawn.desc).map (fun d => d.parameters.length) = some 3 := by decide +kernel
theorem qX9_drawn_47 : fw_G wsX9_drawn RX9 47 RX9 TX9 24 0 := ⟨by decide +kernel, by decide +kernel, by decide⟩
theorem kX9_drawn_187 : Cond.constant RX9 187 (-1000002) ∈ wsX9_drawn := by decide +kernel
theorem kX9_drawn_204 : Cond.constantLong RX9 204 (60) ∈ wsX9_drawn := by decide +kernel
theorem kX9_drawn_230 : Cond.constantLong RX9 230 (999999) ∈ wsX9_drawn := by decide +kernel
theorem kX9_drawn_232 : Cond.constantLong RX9 232 (16807) ∈ wsX9_drawn := by decide +kernel
theorem kX9_drawn_234 : Cond.constantLong RX9 234 (2147483647) ∈ wsX9_drawn := by decide +kernel
theorem qX9_drawn_25 : fw_G wsX9_drawn RX9 25 RX9 TX9 24 7 := ⟨by decide +kernel, by decide +kernel, by decide⟩
theorem kX9_drawn_67 : Cond.constant RX9 67 (-1000001) ∈ wsX9_drawn := by decide +kernel
def P_Mod_drawn_b49 (o : Nat) (M : fw_M) : Option (Int32 × fw_M) := some ((-1000001 : Int32), M)
def P_Mod_drawn_b227 (o : Nat) (M : fw_M) (t0 : Int32) : Option (Int32 × fw_M) := some (t0, M)
def P_Mod_drawn_b207 (o : Nat) (K176 : fw_M → Int32 → Int32 → Int32 → Int32 → Option (Int32 × fw_M)) (M : fw_M) (x3 : Int32) (x6 : Int32) (x8 : Int32) (t0 : Int32) (t1 : Int32) : Option (Int32 × fw_M) := fw_pl ((t0 + t1)) fun y1 => K176 M x3 x6 y1 (x8 + (1 : Int32))
def P_Mod_drawn_b176 (o : Nat) (K176 : fw_M → Int32 → Int32 → Int32 → Int32 → Option (Int32 × fw_M)) (M : fw_M) (x3 : Int32) (x6 : Int32) (x7 : Int32) (x8 : Int32) : Option (Int32 × fw_M) := (fw_ald M (o + 6) 39 (2 : Int32)).bind fun v1 => (if v1 ≤ x8 then (if x3 = (0 : Int32) then P_Mod_drawn_b227 o M x6 else P_Mod_drawn_b227 o M x7) else (P_Mod_of (o + 6) M x8 (3 : Int32)).bind fun v4 => (if (0 : Int32) ≤ v4 then P_Mod_drawn_b207 o K176 M x3 x6 x8 x7 (1 : Int32) else P_Mod_drawn_b207 o K176 M x3 x6 x8 x7 (0 : Int32)))
def P_Mod_drawn_h176 (o : Nat) : Nat → fw_M → Int32 → Int32 → Int32 → Int32 → Option (Int32 × fw_M)
  | 0, _, _, _, _, _ => none
  | n + 1, M, x3, x6, x7, x8 => P_Mod_drawn_b176 o (P_Mod_drawn_h176 o n) M x3 x6 x7 x8
def P_Mod_drawn_b151 (o : Nat) (K66 : fw_M → Int32 → Int32 → Int64 → Int32 → Int32 → Option (Int32 × fw_M)) (M : fw_M) (x1 : Int32) (x3 : Int32) (x4 : Int64) (x6 : Int32) (x7 : Int32) : Option (Int32 × fw_M) := (P_Mod_step o (o + 6) M).bind fun q1 => fw_pl ((x6 + q1.1)) fun y2 => K66 q1.2 x1 x3 x4 y2 (x7 + (1 : Int32))
def P_Mod_drawn_b66 (o : Nat) (K66 : fw_M → Int32 → Int32 → Int64 → Int32 → Int32 → Option (Int32 × fw_M)) (M : fw_M) (x1 : Int32) (x3 : Int32) (x4 : Int64) (x6 : Int32) (x7 : Int32) : Option (Int32 × fw_M) := (if x1 ≤ x7 then P_Mod_drawn_h176 o fw_fu M x3 x6 (0 : Int32) (0 : Int32) else (fw_lremP (x4 * (16807 : Int64)) (2147483647 : Int64)).bind fun v2 => (fw_ald M (o + 6) 39 (2 : Int32)).bind fun v3 => (fw_lremP v2 (Int32.toInt64 v3)).bind fun v4 => fw_pl (((4 : Int32) + ((5 : Int32) * (Int64.toInt32 v4)))) fun y5 => (fw_ald M (o + 6) 39 (y5 + (3 : Int32))).bind fun v6 => (if (0 : Int32) ≤ v6 then (fw_ald M (o + 6) 39 (1 : Int32)).bind fun v8 => (fw_ast M (o + 6) 39 (y5 + (4 : Int32)) v8).bind fun M9 => P_Mod_drawn_b151 o K66 M9 x1 x3 v2 x6 x7 else (fw_ald M (o + 6) 39 (0 : Int32)).bind fun v10 => (fw_lremP v2 (Int32.toInt64 v10)).bind fun v11 => (fw_ast M (o + 6) 39 (y5 + (3 : Int32)) (Int64.toInt32 v11)).bind fun M12 => P_Mod_drawn_b151 o K66 M12 x1 x3 v2 x6 x7))
def P_Mod_drawn_h66 (o : Nat) : Nat → fw_M → Int32 → Int32 → Int64 → Int32 → Int32 → Option (Int32 × fw_M)
  | 0, _, _, _, _, _, _ => none
  | n + 1, M, x1, x3, x4, x6, x7 => P_Mod_drawn_b66 o (P_Mod_drawn_h66 o n) M x1 x3 x4 x6 x7
def P_Mod_drawn_b0 (o : Nat) (M : fw_M) (x1 : Int32) (x2 : Int32) (x3 : Int32) : Option (Int32 × fw_M) := fw_pl (fw_set M o 0 (0 : Int32)) fun M1 => (P_Mod_isThere o M1).bind fun v2 => (if v2 = (0 : Int32) then some ((-1000002 : Int32), M1) else (P_Mod_in M1 (Int32.toInt64 x1) (0 : Int64) (60 : Int64)).bind fun v4 => (if v4 = (0 : Int32) then P_Mod_drawn_b49 o M1 else (P_Mod_in M1 (Int32.toInt64 x2) (1 : Int64) (999999 : Int64)).bind fun v6 => (if v6 = (0 : Int32) then P_Mod_drawn_b49 o M1 else (P_Mod_in M1 (Int32.toInt64 x3) (0 : Int64) (1 : Int64)).bind fun v8 => (if v8 = (0 : Int32) then P_Mod_drawn_b49 o M1 else (P_Mod_layThen o M1).bind fun q10 => fw_pl ((Int32.toInt64 x2)) fun y11 => P_Mod_drawn_h66 o fw_fu q10 x1 x3 y11 (0 : Int32) (0 : Int32)))))
def P_Mod_drawn (o : Nat) (M : fw_M) (a0 : Int32) (a1 : Int32) (a2 : Int32) : Option (Int32 × fw_M) := P_Mod_drawn_b0 o M a0 a1 a2
set_option maxRecDepth 100000 in
theorem c_Mod_drawn_b49 {p : Program} {l : Launch} {e : Env} {s : State} {m : MethodId} {args : Array Value} {below : List Frame} {meth : Method} {c : Code} {D : va_G} {cI cZ cH cR : ClassId} {N : Nat} {ad : Nat → Nat} {EE : fw_M → Nat → va_E} {o : Nat} {M : fw_M} {z : (Int32 × fw_M)} (C : fw_C p s m args meth c cX9_drawn RX9 wsX9_drawn 9 (some .int) D vwCl (fw_tys cI cZ cH cR) N ad fw_nw0) (ho : o_Mod EE ad N cI cZ cH cR o) (h : P_Mod_drawn_b49 o M = some z) : fw_J p l e (headSpec wsX9_drawn rm_Mod_drawn).room s m args below meth c D vwCl N ad EE 9 0 0 (fw_E below args s D vwCl N ad EE (some (.int z.1)) z.2) M [] 49 [] := by
  unfold P_Mod_drawn_b49 at h
  refine fw_ldc (pc := 49) C (v := -1000001) kX9_drawn_67 dX9_drawn_49 ?_
  exact fw_iret (pc := 51) C (fw_p1 h) (fw_p2 h) dX9_drawn_51
set_option maxRecDepth 100000 in
theorem c_Mod_drawn_b227 {p : Program} {l : Launch} {e : Env} {s : State} {m : MethodId} {args : Array Value} {below : List Frame} {meth : Method} {c : Code} {D : va_G} {cI cZ cH cR : ClassId} {N : Nat} {ad : Nat → Nat} {EE : fw_M → Nat → va_E} {o : Nat} {M : fw_M} {t0 : Int32} {z : (Int32 × fw_M)} (C : fw_C p s m args meth c cX9_drawn RX9 wsX9_drawn 9 (some .int) D vwCl (fw_tys cI cZ cH cR) N ad fw_nw0) (ho : o_Mod EE ad N cI cZ cH cR o) (h : P_Mod_drawn_b227 o M t0 = some z) : fw_J p l e (headSpec wsX9_drawn rm_Mod_drawn).room s m args below meth c D vwCl N ad EE 9 0 0 (fw_E below args s D vwCl N ad EE (some (.int z.1)) z.2) M [] 227 [.int t0] := by
  unfold P_Mod_drawn_b227 at h
  exact fw_iret (pc := 227) C (fw_p1 h) (fw_p2 h) dX9_drawn_227
set_option maxRecDepth 100000 in
theorem c_Mod_drawn_b207 {p : Program} {l : Launch} {e : Env} {s : State} {m : MethodId} {args : Array Value} {below : List Frame} {meth : Method} {c : Code} {D : va_G} {cI cZ cH cR : ClassId} {N : Nat} {ad : Nat → Nat} {EE : fw_M → Nat → va_E} {o : Nat} {K176 : fw_M → Int32 → Int32 → Int32 → Int32 → Option (Int32 × fw_M)} {M : fw_M} {x3 : Int32} {x6 : Int32} {x8 : Int32} {t0 : Int32} {t1 : Int32} {z : (Int32 × fw_M)} (C : fw_C p s m args meth c cX9_drawn RX9 wsX9_drawn 9 (some .int) D vwCl (fw_tys cI cZ cH cR) N ad fw_nw0) (ho : o_Mod EE ad N cI cZ cH cR o) (hK176 : ∀ (Mk : fw_M) (kx3 : Int32) (kx6 : Int32) (kx7 : Int32) (kx8 : Int32), K176 Mk kx3 kx6 kx7 kx8 = some z → fw_J p l e (headSpec wsX9_drawn rm_Mod_drawn).room s m args below meth c D vwCl N ad EE 9 0 0 (fw_E below args s D vwCl N ad EE (some (.int z.1)) z.2) Mk [(0, .ref (ad o)), (3, .int kx3), (6, .int kx6), (7, .int kx7), (8, .int kx8)] 176 []) (h : P_Mod_drawn_b207 o K176 M x3 x6 x8 t0 t1 = some z) : fw_J p l e (headSpec wsX9_drawn rm_Mod_drawn).room s m args below meth c D vwCl N ad EE 9 0 0 (fw_E below args s D vwCl N ad EE (some (.int z.1)) z.2) M [(0, .ref (ad o)), (3, .int x3), (6, .int x6), (8, .int x8)] 207 [.int t1, .int t0] := by
  unfold P_Mod_drawn_b207 at h
  refine fw_iadd (pc := 207) C dX9_drawn_207 ?_
  have h := fw_plh h
  refine fw_istore (pc := 208) C (L2 := [(0, .ref _), (3, .int _), (6, .int _), (7, .int _), (8, .int _)]) [1, 2, 3, 0, 4] dX9_drawn_208 (by decide) rfl ?_
  refine fw_iinc (pc := 210) C (v := 1) (L2 := [(0, .ref _), (3, .int _), (6, .int _), (7, .int _), (8, .int _)]) 4 [1, 2, 3, 4, 0] dX9_drawn_210 rfl fk_iconst_1 (by decide) rfl ?_
  refine fw_goto (pc := 213) C (tgt := 176) dX9_drawn_213 (by decide) ?_
  exact (hK176 _ _ _ _ _ h)
set_option maxRecDepth 100000 in
theorem c_Mod_drawn_b176 {p : Program} {l : Launch} {e : Env} {s : State} {m : MethodId} {args : Array Value} {below : List Frame} {meth : Method} {c : Code} {D : va_G} {cI cZ cH cR : ClassId} {N : Nat} {ad : Nat → Nat} {EE : fw_M → Nat → va_E} {o : Nat} {K176 : fw_M → Int32 → Int32 → Int32 → Int32 → Option (Int32 × fw_M)} {M : fw_M} {x3 : Int32} {x6 : Int32} {x7 : Int32} {x8 : Int32} {z : (Int32 × fw_M)} (C : fw_C p s m args meth c cX9_drawn RX9 wsX9_drawn 9 (some .int) D vwCl (fw_tys cI cZ cH cR) N ad fw_nw0) (ho : o_Mod EE ad N cI cZ cH cR o) (hK176 : ∀ (Mk : fw_M) (kx3 : Int32) (kx6 : Int32) (kx7 : Int32) (kx8 : Int32), K176 Mk kx3 kx6 kx7 kx8 = some z → fw_J p l e (headSpec wsX9_drawn rm_Mod_drawn).room s m args below meth c D vwCl N ad EE 9 0 0 (fw_E below args s D vwCl N ad EE (some (.int z.1)) z.2) Mk [(0, .ref (ad o)), (3, .int kx3), (6, .int kx6), (7, .int kx7), (8, .int kx8)] 176 []) (h : P_Mod_drawn_b176 o K176 M x3 x6 x7 x8 = some z) : fw_J p l e (headSpec wsX9_drawn rm_Mod_drawn).room s m args below meth c D vwCl N ad EE 9 0 0 (fw_E below args s D vwCl N ad EE (some (.int z.1)) z.2) M [(0, .ref (ad o)), (3, .int x3), (6, .int x6), (7, .int x7), (8, .int x8)] 176 [] := by
  unfold P_Mod_drawn_b176 at h
  refine fw_iload (pc := 176) C 4 dX9_drawn_176 rfl ?_
  refine fw_aload_n (pc := 178) C 0 dX9_drawn_178 rfl rfl ?_
  refine fw_getr (pc := 179) C ho.2.2.2.2.2.2.2.2.1.1 rfl qX9_drawn_25 dX9_drawn_179 ?_
  refine fw_iconst (pc := 182) C (v := 2) dX9_drawn_182 fk_iconst_2 ?_
  obtain ⟨v1, hv1, h⟩ := fw_bind h
  refine fw_iald (pc := 183) C 0 ho.2.2.2.2.2.2.2.2.1.2 rfl hv1 dX9_drawn_183 ?_
  refine fw_icmp_ge (pc := 184) C (tgt := 216) dX9_drawn_184 (by decide) (fun c2 => ?_) (fun c2 => ?_)
  · have h := fw_ift h c2
    refine fw_iload_n (pc := 216) C 1 dX9_drawn_216 rfl rfl ?_
    refine fw_if_ne (pc := 217) C (tgt := 225) dX9_drawn_217 (by decide) (fun c3 => ?_) (fun c3 => ?_)
    · have h := fw_iff h c3
      refine fw_iload (pc := 225) C 3 dX9_drawn_225 rfl ?_
      exact fw_sub [] rfl (c_Mod_drawn_b227 C ho h)
    · have h := fw_ift h c3
      refine fw_iload (pc := 220) C 2 dX9_drawn_220 rfl ?_
      refine fw_goto (pc := 222) C (tgt := 227) dX9_drawn_222 (by decide) ?_
      exact fw_sub [] rfl (c_Mod_drawn_b227 C ho h)
  · have h := fw_iff h c2
    refine fw_iload (pc := 187) C 3 dX9_drawn_187 rfl ?_
    refine fw_aload_n (pc := 189) C 0 dX9_drawn_189 rfl rfl ?_
    refine fw_getr (pc := 190) C ho.2.2.2.2.2.2.2.2.1.1 rfl qX9_drawn_25 dX9_drawn_190 ?_
    refine fw_iload (pc := 193) C 4 dX9_drawn_193 rfl ?_
    refine fw_iconst (pc := 195) C (v := 3) dX9_drawn_195 fk_iconst_3 ?_
    obtain ⟨v4, hv4, h⟩ := fw_bind h
    refine fw_callS1 (pc := 196) C (rest := [_]) (c_Mod_of ho.2.2.2.2.2.2.2.2.1.2 hv4) (va_cwS 3 C.2.2.2.2.1 gX9_drawn_X9_of rfl rfl rfl hd_Mod_of.2 ⟨Nat.le_of_ble_eq_true rfl, Nat.le_of_ble_eq_true rfl⟩) rfl ⟨Nat.zero_le _, Nat.zero_le _⟩ rfl (Nat.le_of_ble_eq_true rfl) dX9_drawn_196 ?_
    refine fw_if_ge (pc := 199) C (tgt := 206) dX9_drawn_199 (by decide) (fun c5 => ?_) (fun c5 => ?_)
    · have h := fw_ift h c5
      refine fw_iconst (pc := 206) C (v := 1) dX9_drawn_206 fk_iconst_1 ?_
      exact fw_sub [0, 1, 2, 4] rfl (c_Mod_drawn_b207 C ho hK176 h)
    · have h := fw_iff h c5
      refine fw_iconst (pc := 202) C (v := 0) dX9_drawn_202 fk_iconst_0 ?_
      refine fw_goto (pc := 203) C (tgt := 207) dX9_drawn_203 (by decide) ?_
      exact fw_sub [0, 1, 2, 4] rfl (c_Mod_drawn_b207 C ho hK176 h)
theorem c_Mod_drawn_h176 {p : Program} {l : Launch} {e : Env} {s : State} {m : MethodId} {args : Array Value} {below : List Frame} {meth : Method} {c : Code} {D : va_G} {cI cZ cH cR : ClassId} {N : Nat} {ad : Nat → Nat} {EE : fw_M → Nat → va_E} {o : Nat} {z : (Int32 × fw_M)} (C : fw_C p s m args meth c cX9_drawn RX9 wsX9_drawn 9 (some .int) D vwCl (fw_tys cI cZ cH cR) N ad fw_nw0) (ho : o_Mod EE ad N cI cZ cH cR o) : ∀ (n : Nat) (M : fw_M) (x3 : Int32) (x6 : Int32) (x7 : Int32) (x8 : Int32), P_Mod_drawn_h176 o n M x3 x6 x7 x8 = some z → fw_J p l e (headSpec wsX9_drawn rm_Mod_drawn).room s m args below meth c D vwCl N ad EE 9 0 0 (fw_E below args s D vwCl N ad EE (some (.int z.1)) z.2) M [(0, .ref (ad o)), (3, .int x3), (6, .int x6), (7, .int x7), (8, .int x8)] 176 [] := by
  intro n
  induction n with
  | zero => intro M x3 x6 x7 x8  h; cases h
  | succ n ih => intro M x3 x6 x7 x8  h; exact c_Mod_drawn_b176 C ho ih  h
set_option maxRecDepth 100000 in
theorem c_Mod_drawn_b151 {p : Program} {l : Launch} {e : Env} {s : State} {m : MethodId} {args : Array Value} {below : List Frame} {meth : Method} {c : Code} {D : va_G} {cI cZ cH cR : ClassId} {N : Nat} {ad : Nat → Nat} {EE : fw_M → Nat → va_E} {o : Nat} {K66 : fw_M → Int32 → Int32 → Int64 → Int32 → Int32 → Option (Int32 × fw_M)} {M : fw_M} {x1 : Int32} {x3 : Int32} {x4 : Int64} {x6 : Int32} {x7 : Int32} {z : (Int32 × fw_M)} (C : fw_C p s m args meth c cX9_drawn RX9 wsX9_drawn 9 (some .int) D vwCl (fw_tys cI cZ cH cR) N ad fw_nw0) (ho : o_Mod EE ad N cI cZ cH cR o) (hK66 : ∀ (Mk : fw_M) (kx1 : Int32) (kx3 : Int32) (kx4 : Int64) (kx6 : Int32) (kx7 : Int32), K66 Mk kx1 kx3 kx4 kx6 kx7 = some z → fw_J p l e (headSpec wsX9_drawn rm_Mod_drawn).room s m args below meth c D vwCl N ad EE 9 0 0 (fw_E below args s D vwCl N ad EE (some (.int z.1)) z.2) Mk [(0, .ref (ad o)), (1, .int kx1), (3, .int kx3), (4, .long kx4), (6, .int kx6), (7, .int kx7)] 66 []) (h : P_Mod_drawn_b151 o K66 M x1 x3 x4 x6 x7 = some z) : fw_J p l e (headSpec wsX9_drawn rm_Mod_drawn).room s m args below meth c D vwCl N ad EE 9 0 0 (fw_E below args s D vwCl N ad EE (some (.int z.1)) z.2) M [(0, .ref (ad o)), (1, .int x1), (3, .int x3), (4, .long x4), (6, .int x6), (7, .int x7)] 151 [] := by
  unfold P_Mod_drawn_b151 at h
  refine fw_iload (pc := 151) C 4 dX9_drawn_151 rfl ?_
  refine fw_aload_n (pc := 153) C 0 dX9_drawn_153 rfl rfl ?_
  refine fw_aload_n (pc := 154) C 0 dX9_drawn_154 rfl rfl ?_
  refine fw_getr (pc := 155) C ho.2.2.2.2.2.2.2.2.1.1 rfl qX9_drawn_25 dX9_drawn_155 ?_
  obtain ⟨q1, hq1, h⟩ := fw_bind h
  refine fw_callV1 (pc := 158) C (rest := [_]) (c_Mod_step ho ho.2.2.2.2.2.2.2.2.1.2 hq1) (cwV 1 C.2.2.2.2.1 gX9_drawn_X9_step rfl rfl rfl hd_Mod_step ⟨Nat.le_of_ble_eq_true rfl, Nat.le_of_ble_eq_true rfl⟩) ho.1 rfl rfl ⟨Nat.zero_le _, Nat.zero_le _⟩ rfl (Nat.le_of_ble_eq_true rfl) dX9_drawn_158 ?_
  refine fw_iadd (pc := 161) C dX9_drawn_161 ?_
  have h := fw_plh h
  refine fw_istore (pc := 162) C (L2 := [(0, .ref _), (1, .int _), (3, .int _), (4, .long _), (6, .int _), (7, .int _)]) [1, 2, 3, 4, 0, 5] dX9_drawn_162 (by decide) rfl ?_
  refine fw_iinc (pc := 164) C (v := 1) (L2 := [(0, .ref _), (1, .int _), (3, .int _), (4, .long _), (6, .int _), (7, .int _)]) 5 [1, 2, 3, 4, 5, 0] dX9_drawn_164 rfl fk_iconst_1 (by decide) rfl ?_
  refine fw_goto (pc := 167) C (tgt := 66) dX9_drawn_167 (by decide) ?_
  exact (hK66 _ _ _ _ _ _ h)
set_option maxRecDepth 100000 in
theorem c_Mod_drawn_b66 {p : Program} {l : Launch} {e : Env} {s : State} {m : MethodId} {args : Array Value} {below : List Frame} {meth : Method} {c : Code} {D : va_G} {cI cZ cH cR : ClassId} {N : Nat} {ad : Nat → Nat} {EE : fw_M → Nat → va_E} {o : Nat} {K66 : fw_M → Int32 → Int32 → Int64 → Int32 → Int32 → Option (Int32 × fw_M)} {M : fw_M} {x1 : Int32} {x3 : Int32} {x4 : Int64} {x6 : Int32} {x7 : Int32} {z : (Int32 × fw_M)} (C : fw_C p s m args meth c cX9_drawn RX9 wsX9_drawn 9 (some .int) D vwCl (fw_tys cI cZ cH cR) N ad fw_nw0) (ho : o_Mod EE ad N cI cZ cH cR o) (hK66 : ∀ (Mk : fw_M) (kx1 : Int32) (kx3 : Int32) (kx4 : Int64) (kx6 : Int32) (kx7 : Int32), K66 Mk kx1 kx3 kx4 kx6 kx7 = some z → fw_J p l e (headSpec wsX9_drawn rm_Mod_drawn).room s m args below meth c D vwCl N ad EE 9 0 0 (fw_E below args s D vwCl N ad EE (some (.int z.1)) z.2) Mk [(0, .ref (ad o)), (1, .int kx1), (3, .int kx3), (4, .long kx4), (6, .int kx6), (7, .int kx7)] 66 []) (h : P_Mod_drawn_b66 o K66 M x1 x3 x4 x6 x7 = some z) : fw_J p l e (headSpec wsX9_drawn rm_Mod_drawn).room s m args below meth c D vwCl N ad EE 9 0 0 (fw_E below args s D vwCl N ad EE (some (.int z.1)) z.2) M [(0, .ref (ad o)), (1, .int x1), (3, .int x3), (4, .long x4), (6, .int x6), (7, .int x7)] 66 [] := by
  unfold P_Mod_drawn_b66 at h
  refine fw_iload (pc := 66) C 5 dX9_drawn_66 rfl ?_
  refine fw_iload_n (pc := 68) C 1 dX9_drawn_68 rfl rfl ?_
  refine fw_icmp_ge (pc := 69) C (tgt := 170) dX9_drawn_69 (by decide) (fun c1 => ?_) (fun c1 => ?_)
  · have h := fw_ift h c1
    refine fw_iconst (pc := 170) C (v := 0) dX9_drawn_170 fk_iconst_0 ?_
    refine fw_istore (pc := 171) C (L2 := [(0, .ref _), (1, .int _), (3, .int _), (4, .long _), (6, .int _), (7, .int _)]) [1, 2, 3, 4, 5, 0] dX9_drawn_171 (by decide) rfl ?_
    refine fw_iconst (pc := 173) C (v := 0) dX9_drawn_173 fk_iconst_0 ?_
    refine fw_istore (pc := 174) C (L2 := [(0, .ref _), (1, .int _), (3, .int _), (4, .long _), (6, .int _), (7, .int _), (8, .int _)]) [1, 2, 3, 4, 5, 6, 0] dX9_drawn_174 (by decide) rfl ?_
    exact fw_sub [0, 2, 4, 5, 6] rfl (c_Mod_drawn_h176 C ho _ _ _ _ _ _ h)
  · have h := fw_iff h c1
    refine fw_lload (pc := 72) C 3 dX9_drawn_72 rfl ?_
    refine fw_ldc2 (pc := 74) C (v := 16807) kX9_drawn_232 dX9_drawn_74 ?_
    refine fw_lmul (pc := 77) C dX9_drawn_77 ?_
    refine fw_ldc2 (pc := 78) C (v := 2147483647) kX9_drawn_234 dX9_drawn_78 ?_
    obtain ⟨v2, hv2, h⟩ := fw_bind h
    refine fw_lrem (pc := 81) C dX9_drawn_81 hv2 ?_
    refine fw_lstore (pc := 82) C (L2 := [(0, .ref _), (1, .int _), (3, .int _), (4, .long _), (6, .int _), (7, .int _)]) [1, 2, 3, 0, 4, 5] dX9_drawn_82 (by decide) rfl ?_
    refine fw_iconst (pc := 84) C (v := 4) dX9_drawn_84 fk_iconst_4 ?_
    refine fw_iconst (pc := 85) C (v := 5) dX9_drawn_85 fk_iconst_5 ?_
    refine fw_lload (pc := 86) C 3 dX9_drawn_86 rfl ?_
    refine fw_aload_n (pc := 88) C 0 dX9_drawn_88 rfl rfl ?_
    refine fw_getr (pc := 89) C ho.2.2.2.2.2.2.2.2.1.1 rfl qX9_drawn_25 dX9_drawn_89 ?_
    refine fw_iconst (pc := 92) C (v := 2) dX9_drawn_92 fk_iconst_2 ?_
    obtain ⟨v3, hv3, h⟩ := fw_bind h
    refine fw_iald (pc := 93) C 0 ho.2.2.2.2.2.2.2.2.1.2 rfl hv3 dX9_drawn_93 ?_
    refine fw_i2l (pc := 94) C dX9_drawn_94 ?_
    obtain ⟨v4, hv4, h⟩ := fw_bind h
    refine fw_lrem (pc := 95) C dX9_drawn_95 hv4 ?_
    refine fw_l2i (pc := 96) C dX9_drawn_96 ?_
    refine fw_imul (pc := 97) C dX9_drawn_97 ?_
    refine fw_iadd (pc := 98) C dX9_drawn_98 ?_
    have h := fw_plh h
    refine fw_istore (pc := 99) C (L2 := [(0, .ref _), (1, .int _), (3, .int _), (4, .long _), (6, .int _), (7, .int _), (8, .int _)]) [1, 2, 3, 4, 5, 6, 0] dX9_drawn_99 (by decide) rfl ?_
    refine fw_aload_n (pc := 101) C 0 dX9_drawn_101 rfl rfl ?_
    refine fw_getr (pc := 102) C ho.2.2.2.2.2.2.2.2.1.1 rfl qX9_drawn_25 dX9_drawn_102 ?_
    refine fw_iload (pc := 105) C 6 dX9_drawn_105 rfl ?_
    refine fw_iconst (pc := 107) C (v := 3) dX9_drawn_107 fk_iconst_3 ?_
    refine fw_iadd (pc := 108) C dX9_drawn_108 ?_
    obtain ⟨v6, hv6, h⟩ := fw_bind h
    refine fw_iald (pc := 109) C 0 ho.2.2.2.2.2.2.2.2.1.2 rfl hv6 dX9_drawn_109 ?_
    refine fw_if_ge (pc := 110) C (tgt := 136) dX9_drawn_110 (by decide) (fun c7 => ?_) (fun c7 => ?_)
    · have h := fw_ift h c7
      refine fw_aload_n (pc := 136) C 0 dX9_drawn_136 rfl rfl ?_
      refine fw_getr (pc := 137) C ho.2.2.2.2.2.2.2.2.1.1 rfl qX9_drawn_25 dX9_drawn_137 ?_
      refine fw_iload (pc := 140) C 6 dX9_drawn_140 rfl ?_
      refine fw_iconst (pc := 142) C (v := 4) dX9_drawn_142 fk_iconst_4 ?_
      refine fw_iadd (pc := 143) C dX9_drawn_143 ?_
      refine fw_aload_n (pc := 144) C 0 dX9_drawn_144 rfl rfl ?_
      refine fw_getr (pc := 145) C ho.2.2.2.2.2.2.2.2.1.1 rfl qX9_drawn_25 dX9_drawn_145 ?_
      refine fw_iconst (pc := 148) C (v := 1) dX9_drawn_148 fk_iconst_1 ?_
      obtain ⟨v8, hv8, h⟩ := fw_bind h
      refine fw_iald (pc := 149) C 0 ho.2.2.2.2.2.2.2.2.1.2 rfl hv8 dX9_drawn_149 ?_
      obtain ⟨M9, hM9, h⟩ := fw_bind h
      refine fw_iast (pc := 150) C 0 ho.2.2.2.2.2.2.2.2.1.2 rfl hM9 dX9_drawn_150 ?_
      exact fw_sub [0, 1, 2, 3, 4, 5] rfl (c_Mod_drawn_b151 C ho hK66 h)
    · have h := fw_iff h c7
      refine fw_aload_n (pc := 113) C 0 dX9_drawn_113 rfl rfl ?_
      refine fw_getr (pc := 114) C ho.2.2.2.2.2.2.2.2.1.1 rfl qX9_drawn_25 dX9_drawn_114 ?_
      refine fw_iload (pc := 117) C 6 dX9_drawn_117 rfl ?_
      refine fw_iconst (pc := 119) C (v := 3) dX9_drawn_119 fk_iconst_3 ?_
      refine fw_iadd (pc := 120) C dX9_drawn_120 ?_
      refine fw_lload (pc := 121) C 3 dX9_drawn_121 rfl ?_
      refine fw_aload_n (pc := 123) C 0 dX9_drawn_123 rfl rfl ?_
      refine fw_getr (pc := 124) C ho.2.2.2.2.2.2.2.2.1.1 rfl qX9_drawn_25 dX9_drawn_124 ?_
      refine fw_iconst (pc := 127) C (v := 0) dX9_drawn_127 fk_iconst_0 ?_
      obtain ⟨v10, hv10, h⟩ := fw_bind h
      refine fw_iald (pc := 128) C 0 ho.2.2.2.2.2.2.2.2.1.2 rfl hv10 dX9_drawn_128 ?_
      refine fw_i2l (pc := 129) C dX9_drawn_129 ?_
      obtain ⟨v11, hv11, h⟩ := fw_bind h
      refine fw_lrem (pc := 130) C dX9_drawn_130 hv11 ?_
      refine fw_l2i (pc := 131) C dX9_drawn_131 ?_
      obtain ⟨M12, hM12, h⟩ := fw_bind h
      refine fw_iast (pc := 132) C 0 ho.2.2.2.2.2.2.2.2.1.2 rfl hM12 dX9_drawn_132 ?_
      refine fw_goto (pc := 133) C (tgt := 151) dX9_drawn_133 (by decide) ?_
      exact fw_sub [0, 1, 2, 3, 4, 5] rfl (c_Mod_drawn_b151 C ho hK66 h)
theorem c_Mod_drawn_h66 {p : Program} {l : Launch} {e : Env} {s : State} {m : MethodId} {args : Array Value} {below : List Frame} {meth : Method} {c : Code} {D : va_G} {cI cZ cH cR : ClassId} {N : Nat} {ad : Nat → Nat} {EE : fw_M → Nat → va_E} {o : Nat} {z : (Int32 × fw_M)} (C : fw_C p s m args meth c cX9_drawn RX9 wsX9_drawn 9 (some .int) D vwCl (fw_tys cI cZ cH cR) N ad fw_nw0) (ho : o_Mod EE ad N cI cZ cH cR o) : ∀ (n : Nat) (M : fw_M) (x1 : Int32) (x3 : Int32) (x4 : Int64) (x6 : Int32) (x7 : Int32), P_Mod_drawn_h66 o n M x1 x3 x4 x6 x7 = some z → fw_J p l e (headSpec wsX9_drawn rm_Mod_drawn).room s m args below meth c D vwCl N ad EE 9 0 0 (fw_E below args s D vwCl N ad EE (some (.int z.1)) z.2) M [(0, .ref (ad o)), (1, .int x1), (3, .int x3), (4, .long x4), (6, .int x6), (7, .int x7)] 66 [] := by
  intro n
  induction n with
  | zero => intro M x1 x3 x4 x6 x7  h; cases h
  | succ n ih => intro M x1 x3 x4 x6 x7  h; exact c_Mod_drawn_b66 C ho ih  h
set_option maxRecDepth 100000 in
theorem c_Mod_drawn_b0 {p : Program} {l : Launch} {e : Env} {s : State} {m : MethodId} {args : Array Value} {below : List Frame} {meth : Method} {c : Code} {D : va_G} {cI cZ cH cR : ClassId} {N : Nat} {ad : Nat → Nat} {EE : fw_M → Nat → va_E} {o : Nat} {M : fw_M} {x1 : Int32} {x2 : Int32} {x3 : Int32} {z : (Int32 × fw_M)} (C : fw_C p s m args meth c cX9_drawn RX9 wsX9_drawn 9 (some .int) D vwCl (fw_tys cI cZ cH cR) N ad fw_nw0) (ho : o_Mod EE ad N cI cZ cH cR o) (h : P_Mod_drawn_b0 o M x1 x2 x3 = some z) : fw_J p l e (headSpec wsX9_drawn rm_Mod_drawn).room s m args below meth c D vwCl N ad EE 9 0 0 (fw_E below args s D vwCl N ad EE (some (.int z.1)) z.2) M [(0, .ref (ad o)), (1, .int x1), (2, .int x2), (3, .int x3)] 0 [] := by
  unfold P_Mod_drawn_b0 at h
  refine fw_aload_n (pc := 0) C 0 dX9_drawn_0 rfl rfl ?_
  refine fw_iconst (pc := 1) C (v := 0) dX9_drawn_1 fk_iconst_0 ?_
  have h := fw_plh h
  refine fw_puti (pc := 2) C ho.2.1 rfl qX9_drawn_47 tyX9 tyX9_ok nmX9 rfl rfl dX9_drawn_2 ?_
  refine fw_aload_n (pc := 5) C 0 dX9_drawn_5 rfl rfl ?_
  obtain ⟨v2, hv2, h⟩ := fw_bind h
  refine fw_callV1 (pc := 6) C (rest := []) (c_Mod_isThere ho hv2) (cwV 0 C.2.2.2.2.1 gX9_drawn_X9_isThere rfl rfl rfl hd_Mod_isThere ⟨Nat.le_of_ble_eq_true rfl, Nat.le_of_ble_eq_true rfl⟩) ho.1 rfl rfl ⟨Nat.zero_le _, Nat.zero_le _⟩ rfl (Nat.le_of_ble_eq_true rfl) dX9_drawn_6 ?_
  refine fw_if_ne (pc := 9) C (tgt := 15) dX9_drawn_9 (by decide) (fun c3 => ?_) (fun c3 => ?_)
  · have h := fw_iff h c3
    refine fw_iload_n (pc := 15) C 1 dX9_drawn_15 rfl rfl ?_
    refine fw_i2l (pc := 16) C dX9_drawn_16 ?_
    refine fw_lconst (pc := 17) C (v := 0) dX9_drawn_17 fk_lconst_0 ?_
    refine fw_ldc2 (pc := 18) C (v := 60) kX9_drawn_204 dX9_drawn_18 ?_
    obtain ⟨v4, hv4, h⟩ := fw_bind h
    refine fw_callS1 (pc := 21) C (rest := []) (c_Mod_in  hv4) (va_cwS 3 C.2.2.2.2.1 gX9_drawn_X9_in rfl rfl rfl hd_Mod_in.2 ⟨Nat.le_of_ble_eq_true rfl, Nat.le_of_ble_eq_true rfl⟩) rfl ⟨Nat.zero_le _, Nat.zero_le _⟩ rfl (Nat.le_of_ble_eq_true rfl) dX9_drawn_21 ?_
    refine fw_if_eq (pc := 24) C (tgt := 49) dX9_drawn_24 (by decide) (fun c5 => ?_) (fun c5 => ?_)
    · have h := fw_ift h c5
      exact fw_sub [] rfl (c_Mod_drawn_b49 C ho h)
    · have h := fw_iff h c5
      refine fw_iload_n (pc := 27) C 2 dX9_drawn_27 rfl rfl ?_
      refine fw_i2l (pc := 28) C dX9_drawn_28 ?_
      refine fw_lconst (pc := 29) C (v := 1) dX9_drawn_29 fk_lconst_1 ?_
      refine fw_ldc2 (pc := 30) C (v := 999999) kX9_drawn_230 dX9_drawn_30 ?_
      obtain ⟨v6, hv6, h⟩ := fw_bind h
      refine fw_callS1 (pc := 33) C (rest := []) (c_Mod_in  hv6) (va_cwS 3 C.2.2.2.2.1 gX9_drawn_X9_in rfl rfl rfl hd_Mod_in.2 ⟨Nat.le_of_ble_eq_true rfl, Nat.le_of_ble_eq_true rfl⟩) rfl ⟨Nat.zero_le _, Nat.zero_le _⟩ rfl (Nat.le_of_ble_eq_true rfl) dX9_drawn_33 ?_
      refine fw_if_eq (pc := 36) C (tgt := 49) dX9_drawn_36 (by decide) (fun c7 => ?_) (fun c7 => ?_)
      · have h := fw_ift h c7
        exact fw_sub [] rfl (c_Mod_drawn_b49 C ho h)
      · have h := fw_iff h c7
        refine fw_iload_n (pc := 39) C 3 dX9_drawn_39 rfl rfl ?_
        refine fw_i2l (pc := 40) C dX9_drawn_40 ?_
        refine fw_lconst (pc := 41) C (v := 0) dX9_drawn_41 fk_lconst_0 ?_
        refine fw_lconst (pc := 42) C (v := 1) dX9_drawn_42 fk_lconst_1 ?_
        obtain ⟨v8, hv8, h⟩ := fw_bind h
        refine fw_callS1 (pc := 43) C (rest := []) (c_Mod_in  hv8) (va_cwS 3 C.2.2.2.2.1 gX9_drawn_X9_in rfl rfl rfl hd_Mod_in.2 ⟨Nat.le_of_ble_eq_true rfl, Nat.le_of_ble_eq_true rfl⟩) rfl ⟨Nat.zero_le _, Nat.zero_le _⟩ rfl (Nat.le_of_ble_eq_true rfl) dX9_drawn_43 ?_
        refine fw_if_ne (pc := 46) C (tgt := 52) dX9_drawn_46 (by decide) (fun c9 => ?_) (fun c9 => ?_)
        · have h := fw_iff h c9
          refine fw_aload_n (pc := 52) C 0 dX9_drawn_52 rfl rfl ?_
          obtain ⟨q10, hq10, h⟩ := fw_bind h
          refine fw_callV0 (pc := 53) C (rest := []) (c_Mod_layThen ho hq10) (cwV 0 C.2.2.2.2.1 gX9_drawn_X9_layThen rfl rfl rfl hd_Mod_layThen ⟨Nat.le_of_ble_eq_true rfl, Nat.le_of_ble_eq_true rfl⟩) ho.1 rfl rfl ⟨Nat.zero_le _, Nat.zero_le _⟩ rfl (Nat.le_of_ble_eq_true rfl) dX9_drawn_53 ?_
          refine fw_iload_n (pc := 56) C 2 dX9_drawn_56 rfl rfl ?_
          refine fw_i2l (pc := 57) C dX9_drawn_57 ?_
          have h := fw_plh h
          refine fw_lstore (pc := 58) C (L2 := [(0, .ref _), (1, .int _), (2, .int _), (3, .int _), (4, .long _)]) [1, 2, 3, 4, 0] dX9_drawn_58 (by decide) rfl ?_
          refine fw_iconst (pc := 60) C (v := 0) dX9_drawn_60 fk_iconst_0 ?_
          refine fw_istore (pc := 61) C (L2 := [(0, .ref _), (1, .int _), (2, .int _), (3, .int _), (4, .long _), (6, .int _)]) [1, 2, 3, 4, 5, 0] dX9_drawn_61 (by decide) rfl ?_
          refine fw_iconst (pc := 63) C (v := 0) dX9_drawn_63 fk_iconst_0 ?_
          refine fw_istore (pc := 64) C (L2 := [(0, .ref _), (1, .int _), (2, .int _), (3, .int _), (4, .long _), (6, .int _), (7, .int _)]) [1, 2, 3, 4, 5, 6, 0] dX9_drawn_64 (by decide) rfl ?_
          exact fw_sub [0, 1, 3, 4, 5, 6] rfl (c_Mod_drawn_h66 C ho _ _ _ _ _ _ _ h)
        · have h := fw_ift h c9
          exact fw_sub [] rfl (c_Mod_drawn_b49 C ho h)
  · have h := fw_ift h c3
    refine fw_ldc (pc := 12) C (v := -1000002) kX9_drawn_187 dX9_drawn_12 ?_
    exact fw_iret (pc := 14) C (fw_p1 h) (fw_p2 h) dX9_drawn_14
theorem c_Mod_drawn {l : Launch} {D : va_G} {cI cZ cH cR : ClassId} {N : Nat} {ad : Nat → Nat} {EE : fw_M → Nat → va_E} {o : Nat} {M : fw_M} {a0 : Int32} {a1 : Int32} {a2 : Int32} {z : (Int32 × fw_M)} (ho : o_Mod EE ad N cI cZ cH cR o) (h : P_Mod_drawn o M a0 a1 a2 = some z) : fw_Met l yX9_drawn wsX9_drawn rm_Mod_drawn D vwCl (fw_tys cI cZ cH cR) N ad fw_nw0 EE [.ref (ad o), .int a0, .int a1, .int a2] M (some (.int z.1)) z.2 := by
  unfold P_Mod_drawn at h
  exact fw_intro (cc := cX9_drawn) (maxL := 9) (ret := some .int) (own := RX9) (by decide) rfl rfl (Nat.le_of_ble_eq_true rfl) (fun p e s m args below meth c C => fw_sub [0, 1, 2, 3] rfl (c_Mod_drawn_b0 C ho h))
abbrev rm_Mod_image : Room := { frames := 1, cells := 0, slots := 0, locals := 25 }
theorem hd_Mod_image : yX9_image.cls = RX9 ∧ yX9_image.cls ≠ "java/lang/invoke/MethodHandle" ∧ yX9_image.cls ≠ "java/lang/invoke/VarHandle" ∧ (parseMethodDescriptor yX9_image.desc).map (fun d => d.parameters.length) = some 1 := by decide +kernel
theorem qX9_image_47 : fw_G wsX9_image RX9 47 RX9 TX9 24 0 := ⟨by decide +kernel, by decide +kernel, by decide⟩
theorem kX9_image_67 : Cond.constant RX9 67 (-1000001) ∈ wsX9_image := by decide +kernel
theorem kX9_image_187 : Cond.constant RX9 187 (-1000002) ∈ wsX9_image := by decide +kernel
theorem qX9_image_41 : fw_G wsX9_image RX9 41 RX9 TX9 24 21 := ⟨by decide +kernel, by decide +kernel, by decide⟩
theorem qX9_image_19 : fw_G wsX9_image RX9 19 RX9 TX9 24 5 := ⟨by decide +kernel, by decide +kernel, by decide⟩
theorem qX9_image_37 : fw_G wsX9_image RX9 37 RX9 TX9 24 20 := ⟨by decide +kernel, by decide +kernel, by decide⟩
def P_Mod_image_b30 (o : Nat) (K30 : fw_M → Int32 → Int32 → Option (Int32 × fw_M)) (M : fw_M) (x1 : Int32) (x2 : Int32) : Option (Int32 × fw_M) := (if (39 : Int32) ≤ x2 then (fw_ast M (o + 10) 2 x1 (vp_nar .boolean (1 : Int32))).bind fun M2 => some ((1 : Int32), M2) else (fw_ald M (o + 4) 39 x2).bind fun v3 => (fw_ast M (o + 11) 78 (((39 : Int32) * x1) + x2) v3).bind fun M4 => K30 M4 x1 (x2 + (1 : Int32)))
def P_Mod_image_h30 (o : Nat) : Nat → fw_M → Int32 → Int32 → Option (Int32 × fw_M)
  | 0, _, _, _ => none
  | n + 1, M, x1, x2 => P_Mod_image_b30 o (P_Mod_image_h30 o n) M x1 x2
def P_Mod_image_b0 (o : Nat) (M : fw_M) (x1 : Int32) : Option (Int32 × fw_M) := fw_pl (fw_set M o 0 (0 : Int32)) fun M1 => (P_Mod_in M1 (Int32.toInt64 x1) (0 : Int64) (1 : Int64)).bind fun v2 => (if v2 = (0 : Int32) then some ((-1000001 : Int32), M1) else (P_Mod_isThere o M1).bind fun v4 => (if v4 = (0 : Int32) then some ((-1000002 : Int32), M1) else P_Mod_image_h30 o fw_fu M1 x1 (0 : Int32)))
def P_Mod_image (o : Nat) (M : fw_M) (a0 : Int32) : Option (Int32 × fw_M) := P_Mod_image_b0 o M a0
set_option maxRecDepth 100000 in
theorem c_Mod_image_b30 {p : Program} {l : Launch} {e : Env} {s : State} {m : MethodId} {args : Array Value} {below : List Frame} {meth : Method} {c : Code} {D : va_G} {cI cZ cH cR : ClassId} {N : Nat} {ad : Nat → Nat} {EE : fw_M → Nat → va_E} {o : Nat} {K30 : fw_M → Int32 → Int32 → Option (Int32 × fw_M)} {M : fw_M} {x1 : Int32} {x2 : Int32} {z : (Int32 × fw_M)} (C : fw_C p s m args meth c cX9_image RX9 wsX9_image 3 (some .int) D vwCl (fw_tys cI cZ cH cR) N ad fw_nw0) (ho : o_Mod EE ad N cI cZ cH cR o) (hK30 : ∀ (Mk : fw_M) (kx1 : Int32) (kx2 : Int32), K30 Mk kx1 kx2 = some z → fw_J p l e (headSpec wsX9_image rm_Mod_image).room s m args below meth c D vwCl N ad EE 3 0 0 (fw_E below args s D vwCl N ad EE (some (.int z.1)) z.2) Mk [(0, .ref (ad o)), (1, .int kx1), (2, .int kx2)] 30 []) (h : P_Mod_image_b30 o K30 M x1 x2 = some z) : fw_J p l e (headSpec wsX9_image rm_Mod_image).room s m args below meth c D vwCl N ad EE 3 0 0 (fw_E below args s D vwCl N ad EE (some (.int z.1)) z.2) M [(0, .ref (ad o)), (1, .int x1), (2, .int x2)] 30 [] := by
  unfold P_Mod_image_b30 at h
  refine fw_iload_n (pc := 30) C 2 dX9_image_30 rfl rfl ?_
  refine fw_bipush (pc := 31) C (v := 39) dX9_image_31 fk_bipush_39 ?_
  refine fw_icmp_ge (pc := 33) C (tgt := 59) dX9_image_33 (by decide) (fun c1 => ?_) (fun c1 => ?_)
  · have h := fw_ift h c1
    refine fw_aload_n (pc := 59) C 0 dX9_image_59 rfl rfl ?_
    refine fw_getr (pc := 60) C ho.2.2.2.2.2.2.2.2.2.2.2.2.2.2.2.2.2.2.2.2.2.1.1 rfl qX9_image_37 dX9_image_60 ?_
    refine fw_iload_n (pc := 63) C 1 dX9_image_63 rfl rfl ?_
    refine fw_iconst (pc := 64) C (v := 1) dX9_image_64 fk_iconst_1 ?_
    obtain ⟨M2, hM2, h⟩ := fw_bind h
    refine fw_zast (pc := 65) C 1 ho.2.2.2.2.2.2.2.2.2.2.2.2.2.2.2.2.2.2.2.2.2.1.2 rfl hM2 dX9_image_65 ?_
    refine fw_iconst (pc := 66) C (v := 1) dX9_image_66 fk_iconst_1 ?_
    exact fw_iret (pc := 67) C (fw_p1 h) (fw_p2 h) dX9_image_67
  · have h := fw_iff h c1
    refine fw_aload_n (pc := 36) C 0 dX9_image_36 rfl rfl ?_
    refine fw_getr (pc := 37) C ho.2.2.2.2.2.2.2.2.2.2.2.2.2.2.2.2.2.2.2.2.2.2.1.1 rfl qX9_image_41 dX9_image_37 ?_
    refine fw_bipush (pc := 40) C (v := 39) dX9_image_40 fk_bipush_39 ?_
    refine fw_iload_n (pc := 42) C 1 dX9_image_42 rfl rfl ?_
    refine fw_imul (pc := 43) C dX9_image_43 ?_
    refine fw_iload_n (pc := 44) C 2 dX9_image_44 rfl rfl ?_
    refine fw_iadd (pc := 45) C dX9_image_45 ?_
    refine fw_aload_n (pc := 46) C 0 dX9_image_46 rfl rfl ?_
    refine fw_getr (pc := 47) C ho.2.2.2.2.2.2.1.1 rfl qX9_image_19 dX9_image_47 ?_
    refine fw_iload_n (pc := 50) C 2 dX9_image_50 rfl rfl ?_
    obtain ⟨v3, hv3, h⟩ := fw_bind h
    refine fw_iald (pc := 51) C 0 ho.2.2.2.2.2.2.1.2 rfl hv3 dX9_image_51 ?_
    obtain ⟨M4, hM4, h⟩ := fw_bind h
    refine fw_iast (pc := 52) C 0 ho.2.2.2.2.2.2.2.2.2.2.2.2.2.2.2.2.2.2.2.2.2.2.1.2 rfl hM4 dX9_image_52 ?_
    refine fw_iinc (pc := 53) C (v := 1) (L2 := [(0, .ref _), (1, .int _), (2, .int _)]) 2 [1, 2, 0] dX9_image_53 rfl fk_iconst_1 (by decide) rfl ?_
    refine fw_goto (pc := 56) C (tgt := 30) dX9_image_56 (by decide) ?_
    exact (hK30 _ _ _ h)
theorem c_Mod_image_h30 {p : Program} {l : Launch} {e : Env} {s : State} {m : MethodId} {args : Array Value} {below : List Frame} {meth : Method} {c : Code} {D : va_G} {cI cZ cH cR : ClassId} {N : Nat} {ad : Nat → Nat} {EE : fw_M → Nat → va_E} {o : Nat} {z : (Int32 × fw_M)} (C : fw_C p s m args meth c cX9_image RX9 wsX9_image 3 (some .int) D vwCl (fw_tys cI cZ cH cR) N ad fw_nw0) (ho : o_Mod EE ad N cI cZ cH cR o) : ∀ (n : Nat) (M : fw_M) (x1 : Int32) (x2 : Int32), P_Mod_image_h30 o n M x1 x2 = some z → fw_J p l e (headSpec wsX9_image rm_Mod_image).room s m args below meth c D vwCl N ad EE 3 0 0 (fw_E below args s D vwCl N ad EE (some (.int z.1)) z.2) M [(0, .ref (ad o)), (1, .int x1), (2, .int x2)] 30 [] := by
  intro n
  induction n with
  | zero => intro M x1 x2  h; cases h
  | succ n ih => intro M x1 x2  h; exact c_Mod_image_b30 C ho ih  h
set_option maxRecDepth 100000 in
theorem c_Mod_image_b0 {p : Program} {l : Launch} {e : Env} {s : State} {m : MethodId} {args : Array Value} {below : List Frame} {meth : Method} {c : Code} {D : va_G} {cI cZ cH cR : ClassId} {N : Nat} {ad : Nat → Nat} {EE : fw_M → Nat → va_E} {o : Nat} {M : fw_M} {x1 : Int32} {z : (Int32 × fw_M)} (C : fw_C p s m args meth c cX9_image RX9 wsX9_image 3 (some .int) D vwCl (fw_tys cI cZ cH cR) N ad fw_nw0) (ho : o_Mod EE ad N cI cZ cH cR o) (h : P_Mod_image_b0 o M x1 = some z) : fw_J p l e (headSpec wsX9_image rm_Mod_image).room s m args below meth c D vwCl N ad EE 3 0 0 (fw_E below args s D vwCl N ad EE (some (.int z.1)) z.2) M [(0, .ref (ad o)), (1, .int x1)] 0 [] := by
  unfold P_Mod_image_b0 at h
  refine fw_aload_n (pc := 0) C 0 dX9_image_0 rfl rfl ?_
  refine fw_iconst (pc := 1) C (v := 0) dX9_image_1 fk_iconst_0 ?_
  have h := fw_plh h
  refine fw_puti (pc := 2) C ho.2.1 rfl qX9_image_47 tyX9 tyX9_ok nmX9 rfl rfl dX9_image_2 ?_
  refine fw_iload_n (pc := 5) C 1 dX9_image_5 rfl rfl ?_
  refine fw_i2l (pc := 6) C dX9_image_6 ?_
  refine fw_lconst (pc := 7) C (v := 0) dX9_image_7 fk_lconst_0 ?_
  refine fw_lconst (pc := 8) C (v := 1) dX9_image_8 fk_lconst_1 ?_
  obtain ⟨v2, hv2, h⟩ := fw_bind h
  refine fw_callS1 (pc := 9) C (rest := []) (c_Mod_in  hv2) (va_cwS 3 C.2.2.2.2.1 gX9_image_X9_in rfl rfl rfl hd_Mod_in.2 ⟨Nat.le_of_ble_eq_true rfl, Nat.le_of_ble_eq_true rfl⟩) rfl ⟨Nat.zero_le _, Nat.zero_le _⟩ rfl (Nat.le_of_ble_eq_true rfl) dX9_image_9 ?_
  refine fw_if_ne (pc := 12) C (tgt := 18) dX9_image_12 (by decide) (fun c3 => ?_) (fun c3 => ?_)
  · have h := fw_iff h c3
    refine fw_aload_n (pc := 18) C 0 dX9_image_18 rfl rfl ?_
    obtain ⟨v4, hv4, h⟩ := fw_bind h
    refine fw_callV1 (pc := 19) C (rest := []) (c_Mod_isThere ho hv4) (cwV 0 C.2.2.2.2.1 gX9_image_X9_isThere rfl rfl rfl hd_Mod_isThere ⟨Nat.le_of_ble_eq_true rfl, Nat.le_of_ble_eq_true rfl⟩) ho.1 rfl rfl ⟨Nat.zero_le _, Nat.zero_le _⟩ rfl (Nat.le_of_ble_eq_true rfl) dX9_image_19 ?_
    refine fw_if_ne (pc := 22) C (tgt := 28) dX9_image_22 (by decide) (fun c5 => ?_) (fun c5 => ?_)
    · have h := fw_iff h c5
      refine fw_iconst (pc := 28) C (v := 0) dX9_image_28 fk_iconst_0 ?_
      refine fw_istore_n (pc := 29) C (L2 := [(0, .ref _), (1, .int _), (2, .int _)]) [1, 2, 0] dX9_image_29 rfl (by decide) rfl ?_
      exact (c_Mod_image_h30 C ho _ _ _ _ h)
    · have h := fw_ift h c5
      refine fw_ldc (pc := 25) C (v := -1000002) kX9_image_187 dX9_image_25 ?_
      exact fw_iret (pc := 27) C (fw_p1 h) (fw_p2 h) dX9_image_27
  · have h := fw_ift h c3
    refine fw_ldc (pc := 15) C (v := -1000001) kX9_image_67 dX9_image_15 ?_
    exact fw_iret (pc := 17) C (fw_p1 h) (fw_p2 h) dX9_image_17
theorem c_Mod_image {l : Launch} {D : va_G} {cI cZ cH cR : ClassId} {N : Nat} {ad : Nat → Nat} {EE : fw_M → Nat → va_E} {o : Nat} {M : fw_M} {a0 : Int32} {z : (Int32 × fw_M)} (ho : o_Mod EE ad N cI cZ cH cR o) (h : P_Mod_image o M a0 = some z) : fw_Met l yX9_image wsX9_image rm_Mod_image D vwCl (fw_tys cI cZ cH cR) N ad fw_nw0 EE [.ref (ad o), .int a0] M (some (.int z.1)) z.2 := by
  unfold P_Mod_image at h
  exact fw_intro (cc := cX9_image) (maxL := 3) (ret := some .int) (own := RX9) (by decide) rfl rfl (Nat.le_of_ble_eq_true rfl) (fun p e s m args below meth c C => fw_sub [0, 1] rfl (c_Mod_image_b0 C ho h))
abbrev rm_Mod_restore : Room := { frames := 1, cells := 0, slots := 0, locals := 25 }
theorem hd_Mod_restore : yX9_restore.cls = RX9 ∧ yX9_restore.cls ≠ "java/lang/invoke/MethodHandle" ∧ yX9_restore.cls ≠ "java/lang/invoke/VarHandle" ∧ (parseMethodDescriptor yX9_restore.desc).map (fun d => d.parameters.length) = some 1 := by decide +kernel
theorem qX9_restore_47 : fw_G wsX9_restore RX9 47 RX9 TX9 24 0 := ⟨by decide +kernel, by decide +kernel, by decide⟩
theorem kX9_restore_67 : Cond.constant RX9 67 (-1000001) ∈ wsX9_restore := by decide +kernel
theorem qX9_restore_37 : fw_G wsX9_restore RX9 37 RX9 TX9 24 20 := ⟨by decide +kernel, by decide +kernel, by decide⟩
theorem kX9_restore_187 : Cond.constant RX9 187 (-1000002) ∈ wsX9_restore := by decide +kernel
theorem qX9_restore_19 : fw_G wsX9_restore RX9 19 RX9 TX9 24 5 := ⟨by decide +kernel, by decide +kernel, by decide⟩
theorem qX9_restore_41 : fw_G wsX9_restore RX9 41 RX9 TX9 24 21 := ⟨by decide +kernel, by decide +kernel, by decide⟩
theorem qX9_restore_146 : fw_G wsX9_restore RX9 146 RX9 TX9 24 9 := ⟨by decide +kernel, by decide +kernel, by decide⟩
def P_Mod_restore_b32 (o : Nat) (K32 : fw_M → Int32 → Int32 → Option (Int32 × fw_M)) (M : fw_M) (x1 : Int32) (x2 : Int32) : Option (Int32 × fw_M) := (if (39 : Int32) ≤ x2 then fw_pl (fw_set M o 9 (0 : Int32)) fun M2 => some ((1 : Int32), M2) else (fw_ald M (o + 11) 78 (((39 : Int32) * x1) + x2)).bind fun v3 => (fw_ast M (o + 4) 39 x2 v3).bind fun M4 => K32 M4 x1 (x2 + (1 : Int32)))
def P_Mod_restore_h32 (o : Nat) : Nat → fw_M → Int32 → Int32 → Option (Int32 × fw_M)
  | 0, _, _, _ => none
  | n + 1, M, x1, x2 => P_Mod_restore_b32 o (P_Mod_restore_h32 o n) M x1 x2
def P_Mod_restore_b0 (o : Nat) (M : fw_M) (x1 : Int32) : Option (Int32 × fw_M) := fw_pl (fw_set M o 0 (0 : Int32)) fun M1 => (P_Mod_in M1 (Int32.toInt64 x1) (0 : Int64) (1 : Int64)).bind fun v2 => (if v2 = (0 : Int32) then some ((-1000001 : Int32), M1) else (fw_ald M1 (o + 10) 2 x1).bind fun v4 => (if v4 = (0 : Int32) then some ((-1000002 : Int32), M1) else P_Mod_restore_h32 o fw_fu M1 x1 (0 : Int32)))
def P_Mod_restore (o : Nat) (M : fw_M) (a0 : Int32) : Option (Int32 × fw_M) := P_Mod_restore_b0 o M a0
set_option maxRecDepth 100000 in
theorem c_Mod_restore_b32 {p : Program} {l : Launch} {e : Env} {s : State} {m : MethodId} {args : Array Value} {below : List Frame} {meth : Method} {c : Code} {D : va_G} {cI cZ cH cR : ClassId} {N : Nat} {ad : Nat → Nat} {EE : fw_M → Nat → va_E} {o : Nat} {K32 : fw_M → Int32 → Int32 → Option (Int32 × fw_M)} {M : fw_M} {x1 : Int32} {x2 : Int32} {z : (Int32 × fw_M)} (C : fw_C p s m args meth c cX9_restore RX9 wsX9_restore 3 (some .int) D vwCl (fw_tys cI cZ cH cR) N ad fw_nw0) (ho : o_Mod EE ad N cI cZ cH cR o) (hK32 : ∀ (Mk : fw_M) (kx1 : Int32) (kx2 : Int32), K32 Mk kx1 kx2 = some z → fw_J p l e (headSpec wsX9_restore rm_Mod_restore).room s m args below meth c D vwCl N ad EE 3 0 0 (fw_E below args s D vwCl N ad EE (some (.int z.1)) z.2) Mk [(0, .ref (ad o)), (1, .int kx1), (2, .int kx2)] 32 []) (h : P_Mod_restore_b32 o K32 M x1 x2 = some z) : fw_J p l e (headSpec wsX9_restore rm_Mod_restore).room s m args below meth c D vwCl N ad EE 3 0 0 (fw_E below args s D vwCl N ad EE (some (.int z.1)) z.2) M [(0, .ref (ad o)), (1, .int x1), (2, .int x2)] 32 [] := by
  unfold P_Mod_restore_b32 at h
  refine fw_iload_n (pc := 32) C 2 dX9_restore_32 rfl rfl ?_
  refine fw_bipush (pc := 33) C (v := 39) dX9_restore_33 fk_bipush_39 ?_
  refine fw_icmp_ge (pc := 35) C (tgt := 61) dX9_restore_35 (by decide) (fun c1 => ?_) (fun c1 => ?_)
  · have h := fw_ift h c1
    refine fw_aload_n (pc := 61) C 0 dX9_restore_61 rfl rfl ?_
    refine fw_iconst (pc := 62) C (v := 0) dX9_restore_62 fk_iconst_0 ?_
    have h := fw_plh h
    refine fw_puti (pc := 63) C ho.2.2.2.2.2.2.2.2.2.2.1 rfl qX9_restore_146 tyX9 tyX9_ok nmX9 rfl rfl dX9_restore_63 ?_
    refine fw_iconst (pc := 66) C (v := 1) dX9_restore_66 fk_iconst_1 ?_
    exact fw_iret (pc := 67) C (fw_p1 h) (fw_p2 h) dX9_restore_67
  · have h := fw_iff h c1
    refine fw_aload_n (pc := 38) C 0 dX9_restore_38 rfl rfl ?_
    refine fw_getr (pc := 39) C ho.2.2.2.2.2.2.1.1 rfl qX9_restore_19 dX9_restore_39 ?_
    refine fw_iload_n (pc := 42) C 2 dX9_restore_42 rfl rfl ?_
    refine fw_aload_n (pc := 43) C 0 dX9_restore_43 rfl rfl ?_
    refine fw_getr (pc := 44) C ho.2.2.2.2.2.2.2.2.2.2.2.2.2.2.2.2.2.2.2.2.2.2.1.1 rfl qX9_restore_41 dX9_restore_44 ?_
    refine fw_bipush (pc := 47) C (v := 39) dX9_restore_47 fk_bipush_39 ?_
    refine fw_iload_n (pc := 49) C 1 dX9_restore_49 rfl rfl ?_
    refine fw_imul (pc := 50) C dX9_restore_50 ?_
    refine fw_iload_n (pc := 51) C 2 dX9_restore_51 rfl rfl ?_
    refine fw_iadd (pc := 52) C dX9_restore_52 ?_
    obtain ⟨v3, hv3, h⟩ := fw_bind h
    refine fw_iald (pc := 53) C 0 ho.2.2.2.2.2.2.2.2.2.2.2.2.2.2.2.2.2.2.2.2.2.2.1.2 rfl hv3 dX9_restore_53 ?_
    obtain ⟨M4, hM4, h⟩ := fw_bind h
    refine fw_iast (pc := 54) C 0 ho.2.2.2.2.2.2.1.2 rfl hM4 dX9_restore_54 ?_
    refine fw_iinc (pc := 55) C (v := 1) (L2 := [(0, .ref _), (1, .int _), (2, .int _)]) 2 [1, 2, 0] dX9_restore_55 rfl fk_iconst_1 (by decide) rfl ?_
    refine fw_goto (pc := 58) C (tgt := 32) dX9_restore_58 (by decide) ?_
    exact (hK32 _ _ _ h)
theorem c_Mod_restore_h32 {p : Program} {l : Launch} {e : Env} {s : State} {m : MethodId} {args : Array Value} {below : List Frame} {meth : Method} {c : Code} {D : va_G} {cI cZ cH cR : ClassId} {N : Nat} {ad : Nat → Nat} {EE : fw_M → Nat → va_E} {o : Nat} {z : (Int32 × fw_M)} (C : fw_C p s m args meth c cX9_restore RX9 wsX9_restore 3 (some .int) D vwCl (fw_tys cI cZ cH cR) N ad fw_nw0) (ho : o_Mod EE ad N cI cZ cH cR o) : ∀ (n : Nat) (M : fw_M) (x1 : Int32) (x2 : Int32), P_Mod_restore_h32 o n M x1 x2 = some z → fw_J p l e (headSpec wsX9_restore rm_Mod_restore).room s m args below meth c D vwCl N ad EE 3 0 0 (fw_E below args s D vwCl N ad EE (some (.int z.1)) z.2) M [(0, .ref (ad o)), (1, .int x1), (2, .int x2)] 32 [] := by
  intro n
  induction n with
  | zero => intro M x1 x2  h; cases h
  | succ n ih => intro M x1 x2  h; exact c_Mod_restore_b32 C ho ih  h
set_option maxRecDepth 100000 in
theorem c_Mod_restore_b0 {p : Program} {l : Launch} {e : Env} {s : State} {m : MethodId} {args : Array Value} {below : List Frame} {meth : Method} {c : Code} {D : va_G} {cI cZ cH cR : ClassId} {N : Nat} {ad : Nat → Nat} {EE : fw_M → Nat → va_E} {o : Nat} {M : fw_M} {x1 : Int32} {z : (Int32 × fw_M)} (C : fw_C p s m args meth c cX9_restore RX9 wsX9_restore 3 (some .int) D vwCl (fw_tys cI cZ cH cR) N ad fw_nw0) (ho : o_Mod EE ad N cI cZ cH cR o) (h : P_Mod_restore_b0 o M x1 = some z) : fw_J p l e (headSpec wsX9_restore rm_Mod_restore).room s m args below meth c D vwCl N ad EE 3 0 0 (fw_E below args s D vwCl N ad EE (some (.int z.1)) z.2) M [(0, .ref (ad o)), (1, .int x1)] 0 [] := by
  unfold P_Mod_restore_b0 at h
  refine fw_aload_n (pc := 0) C 0 dX9_restore_0 rfl rfl ?_
  refine fw_iconst (pc := 1) C (v := 0) dX9_restore_1 fk_iconst_0 ?_
  have h := fw_plh h
  refine fw_puti (pc := 2) C ho.2.1 rfl qX9_restore_47 tyX9 tyX9_ok nmX9 rfl rfl dX9_restore_2 ?_
  refine fw_iload_n (pc := 5) C 1 dX9_restore_5 rfl rfl ?_
  refine fw_i2l (pc := 6) C dX9_restore_6 ?_
  refine fw_lconst (pc := 7) C (v := 0) dX9_restore_7 fk_lconst_0 ?_
  refine fw_lconst (pc := 8) C (v := 1) dX9_restore_8 fk_lconst_1 ?_
  obtain ⟨v2, hv2, h⟩ := fw_bind h
  refine fw_callS1 (pc := 9) C (rest := []) (c_Mod_in  hv2) (va_cwS 3 C.2.2.2.2.1 gX9_restore_X9_in rfl rfl rfl hd_Mod_in.2 ⟨Nat.le_of_ble_eq_true rfl, Nat.le_of_ble_eq_true rfl⟩) rfl ⟨Nat.zero_le _, Nat.zero_le _⟩ rfl (Nat.le_of_ble_eq_true rfl) dX9_restore_9 ?_
  refine fw_if_ne (pc := 12) C (tgt := 18) dX9_restore_12 (by decide) (fun c3 => ?_) (fun c3 => ?_)
  · have h := fw_iff h c3
    refine fw_aload_n (pc := 18) C 0 dX9_restore_18 rfl rfl ?_
    refine fw_getr (pc := 19) C ho.2.2.2.2.2.2.2.2.2.2.2.2.2.2.2.2.2.2.2.2.2.1.1 rfl qX9_restore_37 dX9_restore_19 ?_
    refine fw_iload_n (pc := 22) C 1 dX9_restore_22 rfl rfl ?_
    obtain ⟨v4, hv4, h⟩ := fw_bind h
    refine fw_zald (pc := 23) C 1 ho.2.2.2.2.2.2.2.2.2.2.2.2.2.2.2.2.2.2.2.2.2.1.2 rfl hv4 dX9_restore_23 ?_
    refine fw_if_ne (pc := 24) C (tgt := 30) dX9_restore_24 (by decide) (fun c5 => ?_) (fun c5 => ?_)
    · have h := fw_iff h c5
      refine fw_iconst (pc := 30) C (v := 0) dX9_restore_30 fk_iconst_0 ?_
      refine fw_istore_n (pc := 31) C (L2 := [(0, .ref _), (1, .int _), (2, .int _)]) [1, 2, 0] dX9_restore_31 rfl (by decide) rfl ?_
      exact (c_Mod_restore_h32 C ho _ _ _ _ h)
    · have h := fw_ift h c5
      refine fw_ldc (pc := 27) C (v := -1000002) kX9_restore_187 dX9_restore_27 ?_
      exact fw_iret (pc := 29) C (fw_p1 h) (fw_p2 h) dX9_restore_29
  · have h := fw_ift h c3
    refine fw_ldc (pc := 15) C (v := -1000001) kX9_restore_67 dX9_restore_15 ?_
    exact fw_iret (pc := 17) C (fw_p1 h) (fw_p2 h) dX9_restore_17
theorem c_Mod_restore {l : Launch} {D : va_G} {cI cZ cH cR : ClassId} {N : Nat} {ad : Nat → Nat} {EE : fw_M → Nat → va_E} {o : Nat} {M : fw_M} {a0 : Int32} {z : (Int32 × fw_M)} (ho : o_Mod EE ad N cI cZ cH cR o) (h : P_Mod_restore o M a0 = some z) : fw_Met l yX9_restore wsX9_restore rm_Mod_restore D vwCl (fw_tys cI cZ cH cR) N ad fw_nw0 EE [.ref (ad o), .int a0] M (some (.int z.1)) z.2 := by
  unfold P_Mod_restore at h
  exact fw_intro (cc := cX9_restore) (maxL := 3) (ret := some .int) (own := RX9) (by decide) rfl rfl (Nat.le_of_ble_eq_true rfl) (fun p e s m args below meth c C => fw_sub [0, 1] rfl (c_Mod_restore_b0 C ho h))
end
