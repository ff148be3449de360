noncomputable section
abbrev rm_Mod_isOf : Room := { frames := 0, cells := 0, slots := 0, locals := 0 }
theorem hd_Mod_isOf : yX9_isOf.cls = RX9 ∧ yX9_isOf.cls ≠ "java/lang/invoke/MethodHandle" ∧ yX9_isOf.cls ≠ "java/lang/invoke/VarHandle" ∧ (parseMethodDescriptor yX9_isOf.desc).map (fun d => d.parameters.length) = some 2 := by decide +kernel
def P_Mod_isOf_b34 (M : fw_M) (t0 : Int32) : Option Int32 := (fw_zr t0).bind fun v1 => some v1
def P_Mod_isOf_b29 (M : fw_M) : Option Int32 := P_Mod_isOf_b34 M (1 : Int32)
def P_Mod_isOf_b33 (M : fw_M) : Option Int32 := P_Mod_isOf_b34 M (0 : Int32)
def P_Mod_isOf_b19 (M : fw_M) (x0 : Int32) (x1 : Int32) : Option Int32 := (if x1 = (4 : Int32) then (if x0 = (5 : Int32) then P_Mod_isOf_b29 M else P_Mod_isOf_b33 M) else P_Mod_isOf_b33 M)
def P_Mod_isOf_b0 (M : fw_M) (x0 : Int32) (x1 : Int32) : Option Int32 := (if x1 = (0 : Int32) then P_Mod_isOf_b29 M else (if x0 = x1 then P_Mod_isOf_b29 M else (if x1 = (1 : Int32) then (if x0 < (4 : Int32) then P_Mod_isOf_b29 M else P_Mod_isOf_b19 M x0 x1) else P_Mod_isOf_b19 M x0 x1)))
def P_Mod_isOf (M : fw_M) (a0 : Int32) (a1 : Int32) : Option Int32 := P_Mod_isOf_b0 M a0 a1
set_option maxRecDepth 100000 in
theorem c_Mod_isOf_b34 {p : Program} {l : Launch} {e : Env} {s : State} {m : MethodId} {args : Array Value} {below : List Frame} {meth : Method} {c : Code} {D : va_G} {cI cZ cH cR : ClassId} {N : Nat} {ad : Nat → Nat} {EE : fw_M → Nat → va_E} {M : fw_M} {t0 : Int32} {z : Int32} (C : fw_C p s m args meth c cX9_isOf RX9 wsX9_isOf 2 (some .boolean) D vwCl (fw_tys cI cZ cH cR) N ad fw_nw0) (h : P_Mod_isOf_b34 M t0 = some z) : fw_J p l e (headSpec wsX9_isOf rm_Mod_isOf).room s m args below meth c D vwCl N ad EE 2 0 0 (fw_E below args s D vwCl N ad EE (some (.int z)) M) M [] 34 [.int t0] := by
  unfold P_Mod_isOf_b34 at h
  obtain ⟨v1, hv1, h⟩ := fw_bind h
  exact fw_zret (pc := 34) C (fw_zrh hv1).1 ((fw_zrh hv1).2.trans (Option.some.inj h)) rfl dX9_isOf_34
set_option maxRecDepth 100000 in
theorem c_Mod_isOf_b29 {p : Program} {l : Launch} {e : Env} {s : State} {m : MethodId} {args : Array Value} {below : List Frame} {meth : Method} {c : Code} {D : va_G} {cI cZ cH cR : ClassId} {N : Nat} {ad : Nat → Nat} {EE : fw_M → Nat → va_E} {M : fw_M} {z : Int32} (C : fw_C p s m args meth c cX9_isOf RX9 wsX9_isOf 2 (some .boolean) D vwCl (fw_tys cI cZ cH cR) N ad fw_nw0) (h : P_Mod_isOf_b29 M = some z) : fw_J p l e (headSpec wsX9_isOf rm_Mod_isOf).room s m args below meth c D vwCl N ad EE 2 0 0 (fw_E below args s D vwCl N ad EE (some (.int z)) M) M [] 29 [] := by
  unfold P_Mod_isOf_b29 at h
  refine fw_iconst (pc := 29) C (v := 1) dX9_isOf_29 fk_iconst_1 ?_
  refine fw_goto (pc := 30) C (tgt := 34) dX9_isOf_30 (by decide) ?_
  exact (c_Mod_isOf_b34 C  h)
set_option maxRecDepth 100000 in
theorem c_Mod_isOf_b33 {p : Program} {l : Launch} {e : Env} {s : State} {m : MethodId} {args : Array Value} {below : List Frame} {meth : Method} {c : Code} {D : va_G} {cI cZ cH cR : ClassId} {N : Nat} {ad : Nat → Nat} {EE : fw_M → Nat → va_E} {M : fw_M} {z : Int32} (C : fw_C p s m args meth c cX9_isOf RX9 wsX9_isOf 2 (some .boolean) D vwCl (fw_tys cI cZ cH cR) N ad fw_nw0) (h : P_Mod_isOf_b33 M = some z) : fw_J p l e (headSpec wsX9_isOf rm_Mod_isOf).room s m args below meth c D vwCl N ad EE 2 0 0 (fw_E below args s D vwCl N ad EE (some (.int z)) M) M [] 33 [] := by
  unfold P_Mod_isOf_b33 at h
  refine fw_iconst (pc := 33) C (v := 0) dX9_isOf_33 fk_iconst_0 ?_
  exact (c_Mod_isOf_b34 C  h)
set_option maxRecDepth 100000 in
theorem c_Mod_isOf_b19 {p : Program} {l : Launch} {e : Env} {s : State} {m : MethodId} {args : Array Value} {below : List Frame} {meth : Method} {c : Code} {D : va_G} {cI cZ cH cR : ClassId} {N : Nat} {ad : Nat → Nat} {EE : fw_M → Nat → va_E} {M : fw_M} {x0 : Int32} {x1 : Int32} {z : Int32} (C : fw_C p s m args meth c cX9_isOf RX9 wsX9_isOf 2 (some .boolean) D vwCl (fw_tys cI cZ cH cR) N ad fw_nw0) (h : P_Mod_isOf_b19 M x0 x1 = some z) : fw_J p l e (headSpec wsX9_isOf rm_Mod_isOf).room s m args below meth c D vwCl N ad EE 2 0 0 (fw_E below args s D vwCl N ad EE (some (.int z)) M) M [(0, .int x0), (1, .int x1)] 19 [] := by
  unfold P_Mod_isOf_b19 at h
  refine fw_iload_n (pc := 19) C 1 dX9_isOf_19 rfl rfl ?_
  refine fw_iconst (pc := 20) C (v := 4) dX9_isOf_20 fk_iconst_4 ?_
  refine fw_icmp_ne (pc := 21) C (tgt := 33) dX9_isOf_21 (by decide) (fun c1 => ?_) (fun c1 => ?_)
  · have h := fw_iff h c1
    exact fw_sub [] rfl (c_Mod_isOf_b33 C  h)
  · have h := fw_ift h c1
    refine fw_iload_n (pc := 24) C 0 dX9_isOf_24 rfl rfl ?_
    refine fw_iconst (pc := 25) C (v := 5) dX9_isOf_25 fk_iconst_5 ?_
    refine fw_icmp_ne (pc := 26) C (tgt := 33) dX9_isOf_26 (by decide) (fun c2 => ?_) (fun c2 => ?_)
    · have h := fw_iff h c2
      exact fw_sub [] rfl (c_Mod_isOf_b33 C  h)
    · have h := fw_ift h c2
      exact fw_sub [] rfl (c_Mod_isOf_b29 C  h)
set_option maxRecDepth 100000 in
theorem c_Mod_isOf_b0 {p : Program} {l : Launch} {e : Env} {s : State} {m : MethodId} {args : Array Value} {below : List Frame} {meth : Method} {c : Code} {D : va_G} {cI cZ cH cR : ClassId} {N : Nat} {ad : Nat → Nat} {EE : fw_M → Nat → va_E} {M : fw_M} {x0 : Int32} {x1 : Int32} {z : Int32} (C : fw_C p s m args meth c cX9_isOf RX9 wsX9_isOf 2 (some .boolean) D vwCl (fw_tys cI cZ cH cR) N ad fw_nw0) (h : P_Mod_isOf_b0 M x0 x1 = some z) : fw_J p l e (headSpec wsX9_isOf rm_Mod_isOf).room s m args below meth c D vwCl N ad EE 2 0 0 (fw_E below args s D vwCl N ad EE (some (.int z)) M) M [(0, .int x0), (1, .int x1)] 0 [] := by
  unfold P_Mod_isOf_b0 at h
  refine fw_iload_n (pc := 0) C 1 dX9_isOf_0 rfl rfl ?_
  refine fw_if_eq (pc := 1) C (tgt := 29) dX9_isOf_1 (by decide) (fun c1 => ?_) (fun c1 => ?_)
  · have h := fw_ift h c1
    exact fw_sub [] rfl (c_Mod_isOf_b29 C  h)
  · have h := fw_iff h c1
    refine fw_iload_n (pc := 4) C 0 dX9_isOf_4 rfl rfl ?_
    refine fw_iload_n (pc := 5) C 1 dX9_isOf_5 rfl rfl ?_
    refine fw_icmp_eq (pc := 6) C (tgt := 29) dX9_isOf_6 (by decide) (fun c2 => ?_) (fun c2 => ?_)
    · have h := fw_ift h c2
      exact fw_sub [] rfl (c_Mod_isOf_b29 C  h)
    · have h := fw_iff h c2
      refine fw_iload_n (pc := 9) C 1 dX9_isOf_9 rfl rfl ?_
      refine fw_iconst (pc := 10) C (v := 1) dX9_isOf_10 fk_iconst_1 ?_
      refine fw_icmp_ne (pc := 11) C (tgt := 19) dX9_isOf_11 (by decide) (fun c3 => ?_) (fun c3 => ?_)
      · have h := fw_iff h c3
        exact (c_Mod_isOf_b19 C  h)
      · have h := fw_ift h c3
        refine fw_iload_n (pc := 14) C 0 dX9_isOf_14 rfl rfl ?_
        refine fw_iconst (pc := 15) C (v := 4) dX9_isOf_15 fk_iconst_4 ?_
        refine fw_icmp_lt (pc := 16) C (tgt := 29) dX9_isOf_16 (by decide) (fun c4 => ?_) (fun c4 => ?_)
        · have h := fw_ift h c4
          exact fw_sub [] rfl (c_Mod_isOf_b29 C  h)
        · have h := fw_iff h c4
          exact (c_Mod_isOf_b19 C  h)
theorem c_Mod_isOf {l : Launch} {D : va_G} {cI cZ cH cR : ClassId} {N : Nat} {ad : Nat → Nat} {EE : fw_M → Nat → va_E} {M : fw_M} {a0 : Int32} {a1 : Int32} {z : Int32} (h : P_Mod_isOf M a0 a1 = some z) : fw_Met l yX9_isOf wsX9_isOf rm_Mod_isOf D vwCl (fw_tys cI cZ cH cR) N ad fw_nw0 EE [.int a0, .int a1] M (some (.int z)) M := by
  unfold P_Mod_isOf at h
  exact fw_intro (cc := cX9_isOf) (maxL := 2) (ret := some .boolean) (own := RX9) (by decide) rfl rfl (Nat.le_of_ble_eq_true rfl) (fun p e s m args below meth c C => fw_sub [0, 1] rfl (c_Mod_isOf_b0 C  h))
abbrev rm_Mod_kind : Room := { frames := 2, cells := 0, slots := 0, locals := 46 }
theorem hd_Mod_kind : yX9_kind.cls = RX9 ∧ yX9_kind.cls ≠ "java/lang/invoke/MethodHandle" ∧ yX9_kind.cls ≠ "java/lang/invoke/VarHandle" ∧ (parseMethodDescriptor yX9_kind.desc).map (fun d => d.parameters.length) = some 1 := by decide +kernel
theorem qX9_kind_47 : fw_G wsX9_kind RX9 47 RX9 TX9 24 0 := ⟨by decide +kernel, by decide +kernel, by decide⟩
theorem qX9_kind_19 : fw_G wsX9_kind RX9 19 RX9 TX9 24 5 := ⟨by decide +kernel, by decide +kernel, by decide⟩
theorem kX9_kind_67 : Cond.constant RX9 67 (-1000001) ∈ wsX9_kind := by decide +kernel
def P_Mod_kind_b27 (o : Nat) (M : fw_M) (t0 : Int32) : Option (Int32 × fw_M) := some (t0, M)
def P_Mod_kind_b0 (o : Nat) (M : fw_M) (x1 : Int32) : Option (Int32 × fw_M) := fw_pl (fw_set M o 0 (0 : Int32)) fun M1 => (P_Mod_isPerson o M1 x1).bind fun v2 => (if v2 = (0 : Int32) then P_Mod_kind_b27 o M1 (-1000001 : Int32) else (P_Mod_of (o + 4) M1 x1 (0 : Int32)).bind fun v4 => P_Mod_kind_b27 o M1 v4)
def P_Mod_kind (o : Nat) (M : fw_M) (a0 : Int32) : Option (Int32 × fw_M) := P_Mod_kind_b0 o M a0
set_option maxRecDepth 100000 in
theorem c_Mod_kind_b27 {p : Program} {l : Launch} {e : Env} {s : State} {m : MethodId} {args : Array Value} {below : List Frame} {meth : Method} {c : Code} {D : va_G} {cI cZ cH cR : ClassId} {N : Nat} {ad : Nat → Nat} {EE : fw_M → Nat → va_E} {o : Nat} {M : fw_M} {t0 : Int32} {z : (Int32 × fw_M)} (C : fw_C p s m args meth c cX9_kind RX9 wsX9_kind 2 (some .int) D vwCl (fw_tys cI cZ cH cR) N ad fw_nw0) (ho : o_Mod EE ad N cI cZ cH cR o) (h : P_Mod_kind_b27 o M t0 = some z) : fw_J p l e (headSpec wsX9_kind rm_Mod_kind).room s m args below meth c D vwCl N ad EE 2 0 0 (fw_E below args s D vwCl N ad EE (some (.int z.1)) z.2) M [] 27 [.int t0] := by
  unfold P_Mod_kind_b27 at h
  exact fw_iret (pc := 27) C (fw_p1 h) (fw_p2 h) dX9_kind_27
set_option maxRecDepth 100000 in
theorem c_Mod_kind_b0 {p : Program} {l : Launch} {e : Env} {s : State} {m : MethodId} {args : Array Value} {below : List Frame} {meth : Method} {c : Code} {D : va_G} {cI cZ cH cR : ClassId} {N : Nat} {ad : Nat → Nat} {EE : fw_M → Nat → va_E} {o : Nat} {M : fw_M} {x1 : Int32} {z : (Int32 × fw_M)} (C : fw_C p s m args meth c cX9_kind RX9 wsX9_kind 2 (some .int) D vwCl (fw_tys cI cZ cH cR) N ad fw_nw0) (ho : o_Mod EE ad N cI cZ cH cR o) (h : P_Mod_kind_b0 o M x1 = some z) : fw_J p l e (headSpec wsX9_kind rm_Mod_kind).room s m args below meth c D vwCl N ad EE 2 0 0 (fw_E below args s D vwCl N ad EE (some (.int z.1)) z.2) M [(0, .ref (ad o)), (1, .int x1)] 0 [] := by
  unfold P_Mod_kind_b0 at h
  refine fw_aload_n (pc := 0) C 0 dX9_kind_0 rfl rfl ?_
  refine fw_iconst (pc := 1) C (v := 0) dX9_kind_1 fk_iconst_0 ?_
  have h := fw_plh h
  refine fw_puti (pc := 2) C ho.2.1 rfl qX9_kind_47 tyX9 tyX9_ok nmX9 rfl rfl dX9_kind_2 ?_
  refine fw_aload_n (pc := 5) C 0 dX9_kind_5 rfl rfl ?_
  refine fw_iload_n (pc := 6) C 1 dX9_kind_6 rfl rfl ?_
  obtain ⟨v2, hv2, h⟩ := fw_bind h
  refine fw_callV1 (pc := 7) C (rest := []) (c_Mod_isPerson ho hv2) (cwV 1 C.2.2.2.2.1 gX9_kind_X9_isPerson rfl rfl rfl hd_Mod_isPerson ⟨Nat.le_of_ble_eq_true rfl, Nat.le_of_ble_eq_true rfl⟩) ho.1 rfl rfl ⟨Nat.zero_le _, Nat.zero_le _⟩ rfl (Nat.le_of_ble_eq_true rfl) dX9_kind_7 ?_
  refine fw_if_eq (pc := 10) C (tgt := 25) dX9_kind_10 (by decide) (fun c3 => ?_) (fun c3 => ?_)
  · have h := fw_ift h c3
    refine fw_ldc (pc := 25) C (v := -1000001) kX9_kind_67 dX9_kind_25 ?_
    exact fw_sub [] rfl (c_Mod_kind_b27 C ho h)
  · have h := fw_iff h c3
    refine fw_aload_n (pc := 13) C 0 dX9_kind_13 rfl rfl ?_
    refine fw_getr (pc := 14) C ho.2.2.2.2.2.2.1.1 rfl qX9_kind_19 dX9_kind_14 ?_
    refine fw_iload_n (pc := 17) C 1 dX9_kind_17 rfl rfl ?_
    refine fw_iconst (pc := 18) C (v := 0) dX9_kind_18 fk_iconst_0 ?_
    obtain ⟨v4, hv4, h⟩ := fw_bind h
    refine fw_callS1 (pc := 19) C (rest := []) (c_Mod_of ho.2.2.2.2.2.2.1.2 hv4) (va_cwS 3 C.2.2.2.2.1 gX9_kind_X9_of rfl rfl rfl hd_Mod_of.2 ⟨Nat.le_of_ble_eq_true rfl, Nat.le_of_ble_eq_true rfl⟩) rfl ⟨Nat.zero_le _, Nat.zero_le _⟩ rfl (Nat.le_of_ble_eq_true rfl) dX9_kind_19 ?_
    refine fw_goto (pc := 22) C (tgt := 27) dX9_kind_22 (by decide) ?_
    exact fw_sub [] rfl (c_Mod_kind_b27 C ho h)
theorem c_Mod_kind {l : Launch} {D : va_G} {cI cZ cH cR : ClassId} {N : Nat} {ad : Nat → Nat} {EE : fw_M → Nat → va_E} {o : Nat} {M : fw_M} {a0 : Int32} {z : (Int32 × fw_M)} (ho : o_Mod EE ad N cI cZ cH cR o) (h : P_Mod_kind o M a0 = some z) : fw_Met l yX9_kind wsX9_kind rm_Mod_kind D vwCl (fw_tys cI cZ cH cR) N ad fw_nw0 EE [.ref (ad o), .int a0] M (some (.int z.1)) z.2 := by
  unfold P_Mod_kind at h
  exact fw_intro (cc := cX9_kind) (maxL := 2) (ret := some .int) (own := RX9) (by decide) rfl rfl (Nat.le_of_ble_eq_true rfl) (fun p e s m args below meth c C => fw_sub [0, 1] rfl (c_Mod_kind_b0 C ho h))
abbrev rm_Mod_as : Room := { frames := 2, cells := 0, slots := 0, locals := 46 }
theorem hd_Mod_as : yX9_as.cls = RX9 ∧ yX9_as.cls ≠ "java/lang/invoke/MethodHandle" ∧ yX9_as.cls ≠ "java/lang/invoke/VarHandle" ∧ (parseMethodDescriptor yX9_as.desc).map (fun d => d.parameters.length) = some 2 := by decide +kernel
theorem qX9_as_47 : fw_G wsX9_as RX9 47 RX9 TX9 24 0 := ⟨by decide +kernel, by decide +kernel, by decide⟩
theorem kX9_as_236 : Cond.constantLong RX9 236 (5) ∈ wsX9_as := by decide +kernel
theorem qX9_as_51 : fw_G wsX9_as RX9 51 RX9 TX9 24 1 := ⟨by decide +kernel, by decide +kernel, by decide⟩
theorem qX9_as_19 : fw_G wsX9_as RX9 19 RX9 TX9 24 5 := ⟨by decide +kernel, by decide +kernel, by decide⟩
theorem kX9_as_67 : Cond.constant RX9 67 (-1000001) ∈ wsX9_as := by decide +kernel
def P_Mod_as_b25 (o : Nat) (M : fw_M) : Option (Int32 × fw_M) := some ((-1000001 : Int32), M)
def P_Mod_as_b58 (o : Nat) (M : fw_M) (t0 : Int32) : Option (Int32 × fw_M) := some (t0, M)
def P_Mod_as_b0 (o : Nat) (M : fw_M) (x1 : Int32) (x2 : Int32) : Option (Int32 × fw_M) := fw_pl (fw_set M o 0 (0 : Int32)) fun M1 => (P_Mod_isPerson o M1 x1).bind fun v2 => (if v2 = (0 : Int32) then P_Mod_as_b25 o M1 else (P_Mod_in M1 (Int32.toInt64 x2) (0 : Int64) (5 : Int64)).bind fun v4 => (if v4 = (0 : Int32) then P_Mod_as_b25 o M1 else fw_pl (fw_set M1 o 1 (0 : Int32)) fun M6 => (P_Mod_of (o + 4) M6 x1 (0 : Int32)).bind fun v7 => (P_Mod_isOf M6 v7 x2).bind fun v8 => (if v8 = (0 : Int32) then (P_Mod_finding o M6 (3 : Int32)).bind fun q10 => P_Mod_as_b58 o q10.2 q10.1 else P_Mod_as_b58 o M6 x1)))
def P_Mod_as (o : Nat) (M : fw_M) (a0 : Int32) (a1 : Int32) : Option (Int32 × fw_M) := P_Mod_as_b0 o M a0 a1
set_option maxRecDepth 100000 in
theorem c_Mod_as_b25 {p : Program} {l : Launch} {e : Env} {s : State} {m : MethodId} {args : Array Value} {below : List Frame} {meth : Method} {c : Code} {D : va_G} {cI cZ cH cR : ClassId} {N : Nat} {ad : Nat → Nat} {EE : fw_M → Nat → va_E} {o : Nat} {M : fw_M} {z : (Int32 × fw_M)} (C : fw_C p s m args meth c cX9_as RX9 wsX9_as 3 (some .int) D vwCl (fw_tys cI cZ cH cR) N ad fw_nw0) (ho : o_Mod EE ad N cI cZ cH cR o) (h : P_Mod_as_b25 o M = some z) : fw_J p l e (headSpec wsX9_as rm_Mod_as).room s m args below meth c D vwCl N ad EE 3 0 0 (fw_E below args s D vwCl N ad EE (some (.int z.1)) z.2) M [] 25 [] := by
  unfold P_Mod_as_b25 at h
  refine fw_ldc (pc := 25) C (v := -1000001) kX9_as_67 dX9_as_25 ?_
  exact fw_iret (pc := 27) C (fw_p1 h) (fw_p2 h) dX9_as_27
set_option maxRecDepth 100000 in
theorem c_Mod_as_b58 {p : Program} {l : Launch} {e : Env} {s : State} {m : MethodId} {args : Array Value} {below : List Frame} {meth : Method} {c : Code} {D : va_G} {cI cZ cH cR : ClassId} {N : Nat} {ad : Nat → Nat} {EE : fw_M → Nat → va_E} {o : Nat} {M : fw_M} {t0 : Int32} {z : (Int32 × fw_M)} (C : fw_C p s m args meth c cX9_as RX9 wsX9_as 3 (some .int) D vwCl (fw_tys cI cZ cH cR) N ad fw_nw0) (ho : o_Mod EE ad N cI cZ cH cR o) (h : P_Mod_as_b58 o M t0 = some z) : fw_J p l e (headSpec wsX9_as rm_Mod_as).room s m args below meth c D vwCl N ad EE 3 0 0 (fw_E below args s D vwCl N ad EE (some (.int z.1)) z.2) M [] 58 [.int t0] := by
  unfold P_Mod_as_b58 at h
  exact fw_iret (pc := 58) C (fw_p1 h) (fw_p2 h) dX9_as_58
set_option maxRecDepth 100000 in
theorem c_Mod_as_b0 {p : Program} {l : Launch} {e : Env} {s : State} {m : MethodId} {args : Array Value} {below : List Frame} {meth : Method} {c : Code} {D : va_G} {cI cZ cH cR : ClassId} {N : Nat} {ad : Nat → Nat} {EE : fw_M → Nat → va_E} {o : Nat} {M : fw_M} {x1 : Int32} {x2 : Int32} {z : (Int32 × fw_M)} (C : fw_C p s m args meth c cX9_as RX9 wsX9_as 3 (some .int) D vwCl (fw_tys cI cZ cH cR) N ad fw_nw0) (ho : o_Mod EE ad N cI cZ cH cR o) (h : P_Mod_as_b0 o M x1 x2 = some z) : fw_J p l e (headSpec wsX9_as rm_Mod_as).room s m args below meth c D vwCl N ad EE 3 0 0 (fw_E below args s D vwCl N ad EE (some (.int z.1)) z.2) M [(0, .ref (ad o)), (1, .int x1), (2, .int x2)] 0 [] := by
  unfold P_Mod_as_b0 at h
  refine fw_aload_n (pc := 0) C 0 dX9_as_0 rfl rfl ?_
  refine fw_iconst (pc := 1) C (v := 0) dX9_as_1 fk_iconst_0 ?_
  have h := fw_plh h
  refine fw_puti (pc := 2) C ho.2.1 rfl qX9_as_47 tyX9 tyX9_ok nmX9 rfl rfl dX9_as_2 ?_
  refine fw_aload_n (pc := 5) C 0 dX9_as_5 rfl rfl ?_
  refine fw_iload_n (pc := 6) C 1 dX9_as_6 rfl rfl ?_
  obtain ⟨v2, hv2, h⟩ := fw_bind h
  refine fw_callV1 (pc := 7) C (rest := []) (c_Mod_isPerson ho hv2) (cwV 1 C.2.2.2.2.1 gX9_as_X9_isPerson rfl rfl rfl hd_Mod_isPerson ⟨Nat.le_of_ble_eq_true rfl, Nat.le_of_ble_eq_true rfl⟩) ho.1 rfl rfl ⟨Nat.zero_le _, Nat.zero_le _⟩ rfl (Nat.le_of_ble_eq_true rfl) dX9_as_7 ?_
  refine fw_if_eq (pc := 10) C (tgt := 25) dX9_as_10 (by decide) (fun c3 => ?_) (fun c3 => ?_)
  · have h := fw_ift h c3
    exact fw_sub [] rfl (c_Mod_as_b25 C ho h)
  · have h := fw_iff h c3
    refine fw_iload_n (pc := 13) C 2 dX9_as_13 rfl rfl ?_
    refine fw_i2l (pc := 14) C dX9_as_14 ?_
    refine fw_lconst (pc := 15) C (v := 0) dX9_as_15 fk_lconst_0 ?_
    refine fw_ldc2 (pc := 16) C (v := 5) kX9_as_236 dX9_as_16 ?_
    obtain ⟨v4, hv4, h⟩ := fw_bind h
    refine fw_callS1 (pc := 19) C (rest := []) (c_Mod_in  hv4) (va_cwS 3 C.2.2.2.2.1 gX9_as_X9_in rfl rfl rfl hd_Mod_in.2 ⟨Nat.le_of_ble_eq_true rfl, Nat.le_of_ble_eq_true rfl⟩) rfl ⟨Nat.zero_le _, Nat.zero_le _⟩ rfl (Nat.le_of_ble_eq_true rfl) dX9_as_19 ?_
    refine fw_if_ne (pc := 22) C (tgt := 28) dX9_as_22 (by decide) (fun c5 => ?_) (fun c5 => ?_)
    · have h := fw_iff h c5
      refine fw_aload_n (pc := 28) C 0 dX9_as_28 rfl rfl ?_
      refine fw_iconst (pc := 29) C (v := 0) dX9_as_29 fk_iconst_0 ?_
      have h := fw_plh h
      refine fw_puti (pc := 30) C ho.2.2.1 rfl qX9_as_51 tyX9 tyX9_ok nmX9 rfl rfl dX9_as_30 ?_
      refine fw_aload_n (pc := 33) C 0 dX9_as_33 rfl rfl ?_
      refine fw_getr (pc := 34) C ho.2.2.2.2.2.2.1.1 rfl qX9_as_19 dX9_as_34 ?_
      refine fw_iload_n (pc := 37) C 1 dX9_as_37 rfl rfl ?_
      refine fw_iconst (pc := 38) C (v := 0) dX9_as_38 fk_iconst_0 ?_
      obtain ⟨v7, hv7, h⟩ := fw_bind h
      refine fw_callS1 (pc := 39) C (rest := []) (c_Mod_of ho.2.2.2.2.2.2.1.2 hv7) (va_cwS 3 C.2.2.2.2.1 gX9_as_X9_of rfl rfl rfl hd_Mod_of.2 ⟨Nat.le_of_ble_eq_true rfl, Nat.le_of_ble_eq_true rfl⟩) rfl ⟨Nat.zero_le _, Nat.zero_le _⟩ rfl (Nat.le_of_ble_eq_true rfl) dX9_as_39 ?_
      refine fw_iload_n (pc := 42) C 2 dX9_as_42 rfl rfl ?_
      obtain ⟨v8, hv8, h⟩ := fw_bind h
      refine fw_callS1 (pc := 43) C (rest := []) (c_Mod_isOf  hv8) (va_cwS 2 C.2.2.2.2.1 gX9_as_X9_isOf rfl rfl rfl hd_Mod_isOf.2 ⟨Nat.le_of_ble_eq_true rfl, Nat.le_of_ble_eq_true rfl⟩) rfl ⟨Nat.zero_le _, Nat.zero_le _⟩ rfl (Nat.le_of_ble_eq_true rfl) dX9_as_43 ?_
      refine fw_if_eq (pc := 46) C (tgt := 53) dX9_as_46 (by decide) (fun c9 => ?_) (fun c9 => ?_)
      · have h := fw_ift h c9
        refine fw_aload_n (pc := 53) C 0 dX9_as_53 rfl rfl ?_
        refine fw_iconst (pc := 54) C (v := 3) dX9_as_54 fk_iconst_3 ?_
        obtain ⟨q10, hq10, h⟩ := fw_bind h
        refine fw_callV1 (pc := 55) C (rest := []) (c_Mod_finding ho hq10) (cwV 1 C.2.2.2.2.1 gX9_as_X9_finding rfl rfl rfl hd_Mod_finding ⟨Nat.le_of_ble_eq_true rfl, Nat.le_of_ble_eq_true rfl⟩) ho.1 rfl rfl ⟨Nat.zero_le _, Nat.zero_le _⟩ rfl (Nat.le_of_ble_eq_true rfl) dX9_as_55 ?_
        exact fw_sub [] rfl (c_Mod_as_b58 C ho h)
      · have h := fw_iff h c9
        refine fw_iload_n (pc := 49) C 1 dX9_as_49 rfl rfl ?_
        refine fw_goto (pc := 50) C (tgt := 58) dX9_as_50 (by decide) ?_
        exact fw_sub [] rfl (c_Mod_as_b58 C ho h)
    · have h := fw_ift h c5
      exact fw_sub [] rfl (c_Mod_as_b25 C ho h)
theorem c_Mod_as {l : Launch} {D : va_G} {cI cZ cH cR : ClassId} {N : Nat} {ad : Nat → Nat} {EE : fw_M → Nat → va_E} {o : Nat} {M : fw_M} {a0 : Int32} {a1 : Int32} {z : (Int32 × fw_M)} (ho : o_Mod EE ad N cI cZ cH cR o) (h : P_Mod_as o M a0 a1 = some z) : fw_Met l yX9_as wsX9_as rm_Mod_as D vwCl (fw_tys cI cZ cH cR) N ad fw_nw0 EE [.ref (ad o), .int a0, .int a1] M (some (.int z.1)) z.2 := by
  unfold P_Mod_as at h
  exact fw_intro (cc := cX9_as) (maxL := 3) (ret := some .int) (own := RX9) (by decide) rfl rfl (Nat.le_of_ble_eq_true rfl) (fun p e s m args below meth c C => fw_sub [0, 1, 2] rfl (c_Mod_as_b0 C ho h))
abbrev rm_Mod_began : Room := { frames := 0, cells := 0, slots := 0, locals := 0 }
theorem hd_Mod_began : yX9_began.cls = RX9 ∧ yX9_began.cls ≠ "java/lang/invoke/MethodHandle" ∧ yX9_began.cls ≠ "java/lang/invoke/VarHandle" ∧ (parseMethodDescriptor yX9_began.desc).map (fun d => d.parameters.length) = some 1 := by decide +kernel
theorem qX9_began_242 : fw_G wsX9_began RX9 242 RX9 TX9 24 23 := ⟨by decide +kernel, by decide +kernel, by decide⟩
theorem qX9_began_44 : fw_G wsX9_began RX9 44 RX9 TX9 24 22 := ⟨by decide +kernel, by decide +kernel, by decide⟩
def P_Mod_began_b29 (o : Nat) (M : fw_M) : Option fw_M := some M
def P_Mod_began_b0 (o : Nat) (M : fw_M) (x1 : Int32) : Option fw_M := (if (16 : Int32) ≤ (M o 23) then P_Mod_began_b29 o M else (fw_ast M (o + 12) 16 (M o 23) x1).bind fun M2 => fw_pl (fw_set M2 o 23 ((M2 o 23) + (1 : Int32))) fun M3 => P_Mod_began_b29 o M3)
def P_Mod_began (o : Nat) (M : fw_M) (a0 : Int32) : Option fw_M := P_Mod_began_b0 o M a0
set_option maxRecDepth 100000 in
theorem c_Mod_began_b29 {p : Program} {l : Launch} {e : Env} {s : State} {m : MethodId} {args : Array Value} {below : List Frame} {meth : Method} {c : Code} {D : va_G} {cI cZ cH cR : ClassId} {N : Nat} {ad : Nat → Nat} {EE : fw_M → Nat → va_E} {o : Nat} {M : fw_M} {z : fw_M} (C : fw_C p s m args meth c cX9_began RX9 wsX9_began 2 (none) D vwCl (fw_tys cI cZ cH cR) N ad fw_nw0) (ho : o_Mod EE ad N cI cZ cH cR o) (h : P_Mod_began_b29 o M = some z) : fw_J p l e (headSpec wsX9_began rm_Mod_began).room s m args below meth c D vwCl N ad EE 2 0 0 (fw_E below args s D vwCl N ad EE none z) M [] 29 [] := by
  unfold P_Mod_began_b29 at h
  exact fw_vret (pc := 29) C (Option.some.inj h) dX9_began_29
set_option maxRecDepth 100000 in
theorem c_Mod_began_b0 {p : Program} {l : Launch} {e : Env} {s : State} {m : MethodId} {args : Array Value} {below : List Frame} {meth : Method} {c : Code} {D : va_G} {cI cZ cH cR : ClassId} {N : Nat} {ad : Nat → Nat} {EE : fw_M → Nat → va_E} {o : Nat} {M : fw_M} {x1 : Int32} {z : fw_M} (C : fw_C p s m args meth c cX9_began RX9 wsX9_began 2 (none) D vwCl (fw_tys cI cZ cH cR) N ad fw_nw0) (ho : o_Mod EE ad N cI cZ cH cR o) (h : P_Mod_began_b0 o M x1 = some z) : fw_J p l e (headSpec wsX9_began rm_Mod_began).room s m args below meth c D vwCl N ad EE 2 0 0 (fw_E below args s D vwCl N ad EE none z) M [(0, .ref (ad o)), (1, .int x1)] 0 [] := by
  unfold P_Mod_began_b0 at h
  refine fw_aload_n (pc := 0) C 0 dX9_began_0 rfl rfl ?_
  refine fw_geti (pc := 1) C ho.2.2.2.2.2.2.2.2.2.2.2.2.2.2.2.2.2.2.2.2.2.2.2.2 rfl qX9_began_242 dX9_began_1 ?_
  refine fw_bipush (pc := 4) C (v := 16) dX9_began_4 fk_bipush_16 ?_
  refine fw_icmp_ge (pc := 6) C (tgt := 29) dX9_began_6 (by decide) (fun c1 => ?_) (fun c1 => ?_)
  · have h := fw_ift h c1
    exact fw_sub [] rfl (c_Mod_began_b29 C ho h)
  · have h := fw_iff h c1
    refine fw_aload_n (pc := 9) C 0 dX9_began_9 rfl rfl ?_
    refine fw_getr (pc := 10) C ho.2.2.2.2.2.2.2.2.2.2.2.2.2.2.2.2.2.2.2.2.2.2.2.1.1 rfl qX9_began_44 dX9_began_10 ?_
    refine fw_aload_n (pc := 13) C 0 dX9_began_13 rfl rfl ?_
    refine fw_geti (pc := 14) C ho.2.2.2.2.2.2.2.2.2.2.2.2.2.2.2.2.2.2.2.2.2.2.2.2 rfl qX9_began_242 dX9_began_14 ?_
    refine fw_iload_n (pc := 17) C 1 dX9_began_17 rfl rfl ?_
    obtain ⟨M2, hM2, h⟩ := fw_bind h
    refine fw_iast (pc := 18) C 0 ho.2.2.2.2.2.2.2.2.2.2.2.2.2.2.2.2.2.2.2.2.2.2.2.1.2 rfl hM2 dX9_began_18 ?_
    refine fw_aload_n (pc := 19) C 0 dX9_began_19 rfl rfl ?_
    refine fw_dup (pc := 20) C dX9_began_20 rfl ?_
    refine fw_geti (pc := 21) C ho.2.2.2.2.2.2.2.2.2.2.2.2.2.2.2.2.2.2.2.2.2.2.2.2 rfl qX9_began_242 dX9_began_21 ?_
    refine fw_iconst (pc := 24) C (v := 1) dX9_began_24 fk_iconst_1 ?_
    refine fw_iadd (pc := 25) C dX9_began_25 ?_
    have h := fw_plh h
    refine fw_puti (pc := 26) C ho.2.2.2.2.2.2.2.2.2.2.2.2.2.2.2.2.2.2.2.2.2.2.2.2 rfl qX9_began_242 tyX9 tyX9_ok nmX9 rfl rfl dX9_began_26 ?_
    exact fw_sub [] rfl (c_Mod_began_b29 C ho h)
theorem c_Mod_began {l : Launch} {D : va_G} {cI cZ cH cR : ClassId} {N : Nat} {ad : Nat → Nat} {EE : fw_M → Nat → va_E} {o : Nat} {M : fw_M} {a0 : Int32} {z : fw_M} (ho : o_Mod EE ad N cI cZ cH cR o) (h : P_Mod_began o M a0 = some z) : fw_Met l yX9_began wsX9_began rm_Mod_began D vwCl (fw_tys cI cZ cH cR) N ad fw_nw0 EE [.ref (ad o), .int a0] M none z := by
  unfold P_Mod_began at h
  exact fw_intro (cc := cX9_began) (maxL := 2) (ret := none) (own := RX9) (by decide) rfl rfl (Nat.le_of_ble_eq_true rfl) (fun p e s m args below meth c C => fw_sub [0, 1] rfl (c_Mod_began_b0 C ho h))
abbrev rm_Mod_plainSize : Room := { frames := 1, cells := 0, slots := 0, locals := 22 }
theorem hd_Mod_plainSize : yX9_plainSize.cls = RX9 ∧ yX9_plainSize.cls ≠ "java/lang/invoke/MethodHandle" ∧ yX9_plainSize.cls ≠ "java/lang/invoke/VarHandle" ∧ (parseMethodDescriptor yX9_plainSize.desc).map (fun d => d.parameters.length) = some 1 := by decide +kernel
theorem qX9_plainSize_19 : fw_G wsX9_plainSize RX9 19 RX9 TX9 24 5 := ⟨by decide +kernel, by decide +kernel, by decide⟩
def P_Mod_plainSize_b0 (o : Nat) (M : fw_M) (x1 : Int32) : Option (Int32 × fw_M) := (P_Mod_began o M (10 : Int32)).bind fun q1 => (P_Mod_of (o + 4) q1 x1 (1 : Int32)).bind fun v2 => some (v2, q1)
def P_Mod_plainSize (o : Nat) (M : fw_M) (a0 : Int32) : Option (Int32 × fw_M) := P_Mod_plainSize_b0 o M a0
set_option maxRecDepth 100000 in
theorem c_Mod_plainSize_b0 {p : Program} {l : Launch} {e : Env} {s : State} {m : MethodId} {args : Array Value} {below : List Frame} {meth : Method} {c : Code} {D : va_G} {cI cZ cH cR : ClassId} {N : Nat} {ad : Nat → Nat} {EE : fw_M → Nat → va_E} {o : Nat} {M : fw_M} {x1 : Int32} {z : (Int32 × fw_M)} (C : fw_C p s m args meth c cX9_plainSize RX9 wsX9_plainSize 2 (some .int) D vwCl (fw_tys cI cZ cH cR) N ad fw_nw0) (ho : o_Mod EE ad N cI cZ cH cR o) (h : P_Mod_plainSize_b0 o M x1 = some z) : fw_J p l e (headSpec wsX9_plainSize rm_Mod_plainSize).room s m args below meth c D vwCl N ad EE 2 0 0 (fw_E below args s D vwCl N ad EE (some (.int z.1)) z.2) M [(0, .ref (ad o)), (1, .int x1)] 0 [] := by
  unfold P_Mod_plainSize_b0 at h
  refine fw_aload_n (pc := 0) C 0 dX9_plainSize_0 rfl rfl ?_
  refine fw_bipush (pc := 1) C (v := 10) dX9_plainSize_1 fk_bipush_10 ?_
  obtain ⟨q1, hq1, h⟩ := fw_bind h
  refine fw_callV0 (pc := 3) C (rest := []) (c_Mod_began ho hq1) (cwV 1 C.2.2.2.2.1 gX9_plainSize_X9_began rfl rfl rfl hd_Mod_began ⟨Nat.le_of_ble_eq_true rfl, Nat.le_of_ble_eq_true rfl⟩) ho.1 rfl rfl ⟨Nat.zero_le _, Nat.zero_le _⟩ rfl (Nat.le_of_ble_eq_true rfl) dX9_plainSize_3 ?_
  refine fw_aload_n (pc := 6) C 0 dX9_plainSize_6 rfl rfl ?_
  refine fw_getr (pc := 7) C ho.2.2.2.2.2.2.1.1 rfl qX9_plainSize_19 dX9_plainSize_7 ?_
  refine fw_iload_n (pc := 10) C 1 dX9_plainSize_10 rfl rfl ?_
  refine fw_iconst (pc := 11) C (v := 1) dX9_plainSize_11 fk_iconst_1 ?_
  obtain ⟨v2, hv2, h⟩ := fw_bind h
  refine fw_callS1 (pc := 12) C (rest := []) (c_Mod_of ho.2.2.2.2.2.2.1.2 hv2) (va_cwS 3 C.2.2.2.2.1 gX9_plainSize_X9_of rfl rfl rfl hd_Mod_of.2 ⟨Nat.le_of_ble_eq_true rfl, Nat.le_of_ble_eq_true rfl⟩) rfl ⟨Nat.zero_le _, Nat.zero_le _⟩ rfl (Nat.le_of_ble_eq_true rfl) dX9_plainSize_12 ?_
  exact fw_iret (pc := 15) C (fw_p1 h) (fw_p2 h) dX9_plainSize_15
theorem c_Mod_plainSize {l : Launch} {D : va_G} {cI cZ cH cR : ClassId} {N : Nat} {ad : Nat → Nat} {EE : fw_M → Nat → va_E} {o : Nat} {M : fw_M} {a0 : Int32} {z : (Int32 × fw_M)} (ho : o_Mod EE ad N cI cZ cH cR o) (h : P_Mod_plainSize o M a0 = some z) : fw_Met l yX9_plainSize wsX9_plainSize rm_Mod_plainSize D vwCl (fw_tys cI cZ cH cR) N ad fw_nw0 EE [.ref (ad o), .int a0] M (some (.int z.1)) z.2 := by
  unfold P_Mod_plainSize at h
  exact fw_intro (cc := cX9_plainSize) (maxL := 2) (ret := some .int) (own := RX9) (by decide) rfl rfl (Nat.le_of_ble_eq_true rfl) (fun p e s m args below meth c C => fw_sub [0, 1] rfl (c_Mod_plainSize_b0 C ho h))
abbrev rm_Mod_guestSize : Room := { frames := 2, cells := 0, slots := 0, locals := 43 }
theorem hd_Mod_guestSize : yX9_guestSize.cls = RX9 ∧ yX9_guestSize.cls ≠ "java/lang/invoke/MethodHandle" ∧ yX9_guestSize.cls ≠ "java/lang/invoke/VarHandle" ∧ (parseMethodDescriptor yX9_guestSize.desc).map (fun d => d.parameters.length) = some 1 := by decide +kernel
theorem qX9_guestSize_19 : fw_G wsX9_guestSize RX9 19 RX9 TX9 24 5 := ⟨by decide +kernel, by decide +kernel, by decide⟩
def P_Mod_guestSize_b55 (o : Nat) (M : fw_M) (t0 : Int32) : Option (Int32 × fw_M) := some (t0, M)
def P_Mod_guestSize_b29 (o : Nat) (M : fw_M) (x1 : Int32) (x2 : Int32) : Option (Int32 × fw_M) := (P_Mod_began o M (13 : Int32)).bind fun q1 => (P_Mod_plainSize o q1 x1).bind fun q2 => fw_pl ((q2.1 - (100 : Int32))) fun y3 => (if x2 = (0 : Int32) then P_Mod_guestSize_b55 o q2.2 y3 else P_Mod_guestSize_b55 o q2.2 ((2 : Int32) * y3))
def P_Mod_guestSize_b18 (o : Nat) (M : fw_M) (x1 : Int32) (t0 : Int32) : Option (Int32 × fw_M) := (if t0 = (0 : Int32) then P_Mod_guestSize_b29 o M x1 t0 else (P_Mod_began o M (14 : Int32)).bind fun q2 => P_Mod_guestSize_b29 o q2 x1 t0)
def P_Mod_guestSize_b0 (o : Nat) (M : fw_M) (x1 : Int32) : Option (Int32 × fw_M) := (P_Mod_of (o + 4) M x1 (0 : Int32)).bind fun v1 => (if v1 = (5 : Int32) then P_Mod_guestSize_b18 o M x1 (1 : Int32) else P_Mod_guestSize_b18 o M x1 (0 : Int32))
def P_Mod_guestSize (o : Nat) (M : fw_M) (a0 : Int32) : Option (Int32 × fw_M) := P_Mod_guestSize_b0 o M a0
set_option maxRecDepth 100000 in
theorem c_Mod_guestSize_b55 {p : Program} {l : Launch} {e : Env} {s : State} {m : MethodId} {args : Array Value} {below : List Frame} {meth : Method} {c : Code} {D : va_G} {cI cZ cH cR : ClassId} {N : Nat} {ad : Nat → Nat} {EE : fw_M → Nat → va_E} {o : Nat} {M : fw_M} {t0 : Int32} {z : (Int32 × fw_M)} (C : fw_C p s m args meth c cX9_guestSize RX9 wsX9_guestSize 4 (some .int) D vwCl (fw_tys cI cZ cH cR) N ad fw_nw0) (ho : o_Mod EE ad N cI cZ cH cR o) (h : P_Mod_guestSize_b55 o M t0 = some z) : fw_J p l e (headSpec wsX9_guestSize rm_Mod_guestSize).room s m args below meth c D vwCl N ad EE 4 0 0 (fw_E below args s D vwCl N ad EE (some (.int z.1)) z.2) M [] 55 [.int t0] := by
  unfold P_Mod_guestSize_b55 at h
  exact fw_iret (pc := 55) C (fw_p1 h) (fw_p2 h) dX9_guestSize_55
set_option maxRecDepth 100000 in
theorem c_Mod_guestSize_b29 {p : Program} {l : Launch} {e : Env} {s : State} {m : MethodId} {args : Array Value} {below : List Frame} {meth : Method} {c : Code} {D : va_G} {cI cZ cH cR : ClassId} {N : Nat} {ad : Nat → Nat} {EE : fw_M → Nat → va_E} {o : Nat} {M : fw_M} {x1 : Int32} {x2 : Int32} {z : (Int32 × fw_M)} (C : fw_C p s m args meth c cX9_guestSize RX9 wsX9_guestSize 4 (some .int) D vwCl (fw_tys cI cZ cH cR) N ad fw_nw0) (ho : o_Mod EE ad N cI cZ cH cR o) (h : P_Mod_guestSize_b29 o M x1 x2 = some z) : fw_J p l e (headSpec wsX9_guestSize rm_Mod_guestSize).room s m args below meth c D vwCl N ad EE 4 0 0 (fw_E below args s D vwCl N ad EE (some (.int z.1)) z.2) M [(0, .ref (ad o)), (1, .int x1), (2, .int x2)] 29 [] := by
  unfold P_Mod_guestSize_b29 at h
  refine fw_aload_n (pc := 29) C 0 dX9_guestSize_29 rfl rfl ?_
  refine fw_bipush (pc := 30) C (v := 13) dX9_guestSize_30 fk_bipush_13 ?_
  obtain ⟨q1, hq1, h⟩ := fw_bind h
  refine fw_callV0 (pc := 32) C (rest := []) (c_Mod_began ho hq1) (cwV 1 C.2.2.2.2.1 gX9_guestSize_X9_began rfl rfl rfl hd_Mod_began ⟨Nat.le_of_ble_eq_true rfl, Nat.le_of_ble_eq_true rfl⟩) ho.1 rfl rfl ⟨Nat.zero_le _, Nat.zero_le _⟩ rfl (Nat.le_of_ble_eq_true rfl) dX9_guestSize_32 ?_
  refine fw_aload_n (pc := 35) C 0 dX9_guestSize_35 rfl rfl ?_
  refine fw_iload_n (pc := 36) C 1 dX9_guestSize_36 rfl rfl ?_
  obtain ⟨q2, hq2, h⟩ := fw_bind h
  refine fw_callV1 (pc := 37) C (rest := []) (c_Mod_plainSize ho hq2) (cwV 1 C.2.2.2.2.1 gX9_guestSize_X9_plainSize rfl rfl rfl hd_Mod_plainSize ⟨Nat.le_of_ble_eq_true rfl, Nat.le_of_ble_eq_true rfl⟩) ho.1 rfl rfl ⟨Nat.zero_le _, Nat.zero_le _⟩ rfl (Nat.le_of_ble_eq_true rfl) dX9_guestSize_37 ?_
  refine fw_bipush (pc := 40) C (v := 100) dX9_guestSize_40 fk_bipush_100 ?_
  refine fw_isub (pc := 42) C dX9_guestSize_42 ?_
  have h := fw_plh h
  refine fw_istore_n (pc := 43) C (L2 := [(0, .ref _), (1, .int _), (2, .int _), (3, .int _)]) [1, 2, 3, 0] dX9_guestSize_43 rfl (by decide) rfl ?_
  refine fw_iload_n (pc := 44) C 2 dX9_guestSize_44 rfl rfl ?_
  refine fw_if_eq (pc := 45) C (tgt := 54) dX9_guestSize_45 (by decide) (fun c4 => ?_) (fun c4 => ?_)
  · have h := fw_ift h c4
    refine fw_iload_n (pc := 54) C 3 dX9_guestSize_54 rfl rfl ?_
    exact fw_sub [] rfl (c_Mod_guestSize_b55 C ho h)
  · have h := fw_iff h c4
    refine fw_iconst (pc := 48) C (v := 2) dX9_guestSize_48 fk_iconst_2 ?_
    refine fw_iload_n (pc := 49) C 3 dX9_guestSize_49 rfl rfl ?_
    refine fw_imul (pc := 50) C dX9_guestSize_50 ?_
    refine fw_goto (pc := 51) C (tgt := 55) dX9_guestSize_51 (by decide) ?_
    exact fw_sub [] rfl (c_Mod_guestSize_b55 C ho h)
set_option maxRecDepth 100000 in
theorem c_Mod_guestSize_b18 {p : Program} {l : Launch} {e : Env} {s : State} {m : MethodId} {args : Array Value} {below : List Frame} {meth : Method} {c : Code} {D : va_G} {cI cZ cH cR : ClassId} {N : Nat} {ad : Nat → Nat} {EE : fw_M → Nat → va_E} {o : Nat} {M : fw_M} {x1 : Int32} {t0 : Int32} {z : (Int32 × fw_M)} (C : fw_C p s m args meth c cX9_guestSize RX9 wsX9_guestSize 4 (some .int) D vwCl (fw_tys cI cZ cH cR) N ad fw_nw0) (ho : o_Mod EE ad N cI cZ cH cR o) (h : P_Mod_guestSize_b18 o M x1 t0 = some z) : fw_J p l e (headSpec wsX9_guestSize rm_Mod_guestSize).room s m args below meth c D vwCl N ad EE 4 0 0 (fw_E below args s D vwCl N ad EE (some (.int z.1)) z.2) M [(0, .ref (ad o)), (1, .int x1)] 18 [.int t0] := by
  unfold P_Mod_guestSize_b18 at h
  refine fw_istore_n (pc := 18) C (L2 := [(0, .ref _), (1, .int _), (2, .int _)]) [1, 2, 0] dX9_guestSize_18 rfl (by decide) rfl ?_
  refine fw_iload_n (pc := 19) C 2 dX9_guestSize_19 rfl rfl ?_
  refine fw_if_eq (pc := 20) C (tgt := 29) dX9_guestSize_20 (by decide) (fun c1 => ?_) (fun c1 => ?_)
  · have h := fw_ift h c1
    exact (c_Mod_guestSize_b29 C ho h)
  · have h := fw_iff h c1
    refine fw_aload_n (pc := 23) C 0 dX9_guestSize_23 rfl rfl ?_
    refine fw_bipush (pc := 24) C (v := 14) dX9_guestSize_24 fk_bipush_14 ?_
    obtain ⟨q2, hq2, h⟩ := fw_bind h
    refine fw_callV0 (pc := 26) C (rest := []) (c_Mod_began ho hq2) (cwV 1 C.2.2.2.2.1 gX9_guestSize_X9_began rfl rfl rfl hd_Mod_began ⟨Nat.le_of_ble_eq_true rfl, Nat.le_of_ble_eq_true rfl⟩) ho.1 rfl rfl ⟨Nat.zero_le _, Nat.zero_le _⟩ rfl (Nat.le_of_ble_eq_true rfl) dX9_guestSize_26 ?_
    exact (c_Mod_guestSize_b29 C ho h)
set_option maxRecDepth 100000 in
theorem c_Mod_guestSize_b0 {p : Program} {l : Launch} {e : Env} {s : State} {m : MethodId} {args : Array Value} {below : List Frame} {meth : Method} {c : Code} {D : va_G} {cI cZ cH cR : ClassId} {N : Nat} {ad : Nat → Nat} {EE : fw_M → Nat → va_E} {o : Nat} {M : fw_M} {x1 : Int32} {z : (Int32 × fw_M)} (C : fw_C p s m args meth c cX9_guestSize RX9 wsX9_guestSize 4 (some .int) D vwCl (fw_tys cI cZ cH cR) N ad fw_nw0) (ho : o_Mod EE ad N cI cZ cH cR o) (h : P_Mod_guestSize_b0 o M x1 = some z) : fw_J p l e (headSpec wsX9_guestSize rm_Mod_guestSize).room s m args below meth c D vwCl N ad EE 4 0 0 (fw_E below args s D vwCl N ad EE (some (.int z.1)) z.2) M [(0, .ref (ad o)), (1, .int x1)] 0 [] := by
  unfold P_Mod_guestSize_b0 at h
  refine fw_aload_n (pc := 0) C 0 dX9_guestSize_0 rfl rfl ?_
  refine fw_getr (pc := 1) C ho.2.2.2.2.2.2.1.1 rfl qX9_guestSize_19 dX9_guestSize_1 ?_
  refine fw_iload_n (pc := 4) C 1 dX9_guestSize_4 rfl rfl ?_
  refine fw_iconst (pc := 5) C (v := 0) dX9_guestSize_5 fk_iconst_0 ?_
  obtain ⟨v1, hv1, h⟩ := fw_bind h
  refine fw_callS1 (pc := 6) C (rest := []) (c_Mod_of ho.2.2.2.2.2.2.1.2 hv1) (va_cwS 3 C.2.2.2.2.1 gX9_guestSize_X9_of rfl rfl rfl hd_Mod_of.2 ⟨Nat.le_of_ble_eq_true rfl, Nat.le_of_ble_eq_true rfl⟩) rfl ⟨Nat.zero_le _, Nat.zero_le _⟩ rfl (Nat.le_of_ble_eq_true rfl) dX9_guestSize_6 ?_
  refine fw_iconst (pc := 9) C (v := 5) dX9_guestSize_9 fk_iconst_5 ?_
  refine fw_icmp_ne (pc := 10) C (tgt := 17) dX9_guestSize_10 (by decide) (fun c2 => ?_) (fun c2 => ?_)
  · have h := fw_iff h c2
    refine fw_iconst (pc := 17) C (v := 0) dX9_guestSize_17 fk_iconst_0 ?_
    exact (c_Mod_guestSize_b18 C ho h)
  · have h := fw_ift h c2
    refine fw_iconst (pc := 13) C (v := 1) dX9_guestSize_13 fk_iconst_1 ?_
    refine fw_goto (pc := 14) C (tgt := 18) dX9_guestSize_14 (by decide) ?_
    exact (c_Mod_guestSize_b18 C ho h)
theorem c_Mod_guestSize {l : Launch} {D : va_G} {cI cZ cH cR : ClassId} {N : Nat} {ad : Nat → Nat} {EE : fw_M → Nat → va_E} {o : Nat} {M : fw_M} {a0 : Int32} {z : (Int32 × fw_M)} (ho : o_Mod EE ad N cI cZ cH cR o) (h : P_Mod_guestSize o M a0 = some z) : fw_Met l yX9_guestSize wsX9_guestSize rm_Mod_guestSize D vwCl (fw_tys cI cZ cH cR) N ad fw_nw0 EE [.ref (ad o), .int a0] M (some (.int z.1)) z.2 := by
  unfold P_Mod_guestSize at h
  exact fw_intro (cc := cX9_guestSize) (maxL := 4) (ret := some .int) (own := RX9) (by decide) rfl rfl (Nat.le_of_ble_eq_true rfl) (fun p e s m args below meth c C => fw_sub [0, 1] rfl (c_Mod_guestSize_b0 C ho h))
abbrev rm_Mod_markOf : Room := { frames := 3, cells := 0, slots := 0, locals := 66 }
theorem hd_Mod_markOf : yX9_markOf.cls = RX9 ∧ yX9_markOf.cls ≠ "java/lang/invoke/MethodHandle" ∧ yX9_markOf.cls ≠ "java/lang/invoke/VarHandle" ∧ (parseMethodDescriptor yX9_markOf.desc).map (fun d => d.parameters.length) = some 1 := by decide +kernel
theorem qX9_markOf_19 : fw_G wsX9_markOf RX9 19 RX9 TX9 24 5 := ⟨by decide +kernel, by decide +kernel, by decide⟩
def P_Mod_markOf_b105 (o : Nat) (M : fw_M) (t0 : Int32) : Option (Int32 × fw_M) := some (t0, M)
def P_Mod_markOf_b56 (o : Nat) (M : fw_M) (x1 : Int32) (x2 : Int32) : Option (Int32 × fw_M) := (P_Mod_began o M (21 : Int32)).bind fun q1 => (P_Mod_began o q1 (20 : Int32)).bind fun q2 => (P_Mod_of (o + 4) q2 x1 (2 : Int32)).bind fun v3 => fw_pl ((x1 + v3)) fun y4 => (if x2 = (1 : Int32) then P_Mod_markOf_b105 o q2 y4 else (if x2 = (3 : Int32) then P_Mod_markOf_b105 o q2 (y4 - (1000 : Int32)) else P_Mod_markOf_b105 o q2 ((2 : Int32) * y4)))
def P_Mod_markOf_b53 (o : Nat) (M : fw_M) (x1 : Int32) (x2 : Int32) (t1 : Int32) : Option (Int32 × fw_M) := (P_Mod_began o M t1).bind fun q1 => P_Mod_markOf_b56 o q1 x1 x2
def P_Mod_markOf_b0 (o : Nat) (M : fw_M) (x1 : Int32) : Option (Int32 × fw_M) := (P_Mod_of (o + 4) M x1 (0 : Int32)).bind fun v1 => (if v1 < (4 : Int32) then (if v1 = (1 : Int32) then P_Mod_markOf_b56 o M x1 v1 else (if v1 = (3 : Int32) then P_Mod_markOf_b53 o M x1 v1 (22 : Int32) else P_Mod_markOf_b53 o M x1 v1 (24 : Int32))) else (P_Mod_began o M (23 : Int32)).bind fun q5 => (P_Mod_began o q5 (20 : Int32)).bind fun q6 => (P_Mod_guestSize o q6 x1).bind fun q7 => some ((x1 - q7.1), q7.2))
def P_Mod_markOf (o : Nat) (M : fw_M) (a0 : Int32) : Option (Int32 × fw_M) := P_Mod_markOf_b0 o M a0
set_option maxRecDepth 100000 in
theorem c_Mod_markOf_b105 {p : Program} {l : Launch} {e : Env} {s : State} {m : MethodId} {args : Array Value} {below : List Frame} {meth : Method} {c : Code} {D : va_G} {cI cZ cH cR : ClassId} {N : Nat} {ad : Nat → Nat} {EE : fw_M → Nat → va_E} {o : Nat} {M : fw_M} {t0 : Int32} {z : (Int32 × fw_M)} (C : fw_C p s m args meth c cX9_markOf RX9 wsX9_markOf 4 (some .int) D vwCl (fw_tys cI cZ cH cR) N ad fw_nw0) (ho : o_Mod EE ad N cI cZ cH cR o) (h : P_Mod_markOf_b105 o M t0 = some z) : fw_J p l e (headSpec wsX9_markOf rm_Mod_markOf).room s m args below meth c D vwCl N ad EE 4 0 0 (fw_E below args s D vwCl N ad EE (some (.int z.1)) z.2) M [] 105 [.int t0] := by
  unfold P_Mod_markOf_b105 at h
  exact fw_iret (pc := 105) C (fw_p1 h) (fw_p2 h) dX9_markOf_105
set_option maxRecDepth 100000 in
theorem c_Mod_markOf_b56 {p : Program} {l : Launch} {e : Env} {s : State} {m : MethodId} {args : Array Value} {below : List Frame} {meth : Method} {c : Code} {D : va_G} {cI cZ cH cR : ClassId} {N : Nat} {ad : Nat → Nat} {EE : fw_M → Nat → va_E} {o : Nat} {M : fw_M} {x1 : Int32} {x2 : Int32} {z : (Int32 × fw_M)} (C : fw_C p s m args meth c cX9_markOf RX9 wsX9_markOf 4 (some .int) D vwCl (fw_tys cI cZ cH cR) N ad fw_nw0) (ho : o_Mod EE ad N cI cZ cH cR o) (h : P_Mod_markOf_b56 o M x1 x2 = some z) : fw_J p l e (headSpec wsX9_markOf rm_Mod_markOf).room s m args below meth c D vwCl N ad EE 4 0 0 (fw_E below args s D vwCl N ad EE (some (.int z.1)) z.2) M [(0, .ref (ad o)), (1, .int x1), (2, .int x2)] 56 [] := by
  unfold P_Mod_markOf_b56 at h
  refine fw_aload_n (pc := 56) C 0 dX9_markOf_56 rfl rfl ?_
  refine fw_bipush (pc := 57) C (v := 21) dX9_markOf_57 fk_bipush_21 ?_
  obtain ⟨q1, hq1, h⟩ := fw_bind h
  refine fw_callV0 (pc := 59) C (rest := []) (c_Mod_began ho hq1) (cwV 1 C.2.2.2.2.1 gX9_markOf_X9_began rfl rfl rfl hd_Mod_began ⟨Nat.le_of_ble_eq_true rfl, Nat.le_of_ble_eq_true rfl⟩) ho.1 rfl rfl ⟨Nat.zero_le _, Nat.zero_le _⟩ rfl (Nat.le_of_ble_eq_true rfl) dX9_markOf_59 ?_
  refine fw_aload_n (pc := 62) C 0 dX9_markOf_62 rfl rfl ?_
  refine fw_bipush (pc := 63) C (v := 20) dX9_markOf_63 fk_bipush_20 ?_
  obtain ⟨q2, hq2, h⟩ := fw_bind h
  refine fw_callV0 (pc := 65) C (rest := []) (c_Mod_began ho hq2) (cwV 1 C.2.2.2.2.1 gX9_markOf_X9_began rfl rfl rfl hd_Mod_began ⟨Nat.le_of_ble_eq_true rfl, Nat.le_of_ble_eq_true rfl⟩) ho.1 rfl rfl ⟨Nat.zero_le _, Nat.zero_le _⟩ rfl (Nat.le_of_ble_eq_true rfl) dX9_markOf_65 ?_
  refine fw_iload_n (pc := 68) C 1 dX9_markOf_68 rfl rfl ?_
  refine fw_aload_n (pc := 69) C 0 dX9_markOf_69 rfl rfl ?_
  refine fw_getr (pc := 70) C ho.2.2.2.2.2.2.1.1 rfl qX9_markOf_19 dX9_markOf_70 ?_
  refine fw_iload_n (pc := 73) C 1 dX9_markOf_73 rfl rfl ?_
  refine fw_iconst (pc := 74) C (v := 2) dX9_markOf_74 fk_iconst_2 ?_
  obtain ⟨v3, hv3, h⟩ := fw_bind h
  refine fw_callS1 (pc := 75) C (rest := [_]) (c_Mod_of ho.2.2.2.2.2.2.1.2 hv3) (va_cwS 3 C.2.2.2.2.1 gX9_markOf_X9_of rfl rfl rfl hd_Mod_of.2 ⟨Nat.le_of_ble_eq_true rfl, Nat.le_of_ble_eq_true rfl⟩) rfl ⟨Nat.zero_le _, Nat.zero_le _⟩ rfl (Nat.le_of_ble_eq_true rfl) dX9_markOf_75 ?_
  refine fw_iadd (pc := 78) C dX9_markOf_78 ?_
  have h := fw_plh h
  refine fw_istore_n (pc := 79) C (L2 := [(0, .ref _), (1, .int _), (2, .int _), (3, .int _)]) [1, 2, 3, 0] dX9_markOf_79 rfl (by decide) rfl ?_
  refine fw_iload_n (pc := 80) C 2 dX9_markOf_80 rfl rfl ?_
  refine fw_iconst (pc := 81) C (v := 1) dX9_markOf_81 fk_iconst_1 ?_
  refine fw_icmp_ne (pc := 82) C (tgt := 89) dX9_markOf_82 (by decide) (fun c5 => ?_) (fun c5 => ?_)
  · have h := fw_iff h c5
    refine fw_iload_n (pc := 89) C 2 dX9_markOf_89 rfl rfl ?_
    refine fw_iconst (pc := 90) C (v := 3) dX9_markOf_90 fk_iconst_3 ?_
    refine fw_icmp_ne (pc := 91) C (tgt := 102) dX9_markOf_91 (by decide) (fun c6 => ?_) (fun c6 => ?_)
    · have h := fw_iff h c6
      refine fw_iconst (pc := 102) C (v := 2) dX9_markOf_102 fk_iconst_2 ?_
      refine fw_iload_n (pc := 103) C 3 dX9_markOf_103 rfl rfl ?_
      refine fw_imul (pc := 104) C dX9_markOf_104 ?_
      exact fw_sub [] rfl (c_Mod_markOf_b105 C ho h)
    · have h := fw_ift h c6
      refine fw_iload_n (pc := 94) C 3 dX9_markOf_94 rfl rfl ?_
      refine fw_sipush (pc := 95) C (v := 1000) dX9_markOf_95 fk_sipush_1000 ?_
      refine fw_isub (pc := 98) C dX9_markOf_98 ?_
      refine fw_goto (pc := 99) C (tgt := 105) dX9_markOf_99 (by decide) ?_
      exact fw_sub [] rfl (c_Mod_markOf_b105 C ho h)
  · have h := fw_ift h c5
    refine fw_iload_n (pc := 85) C 3 dX9_markOf_85 rfl rfl ?_
    refine fw_goto (pc := 86) C (tgt := 105) dX9_markOf_86 (by decide) ?_
    exact fw_sub [] rfl (c_Mod_markOf_b105 C ho h)
set_option maxRecDepth 100000 in
theorem c_Mod_markOf_b53 {p : Program} {l : Launch} {e : Env} {s : State} {m : MethodId} {args : Array Value} {below : List Frame} {meth : Method} {c : Code} {D : va_G} {cI cZ cH cR : ClassId} {N : Nat} {ad : Nat → Nat} {EE : fw_M → Nat → va_E} {o : Nat} {M : fw_M} {x1 : Int32} {x2 : Int32} {t1 : Int32} {z : (Int32 × fw_M)} (C : fw_C p s m args meth c cX9_markOf RX9 wsX9_markOf 4 (some .int) D vwCl (fw_tys cI cZ cH cR) N ad fw_nw0) (ho : o_Mod EE ad N cI cZ cH cR o) (h : P_Mod_markOf_b53 o M x1 x2 t1 = some z) : fw_J p l e (headSpec wsX9_markOf rm_Mod_markOf).room s m args below meth c D vwCl N ad EE 4 0 0 (fw_E below args s D vwCl N ad EE (some (.int z.1)) z.2) M [(0, .ref (ad o)), (1, .int x1), (2, .int x2)] 53 [.int t1, .ref (ad o)] := by
  unfold P_Mod_markOf_b53 at h
  obtain ⟨q1, hq1, h⟩ := fw_bind h
  refine fw_callV0 (pc := 53) C (rest := []) (c_Mod_began ho hq1) (cwV 1 C.2.2.2.2.1 gX9_markOf_X9_began rfl rfl rfl hd_Mod_began ⟨Nat.le_of_ble_eq_true rfl, Nat.le_of_ble_eq_true rfl⟩) ho.1 rfl rfl ⟨Nat.zero_le _, Nat.zero_le _⟩ rfl (Nat.le_of_ble_eq_true rfl) dX9_markOf_53 ?_
  exact (c_Mod_markOf_b56 C ho h)
set_option maxRecDepth 100000 in
theorem c_Mod_markOf_b0 {p : Program} {l : Launch} {e : Env} {s : State} {m : MethodId} {args : Array Value} {below : List Frame} {meth : Method} {c : Code} {D : va_G} {cI cZ cH cR : ClassId} {N : Nat} {ad : Nat → Nat} {EE : fw_M → Nat → va_E} {o : Nat} {M : fw_M} {x1 : Int32} {z : (Int32 × fw_M)} (C : fw_C p s m args meth c cX9_markOf RX9 wsX9_markOf 4 (some .int) D vwCl (fw_tys cI cZ cH cR) N ad fw_nw0) (ho : o_Mod EE ad N cI cZ cH cR o) (h : P_Mod_markOf_b0 o M x1 = some z) : fw_J p l e (headSpec wsX9_markOf rm_Mod_markOf).room s m args below meth c D vwCl N ad EE 4 0 0 (fw_E below args s D vwCl N ad EE (some (.int z.1)) z.2) M [(0, .ref (ad o)), (1, .int x1)] 0 [] := by
  unfold P_Mod_markOf_b0 at h
  refine fw_aload_n (pc := 0) C 0 dX9_markOf_0 rfl rfl ?_
  refine fw_getr (pc := 1) C ho.2.2.2.2.2.2.1.1 rfl qX9_markOf_19 dX9_markOf_1 ?_
  refine fw_iload_n (pc := 4) C 1 dX9_markOf_4 rfl rfl ?_
  refine fw_iconst (pc := 5) C (v := 0) dX9_markOf_5 fk_iconst_0 ?_
  obtain ⟨v1, hv1, h⟩ := fw_bind h
  refine fw_callS1 (pc := 6) C (rest := []) (c_Mod_of ho.2.2.2.2.2.2.1.2 hv1) (va_cwS 3 C.2.2.2.2.1 gX9_markOf_X9_of rfl rfl rfl hd_Mod_of.2 ⟨Nat.le_of_ble_eq_true rfl, Nat.le_of_ble_eq_true rfl⟩) rfl ⟨Nat.zero_le _, Nat.zero_le _⟩ rfl (Nat.le_of_ble_eq_true rfl) dX9_markOf_6 ?_
  refine fw_istore_n (pc := 9) C (L2 := [(0, .ref _), (1, .int _), (2, .int _)]) [1, 2, 0] dX9_markOf_9 rfl (by decide) rfl ?_
  refine fw_iload_n (pc := 10) C 2 dX9_markOf_10 rfl rfl ?_
  refine fw_iconst (pc := 11) C (v := 4) dX9_markOf_11 fk_iconst_4 ?_
  refine fw_icmp_lt (pc := 12) C (tgt := 35) dX9_markOf_12 (by decide) (fun c2 => ?_) (fun c2 => ?_)
  · have h := fw_ift h c2
    refine fw_iload_n (pc := 35) C 2 dX9_markOf_35 rfl rfl ?_
    refine fw_iconst (pc := 36) C (v := 1) dX9_markOf_36 fk_iconst_1 ?_
    refine fw_icmp_eq (pc := 37) C (tgt := 56) dX9_markOf_37 (by decide) (fun c3 => ?_) (fun c3 => ?_)
    · have h := fw_ift h c3
      exact (c_Mod_markOf_b56 C ho h)
    · have h := fw_iff h c3
      refine fw_aload_n (pc := 40) C 0 dX9_markOf_40 rfl rfl ?_
      refine fw_iload_n (pc := 41) C 2 dX9_markOf_41 rfl rfl ?_
      refine fw_iconst (pc := 42) C (v := 3) dX9_markOf_42 fk_iconst_3 ?_
      refine fw_icmp_ne (pc := 43) C (tgt := 51) dX9_markOf_43 (by decide) (fun c4 => ?_) (fun c4 => ?_)
      · have h := fw_iff h c4
        refine fw_bipush (pc := 51) C (v := 24) dX9_markOf_51 fk_bipush_24 ?_
        exact (c_Mod_markOf_b53 C ho h)
      · have h := fw_ift h c4
        refine fw_bipush (pc := 46) C (v := 22) dX9_markOf_46 fk_bipush_22 ?_
        refine fw_goto (pc := 48) C (tgt := 53) dX9_markOf_48 (by decide) ?_
        exact (c_Mod_markOf_b53 C ho h)
  · have h := fw_iff h c2
    refine fw_aload_n (pc := 15) C 0 dX9_markOf_15 rfl rfl ?_
    refine fw_bipush (pc := 16) C (v := 23) dX9_markOf_16 fk_bipush_23 ?_
    obtain ⟨q5, hq5, h⟩ := fw_bind h
    refine fw_callV0 (pc := 18) C (rest := []) (c_Mod_began ho hq5) (cwV 1 C.2.2.2.2.1 gX9_markOf_X9_began rfl rfl rfl hd_Mod_began ⟨Nat.le_of_ble_eq_true rfl, Nat.le_of_ble_eq_true rfl⟩) ho.1 rfl rfl ⟨Nat.zero_le _, Nat.zero_le _⟩ rfl (Nat.le_of_ble_eq_true rfl) dX9_markOf_18 ?_
    refine fw_aload_n (pc := 21) C 0 dX9_markOf_21 rfl rfl ?_
    refine fw_bipush (pc := 22) C (v := 20) dX9_markOf_22 fk_bipush_20 ?_
    obtain ⟨q6, hq6, h⟩ := fw_bind h
    refine fw_callV0 (pc := 24) C (rest := []) (c_Mod_began ho hq6) (cwV 1 C.2.2.2.2.1 gX9_markOf_X9_began rfl rfl rfl hd_Mod_began ⟨Nat.le_of_ble_eq_true rfl, Nat.le_of_ble_eq_true rfl⟩) ho.1 rfl rfl ⟨Nat.zero_le _, Nat.zero_le _⟩ rfl (Nat.le_of_ble_eq_true rfl) dX9_markOf_24 ?_
    refine fw_iload_n (pc := 27) C 1 dX9_markOf_27 rfl rfl ?_
    refine fw_aload_n (pc := 28) C 0 dX9_markOf_28 rfl rfl ?_
    refine fw_iload_n (pc := 29) C 1 dX9_markOf_29 rfl rfl ?_
    obtain ⟨q7, hq7, h⟩ := fw_bind h
    refine fw_callV1 (pc := 30) C (rest := [_]) (c_Mod_guestSize ho hq7) (cwV 1 C.2.2.2.2.1 gX9_markOf_X9_guestSize rfl rfl rfl hd_Mod_guestSize ⟨Nat.le_of_ble_eq_true rfl, Nat.le_of_ble_eq_true rfl⟩) ho.1 rfl rfl ⟨Nat.zero_le _, Nat.zero_le _⟩ rfl (Nat.le_of_ble_eq_true rfl) dX9_markOf_30 ?_
    refine fw_isub (pc := 33) C dX9_markOf_33 ?_
    exact fw_iret (pc := 34) C (fw_p1 h) (fw_p2 h) dX9_markOf_34
theorem c_Mod_markOf {l : Launch} {D : va_G} {cI cZ cH cR : ClassId} {N : Nat} {ad : Nat → Nat} {EE : fw_M → Nat → va_E} {o : Nat} {M : fw_M} {a0 : Int32} {z : (Int32 × fw_M)} (ho : o_Mod EE ad N cI cZ cH cR o) (h : P_Mod_markOf o M a0 = some z) : fw_Met l yX9_markOf wsX9_markOf rm_Mod_markOf D vwCl (fw_tys cI cZ cH cR) N ad fw_nw0 EE [.ref (ad o), .int a0] M (some (.int z.1)) z.2 := by
  unfold P_Mod_markOf at h
  exact fw_intro (cc := cX9_markOf) (maxL := 4) (ret := some .int) (own := RX9) (by decide) rfl rfl (Nat.le_of_ble_eq_true rfl) (fun p e s m args below meth c C => fw_sub [0, 1] rfl (c_Mod_markOf_b0 C ho h))
abbrev rm_Mod_sizeOf : Room := { frames := 4, cells := 0, slots := 0, locals := 89 }
theorem hd_Mod_sizeOf : yX9_sizeOf.cls = RX9 ∧ yX9_sizeOf.cls ≠ "java/lang/invoke/MethodHandle" ∧ yX9_sizeOf.cls ≠ "java/lang/invoke/VarHandle" ∧ (parseMethodDescriptor yX9_sizeOf.desc).map (fun d => d.parameters.length) = some 1 := by decide +kernel
theorem qX9_sizeOf_19 : fw_G wsX9_sizeOf RX9 19 RX9 TX9 24 5 := ⟨by decide +kernel, by decide +kernel, by decide⟩
def P_Mod_sizeOf_b63 (o : Nat) (M : fw_M) (t0 : Int32) : Option (Int32 × fw_M) := some (t0, M)
def P_Mod_sizeOf_b32 (o : Nat) (M : fw_M) (x1 : Int32) (x2 : Int32) : Option (Int32 × fw_M) := (P_Mod_began o M (11 : Int32)).bind fun q1 => (P_Mod_plainSize o q1 x1).bind fun q2 => (P_Mod_markOf o q2.2 x1).bind fun q3 => fw_pl ((q2.1 + q3.1)) fun y4 => (if x2 = (2 : Int32) then P_Mod_sizeOf_b63 o q3.2 (-y4) else P_Mod_sizeOf_b63 o q3.2 y4)
def P_Mod_sizeOf_b0 (o : Nat) (M : fw_M) (x1 : Int32) : Option (Int32 × fw_M) := (P_Mod_of (o + 4) M x1 (0 : Int32)).bind fun v1 => (if v1 < (4 : Int32) then (if v1 = (2 : Int32) then (P_Mod_began o M (12 : Int32)).bind fun q4 => P_Mod_sizeOf_b32 o q4 x1 v1 else P_Mod_sizeOf_b32 o M x1 v1) else (P_Mod_guestSize o M x1).bind fun q5 => some (q5.1, q5.2))
def P_Mod_sizeOf (o : Nat) (M : fw_M) (a0 : Int32) : Option (Int32 × fw_M) := P_Mod_sizeOf_b0 o M a0
set_option maxRecDepth 100000 in
theorem c_Mod_sizeOf_b63 {p : Program} {l : Launch} {e : Env} {s : State} {m : MethodId} {args : Array Value} {below : List Frame} {meth : Method} {c : Code} {D : va_G} {cI cZ cH cR : ClassId} {N : Nat} {ad : Nat → Nat} {EE : fw_M → Nat → va_E} {o : Nat} {M : fw_M} {t0 : Int32} {z : (Int32 × fw_M)} (C : fw_C p s m args meth c cX9_sizeOf RX9 wsX9_sizeOf 4 (some .int) D vwCl (fw_tys cI cZ cH cR) N ad fw_nw0) (ho : o_Mod EE ad N cI cZ cH cR o) (h : P_Mod_sizeOf_b63 o M t0 = some z) : fw_J p l e (headSpec wsX9_sizeOf rm_Mod_sizeOf).room s m args below meth c D vwCl N ad EE 4 0 0 (fw_E below args s D vwCl N ad EE (some (.int z.1)) z.2) M [] 63 [.int t0] := by
  unfold P_Mod_sizeOf_b63 at h
  exact fw_iret (pc := 63) C (fw_p1 h) (fw_p2 h) dX9_sizeOf_63
set_option maxRecDepth 100000 in
theorem c_Mod_sizeOf_b32 {p : Program} {l : Launch} {e : Env} {s : State} {m : MethodId} {args : Array Value} {below : List Frame} {meth : Method} {c : Code} {D : va_G} {cI cZ cH cR : ClassId} {N : Nat} {ad : Nat → Nat} {EE : fw_M → Nat → va_E} {o : Nat} {M : fw_M} {x1 : Int32} {x2 : Int32} {z : (Int32 × fw_M)} (C : fw_C p s m args meth c cX9_sizeOf RX9 wsX9_sizeOf 4 (some .int) D vwCl (fw_tys cI cZ cH cR) N ad fw_nw0) (ho : o_Mod EE ad N cI cZ cH cR o) (h : P_Mod_sizeOf_b32 o M x1 x2 = some z) : fw_J p l e (headSpec wsX9_sizeOf rm_Mod_sizeOf).room s m args below meth c D vwCl N ad EE 4 0 0 (fw_E below args s D vwCl N ad EE (some (.int z.1)) z.2) M [(0, .ref (ad o)), (1, .int x1), (2, .int x2)] 32 [] := by
  unfold P_Mod_sizeOf_b32 at h
  refine fw_aload_n (pc := 32) C 0 dX9_sizeOf_32 rfl rfl ?_
  refine fw_bipush (pc := 33) C (v := 11) dX9_sizeOf_33 fk_bipush_11 ?_
  obtain ⟨q1, hq1, h⟩ := fw_bind h
  refine fw_callV0 (pc := 35) C (rest := []) (c_Mod_began ho hq1) (cwV 1 C.2.2.2.2.1 gX9_sizeOf_X9_began rfl rfl rfl hd_Mod_began ⟨Nat.le_of_ble_eq_true rfl, Nat.le_of_ble_eq_true rfl⟩) ho.1 rfl rfl ⟨Nat.zero_le _, Nat.zero_le _⟩ rfl (Nat.le_of_ble_eq_true rfl) dX9_sizeOf_35 ?_
  refine fw_aload_n (pc := 38) C 0 dX9_sizeOf_38 rfl rfl ?_
  refine fw_iload_n (pc := 39) C 1 dX9_sizeOf_39 rfl rfl ?_
  obtain ⟨q2, hq2, h⟩ := fw_bind h
  refine fw_callV1 (pc := 40) C (rest := []) (c_Mod_plainSize ho hq2) (cwV 1 C.2.2.2.2.1 gX9_sizeOf_X9_plainSize rfl rfl rfl hd_Mod_plainSize ⟨Nat.le_of_ble_eq_true rfl, Nat.le_of_ble_eq_true rfl⟩) ho.1 rfl rfl ⟨Nat.zero_le _, Nat.zero_le _⟩ rfl (Nat.le_of_ble_eq_true rfl) dX9_sizeOf_40 ?_
  refine fw_istore_n (pc := 43) C (L2 := [(0, .ref _), (1, .int _), (2, .int _), (3, .int _)]) [1, 2, 3, 0] dX9_sizeOf_43 rfl (by decide) rfl ?_
  refine fw_iload_n (pc := 44) C 3 dX9_sizeOf_44 rfl rfl ?_
  refine fw_aload_n (pc := 45) C 0 dX9_sizeOf_45 rfl rfl ?_
  refine fw_iload_n (pc := 46) C 1 dX9_sizeOf_46 rfl rfl ?_
  obtain ⟨q3, hq3, h⟩ := fw_bind h
  refine fw_callV1 (pc := 47) C (rest := [_]) (c_Mod_markOf ho hq3) (cwV 1 C.2.2.2.2.1 gX9_sizeOf_X9_markOf rfl rfl rfl hd_Mod_markOf ⟨Nat.le_of_ble_eq_true rfl, Nat.le_of_ble_eq_true rfl⟩) ho.1 rfl rfl ⟨Nat.zero_le _, Nat.zero_le _⟩ rfl (Nat.le_of_ble_eq_true rfl) dX9_sizeOf_47 ?_
  refine fw_iadd (pc := 50) C dX9_sizeOf_50 ?_
  have h := fw_plh h
  refine fw_istore_n (pc := 51) C (L2 := [(0, .ref _), (1, .int _), (2, .int _), (3, .int _)]) [1, 2, 3, 0] dX9_sizeOf_51 rfl (by decide) rfl ?_
  refine fw_iload_n (pc := 52) C 2 dX9_sizeOf_52 rfl rfl ?_
  refine fw_iconst (pc := 53) C (v := 2) dX9_sizeOf_53 fk_iconst_2 ?_
  refine fw_icmp_ne (pc := 54) C (tgt := 62) dX9_sizeOf_54 (by decide) (fun c5 => ?_) (fun c5 => ?_)
  · have h := fw_iff h c5
    refine fw_iload_n (pc := 62) C 3 dX9_sizeOf_62 rfl rfl ?_
    exact fw_sub [] rfl (c_Mod_sizeOf_b63 C ho h)
  · have h := fw_ift h c5
    refine fw_iload_n (pc := 57) C 3 dX9_sizeOf_57 rfl rfl ?_
    refine fw_ineg (pc := 58) C dX9_sizeOf_58 ?_
    refine fw_goto (pc := 59) C (tgt := 63) dX9_sizeOf_59 (by decide) ?_
    exact fw_sub [] rfl (c_Mod_sizeOf_b63 C ho h)
set_option maxRecDepth 100000 in
theorem c_Mod_sizeOf_b0 {p : Program} {l : Launch} {e : Env} {s : State} {m : MethodId} {args : Array Value} {below : List Frame} {meth : Method} {c : Code} {D : va_G} {cI cZ cH cR : ClassId} {N : Nat} {ad : Nat → Nat} {EE : fw_M → Nat → va_E} {o : Nat} {M : fw_M} {x1 : Int32} {z : (Int32 × fw_M)} (C : fw_C p s m args meth c cX9_sizeOf RX9 wsX9_sizeOf 4 (some .int) D vwCl (fw_tys cI cZ cH cR) N ad fw_nw0) (ho : o_Mod EE ad N cI cZ cH cR o) (h : P_Mod_sizeOf_b0 o M x1 = some z) : fw_J p l e (headSpec wsX9_sizeOf rm_Mod_sizeOf).room s m args below meth c D vwCl N ad EE 4 0 0 (fw_E below args s D vwCl N ad EE (some (.int z.1)) z.2) M [(0, .ref (ad o)), (1, .int x1)] 0 [] := by
  unfold P_Mod_sizeOf_b0 at h
  refine fw_aload_n (pc := 0) C 0 dX9_sizeOf_0 rfl rfl ?_
  refine fw_getr (pc := 1) C ho.2.2.2.2.2.2.1.1 rfl qX9_sizeOf_19 dX9_sizeOf_1 ?_
  refine fw_iload_n (pc := 4) C 1 dX9_sizeOf_4 rfl rfl ?_
  refine fw_iconst (pc := 5) C (v := 0) dX9_sizeOf_5 fk_iconst_0 ?_
  obtain ⟨v1, hv1, h⟩ := fw_bind h
  refine fw_callS1 (pc := 6) C (rest := []) (c_Mod_of ho.2.2.2.2.2.2.1.2 hv1) (va_cwS 3 C.2.2.2.2.1 gX9_sizeOf_X9_of rfl rfl rfl hd_Mod_of.2 ⟨Nat.le_of_ble_eq_true rfl, Nat.le_of_ble_eq_true rfl⟩) rfl ⟨Nat.zero_le _, Nat.zero_le _⟩ rfl (Nat.le_of_ble_eq_true rfl) dX9_sizeOf_6 ?_
  refine fw_istore_n (pc := 9) C (L2 := [(0, .ref _), (1, .int _), (2, .int _)]) [1, 2, 0] dX9_sizeOf_9 rfl (by decide) rfl ?_
  refine fw_iload_n (pc := 10) C 2 dX9_sizeOf_10 rfl rfl ?_
  refine fw_iconst (pc := 11) C (v := 4) dX9_sizeOf_11 fk_iconst_4 ?_
  refine fw_icmp_lt (pc := 12) C (tgt := 21) dX9_sizeOf_12 (by decide) (fun c2 => ?_) (fun c2 => ?_)
  · have h := fw_ift h c2
    refine fw_iload_n (pc := 21) C 2 dX9_sizeOf_21 rfl rfl ?_
    refine fw_iconst (pc := 22) C (v := 2) dX9_sizeOf_22 fk_iconst_2 ?_
    refine fw_icmp_ne (pc := 23) C (tgt := 32) dX9_sizeOf_23 (by decide) (fun c3 => ?_) (fun c3 => ?_)
    · have h := fw_iff h c3
      exact (c_Mod_sizeOf_b32 C ho h)
    · have h := fw_ift h c3
      refine fw_aload_n (pc := 26) C 0 dX9_sizeOf_26 rfl rfl ?_
      refine fw_bipush (pc := 27) C (v := 12) dX9_sizeOf_27 fk_bipush_12 ?_
      obtain ⟨q4, hq4, h⟩ := fw_bind h
      refine fw_callV0 (pc := 29) C (rest := []) (c_Mod_began ho hq4) (cwV 1 C.2.2.2.2.1 gX9_sizeOf_X9_began rfl rfl rfl hd_Mod_began ⟨Nat.le_of_ble_eq_true rfl, Nat.le_of_ble_eq_true rfl⟩) ho.1 rfl rfl ⟨Nat.zero_le _, Nat.zero_le _⟩ rfl (Nat.le_of_ble_eq_true rfl) dX9_sizeOf_29 ?_
      exact (c_Mod_sizeOf_b32 C ho h)
  · have h := fw_iff h c2
    refine fw_aload_n (pc := 15) C 0 dX9_sizeOf_15 rfl rfl ?_
    refine fw_iload_n (pc := 16) C 1 dX9_sizeOf_16 rfl rfl ?_
    obtain ⟨q5, hq5, h⟩ := fw_bind h
    refine fw_callV1 (pc := 17) C (rest := []) (c_Mod_guestSize ho hq5) (cwV 1 C.2.2.2.2.1 gX9_sizeOf_X9_guestSize rfl rfl rfl hd_Mod_guestSize ⟨Nat.le_of_ble_eq_true rfl, Nat.le_of_ble_eq_true rfl⟩) ho.1 rfl rfl ⟨Nat.zero_le _, Nat.zero_le _⟩ rfl (Nat.le_of_ble_eq_true rfl) dX9_sizeOf_17 ?_
    exact fw_iret (pc := 20) C (fw_p1 h) (fw_p2 h) dX9_sizeOf_20
theorem c_Mod_sizeOf {l : Launch} {D : va_G} {cI cZ cH cR : ClassId} {N : Nat} {ad : Nat → Nat} {EE : fw_M → Nat → va_E} {o : Nat} {M : fw_M} {a0 : Int32} {z : (Int32 × fw_M)} (ho : o_Mod EE ad N cI cZ cH cR o) (h : P_Mod_sizeOf o M a0 = some z) : fw_Met l yX9_sizeOf wsX9_sizeOf rm_Mod_sizeOf D vwCl (fw_tys cI cZ cH cR) N ad fw_nw0 EE [.ref (ad o), .int a0] M (some (.int z.1)) z.2 := by
  unfold P_Mod_sizeOf at h
  exact fw_intro (cc := cX9_sizeOf) (maxL := 4) (ret := some .int) (own := RX9) (by decide) rfl rfl (Nat.le_of_ble_eq_true rfl) (fun p e s m args below meth c C => fw_sub [0, 1] rfl (c_Mod_sizeOf_b0 C ho h))
abbrev rm_Mod_ask : Room := { frames := 5, cells := 0, slots := 0, locals := 112 }
theorem hd_Mod_ask : yX9_ask.cls = RX9 ∧ yX9_ask.cls ≠ "java/lang/invoke/MethodHandle" ∧ yX9_ask.cls ≠ "java/lang/invoke/VarHandle" ∧ (parseMethodDescriptor yX9_ask.desc).map (fun d => d.parameters.length) = some 2 := by decide +kernel
theorem qX9_ask_47 : fw_G wsX9_ask RX9 47 RX9 TX9 24 0 := ⟨by decide +kernel, by decide +kernel, by decide⟩
theorem qX9_ask_242 : fw_G wsX9_ask RX9 242 RX9 TX9 24 23 := ⟨by decide +kernel, by decide +kernel, by decide⟩
theorem kX9_ask_67 : Cond.constant RX9 67 (-1000001) ∈ wsX9_ask := by decide +kernel
def P_Mod_ask_b23 (o : Nat) (M : fw_M) : Option (Int32 × fw_M) := some ((-1000001 : Int32), M)
def P_Mod_ask_b48 (o : Nat) (M : fw_M) (t0 : Int32) : Option (Int32 × fw_M) := some (t0, M)
def P_Mod_ask_b0 (o : Nat) (M : fw_M) (x1 : Int32) (x2 : Int32) : Option (Int32 × fw_M) := fw_pl (fw_set M o 0 (0 : Int32)) fun M1 => (P_Mod_isPerson o M1 x1).bind fun v2 => (if v2 = (0 : Int32) then P_Mod_ask_b23 o M1 else (P_Mod_in M1 (Int32.toInt64 x2) (0 : Int64) (1 : Int64)).bind fun v4 => (if v4 = (0 : Int32) then P_Mod_ask_b23 o M1 else fw_pl (fw_set M1 o 23 (0 : Int32)) fun M6 => (if x2 = (0 : Int32) then (P_Mod_sizeOf o M6 x1).bind fun q9 => P_Mod_ask_b48 o q9.2 q9.1 else (P_Mod_markOf o M6 x1).bind fun q8 => P_Mod_ask_b48 o q8.2 q8.1)))
def P_Mod_ask (o : Nat) (M : fw_M) (a0 : Int32) (a1 : Int32) : Option (Int32 × fw_M) := P_Mod_ask_b0 o M a0 a1
set_option maxRecDepth 100000 in
theorem c_Mod_ask_b23 {p : Program} {l : Launch} {e : Env} {s : State} {m : MethodId} {args : Array Value} {below : List Frame} {meth : Method} {c : Code} {D : va_G} {cI cZ cH cR : ClassId} {N : Nat} {ad : Nat → Nat} {EE : fw_M → Nat → va_E} {o : Nat} {M : fw_M} {z : (Int32 × fw_M)} (C : fw_C p s m args meth c cX9_ask RX9 wsX9_ask 3 (some .int) D vwCl (fw_tys cI cZ cH cR) N ad fw_nw0) (ho : o_Mod EE ad N cI cZ cH cR o) (h : P_Mod_ask_b23 o M = some z) : fw_J p l e (headSpec wsX9_ask rm_Mod_ask).room s m args below meth c D vwCl N ad EE 3 0 0 (fw_E below args s D vwCl N ad EE (some (.int z.1)) z.2) M [] 23 [] := by
  unfold P_Mod_ask_b23 at h
  refine fw_ldc (pc := 23) C (v := -1000001) kX9_ask_67 dX9_ask_23 ?_
  exact fw_iret (pc := 25) C (fw_p1 h) (fw_p2 h) dX9_ask_25
set_option maxRecDepth 100000 in
theorem c_Mod_ask_b48 {p : Program} {l : Launch} {e : Env} {s : State} {m : MethodId} {args : Array Value} {below : List Frame} {meth : Method} {c : Code} {D : va_G} {cI cZ cH cR : ClassId} {N : Nat} {ad : Nat → Nat} {EE : fw_M → Nat → va_E} {o : Nat} {M : fw_M} {t0 : Int32} {z : (Int32 × fw_M)} (C : fw_C p s m args meth c cX9_ask RX9 wsX9_ask 3 (some .int) D vwCl (fw_tys cI cZ cH cR) N ad fw_nw0) (ho : o_Mod EE ad N cI cZ cH cR o) (h : P_Mod_ask_b48 o M t0 = some z) : fw_J p l e (headSpec wsX9_ask rm_Mod_ask).room s m args below meth c D vwCl N ad EE 3 0 0 (fw_E below args s D vwCl N ad EE (some (.int z.1)) z.2) M [] 48 [.int t0] := by
  unfold P_Mod_ask_b48 at h
  exact fw_iret (pc := 48) C (fw_p1 h) (fw_p2 h) dX9_ask_48
set_option maxRecDepth 100000 in
theorem c_Mod_ask_b0 {p : Program} {l : Launch} {e : Env} {s : State} {m : MethodId} {args : Array Value} {below : List Frame} {meth : Method} {c : Code} {D : va_G} {cI cZ cH cR : ClassId} {N : Nat} {ad : Nat → Nat} {EE : fw_M → Nat → va_E} {o : Nat} {M : fw_M} {x1 : Int32} {x2 : Int32} {z : (Int32 × fw_M)} (C : fw_C p s m args meth c cX9_ask RX9 wsX9_ask 3 (some .int) D vwCl (fw_tys cI cZ cH cR) N ad fw_nw0) (ho : o_Mod EE ad N cI cZ cH cR o) (h : P_Mod_ask_b0 o M x1 x2 = some z) : fw_J p l e (headSpec wsX9_ask rm_Mod_ask).room s m args below meth c D vwCl N ad EE 3 0 0 (fw_E below args s D vwCl N ad EE (some (.int z.1)) z.2) M [(0, .ref (ad o)), (1, .int x1), (2, .int x2)] 0 [] := by
  unfold P_Mod_ask_b0 at h
  refine fw_aload_n (pc := 0) C 0 dX9_ask_0 rfl rfl ?_
  refine fw_iconst (pc := 1) C (v := 0) dX9_ask_1 fk_iconst_0 ?_
  have h := fw_plh h
  refine fw_puti (pc := 2) C ho.2.1 rfl qX9_ask_47 tyX9 tyX9_ok nmX9 rfl rfl dX9_ask_2 ?_
  refine fw_aload_n (pc := 5) C 0 dX9_ask_5 rfl rfl ?_
  refine fw_iload_n (pc := 6) C 1 dX9_ask_6 rfl rfl ?_
  obtain ⟨v2, hv2, h⟩ := fw_bind h
  refine fw_callV1 (pc := 7) C (rest := []) (c_Mod_isPerson ho hv2) (cwV 1 C.2.2.2.2.1 gX9_ask_X9_isPerson rfl rfl rfl hd_Mod_isPerson ⟨Nat.le_of_ble_eq_true rfl, Nat.le_of_ble_eq_true rfl⟩) ho.1 rfl rfl ⟨Nat.zero_le _, Nat.zero_le _⟩ rfl (Nat.le_of_ble_eq_true rfl) dX9_ask_7 ?_
  refine fw_if_eq (pc := 10) C (tgt := 23) dX9_ask_10 (by decide) (fun c3 => ?_) (fun c3 => ?_)
  · have h := fw_ift h c3
    exact fw_sub [] rfl (c_Mod_ask_b23 C ho h)
  · have h := fw_iff h c3
    refine fw_iload_n (pc := 13) C 2 dX9_ask_13 rfl rfl ?_
    refine fw_i2l (pc := 14) C dX9_ask_14 ?_
    refine fw_lconst (pc := 15) C (v := 0) dX9_ask_15 fk_lconst_0 ?_
    refine fw_lconst (pc := 16) C (v := 1) dX9_ask_16 fk_lconst_1 ?_
    obtain ⟨v4, hv4, h⟩ := fw_bind h
    refine fw_callS1 (pc := 17) C (rest := []) (c_Mod_in  hv4) (va_cwS 3 C.2.2.2.2.1 gX9_ask_X9_in rfl rfl rfl hd_Mod_in.2 ⟨Nat.le_of_ble_eq_true rfl, Nat.le_of_ble_eq_true rfl⟩) rfl ⟨Nat.zero_le _, Nat.zero_le _⟩ rfl (Nat.le_of_ble_eq_true rfl) dX9_ask_17 ?_
    refine fw_if_ne (pc := 20) C (tgt := 26) dX9_ask_20 (by decide) (fun c5 => ?_) (fun c5 => ?_)
    · have h := fw_iff h c5
      refine fw_aload_n (pc := 26) C 0 dX9_ask_26 rfl rfl ?_
      refine fw_iconst (pc := 27) C (v := 0) dX9_ask_27 fk_iconst_0 ?_
      have h := fw_plh h
      refine fw_puti (pc := 28) C ho.2.2.2.2.2.2.2.2.2.2.2.2.2.2.2.2.2.2.2.2.2.2.2.2 rfl qX9_ask_242 tyX9 tyX9_ok nmX9 rfl rfl dX9_ask_28 ?_
      refine fw_iload_n (pc := 31) C 2 dX9_ask_31 rfl rfl ?_
      refine fw_if_ne (pc := 32) C (tgt := 43) dX9_ask_32 (by decide) (fun c7 => ?_) (fun c7 => ?_)
      · have h := fw_iff h c7
        refine fw_aload_n (pc := 43) C 0 dX9_ask_43 rfl rfl ?_
        refine fw_iload_n (pc := 44) C 1 dX9_ask_44 rfl rfl ?_
        obtain ⟨q8, hq8, h⟩ := fw_bind h
        refine fw_callV1 (pc := 45) C (rest := []) (c_Mod_markOf ho hq8) (cwV 1 C.2.2.2.2.1 gX9_ask_X9_markOf rfl rfl rfl hd_Mod_markOf ⟨Nat.le_of_ble_eq_true rfl, Nat.le_of_ble_eq_true rfl⟩) ho.1 rfl rfl ⟨Nat.zero_le _, Nat.zero_le _⟩ rfl (Nat.le_of_ble_eq_true rfl) dX9_ask_45 ?_
        exact fw_sub [] rfl (c_Mod_ask_b48 C ho h)
      · have h := fw_ift h c7
        refine fw_aload_n (pc := 35) C 0 dX9_ask_35 rfl rfl ?_
        refine fw_iload_n (pc := 36) C 1 dX9_ask_36 rfl rfl ?_
        obtain ⟨q9, hq9, h⟩ := fw_bind h
        refine fw_callV1 (pc := 37) C (rest := []) (c_Mod_sizeOf ho hq9) (cwV 1 C.2.2.2.2.1 gX9_ask_X9_sizeOf rfl rfl rfl hd_Mod_sizeOf ⟨Nat.le_of_ble_eq_true rfl, Nat.le_of_ble_eq_true rfl⟩) ho.1 rfl rfl ⟨Nat.zero_le _, Nat.zero_le _⟩ rfl (Nat.le_of_ble_eq_true rfl) dX9_ask_37 ?_
        refine fw_goto (pc := 40) C (tgt := 48) dX9_ask_40 (by decide) ?_
        exact fw_sub [] rfl (c_Mod_ask_b48 C ho h)
    · have h := fw_ift h c5
      exact fw_sub [] rfl (c_Mod_ask_b23 C ho h)
theorem c_Mod_ask {l : Launch} {D : va_G} {cI cZ cH cR : ClassId} {N : Nat} {ad : Nat → Nat} {EE : fw_M → Nat → va_E} {o : Nat} {M : fw_M} {a0 : Int32} {a1 : Int32} {z : (Int32 × fw_M)} (ho : o_Mod EE ad N cI cZ cH cR o) (h : P_Mod_ask o M a0 a1 = some z) : fw_Met l yX9_ask wsX9_ask rm_Mod_ask D vwCl (fw_tys cI cZ cH cR) N ad fw_nw0 EE [.ref (ad o), .int a0, .int a1] M (some (.int z.1)) z.2 := by
  unfold P_Mod_ask at h
  exact fw_intro (cc := cX9_ask) (maxL := 3) (ret := some .int) (own := RX9) (by decide) rfl rfl (Nat.le_of_ble_eq_true rfl) (fun p e s m args below meth c C => fw_sub [0, 1, 2] rfl (c_Mod_ask_b0 C ho h))
abbrev rm_Mod_trace : Room := { frames := 1, cells := 0, slots := 0, locals := 25 }
theorem hd_Mod_trace : yX9_trace.cls = RX9 ∧ yX9_trace.cls ≠ "java/lang/invoke/MethodHandle" ∧ yX9_trace.cls ≠ "java/lang/invoke/VarHandle" ∧ (parseMethodDescriptor yX9_trace.desc).map (fun d => d.parameters.length) = some 1 := by decide +kernel
theorem qX9_trace_47 : fw_G wsX9_trace RX9 47 RX9 TX9 24 0 := ⟨by decide +kernel, by decide +kernel, by decide⟩
theorem qX9_trace_242 : fw_G wsX9_trace RX9 242 RX9 TX9 24 23 := ⟨by decide +kernel, by decide +kernel, by decide⟩
theorem qX9_trace_44 : fw_G wsX9_trace RX9 44 RX9 TX9 24 22 := ⟨by decide +kernel, by decide +kernel, by decide⟩
theorem kX9_trace_90 : Cond.constant RX9 90 (-1000000) ∈ wsX9_trace := by decide +kernel
def P_Mod_trace_b32 (o : Nat) (M : fw_M) (t0 : Int32) : Option (Int32 × fw_M) := some (t0, M)
def P_Mod_trace_b0 (o : Nat) (M : fw_M) (x1 : Int32) : Option (Int32 × fw_M) := fw_pl (fw_set M o 0 (0 : Int32)) fun M1 => (P_Mod_in M1 (Int32.toInt64 x1) (0 : Int64) (Int32.toInt64 ((M1 o 23) - (1 : Int32)))).bind fun v2 => (if v2 = (0 : Int32) then P_Mod_trace_b32 o M1 (-1000000 : Int32) else (fw_ald M1 (o + 12) 16 x1).bind fun v4 => P_Mod_trace_b32 o M1 v4)
def P_Mod_trace (o : Nat) (M : fw_M) (a0 : Int32) : Option (Int32 × fw_M) := P_Mod_trace_b0 o M a0
set_option maxRecDepth 100000 in
theorem c_Mod_trace_b32 {p : Program} {l : Launch} {e : Env} {s : State} {m : MethodId} {args : Array Value} {below : List Frame} {meth : Method} {c : Code} {D : va_G} {cI cZ cH cR : ClassId} {N : Nat} {ad : Nat → Nat} {EE : fw_M → Nat → va_E} {o : Nat} {M : fw_M} {t0 : Int32} {z : (Int32 × fw_M)} (C : fw_C p s m args meth c cX9_trace RX9 wsX9_trace 2 (some .int) D vwCl (fw_tys cI cZ cH cR) N ad fw_nw0) (ho : o_Mod EE ad N cI cZ cH cR o) (h : P_Mod_trace_b32 o M t0 = some z) : fw_J p l e (headSpec wsX9_trace rm_Mod_trace).room s m args below meth c D vwCl N ad EE 2 0 0 (fw_E below args s D vwCl N ad EE (some (.int z.1)) z.2) M [] 32 [.int t0] := by
  unfold P_Mod_trace_b32 at h
  exact fw_iret (pc := 32) C (fw_p1 h) (fw_p2 h) dX9_trace_32
set_option maxRecDepth 100000 in
theorem c_Mod_trace_b0 {p : Program} {l : Launch} {e : Env} {s : State} {m : MethodId} {args : Array Value} {below : List Frame} {meth : Method} {c : Code} {D : va_G} {cI cZ cH cR : ClassId} {N : Nat} {ad : Nat → Nat} {EE : fw_M → Nat → va_E} {o : Nat} {M : fw_M} {x1 : Int32} {z : (Int32 × fw_M)} (C : fw_C p s m args meth c cX9_trace RX9 wsX9_trace 2 (some .int) D vwCl (fw_tys cI cZ cH cR) N ad fw_nw0) (ho : o_Mod EE ad N cI cZ cH cR o) (h : P_Mod_trace_b0 o M x1 = some z) : fw_J p l e (headSpec wsX9_trace rm_Mod_trace).room s m args below meth c D vwCl N ad EE 2 0 0 (fw_E below args s D vwCl N ad EE (some (.int z.1)) z.2) M [(0, .ref (ad o)), (1, .int x1)] 0 [] := by
  unfold P_Mod_trace_b0 at h
  refine fw_aload_n (pc := 0) C 0 dX9_trace_0 rfl rfl ?_
  refine fw_iconst (pc := 1) C (v := 0) dX9_trace_1 fk_iconst_0 ?_
  have h := fw_plh h
  refine fw_puti (pc := 2) C ho.2.1 rfl qX9_trace_47 tyX9 tyX9_ok nmX9 rfl rfl dX9_trace_2 ?_
  refine fw_iload_n (pc := 5) C 1 dX9_trace_5 rfl rfl ?_
  refine fw_i2l (pc := 6) C dX9_trace_6 ?_
  refine fw_lconst (pc := 7) C (v := 0) dX9_trace_7 fk_lconst_0 ?_
  refine fw_aload_n (pc := 8) C 0 dX9_trace_8 rfl rfl ?_
  refine fw_geti (pc := 9) C ho.2.2.2.2.2.2.2.2.2.2.2.2.2.2.2.2.2.2.2.2.2.2.2.2 rfl qX9_trace_242 dX9_trace_9 ?_
  refine fw_iconst (pc := 12) C (v := 1) dX9_trace_12 fk_iconst_1 ?_
  refine fw_isub (pc := 13) C dX9_trace_13 ?_
  refine fw_i2l (pc := 14) C dX9_trace_14 ?_
  obtain ⟨v2, hv2, h⟩ := fw_bind h
  refine fw_callS1 (pc := 15) C (rest := []) (c_Mod_in  hv2) (va_cwS 3 C.2.2.2.2.1 gX9_trace_X9_in rfl rfl rfl hd_Mod_in.2 ⟨Nat.le_of_ble_eq_true rfl, Nat.le_of_ble_eq_true rfl⟩) rfl ⟨Nat.zero_le _, Nat.zero_le _⟩ rfl (Nat.le_of_ble_eq_true rfl) dX9_trace_15 ?_
  refine fw_if_eq (pc := 18) C (tgt := 30) dX9_trace_18 (by decide) (fun c3 => ?_) (fun c3 => ?_)
  · have h := fw_ift h c3
    refine fw_ldc (pc := 30) C (v := -1000000) kX9_trace_90 dX9_trace_30 ?_
    exact fw_sub [] rfl (c_Mod_trace_b32 C ho h)
  · have h := fw_iff h c3
    refine fw_aload_n (pc := 21) C 0 dX9_trace_21 rfl rfl ?_
    refine fw_getr (pc := 22) C ho.2.2.2.2.2.2.2.2.2.2.2.2.2.2.2.2.2.2.2.2.2.2.2.1.1 rfl qX9_trace_44 dX9_trace_22 ?_
    refine fw_iload_n (pc := 25) C 1 dX9_trace_25 rfl rfl ?_
    obtain ⟨v4, hv4, h⟩ := fw_bind h
    refine fw_iald (pc := 26) C 0 ho.2.2.2.2.2.2.2.2.2.2.2.2.2.2.2.2.2.2.2.2.2.2.2.1.2 rfl hv4 dX9_trace_26 ?_
    refine fw_goto (pc := 27) C (tgt := 32) dX9_trace_27 (by decide) ?_
    exact fw_sub [] rfl (c_Mod_trace_b32 C ho h)
theorem c_Mod_trace {l : Launch} {D : va_G} {cI cZ cH cR : ClassId} {N : Nat} {ad : Nat → Nat} {EE : fw_M → Nat → va_E} {o : Nat} {M : fw_M} {a0 : Int32} {z : (Int32 × fw_M)} (ho : o_Mod EE ad N cI cZ cH cR o) (h : P_Mod_trace o M a0 = some z) : fw_Met l yX9_trace wsX9_trace rm_Mod_trace D vwCl (fw_tys cI cZ cH cR) N ad fw_nw0 EE [.ref (ad o), .int a0] M (some (.int z.1)) z.2 := by
  unfold P_Mod_trace at h
  exact fw_intro (cc := cX9_trace) (maxL := 2) (ret := some .int) (own := RX9) (by decide) rfl rfl (Nat.le_of_ble_eq_true rfl) (fun p e s m args below meth c C => fw_sub [0, 1] rfl (c_Mod_trace_b0 C ho h))
abbrev rm_Mod_count : Room := { frames := 2, cells := 0, slots := 0, locals := 44 }
theorem hd_Mod_count : yX9_count.cls = RX9 ∧ yX9_count.cls ≠ "java/lang/invoke/MethodHandle" ∧ yX9_count.cls ≠ "java/lang/invoke/VarHandle" ∧ (parseMethodDescriptor yX9_count.desc).map (fun d => d.parameters.length) = some 1 := by decide +kernel
theorem qX9_count_47 : fw_G wsX9_count RX9 47 RX9 TX9 24 0 := ⟨by decide +kernel, by decide +kernel, by decide⟩
theorem kX9_count_67 : Cond.constant RX9 67 (-1000001) ∈ wsX9_count := by decide +kernel
theorem qX9_count_74 : fw_G wsX9_count RX9 74 RX9 TX9 24 11 := ⟨by decide +kernel, by decide +kernel, by decide⟩
theorem qX9_count_146 : fw_G wsX9_count RX9 146 RX9 TX9 24 9 := ⟨by decide +kernel, by decide +kernel, by decide⟩
theorem qX9_count_19 : fw_G wsX9_count RX9 19 RX9 TX9 24 5 := ⟨by decide +kernel, by decide +kernel, by decide⟩
theorem qX9_count_7 : fw_G wsX9_count RX9 7 RX9 TX9 24 2 := ⟨by decide +kernel, by decide +kernel, by decide⟩
def P_Mod_count_b79 (o : Nat) (K58 : fw_M → Int32 → Int32 → Option (Int32 × fw_M)) (M : fw_M) (x3 : Int32) (t0 : Int32) (t1 : Int32) : Option (Int32 × fw_M) := fw_pl ((t0 + t1)) fun y1 => K58 M y1 (x3 + (1 : Int32))
def P_Mod_count_b58 (o : Nat) (K58 : fw_M → Int32 → Int32 → Option (Int32 × fw_M)) (M : fw_M) (x2 : Int32) (x3 : Int32) : Option (Int32 × fw_M) := (if (8 : Int32) ≤ x3 then some (x2, M) else (fw_ald M (o + 1) 8 x3).bind fun v2 => (if v2 < (0 : Int32) then P_Mod_count_b79 o K58 M x3 x2 (0 : Int32) else P_Mod_count_b79 o K58 M x3 x2 (1 : Int32)))
def P_Mod_count_h58 (o : Nat) : Nat → fw_M → Int32 → Int32 → Option (Int32 × fw_M)
  | 0, _, _, _ => none
  | n + 1, M, x2, x3 => P_Mod_count_b58 o (P_Mod_count_h58 o n) M x2 x3
def P_Mod_count_b142 (o : Nat) (K112 : fw_M → Int32 → Int32 → Option (Int32 × fw_M)) (M : fw_M) (x3 : Int32) (t0 : Int32) (t1 : Int32) : Option (Int32 × fw_M) := fw_pl ((t0 ||| t1)) fun y1 => K112 M y1 (x3 + (1 : Int32))
def P_Mod_count_b112 (o : Nat) (K112 : fw_M → Int32 → Int32 → Option (Int32 × fw_M)) (M : fw_M) (x2 : Int32) (x3 : Int32) : Option (Int32 × fw_M) := (fw_ald M (o + 4) 39 (2 : Int32)).bind fun v1 => (if v1 ≤ x3 then some (x2, M) else (P_Mod_of (o + 4) M x3 (3 : Int32)).bind fun v3 => (if (0 : Int32) ≤ v3 then P_Mod_count_b142 o K112 M x3 x2 (0 : Int32) else P_Mod_count_b142 o K112 M x3 x2 ((1 : Int32) <<< (x3 &&& 31))))
def P_Mod_count_h112 (o : Nat) : Nat → fw_M → Int32 → Int32 → Option (Int32 × fw_M)
  | 0, _, _, _ => none
  | n + 1, M, x2, x3 => P_Mod_count_b112 o (P_Mod_count_h112 o n) M x2 x3
def P_Mod_count_b0 (o : Nat) (M : fw_M) (x1 : Int32) : Option (Int32 × fw_M) := fw_pl (fw_set M o 0 (0 : Int32)) fun M1 => (if x1 = (0 : Int32) then P_Mod_count_h58 o fw_fu M1 (0 : Int32) (0 : Int32) else (if x1 = (1 : Int32) then (fw_ald M1 (o + 4) 39 (0 : Int32)).bind fun v4 => some (v4, M1) else (if x1 = (2 : Int32) then (fw_ald M1 (o + 4) 39 (2 : Int32)).bind fun v6 => some (v6, M1) else (if x1 = (3 : Int32) then (fw_ald M1 (o + 4) 39 (3 : Int32)).bind fun v8 => some (v8, M1) else (if x1 = (4 : Int32) then P_Mod_count_h112 o fw_fu M1 (0 : Int32) (0 : Int32) else (if x1 = (5 : Int32) then (P_Mod_nobodies (o + 4) M1).bind fun v11 => some (v11, M1) else (if x1 = (6 : Int32) then some ((M1 o 9), M1) else (if x1 = (7 : Int32) then some ((M1 o 11), M1) else some ((-1000001 : Int32), M1)))))))))
def P_Mod_count (o : Nat) (M : fw_M) (a0 : Int32) : Option (Int32 × fw_M) := P_Mod_count_b0 o M a0
set_option maxRecDepth 100000 in
theorem c_Mod_count_b79 {p : Program} {l : Launch} {e : Env} {s : State} {m : MethodId} {args : Array Value} {below : List Frame} {meth : Method} {c : Code} {D : va_G} {cI cZ cH cR : ClassId} {N : Nat} {ad : Nat → Nat} {EE : fw_M → Nat → va_E} {o : Nat} {K58 : fw_M → Int32 → Int32 → Option (Int32 × fw_M)} {M : fw_M} {x3 : Int32} {t0 : Int32} {t1 : Int32} {z : (Int32 × fw_M)} (C : fw_C p s m args meth c cX9_count RX9 wsX9_count 4 (some .int) D vwCl (fw_tys cI cZ cH cR) N ad fw_nw0) (ho : o_Mod EE ad N cI cZ cH cR o) (hK58 : ∀ (Mk : fw_M) (kx2 : Int32) (kx3 : Int32), K58 Mk kx2 kx3 = some z → fw_J p l e (headSpec wsX9_count rm_Mod_count).room s m args below meth c D vwCl N ad EE 4 0 0 (fw_E below args s D vwCl N ad EE (some (.int z.1)) z.2) Mk [(0, .ref (ad o)), (2, .int kx2), (3, .int kx3)] 58 []) (h : P_Mod_count_b79 o K58 M x3 t0 t1 = some z) : fw_J p l e (headSpec wsX9_count rm_Mod_count).room s m args below meth c D vwCl N ad EE 4 0 0 (fw_E below args s D vwCl N ad EE (some (.int z.1)) z.2) M [(0, .ref (ad o)), (3, .int x3)] 79 [.int t1, .int t0] := by
  unfold P_Mod_count_b79 at h
  refine fw_iadd (pc := 79) C dX9_count_79 ?_
  have h := fw_plh h
  refine fw_istore_n (pc := 80) C (L2 := [(0, .ref _), (2, .int _), (3, .int _)]) [1, 0, 2] dX9_count_80 rfl (by decide) rfl ?_
  refine fw_iinc (pc := 81) C (v := 1) (L2 := [(0, .ref _), (2, .int _), (3, .int _)]) 2 [1, 2, 0] dX9_count_81 rfl fk_iconst_1 (by decide) rfl ?_
  refine fw_goto (pc := 84) C (tgt := 58) dX9_count_84 (by decide) ?_
  exact (hK58 _ _ _ h)
set_option maxRecDepth 100000 in
theorem c_Mod_count_b58 {p : Program} {l : Launch} {e : Env} {s : State} {m : MethodId} {args : Array Value} {below : List Frame} {meth : Method} {c : Code} {D : va_G} {cI cZ cH cR : ClassId} {N : Nat} {ad : Nat → Nat} {EE : fw_M → Nat → va_E} {o : Nat} {K58 : fw_M → Int32 → Int32 → Option (Int32 × fw_M)} {M : fw_M} {x2 : Int32} {x3 : Int32} {z : (Int32 × fw_M)} (C : fw_C p s m args meth c cX9_count RX9 wsX9_count 4 (some .int) D vwCl (fw_tys cI cZ cH cR) N ad fw_nw0) (ho : o_Mod EE ad N cI cZ cH cR o) (hK58 : ∀ (Mk : fw_M) (kx2 : Int32) (kx3 : Int32), K58 Mk kx2 kx3 = some z → fw_J p l e (headSpec wsX9_count rm_Mod_count).room s m args below meth c D vwCl N ad EE 4 0 0 (fw_E below args s D vwCl N ad EE (some (.int z.1)) z.2) Mk [(0, .ref (ad o)), (2, .int kx2), (3, .int kx3)] 58 []) (h : P_Mod_count_b58 o K58 M x2 x3 = some z) : fw_J p l e (headSpec wsX9_count rm_Mod_count).room s m args below meth c D vwCl N ad EE 4 0 0 (fw_E below args s D vwCl N ad EE (some (.int z.1)) z.2) M [(0, .ref (ad o)), (2, .int x2), (3, .int x3)] 58 [] := by
  unfold P_Mod_count_b58 at h
  refine fw_iload_n (pc := 58) C 2 dX9_count_58 rfl rfl ?_
  refine fw_bipush (pc := 59) C (v := 8) dX9_count_59 fk_bipush_8 ?_
  refine fw_icmp_ge (pc := 61) C (tgt := 87) dX9_count_61 (by decide) (fun c1 => ?_) (fun c1 => ?_)
  · have h := fw_ift h c1
    refine fw_iload_n (pc := 87) C 1 dX9_count_87 rfl rfl ?_
    exact fw_iret (pc := 88) C (fw_p1 h) (fw_p2 h) dX9_count_88
  · have h := fw_iff h c1
    refine fw_iload_n (pc := 64) C 1 dX9_count_64 rfl rfl ?_
    refine fw_aload_n (pc := 65) C 0 dX9_count_65 rfl rfl ?_
    refine fw_getr (pc := 66) C ho.2.2.2.1.1 rfl qX9_count_7 dX9_count_66 ?_
    refine fw_iload_n (pc := 69) C 2 dX9_count_69 rfl rfl ?_
    obtain ⟨v2, hv2, h⟩ := fw_bind h
    refine fw_iald (pc := 70) C 0 ho.2.2.2.1.2 rfl hv2 dX9_count_70 ?_
    refine fw_if_lt (pc := 71) C (tgt := 78) dX9_count_71 (by decide) (fun c3 => ?_) (fun c3 => ?_)
    · have h := fw_ift h c3
      refine fw_iconst (pc := 78) C (v := 0) dX9_count_78 fk_iconst_0 ?_
      exact fw_sub [0, 2] rfl (c_Mod_count_b79 C ho hK58 h)
    · have h := fw_iff h c3
      refine fw_iconst (pc := 74) C (v := 1) dX9_count_74 fk_iconst_1 ?_
      refine fw_goto (pc := 75) C (tgt := 79) dX9_count_75 (by decide) ?_
      exact fw_sub [0, 2] rfl (c_Mod_count_b79 C ho hK58 h)
theorem c_Mod_count_h58 {p : Program} {l : Launch} {e : Env} {s : State} {m : MethodId} {args : Array Value} {below : List Frame} {meth : Method} {c : Code} {D : va_G} {cI cZ cH cR : ClassId} {N : Nat} {ad : Nat → Nat} {EE : fw_M → Nat → va_E} {o : Nat} {z : (Int32 × fw_M)} (C : fw_C p s m args meth c cX9_count RX9 wsX9_count 4 (some .int) D vwCl (fw_tys cI cZ cH cR) N ad fw_nw0) (ho : o_Mod EE ad N cI cZ cH cR o) : ∀ (n : Nat) (M : fw_M) (x2 : Int32) (x3 : Int32), P_Mod_count_h58 o n M x2 x3 = some z → fw_J p l e (headSpec wsX9_count rm_Mod_count).room s m args below meth c D vwCl N ad EE 4 0 0 (fw_E below args s D vwCl N ad EE (some (.int z.1)) z.2) M [(0, .ref (ad o)), (2, .int x2), (3, .int x3)] 58 [] := by
  intro n
  induction n with
  | zero => intro M x2 x3  h; cases h
  | succ n ih => intro M x2 x3  h; exact c_Mod_count_b58 C ho ih  h
set_option maxRecDepth 100000 in
theorem c_Mod_count_b142 {p : Program} {l : Launch} {e : Env} {s : State} {m : MethodId} {args : Array Value} {below : List Frame} {meth : Method} {c : Code} {D : va_G} {cI cZ cH cR : ClassId} {N : Nat} {ad : Nat → Nat} {EE : fw_M → Nat → va_E} {o : Nat} {K112 : fw_M → Int32 → Int32 → Option (Int32 × fw_M)} {M : fw_M} {x3 : Int32} {t0 : Int32} {t1 : Int32} {z : (Int32 × fw_M)} (C : fw_C p s m args meth c cX9_count RX9 wsX9_count 4 (some .int) D vwCl (fw_tys cI cZ cH cR) N ad fw_nw0) (ho : o_Mod EE ad N cI cZ cH cR o) (hK112 : ∀ (Mk : fw_M) (kx2 : Int32) (kx3 : Int32), K112 Mk kx2 kx3 = some z → fw_J p l e (headSpec wsX9_count rm_Mod_count).room s m args below meth c D vwCl N ad EE 4 0 0 (fw_E below args s D vwCl N ad EE (some (.int z.1)) z.2) Mk [(0, .ref (ad o)), (2, .int kx2), (3, .int kx3)] 112 []) (h : P_Mod_count_b142 o K112 M x3 t0 t1 = some z) : fw_J p l e (headSpec wsX9_count rm_Mod_count).room s m args below meth c D vwCl N ad EE 4 0 0 (fw_E below args s D vwCl N ad EE (some (.int z.1)) z.2) M [(0, .ref (ad o)), (3, .int x3)] 142 [.int t1, .int t0] := by
  unfold P_Mod_count_b142 at h
  refine fw_ior (pc := 142) C dX9_count_142 ?_
  have h := fw_plh h
  refine fw_istore_n (pc := 143) C (L2 := [(0, .ref _), (2, .int _), (3, .int _)]) [1, 0, 2] dX9_count_143 rfl (by decide) rfl ?_
  refine fw_iinc (pc := 144) C (v := 1) (L2 := [(0, .ref _), (2, .int _), (3, .int _)]) 2 [1, 2, 0] dX9_count_144 rfl fk_iconst_1 (by decide) rfl ?_
  refine fw_goto (pc := 147) C (tgt := 112) dX9_count_147 (by decide) ?_
  exact (hK112 _ _ _ h)
set_option maxRecDepth 100000 in
theorem c_Mod_count_b112 {p : Program} {l : Launch} {e : Env} {s : State} {m : MethodId} {args : Array Value} {below : List Frame} {meth : Method} {c : Code} {D : va_G} {cI cZ cH cR : ClassId} {N : Nat} {ad : Nat → Nat} {EE : fw_M → Nat → va_E} {o : Nat} {K112 : fw_M → Int32 → Int32 → Option (Int32 × fw_M)} {M : fw_M} {x2 : Int32} {x3 : Int32} {z : (Int32 × fw_M)} (C : fw_C p s m args meth c cX9_count RX9 wsX9_count 4 (some .int) D vwCl (fw_tys cI cZ cH cR) N ad fw_nw0) (ho : o_Mod EE ad N cI cZ cH cR o) (hK112 : ∀ (Mk : fw_M) (kx2 : Int32) (kx3 : Int32), K112 Mk kx2 kx3 = some z → fw_J p l e (headSpec wsX9_count rm_Mod_count).room s m args below meth c D vwCl N ad EE 4 0 0 (fw_E below args s D vwCl N ad EE (some (.int z.1)) z.2) Mk [(0, .ref (ad o)), (2, .int kx2), (3, .int kx3)] 112 []) (h : P_Mod_count_b112 o K112 M x2 x3 = some z) : fw_J p l e (headSpec wsX9_count rm_Mod_count).room s m args below meth c D vwCl N ad EE 4 0 0 (fw_E below args s D vwCl N ad EE (some (.int z.1)) z.2) M [(0, .ref (ad o)), (2, .int x2), (3, .int x3)] 112 [] := by
  unfold P_Mod_count_b112 at h
  refine fw_iload_n (pc := 112) C 2 dX9_count_112 rfl rfl ?_
  refine fw_aload_n (pc := 113) C 0 dX9_count_113 rfl rfl ?_
  refine fw_getr (pc := 114) C ho.2.2.2.2.2.2.1.1 rfl qX9_count_19 dX9_count_114 ?_
  refine fw_iconst (pc := 117) C (v := 2) dX9_count_117 fk_iconst_2 ?_
  obtain ⟨v1, hv1, h⟩ := fw_bind h
  refine fw_iald (pc := 118) C 0 ho.2.2.2.2.2.2.1.2 rfl hv1 dX9_count_118 ?_
  refine fw_icmp_ge (pc := 119) C (tgt := 150) dX9_count_119 (by decide) (fun c2 => ?_) (fun c2 => ?_)
  · have h := fw_ift h c2
    refine fw_iload_n (pc := 150) C 1 dX9_count_150 rfl rfl ?_
    exact fw_iret (pc := 151) C (fw_p1 h) (fw_p2 h) dX9_count_151
  · have h := fw_iff h c2
    refine fw_iload_n (pc := 122) C 1 dX9_count_122 rfl rfl ?_
    refine fw_aload_n (pc := 123) C 0 dX9_count_123 rfl rfl ?_
    refine fw_getr (pc := 124) C ho.2.2.2.2.2.2.1.1 rfl qX9_count_19 dX9_count_124 ?_
    refine fw_iload_n (pc := 127) C 2 dX9_count_127 rfl rfl ?_
    refine fw_iconst (pc := 128) C (v := 3) dX9_count_128 fk_iconst_3 ?_
    obtain ⟨v3, hv3, h⟩ := fw_bind h
    refine fw_callS1 (pc := 129) C (rest := [_]) (c_Mod_of ho.2.2.2.2.2.2.1.2 hv3) (va_cwS 3 C.2.2.2.2.1 gX9_count_X9_of rfl rfl rfl hd_Mod_of.2 ⟨Nat.le_of_ble_eq_true rfl, Nat.le_of_ble_eq_true rfl⟩) rfl ⟨Nat.zero_le _, Nat.zero_le _⟩ rfl (Nat.le_of_ble_eq_true rfl) dX9_count_129 ?_
    refine fw_if_ge (pc := 132) C (tgt := 141) dX9_count_132 (by decide) (fun c4 => ?_) (fun c4 => ?_)
    · have h := fw_ift h c4
      refine fw_iconst (pc := 141) C (v := 0) dX9_count_141 fk_iconst_0 ?_
      exact fw_sub [0, 2] rfl (c_Mod_count_b142 C ho hK112 h)
    · have h := fw_iff h c4
      refine fw_iconst (pc := 135) C (v := 1) dX9_count_135 fk_iconst_1 ?_
      refine fw_iload_n (pc := 136) C 2 dX9_count_136 rfl rfl ?_
      refine fw_ishl (pc := 137) C dX9_count_137 ?_
      refine fw_goto (pc := 138) C (tgt := 142) dX9_count_138 (by decide) ?_
      exact fw_sub [0, 2] rfl (c_Mod_count_b142 C ho hK112 h)
theorem c_Mod_count_h112 {p : Program} {l : Launch} {e : Env} {s : State} {m : MethodId} {args : Array Value} {below : List Frame} {meth : Method} {c : Code} {D : va_G} {cI cZ cH cR : ClassId} {N : Nat} {ad : Nat → Nat} {EE : fw_M → Nat → va_E} {o : Nat} {z : (Int32 × fw_M)} (C : fw_C p s m args meth c cX9_count RX9 wsX9_count 4 (some .int) D vwCl (fw_tys cI cZ cH cR) N ad fw_nw0) (ho : o_Mod EE ad N cI cZ cH cR o) : ∀ (n : Nat) (M : fw_M) (x2 : Int32) (x3 : Int32), P_Mod_count_h112 o n M x2 x3 = some z → fw_J p l e (headSpec wsX9_count rm_Mod_count).room s m args below meth c D vwCl N ad EE 4 0 0 (fw_E below args s D vwCl N ad EE (some (.int z.1)) z.2) M [(0, .ref (ad o)), (2, .int x2), (3, .int x3)] 112 [] := by
  intro n
  induction n with
  | zero => intro M x2 x3  h; cases h
  | succ n ih => intro M x2 x3  h; exact c_Mod_count_b112 C ho ih  h
set_option maxRecDepth 100000 in
theorem c_Mod_count_b0 {p : Program} {l : Launch} {e : Env} {s : State} {m : MethodId} {args : Array Value} {below : List Frame} {meth : Method} {c : Code} {D : va_G} {cI cZ cH cR : ClassId} {N : Nat} {ad : Nat → Nat} {EE : fw_M → Nat → va_E} {o : Nat} {M : fw_M} {x1 : Int32} {z : (Int32 × fw_M)} (C : fw_C p s m args meth c cX9_count RX9 wsX9_count 4 (some .int) D vwCl (fw_tys cI cZ cH cR) N ad fw_nw0) (ho : o_Mod EE ad N cI cZ cH cR o) (h : P_Mod_count_b0 o M x1 = some z) : fw_J p l e (headSpec wsX9_count rm_Mod_count).room s m args below meth c D vwCl N ad EE 4 0 0 (fw_E below args s D vwCl N ad EE (some (.int z.1)) z.2) M [(0, .ref (ad o)), (1, .int x1)] 0 [] := by
  unfold P_Mod_count_b0 at h
  refine fw_aload_n (pc := 0) C 0 dX9_count_0 rfl rfl ?_
  refine fw_iconst (pc := 1) C (v := 0) dX9_count_1 fk_iconst_0 ?_
  have h := fw_plh h
  refine fw_puti (pc := 2) C ho.2.1 rfl qX9_count_47 tyX9 tyX9_ok nmX9 rfl rfl dX9_count_2 ?_
  refine fw_iconst (pc := 5) C (v := 0) dX9_count_5 fk_iconst_0 ?_
  refine fw_istore_n (pc := 6) C (L2 := [(0, .ref _), (1, .int _), (2, .int _)]) [1, 2, 0] dX9_count_6 rfl (by decide) rfl ?_
  refine fw_iload_n (pc := 7) C 1 dX9_count_7 rfl rfl ?_
  rcases fw_cs h with ⟨c2, h⟩ | ⟨c2, h⟩
  · refine fw_tsin (pc := 8) C dX9_count_8 c2 (v := 0) (off := 48) (by decide) (tgt := 56) (by decide) ?_
    refine fw_iconst (pc := 56) C (v := 0) dX9_count_56 fk_iconst_0 ?_
    refine fw_istore_n (pc := 57) C (L2 := [(0, .ref _), (1, .int _), (2, .int _), (3, .int _)]) [1, 2, 3, 0] dX9_count_57 rfl (by decide) rfl ?_
    exact fw_sub [0, 2, 3] rfl (c_Mod_count_h58 C ho _ _ _ _ h)
  · rcases fw_cs h with ⟨c3, h⟩ | ⟨c3, h⟩
    · refine fw_tsin (pc := 8) C dX9_count_8 c3 (v := 1) (off := 81) (by decide) (tgt := 89) (by decide) ?_
      refine fw_aload_n (pc := 89) C 0 dX9_count_89 rfl rfl ?_
      refine fw_getr (pc := 90) C ho.2.2.2.2.2.2.1.1 rfl qX9_count_19 dX9_count_90 ?_
      refine fw_iconst (pc := 93) C (v := 0) dX9_count_93 fk_iconst_0 ?_
      obtain ⟨v4, hv4, h⟩ := fw_bind h
      refine fw_iald (pc := 94) C 0 ho.2.2.2.2.2.2.1.2 rfl hv4 dX9_count_94 ?_
      exact fw_iret (pc := 95) C (fw_p1 h) (fw_p2 h) dX9_count_95
    · rcases fw_cs h with ⟨c5, h⟩ | ⟨c5, h⟩
      · refine fw_tsin (pc := 8) C dX9_count_8 c5 (v := 2) (off := 88) (by decide) (tgt := 96) (by decide) ?_
        refine fw_aload_n (pc := 96) C 0 dX9_count_96 rfl rfl ?_
        refine fw_getr (pc := 97) C ho.2.2.2.2.2.2.1.1 rfl qX9_count_19 dX9_count_97 ?_
        refine fw_iconst (pc := 100) C (v := 2) dX9_count_100 fk_iconst_2 ?_
        obtain ⟨v6, hv6, h⟩ := fw_bind h
        refine fw_iald (pc := 101) C 0 ho.2.2.2.2.2.2.1.2 rfl hv6 dX9_count_101 ?_
        exact fw_iret (pc := 102) C (fw_p1 h) (fw_p2 h) dX9_count_102
      · rcases fw_cs h with ⟨c7, h⟩ | ⟨c7, h⟩
        · refine fw_tsin (pc := 8) C dX9_count_8 c7 (v := 3) (off := 95) (by decide) (tgt := 103) (by decide) ?_
          refine fw_aload_n (pc := 103) C 0 dX9_count_103 rfl rfl ?_
          refine fw_getr (pc := 104) C ho.2.2.2.2.2.2.1.1 rfl qX9_count_19 dX9_count_104 ?_
          refine fw_iconst (pc := 107) C (v := 3) dX9_count_107 fk_iconst_3 ?_
          obtain ⟨v8, hv8, h⟩ := fw_bind h
          refine fw_iald (pc := 108) C 0 ho.2.2.2.2.2.2.1.2 rfl hv8 dX9_count_108 ?_
          exact fw_iret (pc := 109) C (fw_p1 h) (fw_p2 h) dX9_count_109
        · rcases fw_cs h with ⟨c9, h⟩ | ⟨c9, h⟩
          · refine fw_tsin (pc := 8) C dX9_count_8 c9 (v := 4) (off := 102) (by decide) (tgt := 110) (by decide) ?_
            refine fw_iconst (pc := 110) C (v := 0) dX9_count_110 fk_iconst_0 ?_
            refine fw_istore_n (pc := 111) C (L2 := [(0, .ref _), (1, .int _), (2, .int _), (3, .int _)]) [1, 2, 3, 0] dX9_count_111 rfl (by decide) rfl ?_
            exact fw_sub [0, 2, 3] rfl (c_Mod_count_h112 C ho _ _ _ _ h)
          · rcases fw_cs h with ⟨c10, h⟩ | ⟨c10, h⟩
            · refine fw_tsin (pc := 8) C dX9_count_8 c10 (v := 5) (off := 144) (by decide) (tgt := 152) (by decide) ?_
              refine fw_aload_n (pc := 152) C 0 dX9_count_152 rfl rfl ?_
              refine fw_getr (pc := 153) C ho.2.2.2.2.2.2.1.1 rfl qX9_count_19 dX9_count_153 ?_
              obtain ⟨v11, hv11, h⟩ := fw_bind h
              refine fw_callS1 (pc := 156) C (rest := []) (c_Mod_nobodies ho.2.2.2.2.2.2.1.2 hv11) (va_cwS 1 C.2.2.2.2.1 gX9_count_X9_nobodies rfl rfl rfl hd_Mod_nobodies.2 ⟨Nat.le_of_ble_eq_true rfl, Nat.le_of_ble_eq_true rfl⟩) rfl ⟨Nat.zero_le _, Nat.zero_le _⟩ rfl (Nat.le_of_ble_eq_true rfl) dX9_count_156 ?_
              exact fw_iret (pc := 159) C (fw_p1 h) (fw_p2 h) dX9_count_159
            · rcases fw_cs h with ⟨c12, h⟩ | ⟨c12, h⟩
              · refine fw_tsin (pc := 8) C dX9_count_8 c12 (v := 6) (off := 152) (by decide) (tgt := 160) (by decide) ?_
                refine fw_aload_n (pc := 160) C 0 dX9_count_160 rfl rfl ?_
                refine fw_geti (pc := 161) C ho.2.2.2.2.2.2.2.2.2.2.1 rfl qX9_count_146 dX9_count_161 ?_
                exact fw_iret (pc := 164) C (fw_p1 h) (fw_p2 h) dX9_count_164
              · rcases fw_cs h with ⟨c13, h⟩ | ⟨c13, h⟩
                · refine fw_tsin (pc := 8) C dX9_count_8 c13 (v := 7) (off := 157) (by decide) (tgt := 165) (by decide) ?_
                  refine fw_aload_n (pc := 165) C 0 dX9_count_165 rfl rfl ?_
                  refine fw_geti (pc := 166) C ho.2.2.2.2.2.2.2.2.2.2.2.2.1 rfl qX9_count_74 dX9_count_166 ?_
                  exact fw_iret (pc := 169) C (fw_p1 h) (fw_p2 h) dX9_count_169
                · refine fw_tsout (pc := 8) C dX9_count_8 (fun z z1 z2 e => ?_) (tgt := 170) (by decide) ?_
                  · subst e
                    have ec2 := lv_neT c2 (a := 0) (by decide)
                    have ec3 := lv_neT c3 (a := 1) (by decide)
                    have ec5 := lv_neT c5 (a := 2) (by decide)
                    have ec7 := lv_neT c7 (a := 3) (by decide)
                    have ec9 := lv_neT c9 (a := 4) (by decide)
                    have ec10 := lv_neT c10 (a := 5) (by decide)
                    have ec12 := lv_neT c12 (a := 6) (by decide)
                    have ec13 := lv_neT c13 (a := 7) (by decide)
                    omega
                  · refine fw_ldc (pc := 170) C (v := -1000001) kX9_count_67 dX9_count_170 ?_
                    exact fw_iret (pc := 172) C (fw_p1 h) (fw_p2 h) dX9_count_172
theorem c_Mod_count {l : Launch} {D : va_G} {cI cZ cH cR : ClassId} {N : Nat} {ad : Nat → Nat} {EE : fw_M → Nat → va_E} {o : Nat} {M : fw_M} {a0 : Int32} {z : (Int32 × fw_M)} (ho : o_Mod EE ad N cI cZ cH cR o) (h : P_Mod_count o M a0 = some z) : fw_Met l yX9_count wsX9_count rm_Mod_count D vwCl (fw_tys cI cZ cH cR) N ad fw_nw0 EE [.ref (ad o), .int a0] M (some (.int z.1)) z.2 := by
  unfold P_Mod_count at h
  exact fw_intro (cc := cX9_count) (maxL := 4) (ret := some .int) (own := RX9) (by decide) rfl rfl (Nat.le_of_ble_eq_true rfl) (fun p e s m args below meth c C => fw_sub [0, 1] rfl (c_Mod_count_b0 C ho h))
abbrev rm_Mod_status : Room := { frames := 0, cells := 0, slots := 0, locals := 0 }
theorem hd_Mod_status : yX9_status.cls = RX9 ∧ yX9_status.cls ≠ "java/lang/invoke/MethodHandle" ∧ yX9_status.cls ≠ "java/lang/invoke/VarHandle" ∧ (parseMethodDescriptor yX9_status.desc).map (fun d => d.parameters.length) = some 0 := by decide +kernel
theorem qX9_status_47 : fw_G wsX9_status RX9 47 RX9 TX9 24 0 := ⟨by decide +kernel, by decide +kernel, by decide⟩
theorem qX9_status_51 : fw_G wsX9_status RX9 51 RX9 TX9 24 1 := ⟨by decide +kernel, by decide +kernel, by decide⟩
def P_Mod_status_b0 (o : Nat) (M : fw_M) : Option (Int32 × fw_M) := fw_pl (fw_set M o 0 (0 : Int32)) fun M1 => some ((M1 o 1), M1)
def P_Mod_status (o : Nat) (M : fw_M) : Option (Int32 × fw_M) := P_Mod_status_b0 o M
set_option maxRecDepth 100000 in
theorem c_Mod_status_b0 {p : Program} {l : Launch} {e : Env} {s : State} {m : MethodId} {args : Array Value} {below : List Frame} {meth : Method} {c : Code} {D : va_G} {cI cZ cH cR : ClassId} {N : Nat} {ad : Nat → Nat} {EE : fw_M → Nat → va_E} {o : Nat} {M : fw_M} {z : (Int32 × fw_M)} (C : fw_C p s m args meth c cX9_status RX9 wsX9_status 1 (some .int) D vwCl (fw_tys cI cZ cH cR) N ad fw_nw0) (ho : o_Mod EE ad N cI cZ cH cR o) (h : P_Mod_status_b0 o M = some z) : fw_J p l e (headSpec wsX9_status rm_Mod_status).room s m args below meth c D vwCl N ad EE 1 0 0 (fw_E below args s D vwCl N ad EE (some (.int z.1)) z.2) M [(0, .ref (ad o))] 0 [] := by
  unfold P_Mod_status_b0 at h
  refine fw_aload_n (pc := 0) C 0 dX9_status_0 rfl rfl ?_
  refine fw_iconst (pc := 1) C (v := 0) dX9_status_1 fk_iconst_0 ?_
  have h := fw_plh h
  refine fw_puti (pc := 2) C ho.2.1 rfl qX9_status_47 tyX9 tyX9_ok nmX9 rfl rfl dX9_status_2 ?_
  refine fw_aload_n (pc := 5) C 0 dX9_status_5 rfl rfl ?_
  refine fw_geti (pc := 6) C ho.2.2.1 rfl qX9_status_51 dX9_status_6 ?_
  exact fw_iret (pc := 9) C (fw_p1 h) (fw_p2 h) dX9_status_9
theorem c_Mod_status {l : Launch} {D : va_G} {cI cZ cH cR : ClassId} {N : Nat} {ad : Nat → Nat} {EE : fw_M → Nat → va_E} {o : Nat} {M : fw_M} {z : (Int32 × fw_M)} (ho : o_Mod EE ad N cI cZ cH cR o) (h : P_Mod_status o M = some z) : fw_Met l yX9_status wsX9_status rm_Mod_status D vwCl (fw_tys cI cZ cH cR) N ad fw_nw0 EE [.ref (ad o)] M (some (.int z.1)) z.2 := by
  unfold P_Mod_status at h
  exact fw_intro (cc := cX9_status) (maxL := 1) (ret := some .int) (own := RX9) (by decide) rfl rfl (Nat.le_of_ble_eq_true rfl) (fun p e s m args below meth c C => fw_sub [0] rfl (c_Mod_status_b0 C ho h))
end
