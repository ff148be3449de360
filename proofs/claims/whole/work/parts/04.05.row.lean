noncomputable section
abbrev rm_Row_isMissing : Room := { frames := 0, cells := 0, slots := 0, locals := 0 }
theorem hd_Row_isMissing : yX6_isMissing.cls = RX6 ∧ yX6_isMissing.cls ≠ "java/lang/invoke/MethodHandle" ∧ yX6_isMissing.cls ≠ "java/lang/invoke/VarHandle" ∧ (parseMethodDescriptor yX6_isMissing.desc).map (fun d => d.parameters.length) = some 0 := by decide +kernel
theorem qX6_isMissing_19 : fw_G wsX6_isMissing RX6 19 RX6 TX6 3 2 := ⟨by decide +kernel, by decide +kernel, by decide⟩
def P_Row_isMissing_b13 (o : Nat) (M : fw_M) (t0 : Int32) : Option Int32 := (fw_zr t0).bind fun v1 => some v1
def P_Row_isMissing_b0 (o : Nat) (M : fw_M) : Option Int32 := (if (M o 2) = (-1 : Int32) then P_Row_isMissing_b13 o M (1 : Int32) else P_Row_isMissing_b13 o M (0 : Int32))
def P_Row_isMissing (o : Nat) (M : fw_M) : Option Int32 := P_Row_isMissing_b0 o M
set_option maxRecDepth 100000 in
theorem c_Row_isMissing_b13 {p : Program} {l : Launch} {e : Env} {s : State} {m : MethodId} {args : Array Value} {below : List Frame} {meth : Method} {c : Code} {D : va_G} {cI cZ cH cR : ClassId} {N : Nat} {ad : Nat → Nat} {EE : fw_M → Nat → va_E} {o : Nat} {M : fw_M} {t0 : Int32} {z : Int32} (C : fw_C p s m args meth c cX6_isMissing RX6 wsX6_isMissing 1 (some .boolean) D vwCl (fw_tys cI cZ cH cR) N ad fw_nw0) (ho : o_Row EE ad N cI cZ cH cR o) (h : P_Row_isMissing_b13 o M t0 = some z) : fw_J p l e (headSpec wsX6_isMissing rm_Row_isMissing).room s m args below meth c D vwCl N ad EE 1 0 0 (fw_E below args s D vwCl N ad EE (some (.int z)) M) M [] 13 [.int t0] := by
  unfold P_Row_isMissing_b13 at h
  obtain ⟨v1, hv1, h⟩ := fw_bind h
  exact fw_zret (pc := 13) C (fw_zrh hv1).1 ((fw_zrh hv1).2.trans (Option.some.inj h)) rfl dX6_isMissing_13
set_option maxRecDepth 100000 in
theorem c_Row_isMissing_b0 {p : Program} {l : Launch} {e : Env} {s : State} {m : MethodId} {args : Array Value} {below : List Frame} {meth : Method} {c : Code} {D : va_G} {cI cZ cH cR : ClassId} {N : Nat} {ad : Nat → Nat} {EE : fw_M → Nat → va_E} {o : Nat} {M : fw_M} {z : Int32} (C : fw_C p s m args meth c cX6_isMissing RX6 wsX6_isMissing 1 (some .boolean) D vwCl (fw_tys cI cZ cH cR) N ad fw_nw0) (ho : o_Row EE ad N cI cZ cH cR o) (h : P_Row_isMissing_b0 o M = some z) : fw_J p l e (headSpec wsX6_isMissing rm_Row_isMissing).room s m args below meth c D vwCl N ad EE 1 0 0 (fw_E below args s D vwCl N ad EE (some (.int z)) M) M [(0, .ref (ad o))] 0 [] := by
  unfold P_Row_isMissing_b0 at h
  refine fw_aload_n (pc := 0) C 0 dX6_isMissing_0 rfl rfl ?_
  refine fw_geti (pc := 1) C ho.2.2.2 rfl qX6_isMissing_19 dX6_isMissing_1 ?_
  refine fw_iconst (pc := 4) C (v := -1) dX6_isMissing_4 fk_iconst_m1 ?_
  refine fw_icmp_ne (pc := 5) C (tgt := 12) dX6_isMissing_5 (by decide) (fun c1 => ?_) (fun c1 => ?_)
  · have h := fw_iff h c1
    refine fw_iconst (pc := 12) C (v := 0) dX6_isMissing_12 fk_iconst_0 ?_
    exact fw_sub [] rfl (c_Row_isMissing_b13 C ho h)
  · have h := fw_ift h c1
    refine fw_iconst (pc := 8) C (v := 1) dX6_isMissing_8 fk_iconst_1 ?_
    refine fw_goto (pc := 9) C (tgt := 13) dX6_isMissing_9 (by decide) ?_
    exact fw_sub [] rfl (c_Row_isMissing_b13 C ho h)
theorem c_Row_isMissing {l : Launch} {D : va_G} {cI cZ cH cR : ClassId} {N : Nat} {ad : Nat → Nat} {EE : fw_M → Nat → va_E} {o : Nat} {M : fw_M} {z : Int32} (ho : o_Row EE ad N cI cZ cH cR o) (h : P_Row_isMissing o M = some z) : fw_Met l yX6_isMissing wsX6_isMissing rm_Row_isMissing D vwCl (fw_tys cI cZ cH cR) N ad fw_nw0 EE [.ref (ad o)] M (some (.int z)) M := by
  unfold P_Row_isMissing at h
  exact fw_intro (cc := cX6_isMissing) (maxL := 1) (ret := some .boolean) (own := RX6) (by decide) rfl rfl (Nat.le_of_ble_eq_true rfl) (fun p e s m args below meth c C => fw_sub [0] rfl (c_Row_isMissing_b0 C ho h))
abbrev rm_Row_lay : Room := { frames := 0, cells := 0, slots := 0, locals := 0 }
theorem hd_Row_lay : yX6_lay.cls = RX6 ∧ yX6_lay.cls ≠ "java/lang/invoke/MethodHandle" ∧ yX6_lay.cls ≠ "java/lang/invoke/VarHandle" ∧ (parseMethodDescriptor yX6_lay.desc).map (fun d => d.parameters.length) = some 2 := by decide +kernel
theorem qX6_lay_15 : fw_G wsX6_lay RX6 15 RX6 TX6 3 1 := ⟨by decide +kernel, by decide +kernel, by decide⟩
theorem qX6_lay_19 : fw_G wsX6_lay RX6 19 RX6 TX6 3 2 := ⟨by decide +kernel, by decide +kernel, by decide⟩
theorem qX6_lay_9 : fw_G wsX6_lay RX6 9 RX6 TX6 3 0 := ⟨by decide +kernel, by decide +kernel, by decide⟩
def P_Row_lay_b12 (o : Nat) (K12 : fw_M → Int32 → Option fw_M) (M : fw_M) (x3 : Int32) : Option fw_M := (if (40 : Int32) ≤ x3 then some M else (fw_ast M (o + 1) 40 x3 (0 : Int32)).bind fun M2 => K12 M2 (x3 + (1 : Int32)))
def P_Row_lay_h12 (o : Nat) : Nat → fw_M → Int32 → Option fw_M
  | 0, _, _ => none
  | n + 1, M, x3 => P_Row_lay_b12 o (P_Row_lay_h12 o n) M x3
def P_Row_lay_b0 (o : Nat) (M : fw_M) (x1 : Int32) (x2 : Int32) : Option fw_M := fw_pl (fw_set M o 1 x1) fun M1 => fw_pl (fw_set M1 o 2 x2) fun M2 => P_Row_lay_h12 o fw_fu M2 (0 : Int32)
def P_Row_lay (o : Nat) (M : fw_M) (a0 : Int32) (a1 : Int32) : Option fw_M := P_Row_lay_b0 o M a0 a1
set_option maxRecDepth 100000 in
theorem c_Row_lay_b12 {p : Program} {l : Launch} {e : Env} {s : State} {m : MethodId} {args : Array Value} {below : List Frame} {meth : Method} {c : Code} {D : va_G} {cI cZ cH cR : ClassId} {N : Nat} {ad : Nat → Nat} {EE : fw_M → Nat → va_E} {o : Nat} {K12 : fw_M → Int32 → Option fw_M} {M : fw_M} {x3 : Int32} {z : fw_M} (C : fw_C p s m args meth c cX6_lay RX6 wsX6_lay 4 (none) D vwCl (fw_tys cI cZ cH cR) N ad fw_nw0) (ho : o_Row EE ad N cI cZ cH cR o) (hK12 : ∀ (Mk : fw_M) (kx3 : Int32), K12 Mk kx3 = some z → fw_J p l e (headSpec wsX6_lay rm_Row_lay).room s m args below meth c D vwCl N ad EE 4 0 0 (fw_E below args s D vwCl N ad EE none z) Mk [(0, .ref (ad o)), (3, .int kx3)] 12 []) (h : P_Row_lay_b12 o K12 M x3 = some z) : fw_J p l e (headSpec wsX6_lay rm_Row_lay).room s m args below meth c D vwCl N ad EE 4 0 0 (fw_E below args s D vwCl N ad EE none z) M [(0, .ref (ad o)), (3, .int x3)] 12 [] := by
  unfold P_Row_lay_b12 at h
  refine fw_iload_n (pc := 12) C 1 dX6_lay_12 rfl rfl ?_
  refine fw_bipush (pc := 13) C (v := 40) dX6_lay_13 fk_bipush_40 ?_
  refine fw_icmp_ge (pc := 15) C (tgt := 31) dX6_lay_15 (by decide) (fun c1 => ?_) (fun c1 => ?_)
  · have h := fw_ift h c1
    exact fw_vret (pc := 31) C (Option.some.inj h) dX6_lay_31
  · have h := fw_iff h c1
    refine fw_aload_n (pc := 18) C 0 dX6_lay_18 rfl rfl ?_
    refine fw_getr (pc := 19) C ho.2.1.1 rfl qX6_lay_9 dX6_lay_19 ?_
    refine fw_iload_n (pc := 22) C 1 dX6_lay_22 rfl rfl ?_
    refine fw_iconst (pc := 23) C (v := 0) dX6_lay_23 fk_iconst_0 ?_
    obtain ⟨M2, hM2, h⟩ := fw_bind h
    refine fw_iast (pc := 24) C 0 ho.2.1.2 rfl hM2 dX6_lay_24 ?_
    refine fw_iinc (pc := 25) C (v := 1) (L2 := [(0, .ref _), (3, .int _)]) 1 [1, 0] dX6_lay_25 rfl fk_iconst_1 (by decide) rfl ?_
    refine fw_goto (pc := 28) C (tgt := 12) dX6_lay_28 (by decide) ?_
    exact (hK12 _ _ h)
theorem c_Row_lay_h12 {p : Program} {l : Launch} {e : Env} {s : State} {m : MethodId} {args : Array Value} {below : List Frame} {meth : Method} {c : Code} {D : va_G} {cI cZ cH cR : ClassId} {N : Nat} {ad : Nat → Nat} {EE : fw_M → Nat → va_E} {o : Nat} {z : fw_M} (C : fw_C p s m args meth c cX6_lay RX6 wsX6_lay 4 (none) D vwCl (fw_tys cI cZ cH cR) N ad fw_nw0) (ho : o_Row EE ad N cI cZ cH cR o) : ∀ (n : Nat) (M : fw_M) (x3 : Int32), P_Row_lay_h12 o n M x3 = some z → fw_J p l e (headSpec wsX6_lay rm_Row_lay).room s m args below meth c D vwCl N ad EE 4 0 0 (fw_E below args s D vwCl N ad EE none z) M [(0, .ref (ad o)), (3, .int x3)] 12 [] := by
  intro n
  induction n with
  | zero => intro M x3  h; cases h
  | succ n ih => intro M x3  h; exact c_Row_lay_b12 C ho ih  h
set_option maxRecDepth 100000 in
theorem c_Row_lay_b0 {p : Program} {l : Launch} {e : Env} {s : State} {m : MethodId} {args : Array Value} {below : List Frame} {meth : Method} {c : Code} {D : va_G} {cI cZ cH cR : ClassId} {N : Nat} {ad : Nat → Nat} {EE : fw_M → Nat → va_E} {o : Nat} {M : fw_M} {x1 : Int32} {x2 : Int32} {z : fw_M} (C : fw_C p s m args meth c cX6_lay RX6 wsX6_lay 4 (none) D vwCl (fw_tys cI cZ cH cR) N ad fw_nw0) (ho : o_Row EE ad N cI cZ cH cR o) (h : P_Row_lay_b0 o M x1 x2 = some z) : fw_J p l e (headSpec wsX6_lay rm_Row_lay).room s m args below meth c D vwCl N ad EE 4 0 0 (fw_E below args s D vwCl N ad EE none z) M [(0, .ref (ad o)), (1, .int x1), (2, .int x2)] 0 [] := by
  unfold P_Row_lay_b0 at h
  refine fw_aload_n (pc := 0) C 0 dX6_lay_0 rfl rfl ?_
  refine fw_iload_n (pc := 1) C 1 dX6_lay_1 rfl rfl ?_
  have h := fw_plh h
  refine fw_puti (pc := 2) C ho.2.2.1 rfl qX6_lay_15 tyX6 tyX6_ok nmX6 rfl rfl dX6_lay_2 ?_
  refine fw_aload_n (pc := 5) C 0 dX6_lay_5 rfl rfl ?_
  refine fw_iload_n (pc := 6) C 2 dX6_lay_6 rfl rfl ?_
  have h := fw_plh h
  refine fw_puti (pc := 7) C ho.2.2.2 rfl qX6_lay_19 tyX6 tyX6_ok nmX6 rfl rfl dX6_lay_7 ?_
  refine fw_iconst (pc := 10) C (v := 0) dX6_lay_10 fk_iconst_0 ?_
  refine fw_istore_n (pc := 11) C (L2 := [(0, .ref _), (1, .int _), (2, .int _), (3, .int _)]) [1, 2, 3, 0] dX6_lay_11 rfl (by decide) rfl ?_
  exact fw_sub [0, 3] rfl (c_Row_lay_h12 C ho _ _ _ h)
theorem c_Row_lay {l : Launch} {D : va_G} {cI cZ cH cR : ClassId} {N : Nat} {ad : Nat → Nat} {EE : fw_M → Nat → va_E} {o : Nat} {M : fw_M} {a0 : Int32} {a1 : Int32} {z : fw_M} (ho : o_Row EE ad N cI cZ cH cR o) (h : P_Row_lay o M a0 a1 = some z) : fw_Met l yX6_lay wsX6_lay rm_Row_lay D vwCl (fw_tys cI cZ cH cR) N ad fw_nw0 EE [.ref (ad o), .int a0, .int a1] M none z := by
  unfold P_Row_lay at h
  exact fw_intro (cc := cX6_lay) (maxL := 4) (ret := none) (own := RX6) (by decide) rfl rfl (Nat.le_of_ble_eq_true rfl) (fun p e s m args below meth c C => fw_sub [0, 1, 2] rfl (c_Row_lay_b0 C ho h))
abbrev rm_Row_holds : Room := { frames := 0, cells := 0, slots := 0, locals := 0 }
theorem hd_Row_holds : yX6_holds.cls = RX6 ∧ yX6_holds.cls ≠ "java/lang/invoke/MethodHandle" ∧ yX6_holds.cls ≠ "java/lang/invoke/VarHandle" ∧ (parseMethodDescriptor yX6_holds.desc).map (fun d => d.parameters.length) = some 2 := by decide +kernel
theorem qX6_holds_19 : fw_G wsX6_holds RX6 19 RX6 TX6 3 2 := ⟨by decide +kernel, by decide +kernel, by decide⟩
def P_Row_holds_b23 (o : Nat) (M : fw_M) (t0 : Int32) : Option Int32 := (fw_zr t0).bind fun v1 => some v1
def P_Row_holds_b22 (o : Nat) (M : fw_M) : Option Int32 := P_Row_holds_b23 o M (0 : Int32)
def P_Row_holds_b0 (o : Nat) (M : fw_M) (x1 : Int32) (x2 : Int32) : Option Int32 := (if x1 < (0 : Int32) then P_Row_holds_b22 o M else (if x2 < (0 : Int32) then P_Row_holds_b22 o M else (if ((M o 2) - x1) < x2 then P_Row_holds_b22 o M else P_Row_holds_b23 o M (1 : Int32))))
def P_Row_holds (o : Nat) (M : fw_M) (a0 : Int32) (a1 : Int32) : Option Int32 := P_Row_holds_b0 o M a0 a1
set_option maxRecDepth 100000 in
theorem c_Row_holds_b23 {p : Program} {l : Launch} {e : Env} {s : State} {m : MethodId} {args : Array Value} {below : List Frame} {meth : Method} {c : Code} {D : va_G} {cI cZ cH cR : ClassId} {N : Nat} {ad : Nat → Nat} {EE : fw_M → Nat → va_E} {o : Nat} {M : fw_M} {t0 : Int32} {z : Int32} (C : fw_C p s m args meth c cX6_holds RX6 wsX6_holds 3 (some .boolean) D vwCl (fw_tys cI cZ cH cR) N ad fw_nw0) (ho : o_Row EE ad N cI cZ cH cR o) (h : P_Row_holds_b23 o M t0 = some z) : fw_J p l e (headSpec wsX6_holds rm_Row_holds).room s m args below meth c D vwCl N ad EE 3 0 0 (fw_E below args s D vwCl N ad EE (some (.int z)) M) M [] 23 [.int t0] := by
  unfold P_Row_holds_b23 at h
  obtain ⟨v1, hv1, h⟩ := fw_bind h
  exact fw_zret (pc := 23) C (fw_zrh hv1).1 ((fw_zrh hv1).2.trans (Option.some.inj h)) rfl dX6_holds_23
set_option maxRecDepth 100000 in
theorem c_Row_holds_b22 {p : Program} {l : Launch} {e : Env} {s : State} {m : MethodId} {args : Array Value} {below : List Frame} {meth : Method} {c : Code} {D : va_G} {cI cZ cH cR : ClassId} {N : Nat} {ad : Nat → Nat} {EE : fw_M → Nat → va_E} {o : Nat} {M : fw_M} {z : Int32} (C : fw_C p s m args meth c cX6_holds RX6 wsX6_holds 3 (some .boolean) D vwCl (fw_tys cI cZ cH cR) N ad fw_nw0) (ho : o_Row EE ad N cI cZ cH cR o) (h : P_Row_holds_b22 o M = some z) : fw_J p l e (headSpec wsX6_holds rm_Row_holds).room s m args below meth c D vwCl N ad EE 3 0 0 (fw_E below args s D vwCl N ad EE (some (.int z)) M) M [] 22 [] := by
  unfold P_Row_holds_b22 at h
  refine fw_iconst (pc := 22) C (v := 0) dX6_holds_22 fk_iconst_0 ?_
  exact (c_Row_holds_b23 C ho h)
set_option maxRecDepth 100000 in
theorem c_Row_holds_b0 {p : Program} {l : Launch} {e : Env} {s : State} {m : MethodId} {args : Array Value} {below : List Frame} {meth : Method} {c : Code} {D : va_G} {cI cZ cH cR : ClassId} {N : Nat} {ad : Nat → Nat} {EE : fw_M → Nat → va_E} {o : Nat} {M : fw_M} {x1 : Int32} {x2 : Int32} {z : Int32} (C : fw_C p s m args meth c cX6_holds RX6 wsX6_holds 3 (some .boolean) D vwCl (fw_tys cI cZ cH cR) N ad fw_nw0) (ho : o_Row EE ad N cI cZ cH cR o) (h : P_Row_holds_b0 o M x1 x2 = some z) : fw_J p l e (headSpec wsX6_holds rm_Row_holds).room s m args below meth c D vwCl N ad EE 3 0 0 (fw_E below args s D vwCl N ad EE (some (.int z)) M) M [(0, .ref (ad o)), (1, .int x1), (2, .int x2)] 0 [] := by
  unfold P_Row_holds_b0 at h
  refine fw_iload_n (pc := 0) C 1 dX6_holds_0 rfl rfl ?_
  refine fw_if_lt (pc := 1) C (tgt := 22) dX6_holds_1 (by decide) (fun c1 => ?_) (fun c1 => ?_)
  · have h := fw_ift h c1
    exact fw_sub [] rfl (c_Row_holds_b22 C ho h)
  · have h := fw_iff h c1
    refine fw_iload_n (pc := 4) C 2 dX6_holds_4 rfl rfl ?_
    refine fw_if_lt (pc := 5) C (tgt := 22) dX6_holds_5 (by decide) (fun c2 => ?_) (fun c2 => ?_)
    · have h := fw_ift h c2
      exact fw_sub [] rfl (c_Row_holds_b22 C ho h)
    · have h := fw_iff h c2
      refine fw_iload_n (pc := 8) C 2 dX6_holds_8 rfl rfl ?_
      refine fw_aload_n (pc := 9) C 0 dX6_holds_9 rfl rfl ?_
      refine fw_geti (pc := 10) C ho.2.2.2 rfl qX6_holds_19 dX6_holds_10 ?_
      refine fw_iload_n (pc := 13) C 1 dX6_holds_13 rfl rfl ?_
      refine fw_isub (pc := 14) C dX6_holds_14 ?_
      refine fw_icmp_gt (pc := 15) C (tgt := 22) dX6_holds_15 (by decide) (fun c3 => ?_) (fun c3 => ?_)
      · have h := fw_ift h c3
        exact fw_sub [] rfl (c_Row_holds_b22 C ho h)
      · have h := fw_iff h c3
        refine fw_iconst (pc := 18) C (v := 1) dX6_holds_18 fk_iconst_1 ?_
        refine fw_goto (pc := 19) C (tgt := 23) dX6_holds_19 (by decide) ?_
        exact fw_sub [] rfl (c_Row_holds_b23 C ho h)
theorem c_Row_holds {l : Launch} {D : va_G} {cI cZ cH cR : ClassId} {N : Nat} {ad : Nat → Nat} {EE : fw_M → Nat → va_E} {o : Nat} {M : fw_M} {a0 : Int32} {a1 : Int32} {z : Int32} (ho : o_Row EE ad N cI cZ cH cR o) (h : P_Row_holds o M a0 a1 = some z) : fw_Met l yX6_holds wsX6_holds rm_Row_holds D vwCl (fw_tys cI cZ cH cR) N ad fw_nw0 EE [.ref (ad o), .int a0, .int a1] M (some (.int z)) M := by
  unfold P_Row_holds at h
  exact fw_intro (cc := cX6_holds) (maxL := 3) (ret := some .boolean) (own := RX6) (by decide) rfl rfl (Nat.le_of_ble_eq_true rfl) (fun p e s m args below meth c C => fw_sub [0, 1, 2] rfl (c_Row_holds_b0 C ho h))
abbrev rm_Row_put : Room := { frames := 0, cells := 0, slots := 0, locals := 0 }
theorem hd_Row_put : yX6_put.cls = RX6 ∧ yX6_put.cls ≠ "java/lang/invoke/MethodHandle" ∧ yX6_put.cls ≠ "java/lang/invoke/VarHandle" ∧ (parseMethodDescriptor yX6_put.desc).map (fun d => d.parameters.length) = some 2 := by decide +kernel
theorem qX6_put_9 : fw_G wsX6_put RX6 9 RX6 TX6 3 0 := ⟨by decide +kernel, by decide +kernel, by decide⟩
theorem qX6_put_15 : fw_G wsX6_put RX6 15 RX6 TX6 3 1 := ⟨by decide +kernel, by decide +kernel, by decide⟩
def P_Row_put_b31 (o : Nat) (M : fw_M) (x1 : Int32) (t1 : Int32) (t2 : Int32) : Option (Int32 × fw_M) := (fw_ast M (o + 1) 40 t1 t2).bind fun M1 => (fw_ald M1 (o + 1) 40 x1).bind fun v2 => some (v2, M1)
def P_Row_put_b0 (o : Nat) (M : fw_M) (x1 : Int32) (x2 : Int32) : Option (Int32 × fw_M) := (if (M o 1) = (0 : Int32) then P_Row_put_b31 o M x1 x1 (Int8.toInt32 (Int32.toInt8 x2)) else (if (M o 1) = (1 : Int32) then P_Row_put_b31 o M x1 x1 (Int16.toInt32 (Int32.toInt16 x2)) else P_Row_put_b31 o M x1 x1 x2))
def P_Row_put (o : Nat) (M : fw_M) (a0 : Int32) (a1 : Int32) : Option (Int32 × fw_M) := P_Row_put_b0 o M a0 a1
set_option maxRecDepth 100000 in
theorem c_Row_put_b31 {p : Program} {l : Launch} {e : Env} {s : State} {m : MethodId} {args : Array Value} {below : List Frame} {meth : Method} {c : Code} {D : va_G} {cI cZ cH cR : ClassId} {N : Nat} {ad : Nat → Nat} {EE : fw_M → Nat → va_E} {o : Nat} {M : fw_M} {x1 : Int32} {t1 : Int32} {t2 : Int32} {z : (Int32 × fw_M)} (C : fw_C p s m args meth c cX6_put RX6 wsX6_put 3 (some .int) D vwCl (fw_tys cI cZ cH cR) N ad fw_nw0) (ho : o_Row EE ad N cI cZ cH cR o) (h : P_Row_put_b31 o M x1 t1 t2 = some z) : fw_J p l e (headSpec wsX6_put rm_Row_put).room s m args below meth c D vwCl N ad EE 3 0 0 (fw_E below args s D vwCl N ad EE (some (.int z.1)) z.2) M [(0, .ref (ad o)), (1, .int x1)] 31 [.int t2, .int t1, .ref (ad (o + 1))] := by
  unfold P_Row_put_b31 at h
  obtain ⟨M1, hM1, h⟩ := fw_bind h
  refine fw_iast (pc := 31) C 0 ho.2.1.2 rfl hM1 dX6_put_31 ?_
  refine fw_aload_n (pc := 32) C 0 dX6_put_32 rfl rfl ?_
  refine fw_getr (pc := 33) C ho.2.1.1 rfl qX6_put_9 dX6_put_33 ?_
  refine fw_iload_n (pc := 36) C 1 dX6_put_36 rfl rfl ?_
  obtain ⟨v2, hv2, h⟩ := fw_bind h
  refine fw_iald (pc := 37) C 0 ho.2.1.2 rfl hv2 dX6_put_37 ?_
  exact fw_iret (pc := 38) C (fw_p1 h) (fw_p2 h) dX6_put_38
set_option maxRecDepth 100000 in
theorem c_Row_put_b0 {p : Program} {l : Launch} {e : Env} {s : State} {m : MethodId} {args : Array Value} {below : List Frame} {meth : Method} {c : Code} {D : va_G} {cI cZ cH cR : ClassId} {N : Nat} {ad : Nat → Nat} {EE : fw_M → Nat → va_E} {o : Nat} {M : fw_M} {x1 : Int32} {x2 : Int32} {z : (Int32 × fw_M)} (C : fw_C p s m args meth c cX6_put RX6 wsX6_put 3 (some .int) D vwCl (fw_tys cI cZ cH cR) N ad fw_nw0) (ho : o_Row EE ad N cI cZ cH cR o) (h : P_Row_put_b0 o M x1 x2 = some z) : fw_J p l e (headSpec wsX6_put rm_Row_put).room s m args below meth c D vwCl N ad EE 3 0 0 (fw_E below args s D vwCl N ad EE (some (.int z.1)) z.2) M [(0, .ref (ad o)), (1, .int x1), (2, .int x2)] 0 [] := by
  unfold P_Row_put_b0 at h
  refine fw_aload_n (pc := 0) C 0 dX6_put_0 rfl rfl ?_
  refine fw_getr (pc := 1) C ho.2.1.1 rfl qX6_put_9 dX6_put_1 ?_
  refine fw_iload_n (pc := 4) C 1 dX6_put_4 rfl rfl ?_
  refine fw_aload_n (pc := 5) C 0 dX6_put_5 rfl rfl ?_
  refine fw_geti (pc := 6) C ho.2.2.1 rfl qX6_put_15 dX6_put_6 ?_
  refine fw_if_ne (pc := 9) C (tgt := 17) dX6_put_9 (by decide) (fun c1 => ?_) (fun c1 => ?_)
  · have h := fw_iff h c1
    refine fw_aload_n (pc := 17) C 0 dX6_put_17 rfl rfl ?_
    refine fw_geti (pc := 18) C ho.2.2.1 rfl qX6_put_15 dX6_put_18 ?_
    refine fw_iconst (pc := 21) C (v := 1) dX6_put_21 fk_iconst_1 ?_
    refine fw_icmp_ne (pc := 22) C (tgt := 30) dX6_put_22 (by decide) (fun c2 => ?_) (fun c2 => ?_)
    · have h := fw_iff h c2
      refine fw_iload_n (pc := 30) C 2 dX6_put_30 rfl rfl ?_
      exact fw_sub [0, 1] rfl (c_Row_put_b31 C ho h)
    · have h := fw_ift h c2
      refine fw_iload_n (pc := 25) C 2 dX6_put_25 rfl rfl ?_
      refine fw_i2s (pc := 26) C dX6_put_26 ?_
      refine fw_goto (pc := 27) C (tgt := 31) dX6_put_27 (by decide) ?_
      exact fw_sub [0, 1] rfl (c_Row_put_b31 C ho h)
  · have h := fw_ift h c1
    refine fw_iload_n (pc := 12) C 2 dX6_put_12 rfl rfl ?_
    refine fw_i2b (pc := 13) C dX6_put_13 ?_
    refine fw_goto (pc := 14) C (tgt := 31) dX6_put_14 (by decide) ?_
    exact fw_sub [0, 1] rfl (c_Row_put_b31 C ho h)
theorem c_Row_put {l : Launch} {D : va_G} {cI cZ cH cR : ClassId} {N : Nat} {ad : Nat → Nat} {EE : fw_M → Nat → va_E} {o : Nat} {M : fw_M} {a0 : Int32} {a1 : Int32} {z : (Int32 × fw_M)} (ho : o_Row EE ad N cI cZ cH cR o) (h : P_Row_put o M a0 a1 = some z) : fw_Met l yX6_put wsX6_put rm_Row_put D vwCl (fw_tys cI cZ cH cR) N ad fw_nw0 EE [.ref (ad o), .int a0, .int a1] M (some (.int z.1)) z.2 := by
  unfold P_Row_put at h
  exact fw_intro (cc := cX6_put) (maxL := 3) (ret := some .int) (own := RX6) (by decide) rfl rfl (Nat.le_of_ble_eq_true rfl) (fun p e s m args below meth c C => fw_sub [0, 1, 2] rfl (c_Row_put_b0 C ho h))
abbrev rm_Row_clear : Room := { frames := 0, cells := 0, slots := 0, locals := 0 }
theorem hd_Row_clear : yX6_clear.cls = RX6 ∧ yX6_clear.cls ≠ "java/lang/invoke/MethodHandle" ∧ yX6_clear.cls ≠ "java/lang/invoke/VarHandle" ∧ (parseMethodDescriptor yX6_clear.desc).map (fun d => d.parameters.length) = some 0 := by decide +kernel
theorem qX6_clear_19 : fw_G wsX6_clear RX6 19 RX6 TX6 3 2 := ⟨by decide +kernel, by decide +kernel, by decide⟩
def P_Row_clear_b0 (o : Nat) (M : fw_M) : Option (Int32 × fw_M) := fw_pl ((M o 2)) fun y1 => fw_pl (fw_set M o 2 (-1 : Int32)) fun M2 => some (y1, M2)
def P_Row_clear (o : Nat) (M : fw_M) : Option (Int32 × fw_M) := P_Row_clear_b0 o M
set_option maxRecDepth 100000 in
theorem c_Row_clear_b0 {p : Program} {l : Launch} {e : Env} {s : State} {m : MethodId} {args : Array Value} {below : List Frame} {meth : Method} {c : Code} {D : va_G} {cI cZ cH cR : ClassId} {N : Nat} {ad : Nat → Nat} {EE : fw_M → Nat → va_E} {o : Nat} {M : fw_M} {z : (Int32 × fw_M)} (C : fw_C p s m args meth c cX6_clear RX6 wsX6_clear 2 (some .int) D vwCl (fw_tys cI cZ cH cR) N ad fw_nw0) (ho : o_Row EE ad N cI cZ cH cR o) (h : P_Row_clear_b0 o M = some z) : fw_J p l e (headSpec wsX6_clear rm_Row_clear).room s m args below meth c D vwCl N ad EE 2 0 0 (fw_E below args s D vwCl N ad EE (some (.int z.1)) z.2) M [(0, .ref (ad o))] 0 [] := by
  unfold P_Row_clear_b0 at h
  refine fw_aload_n (pc := 0) C 0 dX6_clear_0 rfl rfl ?_
  refine fw_geti (pc := 1) C ho.2.2.2 rfl qX6_clear_19 dX6_clear_1 ?_
  have h := fw_plh h
  refine fw_istore_n (pc := 4) C (L2 := [(0, .ref _), (1, .int _)]) [1, 0] dX6_clear_4 rfl (by decide) rfl ?_
  refine fw_aload_n (pc := 5) C 0 dX6_clear_5 rfl rfl ?_
  refine fw_iconst (pc := 6) C (v := -1) dX6_clear_6 fk_iconst_m1 ?_
  have h := fw_plh h
  refine fw_puti (pc := 7) C ho.2.2.2 rfl qX6_clear_19 tyX6 tyX6_ok nmX6 rfl rfl dX6_clear_7 ?_
  refine fw_iload_n (pc := 10) C 1 dX6_clear_10 rfl rfl ?_
  exact fw_iret (pc := 11) C (fw_p1 h) (fw_p2 h) dX6_clear_11
theorem c_Row_clear {l : Launch} {D : va_G} {cI cZ cH cR : ClassId} {N : Nat} {ad : Nat → Nat} {EE : fw_M → Nat → va_E} {o : Nat} {M : fw_M} {z : (Int32 × fw_M)} (ho : o_Row EE ad N cI cZ cH cR o) (h : P_Row_clear o M = some z) : fw_Met l yX6_clear wsX6_clear rm_Row_clear D vwCl (fw_tys cI cZ cH cR) N ad fw_nw0 EE [.ref (ad o)] M (some (.int z.1)) z.2 := by
  unfold P_Row_clear at h
  exact fw_intro (cc := cX6_clear) (maxL := 2) (ret := some .int) (own := RX6) (by decide) rfl rfl (Nat.le_of_ble_eq_true rfl) (fun p e s m args below meth c C => fw_sub [0] rfl (c_Row_clear_b0 C ho h))
end
