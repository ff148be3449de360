noncomputable section
abbrev rm_Law_lets : Room := { frames := 0, cells := 0, slots := 0, locals := 0 }
theorem hd_Law_lets : yX4_lets.cls = RX4 ∧ yX4_lets.cls ≠ "java/lang/invoke/MethodHandle" ∧ yX4_lets.cls ≠ "java/lang/invoke/VarHandle" ∧ (parseMethodDescriptor yX4_lets.desc).map (fun d => d.parameters.length) = some 3 := by decide +kernel
theorem qX4_lets_9 : fw_G wsX4_lets RX4 9 RX4 TX4 1 0 := ⟨by decide +kernel, by decide +kernel, by decide⟩
def P_Law_lets_b28 (o : Nat) (M : fw_M) (t0 : Int32) : Option Int32 := (fw_zr t0).bind fun v1 => some v1
def P_Law_lets_b23 (o : Nat) (M : fw_M) : Option Int32 := P_Law_lets_b28 o M (1 : Int32)
def P_Law_lets_b0 (o : Nat) (M : fw_M) (x1 : Int32) (x2 : Int32) (x3 : Int32) : Option Int32 := (if ((x3 >>> (x1 &&& 31)) &&& (1 : Int32)) = (0 : Int32) then (fw_ald M (o + 1) 7 x1).bind fun v2 => (if ((v2 &&& x2) &&& (x3 ^^^ (-1 : Int32))) = (0 : Int32) then P_Law_lets_b23 o M else P_Law_lets_b28 o M (0 : Int32)) else P_Law_lets_b23 o M)
def P_Law_lets (o : Nat) (M : fw_M) (a0 : Int32) (a1 : Int32) (a2 : Int32) : Option Int32 := P_Law_lets_b0 o M a0 a1 a2
set_option maxRecDepth 100000 in
theorem c_Law_lets_b28 {p : Program} {l : Launch} {e : Env} {s : State} {m : MethodId} {args : Array Value} {below : List Frame} {meth : Method} {c : Code} {D : va_G} {cI cZ cH cR : ClassId} {N : Nat} {ad : Nat → Nat} {EE : fw_M → Nat → va_E} {o : Nat} {M : fw_M} {t0 : Int32} {z : Int32} (C : fw_C p s m args meth c cX4_lets RX4 wsX4_lets 4 (some .boolean) D vwCl (fw_tys cI cZ cH cR) N ad fw_nw0) (ho : o_Law EE ad N cI cZ cH cR o) (h : P_Law_lets_b28 o M t0 = some z) : fw_J p l e (headSpec wsX4_lets rm_Law_lets).room s m args below meth c D vwCl N ad EE 4 0 0 (fw_E below args s D vwCl N ad EE (some (.int z)) M) M [] 28 [.int t0] := by
  unfold P_Law_lets_b28 at h
  obtain ⟨v1, hv1, h⟩ := fw_bind h
  exact fw_zret (pc := 28) C (fw_zrh hv1).1 ((fw_zrh hv1).2.trans (Option.some.inj h)) rfl dX4_lets_28
set_option maxRecDepth 100000 in
theorem c_Law_lets_b23 {p : Program} {l : Launch} {e : Env} {s : State} {m : MethodId} {args : Array Value} {below : List Frame} {meth : Method} {c : Code} {D : va_G} {cI cZ cH cR : ClassId} {N : Nat} {ad : Nat → Nat} {EE : fw_M → Nat → va_E} {o : Nat} {M : fw_M} {z : Int32} (C : fw_C p s m args meth c cX4_lets RX4 wsX4_lets 4 (some .boolean) D vwCl (fw_tys cI cZ cH cR) N ad fw_nw0) (ho : o_Law EE ad N cI cZ cH cR o) (h : P_Law_lets_b23 o M = some z) : fw_J p l e (headSpec wsX4_lets rm_Law_lets).room s m args below meth c D vwCl N ad EE 4 0 0 (fw_E below args s D vwCl N ad EE (some (.int z)) M) M [] 23 [] := by
  unfold P_Law_lets_b23 at h
  refine fw_iconst (pc := 23) C (v := 1) dX4_lets_23 fk_iconst_1 ?_
  refine fw_goto (pc := 24) C (tgt := 28) dX4_lets_24 (by decide) ?_
  exact (c_Law_lets_b28 C ho h)
set_option maxRecDepth 100000 in
theorem c_Law_lets_b0 {p : Program} {l : Launch} {e : Env} {s : State} {m : MethodId} {args : Array Value} {below : List Frame} {meth : Method} {c : Code} {D : va_G} {cI cZ cH cR : ClassId} {N : Nat} {ad : Nat → Nat} {EE : fw_M → Nat → va_E} {o : Nat} {M : fw_M} {x1 : Int32} {x2 : Int32} {x3 : Int32} {z : Int32} (C : fw_C p s m args meth c cX4_lets RX4 wsX4_lets 4 (some .boolean) D vwCl (fw_tys cI cZ cH cR) N ad fw_nw0) (ho : o_Law EE ad N cI cZ cH cR o) (h : P_Law_lets_b0 o M x1 x2 x3 = some z) : fw_J p l e (headSpec wsX4_lets rm_Law_lets).room s m args below meth c D vwCl N ad EE 4 0 0 (fw_E below args s D vwCl N ad EE (some (.int z)) M) M [(0, .ref (ad o)), (1, .int x1), (2, .int x2), (3, .int x3)] 0 [] := by
  unfold P_Law_lets_b0 at h
  refine fw_iload_n (pc := 0) C 3 dX4_lets_0 rfl rfl ?_
  refine fw_iload_n (pc := 1) C 1 dX4_lets_1 rfl rfl ?_
  refine fw_ishr (pc := 2) C dX4_lets_2 ?_
  refine fw_iconst (pc := 3) C (v := 1) dX4_lets_3 fk_iconst_1 ?_
  refine fw_iand (pc := 4) C dX4_lets_4 ?_
  refine fw_if_ne (pc := 5) C (tgt := 23) dX4_lets_5 (by decide) (fun c1 => ?_) (fun c1 => ?_)
  · have h := fw_iff h c1
    exact fw_sub [] rfl (c_Law_lets_b23 C ho h)
  · have h := fw_ift h c1
    refine fw_aload_n (pc := 8) C 0 dX4_lets_8 rfl rfl ?_
    refine fw_getr (pc := 9) C ho.2.1 rfl qX4_lets_9 dX4_lets_9 ?_
    refine fw_iload_n (pc := 12) C 1 dX4_lets_12 rfl rfl ?_
    obtain ⟨v2, hv2, h⟩ := fw_bind h
    refine fw_iald (pc := 13) C 0 ho.2.2 rfl hv2 dX4_lets_13 ?_
    refine fw_iload_n (pc := 14) C 2 dX4_lets_14 rfl rfl ?_
    refine fw_iand (pc := 15) C dX4_lets_15 ?_
    refine fw_iload_n (pc := 16) C 3 dX4_lets_16 rfl rfl ?_
    refine fw_iconst (pc := 17) C (v := -1) dX4_lets_17 fk_iconst_m1 ?_
    refine fw_ixor (pc := 18) C dX4_lets_18 ?_
    refine fw_iand (pc := 19) C dX4_lets_19 ?_
    refine fw_if_ne (pc := 20) C (tgt := 27) dX4_lets_20 (by decide) (fun c3 => ?_) (fun c3 => ?_)
    · have h := fw_iff h c3
      refine fw_iconst (pc := 27) C (v := 0) dX4_lets_27 fk_iconst_0 ?_
      exact fw_sub [] rfl (c_Law_lets_b28 C ho h)
    · have h := fw_ift h c3
      exact fw_sub [] rfl (c_Law_lets_b23 C ho h)
theorem c_Law_lets {l : Launch} {D : va_G} {cI cZ cH cR : ClassId} {N : Nat} {ad : Nat → Nat} {EE : fw_M → Nat → va_E} {o : Nat} {M : fw_M} {a0 : Int32} {a1 : Int32} {a2 : Int32} {z : Int32} (ho : o_Law EE ad N cI cZ cH cR o) (h : P_Law_lets o M a0 a1 a2 = some z) : fw_Met l yX4_lets wsX4_lets rm_Law_lets D vwCl (fw_tys cI cZ cH cR) N ad fw_nw0 EE [.ref (ad o), .int a0, .int a1, .int a2] M (some (.int z)) M := by
  unfold P_Law_lets at h
  exact fw_intro (cc := cX4_lets) (maxL := 4) (ret := some .boolean) (own := RX4) (by decide) rfl rfl (Nat.le_of_ble_eq_true rfl) (fun p e s m args below meth c C => fw_sub [0, 1, 2, 3] rfl (c_Law_lets_b0 C ho h))
abbrev rm_Law_first : Room := { frames := 1, cells := 0, slots := 0, locals := 23 }
theorem hd_Law_first : yX4_first.cls = RX4 ∧ yX4_first.cls ≠ "java/lang/invoke/MethodHandle" ∧ yX4_first.cls ≠ "java/lang/invoke/VarHandle" ∧ (parseMethodDescriptor yX4_first.desc).map (fun d => d.parameters.length) = some 2 := by decide +kernel
def P_Law_first_b28 (o : Nat) (M : fw_M) (K2 : Int32 → Int32 → Int32 → Option Int32) (x1 : Int32) (x2 : Int32) (x3 : Int32) : Option Int32 := K2 x1 x2 (x3 + (1 : Int32))
def P_Law_first_b2 (o : Nat) (M : fw_M) (K2 : Int32 → Int32 → Int32 → Option Int32) (x1 : Int32) (x2 : Int32) (x3 : Int32) : Option Int32 := (if (7 : Int32) ≤ x3 then some (-1 : Int32) else (if ((x1 >>> (x3 &&& 31)) &&& (1 : Int32)) = (0 : Int32) then P_Law_first_b28 o M K2 x1 x2 x3 else (P_Law_lets o M x3 x1 x2).bind fun v3 => (if v3 = (0 : Int32) then P_Law_first_b28 o M K2 x1 x2 x3 else some x3)))
def P_Law_first_h2 (o : Nat) (M : fw_M) : Nat → Int32 → Int32 → Int32 → Option Int32
  | 0, _, _, _ => none
  | n + 1, x1, x2, x3 => P_Law_first_b2 o M (P_Law_first_h2 o M n) x1 x2 x3
def P_Law_first_b0 (o : Nat) (M : fw_M) (x1 : Int32) (x2 : Int32) : Option Int32 := P_Law_first_h2 o M fw_fu x1 x2 (0 : Int32)
def P_Law_first (o : Nat) (M : fw_M) (a0 : Int32) (a1 : Int32) : Option Int32 := P_Law_first_b0 o M a0 a1
set_option maxRecDepth 100000 in
theorem c_Law_first_b28 {p : Program} {l : Launch} {e : Env} {s : State} {m : MethodId} {args : Array Value} {below : List Frame} {meth : Method} {c : Code} {D : va_G} {cI cZ cH cR : ClassId} {N : Nat} {ad : Nat → Nat} {EE : fw_M → Nat → va_E} {o : Nat} {M : fw_M} {K2 : Int32 → Int32 → Int32 → Option Int32} {x1 : Int32} {x2 : Int32} {x3 : Int32} {z : Int32} (C : fw_C p s m args meth c cX4_first RX4 wsX4_first 4 (some .int) D vwCl (fw_tys cI cZ cH cR) N ad fw_nw0) (ho : o_Law EE ad N cI cZ cH cR o) (hK2 : ∀ (kx1 : Int32) (kx2 : Int32) (kx3 : Int32), K2 kx1 kx2 kx3 = some z → fw_J p l e (headSpec wsX4_first rm_Law_first).room s m args below meth c D vwCl N ad EE 4 0 0 (fw_E below args s D vwCl N ad EE (some (.int z)) M) M [(0, .ref (ad o)), (1, .int kx1), (2, .int kx2), (3, .int kx3)] 2 []) (h : P_Law_first_b28 o M K2 x1 x2 x3 = some z) : fw_J p l e (headSpec wsX4_first rm_Law_first).room s m args below meth c D vwCl N ad EE 4 0 0 (fw_E below args s D vwCl N ad EE (some (.int z)) M) M [(0, .ref (ad o)), (1, .int x1), (2, .int x2), (3, .int x3)] 28 [] := by
  unfold P_Law_first_b28 at h
  refine fw_iinc (pc := 28) C (v := 1) (L2 := [(0, .ref _), (1, .int _), (2, .int _), (3, .int _)]) 3 [1, 2, 3, 0] dX4_first_28 rfl fk_iconst_1 (by decide) rfl ?_
  refine fw_goto (pc := 31) C (tgt := 2) dX4_first_31 (by decide) ?_
  exact (hK2 _ _ _ h)
set_option maxRecDepth 100000 in
theorem c_Law_first_b2 {p : Program} {l : Launch} {e : Env} {s : State} {m : MethodId} {args : Array Value} {below : List Frame} {meth : Method} {c : Code} {D : va_G} {cI cZ cH cR : ClassId} {N : Nat} {ad : Nat → Nat} {EE : fw_M → Nat → va_E} {o : Nat} {M : fw_M} {K2 : Int32 → Int32 → Int32 → Option Int32} {x1 : Int32} {x2 : Int32} {x3 : Int32} {z : Int32} (C : fw_C p s m args meth c cX4_first RX4 wsX4_first 4 (some .int) D vwCl (fw_tys cI cZ cH cR) N ad fw_nw0) (ho : o_Law EE ad N cI cZ cH cR o) (hK2 : ∀ (kx1 : Int32) (kx2 : Int32) (kx3 : Int32), K2 kx1 kx2 kx3 = some z → fw_J p l e (headSpec wsX4_first rm_Law_first).room s m args below meth c D vwCl N ad EE 4 0 0 (fw_E below args s D vwCl N ad EE (some (.int z)) M) M [(0, .ref (ad o)), (1, .int kx1), (2, .int kx2), (3, .int kx3)] 2 []) (h : P_Law_first_b2 o M K2 x1 x2 x3 = some z) : fw_J p l e (headSpec wsX4_first rm_Law_first).room s m args below meth c D vwCl N ad EE 4 0 0 (fw_E below args s D vwCl N ad EE (some (.int z)) M) M [(0, .ref (ad o)), (1, .int x1), (2, .int x2), (3, .int x3)] 2 [] := by
  unfold P_Law_first_b2 at h
  refine fw_iload_n (pc := 2) C 3 dX4_first_2 rfl rfl ?_
  refine fw_bipush (pc := 3) C (v := 7) dX4_first_3 fk_bipush_7 ?_
  refine fw_icmp_ge (pc := 5) C (tgt := 34) dX4_first_5 (by decide) (fun c1 => ?_) (fun c1 => ?_)
  · have h := fw_ift h c1
    refine fw_iconst (pc := 34) C (v := -1) dX4_first_34 fk_iconst_m1 ?_
    exact fw_iret (pc := 35) C (Option.some.inj h) rfl dX4_first_35
  · have h := fw_iff h c1
    refine fw_iload_n (pc := 8) C 1 dX4_first_8 rfl rfl ?_
    refine fw_iload_n (pc := 9) C 3 dX4_first_9 rfl rfl ?_
    refine fw_ishr (pc := 10) C dX4_first_10 ?_
    refine fw_iconst (pc := 11) C (v := 1) dX4_first_11 fk_iconst_1 ?_
    refine fw_iand (pc := 12) C dX4_first_12 ?_
    refine fw_if_eq (pc := 13) C (tgt := 28) dX4_first_13 (by decide) (fun c2 => ?_) (fun c2 => ?_)
    · have h := fw_ift h c2
      exact (c_Law_first_b28 C ho hK2 h)
    · have h := fw_iff h c2
      refine fw_aload_n (pc := 16) C 0 dX4_first_16 rfl rfl ?_
      refine fw_iload_n (pc := 17) C 3 dX4_first_17 rfl rfl ?_
      refine fw_iload_n (pc := 18) C 1 dX4_first_18 rfl rfl ?_
      refine fw_iload_n (pc := 19) C 2 dX4_first_19 rfl rfl ?_
      obtain ⟨v3, hv3, h⟩ := fw_bind h
      refine fw_callV1 (pc := 20) C (rest := []) (c_Law_lets ho hv3) (cwV 3 C.2.2.2.2.1 gX4_first_X4_lets rfl rfl rfl hd_Law_lets ⟨Nat.le_of_ble_eq_true rfl, Nat.le_of_ble_eq_true rfl⟩) ho.1 rfl rfl ⟨Nat.zero_le _, Nat.zero_le _⟩ rfl (Nat.le_of_ble_eq_true rfl) dX4_first_20 ?_
      refine fw_if_eq (pc := 23) C (tgt := 28) dX4_first_23 (by decide) (fun c4 => ?_) (fun c4 => ?_)
      · have h := fw_ift h c4
        exact (c_Law_first_b28 C ho hK2 h)
      · have h := fw_iff h c4
        refine fw_iload_n (pc := 26) C 3 dX4_first_26 rfl rfl ?_
        exact fw_iret (pc := 27) C (Option.some.inj h) rfl dX4_first_27
theorem c_Law_first_h2 {p : Program} {l : Launch} {e : Env} {s : State} {m : MethodId} {args : Array Value} {below : List Frame} {meth : Method} {c : Code} {D : va_G} {cI cZ cH cR : ClassId} {N : Nat} {ad : Nat → Nat} {EE : fw_M → Nat → va_E} {o : Nat} {M : fw_M} {z : Int32} (C : fw_C p s m args meth c cX4_first RX4 wsX4_first 4 (some .int) D vwCl (fw_tys cI cZ cH cR) N ad fw_nw0) (ho : o_Law EE ad N cI cZ cH cR o) : ∀ (n : Nat) (x1 : Int32) (x2 : Int32) (x3 : Int32), P_Law_first_h2 o M n x1 x2 x3 = some z → fw_J p l e (headSpec wsX4_first rm_Law_first).room s m args below meth c D vwCl N ad EE 4 0 0 (fw_E below args s D vwCl N ad EE (some (.int z)) M) M [(0, .ref (ad o)), (1, .int x1), (2, .int x2), (3, .int x3)] 2 [] := by
  intro n
  induction n with
  | zero => intro x1 x2 x3  h; cases h
  | succ n ih => intro x1 x2 x3  h; exact c_Law_first_b2 C ho ih  h
set_option maxRecDepth 100000 in
theorem c_Law_first_b0 {p : Program} {l : Launch} {e : Env} {s : State} {m : MethodId} {args : Array Value} {below : List Frame} {meth : Method} {c : Code} {D : va_G} {cI cZ cH cR : ClassId} {N : Nat} {ad : Nat → Nat} {EE : fw_M → Nat → va_E} {o : Nat} {M : fw_M} {x1 : Int32} {x2 : Int32} {z : Int32} (C : fw_C p s m args meth c cX4_first RX4 wsX4_first 4 (some .int) D vwCl (fw_tys cI cZ cH cR) N ad fw_nw0) (ho : o_Law EE ad N cI cZ cH cR o) (h : P_Law_first_b0 o M x1 x2 = some z) : fw_J p l e (headSpec wsX4_first rm_Law_first).room s m args below meth c D vwCl N ad EE 4 0 0 (fw_E below args s D vwCl N ad EE (some (.int z)) M) M [(0, .ref (ad o)), (1, .int x1), (2, .int x2)] 0 [] := by
  unfold P_Law_first_b0 at h
  refine fw_iconst (pc := 0) C (v := 0) dX4_first_0 fk_iconst_0 ?_
  refine fw_istore_n (pc := 1) C (L2 := [(0, .ref _), (1, .int _), (2, .int _), (3, .int _)]) [1, 2, 3, 0] dX4_first_1 rfl (by decide) rfl ?_
  exact (c_Law_first_h2 C ho _ _ _ _ h)
theorem c_Law_first {l : Launch} {D : va_G} {cI cZ cH cR : ClassId} {N : Nat} {ad : Nat → Nat} {EE : fw_M → Nat → va_E} {o : Nat} {M : fw_M} {a0 : Int32} {a1 : Int32} {z : Int32} (ho : o_Law EE ad N cI cZ cH cR o) (h : P_Law_first o M a0 a1 = some z) : fw_Met l yX4_first wsX4_first rm_Law_first D vwCl (fw_tys cI cZ cH cR) N ad fw_nw0 EE [.ref (ad o), .int a0, .int a1] M (some (.int z)) M := by
  unfold P_Law_first at h
  exact fw_intro (cc := cX4_first) (maxL := 4) (ret := some .int) (own := RX4) (by decide) rfl rfl (Nat.le_of_ble_eq_true rfl) (fun p e s m args below meth c C => fw_sub [0, 1, 2] rfl (c_Law_first_b0 C ho h))
end
