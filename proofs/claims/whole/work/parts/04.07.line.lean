noncomputable section
abbrev rm_Line_readNobodies : Room := { frames := 1, cells := 0, slots := 0, locals := 48 }
theorem hd_Line_readNobodies : yX5_readNobodies.cls = RX5 ∧ yX5_readNobodies.cls ≠ "java/lang/invoke/MethodHandle" ∧ yX5_readNobodies.cls ≠ "java/lang/invoke/VarHandle" ∧ (parseMethodDescriptor yX5_readNobodies.desc).map (fun d => d.parameters.length) = some 1 := by decide +kernel
theorem qX5_readNobodies_25 : fw_G wsX5_readNobodies RX5 25 RX3 TX3 9 8 := ⟨by decide +kernel, by decide +kernel, by decide⟩
theorem qX5_readNobodies_9 : fw_G wsX5_readNobodies RX5 9 RX5 TX5 4 0 := ⟨by decide +kernel, by decide +kernel, by decide⟩
theorem kcX5_readNobodies_28 : Cond.methodLink RX5 28 arraycopyName ∈ wsX5_readNobodies ∧ Cond.native arraycopyName ∈ wsX5_readNobodies ∧ Cond.static arraycopyName ∈ wsX5_readNobodies ∧ Cond.initialized "java/lang/System" ∈ wsX5_readNobodies := by decide +kernel
def P_Line_readNobodies_b0 (o : Nat) (r0 : Nat) (M : fw_M) : Option fw_M := (fw_cpy M (r0 + 5) 7 (0 : Int32) (o + 1) 7 (0 : Int32) (7 : Int32)).bind fun M1 => some M1
def P_Line_readNobodies (o : Nat) (r0 : Nat) (M : fw_M) : Option fw_M := P_Line_readNobodies_b0 o r0 M
set_option maxRecDepth 100000 in
theorem c_Line_readNobodies_b0 {p : Program} {l : Launch} {e : Env} {s : State} {m : MethodId} {args : Array Value} {below : List Frame} {meth : Method} {c : Code} {D : va_G} {cI cZ cH cR : ClassId} {N : Nat} {ad : Nat → Nat} {EE : fw_M → Nat → va_E} {o : Nat} {r0 : Nat} {M : fw_M} {z : fw_M} (C : fw_C p s m args meth c cX5_readNobodies RX5 wsX5_readNobodies 2 (none) D vwCl (fw_tys cI cZ cH cR) N ad fw_nw0) (ho : o_Line EE ad N cI cZ cH cR o) (hr0 : o_Hall EE ad N cI cZ cH cR r0) (h : P_Line_readNobodies_b0 o r0 M = some z) : fw_J p l e (headSpec wsX5_readNobodies rm_Line_readNobodies).room s m args below meth c D vwCl N ad EE 2 0 0 (fw_E below args s D vwCl N ad EE none z) M [(0, .ref (ad o)), (1, .ref (ad r0))] 0 [] := by
  unfold P_Line_readNobodies_b0 at h
  refine fw_aload_n (pc := 0) C 1 dX5_readNobodies_0 rfl rfl ?_
  refine fw_getr (pc := 1) C hr0.2.2.2.2.2.2.2.2.2.1 rfl qX5_readNobodies_25 dX5_readNobodies_1 ?_
  refine fw_iconst (pc := 4) C (v := 0) dX5_readNobodies_4 fk_iconst_0 ?_
  refine fw_aload_n (pc := 5) C 0 dX5_readNobodies_5 rfl rfl ?_
  refine fw_getr (pc := 6) C ho.2.1.1 rfl qX5_readNobodies_9 dX5_readNobodies_6 ?_
  refine fw_iconst (pc := 9) C (v := 0) dX5_readNobodies_9 fk_iconst_0 ?_
  refine fw_bipush (pc := 10) C (v := 7) dX5_readNobodies_10 fk_bipush_7 ?_
  obtain ⟨M1, hM1, h⟩ := fw_bind h
  refine fw_copy (pc := 12) C 0 0 kcX5_readNobodies_28 hr0.2.2.2.2.2.2.2.2.2.2 ho.2.1.2 rfl rfl hM1 (Nat.le_of_ble_eq_true rfl) (Nat.le_of_ble_eq_true rfl) dX5_readNobodies_12 ?_
  exact fw_vret (pc := 15) C (Option.some.inj h) dX5_readNobodies_15
theorem c_Line_readNobodies {l : Launch} {D : va_G} {cI cZ cH cR : ClassId} {N : Nat} {ad : Nat → Nat} {EE : fw_M → Nat → va_E} {o : Nat} {r0 : Nat} {M : fw_M} {z : fw_M} (ho : o_Line EE ad N cI cZ cH cR o) (hr0 : o_Hall EE ad N cI cZ cH cR r0) (h : P_Line_readNobodies o r0 M = some z) : fw_Met l yX5_readNobodies wsX5_readNobodies rm_Line_readNobodies D vwCl (fw_tys cI cZ cH cR) N ad fw_nw0 EE [.ref (ad o), .ref (ad r0)] M none z := by
  unfold P_Line_readNobodies at h
  exact fw_intro (cc := cX5_readNobodies) (maxL := 2) (ret := none) (own := RX5) (by decide) rfl rfl (Nat.le_of_ble_eq_true rfl) (fun p e s m args below meth c C => fw_sub [0, 1] rfl (c_Line_readNobodies_b0 C ho hr0 h))
abbrev rm_Line_nobodiesIn : Room := { frames := 0, cells := 0, slots := 0, locals := 0 }
theorem hd_Line_nobodiesIn : yX5_nobodiesIn.cls = RX5 ∧ yX5_nobodiesIn.cls ≠ "java/lang/invoke/MethodHandle" ∧ yX5_nobodiesIn.cls ≠ "java/lang/invoke/VarHandle" ∧ (parseMethodDescriptor yX5_nobodiesIn.desc).map (fun d => d.parameters.length) = some 1 := by decide +kernel
theorem qX5_nobodiesIn_9 : fw_G wsX5_nobodiesIn RX5 9 RX5 TX5 4 0 := ⟨by decide +kernel, by decide +kernel, by decide⟩
def P_Line_nobodiesIn_b26 (o : Nat) (M : fw_M) (K4 : Int32 → Int32 → Int32 → Option Int32) (x1 : Int32) (x2 : Int32) (x3 : Int32) : Option Int32 := K4 x1 x2 (x3 + (1 : Int32))
def P_Line_nobodiesIn_b4 (o : Nat) (M : fw_M) (K4 : Int32 → Int32 → Int32 → Option Int32) (x1 : Int32) (x2 : Int32) (x3 : Int32) : Option Int32 := (if (7 : Int32) ≤ x3 then some x2 else (fw_ald M (o + 1) 7 x3).bind fun v2 => (if v2 ≤ x1 then P_Line_nobodiesIn_b26 o M K4 x1 x2 x3 else fw_pl ((x2 ||| ((1 : Int32) <<< (x3 &&& 31)))) fun y4 => P_Line_nobodiesIn_b26 o M K4 x1 y4 x3))
def P_Line_nobodiesIn_h4 (o : Nat) (M : fw_M) : Nat → Int32 → Int32 → Int32 → Option Int32
  | 0, _, _, _ => none
  | n + 1, x1, x2, x3 => P_Line_nobodiesIn_b4 o M (P_Line_nobodiesIn_h4 o M n) x1 x2 x3
def P_Line_nobodiesIn_b0 (o : Nat) (M : fw_M) (x1 : Int32) : Option Int32 := P_Line_nobodiesIn_h4 o M fw_fu x1 (0 : Int32) (0 : Int32)
def P_Line_nobodiesIn (o : Nat) (M : fw_M) (a0 : Int32) : Option Int32 := P_Line_nobodiesIn_b0 o M a0
set_option maxRecDepth 100000 in
theorem c_Line_nobodiesIn_b26 {p : Program} {l : Launch} {e : Env} {s : State} {m : MethodId} {args : Array Value} {below : List Frame} {meth : Method} {c : Code} {D : va_G} {cI cZ cH cR : ClassId} {N : Nat} {ad : Nat → Nat} {EE : fw_M → Nat → va_E} {o : Nat} {M : fw_M} {K4 : Int32 → Int32 → Int32 → Option Int32} {x1 : Int32} {x2 : Int32} {x3 : Int32} {z : Int32} (C : fw_C p s m args meth c cX5_nobodiesIn RX5 wsX5_nobodiesIn 4 (some .int) D vwCl (fw_tys cI cZ cH cR) N ad fw_nw0) (ho : o_Line EE ad N cI cZ cH cR o) (hK4 : ∀ (kx1 : Int32) (kx2 : Int32) (kx3 : Int32), K4 kx1 kx2 kx3 = some z → fw_J p l e (headSpec wsX5_nobodiesIn rm_Line_nobodiesIn).room s m args below meth c D vwCl N ad EE 4 0 0 (fw_E below args s D vwCl N ad EE (some (.int z)) M) M [(0, .ref (ad o)), (1, .int kx1), (2, .int kx2), (3, .int kx3)] 4 []) (h : P_Line_nobodiesIn_b26 o M K4 x1 x2 x3 = some z) : fw_J p l e (headSpec wsX5_nobodiesIn rm_Line_nobodiesIn).room s m args below meth c D vwCl N ad EE 4 0 0 (fw_E below args s D vwCl N ad EE (some (.int z)) M) M [(0, .ref (ad o)), (1, .int x1), (2, .int x2), (3, .int x3)] 26 [] := by
  unfold P_Line_nobodiesIn_b26 at h
  refine fw_iinc (pc := 26) C (v := 1) (L2 := [(0, .ref _), (1, .int _), (2, .int _), (3, .int _)]) 3 [1, 2, 3, 0] dX5_nobodiesIn_26 rfl fk_iconst_1 (by decide) rfl ?_
  refine fw_goto (pc := 29) C (tgt := 4) dX5_nobodiesIn_29 (by decide) ?_
  exact (hK4 _ _ _ h)
set_option maxRecDepth 100000 in
theorem c_Line_nobodiesIn_b4 {p : Program} {l : Launch} {e : Env} {s : State} {m : MethodId} {args : Array Value} {below : List Frame} {meth : Method} {c : Code} {D : va_G} {cI cZ cH cR : ClassId} {N : Nat} {ad : Nat → Nat} {EE : fw_M → Nat → va_E} {o : Nat} {M : fw_M} {K4 : Int32 → Int32 → Int32 → Option Int32} {x1 : Int32} {x2 : Int32} {x3 : Int32} {z : Int32} (C : fw_C p s m args meth c cX5_nobodiesIn RX5 wsX5_nobodiesIn 4 (some .int) D vwCl (fw_tys cI cZ cH cR) N ad fw_nw0) (ho : o_Line EE ad N cI cZ cH cR o) (hK4 : ∀ (kx1 : Int32) (kx2 : Int32) (kx3 : Int32), K4 kx1 kx2 kx3 = some z → fw_J p l e (headSpec wsX5_nobodiesIn rm_Line_nobodiesIn).room s m args below meth c D vwCl N ad EE 4 0 0 (fw_E below args s D vwCl N ad EE (some (.int z)) M) M [(0, .ref (ad o)), (1, .int kx1), (2, .int kx2), (3, .int kx3)] 4 []) (h : P_Line_nobodiesIn_b4 o M K4 x1 x2 x3 = some z) : fw_J p l e (headSpec wsX5_nobodiesIn rm_Line_nobodiesIn).room s m args below meth c D vwCl N ad EE 4 0 0 (fw_E below args s D vwCl N ad EE (some (.int z)) M) M [(0, .ref (ad o)), (1, .int x1), (2, .int x2), (3, .int x3)] 4 [] := by
  unfold P_Line_nobodiesIn_b4 at h
  refine fw_iload_n (pc := 4) C 3 dX5_nobodiesIn_4 rfl rfl ?_
  refine fw_bipush (pc := 5) C (v := 7) dX5_nobodiesIn_5 fk_bipush_7 ?_
  refine fw_icmp_ge (pc := 7) C (tgt := 32) dX5_nobodiesIn_7 (by decide) (fun c1 => ?_) (fun c1 => ?_)
  · have h := fw_ift h c1
    refine fw_iload_n (pc := 32) C 2 dX5_nobodiesIn_32 rfl rfl ?_
    exact fw_iret (pc := 33) C (Option.some.inj h) rfl dX5_nobodiesIn_33
  · have h := fw_iff h c1
    refine fw_aload_n (pc := 10) C 0 dX5_nobodiesIn_10 rfl rfl ?_
    refine fw_getr (pc := 11) C ho.2.1.1 rfl qX5_nobodiesIn_9 dX5_nobodiesIn_11 ?_
    refine fw_iload_n (pc := 14) C 3 dX5_nobodiesIn_14 rfl rfl ?_
    obtain ⟨v2, hv2, h⟩ := fw_bind h
    refine fw_iald (pc := 15) C 0 ho.2.1.2 rfl hv2 dX5_nobodiesIn_15 ?_
    refine fw_iload_n (pc := 16) C 1 dX5_nobodiesIn_16 rfl rfl ?_
    refine fw_icmp_le (pc := 17) C (tgt := 26) dX5_nobodiesIn_17 (by decide) (fun c3 => ?_) (fun c3 => ?_)
    · have h := fw_ift h c3
      exact (c_Line_nobodiesIn_b26 C ho hK4 h)
    · have h := fw_iff h c3
      refine fw_iload_n (pc := 20) C 2 dX5_nobodiesIn_20 rfl rfl ?_
      refine fw_iconst (pc := 21) C (v := 1) dX5_nobodiesIn_21 fk_iconst_1 ?_
      refine fw_iload_n (pc := 22) C 3 dX5_nobodiesIn_22 rfl rfl ?_
      refine fw_ishl (pc := 23) C dX5_nobodiesIn_23 ?_
      refine fw_ior (pc := 24) C dX5_nobodiesIn_24 ?_
      have h := fw_plh h
      refine fw_istore_n (pc := 25) C (L2 := [(0, .ref _), (1, .int _), (2, .int _), (3, .int _)]) [1, 2, 0, 3] dX5_nobodiesIn_25 rfl (by decide) rfl ?_
      exact (c_Line_nobodiesIn_b26 C ho hK4 h)
theorem c_Line_nobodiesIn_h4 {p : Program} {l : Launch} {e : Env} {s : State} {m : MethodId} {args : Array Value} {below : List Frame} {meth : Method} {c : Code} {D : va_G} {cI cZ cH cR : ClassId} {N : Nat} {ad : Nat → Nat} {EE : fw_M → Nat → va_E} {o : Nat} {M : fw_M} {z : Int32} (C : fw_C p s m args meth c cX5_nobodiesIn RX5 wsX5_nobodiesIn 4 (some .int) D vwCl (fw_tys cI cZ cH cR) N ad fw_nw0) (ho : o_Line EE ad N cI cZ cH cR o) : ∀ (n : Nat) (x1 : Int32) (x2 : Int32) (x3 : Int32), P_Line_nobodiesIn_h4 o M n x1 x2 x3 = some z → fw_J p l e (headSpec wsX5_nobodiesIn rm_Line_nobodiesIn).room s m args below meth c D vwCl N ad EE 4 0 0 (fw_E below args s D vwCl N ad EE (some (.int z)) M) M [(0, .ref (ad o)), (1, .int x1), (2, .int x2), (3, .int x3)] 4 [] := by
  intro n
  induction n with
  | zero => intro x1 x2 x3  h; cases h
  | succ n ih => intro x1 x2 x3  h; exact c_Line_nobodiesIn_b4 C ho ih  h
set_option maxRecDepth 100000 in
theorem c_Line_nobodiesIn_b0 {p : Program} {l : Launch} {e : Env} {s : State} {m : MethodId} {args : Array Value} {below : List Frame} {meth : Method} {c : Code} {D : va_G} {cI cZ cH cR : ClassId} {N : Nat} {ad : Nat → Nat} {EE : fw_M → Nat → va_E} {o : Nat} {M : fw_M} {x1 : Int32} {z : Int32} (C : fw_C p s m args meth c cX5_nobodiesIn RX5 wsX5_nobodiesIn 4 (some .int) D vwCl (fw_tys cI cZ cH cR) N ad fw_nw0) (ho : o_Line EE ad N cI cZ cH cR o) (h : P_Line_nobodiesIn_b0 o M x1 = some z) : fw_J p l e (headSpec wsX5_nobodiesIn rm_Line_nobodiesIn).room s m args below meth c D vwCl N ad EE 4 0 0 (fw_E below args s D vwCl N ad EE (some (.int z)) M) M [(0, .ref (ad o)), (1, .int x1)] 0 [] := by
  unfold P_Line_nobodiesIn_b0 at h
  refine fw_iconst (pc := 0) C (v := 0) dX5_nobodiesIn_0 fk_iconst_0 ?_
  refine fw_istore_n (pc := 1) C (L2 := [(0, .ref _), (1, .int _), (2, .int _)]) [1, 2, 0] dX5_nobodiesIn_1 rfl (by decide) rfl ?_
  refine fw_iconst (pc := 2) C (v := 0) dX5_nobodiesIn_2 fk_iconst_0 ?_
  refine fw_istore_n (pc := 3) C (L2 := [(0, .ref _), (1, .int _), (2, .int _), (3, .int _)]) [1, 2, 3, 0] dX5_nobodiesIn_3 rfl (by decide) rfl ?_
  exact (c_Line_nobodiesIn_h4 C ho _ _ _ _ h)
theorem c_Line_nobodiesIn {l : Launch} {D : va_G} {cI cZ cH cR : ClassId} {N : Nat} {ad : Nat → Nat} {EE : fw_M → Nat → va_E} {o : Nat} {M : fw_M} {a0 : Int32} {z : Int32} (ho : o_Line EE ad N cI cZ cH cR o) (h : P_Line_nobodiesIn o M a0 = some z) : fw_Met l yX5_nobodiesIn wsX5_nobodiesIn rm_Line_nobodiesIn D vwCl (fw_tys cI cZ cH cR) N ad fw_nw0 EE [.ref (ad o), .int a0] M (some (.int z)) M := by
  unfold P_Line_nobodiesIn at h
  exact fw_intro (cc := cX5_nobodiesIn) (maxL := 4) (ret := some .int) (own := RX5) (by decide) rfl rfl (Nat.le_of_ble_eq_true rfl) (fun p e s m args below meth c C => fw_sub [0, 1] rfl (c_Line_nobodiesIn_b0 C ho h))
abbrev rm_Line_foretell : Room := { frames := 2, cells := 0, slots := 0, locals := 46 }
theorem hd_Line_foretell : yX5_foretell.cls = RX5 ∧ yX5_foretell.cls ≠ "java/lang/invoke/MethodHandle" ∧ yX5_foretell.cls ≠ "java/lang/invoke/VarHandle" ∧ (parseMethodDescriptor yX5_foretell.desc).map (fun d => d.parameters.length) = some 2 := by decide +kernel
theorem qX5_foretell_22 : fw_G wsX5_foretell RX5 22 RX5 TX5 4 3 := ⟨by decide +kernel, by decide +kernel, by decide⟩
theorem qX5_foretell_18 : fw_G wsX5_foretell RX5 18 RX5 TX5 4 2 := ⟨by decide +kernel, by decide +kernel, by decide⟩
theorem qX5_foretell_15 : fw_G wsX5_foretell RX5 15 RX5 TX5 4 1 := ⟨by decide +kernel, by decide +kernel, by decide⟩
def P_Line_foretell_b12 (o : Nat) (r0 : Nat) (K12 : fw_M → Int32 → Option fw_M) (M : fw_M) (x3 : Int32) : Option fw_M := (if (7 : Int32) ≤ x3 then some M else (P_Line_nobodiesIn o M x3).bind fun v2 => (P_Law_first r0 M (M o 3) v2).bind fun v3 => (if v3 = (-1 : Int32) then some M else (fw_ast M (o + 2) 7 x3 v3).bind fun M5 => fw_pl (fw_set M5 o 2 ((M5 o 2) + (1 : Int32))) fun M6 => fw_pl (fw_set M6 o 3 ((M6 o 3) &&& (((1 : Int32) <<< (v3 &&& 31)) ^^^ (-1 : Int32)))) fun M7 => K12 M7 (x3 + (1 : Int32))))
def P_Line_foretell_h12 (o : Nat) (r0 : Nat) : Nat → fw_M → Int32 → Option fw_M
  | 0, _, _ => none
  | n + 1, M, x3 => P_Line_foretell_b12 o r0 (P_Line_foretell_h12 o r0 n) M x3
def P_Line_foretell_b0 (o : Nat) (r0 : Nat) (M : fw_M) (x2 : Int32) : Option fw_M := fw_pl (fw_set M o 3 x2) fun M1 => fw_pl (fw_set M1 o 2 (0 : Int32)) fun M2 => P_Line_foretell_h12 o r0 fw_fu M2 (0 : Int32)
def P_Line_foretell (o : Nat) (r0 : Nat) (M : fw_M) (a1 : Int32) : Option fw_M := P_Line_foretell_b0 o r0 M a1
set_option maxRecDepth 100000 in
theorem c_Line_foretell_b12 {p : Program} {l : Launch} {e : Env} {s : State} {m : MethodId} {args : Array Value} {below : List Frame} {meth : Method} {c : Code} {D : va_G} {cI cZ cH cR : ClassId} {N : Nat} {ad : Nat → Nat} {EE : fw_M → Nat → va_E} {o : Nat} {r0 : Nat} {K12 : fw_M → Int32 → Option fw_M} {M : fw_M} {x3 : Int32} {z : fw_M} (C : fw_C p s m args meth c cX5_foretell RX5 wsX5_foretell 5 (none) D vwCl (fw_tys cI cZ cH cR) N ad fw_nw0) (ho : o_Line EE ad N cI cZ cH cR o) (hr0 : o_Law EE ad N cI cZ cH cR r0) (hK12 : ∀ (Mk : fw_M) (kx3 : Int32), K12 Mk kx3 = some z → fw_J p l e (headSpec wsX5_foretell rm_Line_foretell).room s m args below meth c D vwCl N ad EE 5 0 0 (fw_E below args s D vwCl N ad EE none z) Mk [(0, .ref (ad o)), (1, .ref (ad r0)), (3, .int kx3)] 12 []) (h : P_Line_foretell_b12 o r0 K12 M x3 = some z) : fw_J p l e (headSpec wsX5_foretell rm_Line_foretell).room s m args below meth c D vwCl N ad EE 5 0 0 (fw_E below args s D vwCl N ad EE none z) M [(0, .ref (ad o)), (1, .ref (ad r0)), (3, .int x3)] 12 [] := by
  unfold P_Line_foretell_b12 at h
  refine fw_iload_n (pc := 12) C 2 dX5_foretell_12 rfl rfl ?_
  refine fw_bipush (pc := 13) C (v := 7) dX5_foretell_13 fk_bipush_7 ?_
  refine fw_icmp_ge (pc := 15) C (tgt := 79) dX5_foretell_15 (by decide) (fun c1 => ?_) (fun c1 => ?_)
  · have h := fw_ift h c1
    exact fw_vret (pc := 79) C (Option.some.inj h) dX5_foretell_79
  · have h := fw_iff h c1
    refine fw_aload_n (pc := 18) C 1 dX5_foretell_18 rfl rfl ?_
    refine fw_aload_n (pc := 19) C 0 dX5_foretell_19 rfl rfl ?_
    refine fw_geti (pc := 20) C ho.2.2.2.2 rfl qX5_foretell_22 dX5_foretell_20 ?_
    refine fw_aload_n (pc := 23) C 0 dX5_foretell_23 rfl rfl ?_
    refine fw_iload_n (pc := 24) C 2 dX5_foretell_24 rfl rfl ?_
    obtain ⟨v2, hv2, h⟩ := fw_bind h
    refine fw_callV1 (pc := 25) C (rest := [_, _]) (c_Line_nobodiesIn ho hv2) (cwV 1 C.2.2.2.2.1 gX5_foretell_X5_nobodiesIn rfl rfl rfl hd_Line_nobodiesIn ⟨Nat.le_of_ble_eq_true rfl, Nat.le_of_ble_eq_true rfl⟩) ho.1 rfl rfl ⟨Nat.zero_le _, Nat.zero_le _⟩ rfl (Nat.le_of_ble_eq_true rfl) dX5_foretell_25 ?_
    obtain ⟨v3, hv3, h⟩ := fw_bind h
    refine fw_callV1 (pc := 28) C (rest := []) (c_Law_first hr0 hv3) (cwV 2 C.2.2.2.2.1 gX5_foretell_X4_first rfl rfl rfl hd_Law_first ⟨Nat.le_of_ble_eq_true rfl, Nat.le_of_ble_eq_true rfl⟩) hr0.1 rfl rfl ⟨Nat.zero_le _, Nat.zero_le _⟩ rfl (Nat.le_of_ble_eq_true rfl) dX5_foretell_28 ?_
    refine fw_istore (pc := 31) C (L2 := [(0, .ref _), (1, .ref _), (3, .int _), (4, .int _)]) [1, 2, 3, 0] dX5_foretell_31 (by decide) rfl ?_
    refine fw_iload (pc := 33) C 3 dX5_foretell_33 rfl ?_
    refine fw_iconst (pc := 35) C (v := -1) dX5_foretell_35 fk_iconst_m1 ?_
    refine fw_icmp_ne (pc := 36) C (tgt := 40) dX5_foretell_36 (by decide) (fun c4 => ?_) (fun c4 => ?_)
    · have h := fw_iff h c4
      refine fw_aload_n (pc := 40) C 0 dX5_foretell_40 rfl rfl ?_
      refine fw_getr (pc := 41) C ho.2.2.1.1 rfl qX5_foretell_15 dX5_foretell_41 ?_
      refine fw_iload_n (pc := 44) C 2 dX5_foretell_44 rfl rfl ?_
      refine fw_iload (pc := 45) C 3 dX5_foretell_45 rfl ?_
      obtain ⟨M5, hM5, h⟩ := fw_bind h
      refine fw_iast (pc := 47) C 0 ho.2.2.1.2 rfl hM5 dX5_foretell_47 ?_
      refine fw_aload_n (pc := 48) C 0 dX5_foretell_48 rfl rfl ?_
      refine fw_dup (pc := 49) C dX5_foretell_49 rfl ?_
      refine fw_geti (pc := 50) C ho.2.2.2.1 rfl qX5_foretell_18 dX5_foretell_50 ?_
      refine fw_iconst (pc := 53) C (v := 1) dX5_foretell_53 fk_iconst_1 ?_
      refine fw_iadd (pc := 54) C dX5_foretell_54 ?_
      have h := fw_plh h
      refine fw_puti (pc := 55) C ho.2.2.2.1 rfl qX5_foretell_18 tyX5 tyX5_ok nmX5 rfl rfl dX5_foretell_55 ?_
      refine fw_aload_n (pc := 58) C 0 dX5_foretell_58 rfl rfl ?_
      refine fw_dup (pc := 59) C dX5_foretell_59 rfl ?_
      refine fw_geti (pc := 60) C ho.2.2.2.2 rfl qX5_foretell_22 dX5_foretell_60 ?_
      refine fw_iconst (pc := 63) C (v := 1) dX5_foretell_63 fk_iconst_1 ?_
      refine fw_iload (pc := 64) C 3 dX5_foretell_64 rfl ?_
      refine fw_ishl (pc := 66) C dX5_foretell_66 ?_
      refine fw_iconst (pc := 67) C (v := -1) dX5_foretell_67 fk_iconst_m1 ?_
      refine fw_ixor (pc := 68) C dX5_foretell_68 ?_
      refine fw_iand (pc := 69) C dX5_foretell_69 ?_
      have h := fw_plh h
      refine fw_puti (pc := 70) C ho.2.2.2.2 rfl qX5_foretell_22 tyX5 tyX5_ok nmX5 rfl rfl dX5_foretell_70 ?_
      refine fw_iinc (pc := 73) C (v := 1) (L2 := [(0, .ref _), (1, .ref _), (3, .int _), (4, .int _)]) 2 [1, 2, 0, 3] dX5_foretell_73 rfl fk_iconst_1 (by decide) rfl ?_
      refine fw_goto (pc := 76) C (tgt := 12) dX5_foretell_76 (by decide) ?_
      exact fw_sub [0, 1, 2] rfl (hK12 _ _ h)
    · have h := fw_ift h c4
      exact fw_vret (pc := 39) C (Option.some.inj h) dX5_foretell_39
theorem c_Line_foretell_h12 {p : Program} {l : Launch} {e : Env} {s : State} {m : MethodId} {args : Array Value} {below : List Frame} {meth : Method} {c : Code} {D : va_G} {cI cZ cH cR : ClassId} {N : Nat} {ad : Nat → Nat} {EE : fw_M → Nat → va_E} {o : Nat} {r0 : Nat} {z : fw_M} (C : fw_C p s m args meth c cX5_foretell RX5 wsX5_foretell 5 (none) D vwCl (fw_tys cI cZ cH cR) N ad fw_nw0) (ho : o_Line EE ad N cI cZ cH cR o) (hr0 : o_Law EE ad N cI cZ cH cR r0) : ∀ (n : Nat) (M : fw_M) (x3 : Int32), P_Line_foretell_h12 o r0 n M x3 = some z → fw_J p l e (headSpec wsX5_foretell rm_Line_foretell).room s m args below meth c D vwCl N ad EE 5 0 0 (fw_E below args s D vwCl N ad EE none z) M [(0, .ref (ad o)), (1, .ref (ad r0)), (3, .int x3)] 12 [] := by
  intro n
  induction n with
  | zero => intro M x3  h; cases h
  | succ n ih => intro M x3  h; exact c_Line_foretell_b12 C ho hr0 ih  h
set_option maxRecDepth 100000 in
theorem c_Line_foretell_b0 {p : Program} {l : Launch} {e : Env} {s : State} {m : MethodId} {args : Array Value} {below : List Frame} {meth : Method} {c : Code} {D : va_G} {cI cZ cH cR : ClassId} {N : Nat} {ad : Nat → Nat} {EE : fw_M → Nat → va_E} {o : Nat} {r0 : Nat} {M : fw_M} {x2 : Int32} {z : fw_M} (C : fw_C p s m args meth c cX5_foretell RX5 wsX5_foretell 5 (none) D vwCl (fw_tys cI cZ cH cR) N ad fw_nw0) (ho : o_Line EE ad N cI cZ cH cR o) (hr0 : o_Law EE ad N cI cZ cH cR r0) (h : P_Line_foretell_b0 o r0 M x2 = some z) : fw_J p l e (headSpec wsX5_foretell rm_Line_foretell).room s m args below meth c D vwCl N ad EE 5 0 0 (fw_E below args s D vwCl N ad EE none z) M [(0, .ref (ad o)), (1, .ref (ad r0)), (2, .int x2)] 0 [] := by
  unfold P_Line_foretell_b0 at h
  refine fw_aload_n (pc := 0) C 0 dX5_foretell_0 rfl rfl ?_
  refine fw_iload_n (pc := 1) C 2 dX5_foretell_1 rfl rfl ?_
  have h := fw_plh h
  refine fw_puti (pc := 2) C ho.2.2.2.2 rfl qX5_foretell_22 tyX5 tyX5_ok nmX5 rfl rfl dX5_foretell_2 ?_
  refine fw_aload_n (pc := 5) C 0 dX5_foretell_5 rfl rfl ?_
  refine fw_iconst (pc := 6) C (v := 0) dX5_foretell_6 fk_iconst_0 ?_
  have h := fw_plh h
  refine fw_puti (pc := 7) C ho.2.2.2.1 rfl qX5_foretell_18 tyX5 tyX5_ok nmX5 rfl rfl dX5_foretell_7 ?_
  refine fw_iconst (pc := 10) C (v := 0) dX5_foretell_10 fk_iconst_0 ?_
  refine fw_istore_n (pc := 11) C (L2 := [(0, .ref _), (1, .ref _), (2, .int _), (3, .int _)]) [1, 2, 3, 0] dX5_foretell_11 rfl (by decide) rfl ?_
  exact fw_sub [0, 1, 3] rfl (c_Line_foretell_h12 C ho hr0 _ _ _ h)
theorem c_Line_foretell {l : Launch} {D : va_G} {cI cZ cH cR : ClassId} {N : Nat} {ad : Nat → Nat} {EE : fw_M → Nat → va_E} {o : Nat} {r0 : Nat} {M : fw_M} {a1 : Int32} {z : fw_M} (ho : o_Line EE ad N cI cZ cH cR o) (hr0 : o_Law EE ad N cI cZ cH cR r0) (h : P_Line_foretell o r0 M a1 = some z) : fw_Met l yX5_foretell wsX5_foretell rm_Line_foretell D vwCl (fw_tys cI cZ cH cR) N ad fw_nw0 EE [.ref (ad o), .ref (ad r0), .int a1] M none z := by
  unfold P_Line_foretell at h
  exact fw_intro (cc := cX5_foretell) (maxL := 5) (ret := none) (own := RX5) (by decide) rfl rfl (Nat.le_of_ble_eq_true rfl) (fun p e s m args below meth c C => fw_sub [0, 1, 2] rfl (c_Line_foretell_b0 C ho hr0 h))
abbrev rm_Line_goingIn : Room := { frames := 0, cells := 0, slots := 0, locals := 0 }
theorem hd_Line_goingIn : yX5_goingIn.cls = RX5 ∧ yX5_goingIn.cls ≠ "java/lang/invoke/MethodHandle" ∧ yX5_goingIn.cls ≠ "java/lang/invoke/VarHandle" ∧ (parseMethodDescriptor yX5_goingIn.desc).map (fun d => d.parameters.length) = some 1 := by decide +kernel
theorem qX5_goingIn_18 : fw_G wsX5_goingIn RX5 18 RX5 TX5 4 2 := ⟨by decide +kernel, by decide +kernel, by decide⟩
theorem qX5_goingIn_15 : fw_G wsX5_goingIn RX5 15 RX5 TX5 4 1 := ⟨by decide +kernel, by decide +kernel, by decide⟩
def P_Line_goingIn_b28 (o : Nat) (M : fw_M) (t0 : Int32) : Option Int32 := some t0
def P_Line_goingIn_b27 (o : Nat) (M : fw_M) : Option Int32 := P_Line_goingIn_b28 o M (-1 : Int32)
def P_Line_goingIn_b0 (o : Nat) (M : fw_M) (x1 : Int32) : Option Int32 := (if x1 < (0 : Int32) then P_Line_goingIn_b27 o M else (if (M o 2) ≤ x1 then P_Line_goingIn_b27 o M else (if (7 : Int32) ≤ x1 then P_Line_goingIn_b27 o M else (fw_ald M (o + 2) 7 x1).bind fun v4 => P_Line_goingIn_b28 o M v4)))
def P_Line_goingIn (o : Nat) (M : fw_M) (a0 : Int32) : Option Int32 := P_Line_goingIn_b0 o M a0
set_option maxRecDepth 100000 in
theorem c_Line_goingIn_b28 {p : Program} {l : Launch} {e : Env} {s : State} {m : MethodId} {args : Array Value} {below : List Frame} {meth : Method} {c : Code} {D : va_G} {cI cZ cH cR : ClassId} {N : Nat} {ad : Nat → Nat} {EE : fw_M → Nat → va_E} {o : Nat} {M : fw_M} {t0 : Int32} {z : Int32} (C : fw_C p s m args meth c cX5_goingIn RX5 wsX5_goingIn 2 (some .int) D vwCl (fw_tys cI cZ cH cR) N ad fw_nw0) (ho : o_Line EE ad N cI cZ cH cR o) (h : P_Line_goingIn_b28 o M t0 = some z) : fw_J p l e (headSpec wsX5_goingIn rm_Line_goingIn).room s m args below meth c D vwCl N ad EE 2 0 0 (fw_E below args s D vwCl N ad EE (some (.int z)) M) M [] 28 [.int t0] := by
  unfold P_Line_goingIn_b28 at h
  exact fw_iret (pc := 28) C (Option.some.inj h) rfl dX5_goingIn_28
set_option maxRecDepth 100000 in
theorem c_Line_goingIn_b27 {p : Program} {l : Launch} {e : Env} {s : State} {m : MethodId} {args : Array Value} {below : List Frame} {meth : Method} {c : Code} {D : va_G} {cI cZ cH cR : ClassId} {N : Nat} {ad : Nat → Nat} {EE : fw_M → Nat → va_E} {o : Nat} {M : fw_M} {z : Int32} (C : fw_C p s m args meth c cX5_goingIn RX5 wsX5_goingIn 2 (some .int) D vwCl (fw_tys cI cZ cH cR) N ad fw_nw0) (ho : o_Line EE ad N cI cZ cH cR o) (h : P_Line_goingIn_b27 o M = some z) : fw_J p l e (headSpec wsX5_goingIn rm_Line_goingIn).room s m args below meth c D vwCl N ad EE 2 0 0 (fw_E below args s D vwCl N ad EE (some (.int z)) M) M [] 27 [] := by
  unfold P_Line_goingIn_b27 at h
  refine fw_iconst (pc := 27) C (v := -1) dX5_goingIn_27 fk_iconst_m1 ?_
  exact (c_Line_goingIn_b28 C ho h)
set_option maxRecDepth 100000 in
theorem c_Line_goingIn_b0 {p : Program} {l : Launch} {e : Env} {s : State} {m : MethodId} {args : Array Value} {below : List Frame} {meth : Method} {c : Code} {D : va_G} {cI cZ cH cR : ClassId} {N : Nat} {ad : Nat → Nat} {EE : fw_M → Nat → va_E} {o : Nat} {M : fw_M} {x1 : Int32} {z : Int32} (C : fw_C p s m args meth c cX5_goingIn RX5 wsX5_goingIn 2 (some .int) D vwCl (fw_tys cI cZ cH cR) N ad fw_nw0) (ho : o_Line EE ad N cI cZ cH cR o) (h : P_Line_goingIn_b0 o M x1 = some z) : fw_J p l e (headSpec wsX5_goingIn rm_Line_goingIn).room s m args below meth c D vwCl N ad EE 2 0 0 (fw_E below args s D vwCl N ad EE (some (.int z)) M) M [(0, .ref (ad o)), (1, .int x1)] 0 [] := by
  unfold P_Line_goingIn_b0 at h
  refine fw_iload_n (pc := 0) C 1 dX5_goingIn_0 rfl rfl ?_
  refine fw_if_lt (pc := 1) C (tgt := 27) dX5_goingIn_1 (by decide) (fun c1 => ?_) (fun c1 => ?_)
  · have h := fw_ift h c1
    exact fw_sub [] rfl (c_Line_goingIn_b27 C ho h)
  · have h := fw_iff h c1
    refine fw_iload_n (pc := 4) C 1 dX5_goingIn_4 rfl rfl ?_
    refine fw_aload_n (pc := 5) C 0 dX5_goingIn_5 rfl rfl ?_
    refine fw_geti (pc := 6) C ho.2.2.2.1 rfl qX5_goingIn_18 dX5_goingIn_6 ?_
    refine fw_icmp_ge (pc := 9) C (tgt := 27) dX5_goingIn_9 (by decide) (fun c2 => ?_) (fun c2 => ?_)
    · have h := fw_ift h c2
      exact fw_sub [] rfl (c_Line_goingIn_b27 C ho h)
    · have h := fw_iff h c2
      refine fw_iload_n (pc := 12) C 1 dX5_goingIn_12 rfl rfl ?_
      refine fw_bipush (pc := 13) C (v := 7) dX5_goingIn_13 fk_bipush_7 ?_
      refine fw_icmp_ge (pc := 15) C (tgt := 27) dX5_goingIn_15 (by decide) (fun c3 => ?_) (fun c3 => ?_)
      · have h := fw_ift h c3
        exact fw_sub [] rfl (c_Line_goingIn_b27 C ho h)
      · have h := fw_iff h c3
        refine fw_aload_n (pc := 18) C 0 dX5_goingIn_18 rfl rfl ?_
        refine fw_getr (pc := 19) C ho.2.2.1.1 rfl qX5_goingIn_15 dX5_goingIn_19 ?_
        refine fw_iload_n (pc := 22) C 1 dX5_goingIn_22 rfl rfl ?_
        obtain ⟨v4, hv4, h⟩ := fw_bind h
        refine fw_iald (pc := 23) C 0 ho.2.2.1.2 rfl hv4 dX5_goingIn_23 ?_
        refine fw_goto (pc := 24) C (tgt := 28) dX5_goingIn_24 (by decide) ?_
        exact fw_sub [] rfl (c_Line_goingIn_b28 C ho h)
theorem c_Line_goingIn {l : Launch} {D : va_G} {cI cZ cH cR : ClassId} {N : Nat} {ad : Nat → Nat} {EE : fw_M → Nat → va_E} {o : Nat} {M : fw_M} {a0 : Int32} {z : Int32} (ho : o_Line EE ad N cI cZ cH cR o) (h : P_Line_goingIn o M a0 = some z) : fw_Met l yX5_goingIn wsX5_goingIn rm_Line_goingIn D vwCl (fw_tys cI cZ cH cR) N ad fw_nw0 EE [.ref (ad o), .int a0] M (some (.int z)) M := by
  unfold P_Line_goingIn at h
  exact fw_intro (cc := cX5_goingIn) (maxL := 2) (ret := some .int) (own := RX5) (by decide) rfl rfl (Nat.le_of_ble_eq_true rfl) (fun p e s m args below meth c C => fw_sub [0, 1] rfl (c_Line_goingIn_b0 C ho h))
abbrev rm_Line_whenGone : Room := { frames := 1, cells := 0, slots := 0, locals := 21 }
theorem hd_Line_whenGone : yX5_whenGone.cls = RX5 ∧ yX5_whenGone.cls ≠ "java/lang/invoke/MethodHandle" ∧ yX5_whenGone.cls ≠ "java/lang/invoke/VarHandle" ∧ (parseMethodDescriptor yX5_whenGone.desc).map (fun d => d.parameters.length) = some 1 := by decide +kernel
theorem qX5_whenGone_18 : fw_G wsX5_whenGone RX5 18 RX5 TX5 4 2 := ⟨by decide +kernel, by decide +kernel, by decide⟩
def P_Line_whenGone_b2 (o : Nat) (M : fw_M) (K2 : Int32 → Int32 → Option Int32) (x1 : Int32) (x2 : Int32) : Option Int32 := (if (M o 2) ≤ x2 then some (-1 : Int32) else (P_Line_goingIn o M x2).bind fun v2 => (if v2 = x1 then some (x2 + (1 : Int32)) else K2 x1 (x2 + (1 : Int32))))
def P_Line_whenGone_h2 (o : Nat) (M : fw_M) : Nat → Int32 → Int32 → Option Int32
  | 0, _, _ => none
  | n + 1, x1, x2 => P_Line_whenGone_b2 o M (P_Line_whenGone_h2 o M n) x1 x2
def P_Line_whenGone_b0 (o : Nat) (M : fw_M) (x1 : Int32) : Option Int32 := P_Line_whenGone_h2 o M fw_fu x1 (0 : Int32)
def P_Line_whenGone (o : Nat) (M : fw_M) (a0 : Int32) : Option Int32 := P_Line_whenGone_b0 o M a0
set_option maxRecDepth 100000 in
theorem c_Line_whenGone_b2 {p : Program} {l : Launch} {e : Env} {s : State} {m : MethodId} {args : Array Value} {below : List Frame} {meth : Method} {c : Code} {D : va_G} {cI cZ cH cR : ClassId} {N : Nat} {ad : Nat → Nat} {EE : fw_M → Nat → va_E} {o : Nat} {M : fw_M} {K2 : Int32 → Int32 → Option Int32} {x1 : Int32} {x2 : Int32} {z : Int32} (C : fw_C p s m args meth c cX5_whenGone RX5 wsX5_whenGone 3 (some .int) D vwCl (fw_tys cI cZ cH cR) N ad fw_nw0) (ho : o_Line EE ad N cI cZ cH cR o) (hK2 : ∀ (kx1 : Int32) (kx2 : Int32), K2 kx1 kx2 = some z → fw_J p l e (headSpec wsX5_whenGone rm_Line_whenGone).room s m args below meth c D vwCl N ad EE 3 0 0 (fw_E below args s D vwCl N ad EE (some (.int z)) M) M [(0, .ref (ad o)), (1, .int kx1), (2, .int kx2)] 2 []) (h : P_Line_whenGone_b2 o M K2 x1 x2 = some z) : fw_J p l e (headSpec wsX5_whenGone rm_Line_whenGone).room s m args below meth c D vwCl N ad EE 3 0 0 (fw_E below args s D vwCl N ad EE (some (.int z)) M) M [(0, .ref (ad o)), (1, .int x1), (2, .int x2)] 2 [] := by
  unfold P_Line_whenGone_b2 at h
  refine fw_iload_n (pc := 2) C 2 dX5_whenGone_2 rfl rfl ?_
  refine fw_aload_n (pc := 3) C 0 dX5_whenGone_3 rfl rfl ?_
  refine fw_geti (pc := 4) C ho.2.2.2.1 rfl qX5_whenGone_18 dX5_whenGone_4 ?_
  refine fw_icmp_ge (pc := 7) C (tgt := 29) dX5_whenGone_7 (by decide) (fun c1 => ?_) (fun c1 => ?_)
  · have h := fw_ift h c1
    refine fw_iconst (pc := 29) C (v := -1) dX5_whenGone_29 fk_iconst_m1 ?_
    exact fw_iret (pc := 30) C (Option.some.inj h) rfl dX5_whenGone_30
  · have h := fw_iff h c1
    refine fw_aload_n (pc := 10) C 0 dX5_whenGone_10 rfl rfl ?_
    refine fw_iload_n (pc := 11) C 2 dX5_whenGone_11 rfl rfl ?_
    obtain ⟨v2, hv2, h⟩ := fw_bind h
    refine fw_callV1 (pc := 12) C (rest := []) (c_Line_goingIn ho hv2) (cwV 1 C.2.2.2.2.1 gX5_whenGone_X5_goingIn rfl rfl rfl hd_Line_goingIn ⟨Nat.le_of_ble_eq_true rfl, Nat.le_of_ble_eq_true rfl⟩) ho.1 rfl rfl ⟨Nat.zero_le _, Nat.zero_le _⟩ rfl (Nat.le_of_ble_eq_true rfl) dX5_whenGone_12 ?_
    refine fw_iload_n (pc := 15) C 1 dX5_whenGone_15 rfl rfl ?_
    refine fw_icmp_ne (pc := 16) C (tgt := 23) dX5_whenGone_16 (by decide) (fun c3 => ?_) (fun c3 => ?_)
    · have h := fw_iff h c3
      refine fw_iinc (pc := 23) C (v := 1) (L2 := [(0, .ref _), (1, .int _), (2, .int _)]) 2 [1, 2, 0] dX5_whenGone_23 rfl fk_iconst_1 (by decide) rfl ?_
      refine fw_goto (pc := 26) C (tgt := 2) dX5_whenGone_26 (by decide) ?_
      exact (hK2 _ _ h)
    · have h := fw_ift h c3
      refine fw_iload_n (pc := 19) C 2 dX5_whenGone_19 rfl rfl ?_
      refine fw_iconst (pc := 20) C (v := 1) dX5_whenGone_20 fk_iconst_1 ?_
      refine fw_iadd (pc := 21) C dX5_whenGone_21 ?_
      exact fw_iret (pc := 22) C (Option.some.inj h) rfl dX5_whenGone_22
theorem c_Line_whenGone_h2 {p : Program} {l : Launch} {e : Env} {s : State} {m : MethodId} {args : Array Value} {below : List Frame} {meth : Method} {c : Code} {D : va_G} {cI cZ cH cR : ClassId} {N : Nat} {ad : Nat → Nat} {EE : fw_M → Nat → va_E} {o : Nat} {M : fw_M} {z : Int32} (C : fw_C p s m args meth c cX5_whenGone RX5 wsX5_whenGone 3 (some .int) D vwCl (fw_tys cI cZ cH cR) N ad fw_nw0) (ho : o_Line EE ad N cI cZ cH cR o) : ∀ (n : Nat) (x1 : Int32) (x2 : Int32), P_Line_whenGone_h2 o M n x1 x2 = some z → fw_J p l e (headSpec wsX5_whenGone rm_Line_whenGone).room s m args below meth c D vwCl N ad EE 3 0 0 (fw_E below args s D vwCl N ad EE (some (.int z)) M) M [(0, .ref (ad o)), (1, .int x1), (2, .int x2)] 2 [] := by
  intro n
  induction n with
  | zero => intro x1 x2  h; cases h
  | succ n ih => intro x1 x2  h; exact c_Line_whenGone_b2 C ho ih  h
set_option maxRecDepth 100000 in
theorem c_Line_whenGone_b0 {p : Program} {l : Launch} {e : Env} {s : State} {m : MethodId} {args : Array Value} {below : List Frame} {meth : Method} {c : Code} {D : va_G} {cI cZ cH cR : ClassId} {N : Nat} {ad : Nat → Nat} {EE : fw_M → Nat → va_E} {o : Nat} {M : fw_M} {x1 : Int32} {z : Int32} (C : fw_C p s m args meth c cX5_whenGone RX5 wsX5_whenGone 3 (some .int) D vwCl (fw_tys cI cZ cH cR) N ad fw_nw0) (ho : o_Line EE ad N cI cZ cH cR o) (h : P_Line_whenGone_b0 o M x1 = some z) : fw_J p l e (headSpec wsX5_whenGone rm_Line_whenGone).room s m args below meth c D vwCl N ad EE 3 0 0 (fw_E below args s D vwCl N ad EE (some (.int z)) M) M [(0, .ref (ad o)), (1, .int x1)] 0 [] := by
  unfold P_Line_whenGone_b0 at h
  refine fw_iconst (pc := 0) C (v := 0) dX5_whenGone_0 fk_iconst_0 ?_
  refine fw_istore_n (pc := 1) C (L2 := [(0, .ref _), (1, .int _), (2, .int _)]) [1, 2, 0] dX5_whenGone_1 rfl (by decide) rfl ?_
  exact (c_Line_whenGone_h2 C ho _ _ _ h)
theorem c_Line_whenGone {l : Launch} {D : va_G} {cI cZ cH cR : ClassId} {N : Nat} {ad : Nat → Nat} {EE : fw_M → Nat → va_E} {o : Nat} {M : fw_M} {a0 : Int32} {z : Int32} (ho : o_Line EE ad N cI cZ cH cR o) (h : P_Line_whenGone o M a0 = some z) : fw_Met l yX5_whenGone wsX5_whenGone rm_Line_whenGone D vwCl (fw_tys cI cZ cH cR) N ad fw_nw0 EE [.ref (ad o), .int a0] M (some (.int z)) M := by
  unfold P_Line_whenGone at h
  exact fw_intro (cc := cX5_whenGone) (maxL := 3) (ret := some .int) (own := RX5) (by decide) rfl rfl (Nat.le_of_ble_eq_true rfl) (fun p e s m args below meth c C => fw_sub [0, 1] rfl (c_Line_whenGone_b0 C ho h))
end
