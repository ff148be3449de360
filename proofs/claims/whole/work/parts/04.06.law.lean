noncomputable section
abbrev rm_Law_read : Room := { frames := 1, cells := 0, slots := 0, locals := 22 }
theorem hd_Law_read : yX4_read.cls = RX4 ∧ yX4_read.cls ≠ "java/lang/invoke/MethodHandle" ∧ yX4_read.cls ≠ "java/lang/invoke/VarHandle" ∧ (parseMethodDescriptor yX4_read.desc).map (fun d => d.parameters.length) = some 1 := by decide +kernel
theorem qX4_read_9 : fw_G wsX4_read RX4 9 RX4 TX4 1 0 := ⟨by decide +kernel, by decide +kernel, by decide⟩
theorem qX4_read_15 : fw_G wsX4_read RX4 15 RX3 TX3 9 2 := ⟨by decide +kernel, by decide +kernel, by decide⟩
def P_Law_read_b65 (o : Nat) (r0 : Nat) (K2 : fw_M → Int32 → Option fw_M) (M : fw_M) (x2 : Int32) : Option fw_M := K2 M (x2 + (1 : Int32))
def P_Law_read_b59 (o : Nat) (r0 : Nat) (K2 : fw_M → Int32 → Option fw_M) (K17 : fw_M → Int32 → Int32 → Option fw_M) (M : fw_M) (x2 : Int32) (x3 : Int32) : Option fw_M := K17 M x2 (x3 + (1 : Int32))
def P_Law_read_b17 (o : Nat) (r0 : Nat) (K2 : fw_M → Int32 → Option fw_M) (K17 : fw_M → Int32 → Int32 → Option fw_M) (M : fw_M) (x2 : Int32) (x3 : Int32) : Option fw_M := (if (M r0 2) ≤ x2 then P_Law_read_b65 o r0 K2 M x2 else (if (M r0 2) ≤ x3 then P_Law_read_b65 o r0 K2 M x2 else (if x2 = x3 then P_Law_read_b59 o r0 K2 K17 M x2 x3 else (P_Hall_yields r0 M x2 x3).bind fun v4 => (if v4 = (0 : Int32) then P_Law_read_b59 o r0 K2 K17 M x2 x3 else (fw_ald M (o + 1) 7 x2).bind fun v6 => (fw_ast M (o + 1) 7 x2 (v6 ||| ((1 : Int32) <<< (x3 &&& 31)))).bind fun M7 => P_Law_read_b59 o r0 K2 K17 M7 x2 x3))))
def P_Law_read_h17 (o : Nat) (r0 : Nat) (K2 : fw_M → Int32 → Option fw_M) : Nat → fw_M → Int32 → Int32 → Option fw_M
  | 0, _, _, _ => none
  | n + 1, M, x2, x3 => P_Law_read_b17 o r0 K2 (P_Law_read_h17 o r0 K2 n) M x2 x3
def P_Law_read_b2 (o : Nat) (r0 : Nat) (K2 : fw_M → Int32 → Option fw_M) (M : fw_M) (x2 : Int32) : Option fw_M := (if (7 : Int32) ≤ x2 then some M else (fw_ast M (o + 1) 7 x2 (0 : Int32)).bind fun M2 => P_Law_read_h17 o r0 K2 fw_fu M2 x2 (0 : Int32))
def P_Law_read_h2 (o : Nat) (r0 : Nat) : Nat → fw_M → Int32 → Option fw_M
  | 0, _, _ => none
  | n + 1, M, x2 => P_Law_read_b2 o r0 (P_Law_read_h2 o r0 n) M x2
def P_Law_read_b0 (o : Nat) (r0 : Nat) (M : fw_M) : Option fw_M := P_Law_read_h2 o r0 fw_fu M (0 : Int32)
def P_Law_read (o : Nat) (r0 : Nat) (M : fw_M) : Option fw_M := P_Law_read_b0 o r0 M
set_option maxRecDepth 100000 in
theorem c_Law_read_b65 {p : Program} {l : Launch} {e : Env} {s : State} {m : MethodId} {args : Array Value} {below : List Frame} {meth : Method} {c : Code} {D : va_G} {cI cZ cH cR : ClassId} {N : Nat} {ad : Nat → Nat} {EE : fw_M → Nat → va_E} {o : Nat} {r0 : Nat} {K2 : fw_M → Int32 → Option fw_M} {M : fw_M} {x2 : Int32} {z : fw_M} (C : fw_C p s m args meth c cX4_read RX4 wsX4_read 4 (none) D vwCl (fw_tys cI cZ cH cR) N ad fw_nw0) (ho : o_Law EE ad N cI cZ cH cR o) (hr0 : o_Hall EE ad N cI cZ cH cR r0) (hK2 : ∀ (Mk : fw_M) (kx2 : Int32), K2 Mk kx2 = some z → fw_J p l e (headSpec wsX4_read rm_Law_read).room s m args below meth c D vwCl N ad EE 4 0 0 (fw_E below args s D vwCl N ad EE none z) Mk [(0, .ref (ad o)), (1, .ref (ad r0)), (2, .int kx2)] 2 []) (h : P_Law_read_b65 o r0 K2 M x2 = some z) : fw_J p l e (headSpec wsX4_read rm_Law_read).room s m args below meth c D vwCl N ad EE 4 0 0 (fw_E below args s D vwCl N ad EE none z) M [(0, .ref (ad o)), (1, .ref (ad r0)), (2, .int x2)] 65 [] := by
  unfold P_Law_read_b65 at h
  refine fw_iinc (pc := 65) C (v := 1) (L2 := [(0, .ref _), (1, .ref _), (2, .int _)]) 2 [1, 2, 0] dX4_read_65 rfl fk_iconst_1 (by decide) rfl ?_
  refine fw_goto (pc := 68) C (tgt := 2) dX4_read_68 (by decide) ?_
  exact (hK2 _ _ h)
set_option maxRecDepth 100000 in
theorem c_Law_read_b59 {p : Program} {l : Launch} {e : Env} {s : State} {m : MethodId} {args : Array Value} {below : List Frame} {meth : Method} {c : Code} {D : va_G} {cI cZ cH cR : ClassId} {N : Nat} {ad : Nat → Nat} {EE : fw_M → Nat → va_E} {o : Nat} {r0 : Nat} {K2 : fw_M → Int32 → Option fw_M} {K17 : fw_M → Int32 → Int32 → Option fw_M} {M : fw_M} {x2 : Int32} {x3 : Int32} {z : fw_M} (C : fw_C p s m args meth c cX4_read RX4 wsX4_read 4 (none) D vwCl (fw_tys cI cZ cH cR) N ad fw_nw0) (ho : o_Law EE ad N cI cZ cH cR o) (hr0 : o_Hall EE ad N cI cZ cH cR r0) (hK2 : ∀ (Mk : fw_M) (kx2 : Int32), K2 Mk kx2 = some z → fw_J p l e (headSpec wsX4_read rm_Law_read).room s m args below meth c D vwCl N ad EE 4 0 0 (fw_E below args s D vwCl N ad EE none z) Mk [(0, .ref (ad o)), (1, .ref (ad r0)), (2, .int kx2)] 2 []) (hK17 : ∀ (Mk : fw_M) (kx2 : Int32) (kx3 : Int32), K17 Mk kx2 kx3 = some z → fw_J p l e (headSpec wsX4_read rm_Law_read).room s m args below meth c D vwCl N ad EE 4 0 0 (fw_E below args s D vwCl N ad EE none z) Mk [(0, .ref (ad o)), (1, .ref (ad r0)), (2, .int kx2), (3, .int kx3)] 17 []) (h : P_Law_read_b59 o r0 K2 K17 M x2 x3 = some z) : fw_J p l e (headSpec wsX4_read rm_Law_read).room s m args below meth c D vwCl N ad EE 4 0 0 (fw_E below args s D vwCl N ad EE none z) M [(0, .ref (ad o)), (1, .ref (ad r0)), (2, .int x2), (3, .int x3)] 59 [] := by
  unfold P_Law_read_b59 at h
  refine fw_iinc (pc := 59) C (v := 1) (L2 := [(0, .ref _), (1, .ref _), (2, .int _), (3, .int _)]) 3 [1, 2, 3, 0] dX4_read_59 rfl fk_iconst_1 (by decide) rfl ?_
  refine fw_goto (pc := 62) C (tgt := 17) dX4_read_62 (by decide) ?_
  exact (hK17 _ _ _ h)
set_option maxRecDepth 100000 in
theorem c_Law_read_b17 {p : Program} {l : Launch} {e : Env} {s : State} {m : MethodId} {args : Array Value} {below : List Frame} {meth : Method} {c : Code} {D : va_G} {cI cZ cH cR : ClassId} {N : Nat} {ad : Nat → Nat} {EE : fw_M → Nat → va_E} {o : Nat} {r0 : Nat} {K2 : fw_M → Int32 → Option fw_M} {K17 : fw_M → Int32 → Int32 → Option fw_M} {M : fw_M} {x2 : Int32} {x3 : Int32} {z : fw_M} (C : fw_C p s m args meth c cX4_read RX4 wsX4_read 4 (none) D vwCl (fw_tys cI cZ cH cR) N ad fw_nw0) (ho : o_Law EE ad N cI cZ cH cR o) (hr0 : o_Hall EE ad N cI cZ cH cR r0) (hK2 : ∀ (Mk : fw_M) (kx2 : Int32), K2 Mk kx2 = some z → fw_J p l e (headSpec wsX4_read rm_Law_read).room s m args below meth c D vwCl N ad EE 4 0 0 (fw_E below args s D vwCl N ad EE none z) Mk [(0, .ref (ad o)), (1, .ref (ad r0)), (2, .int kx2)] 2 []) (hK17 : ∀ (Mk : fw_M) (kx2 : Int32) (kx3 : Int32), K17 Mk kx2 kx3 = some z → fw_J p l e (headSpec wsX4_read rm_Law_read).room s m args below meth c D vwCl N ad EE 4 0 0 (fw_E below args s D vwCl N ad EE none z) Mk [(0, .ref (ad o)), (1, .ref (ad r0)), (2, .int kx2), (3, .int kx3)] 17 []) (h : P_Law_read_b17 o r0 K2 K17 M x2 x3 = some z) : fw_J p l e (headSpec wsX4_read rm_Law_read).room s m args below meth c D vwCl N ad EE 4 0 0 (fw_E below args s D vwCl N ad EE none z) M [(0, .ref (ad o)), (1, .ref (ad r0)), (2, .int x2), (3, .int x3)] 17 [] := by
  unfold P_Law_read_b17 at h
  refine fw_iload_n (pc := 17) C 2 dX4_read_17 rfl rfl ?_
  refine fw_aload_n (pc := 18) C 1 dX4_read_18 rfl rfl ?_
  refine fw_geti (pc := 19) C hr0.2.2.2.1 rfl qX4_read_15 dX4_read_19 ?_
  refine fw_icmp_ge (pc := 22) C (tgt := 65) dX4_read_22 (by decide) (fun c1 => ?_) (fun c1 => ?_)
  · have h := fw_ift h c1
    exact fw_sub [0, 1, 2] rfl (c_Law_read_b65 C ho hr0 hK2 h)
  · have h := fw_iff h c1
    refine fw_iload_n (pc := 25) C 3 dX4_read_25 rfl rfl ?_
    refine fw_aload_n (pc := 26) C 1 dX4_read_26 rfl rfl ?_
    refine fw_geti (pc := 27) C hr0.2.2.2.1 rfl qX4_read_15 dX4_read_27 ?_
    refine fw_icmp_ge (pc := 30) C (tgt := 65) dX4_read_30 (by decide) (fun c2 => ?_) (fun c2 => ?_)
    · have h := fw_ift h c2
      exact fw_sub [0, 1, 2] rfl (c_Law_read_b65 C ho hr0 hK2 h)
    · have h := fw_iff h c2
      refine fw_iload_n (pc := 33) C 2 dX4_read_33 rfl rfl ?_
      refine fw_iload_n (pc := 34) C 3 dX4_read_34 rfl rfl ?_
      refine fw_icmp_eq (pc := 35) C (tgt := 59) dX4_read_35 (by decide) (fun c3 => ?_) (fun c3 => ?_)
      · have h := fw_ift h c3
        exact (c_Law_read_b59 C ho hr0 hK2 hK17 h)
      · have h := fw_iff h c3
        refine fw_aload_n (pc := 38) C 1 dX4_read_38 rfl rfl ?_
        refine fw_iload_n (pc := 39) C 2 dX4_read_39 rfl rfl ?_
        refine fw_iload_n (pc := 40) C 3 dX4_read_40 rfl rfl ?_
        obtain ⟨v4, hv4, h⟩ := fw_bind h
        refine fw_callV1 (pc := 41) C (rest := []) (c_Hall_yields hr0 hv4) (cwV 2 C.2.2.2.2.1 gX4_read_X3_yields rfl rfl rfl hd_Hall_yields ⟨Nat.le_of_ble_eq_true rfl, Nat.le_of_ble_eq_true rfl⟩) hr0.1 rfl rfl ⟨Nat.zero_le _, Nat.zero_le _⟩ rfl (Nat.le_of_ble_eq_true rfl) dX4_read_41 ?_
        refine fw_if_eq (pc := 44) C (tgt := 59) dX4_read_44 (by decide) (fun c5 => ?_) (fun c5 => ?_)
        · have h := fw_ift h c5
          exact (c_Law_read_b59 C ho hr0 hK2 hK17 h)
        · have h := fw_iff h c5
          refine fw_aload_n (pc := 47) C 0 dX4_read_47 rfl rfl ?_
          refine fw_getr (pc := 48) C ho.2.1 rfl qX4_read_9 dX4_read_48 ?_
          refine fw_iload_n (pc := 51) C 2 dX4_read_51 rfl rfl ?_
          refine fw_dup2 (pc := 52) C dX4_read_52 rfl rfl ?_
          obtain ⟨v6, hv6, h⟩ := fw_bind h
          refine fw_iald (pc := 53) C 0 ho.2.2 rfl hv6 dX4_read_53 ?_
          refine fw_iconst (pc := 54) C (v := 1) dX4_read_54 fk_iconst_1 ?_
          refine fw_iload_n (pc := 55) C 3 dX4_read_55 rfl rfl ?_
          refine fw_ishl (pc := 56) C dX4_read_56 ?_
          refine fw_ior (pc := 57) C dX4_read_57 ?_
          obtain ⟨M7, hM7, h⟩ := fw_bind h
          refine fw_iast (pc := 58) C 0 ho.2.2 rfl hM7 dX4_read_58 ?_
          exact (c_Law_read_b59 C ho hr0 hK2 hK17 h)
theorem c_Law_read_h17 {p : Program} {l : Launch} {e : Env} {s : State} {m : MethodId} {args : Array Value} {below : List Frame} {meth : Method} {c : Code} {D : va_G} {cI cZ cH cR : ClassId} {N : Nat} {ad : Nat → Nat} {EE : fw_M → Nat → va_E} {o : Nat} {r0 : Nat} {K2 : fw_M → Int32 → Option fw_M} {z : fw_M} (C : fw_C p s m args meth c cX4_read RX4 wsX4_read 4 (none) D vwCl (fw_tys cI cZ cH cR) N ad fw_nw0) (ho : o_Law EE ad N cI cZ cH cR o) (hr0 : o_Hall EE ad N cI cZ cH cR r0) (hK2 : ∀ (Mk : fw_M) (kx2 : Int32), K2 Mk kx2 = some z → fw_J p l e (headSpec wsX4_read rm_Law_read).room s m args below meth c D vwCl N ad EE 4 0 0 (fw_E below args s D vwCl N ad EE none z) Mk [(0, .ref (ad o)), (1, .ref (ad r0)), (2, .int kx2)] 2 []) : ∀ (n : Nat) (M : fw_M) (x2 : Int32) (x3 : Int32), P_Law_read_h17 o r0 K2 n M x2 x3 = some z → fw_J p l e (headSpec wsX4_read rm_Law_read).room s m args below meth c D vwCl N ad EE 4 0 0 (fw_E below args s D vwCl N ad EE none z) M [(0, .ref (ad o)), (1, .ref (ad r0)), (2, .int x2), (3, .int x3)] 17 [] := by
  intro n
  induction n with
  | zero => intro M x2 x3  h; cases h
  | succ n ih => intro M x2 x3  h; exact c_Law_read_b17 C ho hr0 hK2 ih  h
set_option maxRecDepth 100000 in
theorem c_Law_read_b2 {p : Program} {l : Launch} {e : Env} {s : State} {m : MethodId} {args : Array Value} {below : List Frame} {meth : Method} {c : Code} {D : va_G} {cI cZ cH cR : ClassId} {N : Nat} {ad : Nat → Nat} {EE : fw_M → Nat → va_E} {o : Nat} {r0 : Nat} {K2 : fw_M → Int32 → Option fw_M} {M : fw_M} {x2 : Int32} {z : fw_M} (C : fw_C p s m args meth c cX4_read RX4 wsX4_read 4 (none) D vwCl (fw_tys cI cZ cH cR) N ad fw_nw0) (ho : o_Law EE ad N cI cZ cH cR o) (hr0 : o_Hall EE ad N cI cZ cH cR r0) (hK2 : ∀ (Mk : fw_M) (kx2 : Int32), K2 Mk kx2 = some z → fw_J p l e (headSpec wsX4_read rm_Law_read).room s m args below meth c D vwCl N ad EE 4 0 0 (fw_E below args s D vwCl N ad EE none z) Mk [(0, .ref (ad o)), (1, .ref (ad r0)), (2, .int kx2)] 2 []) (h : P_Law_read_b2 o r0 K2 M x2 = some z) : fw_J p l e (headSpec wsX4_read rm_Law_read).room s m args below meth c D vwCl N ad EE 4 0 0 (fw_E below args s D vwCl N ad EE none z) M [(0, .ref (ad o)), (1, .ref (ad r0)), (2, .int x2)] 2 [] := by
  unfold P_Law_read_b2 at h
  refine fw_iload_n (pc := 2) C 2 dX4_read_2 rfl rfl ?_
  refine fw_bipush (pc := 3) C (v := 7) dX4_read_3 fk_bipush_7 ?_
  refine fw_icmp_ge (pc := 5) C (tgt := 71) dX4_read_5 (by decide) (fun c1 => ?_) (fun c1 => ?_)
  · have h := fw_ift h c1
    exact fw_vret (pc := 71) C (Option.some.inj h) dX4_read_71
  · have h := fw_iff h c1
    refine fw_aload_n (pc := 8) C 0 dX4_read_8 rfl rfl ?_
    refine fw_getr (pc := 9) C ho.2.1 rfl qX4_read_9 dX4_read_9 ?_
    refine fw_iload_n (pc := 12) C 2 dX4_read_12 rfl rfl ?_
    refine fw_iconst (pc := 13) C (v := 0) dX4_read_13 fk_iconst_0 ?_
    obtain ⟨M2, hM2, h⟩ := fw_bind h
    refine fw_iast (pc := 14) C 0 ho.2.2 rfl hM2 dX4_read_14 ?_
    refine fw_iconst (pc := 15) C (v := 0) dX4_read_15 fk_iconst_0 ?_
    refine fw_istore_n (pc := 16) C (L2 := [(0, .ref _), (1, .ref _), (2, .int _), (3, .int _)]) [1, 2, 3, 0] dX4_read_16 rfl (by decide) rfl ?_
    exact (c_Law_read_h17 C ho hr0 hK2 _ _ _ _ h)
theorem c_Law_read_h2 {p : Program} {l : Launch} {e : Env} {s : State} {m : MethodId} {args : Array Value} {below : List Frame} {meth : Method} {c : Code} {D : va_G} {cI cZ cH cR : ClassId} {N : Nat} {ad : Nat → Nat} {EE : fw_M → Nat → va_E} {o : Nat} {r0 : Nat} {z : fw_M} (C : fw_C p s m args meth c cX4_read RX4 wsX4_read 4 (none) D vwCl (fw_tys cI cZ cH cR) N ad fw_nw0) (ho : o_Law EE ad N cI cZ cH cR o) (hr0 : o_Hall EE ad N cI cZ cH cR r0) : ∀ (n : Nat) (M : fw_M) (x2 : Int32), P_Law_read_h2 o r0 n M x2 = some z → fw_J p l e (headSpec wsX4_read rm_Law_read).room s m args below meth c D vwCl N ad EE 4 0 0 (fw_E below args s D vwCl N ad EE none z) M [(0, .ref (ad o)), (1, .ref (ad r0)), (2, .int x2)] 2 [] := by
  intro n
  induction n with
  | zero => intro M x2  h; cases h
  | succ n ih => intro M x2  h; exact c_Law_read_b2 C ho hr0 ih  h
set_option maxRecDepth 100000 in
theorem c_Law_read_b0 {p : Program} {l : Launch} {e : Env} {s : State} {m : MethodId} {args : Array Value} {below : List Frame} {meth : Method} {c : Code} {D : va_G} {cI cZ cH cR : ClassId} {N : Nat} {ad : Nat → Nat} {EE : fw_M → Nat → va_E} {o : Nat} {r0 : Nat} {M : fw_M} {z : fw_M} (C : fw_C p s m args meth c cX4_read RX4 wsX4_read 4 (none) D vwCl (fw_tys cI cZ cH cR) N ad fw_nw0) (ho : o_Law EE ad N cI cZ cH cR o) (hr0 : o_Hall EE ad N cI cZ cH cR r0) (h : P_Law_read_b0 o r0 M = some z) : fw_J p l e (headSpec wsX4_read rm_Law_read).room s m args below meth c D vwCl N ad EE 4 0 0 (fw_E below args s D vwCl N ad EE none z) M [(0, .ref (ad o)), (1, .ref (ad r0))] 0 [] := by
  unfold P_Law_read_b0 at h
  refine fw_iconst (pc := 0) C (v := 0) dX4_read_0 fk_iconst_0 ?_
  refine fw_istore_n (pc := 1) C (L2 := [(0, .ref _), (1, .ref _), (2, .int _)]) [1, 2, 0] dX4_read_1 rfl (by decide) rfl ?_
  exact (c_Law_read_h2 C ho hr0 _ _ _ h)
theorem c_Law_read {l : Launch} {D : va_G} {cI cZ cH cR : ClassId} {N : Nat} {ad : Nat → Nat} {EE : fw_M → Nat → va_E} {o : Nat} {r0 : Nat} {M : fw_M} {z : fw_M} (ho : o_Law EE ad N cI cZ cH cR o) (hr0 : o_Hall EE ad N cI cZ cH cR r0) (h : P_Law_read o r0 M = some z) : fw_Met l yX4_read wsX4_read rm_Law_read D vwCl (fw_tys cI cZ cH cR) N ad fw_nw0 EE [.ref (ad o), .ref (ad r0)] M none z := by
  unfold P_Law_read at h
  exact fw_intro (cc := cX4_read) (maxL := 4) (ret := none) (own := RX4) (by decide) rfl rfl (Nat.le_of_ble_eq_true rfl) (fun p e s m args below meth c C => fw_sub [0, 1] rfl (c_Law_read_b0 C ho hr0 h))
abbrev rm_Law_yielded : Room := { frames := 0, cells := 0, slots := 0, locals := 0 }
theorem hd_Law_yielded : yX4_yielded.cls = RX4 ∧ yX4_yielded.cls ≠ "java/lang/invoke/MethodHandle" ∧ yX4_yielded.cls ≠ "java/lang/invoke/VarHandle" ∧ (parseMethodDescriptor yX4_yielded.desc).map (fun d => d.parameters.length) = some 3 := by decide +kernel
theorem qX4_yielded_9 : fw_G wsX4_yielded RX4 9 RX4 TX4 1 0 := ⟨by decide +kernel, by decide +kernel, by decide⟩
def P_Law_yielded_b0 (o : Nat) (M : fw_M) (x1 : Int32) (x2 : Int32) (x3 : Int32) : Option Int32 := (fw_ald M (o + 1) 7 x1).bind fun v1 => some ((v1 &&& x2) &&& (x3 ^^^ (-1 : Int32)))
def P_Law_yielded (o : Nat) (M : fw_M) (a0 : Int32) (a1 : Int32) (a2 : Int32) : Option Int32 := P_Law_yielded_b0 o M a0 a1 a2
set_option maxRecDepth 100000 in
theorem c_Law_yielded_b0 {p : Program} {l : Launch} {e : Env} {s : State} {m : MethodId} {args : Array Value} {below : List Frame} {meth : Method} {c : Code} {D : va_G} {cI cZ cH cR : ClassId} {N : Nat} {ad : Nat → Nat} {EE : fw_M → Nat → va_E} {o : Nat} {M : fw_M} {x1 : Int32} {x2 : Int32} {x3 : Int32} {z : Int32} (C : fw_C p s m args meth c cX4_yielded RX4 wsX4_yielded 4 (some .int) D vwCl (fw_tys cI cZ cH cR) N ad fw_nw0) (ho : o_Law EE ad N cI cZ cH cR o) (h : P_Law_yielded_b0 o M x1 x2 x3 = some z) : fw_J p l e (headSpec wsX4_yielded rm_Law_yielded).room s m args below meth c D vwCl N ad EE 4 0 0 (fw_E below args s D vwCl N ad EE (some (.int z)) M) M [(0, .ref (ad o)), (1, .int x1), (2, .int x2), (3, .int x3)] 0 [] := by
  unfold P_Law_yielded_b0 at h
  refine fw_aload_n (pc := 0) C 0 dX4_yielded_0 rfl rfl ?_
  refine fw_getr (pc := 1) C ho.2.1 rfl qX4_yielded_9 dX4_yielded_1 ?_
  refine fw_iload_n (pc := 4) C 1 dX4_yielded_4 rfl rfl ?_
  obtain ⟨v1, hv1, h⟩ := fw_bind h
  refine fw_iald (pc := 5) C 0 ho.2.2 rfl hv1 dX4_yielded_5 ?_
  refine fw_iload_n (pc := 6) C 2 dX4_yielded_6 rfl rfl ?_
  refine fw_iand (pc := 7) C dX4_yielded_7 ?_
  refine fw_iload_n (pc := 8) C 3 dX4_yielded_8 rfl rfl ?_
  refine fw_iconst (pc := 9) C (v := -1) dX4_yielded_9 fk_iconst_m1 ?_
  refine fw_ixor (pc := 10) C dX4_yielded_10 ?_
  refine fw_iand (pc := 11) C dX4_yielded_11 ?_
  exact fw_iret (pc := 12) C (Option.some.inj h) rfl dX4_yielded_12
theorem c_Law_yielded {l : Launch} {D : va_G} {cI cZ cH cR : ClassId} {N : Nat} {ad : Nat → Nat} {EE : fw_M → Nat → va_E} {o : Nat} {M : fw_M} {a0 : Int32} {a1 : Int32} {a2 : Int32} {z : Int32} (ho : o_Law EE ad N cI cZ cH cR o) (h : P_Law_yielded o M a0 a1 a2 = some z) : fw_Met l yX4_yielded wsX4_yielded rm_Law_yielded D vwCl (fw_tys cI cZ cH cR) N ad fw_nw0 EE [.ref (ad o), .int a0, .int a1, .int a2] M (some (.int z)) M := by
  unfold P_Law_yielded at h
  exact fw_intro (cc := cX4_yielded) (maxL := 4) (ret := some .int) (own := RX4) (by decide) rfl rfl (Nat.le_of_ble_eq_true rfl) (fun p e s m args below meth c C => fw_sub [0, 1, 2, 3] rfl (c_Law_yielded_b0 C ho h))
abbrev rm_Law_holdsFast : Room := { frames := 0, cells := 0, slots := 0, locals := 0 }
theorem hd_Law_holdsFast : yX4_holdsFast.cls = RX4 ∧ yX4_holdsFast.cls ≠ "java/lang/invoke/MethodHandle" ∧ yX4_holdsFast.cls ≠ "java/lang/invoke/VarHandle" ∧ (parseMethodDescriptor yX4_holdsFast.desc).map (fun d => d.parameters.length) = some 1 := by decide +kernel
theorem qX4_holdsFast_9 : fw_G wsX4_holdsFast RX4 9 RX4 TX4 1 0 := ⟨by decide +kernel, by decide +kernel, by decide⟩
def P_Law_holdsFast_b29 (o : Nat) (M : fw_M) (K2 : Int32 → Int32 → Option Int32) (x1 : Int32) (x2 : Int32) : Option Int32 := K2 x1 (x2 + (1 : Int32))
def P_Law_holdsFast_b2 (o : Nat) (M : fw_M) (K2 : Int32 → Int32 → Option Int32) (x1 : Int32) (x2 : Int32) : Option Int32 := (if (7 : Int32) ≤ x2 then some (1 : Int32) else (if ((x1 >>> (x2 &&& 31)) &&& (1 : Int32)) = (0 : Int32) then P_Law_holdsFast_b29 o M K2 x1 x2 else (fw_ald M (o + 1) 7 x2).bind fun v3 => (if (v3 &&& x1) = (0 : Int32) then some (0 : Int32) else P_Law_holdsFast_b29 o M K2 x1 x2)))
def P_Law_holdsFast_h2 (o : Nat) (M : fw_M) : Nat → Int32 → Int32 → Option Int32
  | 0, _, _ => none
  | n + 1, x1, x2 => P_Law_holdsFast_b2 o M (P_Law_holdsFast_h2 o M n) x1 x2
def P_Law_holdsFast_b0 (o : Nat) (M : fw_M) (x1 : Int32) : Option Int32 := P_Law_holdsFast_h2 o M fw_fu x1 (0 : Int32)
def P_Law_holdsFast (o : Nat) (M : fw_M) (a0 : Int32) : Option Int32 := P_Law_holdsFast_b0 o M a0
set_option maxRecDepth 100000 in
theorem c_Law_holdsFast_b29 {p : Program} {l : Launch} {e : Env} {s : State} {m : MethodId} {args : Array Value} {below : List Frame} {meth : Method} {c : Code} {D : va_G} {cI cZ cH cR : ClassId} {N : Nat} {ad : Nat → Nat} {EE : fw_M → Nat → va_E} {o : Nat} {M : fw_M} {K2 : Int32 → Int32 → Option Int32} {x1 : Int32} {x2 : Int32} {z : Int32} (C : fw_C p s m args meth c cX4_holdsFast RX4 wsX4_holdsFast 3 (some .boolean) D vwCl (fw_tys cI cZ cH cR) N ad fw_nw0) (ho : o_Law EE ad N cI cZ cH cR o) (hK2 : ∀ (kx1 : Int32) (kx2 : Int32), K2 kx1 kx2 = some z → fw_J p l e (headSpec wsX4_holdsFast rm_Law_holdsFast).room s m args below meth c D vwCl N ad EE 3 0 0 (fw_E below args s D vwCl N ad EE (some (.int z)) M) M [(0, .ref (ad o)), (1, .int kx1), (2, .int kx2)] 2 []) (h : P_Law_holdsFast_b29 o M K2 x1 x2 = some z) : fw_J p l e (headSpec wsX4_holdsFast rm_Law_holdsFast).room s m args below meth c D vwCl N ad EE 3 0 0 (fw_E below args s D vwCl N ad EE (some (.int z)) M) M [(0, .ref (ad o)), (1, .int x1), (2, .int x2)] 29 [] := by
  unfold P_Law_holdsFast_b29 at h
  refine fw_iinc (pc := 29) C (v := 1) (L2 := [(0, .ref _), (1, .int _), (2, .int _)]) 2 [1, 2, 0] dX4_holdsFast_29 rfl fk_iconst_1 (by decide) rfl ?_
  refine fw_goto (pc := 32) C (tgt := 2) dX4_holdsFast_32 (by decide) ?_
  exact (hK2 _ _ h)
set_option maxRecDepth 100000 in
theorem c_Law_holdsFast_b2 {p : Program} {l : Launch} {e : Env} {s : State} {m : MethodId} {args : Array Value} {below : List Frame} {meth : Method} {c : Code} {D : va_G} {cI cZ cH cR : ClassId} {N : Nat} {ad : Nat → Nat} {EE : fw_M → Nat → va_E} {o : Nat} {M : fw_M} {K2 : Int32 → Int32 → Option Int32} {x1 : Int32} {x2 : Int32} {z : Int32} (C : fw_C p s m args meth c cX4_holdsFast RX4 wsX4_holdsFast 3 (some .boolean) D vwCl (fw_tys cI cZ cH cR) N ad fw_nw0) (ho : o_Law EE ad N cI cZ cH cR o) (hK2 : ∀ (kx1 : Int32) (kx2 : Int32), K2 kx1 kx2 = some z → fw_J p l e (headSpec wsX4_holdsFast rm_Law_holdsFast).room s m args below meth c D vwCl N ad EE 3 0 0 (fw_E below args s D vwCl N ad EE (some (.int z)) M) M [(0, .ref (ad o)), (1, .int kx1), (2, .int kx2)] 2 []) (h : P_Law_holdsFast_b2 o M K2 x1 x2 = some z) : fw_J p l e (headSpec wsX4_holdsFast rm_Law_holdsFast).room s m args below meth c D vwCl N ad EE 3 0 0 (fw_E below args s D vwCl N ad EE (some (.int z)) M) M [(0, .ref (ad o)), (1, .int x1), (2, .int x2)] 2 [] := by
  unfold P_Law_holdsFast_b2 at h
  refine fw_iload_n (pc := 2) C 2 dX4_holdsFast_2 rfl rfl ?_
  refine fw_bipush (pc := 3) C (v := 7) dX4_holdsFast_3 fk_bipush_7 ?_
  refine fw_icmp_ge (pc := 5) C (tgt := 35) dX4_holdsFast_5 (by decide) (fun c1 => ?_) (fun c1 => ?_)
  · have h := fw_ift h c1
    refine fw_iconst (pc := 35) C (v := 1) dX4_holdsFast_35 fk_iconst_1 ?_
    exact fw_zret (pc := 36) C (Or.inr rfl) (Option.some.inj h) rfl dX4_holdsFast_36
  · have h := fw_iff h c1
    refine fw_iload_n (pc := 8) C 1 dX4_holdsFast_8 rfl rfl ?_
    refine fw_iload_n (pc := 9) C 2 dX4_holdsFast_9 rfl rfl ?_
    refine fw_ishr (pc := 10) C dX4_holdsFast_10 ?_
    refine fw_iconst (pc := 11) C (v := 1) dX4_holdsFast_11 fk_iconst_1 ?_
    refine fw_iand (pc := 12) C dX4_holdsFast_12 ?_
    refine fw_if_eq (pc := 13) C (tgt := 29) dX4_holdsFast_13 (by decide) (fun c2 => ?_) (fun c2 => ?_)
    · have h := fw_ift h c2
      exact (c_Law_holdsFast_b29 C ho hK2 h)
    · have h := fw_iff h c2
      refine fw_aload_n (pc := 16) C 0 dX4_holdsFast_16 rfl rfl ?_
      refine fw_getr (pc := 17) C ho.2.1 rfl qX4_holdsFast_9 dX4_holdsFast_17 ?_
      refine fw_iload_n (pc := 20) C 2 dX4_holdsFast_20 rfl rfl ?_
      obtain ⟨v3, hv3, h⟩ := fw_bind h
      refine fw_iald (pc := 21) C 0 ho.2.2 rfl hv3 dX4_holdsFast_21 ?_
      refine fw_iload_n (pc := 22) C 1 dX4_holdsFast_22 rfl rfl ?_
      refine fw_iand (pc := 23) C dX4_holdsFast_23 ?_
      refine fw_if_ne (pc := 24) C (tgt := 29) dX4_holdsFast_24 (by decide) (fun c4 => ?_) (fun c4 => ?_)
      · have h := fw_iff h c4
        exact (c_Law_holdsFast_b29 C ho hK2 h)
      · have h := fw_ift h c4
        refine fw_iconst (pc := 27) C (v := 0) dX4_holdsFast_27 fk_iconst_0 ?_
        exact fw_zret (pc := 28) C (Or.inl rfl) (Option.some.inj h) rfl dX4_holdsFast_28
theorem c_Law_holdsFast_h2 {p : Program} {l : Launch} {e : Env} {s : State} {m : MethodId} {args : Array Value} {below : List Frame} {meth : Method} {c : Code} {D : va_G} {cI cZ cH cR : ClassId} {N : Nat} {ad : Nat → Nat} {EE : fw_M → Nat → va_E} {o : Nat} {M : fw_M} {z : Int32} (C : fw_C p s m args meth c cX4_holdsFast RX4 wsX4_holdsFast 3 (some .boolean) D vwCl (fw_tys cI cZ cH cR) N ad fw_nw0) (ho : o_Law EE ad N cI cZ cH cR o) : ∀ (n : Nat) (x1 : Int32) (x2 : Int32), P_Law_holdsFast_h2 o M n x1 x2 = some z → fw_J p l e (headSpec wsX4_holdsFast rm_Law_holdsFast).room s m args below meth c D vwCl N ad EE 3 0 0 (fw_E below args s D vwCl N ad EE (some (.int z)) M) M [(0, .ref (ad o)), (1, .int x1), (2, .int x2)] 2 [] := by
  intro n
  induction n with
  | zero => intro x1 x2  h; cases h
  | succ n ih => intro x1 x2  h; exact c_Law_holdsFast_b2 C ho ih  h
set_option maxRecDepth 100000 in
theorem c_Law_holdsFast_b0 {p : Program} {l : Launch} {e : Env} {s : State} {m : MethodId} {args : Array Value} {below : List Frame} {meth : Method} {c : Code} {D : va_G} {cI cZ cH cR : ClassId} {N : Nat} {ad : Nat → Nat} {EE : fw_M → Nat → va_E} {o : Nat} {M : fw_M} {x1 : Int32} {z : Int32} (C : fw_C p s m args meth c cX4_holdsFast RX4 wsX4_holdsFast 3 (some .boolean) D vwCl (fw_tys cI cZ cH cR) N ad fw_nw0) (ho : o_Law EE ad N cI cZ cH cR o) (h : P_Law_holdsFast_b0 o M x1 = some z) : fw_J p l e (headSpec wsX4_holdsFast rm_Law_holdsFast).room s m args below meth c D vwCl N ad EE 3 0 0 (fw_E below args s D vwCl N ad EE (some (.int z)) M) M [(0, .ref (ad o)), (1, .int x1)] 0 [] := by
  unfold P_Law_holdsFast_b0 at h
  refine fw_iconst (pc := 0) C (v := 0) dX4_holdsFast_0 fk_iconst_0 ?_
  refine fw_istore_n (pc := 1) C (L2 := [(0, .ref _), (1, .int _), (2, .int _)]) [1, 2, 0] dX4_holdsFast_1 rfl (by decide) rfl ?_
  exact (c_Law_holdsFast_h2 C ho _ _ _ h)
theorem c_Law_holdsFast {l : Launch} {D : va_G} {cI cZ cH cR : ClassId} {N : Nat} {ad : Nat → Nat} {EE : fw_M → Nat → va_E} {o : Nat} {M : fw_M} {a0 : Int32} {z : Int32} (ho : o_Law EE ad N cI cZ cH cR o) (h : P_Law_holdsFast o M a0 = some z) : fw_Met l yX4_holdsFast wsX4_holdsFast rm_Law_holdsFast D vwCl (fw_tys cI cZ cH cR) N ad fw_nw0 EE [.ref (ad o), .int a0] M (some (.int z)) M := by
  unfold P_Law_holdsFast at h
  exact fw_intro (cc := cX4_holdsFast) (maxL := 3) (ret := some .boolean) (own := RX4) (by decide) rfl rfl (Nat.le_of_ble_eq_true rfl) (fun p e s m args below meth c C => fw_sub [0, 1] rfl (c_Law_holdsFast_b0 C ho h))
end
