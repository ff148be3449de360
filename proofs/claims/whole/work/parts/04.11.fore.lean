noncomputable section
abbrev rm_Fore_lawOf : Room := { frames := 2, cells := 0, slots := 0, locals := 45 }
theorem hd_Fore_lawOf : yX2_lawOf.cls = RX2 ∧ yX2_lawOf.cls ≠ "java/lang/invoke/MethodHandle" ∧ yX2_lawOf.cls ≠ "java/lang/invoke/VarHandle" ∧ (parseMethodDescriptor yX2_lawOf.desc).map (fun d => d.parameters.length) = some 1 := by decide +kernel
theorem qX2_lawOf_21 : fw_G wsX2_lawOf RX2 21 RX2 TX2 3 1 := ⟨by decide +kernel, by decide +kernel, by decide⟩
def P_Fore_lawOf_b0 (o : Nat) (r0 : Nat) (M : fw_M) : Option fw_M := (P_Law_read (o + 7) r0 M).bind fun q1 => some q1
def P_Fore_lawOf (o : Nat) (r0 : Nat) (M : fw_M) : Option fw_M := P_Fore_lawOf_b0 o r0 M
set_option maxRecDepth 100000 in
theorem c_Fore_lawOf_b0 {p : Program} {l : Launch} {e : Env} {s : State} {m : MethodId} {args : Array Value} {below : List Frame} {meth : Method} {c : Code} {D : va_G} {cI cZ cH cR : ClassId} {N : Nat} {ad : Nat → Nat} {EE : fw_M → Nat → va_E} {o : Nat} {r0 : Nat} {M : fw_M} {z : fw_M} (C : fw_C p s m args meth c cX2_lawOf RX2 wsX2_lawOf 2 (some (.object "YieldDoors$Law")) D vwCl (fw_tys cI cZ cH cR) N ad fw_nw0) (ho : o_Fore EE ad N cI cZ cH cR o) (hr0 : o_Hall EE ad N cI cZ cH cR r0) (h : P_Fore_lawOf_b0 o r0 M = some z) : fw_J p l e (headSpec wsX2_lawOf rm_Fore_lawOf).room s m args below meth c D vwCl N ad EE 2 0 0 (fw_E below args s D vwCl N ad EE (some (.ref (ad (o + 7)))) z) M [(0, .ref (ad o)), (1, .ref (ad r0))] 0 [] := by
  unfold P_Fore_lawOf_b0 at h
  refine fw_aload_n (pc := 0) C 0 dX2_lawOf_0 rfl rfl ?_
  refine fw_getr (pc := 1) C ho.2.2.1.1 rfl qX2_lawOf_21 dX2_lawOf_1 ?_
  refine fw_aload_n (pc := 4) C 1 dX2_lawOf_4 rfl rfl ?_
  obtain ⟨q1, hq1, h⟩ := fw_bind h
  refine fw_callV0 (pc := 5) C (rest := []) (c_Law_read ho.2.2.1.2 hr0 hq1) (cwV 1 C.2.2.2.2.1 gX2_lawOf_X4_read rfl rfl rfl hd_Law_read ⟨Nat.le_of_ble_eq_true rfl, Nat.le_of_ble_eq_true rfl⟩) ho.2.2.1.2.1 rfl rfl ⟨Nat.zero_le _, Nat.zero_le _⟩ rfl (Nat.le_of_ble_eq_true rfl) dX2_lawOf_5 ?_
  refine fw_aload_n (pc := 8) C 0 dX2_lawOf_8 rfl rfl ?_
  refine fw_getr (pc := 9) C ho.2.2.1.1 rfl qX2_lawOf_21 dX2_lawOf_9 ?_
  exact fw_aret (pc := 12) C (Option.some.inj h) dX2_lawOf_12
theorem c_Fore_lawOf {l : Launch} {D : va_G} {cI cZ cH cR : ClassId} {N : Nat} {ad : Nat → Nat} {EE : fw_M → Nat → va_E} {o : Nat} {r0 : Nat} {M : fw_M} {z : fw_M} (ho : o_Fore EE ad N cI cZ cH cR o) (hr0 : o_Hall EE ad N cI cZ cH cR r0) (h : P_Fore_lawOf o r0 M = some z) : fw_Met l yX2_lawOf wsX2_lawOf rm_Fore_lawOf D vwCl (fw_tys cI cZ cH cR) N ad fw_nw0 EE [.ref (ad o), .ref (ad r0)] M (some (.ref (ad (o + 7)))) z := by
  unfold P_Fore_lawOf at h
  exact fw_intro (cc := cX2_lawOf) (maxL := 2) (ret := some (.object "YieldDoors$Law")) (own := RX2) (by decide) rfl rfl (Nat.le_of_ble_eq_true rfl) (fun p e s m args below meth c C => fw_sub [0, 1] rfl (c_Fore_lawOf_b0 C ho hr0 h))
abbrev rm_Fore_lineOf : Room := { frames := 3, cells := 0, slots := 0, locals := 70 }
theorem hd_Fore_lineOf : yX2_lineOf.cls = RX2 ∧ yX2_lineOf.cls ≠ "java/lang/invoke/MethodHandle" ∧ yX2_lineOf.cls ≠ "java/lang/invoke/VarHandle" ∧ (parseMethodDescriptor yX2_lineOf.desc).map (fun d => d.parameters.length) = some 2 := by decide +kernel
theorem qX2_lineOf_21 : fw_G wsX2_lineOf RX2 21 RX2 TX2 3 1 := ⟨by decide +kernel, by decide +kernel, by decide⟩
theorem qX2_lineOf_28 : fw_G wsX2_lineOf RX2 28 RX2 TX2 3 2 := ⟨by decide +kernel, by decide +kernel, by decide⟩
def P_Fore_lineOf_b0 (o : Nat) (r0 : Nat) (M : fw_M) (x2 : Int32) : Option fw_M := (P_Law_read (o + 7) r0 M).bind fun q1 => (P_Line_readNobodies (o + 9) r0 q1).bind fun q2 => (P_Line_foretell (o + 9) (o + 7) q2 x2).bind fun q3 => some q3
def P_Fore_lineOf (o : Nat) (r0 : Nat) (M : fw_M) (a1 : Int32) : Option fw_M := P_Fore_lineOf_b0 o r0 M a1
set_option maxRecDepth 100000 in
theorem c_Fore_lineOf_b0 {p : Program} {l : Launch} {e : Env} {s : State} {m : MethodId} {args : Array Value} {below : List Frame} {meth : Method} {c : Code} {D : va_G} {cI cZ cH cR : ClassId} {N : Nat} {ad : Nat → Nat} {EE : fw_M → Nat → va_E} {o : Nat} {r0 : Nat} {M : fw_M} {x2 : Int32} {z : fw_M} (C : fw_C p s m args meth c cX2_lineOf RX2 wsX2_lineOf 3 (some (.object "YieldDoors$Line")) D vwCl (fw_tys cI cZ cH cR) N ad fw_nw0) (ho : o_Fore EE ad N cI cZ cH cR o) (hr0 : o_Hall EE ad N cI cZ cH cR r0) (h : P_Fore_lineOf_b0 o r0 M x2 = some z) : fw_J p l e (headSpec wsX2_lineOf rm_Fore_lineOf).room s m args below meth c D vwCl N ad EE 3 0 0 (fw_E below args s D vwCl N ad EE (some (.ref (ad (o + 9)))) z) M [(0, .ref (ad o)), (1, .ref (ad r0)), (2, .int x2)] 0 [] := by
  unfold P_Fore_lineOf_b0 at h
  refine fw_aload_n (pc := 0) C 0 dX2_lineOf_0 rfl rfl ?_
  refine fw_getr (pc := 1) C ho.2.2.1.1 rfl qX2_lineOf_21 dX2_lineOf_1 ?_
  refine fw_aload_n (pc := 4) C 1 dX2_lineOf_4 rfl rfl ?_
  obtain ⟨q1, hq1, h⟩ := fw_bind h
  refine fw_callV0 (pc := 5) C (rest := []) (c_Law_read ho.2.2.1.2 hr0 hq1) (cwV 1 C.2.2.2.2.1 gX2_lineOf_X4_read rfl rfl rfl hd_Law_read ⟨Nat.le_of_ble_eq_true rfl, Nat.le_of_ble_eq_true rfl⟩) ho.2.2.1.2.1 rfl rfl ⟨Nat.zero_le _, Nat.zero_le _⟩ rfl (Nat.le_of_ble_eq_true rfl) dX2_lineOf_5 ?_
  refine fw_aload_n (pc := 8) C 0 dX2_lineOf_8 rfl rfl ?_
  refine fw_getr (pc := 9) C ho.2.2.2.1 rfl qX2_lineOf_28 dX2_lineOf_9 ?_
  refine fw_aload_n (pc := 12) C 1 dX2_lineOf_12 rfl rfl ?_
  obtain ⟨q2, hq2, h⟩ := fw_bind h
  refine fw_callV0 (pc := 13) C (rest := []) (c_Line_readNobodies ho.2.2.2.2 hr0 hq2) (cwV 1 C.2.2.2.2.1 gX2_lineOf_X5_readNobodies rfl rfl rfl hd_Line_readNobodies ⟨Nat.le_of_ble_eq_true rfl, Nat.le_of_ble_eq_true rfl⟩) ho.2.2.2.2.1 rfl rfl ⟨Nat.zero_le _, Nat.zero_le _⟩ rfl (Nat.le_of_ble_eq_true rfl) dX2_lineOf_13 ?_
  refine fw_aload_n (pc := 16) C 0 dX2_lineOf_16 rfl rfl ?_
  refine fw_getr (pc := 17) C ho.2.2.2.1 rfl qX2_lineOf_28 dX2_lineOf_17 ?_
  refine fw_aload_n (pc := 20) C 0 dX2_lineOf_20 rfl rfl ?_
  refine fw_getr (pc := 21) C ho.2.2.1.1 rfl qX2_lineOf_21 dX2_lineOf_21 ?_
  refine fw_iload_n (pc := 24) C 2 dX2_lineOf_24 rfl rfl ?_
  obtain ⟨q3, hq3, h⟩ := fw_bind h
  refine fw_callV0 (pc := 25) C (rest := []) (c_Line_foretell ho.2.2.2.2 ho.2.2.1.2 hq3) (cwV 2 C.2.2.2.2.1 gX2_lineOf_X5_foretell rfl rfl rfl hd_Line_foretell ⟨Nat.le_of_ble_eq_true rfl, Nat.le_of_ble_eq_true rfl⟩) ho.2.2.2.2.1 rfl rfl ⟨Nat.zero_le _, Nat.zero_le _⟩ rfl (Nat.le_of_ble_eq_true rfl) dX2_lineOf_25 ?_
  refine fw_aload_n (pc := 28) C 0 dX2_lineOf_28 rfl rfl ?_
  refine fw_getr (pc := 29) C ho.2.2.2.1 rfl qX2_lineOf_28 dX2_lineOf_29 ?_
  exact fw_aret (pc := 32) C (Option.some.inj h) dX2_lineOf_32
theorem c_Fore_lineOf {l : Launch} {D : va_G} {cI cZ cH cR : ClassId} {N : Nat} {ad : Nat → Nat} {EE : fw_M → Nat → va_E} {o : Nat} {r0 : Nat} {M : fw_M} {a1 : Int32} {z : fw_M} (ho : o_Fore EE ad N cI cZ cH cR o) (hr0 : o_Hall EE ad N cI cZ cH cR r0) (h : P_Fore_lineOf o r0 M a1 = some z) : fw_Met l yX2_lineOf wsX2_lineOf rm_Fore_lineOf D vwCl (fw_tys cI cZ cH cR) N ad fw_nw0 EE [.ref (ad o), .ref (ad r0), .int a1] M (some (.ref (ad (o + 9)))) z := by
  unfold P_Fore_lineOf at h
  exact fw_intro (cc := cX2_lineOf) (maxL := 3) (ret := some (.object "YieldDoors$Line")) (own := RX2) (by decide) rfl rfl (Nat.le_of_ble_eq_true rfl) (fun p e s m args below meth c C => fw_sub [0, 1, 2] rfl (c_Fore_lineOf_b0 C ho hr0 h))
abbrev rm_Fore_lineAt : Room := { frames := 4, cells := 0, slots := 0, locals := 92 }
theorem hd_Fore_lineAt : yX2_lineAt.cls = RX2 ∧ yX2_lineAt.cls ≠ "java/lang/invoke/MethodHandle" ∧ yX2_lineAt.cls ≠ "java/lang/invoke/VarHandle" ∧ (parseMethodDescriptor yX2_lineAt.desc).map (fun d => d.parameters.length) = some 2 := by decide +kernel
def P_Fore_lineAt_b0 (o : Nat) (r0 : Nat) (M : fw_M) (x2 : Int32) : Option fw_M := (P_Hall_waitingAt r0 M x2).bind fun v1 => (P_Fore_lineOf o r0 M v1).bind fun q2 => some q2
def P_Fore_lineAt (o : Nat) (r0 : Nat) (M : fw_M) (a1 : Int32) : Option fw_M := P_Fore_lineAt_b0 o r0 M a1
set_option maxRecDepth 100000 in
theorem c_Fore_lineAt_b0 {p : Program} {l : Launch} {e : Env} {s : State} {m : MethodId} {args : Array Value} {below : List Frame} {meth : Method} {c : Code} {D : va_G} {cI cZ cH cR : ClassId} {N : Nat} {ad : Nat → Nat} {EE : fw_M → Nat → va_E} {o : Nat} {r0 : Nat} {M : fw_M} {x2 : Int32} {z : fw_M} (C : fw_C p s m args meth c cX2_lineAt RX2 wsX2_lineAt 3 (some (.object "YieldDoors$Line")) D vwCl (fw_tys cI cZ cH cR) N ad fw_nw0) (ho : o_Fore EE ad N cI cZ cH cR o) (hr0 : o_Hall EE ad N cI cZ cH cR r0) (h : P_Fore_lineAt_b0 o r0 M x2 = some z) : fw_J p l e (headSpec wsX2_lineAt rm_Fore_lineAt).room s m args below meth c D vwCl N ad EE 3 0 0 (fw_E below args s D vwCl N ad EE (some (.ref (ad (o + 9)))) z) M [(0, .ref (ad o)), (1, .ref (ad r0)), (2, .int x2)] 0 [] := by
  unfold P_Fore_lineAt_b0 at h
  refine fw_aload_n (pc := 0) C 0 dX2_lineAt_0 rfl rfl ?_
  refine fw_aload_n (pc := 1) C 1 dX2_lineAt_1 rfl rfl ?_
  refine fw_aload_n (pc := 2) C 1 dX2_lineAt_2 rfl rfl ?_
  refine fw_iload_n (pc := 3) C 2 dX2_lineAt_3 rfl rfl ?_
  obtain ⟨v1, hv1, h⟩ := fw_bind h
  refine fw_callV1 (pc := 4) C (rest := [_, _]) (c_Hall_waitingAt hr0 hv1) (cwV 1 C.2.2.2.2.1 gX2_lineAt_X3_waitingAt rfl rfl rfl hd_Hall_waitingAt ⟨Nat.le_of_ble_eq_true rfl, Nat.le_of_ble_eq_true rfl⟩) hr0.1 rfl rfl ⟨Nat.zero_le _, Nat.zero_le _⟩ rfl (Nat.le_of_ble_eq_true rfl) dX2_lineAt_4 ?_
  obtain ⟨q2, hq2, h⟩ := fw_bind h
  refine fw_callV1 (pc := 7) C (rest := []) (c_Fore_lineOf ho hr0 hq2) (cwV 2 C.2.2.2.2.1 gX2_lineAt_X2_lineOf rfl rfl rfl hd_Fore_lineOf ⟨Nat.le_of_ble_eq_true rfl, Nat.le_of_ble_eq_true rfl⟩) ho.1 rfl rfl ⟨Nat.zero_le _, Nat.zero_le _⟩ rfl (Nat.le_of_ble_eq_true rfl) dX2_lineAt_7 ?_
  exact fw_aret (pc := 10) C (Option.some.inj h) dX2_lineAt_10
theorem c_Fore_lineAt {l : Launch} {D : va_G} {cI cZ cH cR : ClassId} {N : Nat} {ad : Nat → Nat} {EE : fw_M → Nat → va_E} {o : Nat} {r0 : Nat} {M : fw_M} {a1 : Int32} {z : fw_M} (ho : o_Fore EE ad N cI cZ cH cR o) (hr0 : o_Hall EE ad N cI cZ cH cR r0) (h : P_Fore_lineAt o r0 M a1 = some z) : fw_Met l yX2_lineAt wsX2_lineAt rm_Fore_lineAt D vwCl (fw_tys cI cZ cH cR) N ad fw_nw0 EE [.ref (ad o), .ref (ad r0), .int a1] M (some (.ref (ad (o + 9)))) z := by
  unfold P_Fore_lineAt at h
  exact fw_intro (cc := cX2_lineAt) (maxL := 3) (ret := some (.object "YieldDoors$Line")) (own := RX2) (by decide) rfl rfl (Nat.le_of_ble_eq_true rfl) (fun p e s m args below meth c C => fw_sub [0, 1, 2] rfl (c_Fore_lineAt_b0 C ho hr0 h))
abbrev rm_Fore_whenThrough : Room := { frames := 5, cells := 0, slots := 0, locals := 114 }
theorem hd_Fore_whenThrough : yX2_whenThrough.cls = RX2 ∧ yX2_whenThrough.cls ≠ "java/lang/invoke/MethodHandle" ∧ yX2_whenThrough.cls ≠ "java/lang/invoke/VarHandle" ∧ (parseMethodDescriptor yX2_whenThrough.desc).map (fun d => d.parameters.length) = some 2 := by decide +kernel
theorem qX2_whenThrough_51 : fw_G wsX2_whenThrough RX2 51 RX3 TX3 9 7 := ⟨by decide +kernel, by decide +kernel, by decide⟩
def P_Fore_whenThrough_b26 (o : Nat) (r0 : Nat) (M : fw_M) (t0 : Int32) : Option (Int32 × fw_M) := some (t0, M)
def P_Fore_whenThrough_b0 (o : Nat) (r0 : Nat) (M : fw_M) (x2 : Int32) : Option (Int32 × fw_M) := (fw_ald M (r0 + 4) 7 x2).bind fun v1 => (if v1 = (-1 : Int32) then P_Fore_whenThrough_b26 o r0 M (0 : Int32) else (P_Fore_lineAt o r0 M v1).bind fun q3 => (P_Line_whenGone (o + 9) q3 x2).bind fun v4 => P_Fore_whenThrough_b26 o r0 q3 v4)
def P_Fore_whenThrough (o : Nat) (r0 : Nat) (M : fw_M) (a1 : Int32) : Option (Int32 × fw_M) := P_Fore_whenThrough_b0 o r0 M a1
set_option maxRecDepth 100000 in
theorem c_Fore_whenThrough_b26 {p : Program} {l : Launch} {e : Env} {s : State} {m : MethodId} {args : Array Value} {below : List Frame} {meth : Method} {c : Code} {D : va_G} {cI cZ cH cR : ClassId} {N : Nat} {ad : Nat → Nat} {EE : fw_M → Nat → va_E} {o : Nat} {r0 : Nat} {M : fw_M} {t0 : Int32} {z : (Int32 × fw_M)} (C : fw_C p s m args meth c cX2_whenThrough RX2 wsX2_whenThrough 4 (some .int) D vwCl (fw_tys cI cZ cH cR) N ad fw_nw0) (ho : o_Fore EE ad N cI cZ cH cR o) (hr0 : o_Hall EE ad N cI cZ cH cR r0) (h : P_Fore_whenThrough_b26 o r0 M t0 = some z) : fw_J p l e (headSpec wsX2_whenThrough rm_Fore_whenThrough).room s m args below meth c D vwCl N ad EE 4 0 0 (fw_E below args s D vwCl N ad EE (some (.int z.1)) z.2) M [] 26 [.int t0] := by
  unfold P_Fore_whenThrough_b26 at h
  exact fw_iret (pc := 26) C (fw_p1 h) (fw_p2 h) dX2_whenThrough_26
set_option maxRecDepth 100000 in
theorem c_Fore_whenThrough_b0 {p : Program} {l : Launch} {e : Env} {s : State} {m : MethodId} {args : Array Value} {below : List Frame} {meth : Method} {c : Code} {D : va_G} {cI cZ cH cR : ClassId} {N : Nat} {ad : Nat → Nat} {EE : fw_M → Nat → va_E} {o : Nat} {r0 : Nat} {M : fw_M} {x2 : Int32} {z : (Int32 × fw_M)} (C : fw_C p s m args meth c cX2_whenThrough RX2 wsX2_whenThrough 4 (some .int) D vwCl (fw_tys cI cZ cH cR) N ad fw_nw0) (ho : o_Fore EE ad N cI cZ cH cR o) (hr0 : o_Hall EE ad N cI cZ cH cR r0) (h : P_Fore_whenThrough_b0 o r0 M x2 = some z) : fw_J p l e (headSpec wsX2_whenThrough rm_Fore_whenThrough).room s m args below meth c D vwCl N ad EE 4 0 0 (fw_E below args s D vwCl N ad EE (some (.int z.1)) z.2) M [(0, .ref (ad o)), (1, .ref (ad r0)), (2, .int x2)] 0 [] := by
  unfold P_Fore_whenThrough_b0 at h
  refine fw_aload_n (pc := 0) C 1 dX2_whenThrough_0 rfl rfl ?_
  refine fw_getr (pc := 1) C hr0.2.2.2.2.2.2.2.2.1.1 rfl qX2_whenThrough_51 dX2_whenThrough_1 ?_
  refine fw_iload_n (pc := 4) C 2 dX2_whenThrough_4 rfl rfl ?_
  obtain ⟨v1, hv1, h⟩ := fw_bind h
  refine fw_iald (pc := 5) C 0 hr0.2.2.2.2.2.2.2.2.1.2 rfl hv1 dX2_whenThrough_5 ?_
  refine fw_istore_n (pc := 6) C (L2 := [(0, .ref _), (1, .ref _), (2, .int _), (3, .int _)]) [1, 2, 3, 0] dX2_whenThrough_6 rfl (by decide) rfl ?_
  refine fw_iload_n (pc := 7) C 3 dX2_whenThrough_7 rfl rfl ?_
  refine fw_iconst (pc := 8) C (v := -1) dX2_whenThrough_8 fk_iconst_m1 ?_
  refine fw_icmp_ne (pc := 9) C (tgt := 16) dX2_whenThrough_9 (by decide) (fun c2 => ?_) (fun c2 => ?_)
  · have h := fw_iff h c2
    refine fw_aload_n (pc := 16) C 0 dX2_whenThrough_16 rfl rfl ?_
    refine fw_aload_n (pc := 17) C 1 dX2_whenThrough_17 rfl rfl ?_
    refine fw_iload_n (pc := 18) C 3 dX2_whenThrough_18 rfl rfl ?_
    obtain ⟨q3, hq3, h⟩ := fw_bind h
    refine fw_callV1 (pc := 19) C (rest := []) (c_Fore_lineAt ho hr0 hq3) (cwV 2 C.2.2.2.2.1 gX2_whenThrough_X2_lineAt rfl rfl rfl hd_Fore_lineAt ⟨Nat.le_of_ble_eq_true rfl, Nat.le_of_ble_eq_true rfl⟩) ho.1 rfl rfl ⟨Nat.zero_le _, Nat.zero_le _⟩ rfl (Nat.le_of_ble_eq_true rfl) dX2_whenThrough_19 ?_
    refine fw_iload_n (pc := 22) C 2 dX2_whenThrough_22 rfl rfl ?_
    obtain ⟨v4, hv4, h⟩ := fw_bind h
    refine fw_callV1 (pc := 23) C (rest := []) (c_Line_whenGone ho.2.2.2.2 hv4) (cwV 1 C.2.2.2.2.1 gX2_whenThrough_X5_whenGone rfl rfl rfl hd_Line_whenGone ⟨Nat.le_of_ble_eq_true rfl, Nat.le_of_ble_eq_true rfl⟩) ho.2.2.2.2.1 rfl rfl ⟨Nat.zero_le _, Nat.zero_le _⟩ rfl (Nat.le_of_ble_eq_true rfl) dX2_whenThrough_23 ?_
    exact fw_sub [] rfl (c_Fore_whenThrough_b26 C ho hr0 h)
  · have h := fw_ift h c2
    refine fw_iconst (pc := 12) C (v := 0) dX2_whenThrough_12 fk_iconst_0 ?_
    refine fw_goto (pc := 13) C (tgt := 26) dX2_whenThrough_13 (by decide) ?_
    exact fw_sub [] rfl (c_Fore_whenThrough_b26 C ho hr0 h)
theorem c_Fore_whenThrough {l : Launch} {D : va_G} {cI cZ cH cR : ClassId} {N : Nat} {ad : Nat → Nat} {EE : fw_M → Nat → va_E} {o : Nat} {r0 : Nat} {M : fw_M} {a1 : Int32} {z : (Int32 × fw_M)} (ho : o_Fore EE ad N cI cZ cH cR o) (hr0 : o_Hall EE ad N cI cZ cH cR r0) (h : P_Fore_whenThrough o r0 M a1 = some z) : fw_Met l yX2_whenThrough wsX2_whenThrough rm_Fore_whenThrough D vwCl (fw_tys cI cZ cH cR) N ad fw_nw0 EE [.ref (ad o), .ref (ad r0), .int a1] M (some (.int z.1)) z.2 := by
  unfold P_Fore_whenThrough at h
  exact fw_intro (cc := cX2_whenThrough) (maxL := 4) (ret := some .int) (own := RX2) (by decide) rfl rfl (Nat.le_of_ble_eq_true rfl) (fun p e s m args below meth c C => fw_sub [0, 1, 2] rfl (c_Fore_whenThrough_b0 C ho hr0 h))
abbrev rm_Fore_whenAt : Room := { frames := 4, cells := 0, slots := 0, locals := 92 }
theorem hd_Fore_whenAt : yX2_whenAt.cls = RX2 ∧ yX2_whenAt.cls ≠ "java/lang/invoke/MethodHandle" ∧ yX2_whenAt.cls ≠ "java/lang/invoke/VarHandle" ∧ (parseMethodDescriptor yX2_whenAt.desc).map (fun d => d.parameters.length) = some 3 := by decide +kernel
def P_Fore_whenAt_b26 (o : Nat) (r0 : Nat) (M : fw_M) (t0 : Int32) : Option (Int32 × fw_M) := some (t0, M)
def P_Fore_whenAt_b0 (o : Nat) (r0 : Nat) (M : fw_M) (x2 : Int32) (x3 : Int32) : Option (Int32 × fw_M) := (if (0 : Int32) ≤ x3 then (P_Hall_waitingAt r0 M x3).bind fun v2 => (P_Fore_lineOf o r0 M (v2 ||| ((1 : Int32) <<< (x2 &&& 31)))).bind fun q3 => (P_Line_whenGone (o + 9) q3 x2).bind fun v4 => P_Fore_whenAt_b26 o r0 q3 v4 else P_Fore_whenAt_b26 o r0 M (-1 : Int32))
def P_Fore_whenAt (o : Nat) (r0 : Nat) (M : fw_M) (a1 : Int32) (a2 : Int32) : Option (Int32 × fw_M) := P_Fore_whenAt_b0 o r0 M a1 a2
set_option maxRecDepth 100000 in
theorem c_Fore_whenAt_b26 {p : Program} {l : Launch} {e : Env} {s : State} {m : MethodId} {args : Array Value} {below : List Frame} {meth : Method} {c : Code} {D : va_G} {cI cZ cH cR : ClassId} {N : Nat} {ad : Nat → Nat} {EE : fw_M → Nat → va_E} {o : Nat} {r0 : Nat} {M : fw_M} {t0 : Int32} {z : (Int32 × fw_M)} (C : fw_C p s m args meth c cX2_whenAt RX2 wsX2_whenAt 4 (some .int) D vwCl (fw_tys cI cZ cH cR) N ad fw_nw0) (ho : o_Fore EE ad N cI cZ cH cR o) (hr0 : o_Hall EE ad N cI cZ cH cR r0) (h : P_Fore_whenAt_b26 o r0 M t0 = some z) : fw_J p l e (headSpec wsX2_whenAt rm_Fore_whenAt).room s m args below meth c D vwCl N ad EE 4 0 0 (fw_E below args s D vwCl N ad EE (some (.int z.1)) z.2) M [] 26 [.int t0] := by
  unfold P_Fore_whenAt_b26 at h
  exact fw_iret (pc := 26) C (fw_p1 h) (fw_p2 h) dX2_whenAt_26
set_option maxRecDepth 100000 in
theorem c_Fore_whenAt_b0 {p : Program} {l : Launch} {e : Env} {s : State} {m : MethodId} {args : Array Value} {below : List Frame} {meth : Method} {c : Code} {D : va_G} {cI cZ cH cR : ClassId} {N : Nat} {ad : Nat → Nat} {EE : fw_M → Nat → va_E} {o : Nat} {r0 : Nat} {M : fw_M} {x2 : Int32} {x3 : Int32} {z : (Int32 × fw_M)} (C : fw_C p s m args meth c cX2_whenAt RX2 wsX2_whenAt 4 (some .int) D vwCl (fw_tys cI cZ cH cR) N ad fw_nw0) (ho : o_Fore EE ad N cI cZ cH cR o) (hr0 : o_Hall EE ad N cI cZ cH cR r0) (h : P_Fore_whenAt_b0 o r0 M x2 x3 = some z) : fw_J p l e (headSpec wsX2_whenAt rm_Fore_whenAt).room s m args below meth c D vwCl N ad EE 4 0 0 (fw_E below args s D vwCl N ad EE (some (.int z.1)) z.2) M [(0, .ref (ad o)), (1, .ref (ad r0)), (2, .int x2), (3, .int x3)] 0 [] := by
  unfold P_Fore_whenAt_b0 at h
  refine fw_iload_n (pc := 0) C 3 dX2_whenAt_0 rfl rfl ?_
  refine fw_if_ge (pc := 1) C (tgt := 8) dX2_whenAt_1 (by decide) (fun c1 => ?_) (fun c1 => ?_)
  · have h := fw_ift h c1
    refine fw_aload_n (pc := 8) C 0 dX2_whenAt_8 rfl rfl ?_
    refine fw_aload_n (pc := 9) C 1 dX2_whenAt_9 rfl rfl ?_
    refine fw_aload_n (pc := 10) C 1 dX2_whenAt_10 rfl rfl ?_
    refine fw_iload_n (pc := 11) C 3 dX2_whenAt_11 rfl rfl ?_
    obtain ⟨v2, hv2, h⟩ := fw_bind h
    refine fw_callV1 (pc := 12) C (rest := [_, _]) (c_Hall_waitingAt hr0 hv2) (cwV 1 C.2.2.2.2.1 gX2_whenAt_X3_waitingAt rfl rfl rfl hd_Hall_waitingAt ⟨Nat.le_of_ble_eq_true rfl, Nat.le_of_ble_eq_true rfl⟩) hr0.1 rfl rfl ⟨Nat.zero_le _, Nat.zero_le _⟩ rfl (Nat.le_of_ble_eq_true rfl) dX2_whenAt_12 ?_
    refine fw_iconst (pc := 15) C (v := 1) dX2_whenAt_15 fk_iconst_1 ?_
    refine fw_iload_n (pc := 16) C 2 dX2_whenAt_16 rfl rfl ?_
    refine fw_ishl (pc := 17) C dX2_whenAt_17 ?_
    refine fw_ior (pc := 18) C dX2_whenAt_18 ?_
    obtain ⟨q3, hq3, h⟩ := fw_bind h
    refine fw_callV1 (pc := 19) C (rest := []) (c_Fore_lineOf ho hr0 hq3) (cwV 2 C.2.2.2.2.1 gX2_whenAt_X2_lineOf rfl rfl rfl hd_Fore_lineOf ⟨Nat.le_of_ble_eq_true rfl, Nat.le_of_ble_eq_true rfl⟩) ho.1 rfl rfl ⟨Nat.zero_le _, Nat.zero_le _⟩ rfl (Nat.le_of_ble_eq_true rfl) dX2_whenAt_19 ?_
    refine fw_iload_n (pc := 22) C 2 dX2_whenAt_22 rfl rfl ?_
    obtain ⟨v4, hv4, h⟩ := fw_bind h
    refine fw_callV1 (pc := 23) C (rest := []) (c_Line_whenGone ho.2.2.2.2 hv4) (cwV 1 C.2.2.2.2.1 gX2_whenAt_X5_whenGone rfl rfl rfl hd_Line_whenGone ⟨Nat.le_of_ble_eq_true rfl, Nat.le_of_ble_eq_true rfl⟩) ho.2.2.2.2.1 rfl rfl ⟨Nat.zero_le _, Nat.zero_le _⟩ rfl (Nat.le_of_ble_eq_true rfl) dX2_whenAt_23 ?_
    exact fw_sub [] rfl (c_Fore_whenAt_b26 C ho hr0 h)
  · have h := fw_iff h c1
    refine fw_iconst (pc := 4) C (v := -1) dX2_whenAt_4 fk_iconst_m1 ?_
    refine fw_goto (pc := 5) C (tgt := 26) dX2_whenAt_5 (by decide) ?_
    exact fw_sub [] rfl (c_Fore_whenAt_b26 C ho hr0 h)
theorem c_Fore_whenAt {l : Launch} {D : va_G} {cI cZ cH cR : ClassId} {N : Nat} {ad : Nat → Nat} {EE : fw_M → Nat → va_E} {o : Nat} {r0 : Nat} {M : fw_M} {a1 : Int32} {a2 : Int32} {z : (Int32 × fw_M)} (ho : o_Fore EE ad N cI cZ cH cR o) (hr0 : o_Hall EE ad N cI cZ cH cR r0) (h : P_Fore_whenAt o r0 M a1 a2 = some z) : fw_Met l yX2_whenAt wsX2_whenAt rm_Fore_whenAt D vwCl (fw_tys cI cZ cH cR) N ad fw_nw0 EE [.ref (ad o), .ref (ad r0), .int a1, .int a2] M (some (.int z.1)) z.2 := by
  unfold P_Fore_whenAt at h
  exact fw_intro (cc := cX2_whenAt) (maxL := 4) (ret := some .int) (own := RX2) (by decide) rfl rfl (Nat.le_of_ble_eq_true rfl) (fun p e s m args below meth c C => fw_sub [0, 1, 2, 3] rfl (c_Fore_whenAt_b0 C ho hr0 h))
abbrev rm_Fore_soonestDoor : Room := { frames := 5, cells := 0, slots := 0, locals := 115 }
theorem hd_Fore_soonestDoor : yX2_soonestDoor.cls = RX2 ∧ yX2_soonestDoor.cls ≠ "java/lang/invoke/MethodHandle" ∧ yX2_soonestDoor.cls ≠ "java/lang/invoke/VarHandle" ∧ (parseMethodDescriptor yX2_soonestDoor.desc).map (fun d => d.parameters.length) = some 2 := by decide +kernel
theorem qX2_soonestDoor_61 : fw_G wsX2_soonestDoor RX2 61 RX3 TX3 9 0 := ⟨by decide +kernel, by decide +kernel, by decide⟩
def P_Fore_soonestDoor_b47 (o : Nat) (r0 : Nat) (K9 : fw_M → Int32 → Int32 → Int32 → Int32 → Option (Int32 × fw_M)) (M : fw_M) (x2 : Int32) (x3 : Int32) (x4 : Int32) (x5 : Int32) : Option (Int32 × fw_M) := K9 M x2 x3 x4 (x5 + (1 : Int32))
def P_Fore_soonestDoor_b9 (o : Nat) (r0 : Nat) (K9 : fw_M → Int32 → Int32 → Int32 → Int32 → Option (Int32 × fw_M)) (M : fw_M) (x2 : Int32) (x3 : Int32) (x4 : Int32) (x5 : Int32) : Option (Int32 × fw_M) := (if (M r0 0) ≤ x5 then some (x3, M) else (P_Fore_whenAt o r0 M x2 x5).bind fun q2 => (if q2.1 < (0 : Int32) then P_Fore_soonestDoor_b47 o r0 K9 q2.2 x2 x3 x4 x5 else (if x4 ≤ q2.1 then P_Fore_soonestDoor_b47 o r0 K9 q2.2 x2 x3 x4 x5 else P_Fore_soonestDoor_b47 o r0 K9 q2.2 x2 x5 q2.1 x5)))
def P_Fore_soonestDoor_h9 (o : Nat) (r0 : Nat) : Nat → fw_M → Int32 → Int32 → Int32 → Int32 → Option (Int32 × fw_M)
  | 0, _, _, _, _, _ => none
  | n + 1, M, x2, x3, x4, x5 => P_Fore_soonestDoor_b9 o r0 (P_Fore_soonestDoor_h9 o r0 n) M x2 x3 x4 x5
def P_Fore_soonestDoor_b0 (o : Nat) (r0 : Nat) (M : fw_M) (x2 : Int32) : Option (Int32 × fw_M) := P_Fore_soonestDoor_h9 o r0 fw_fu M x2 (-1 : Int32) (61 : Int32) (0 : Int32)
def P_Fore_soonestDoor (o : Nat) (r0 : Nat) (M : fw_M) (a1 : Int32) : Option (Int32 × fw_M) := P_Fore_soonestDoor_b0 o r0 M a1
set_option maxRecDepth 100000 in
theorem c_Fore_soonestDoor_b47 {p : Program} {l : Launch} {e : Env} {s : State} {m : MethodId} {args : Array Value} {below : List Frame} {meth : Method} {c : Code} {D : va_G} {cI cZ cH cR : ClassId} {N : Nat} {ad : Nat → Nat} {EE : fw_M → Nat → va_E} {o : Nat} {r0 : Nat} {K9 : fw_M → Int32 → Int32 → Int32 → Int32 → Option (Int32 × fw_M)} {M : fw_M} {x2 : Int32} {x3 : Int32} {x4 : Int32} {x5 : Int32} {z : (Int32 × fw_M)} (C : fw_C p s m args meth c cX2_soonestDoor RX2 wsX2_soonestDoor 7 (some .int) D vwCl (fw_tys cI cZ cH cR) N ad fw_nw0) (ho : o_Fore EE ad N cI cZ cH cR o) (hr0 : o_Hall EE ad N cI cZ cH cR r0) (hK9 : ∀ (Mk : fw_M) (kx2 : Int32) (kx3 : Int32) (kx4 : Int32) (kx5 : Int32), K9 Mk kx2 kx3 kx4 kx5 = some z → fw_J p l e (headSpec wsX2_soonestDoor rm_Fore_soonestDoor).room s m args below meth c D vwCl N ad EE 7 0 0 (fw_E below args s D vwCl N ad EE (some (.int z.1)) z.2) Mk [(0, .ref (ad o)), (1, .ref (ad r0)), (2, .int kx2), (3, .int kx3), (4, .int kx4), (5, .int kx5)] 9 []) (h : P_Fore_soonestDoor_b47 o r0 K9 M x2 x3 x4 x5 = some z) : fw_J p l e (headSpec wsX2_soonestDoor rm_Fore_soonestDoor).room s m args below meth c D vwCl N ad EE 7 0 0 (fw_E below args s D vwCl N ad EE (some (.int z.1)) z.2) M [(0, .ref (ad o)), (1, .ref (ad r0)), (2, .int x2), (3, .int x3), (4, .int x4), (5, .int x5)] 47 [] := by
  unfold P_Fore_soonestDoor_b47 at h
  refine fw_iinc (pc := 47) C (v := 1) (L2 := [(0, .ref _), (1, .ref _), (2, .int _), (3, .int _), (4, .int _), (5, .int _)]) 5 [1, 2, 3, 4, 5, 0] dX2_soonestDoor_47 rfl fk_iconst_1 (by decide) rfl ?_
  refine fw_goto (pc := 50) C (tgt := 9) dX2_soonestDoor_50 (by decide) ?_
  exact (hK9 _ _ _ _ _ h)
set_option maxRecDepth 100000 in
theorem c_Fore_soonestDoor_b9 {p : Program} {l : Launch} {e : Env} {s : State} {m : MethodId} {args : Array Value} {below : List Frame} {meth : Method} {c : Code} {D : va_G} {cI cZ cH cR : ClassId} {N : Nat} {ad : Nat → Nat} {EE : fw_M → Nat → va_E} {o : Nat} {r0 : Nat} {K9 : fw_M → Int32 → Int32 → Int32 → Int32 → Option (Int32 × fw_M)} {M : fw_M} {x2 : Int32} {x3 : Int32} {x4 : Int32} {x5 : Int32} {z : (Int32 × fw_M)} (C : fw_C p s m args meth c cX2_soonestDoor RX2 wsX2_soonestDoor 7 (some .int) D vwCl (fw_tys cI cZ cH cR) N ad fw_nw0) (ho : o_Fore EE ad N cI cZ cH cR o) (hr0 : o_Hall EE ad N cI cZ cH cR r0) (hK9 : ∀ (Mk : fw_M) (kx2 : Int32) (kx3 : Int32) (kx4 : Int32) (kx5 : Int32), K9 Mk kx2 kx3 kx4 kx5 = some z → fw_J p l e (headSpec wsX2_soonestDoor rm_Fore_soonestDoor).room s m args below meth c D vwCl N ad EE 7 0 0 (fw_E below args s D vwCl N ad EE (some (.int z.1)) z.2) Mk [(0, .ref (ad o)), (1, .ref (ad r0)), (2, .int kx2), (3, .int kx3), (4, .int kx4), (5, .int kx5)] 9 []) (h : P_Fore_soonestDoor_b9 o r0 K9 M x2 x3 x4 x5 = some z) : fw_J p l e (headSpec wsX2_soonestDoor rm_Fore_soonestDoor).room s m args below meth c D vwCl N ad EE 7 0 0 (fw_E below args s D vwCl N ad EE (some (.int z.1)) z.2) M [(0, .ref (ad o)), (1, .ref (ad r0)), (2, .int x2), (3, .int x3), (4, .int x4), (5, .int x5)] 9 [] := by
  unfold P_Fore_soonestDoor_b9 at h
  refine fw_iload (pc := 9) C 5 dX2_soonestDoor_9 rfl ?_
  refine fw_aload_n (pc := 11) C 1 dX2_soonestDoor_11 rfl rfl ?_
  refine fw_geti (pc := 12) C hr0.2.1 rfl qX2_soonestDoor_61 dX2_soonestDoor_12 ?_
  refine fw_icmp_ge (pc := 15) C (tgt := 53) dX2_soonestDoor_15 (by decide) (fun c1 => ?_) (fun c1 => ?_)
  · have h := fw_ift h c1
    refine fw_iload_n (pc := 53) C 3 dX2_soonestDoor_53 rfl rfl ?_
    exact fw_iret (pc := 54) C (fw_p1 h) (fw_p2 h) dX2_soonestDoor_54
  · have h := fw_iff h c1
    refine fw_aload_n (pc := 18) C 0 dX2_soonestDoor_18 rfl rfl ?_
    refine fw_aload_n (pc := 19) C 1 dX2_soonestDoor_19 rfl rfl ?_
    refine fw_iload_n (pc := 20) C 2 dX2_soonestDoor_20 rfl rfl ?_
    refine fw_iload (pc := 21) C 5 dX2_soonestDoor_21 rfl ?_
    obtain ⟨q2, hq2, h⟩ := fw_bind h
    refine fw_callV1 (pc := 23) C (rest := []) (c_Fore_whenAt ho hr0 hq2) (cwV 3 C.2.2.2.2.1 gX2_soonestDoor_X2_whenAt rfl rfl rfl hd_Fore_whenAt ⟨Nat.le_of_ble_eq_true rfl, Nat.le_of_ble_eq_true rfl⟩) ho.1 rfl rfl ⟨Nat.zero_le _, Nat.zero_le _⟩ rfl (Nat.le_of_ble_eq_true rfl) dX2_soonestDoor_23 ?_
    refine fw_istore (pc := 26) C (L2 := [(0, .ref _), (1, .ref _), (2, .int _), (3, .int _), (4, .int _), (5, .int _), (6, .int _)]) [1, 2, 3, 4, 5, 6, 0] dX2_soonestDoor_26 (by decide) rfl ?_
    refine fw_iload (pc := 28) C 6 dX2_soonestDoor_28 rfl ?_
    refine fw_if_lt (pc := 30) C (tgt := 47) dX2_soonestDoor_30 (by decide) (fun c3 => ?_) (fun c3 => ?_)
    · have h := fw_ift h c3
      exact fw_sub [0, 1, 2, 3, 4, 5] rfl (c_Fore_soonestDoor_b47 C ho hr0 hK9 h)
    · have h := fw_iff h c3
      refine fw_iload (pc := 33) C 6 dX2_soonestDoor_33 rfl ?_
      refine fw_iload (pc := 35) C 4 dX2_soonestDoor_35 rfl ?_
      refine fw_icmp_ge (pc := 37) C (tgt := 47) dX2_soonestDoor_37 (by decide) (fun c4 => ?_) (fun c4 => ?_)
      · have h := fw_ift h c4
        exact fw_sub [0, 1, 2, 3, 4, 5] rfl (c_Fore_soonestDoor_b47 C ho hr0 hK9 h)
      · have h := fw_iff h c4
        refine fw_iload (pc := 40) C 5 dX2_soonestDoor_40 rfl ?_
        refine fw_istore_n (pc := 42) C (L2 := [(0, .ref _), (1, .ref _), (2, .int _), (3, .int _), (4, .int _), (5, .int _), (6, .int _)]) [1, 2, 3, 0, 4, 5, 6] dX2_soonestDoor_42 rfl (by decide) rfl ?_
        refine fw_iload (pc := 43) C 6 dX2_soonestDoor_43 rfl ?_
        refine fw_istore (pc := 45) C (L2 := [(0, .ref _), (1, .ref _), (2, .int _), (3, .int _), (4, .int _), (5, .int _), (6, .int _)]) [1, 2, 3, 4, 0, 5, 6] dX2_soonestDoor_45 (by decide) rfl ?_
        exact fw_sub [0, 1, 2, 3, 4, 5] rfl (c_Fore_soonestDoor_b47 C ho hr0 hK9 h)
theorem c_Fore_soonestDoor_h9 {p : Program} {l : Launch} {e : Env} {s : State} {m : MethodId} {args : Array Value} {below : List Frame} {meth : Method} {c : Code} {D : va_G} {cI cZ cH cR : ClassId} {N : Nat} {ad : Nat → Nat} {EE : fw_M → Nat → va_E} {o : Nat} {r0 : Nat} {z : (Int32 × fw_M)} (C : fw_C p s m args meth c cX2_soonestDoor RX2 wsX2_soonestDoor 7 (some .int) D vwCl (fw_tys cI cZ cH cR) N ad fw_nw0) (ho : o_Fore EE ad N cI cZ cH cR o) (hr0 : o_Hall EE ad N cI cZ cH cR r0) : ∀ (n : Nat) (M : fw_M) (x2 : Int32) (x3 : Int32) (x4 : Int32) (x5 : Int32), P_Fore_soonestDoor_h9 o r0 n M x2 x3 x4 x5 = some z → fw_J p l e (headSpec wsX2_soonestDoor rm_Fore_soonestDoor).room s m args below meth c D vwCl N ad EE 7 0 0 (fw_E below args s D vwCl N ad EE (some (.int z.1)) z.2) M [(0, .ref (ad o)), (1, .ref (ad r0)), (2, .int x2), (3, .int x3), (4, .int x4), (5, .int x5)] 9 [] := by
  intro n
  induction n with
  | zero => intro M x2 x3 x4 x5  h; cases h
  | succ n ih => intro M x2 x3 x4 x5  h; exact c_Fore_soonestDoor_b9 C ho hr0 ih  h
set_option maxRecDepth 100000 in
theorem c_Fore_soonestDoor_b0 {p : Program} {l : Launch} {e : Env} {s : State} {m : MethodId} {args : Array Value} {below : List Frame} {meth : Method} {c : Code} {D : va_G} {cI cZ cH cR : ClassId} {N : Nat} {ad : Nat → Nat} {EE : fw_M → Nat → va_E} {o : Nat} {r0 : Nat} {M : fw_M} {x2 : Int32} {z : (Int32 × fw_M)} (C : fw_C p s m args meth c cX2_soonestDoor RX2 wsX2_soonestDoor 7 (some .int) D vwCl (fw_tys cI cZ cH cR) N ad fw_nw0) (ho : o_Fore EE ad N cI cZ cH cR o) (hr0 : o_Hall EE ad N cI cZ cH cR r0) (h : P_Fore_soonestDoor_b0 o r0 M x2 = some z) : fw_J p l e (headSpec wsX2_soonestDoor rm_Fore_soonestDoor).room s m args below meth c D vwCl N ad EE 7 0 0 (fw_E below args s D vwCl N ad EE (some (.int z.1)) z.2) M [(0, .ref (ad o)), (1, .ref (ad r0)), (2, .int x2)] 0 [] := by
  unfold P_Fore_soonestDoor_b0 at h
  refine fw_iconst (pc := 0) C (v := -1) dX2_soonestDoor_0 fk_iconst_m1 ?_
  refine fw_istore_n (pc := 1) C (L2 := [(0, .ref _), (1, .ref _), (2, .int _), (3, .int _)]) [1, 2, 3, 0] dX2_soonestDoor_1 rfl (by decide) rfl ?_
  refine fw_bipush (pc := 2) C (v := 61) dX2_soonestDoor_2 fk_bipush_61 ?_
  refine fw_istore (pc := 4) C (L2 := [(0, .ref _), (1, .ref _), (2, .int _), (3, .int _), (4, .int _)]) [1, 2, 3, 4, 0] dX2_soonestDoor_4 (by decide) rfl ?_
  refine fw_iconst (pc := 6) C (v := 0) dX2_soonestDoor_6 fk_iconst_0 ?_
  refine fw_istore (pc := 7) C (L2 := [(0, .ref _), (1, .ref _), (2, .int _), (3, .int _), (4, .int _), (5, .int _)]) [1, 2, 3, 4, 5, 0] dX2_soonestDoor_7 (by decide) rfl ?_
  exact (c_Fore_soonestDoor_h9 C ho hr0 _ _ _ _ _ _ h)
theorem c_Fore_soonestDoor {l : Launch} {D : va_G} {cI cZ cH cR : ClassId} {N : Nat} {ad : Nat → Nat} {EE : fw_M → Nat → va_E} {o : Nat} {r0 : Nat} {M : fw_M} {a1 : Int32} {z : (Int32 × fw_M)} (ho : o_Fore EE ad N cI cZ cH cR o) (hr0 : o_Hall EE ad N cI cZ cH cR r0) (h : P_Fore_soonestDoor o r0 M a1 = some z) : fw_Met l yX2_soonestDoor wsX2_soonestDoor rm_Fore_soonestDoor D vwCl (fw_tys cI cZ cH cR) N ad fw_nw0 EE [.ref (ad o), .ref (ad r0), .int a1] M (some (.int z.1)) z.2 := by
  unfold P_Fore_soonestDoor at h
  exact fw_intro (cc := cX2_soonestDoor) (maxL := 7) (ret := some .int) (own := RX2) (by decide) rfl rfl (Nat.le_of_ble_eq_true rfl) (fun p e s m args below meth c C => fw_sub [0, 1, 2] rfl (c_Fore_soonestDoor_b0 C ho hr0 h))
abbrev rm_Fore_leftWith : Room := { frames := 4, cells := 0, slots := 0, locals := 92 }
theorem hd_Fore_leftWith : yX2_leftWith.cls = RX2 ∧ yX2_leftWith.cls ≠ "java/lang/invoke/MethodHandle" ∧ yX2_leftWith.cls ≠ "java/lang/invoke/VarHandle" ∧ (parseMethodDescriptor yX2_leftWith.desc).map (fun d => d.parameters.length) = some 3 := by decide +kernel
theorem qX2_leftWith_69 : fw_G wsX2_leftWith RX2 69 RX5 TX5 4 3 := ⟨by decide +kernel, by decide +kernel, by decide⟩
def P_Fore_leftWith_b28 (o : Nat) (r0 : Nat) (M : fw_M) (t0 : Int32) : Option (Int32 × fw_M) := some (t0, M)
def P_Fore_leftWith_b0 (o : Nat) (r0 : Nat) (M : fw_M) (x2 : Int32) (x3 : Int32) : Option (Int32 × fw_M) := (if (0 : Int32) ≤ x3 then (P_Hall_waitingAt r0 M x2).bind fun v2 => (P_Fore_lineOf o r0 M (v2 ||| ((1 : Int32) <<< (x3 &&& 31)))).bind fun q3 => (P_J6_bitCount (q3 (o + 9) 3)).bind fun v4 => P_Fore_leftWith_b28 o r0 q3 v4 else P_Fore_leftWith_b28 o r0 M (-1 : Int32))
def P_Fore_leftWith (o : Nat) (r0 : Nat) (M : fw_M) (a1 : Int32) (a2 : Int32) : Option (Int32 × fw_M) := P_Fore_leftWith_b0 o r0 M a1 a2
set_option maxRecDepth 100000 in
theorem c_Fore_leftWith_b28 {p : Program} {l : Launch} {e : Env} {s : State} {m : MethodId} {args : Array Value} {below : List Frame} {meth : Method} {c : Code} {D : va_G} {cI cZ cH cR : ClassId} {N : Nat} {ad : Nat → Nat} {EE : fw_M → Nat → va_E} {o : Nat} {r0 : Nat} {M : fw_M} {t0 : Int32} {z : (Int32 × fw_M)} (C : fw_C p s m args meth c cX2_leftWith RX2 wsX2_leftWith 4 (some .int) D vwCl (fw_tys cI cZ cH cR) N ad fw_nw0) (ho : o_Fore EE ad N cI cZ cH cR o) (hr0 : o_Hall EE ad N cI cZ cH cR r0) (h : P_Fore_leftWith_b28 o r0 M t0 = some z) : fw_J p l e (headSpec wsX2_leftWith rm_Fore_leftWith).room s m args below meth c D vwCl N ad EE 4 0 0 (fw_E below args s D vwCl N ad EE (some (.int z.1)) z.2) M [] 28 [.int t0] := by
  unfold P_Fore_leftWith_b28 at h
  exact fw_iret (pc := 28) C (fw_p1 h) (fw_p2 h) dX2_leftWith_28
set_option maxRecDepth 100000 in
theorem c_Fore_leftWith_b0 {p : Program} {l : Launch} {e : Env} {s : State} {m : MethodId} {args : Array Value} {below : List Frame} {meth : Method} {c : Code} {D : va_G} {cI cZ cH cR : ClassId} {N : Nat} {ad : Nat → Nat} {EE : fw_M → Nat → va_E} {o : Nat} {r0 : Nat} {M : fw_M} {x2 : Int32} {x3 : Int32} {z : (Int32 × fw_M)} (C : fw_C p s m args meth c cX2_leftWith RX2 wsX2_leftWith 4 (some .int) D vwCl (fw_tys cI cZ cH cR) N ad fw_nw0) (ho : o_Fore EE ad N cI cZ cH cR o) (hr0 : o_Hall EE ad N cI cZ cH cR r0) (h : P_Fore_leftWith_b0 o r0 M x2 x3 = some z) : fw_J p l e (headSpec wsX2_leftWith rm_Fore_leftWith).room s m args below meth c D vwCl N ad EE 4 0 0 (fw_E below args s D vwCl N ad EE (some (.int z.1)) z.2) M [(0, .ref (ad o)), (1, .ref (ad r0)), (2, .int x2), (3, .int x3)] 0 [] := by
  unfold P_Fore_leftWith_b0 at h
  refine fw_iload_n (pc := 0) C 3 dX2_leftWith_0 rfl rfl ?_
  refine fw_if_ge (pc := 1) C (tgt := 8) dX2_leftWith_1 (by decide) (fun c1 => ?_) (fun c1 => ?_)
  · have h := fw_ift h c1
    refine fw_aload_n (pc := 8) C 0 dX2_leftWith_8 rfl rfl ?_
    refine fw_aload_n (pc := 9) C 1 dX2_leftWith_9 rfl rfl ?_
    refine fw_aload_n (pc := 10) C 1 dX2_leftWith_10 rfl rfl ?_
    refine fw_iload_n (pc := 11) C 2 dX2_leftWith_11 rfl rfl ?_
    obtain ⟨v2, hv2, h⟩ := fw_bind h
    refine fw_callV1 (pc := 12) C (rest := [_, _]) (c_Hall_waitingAt hr0 hv2) (cwV 1 C.2.2.2.2.1 gX2_leftWith_X3_waitingAt rfl rfl rfl hd_Hall_waitingAt ⟨Nat.le_of_ble_eq_true rfl, Nat.le_of_ble_eq_true rfl⟩) hr0.1 rfl rfl ⟨Nat.zero_le _, Nat.zero_le _⟩ rfl (Nat.le_of_ble_eq_true rfl) dX2_leftWith_12 ?_
    refine fw_iconst (pc := 15) C (v := 1) dX2_leftWith_15 fk_iconst_1 ?_
    refine fw_iload_n (pc := 16) C 3 dX2_leftWith_16 rfl rfl ?_
    refine fw_ishl (pc := 17) C dX2_leftWith_17 ?_
    refine fw_ior (pc := 18) C dX2_leftWith_18 ?_
    obtain ⟨q3, hq3, h⟩ := fw_bind h
    refine fw_callV1 (pc := 19) C (rest := []) (c_Fore_lineOf ho hr0 hq3) (cwV 2 C.2.2.2.2.1 gX2_leftWith_X2_lineOf rfl rfl rfl hd_Fore_lineOf ⟨Nat.le_of_ble_eq_true rfl, Nat.le_of_ble_eq_true rfl⟩) ho.1 rfl rfl ⟨Nat.zero_le _, Nat.zero_le _⟩ rfl (Nat.le_of_ble_eq_true rfl) dX2_leftWith_19 ?_
    refine fw_geti (pc := 22) C ho.2.2.2.2.2.2.2.2 rfl qX2_leftWith_69 dX2_leftWith_22 ?_
    obtain ⟨v4, hv4, h⟩ := fw_bind h
    refine fw_callS1 (pc := 25) C (rest := []) (c_J6_bitCount  hv4) (va_cwS 1 C.2.2.2.2.1 gX2_leftWith_J6_bitCount_0f7a4 rfl rfl rfl hd_J6_bitCount.2 ⟨Nat.le_of_ble_eq_true rfl, Nat.le_of_ble_eq_true rfl⟩) rfl ⟨Nat.zero_le _, Nat.zero_le _⟩ rfl (Nat.le_of_ble_eq_true rfl) dX2_leftWith_25 ?_
    exact fw_sub [] rfl (c_Fore_leftWith_b28 C ho hr0 h)
  · have h := fw_iff h c1
    refine fw_iconst (pc := 4) C (v := -1) dX2_leftWith_4 fk_iconst_m1 ?_
    refine fw_goto (pc := 5) C (tgt := 28) dX2_leftWith_5 (by decide) ?_
    exact fw_sub [] rfl (c_Fore_leftWith_b28 C ho hr0 h)
theorem c_Fore_leftWith {l : Launch} {D : va_G} {cI cZ cH cR : ClassId} {N : Nat} {ad : Nat → Nat} {EE : fw_M → Nat → va_E} {o : Nat} {r0 : Nat} {M : fw_M} {a1 : Int32} {a2 : Int32} {z : (Int32 × fw_M)} (ho : o_Fore EE ad N cI cZ cH cR o) (hr0 : o_Hall EE ad N cI cZ cH cR r0) (h : P_Fore_leftWith o r0 M a1 a2 = some z) : fw_Met l yX2_leftWith wsX2_leftWith rm_Fore_leftWith D vwCl (fw_tys cI cZ cH cR) N ad fw_nw0 EE [.ref (ad o), .ref (ad r0), .int a1, .int a2] M (some (.int z.1)) z.2 := by
  unfold P_Fore_leftWith at h
  exact fw_intro (cc := cX2_leftWith) (maxL := 4) (ret := some .int) (own := RX2) (by decide) rfl rfl (Nat.le_of_ble_eq_true rfl) (fun p e s m args below meth c C => fw_sub [0, 1, 2, 3] rfl (c_Fore_leftWith_b0 C ho hr0 h))
abbrev rm_Fore_bestThird : Room := { frames := 5, cells := 0, slots := 0, locals := 115 }
theorem hd_Fore_bestThird : yX2_bestThird.cls = RX2 ∧ yX2_bestThird.cls ≠ "java/lang/invoke/MethodHandle" ∧ yX2_bestThird.cls ≠ "java/lang/invoke/VarHandle" ∧ (parseMethodDescriptor yX2_bestThird.desc).map (fun d => d.parameters.length) = some 2 := by decide +kernel
theorem qX2_bestThird_77 : fw_G wsX2_bestThird RX2 77 RX3 TX3 9 2 := ⟨by decide +kernel, by decide +kernel, by decide⟩
theorem qX2_bestThird_51 : fw_G wsX2_bestThird RX2 51 RX3 TX3 9 7 := ⟨by decide +kernel, by decide +kernel, by decide⟩
def P_Fore_bestThird_b53 (o : Nat) (r0 : Nat) (K9 : fw_M → Int32 → Int32 → Int32 → Int32 → Option (Int32 × fw_M)) (M : fw_M) (x2 : Int32) (x3 : Int32) (x4 : Int32) (x5 : Int32) : Option (Int32 × fw_M) := K9 M x2 x3 x4 (x5 + (1 : Int32))
def P_Fore_bestThird_b9 (o : Nat) (r0 : Nat) (K9 : fw_M → Int32 → Int32 → Int32 → Int32 → Option (Int32 × fw_M)) (M : fw_M) (x2 : Int32) (x3 : Int32) (x4 : Int32) (x5 : Int32) : Option (Int32 × fw_M) := (if (M r0 2) ≤ x5 then some (x3, M) else (fw_ald M (r0 + 4) 7 x5).bind fun v2 => (if v2 = x2 then P_Fore_bestThird_b53 o r0 K9 M x2 x3 x4 x5 else (P_Fore_leftWith o r0 M x2 x5).bind fun q4 => (if x4 ≤ q4.1 then P_Fore_bestThird_b53 o r0 K9 q4.2 x2 x3 x4 x5 else P_Fore_bestThird_b53 o r0 K9 q4.2 x2 x5 q4.1 x5)))
def P_Fore_bestThird_h9 (o : Nat) (r0 : Nat) : Nat → fw_M → Int32 → Int32 → Int32 → Int32 → Option (Int32 × fw_M)
  | 0, _, _, _, _, _ => none
  | n + 1, M, x2, x3, x4, x5 => P_Fore_bestThird_b9 o r0 (P_Fore_bestThird_h9 o r0 n) M x2 x3 x4 x5
def P_Fore_bestThird_b0 (o : Nat) (r0 : Nat) (M : fw_M) (x2 : Int32) : Option (Int32 × fw_M) := P_Fore_bestThird_h9 o r0 fw_fu M x2 (-1 : Int32) (8 : Int32) (0 : Int32)
def P_Fore_bestThird (o : Nat) (r0 : Nat) (M : fw_M) (a1 : Int32) : Option (Int32 × fw_M) := P_Fore_bestThird_b0 o r0 M a1
set_option maxRecDepth 100000 in
theorem c_Fore_bestThird_b53 {p : Program} {l : Launch} {e : Env} {s : State} {m : MethodId} {args : Array Value} {below : List Frame} {meth : Method} {c : Code} {D : va_G} {cI cZ cH cR : ClassId} {N : Nat} {ad : Nat → Nat} {EE : fw_M → Nat → va_E} {o : Nat} {r0 : Nat} {K9 : fw_M → Int32 → Int32 → Int32 → Int32 → Option (Int32 × fw_M)} {M : fw_M} {x2 : Int32} {x3 : Int32} {x4 : Int32} {x5 : Int32} {z : (Int32 × fw_M)} (C : fw_C p s m args meth c cX2_bestThird RX2 wsX2_bestThird 7 (some .int) D vwCl (fw_tys cI cZ cH cR) N ad fw_nw0) (ho : o_Fore EE ad N cI cZ cH cR o) (hr0 : o_Hall EE ad N cI cZ cH cR r0) (hK9 : ∀ (Mk : fw_M) (kx2 : Int32) (kx3 : Int32) (kx4 : Int32) (kx5 : Int32), K9 Mk kx2 kx3 kx4 kx5 = some z → fw_J p l e (headSpec wsX2_bestThird rm_Fore_bestThird).room s m args below meth c D vwCl N ad EE 7 0 0 (fw_E below args s D vwCl N ad EE (some (.int z.1)) z.2) Mk [(0, .ref (ad o)), (1, .ref (ad r0)), (2, .int kx2), (3, .int kx3), (4, .int kx4), (5, .int kx5)] 9 []) (h : P_Fore_bestThird_b53 o r0 K9 M x2 x3 x4 x5 = some z) : fw_J p l e (headSpec wsX2_bestThird rm_Fore_bestThird).room s m args below meth c D vwCl N ad EE 7 0 0 (fw_E below args s D vwCl N ad EE (some (.int z.1)) z.2) M [(0, .ref (ad o)), (1, .ref (ad r0)), (2, .int x2), (3, .int x3), (4, .int x4), (5, .int x5)] 53 [] := by
  unfold P_Fore_bestThird_b53 at h
  refine fw_iinc (pc := 53) C (v := 1) (L2 := [(0, .ref _), (1, .ref _), (2, .int _), (3, .int _), (4, .int _), (5, .int _)]) 5 [1, 2, 3, 4, 5, 0] dX2_bestThird_53 rfl fk_iconst_1 (by decide) rfl ?_
  refine fw_goto (pc := 56) C (tgt := 9) dX2_bestThird_56 (by decide) ?_
  exact (hK9 _ _ _ _ _ h)
set_option maxRecDepth 100000 in
theorem c_Fore_bestThird_b9 {p : Program} {l : Launch} {e : Env} {s : State} {m : MethodId} {args : Array Value} {below : List Frame} {meth : Method} {c : Code} {D : va_G} {cI cZ cH cR : ClassId} {N : Nat} {ad : Nat → Nat} {EE : fw_M → Nat → va_E} {o : Nat} {r0 : Nat} {K9 : fw_M → Int32 → Int32 → Int32 → Int32 → Option (Int32 × fw_M)} {M : fw_M} {x2 : Int32} {x3 : Int32} {x4 : Int32} {x5 : Int32} {z : (Int32 × fw_M)} (C : fw_C p s m args meth c cX2_bestThird RX2 wsX2_bestThird 7 (some .int) D vwCl (fw_tys cI cZ cH cR) N ad fw_nw0) (ho : o_Fore EE ad N cI cZ cH cR o) (hr0 : o_Hall EE ad N cI cZ cH cR r0) (hK9 : ∀ (Mk : fw_M) (kx2 : Int32) (kx3 : Int32) (kx4 : Int32) (kx5 : Int32), K9 Mk kx2 kx3 kx4 kx5 = some z → fw_J p l e (headSpec wsX2_bestThird rm_Fore_bestThird).room s m args below meth c D vwCl N ad EE 7 0 0 (fw_E below args s D vwCl N ad EE (some (.int z.1)) z.2) Mk [(0, .ref (ad o)), (1, .ref (ad r0)), (2, .int kx2), (3, .int kx3), (4, .int kx4), (5, .int kx5)] 9 []) (h : P_Fore_bestThird_b9 o r0 K9 M x2 x3 x4 x5 = some z) : fw_J p l e (headSpec wsX2_bestThird rm_Fore_bestThird).room s m args below meth c D vwCl N ad EE 7 0 0 (fw_E below args s D vwCl N ad EE (some (.int z.1)) z.2) M [(0, .ref (ad o)), (1, .ref (ad r0)), (2, .int x2), (3, .int x3), (4, .int x4), (5, .int x5)] 9 [] := by
  unfold P_Fore_bestThird_b9 at h
  refine fw_iload (pc := 9) C 5 dX2_bestThird_9 rfl ?_
  refine fw_aload_n (pc := 11) C 1 dX2_bestThird_11 rfl rfl ?_
  refine fw_geti (pc := 12) C hr0.2.2.2.1 rfl qX2_bestThird_77 dX2_bestThird_12 ?_
  refine fw_icmp_ge (pc := 15) C (tgt := 59) dX2_bestThird_15 (by decide) (fun c1 => ?_) (fun c1 => ?_)
  · have h := fw_ift h c1
    refine fw_iload_n (pc := 59) C 3 dX2_bestThird_59 rfl rfl ?_
    exact fw_iret (pc := 60) C (fw_p1 h) (fw_p2 h) dX2_bestThird_60
  · have h := fw_iff h c1
    refine fw_aload_n (pc := 18) C 1 dX2_bestThird_18 rfl rfl ?_
    refine fw_getr (pc := 19) C hr0.2.2.2.2.2.2.2.2.1.1 rfl qX2_bestThird_51 dX2_bestThird_19 ?_
    refine fw_iload (pc := 22) C 5 dX2_bestThird_22 rfl ?_
    obtain ⟨v2, hv2, h⟩ := fw_bind h
    refine fw_iald (pc := 24) C 0 hr0.2.2.2.2.2.2.2.2.1.2 rfl hv2 dX2_bestThird_24 ?_
    refine fw_iload_n (pc := 25) C 2 dX2_bestThird_25 rfl rfl ?_
    refine fw_icmp_eq (pc := 26) C (tgt := 53) dX2_bestThird_26 (by decide) (fun c3 => ?_) (fun c3 => ?_)
    · have h := fw_ift h c3
      exact (c_Fore_bestThird_b53 C ho hr0 hK9 h)
    · have h := fw_iff h c3
      refine fw_aload_n (pc := 29) C 0 dX2_bestThird_29 rfl rfl ?_
      refine fw_aload_n (pc := 30) C 1 dX2_bestThird_30 rfl rfl ?_
      refine fw_iload_n (pc := 31) C 2 dX2_bestThird_31 rfl rfl ?_
      refine fw_iload (pc := 32) C 5 dX2_bestThird_32 rfl ?_
      obtain ⟨q4, hq4, h⟩ := fw_bind h
      refine fw_callV1 (pc := 34) C (rest := []) (c_Fore_leftWith ho hr0 hq4) (cwV 3 C.2.2.2.2.1 gX2_bestThird_X2_leftWith rfl rfl rfl hd_Fore_leftWith ⟨Nat.le_of_ble_eq_true rfl, Nat.le_of_ble_eq_true rfl⟩) ho.1 rfl rfl ⟨Nat.zero_le _, Nat.zero_le _⟩ rfl (Nat.le_of_ble_eq_true rfl) dX2_bestThird_34 ?_
      refine fw_istore (pc := 37) C (L2 := [(0, .ref _), (1, .ref _), (2, .int _), (3, .int _), (4, .int _), (5, .int _), (6, .int _)]) [1, 2, 3, 4, 5, 6, 0] dX2_bestThird_37 (by decide) rfl ?_
      refine fw_iload (pc := 39) C 6 dX2_bestThird_39 rfl ?_
      refine fw_iload (pc := 41) C 4 dX2_bestThird_41 rfl ?_
      refine fw_icmp_ge (pc := 43) C (tgt := 53) dX2_bestThird_43 (by decide) (fun c5 => ?_) (fun c5 => ?_)
      · have h := fw_ift h c5
        exact fw_sub [0, 1, 2, 3, 4, 5] rfl (c_Fore_bestThird_b53 C ho hr0 hK9 h)
      · have h := fw_iff h c5
        refine fw_iload (pc := 46) C 5 dX2_bestThird_46 rfl ?_
        refine fw_istore_n (pc := 48) C (L2 := [(0, .ref _), (1, .ref _), (2, .int _), (3, .int _), (4, .int _), (5, .int _), (6, .int _)]) [1, 2, 3, 0, 4, 5, 6] dX2_bestThird_48 rfl (by decide) rfl ?_
        refine fw_iload (pc := 49) C 6 dX2_bestThird_49 rfl ?_
        refine fw_istore (pc := 51) C (L2 := [(0, .ref _), (1, .ref _), (2, .int _), (3, .int _), (4, .int _), (5, .int _), (6, .int _)]) [1, 2, 3, 4, 0, 5, 6] dX2_bestThird_51 (by decide) rfl ?_
        exact fw_sub [0, 1, 2, 3, 4, 5] rfl (c_Fore_bestThird_b53 C ho hr0 hK9 h)
theorem c_Fore_bestThird_h9 {p : Program} {l : Launch} {e : Env} {s : State} {m : MethodId} {args : Array Value} {below : List Frame} {meth : Method} {c : Code} {D : va_G} {cI cZ cH cR : ClassId} {N : Nat} {ad : Nat → Nat} {EE : fw_M → Nat → va_E} {o : Nat} {r0 : Nat} {z : (Int32 × fw_M)} (C : fw_C p s m args meth c cX2_bestThird RX2 wsX2_bestThird 7 (some .int) D vwCl (fw_tys cI cZ cH cR) N ad fw_nw0) (ho : o_Fore EE ad N cI cZ cH cR o) (hr0 : o_Hall EE ad N cI cZ cH cR r0) : ∀ (n : Nat) (M : fw_M) (x2 : Int32) (x3 : Int32) (x4 : Int32) (x5 : Int32), P_Fore_bestThird_h9 o r0 n M x2 x3 x4 x5 = some z → fw_J p l e (headSpec wsX2_bestThird rm_Fore_bestThird).room s m args below meth c D vwCl N ad EE 7 0 0 (fw_E below args s D vwCl N ad EE (some (.int z.1)) z.2) M [(0, .ref (ad o)), (1, .ref (ad r0)), (2, .int x2), (3, .int x3), (4, .int x4), (5, .int x5)] 9 [] := by
  intro n
  induction n with
  | zero => intro M x2 x3 x4 x5  h; cases h
  | succ n ih => intro M x2 x3 x4 x5  h; exact c_Fore_bestThird_b9 C ho hr0 ih  h
set_option maxRecDepth 100000 in
theorem c_Fore_bestThird_b0 {p : Program} {l : Launch} {e : Env} {s : State} {m : MethodId} {args : Array Value} {below : List Frame} {meth : Method} {c : Code} {D : va_G} {cI cZ cH cR : ClassId} {N : Nat} {ad : Nat → Nat} {EE : fw_M → Nat → va_E} {o : Nat} {r0 : Nat} {M : fw_M} {x2 : Int32} {z : (Int32 × fw_M)} (C : fw_C p s m args meth c cX2_bestThird RX2 wsX2_bestThird 7 (some .int) D vwCl (fw_tys cI cZ cH cR) N ad fw_nw0) (ho : o_Fore EE ad N cI cZ cH cR o) (hr0 : o_Hall EE ad N cI cZ cH cR r0) (h : P_Fore_bestThird_b0 o r0 M x2 = some z) : fw_J p l e (headSpec wsX2_bestThird rm_Fore_bestThird).room s m args below meth c D vwCl N ad EE 7 0 0 (fw_E below args s D vwCl N ad EE (some (.int z.1)) z.2) M [(0, .ref (ad o)), (1, .ref (ad r0)), (2, .int x2)] 0 [] := by
  unfold P_Fore_bestThird_b0 at h
  refine fw_iconst (pc := 0) C (v := -1) dX2_bestThird_0 fk_iconst_m1 ?_
  refine fw_istore_n (pc := 1) C (L2 := [(0, .ref _), (1, .ref _), (2, .int _), (3, .int _)]) [1, 2, 3, 0] dX2_bestThird_1 rfl (by decide) rfl ?_
  refine fw_bipush (pc := 2) C (v := 8) dX2_bestThird_2 fk_bipush_8 ?_
  refine fw_istore (pc := 4) C (L2 := [(0, .ref _), (1, .ref _), (2, .int _), (3, .int _), (4, .int _)]) [1, 2, 3, 4, 0] dX2_bestThird_4 (by decide) rfl ?_
  refine fw_iconst (pc := 6) C (v := 0) dX2_bestThird_6 fk_iconst_0 ?_
  refine fw_istore (pc := 7) C (L2 := [(0, .ref _), (1, .ref _), (2, .int _), (3, .int _), (4, .int _), (5, .int _)]) [1, 2, 3, 4, 5, 0] dX2_bestThird_7 (by decide) rfl ?_
  exact (c_Fore_bestThird_h9 C ho hr0 _ _ _ _ _ _ h)
theorem c_Fore_bestThird {l : Launch} {D : va_G} {cI cZ cH cR : ClassId} {N : Nat} {ad : Nat → Nat} {EE : fw_M → Nat → va_E} {o : Nat} {r0 : Nat} {M : fw_M} {a1 : Int32} {z : (Int32 × fw_M)} (ho : o_Fore EE ad N cI cZ cH cR o) (hr0 : o_Hall EE ad N cI cZ cH cR r0) (h : P_Fore_bestThird o r0 M a1 = some z) : fw_Met l yX2_bestThird wsX2_bestThird rm_Fore_bestThird D vwCl (fw_tys cI cZ cH cR) N ad fw_nw0 EE [.ref (ad o), .ref (ad r0), .int a1] M (some (.int z.1)) z.2 := by
  unfold P_Fore_bestThird at h
  exact fw_intro (cc := cX2_bestThird) (maxL := 7) (ret := some .int) (own := RX2) (by decide) rfl rfl (Nat.le_of_ble_eq_true rfl) (fun p e s m args below meth c C => fw_sub [0, 1, 2] rfl (c_Fore_bestThird_b0 C ho hr0 h))
abbrev rm_Fore_isSmaller : Room := { frames := 1, cells := 0, slots := 0, locals := 20 }
theorem hd_Fore_isSmaller : yX2_isSmaller.cls = RX2 ∧ yX2_isSmaller.cls ≠ "java/lang/invoke/MethodHandle" ∧ yX2_isSmaller.cls ≠ "java/lang/invoke/VarHandle" ∧ (parseMethodDescriptor yX2_isSmaller.desc).map (fun d => d.parameters.length) = some 2 := by decide +kernel
def P_Fore_isSmaller_b20 (M : fw_M) (t0 : Int32) : Option Int32 := (fw_zr t0).bind fun v1 => some v1
def P_Fore_isSmaller_b15 (M : fw_M) : Option Int32 := P_Fore_isSmaller_b20 M (1 : Int32)
def P_Fore_isSmaller_b0 (M : fw_M) (x0 : Int32) (x1 : Int32) : Option Int32 := (if x1 < (0 : Int32) then P_Fore_isSmaller_b15 M else (P_J6_bitCount x0).bind fun v2 => (P_J6_bitCount x1).bind fun v3 => (if v3 ≤ v2 then P_Fore_isSmaller_b20 M (0 : Int32) else P_Fore_isSmaller_b15 M))
def P_Fore_isSmaller (M : fw_M) (a0 : Int32) (a1 : Int32) : Option Int32 := P_Fore_isSmaller_b0 M a0 a1
set_option maxRecDepth 100000 in
theorem c_Fore_isSmaller_b20 {p : Program} {l : Launch} {e : Env} {s : State} {m : MethodId} {args : Array Value} {below : List Frame} {meth : Method} {c : Code} {D : va_G} {cI cZ cH cR : ClassId} {N : Nat} {ad : Nat → Nat} {EE : fw_M → Nat → va_E} {M : fw_M} {t0 : Int32} {z : Int32} (C : fw_C p s m args meth c cX2_isSmaller RX2 wsX2_isSmaller 2 (some .boolean) D vwCl (fw_tys cI cZ cH cR) N ad fw_nw0) (h : P_Fore_isSmaller_b20 M t0 = some z) : fw_J p l e (headSpec wsX2_isSmaller rm_Fore_isSmaller).room s m args below meth c D vwCl N ad EE 2 0 0 (fw_E below args s D vwCl N ad EE (some (.int z)) M) M [] 20 [.int t0] := by
  unfold P_Fore_isSmaller_b20 at h
  obtain ⟨v1, hv1, h⟩ := fw_bind h
  exact fw_zret (pc := 20) C (fw_zrh hv1).1 ((fw_zrh hv1).2.trans (Option.some.inj h)) rfl dX2_isSmaller_20
set_option maxRecDepth 100000 in
theorem c_Fore_isSmaller_b15 {p : Program} {l : Launch} {e : Env} {s : State} {m : MethodId} {args : Array Value} {below : List Frame} {meth : Method} {c : Code} {D : va_G} {cI cZ cH cR : ClassId} {N : Nat} {ad : Nat → Nat} {EE : fw_M → Nat → va_E} {M : fw_M} {z : Int32} (C : fw_C p s m args meth c cX2_isSmaller RX2 wsX2_isSmaller 2 (some .boolean) D vwCl (fw_tys cI cZ cH cR) N ad fw_nw0) (h : P_Fore_isSmaller_b15 M = some z) : fw_J p l e (headSpec wsX2_isSmaller rm_Fore_isSmaller).room s m args below meth c D vwCl N ad EE 2 0 0 (fw_E below args s D vwCl N ad EE (some (.int z)) M) M [] 15 [] := by
  unfold P_Fore_isSmaller_b15 at h
  refine fw_iconst (pc := 15) C (v := 1) dX2_isSmaller_15 fk_iconst_1 ?_
  refine fw_goto (pc := 16) C (tgt := 20) dX2_isSmaller_16 (by decide) ?_
  exact (c_Fore_isSmaller_b20 C  h)
set_option maxRecDepth 100000 in
theorem c_Fore_isSmaller_b0 {p : Program} {l : Launch} {e : Env} {s : State} {m : MethodId} {args : Array Value} {below : List Frame} {meth : Method} {c : Code} {D : va_G} {cI cZ cH cR : ClassId} {N : Nat} {ad : Nat → Nat} {EE : fw_M → Nat → va_E} {M : fw_M} {x0 : Int32} {x1 : Int32} {z : Int32} (C : fw_C p s m args meth c cX2_isSmaller RX2 wsX2_isSmaller 2 (some .boolean) D vwCl (fw_tys cI cZ cH cR) N ad fw_nw0) (h : P_Fore_isSmaller_b0 M x0 x1 = some z) : fw_J p l e (headSpec wsX2_isSmaller rm_Fore_isSmaller).room s m args below meth c D vwCl N ad EE 2 0 0 (fw_E below args s D vwCl N ad EE (some (.int z)) M) M [(0, .int x0), (1, .int x1)] 0 [] := by
  unfold P_Fore_isSmaller_b0 at h
  refine fw_iload_n (pc := 0) C 1 dX2_isSmaller_0 rfl rfl ?_
  refine fw_if_lt (pc := 1) C (tgt := 15) dX2_isSmaller_1 (by decide) (fun c1 => ?_) (fun c1 => ?_)
  · have h := fw_ift h c1
    exact fw_sub [] rfl (c_Fore_isSmaller_b15 C  h)
  · have h := fw_iff h c1
    refine fw_iload_n (pc := 4) C 0 dX2_isSmaller_4 rfl rfl ?_
    obtain ⟨v2, hv2, h⟩ := fw_bind h
    refine fw_callS1 (pc := 5) C (rest := []) (c_J6_bitCount  hv2) (va_cwS 1 C.2.2.2.2.1 gX2_isSmaller_J6_bitCount_0f7a4 rfl rfl rfl hd_J6_bitCount.2 ⟨Nat.le_of_ble_eq_true rfl, Nat.le_of_ble_eq_true rfl⟩) rfl ⟨Nat.zero_le _, Nat.zero_le _⟩ rfl (Nat.le_of_ble_eq_true rfl) dX2_isSmaller_5 ?_
    refine fw_iload_n (pc := 8) C 1 dX2_isSmaller_8 rfl rfl ?_
    obtain ⟨v3, hv3, h⟩ := fw_bind h
    refine fw_callS1 (pc := 9) C (rest := [_]) (c_J6_bitCount  hv3) (va_cwS 1 C.2.2.2.2.1 gX2_isSmaller_J6_bitCount_0f7a4 rfl rfl rfl hd_J6_bitCount.2 ⟨Nat.le_of_ble_eq_true rfl, Nat.le_of_ble_eq_true rfl⟩) rfl ⟨Nat.zero_le _, Nat.zero_le _⟩ rfl (Nat.le_of_ble_eq_true rfl) dX2_isSmaller_9 ?_
    refine fw_icmp_ge (pc := 12) C (tgt := 19) dX2_isSmaller_12 (by decide) (fun c4 => ?_) (fun c4 => ?_)
    · have h := fw_ift h c4
      refine fw_iconst (pc := 19) C (v := 0) dX2_isSmaller_19 fk_iconst_0 ?_
      exact fw_sub [] rfl (c_Fore_isSmaller_b20 C  h)
    · have h := fw_iff h c4
      exact fw_sub [] rfl (c_Fore_isSmaller_b15 C  h)
theorem c_Fore_isSmaller {l : Launch} {D : va_G} {cI cZ cH cR : ClassId} {N : Nat} {ad : Nat → Nat} {EE : fw_M → Nat → va_E} {M : fw_M} {a0 : Int32} {a1 : Int32} {z : Int32} (h : P_Fore_isSmaller M a0 a1 = some z) : fw_Met l yX2_isSmaller wsX2_isSmaller rm_Fore_isSmaller D vwCl (fw_tys cI cZ cH cR) N ad fw_nw0 EE [.int a0, .int a1] M (some (.int z)) M := by
  unfold P_Fore_isSmaller at h
  exact fw_intro (cc := cX2_isSmaller) (maxL := 2) (ret := some .boolean) (own := RX2) (by decide) rfl rfl (Nat.le_of_ble_eq_true rfl) (fun p e s m args below meth c C => fw_sub [0, 1] rfl (c_Fore_isSmaller_b0 C  h))
abbrev rm_Fore_leastRing : Room := { frames := 2, cells := 0, slots := 0, locals := 45 }
theorem hd_Fore_leastRing : yX2_leastRing.cls = RX2 ∧ yX2_leastRing.cls ≠ "java/lang/invoke/MethodHandle" ∧ yX2_leastRing.cls ≠ "java/lang/invoke/VarHandle" ∧ (parseMethodDescriptor yX2_leastRing.desc).map (fun d => d.parameters.length) = some 2 := by decide +kernel
theorem qX2_leastRing_21 : fw_G wsX2_leastRing RX2 21 RX2 TX2 3 1 := ⟨by decide +kernel, by decide +kernel, by decide⟩
def P_Fore_leastRing_b70 (o : Nat) (r0 : Nat) (K27 : fw_M → Int32 → Int32 → Int32 → Option (Int32 × fw_M)) (M : fw_M) (x3 : Int32) (x4 : Int32) (x5 : Int32) : Option (Int32 × fw_M) := K27 M x3 x4 (x5 + (1 : Int32))
def P_Fore_leastRing_b27 (o : Nat) (r0 : Nat) (K27 : fw_M → Int32 → Int32 → Int32 → Option (Int32 × fw_M)) (M : fw_M) (x3 : Int32) (x4 : Int32) (x5 : Int32) : Option (Int32 × fw_M) := (if (128 : Int32) ≤ x5 then some (x4, M) else (if (x5 &&& (x3 ^^^ (-1 : Int32))) = (0 : Int32) then (P_Fore_isSmaller M x5 x4).bind fun v3 => (if v3 = (0 : Int32) then P_Fore_leastRing_b70 o r0 K27 M x3 x4 x5 else (P_Law_holdsFast (o + 7) M x5).bind fun v5 => (if v5 = (0 : Int32) then P_Fore_leastRing_b70 o r0 K27 M x3 x4 x5 else P_Fore_leastRing_b70 o r0 K27 M x3 x5 x5)) else P_Fore_leastRing_b70 o r0 K27 M x3 x4 x5))
def P_Fore_leastRing_h27 (o : Nat) (r0 : Nat) : Nat → fw_M → Int32 → Int32 → Int32 → Option (Int32 × fw_M)
  | 0, _, _, _, _ => none
  | n + 1, M, x3, x4, x5 => P_Fore_leastRing_b27 o r0 (P_Fore_leastRing_h27 o r0 n) M x3 x4 x5
def P_Fore_leastRing_b0 (o : Nat) (r0 : Nat) (M : fw_M) (x2 : Int32) : Option (Int32 × fw_M) := (P_Law_read (o + 7) r0 M).bind fun q1 => (P_Hall_waitingAt r0 q1 x2).bind fun v2 => (P_Hall_nobodies r0 q1).bind fun v3 => fw_pl ((v2 &&& (v3 ^^^ (-1 : Int32)))) fun y4 => P_Fore_leastRing_h27 o r0 fw_fu q1 y4 (-1 : Int32) (1 : Int32)
def P_Fore_leastRing (o : Nat) (r0 : Nat) (M : fw_M) (a1 : Int32) : Option (Int32 × fw_M) := P_Fore_leastRing_b0 o r0 M a1
set_option maxRecDepth 100000 in
theorem c_Fore_leastRing_b70 {p : Program} {l : Launch} {e : Env} {s : State} {m : MethodId} {args : Array Value} {below : List Frame} {meth : Method} {c : Code} {D : va_G} {cI cZ cH cR : ClassId} {N : Nat} {ad : Nat → Nat} {EE : fw_M → Nat → va_E} {o : Nat} {r0 : Nat} {K27 : fw_M → Int32 → Int32 → Int32 → Option (Int32 × fw_M)} {M : fw_M} {x3 : Int32} {x4 : Int32} {x5 : Int32} {z : (Int32 × fw_M)} (C : fw_C p s m args meth c cX2_leastRing RX2 wsX2_leastRing 6 (some .int) D vwCl (fw_tys cI cZ cH cR) N ad fw_nw0) (ho : o_Fore EE ad N cI cZ cH cR o) (hr0 : o_Hall EE ad N cI cZ cH cR r0) (hK27 : ∀ (Mk : fw_M) (kx3 : Int32) (kx4 : Int32) (kx5 : Int32), K27 Mk kx3 kx4 kx5 = some z → fw_J p l e (headSpec wsX2_leastRing rm_Fore_leastRing).room s m args below meth c D vwCl N ad EE 6 0 0 (fw_E below args s D vwCl N ad EE (some (.int z.1)) z.2) Mk [(0, .ref (ad o)), (3, .int kx3), (4, .int kx4), (5, .int kx5)] 27 []) (h : P_Fore_leastRing_b70 o r0 K27 M x3 x4 x5 = some z) : fw_J p l e (headSpec wsX2_leastRing rm_Fore_leastRing).room s m args below meth c D vwCl N ad EE 6 0 0 (fw_E below args s D vwCl N ad EE (some (.int z.1)) z.2) M [(0, .ref (ad o)), (3, .int x3), (4, .int x4), (5, .int x5)] 70 [] := by
  unfold P_Fore_leastRing_b70 at h
  refine fw_iinc (pc := 70) C (v := 1) (L2 := [(0, .ref _), (3, .int _), (4, .int _), (5, .int _)]) 3 [1, 2, 3, 0] dX2_leastRing_70 rfl fk_iconst_1 (by decide) rfl ?_
  refine fw_goto (pc := 73) C (tgt := 27) dX2_leastRing_73 (by decide) ?_
  exact (hK27 _ _ _ _ h)
set_option maxRecDepth 100000 in
theorem c_Fore_leastRing_b27 {p : Program} {l : Launch} {e : Env} {s : State} {m : MethodId} {args : Array Value} {below : List Frame} {meth : Method} {c : Code} {D : va_G} {cI cZ cH cR : ClassId} {N : Nat} {ad : Nat → Nat} {EE : fw_M → Nat → va_E} {o : Nat} {r0 : Nat} {K27 : fw_M → Int32 → Int32 → Int32 → Option (Int32 × fw_M)} {M : fw_M} {x3 : Int32} {x4 : Int32} {x5 : Int32} {z : (Int32 × fw_M)} (C : fw_C p s m args meth c cX2_leastRing RX2 wsX2_leastRing 6 (some .int) D vwCl (fw_tys cI cZ cH cR) N ad fw_nw0) (ho : o_Fore EE ad N cI cZ cH cR o) (hr0 : o_Hall EE ad N cI cZ cH cR r0) (hK27 : ∀ (Mk : fw_M) (kx3 : Int32) (kx4 : Int32) (kx5 : Int32), K27 Mk kx3 kx4 kx5 = some z → fw_J p l e (headSpec wsX2_leastRing rm_Fore_leastRing).room s m args below meth c D vwCl N ad EE 6 0 0 (fw_E below args s D vwCl N ad EE (some (.int z.1)) z.2) Mk [(0, .ref (ad o)), (3, .int kx3), (4, .int kx4), (5, .int kx5)] 27 []) (h : P_Fore_leastRing_b27 o r0 K27 M x3 x4 x5 = some z) : fw_J p l e (headSpec wsX2_leastRing rm_Fore_leastRing).room s m args below meth c D vwCl N ad EE 6 0 0 (fw_E below args s D vwCl N ad EE (some (.int z.1)) z.2) M [(0, .ref (ad o)), (3, .int x3), (4, .int x4), (5, .int x5)] 27 [] := by
  unfold P_Fore_leastRing_b27 at h
  refine fw_iload (pc := 27) C 3 dX2_leastRing_27 rfl ?_
  refine fw_sipush (pc := 29) C (v := 128) dX2_leastRing_29 fk_sipush_128 ?_
  refine fw_icmp_ge (pc := 32) C (tgt := 76) dX2_leastRing_32 (by decide) (fun c1 => ?_) (fun c1 => ?_)
  · have h := fw_ift h c1
    refine fw_iload (pc := 76) C 2 dX2_leastRing_76 rfl ?_
    exact fw_iret (pc := 78) C (fw_p1 h) (fw_p2 h) dX2_leastRing_78
  · have h := fw_iff h c1
    refine fw_iload (pc := 35) C 3 dX2_leastRing_35 rfl ?_
    refine fw_iload_n (pc := 37) C 1 dX2_leastRing_37 rfl rfl ?_
    refine fw_iconst (pc := 38) C (v := -1) dX2_leastRing_38 fk_iconst_m1 ?_
    refine fw_ixor (pc := 39) C dX2_leastRing_39 ?_
    refine fw_iand (pc := 40) C dX2_leastRing_40 ?_
    refine fw_if_ne (pc := 41) C (tgt := 70) dX2_leastRing_41 (by decide) (fun c2 => ?_) (fun c2 => ?_)
    · have h := fw_iff h c2
      exact (c_Fore_leastRing_b70 C ho hr0 hK27 h)
    · have h := fw_ift h c2
      refine fw_iload (pc := 44) C 3 dX2_leastRing_44 rfl ?_
      refine fw_iload (pc := 46) C 2 dX2_leastRing_46 rfl ?_
      obtain ⟨v3, hv3, h⟩ := fw_bind h
      refine fw_callS1 (pc := 48) C (rest := []) (c_Fore_isSmaller  hv3) (va_cwS 2 C.2.2.2.2.1 gX2_leastRing_X2_isSmaller rfl rfl rfl hd_Fore_isSmaller.2 ⟨Nat.le_of_ble_eq_true rfl, Nat.le_of_ble_eq_true rfl⟩) rfl ⟨Nat.zero_le _, Nat.zero_le _⟩ rfl (Nat.le_of_ble_eq_true rfl) dX2_leastRing_48 ?_
      refine fw_if_eq (pc := 51) C (tgt := 70) dX2_leastRing_51 (by decide) (fun c4 => ?_) (fun c4 => ?_)
      · have h := fw_ift h c4
        exact (c_Fore_leastRing_b70 C ho hr0 hK27 h)
      · have h := fw_iff h c4
        refine fw_aload_n (pc := 54) C 0 dX2_leastRing_54 rfl rfl ?_
        refine fw_getr (pc := 55) C ho.2.2.1.1 rfl qX2_leastRing_21 dX2_leastRing_55 ?_
        refine fw_iload (pc := 58) C 3 dX2_leastRing_58 rfl ?_
        obtain ⟨v5, hv5, h⟩ := fw_bind h
        refine fw_callV1 (pc := 60) C (rest := []) (c_Law_holdsFast ho.2.2.1.2 hv5) (cwV 1 C.2.2.2.2.1 gX2_leastRing_X4_holdsFast rfl rfl rfl hd_Law_holdsFast ⟨Nat.le_of_ble_eq_true rfl, Nat.le_of_ble_eq_true rfl⟩) ho.2.2.1.2.1 rfl rfl ⟨Nat.zero_le _, Nat.zero_le _⟩ rfl (Nat.le_of_ble_eq_true rfl) dX2_leastRing_60 ?_
        refine fw_if_eq (pc := 63) C (tgt := 70) dX2_leastRing_63 (by decide) (fun c6 => ?_) (fun c6 => ?_)
        · have h := fw_ift h c6
          exact (c_Fore_leastRing_b70 C ho hr0 hK27 h)
        · have h := fw_iff h c6
          refine fw_iload (pc := 66) C 3 dX2_leastRing_66 rfl ?_
          refine fw_istore (pc := 68) C (L2 := [(0, .ref _), (3, .int _), (4, .int _), (5, .int _)]) [1, 2, 0, 3] dX2_leastRing_68 (by decide) rfl ?_
          exact (c_Fore_leastRing_b70 C ho hr0 hK27 h)
theorem c_Fore_leastRing_h27 {p : Program} {l : Launch} {e : Env} {s : State} {m : MethodId} {args : Array Value} {below : List Frame} {meth : Method} {c : Code} {D : va_G} {cI cZ cH cR : ClassId} {N : Nat} {ad : Nat → Nat} {EE : fw_M → Nat → va_E} {o : Nat} {r0 : Nat} {z : (Int32 × fw_M)} (C : fw_C p s m args meth c cX2_leastRing RX2 wsX2_leastRing 6 (some .int) D vwCl (fw_tys cI cZ cH cR) N ad fw_nw0) (ho : o_Fore EE ad N cI cZ cH cR o) (hr0 : o_Hall EE ad N cI cZ cH cR r0) : ∀ (n : Nat) (M : fw_M) (x3 : Int32) (x4 : Int32) (x5 : Int32), P_Fore_leastRing_h27 o r0 n M x3 x4 x5 = some z → fw_J p l e (headSpec wsX2_leastRing rm_Fore_leastRing).room s m args below meth c D vwCl N ad EE 6 0 0 (fw_E below args s D vwCl N ad EE (some (.int z.1)) z.2) M [(0, .ref (ad o)), (3, .int x3), (4, .int x4), (5, .int x5)] 27 [] := by
  intro n
  induction n with
  | zero => intro M x3 x4 x5  h; cases h
  | succ n ih => intro M x3 x4 x5  h; exact c_Fore_leastRing_b27 C ho hr0 ih  h
set_option maxRecDepth 100000 in
theorem c_Fore_leastRing_b0 {p : Program} {l : Launch} {e : Env} {s : State} {m : MethodId} {args : Array Value} {below : List Frame} {meth : Method} {c : Code} {D : va_G} {cI cZ cH cR : ClassId} {N : Nat} {ad : Nat → Nat} {EE : fw_M → Nat → va_E} {o : Nat} {r0 : Nat} {M : fw_M} {x2 : Int32} {z : (Int32 × fw_M)} (C : fw_C p s m args meth c cX2_leastRing RX2 wsX2_leastRing 6 (some .int) D vwCl (fw_tys cI cZ cH cR) N ad fw_nw0) (ho : o_Fore EE ad N cI cZ cH cR o) (hr0 : o_Hall EE ad N cI cZ cH cR r0) (h : P_Fore_leastRing_b0 o r0 M x2 = some z) : fw_J p l e (headSpec wsX2_leastRing rm_Fore_leastRing).room s m args below meth c D vwCl N ad EE 6 0 0 (fw_E below args s D vwCl N ad EE (some (.int z.1)) z.2) M [(0, .ref (ad o)), (1, .ref (ad r0)), (2, .int x2)] 0 [] := by
  unfold P_Fore_leastRing_b0 at h
  refine fw_aload_n (pc := 0) C 0 dX2_leastRing_0 rfl rfl ?_
  refine fw_getr (pc := 1) C ho.2.2.1.1 rfl qX2_leastRing_21 dX2_leastRing_1 ?_
  refine fw_aload_n (pc := 4) C 1 dX2_leastRing_4 rfl rfl ?_
  obtain ⟨q1, hq1, h⟩ := fw_bind h
  refine fw_callV0 (pc := 5) C (rest := []) (c_Law_read ho.2.2.1.2 hr0 hq1) (cwV 1 C.2.2.2.2.1 gX2_leastRing_X4_read rfl rfl rfl hd_Law_read ⟨Nat.le_of_ble_eq_true rfl, Nat.le_of_ble_eq_true rfl⟩) ho.2.2.1.2.1 rfl rfl ⟨Nat.zero_le _, Nat.zero_le _⟩ rfl (Nat.le_of_ble_eq_true rfl) dX2_leastRing_5 ?_
  refine fw_aload_n (pc := 8) C 1 dX2_leastRing_8 rfl rfl ?_
  refine fw_iload_n (pc := 9) C 2 dX2_leastRing_9 rfl rfl ?_
  obtain ⟨v2, hv2, h⟩ := fw_bind h
  refine fw_callV1 (pc := 10) C (rest := []) (c_Hall_waitingAt hr0 hv2) (cwV 1 C.2.2.2.2.1 gX2_leastRing_X3_waitingAt rfl rfl rfl hd_Hall_waitingAt ⟨Nat.le_of_ble_eq_true rfl, Nat.le_of_ble_eq_true rfl⟩) hr0.1 rfl rfl ⟨Nat.zero_le _, Nat.zero_le _⟩ rfl (Nat.le_of_ble_eq_true rfl) dX2_leastRing_10 ?_
  refine fw_aload_n (pc := 13) C 1 dX2_leastRing_13 rfl rfl ?_
  obtain ⟨v3, hv3, h⟩ := fw_bind h
  refine fw_callV1 (pc := 14) C (rest := [_]) (c_Hall_nobodies hr0 hv3) (cwV 0 C.2.2.2.2.1 gX2_leastRing_X3_nobodies rfl rfl rfl hd_Hall_nobodies ⟨Nat.le_of_ble_eq_true rfl, Nat.le_of_ble_eq_true rfl⟩) hr0.1 rfl rfl ⟨Nat.zero_le _, Nat.zero_le _⟩ rfl (Nat.le_of_ble_eq_true rfl) dX2_leastRing_14 ?_
  refine fw_iconst (pc := 17) C (v := -1) dX2_leastRing_17 fk_iconst_m1 ?_
  refine fw_ixor (pc := 18) C dX2_leastRing_18 ?_
  refine fw_iand (pc := 19) C dX2_leastRing_19 ?_
  have h := fw_plh h
  refine fw_istore_n (pc := 20) C (L2 := [(0, .ref _), (1, .ref _), (2, .int _), (3, .int _)]) [1, 2, 3, 0] dX2_leastRing_20 rfl (by decide) rfl ?_
  refine fw_iconst (pc := 21) C (v := -1) dX2_leastRing_21 fk_iconst_m1 ?_
  refine fw_istore (pc := 22) C (L2 := [(0, .ref _), (1, .ref _), (2, .int _), (3, .int _), (4, .int _)]) [1, 2, 3, 4, 0] dX2_leastRing_22 (by decide) rfl ?_
  refine fw_iconst (pc := 24) C (v := 1) dX2_leastRing_24 fk_iconst_1 ?_
  refine fw_istore (pc := 25) C (L2 := [(0, .ref _), (1, .ref _), (2, .int _), (3, .int _), (4, .int _), (5, .int _)]) [1, 2, 3, 4, 5, 0] dX2_leastRing_25 (by decide) rfl ?_
  exact fw_sub [0, 3, 4, 5] rfl (c_Fore_leastRing_h27 C ho hr0 _ _ _ _ _ h)
theorem c_Fore_leastRing {l : Launch} {D : va_G} {cI cZ cH cR : ClassId} {N : Nat} {ad : Nat → Nat} {EE : fw_M → Nat → va_E} {o : Nat} {r0 : Nat} {M : fw_M} {a1 : Int32} {z : (Int32 × fw_M)} (ho : o_Fore EE ad N cI cZ cH cR o) (hr0 : o_Hall EE ad N cI cZ cH cR r0) (h : P_Fore_leastRing o r0 M a1 = some z) : fw_Met l yX2_leastRing wsX2_leastRing rm_Fore_leastRing D vwCl (fw_tys cI cZ cH cR) N ad fw_nw0 EE [.ref (ad o), .ref (ad r0), .int a1] M (some (.int z.1)) z.2 := by
  unfold P_Fore_leastRing at h
  exact fw_intro (cc := cX2_leastRing) (maxL := 6) (ret := some .int) (own := RX2) (by decide) rfl rfl (Nat.le_of_ble_eq_true rfl) (fun p e s m args below meth c C => fw_sub [0, 1, 2] rfl (c_Fore_leastRing_b0 C ho hr0 h))
abbrev rm_Fore_clearsIfBow : Room := { frames := 3, cells := 0, slots := 0, locals := 70 }
theorem hd_Fore_clearsIfBow : yX2_clearsIfBow.cls = RX2 ∧ yX2_clearsIfBow.cls ≠ "java/lang/invoke/MethodHandle" ∧ yX2_clearsIfBow.cls ≠ "java/lang/invoke/VarHandle" ∧ (parseMethodDescriptor yX2_clearsIfBow.desc).map (fun d => d.parameters.length) = some 3 := by decide +kernel
theorem qX2_clearsIfBow_28 : fw_G wsX2_clearsIfBow RX2 28 RX2 TX2 3 2 := ⟨by decide +kernel, by decide +kernel, by decide⟩
theorem qX2_clearsIfBow_77 : fw_G wsX2_clearsIfBow RX2 77 RX3 TX3 9 2 := ⟨by decide +kernel, by decide +kernel, by decide⟩
theorem qX2_clearsIfBow_99 : fw_G wsX2_clearsIfBow RX2 99 RX5 TX5 4 0 := ⟨by decide +kernel, by decide +kernel, by decide⟩
theorem qX2_clearsIfBow_102 : fw_G wsX2_clearsIfBow RX2 102 RX3 TX3 9 1 := ⟨by decide +kernel, by decide +kernel, by decide⟩
theorem qX2_clearsIfBow_21 : fw_G wsX2_clearsIfBow RX2 21 RX2 TX2 3 1 := ⟨by decide +kernel, by decide +kernel, by decide⟩
theorem qX2_clearsIfBow_69 : fw_G wsX2_clearsIfBow RX2 69 RX5 TX5 4 3 := ⟨by decide +kernel, by decide +kernel, by decide⟩
def P_Fore_clearsIfBow_b76 (o : Nat) (r0 : Nat) (M : fw_M) (t0 : Int32) : Option (Int32 × fw_M) := (fw_zr t0).bind fun v1 => some (v1, M)
def P_Fore_clearsIfBow_b43 (o : Nat) (r0 : Nat) (K11 : fw_M → Int32 → Int32 → Int32 → Option (Int32 × fw_M)) (M : fw_M) (x2 : Int32) (x3 : Int32) (x4 : Int32) : Option (Int32 × fw_M) := K11 M x2 x3 (x4 + (1 : Int32))
def P_Fore_clearsIfBow_b11 (o : Nat) (r0 : Nat) (K11 : fw_M → Int32 → Int32 → Int32 → Option (Int32 × fw_M)) (M : fw_M) (x2 : Int32) (x3 : Int32) (x4 : Int32) : Option (Int32 × fw_M) := (if (M r0 2) ≤ x4 then (P_Line_foretell (o + 9) (o + 7) M x2).bind fun q2 => (if (q2 (o + 9) 3) = (0 : Int32) then P_Fore_clearsIfBow_b76 o r0 q2 (1 : Int32) else P_Fore_clearsIfBow_b76 o r0 q2 (0 : Int32)) else (if ((x3 >>> (x4 &&& 31)) &&& (1 : Int32)) = (0 : Int32) then P_Fore_clearsIfBow_b43 o r0 K11 M x2 x3 x4 else (fw_ast M ((o + 9) + 1) 7 x4 (M r0 1)).bind fun M5 => P_Fore_clearsIfBow_b43 o r0 K11 M5 x2 x3 x4))
def P_Fore_clearsIfBow_h11 (o : Nat) (r0 : Nat) : Nat → fw_M → Int32 → Int32 → Int32 → Option (Int32 × fw_M)
  | 0, _, _, _, _ => none
  | n + 1, M, x2, x3, x4 => P_Fore_clearsIfBow_b11 o r0 (P_Fore_clearsIfBow_h11 o r0 n) M x2 x3 x4
def P_Fore_clearsIfBow_b0 (o : Nat) (r0 : Nat) (M : fw_M) (x2 : Int32) (x3 : Int32) : Option (Int32 × fw_M) := (P_Line_readNobodies (o + 9) r0 M).bind fun q1 => P_Fore_clearsIfBow_h11 o r0 fw_fu q1 x2 x3 (0 : Int32)
def P_Fore_clearsIfBow (o : Nat) (r0 : Nat) (M : fw_M) (a1 : Int32) (a2 : Int32) : Option (Int32 × fw_M) := P_Fore_clearsIfBow_b0 o r0 M a1 a2
set_option maxRecDepth 100000 in
theorem c_Fore_clearsIfBow_b76 {p : Program} {l : Launch} {e : Env} {s : State} {m : MethodId} {args : Array Value} {below : List Frame} {meth : Method} {c : Code} {D : va_G} {cI cZ cH cR : ClassId} {N : Nat} {ad : Nat → Nat} {EE : fw_M → Nat → va_E} {o : Nat} {r0 : Nat} {M : fw_M} {t0 : Int32} {z : (Int32 × fw_M)} (C : fw_C p s m args meth c cX2_clearsIfBow RX2 wsX2_clearsIfBow 5 (some .boolean) D vwCl (fw_tys cI cZ cH cR) N ad fw_nw0) (ho : o_Fore EE ad N cI cZ cH cR o) (hr0 : o_Hall EE ad N cI cZ cH cR r0) (h : P_Fore_clearsIfBow_b76 o r0 M t0 = some z) : fw_J p l e (headSpec wsX2_clearsIfBow rm_Fore_clearsIfBow).room s m args below meth c D vwCl N ad EE 5 0 0 (fw_E below args s D vwCl N ad EE (some (.int z.1)) z.2) M [] 76 [.int t0] := by
  unfold P_Fore_clearsIfBow_b76 at h
  obtain ⟨v1, hv1, h⟩ := fw_bind h
  exact fw_zret (pc := 76) C (fw_zrh hv1).1 ((fw_zrh hv1).2.trans (fw_p1 h)) (fw_p2 h) dX2_clearsIfBow_76
set_option maxRecDepth 100000 in
theorem c_Fore_clearsIfBow_b43 {p : Program} {l : Launch} {e : Env} {s : State} {m : MethodId} {args : Array Value} {below : List Frame} {meth : Method} {c : Code} {D : va_G} {cI cZ cH cR : ClassId} {N : Nat} {ad : Nat → Nat} {EE : fw_M → Nat → va_E} {o : Nat} {r0 : Nat} {K11 : fw_M → Int32 → Int32 → Int32 → Option (Int32 × fw_M)} {M : fw_M} {x2 : Int32} {x3 : Int32} {x4 : Int32} {z : (Int32 × fw_M)} (C : fw_C p s m args meth c cX2_clearsIfBow RX2 wsX2_clearsIfBow 5 (some .boolean) D vwCl (fw_tys cI cZ cH cR) N ad fw_nw0) (ho : o_Fore EE ad N cI cZ cH cR o) (hr0 : o_Hall EE ad N cI cZ cH cR r0) (hK11 : ∀ (Mk : fw_M) (kx2 : Int32) (kx3 : Int32) (kx4 : Int32), K11 Mk kx2 kx3 kx4 = some z → fw_J p l e (headSpec wsX2_clearsIfBow rm_Fore_clearsIfBow).room s m args below meth c D vwCl N ad EE 5 0 0 (fw_E below args s D vwCl N ad EE (some (.int z.1)) z.2) Mk [(0, .ref (ad o)), (1, .ref (ad r0)), (2, .int kx2), (3, .int kx3), (4, .int kx4)] 11 []) (h : P_Fore_clearsIfBow_b43 o r0 K11 M x2 x3 x4 = some z) : fw_J p l e (headSpec wsX2_clearsIfBow rm_Fore_clearsIfBow).room s m args below meth c D vwCl N ad EE 5 0 0 (fw_E below args s D vwCl N ad EE (some (.int z.1)) z.2) M [(0, .ref (ad o)), (1, .ref (ad r0)), (2, .int x2), (3, .int x3), (4, .int x4)] 43 [] := by
  unfold P_Fore_clearsIfBow_b43 at h
  refine fw_iinc (pc := 43) C (v := 1) (L2 := [(0, .ref _), (1, .ref _), (2, .int _), (3, .int _), (4, .int _)]) 4 [1, 2, 3, 4, 0] dX2_clearsIfBow_43 rfl fk_iconst_1 (by decide) rfl ?_
  refine fw_goto (pc := 46) C (tgt := 11) dX2_clearsIfBow_46 (by decide) ?_
  exact (hK11 _ _ _ _ h)
set_option maxRecDepth 100000 in
theorem c_Fore_clearsIfBow_b11 {p : Program} {l : Launch} {e : Env} {s : State} {m : MethodId} {args : Array Value} {below : List Frame} {meth : Method} {c : Code} {D : va_G} {cI cZ cH cR : ClassId} {N : Nat} {ad : Nat → Nat} {EE : fw_M → Nat → va_E} {o : Nat} {r0 : Nat} {K11 : fw_M → Int32 → Int32 → Int32 → Option (Int32 × fw_M)} {M : fw_M} {x2 : Int32} {x3 : Int32} {x4 : Int32} {z : (Int32 × fw_M)} (C : fw_C p s m args meth c cX2_clearsIfBow RX2 wsX2_clearsIfBow 5 (some .boolean) D vwCl (fw_tys cI cZ cH cR) N ad fw_nw0) (ho : o_Fore EE ad N cI cZ cH cR o) (hr0 : o_Hall EE ad N cI cZ cH cR r0) (hK11 : ∀ (Mk : fw_M) (kx2 : Int32) (kx3 : Int32) (kx4 : Int32), K11 Mk kx2 kx3 kx4 = some z → fw_J p l e (headSpec wsX2_clearsIfBow rm_Fore_clearsIfBow).room s m args below meth c D vwCl N ad EE 5 0 0 (fw_E below args s D vwCl N ad EE (some (.int z.1)) z.2) Mk [(0, .ref (ad o)), (1, .ref (ad r0)), (2, .int kx2), (3, .int kx3), (4, .int kx4)] 11 []) (h : P_Fore_clearsIfBow_b11 o r0 K11 M x2 x3 x4 = some z) : fw_J p l e (headSpec wsX2_clearsIfBow rm_Fore_clearsIfBow).room s m args below meth c D vwCl N ad EE 5 0 0 (fw_E below args s D vwCl N ad EE (some (.int z.1)) z.2) M [(0, .ref (ad o)), (1, .ref (ad r0)), (2, .int x2), (3, .int x3), (4, .int x4)] 11 [] := by
  unfold P_Fore_clearsIfBow_b11 at h
  refine fw_iload (pc := 11) C 4 dX2_clearsIfBow_11 rfl ?_
  refine fw_aload_n (pc := 13) C 1 dX2_clearsIfBow_13 rfl rfl ?_
  refine fw_geti (pc := 14) C hr0.2.2.2.1 rfl qX2_clearsIfBow_77 dX2_clearsIfBow_14 ?_
  refine fw_icmp_ge (pc := 17) C (tgt := 49) dX2_clearsIfBow_17 (by decide) (fun c1 => ?_) (fun c1 => ?_)
  · have h := fw_ift h c1
    refine fw_aload_n (pc := 49) C 0 dX2_clearsIfBow_49 rfl rfl ?_
    refine fw_getr (pc := 50) C ho.2.2.2.1 rfl qX2_clearsIfBow_28 dX2_clearsIfBow_50 ?_
    refine fw_aload_n (pc := 53) C 0 dX2_clearsIfBow_53 rfl rfl ?_
    refine fw_getr (pc := 54) C ho.2.2.1.1 rfl qX2_clearsIfBow_21 dX2_clearsIfBow_54 ?_
    refine fw_iload_n (pc := 57) C 2 dX2_clearsIfBow_57 rfl rfl ?_
    obtain ⟨q2, hq2, h⟩ := fw_bind h
    refine fw_callV0 (pc := 58) C (rest := []) (c_Line_foretell ho.2.2.2.2 ho.2.2.1.2 hq2) (cwV 2 C.2.2.2.2.1 gX2_clearsIfBow_X5_foretell rfl rfl rfl hd_Line_foretell ⟨Nat.le_of_ble_eq_true rfl, Nat.le_of_ble_eq_true rfl⟩) ho.2.2.2.2.1 rfl rfl ⟨Nat.zero_le _, Nat.zero_le _⟩ rfl (Nat.le_of_ble_eq_true rfl) dX2_clearsIfBow_58 ?_
    refine fw_aload_n (pc := 61) C 0 dX2_clearsIfBow_61 rfl rfl ?_
    refine fw_getr (pc := 62) C ho.2.2.2.1 rfl qX2_clearsIfBow_28 dX2_clearsIfBow_62 ?_
    refine fw_geti (pc := 65) C ho.2.2.2.2.2.2.2.2 rfl qX2_clearsIfBow_69 dX2_clearsIfBow_65 ?_
    refine fw_if_ne (pc := 68) C (tgt := 75) dX2_clearsIfBow_68 (by decide) (fun c3 => ?_) (fun c3 => ?_)
    · have h := fw_iff h c3
      refine fw_iconst (pc := 75) C (v := 0) dX2_clearsIfBow_75 fk_iconst_0 ?_
      exact fw_sub [] rfl (c_Fore_clearsIfBow_b76 C ho hr0 h)
    · have h := fw_ift h c3
      refine fw_iconst (pc := 71) C (v := 1) dX2_clearsIfBow_71 fk_iconst_1 ?_
      refine fw_goto (pc := 72) C (tgt := 76) dX2_clearsIfBow_72 (by decide) ?_
      exact fw_sub [] rfl (c_Fore_clearsIfBow_b76 C ho hr0 h)
  · have h := fw_iff h c1
    refine fw_iload_n (pc := 20) C 3 dX2_clearsIfBow_20 rfl rfl ?_
    refine fw_iload (pc := 21) C 4 dX2_clearsIfBow_21 rfl ?_
    refine fw_ishr (pc := 23) C dX2_clearsIfBow_23 ?_
    refine fw_iconst (pc := 24) C (v := 1) dX2_clearsIfBow_24 fk_iconst_1 ?_
    refine fw_iand (pc := 25) C dX2_clearsIfBow_25 ?_
    refine fw_if_eq (pc := 26) C (tgt := 43) dX2_clearsIfBow_26 (by decide) (fun c4 => ?_) (fun c4 => ?_)
    · have h := fw_ift h c4
      exact (c_Fore_clearsIfBow_b43 C ho hr0 hK11 h)
    · have h := fw_iff h c4
      refine fw_aload_n (pc := 29) C 0 dX2_clearsIfBow_29 rfl rfl ?_
      refine fw_getr (pc := 30) C ho.2.2.2.1 rfl qX2_clearsIfBow_28 dX2_clearsIfBow_30 ?_
      refine fw_getr (pc := 33) C ho.2.2.2.2.2.1.1 rfl qX2_clearsIfBow_99 dX2_clearsIfBow_33 ?_
      refine fw_iload (pc := 36) C 4 dX2_clearsIfBow_36 rfl ?_
      refine fw_aload_n (pc := 38) C 1 dX2_clearsIfBow_38 rfl rfl ?_
      refine fw_geti (pc := 39) C hr0.2.2.1 rfl qX2_clearsIfBow_102 dX2_clearsIfBow_39 ?_
      obtain ⟨M5, hM5, h⟩ := fw_bind h
      refine fw_iast (pc := 42) C 0 ho.2.2.2.2.2.1.2 rfl hM5 dX2_clearsIfBow_42 ?_
      exact (c_Fore_clearsIfBow_b43 C ho hr0 hK11 h)
theorem c_Fore_clearsIfBow_h11 {p : Program} {l : Launch} {e : Env} {s : State} {m : MethodId} {args : Array Value} {below : List Frame} {meth : Method} {c : Code} {D : va_G} {cI cZ cH cR : ClassId} {N : Nat} {ad : Nat → Nat} {EE : fw_M → Nat → va_E} {o : Nat} {r0 : Nat} {z : (Int32 × fw_M)} (C : fw_C p s m args meth c cX2_clearsIfBow RX2 wsX2_clearsIfBow 5 (some .boolean) D vwCl (fw_tys cI cZ cH cR) N ad fw_nw0) (ho : o_Fore EE ad N cI cZ cH cR o) (hr0 : o_Hall EE ad N cI cZ cH cR r0) : ∀ (n : Nat) (M : fw_M) (x2 : Int32) (x3 : Int32) (x4 : Int32), P_Fore_clearsIfBow_h11 o r0 n M x2 x3 x4 = some z → fw_J p l e (headSpec wsX2_clearsIfBow rm_Fore_clearsIfBow).room s m args below meth c D vwCl N ad EE 5 0 0 (fw_E below args s D vwCl N ad EE (some (.int z.1)) z.2) M [(0, .ref (ad o)), (1, .ref (ad r0)), (2, .int x2), (3, .int x3), (4, .int x4)] 11 [] := by
  intro n
  induction n with
  | zero => intro M x2 x3 x4  h; cases h
  | succ n ih => intro M x2 x3 x4  h; exact c_Fore_clearsIfBow_b11 C ho hr0 ih  h
set_option maxRecDepth 100000 in
theorem c_Fore_clearsIfBow_b0 {p : Program} {l : Launch} {e : Env} {s : State} {m : MethodId} {args : Array Value} {below : List Frame} {meth : Method} {c : Code} {D : va_G} {cI cZ cH cR : ClassId} {N : Nat} {ad : Nat → Nat} {EE : fw_M → Nat → va_E} {o : Nat} {r0 : Nat} {M : fw_M} {x2 : Int32} {x3 : Int32} {z : (Int32 × fw_M)} (C : fw_C p s m args meth c cX2_clearsIfBow RX2 wsX2_clearsIfBow 5 (some .boolean) D vwCl (fw_tys cI cZ cH cR) N ad fw_nw0) (ho : o_Fore EE ad N cI cZ cH cR o) (hr0 : o_Hall EE ad N cI cZ cH cR r0) (h : P_Fore_clearsIfBow_b0 o r0 M x2 x3 = some z) : fw_J p l e (headSpec wsX2_clearsIfBow rm_Fore_clearsIfBow).room s m args below meth c D vwCl N ad EE 5 0 0 (fw_E below args s D vwCl N ad EE (some (.int z.1)) z.2) M [(0, .ref (ad o)), (1, .ref (ad r0)), (2, .int x2), (3, .int x3)] 0 [] := by
  unfold P_Fore_clearsIfBow_b0 at h
  refine fw_aload_n (pc := 0) C 0 dX2_clearsIfBow_0 rfl rfl ?_
  refine fw_getr (pc := 1) C ho.2.2.2.1 rfl qX2_clearsIfBow_28 dX2_clearsIfBow_1 ?_
  refine fw_aload_n (pc := 4) C 1 dX2_clearsIfBow_4 rfl rfl ?_
  obtain ⟨q1, hq1, h⟩ := fw_bind h
  refine fw_callV0 (pc := 5) C (rest := []) (c_Line_readNobodies ho.2.2.2.2 hr0 hq1) (cwV 1 C.2.2.2.2.1 gX2_clearsIfBow_X5_readNobodies rfl rfl rfl hd_Line_readNobodies ⟨Nat.le_of_ble_eq_true rfl, Nat.le_of_ble_eq_true rfl⟩) ho.2.2.2.2.1 rfl rfl ⟨Nat.zero_le _, Nat.zero_le _⟩ rfl (Nat.le_of_ble_eq_true rfl) dX2_clearsIfBow_5 ?_
  refine fw_iconst (pc := 8) C (v := 0) dX2_clearsIfBow_8 fk_iconst_0 ?_
  refine fw_istore (pc := 9) C (L2 := [(0, .ref _), (1, .ref _), (2, .int _), (3, .int _), (4, .int _)]) [1, 2, 3, 4, 0] dX2_clearsIfBow_9 (by decide) rfl ?_
  exact (c_Fore_clearsIfBow_h11 C ho hr0 _ _ _ _ _ h)
theorem c_Fore_clearsIfBow {l : Launch} {D : va_G} {cI cZ cH cR : ClassId} {N : Nat} {ad : Nat → Nat} {EE : fw_M → Nat → va_E} {o : Nat} {r0 : Nat} {M : fw_M} {a1 : Int32} {a2 : Int32} {z : (Int32 × fw_M)} (ho : o_Fore EE ad N cI cZ cH cR o) (hr0 : o_Hall EE ad N cI cZ cH cR r0) (h : P_Fore_clearsIfBow o r0 M a1 a2 = some z) : fw_Met l yX2_clearsIfBow wsX2_clearsIfBow rm_Fore_clearsIfBow D vwCl (fw_tys cI cZ cH cR) N ad fw_nw0 EE [.ref (ad o), .ref (ad r0), .int a1, .int a2] M (some (.int z.1)) z.2 := by
  unfold P_Fore_clearsIfBow at h
  exact fw_intro (cc := cX2_clearsIfBow) (maxL := 5) (ret := some .boolean) (own := RX2) (by decide) rfl rfl (Nat.le_of_ble_eq_true rfl) (fun p e s m args below meth c C => fw_sub [0, 1, 2, 3] rfl (c_Fore_clearsIfBow_b0 C ho hr0 h))
abbrev rm_Fore_fewestBows : Room := { frames := 4, cells := 0, slots := 0, locals := 94 }
theorem hd_Fore_fewestBows : yX2_fewestBows.cls = RX2 ∧ yX2_fewestBows.cls ≠ "java/lang/invoke/MethodHandle" ∧ yX2_fewestBows.cls ≠ "java/lang/invoke/VarHandle" ∧ (parseMethodDescriptor yX2_fewestBows.desc).map (fun d => d.parameters.length) = some 2 := by decide +kernel
theorem qX2_fewestBows_21 : fw_G wsX2_fewestBows RX2 21 RX2 TX2 3 1 := ⟨by decide +kernel, by decide +kernel, by decide⟩
def P_Fore_fewestBows_b62 (o : Nat) (r0 : Nat) (K20 : fw_M → Int32 → Int32 → Int32 → Option (Int32 × fw_M)) (M : fw_M) (x3 : Int32) (x4 : Int32) (x5 : Int32) : Option (Int32 × fw_M) := K20 M x3 x4 (x5 + (1 : Int32))
def P_Fore_fewestBows_b20 (o : Nat) (r0 : Nat) (K20 : fw_M → Int32 → Int32 → Int32 → Option (Int32 × fw_M)) (M : fw_M) (x3 : Int32) (x4 : Int32) (x5 : Int32) : Option (Int32 × fw_M) := (if (128 : Int32) ≤ x5 then some (x4, M) else (if (x5 &&& (x3 ^^^ (-1 : Int32))) = (0 : Int32) then (P_Fore_isSmaller M x5 x4).bind fun v3 => (if v3 = (0 : Int32) then P_Fore_fewestBows_b62 o r0 K20 M x3 x4 x5 else (P_Fore_clearsIfBow o r0 M x3 x5).bind fun q5 => (if q5.1 = (0 : Int32) then P_Fore_fewestBows_b62 o r0 K20 q5.2 x3 x4 x5 else P_Fore_fewestBows_b62 o r0 K20 q5.2 x3 x5 x5)) else P_Fore_fewestBows_b62 o r0 K20 M x3 x4 x5))
def P_Fore_fewestBows_h20 (o : Nat) (r0 : Nat) : Nat → fw_M → Int32 → Int32 → Int32 → Option (Int32 × fw_M)
  | 0, _, _, _, _ => none
  | n + 1, M, x3, x4, x5 => P_Fore_fewestBows_b20 o r0 (P_Fore_fewestBows_h20 o r0 n) M x3 x4 x5
def P_Fore_fewestBows_b0 (o : Nat) (r0 : Nat) (M : fw_M) (x2 : Int32) : Option (Int32 × fw_M) := (P_Law_read (o + 7) r0 M).bind fun q1 => (P_Hall_waitingAt r0 q1 x2).bind fun v2 => P_Fore_fewestBows_h20 o r0 fw_fu q1 v2 (-1 : Int32) (0 : Int32)
def P_Fore_fewestBows (o : Nat) (r0 : Nat) (M : fw_M) (a1 : Int32) : Option (Int32 × fw_M) := P_Fore_fewestBows_b0 o r0 M a1
set_option maxRecDepth 100000 in
theorem c_Fore_fewestBows_b62 {p : Program} {l : Launch} {e : Env} {s : State} {m : MethodId} {args : Array Value} {below : List Frame} {meth : Method} {c : Code} {D : va_G} {cI cZ cH cR : ClassId} {N : Nat} {ad : Nat → Nat} {EE : fw_M → Nat → va_E} {o : Nat} {r0 : Nat} {K20 : fw_M → Int32 → Int32 → Int32 → Option (Int32 × fw_M)} {M : fw_M} {x3 : Int32} {x4 : Int32} {x5 : Int32} {z : (Int32 × fw_M)} (C : fw_C p s m args meth c cX2_fewestBows RX2 wsX2_fewestBows 6 (some .int) D vwCl (fw_tys cI cZ cH cR) N ad fw_nw0) (ho : o_Fore EE ad N cI cZ cH cR o) (hr0 : o_Hall EE ad N cI cZ cH cR r0) (hK20 : ∀ (Mk : fw_M) (kx3 : Int32) (kx4 : Int32) (kx5 : Int32), K20 Mk kx3 kx4 kx5 = some z → fw_J p l e (headSpec wsX2_fewestBows rm_Fore_fewestBows).room s m args below meth c D vwCl N ad EE 6 0 0 (fw_E below args s D vwCl N ad EE (some (.int z.1)) z.2) Mk [(0, .ref (ad o)), (1, .ref (ad r0)), (3, .int kx3), (4, .int kx4), (5, .int kx5)] 20 []) (h : P_Fore_fewestBows_b62 o r0 K20 M x3 x4 x5 = some z) : fw_J p l e (headSpec wsX2_fewestBows rm_Fore_fewestBows).room s m args below meth c D vwCl N ad EE 6 0 0 (fw_E below args s D vwCl N ad EE (some (.int z.1)) z.2) M [(0, .ref (ad o)), (1, .ref (ad r0)), (3, .int x3), (4, .int x4), (5, .int x5)] 62 [] := by
  unfold P_Fore_fewestBows_b62 at h
  refine fw_iinc (pc := 62) C (v := 1) (L2 := [(0, .ref _), (1, .ref _), (3, .int _), (4, .int _), (5, .int _)]) 4 [1, 2, 3, 4, 0] dX2_fewestBows_62 rfl fk_iconst_1 (by decide) rfl ?_
  refine fw_goto (pc := 65) C (tgt := 20) dX2_fewestBows_65 (by decide) ?_
  exact (hK20 _ _ _ _ h)
set_option maxRecDepth 100000 in
theorem c_Fore_fewestBows_b20 {p : Program} {l : Launch} {e : Env} {s : State} {m : MethodId} {args : Array Value} {below : List Frame} {meth : Method} {c : Code} {D : va_G} {cI cZ cH cR : ClassId} {N : Nat} {ad : Nat → Nat} {EE : fw_M → Nat → va_E} {o : Nat} {r0 : Nat} {K20 : fw_M → Int32 → Int32 → Int32 → Option (Int32 × fw_M)} {M : fw_M} {x3 : Int32} {x4 : Int32} {x5 : Int32} {z : (Int32 × fw_M)} (C : fw_C p s m args meth c cX2_fewestBows RX2 wsX2_fewestBows 6 (some .int) D vwCl (fw_tys cI cZ cH cR) N ad fw_nw0) (ho : o_Fore EE ad N cI cZ cH cR o) (hr0 : o_Hall EE ad N cI cZ cH cR r0) (hK20 : ∀ (Mk : fw_M) (kx3 : Int32) (kx4 : Int32) (kx5 : Int32), K20 Mk kx3 kx4 kx5 = some z → fw_J p l e (headSpec wsX2_fewestBows rm_Fore_fewestBows).room s m args below meth c D vwCl N ad EE 6 0 0 (fw_E below args s D vwCl N ad EE (some (.int z.1)) z.2) Mk [(0, .ref (ad o)), (1, .ref (ad r0)), (3, .int kx3), (4, .int kx4), (5, .int kx5)] 20 []) (h : P_Fore_fewestBows_b20 o r0 K20 M x3 x4 x5 = some z) : fw_J p l e (headSpec wsX2_fewestBows rm_Fore_fewestBows).room s m args below meth c D vwCl N ad EE 6 0 0 (fw_E below args s D vwCl N ad EE (some (.int z.1)) z.2) M [(0, .ref (ad o)), (1, .ref (ad r0)), (3, .int x3), (4, .int x4), (5, .int x5)] 20 [] := by
  unfold P_Fore_fewestBows_b20 at h
  refine fw_iload (pc := 20) C 4 dX2_fewestBows_20 rfl ?_
  refine fw_sipush (pc := 22) C (v := 128) dX2_fewestBows_22 fk_sipush_128 ?_
  refine fw_icmp_ge (pc := 25) C (tgt := 68) dX2_fewestBows_25 (by decide) (fun c1 => ?_) (fun c1 => ?_)
  · have h := fw_ift h c1
    refine fw_iload (pc := 68) C 3 dX2_fewestBows_68 rfl ?_
    exact fw_iret (pc := 70) C (fw_p1 h) (fw_p2 h) dX2_fewestBows_70
  · have h := fw_iff h c1
    refine fw_iload (pc := 28) C 4 dX2_fewestBows_28 rfl ?_
    refine fw_iload_n (pc := 30) C 2 dX2_fewestBows_30 rfl rfl ?_
    refine fw_iconst (pc := 31) C (v := -1) dX2_fewestBows_31 fk_iconst_m1 ?_
    refine fw_ixor (pc := 32) C dX2_fewestBows_32 ?_
    refine fw_iand (pc := 33) C dX2_fewestBows_33 ?_
    refine fw_if_ne (pc := 34) C (tgt := 62) dX2_fewestBows_34 (by decide) (fun c2 => ?_) (fun c2 => ?_)
    · have h := fw_iff h c2
      exact (c_Fore_fewestBows_b62 C ho hr0 hK20 h)
    · have h := fw_ift h c2
      refine fw_iload (pc := 37) C 4 dX2_fewestBows_37 rfl ?_
      refine fw_iload (pc := 39) C 3 dX2_fewestBows_39 rfl ?_
      obtain ⟨v3, hv3, h⟩ := fw_bind h
      refine fw_callS1 (pc := 41) C (rest := []) (c_Fore_isSmaller  hv3) (va_cwS 2 C.2.2.2.2.1 gX2_fewestBows_X2_isSmaller rfl rfl rfl hd_Fore_isSmaller.2 ⟨Nat.le_of_ble_eq_true rfl, Nat.le_of_ble_eq_true rfl⟩) rfl ⟨Nat.zero_le _, Nat.zero_le _⟩ rfl (Nat.le_of_ble_eq_true rfl) dX2_fewestBows_41 ?_
      refine fw_if_eq (pc := 44) C (tgt := 62) dX2_fewestBows_44 (by decide) (fun c4 => ?_) (fun c4 => ?_)
      · have h := fw_ift h c4
        exact (c_Fore_fewestBows_b62 C ho hr0 hK20 h)
      · have h := fw_iff h c4
        refine fw_aload_n (pc := 47) C 0 dX2_fewestBows_47 rfl rfl ?_
        refine fw_aload_n (pc := 48) C 1 dX2_fewestBows_48 rfl rfl ?_
        refine fw_iload_n (pc := 49) C 2 dX2_fewestBows_49 rfl rfl ?_
        refine fw_iload (pc := 50) C 4 dX2_fewestBows_50 rfl ?_
        obtain ⟨q5, hq5, h⟩ := fw_bind h
        refine fw_callV1 (pc := 52) C (rest := []) (c_Fore_clearsIfBow ho hr0 hq5) (cwV 3 C.2.2.2.2.1 gX2_fewestBows_X2_clearsIfBow rfl rfl rfl hd_Fore_clearsIfBow ⟨Nat.le_of_ble_eq_true rfl, Nat.le_of_ble_eq_true rfl⟩) ho.1 rfl rfl ⟨Nat.zero_le _, Nat.zero_le _⟩ rfl (Nat.le_of_ble_eq_true rfl) dX2_fewestBows_52 ?_
        refine fw_if_eq (pc := 55) C (tgt := 62) dX2_fewestBows_55 (by decide) (fun c6 => ?_) (fun c6 => ?_)
        · have h := fw_ift h c6
          exact (c_Fore_fewestBows_b62 C ho hr0 hK20 h)
        · have h := fw_iff h c6
          refine fw_iload (pc := 58) C 4 dX2_fewestBows_58 rfl ?_
          refine fw_istore (pc := 60) C (L2 := [(0, .ref _), (1, .ref _), (3, .int _), (4, .int _), (5, .int _)]) [1, 2, 3, 0, 4] dX2_fewestBows_60 (by decide) rfl ?_
          exact (c_Fore_fewestBows_b62 C ho hr0 hK20 h)
theorem c_Fore_fewestBows_h20 {p : Program} {l : Launch} {e : Env} {s : State} {m : MethodId} {args : Array Value} {below : List Frame} {meth : Method} {c : Code} {D : va_G} {cI cZ cH cR : ClassId} {N : Nat} {ad : Nat → Nat} {EE : fw_M → Nat → va_E} {o : Nat} {r0 : Nat} {z : (Int32 × fw_M)} (C : fw_C p s m args meth c cX2_fewestBows RX2 wsX2_fewestBows 6 (some .int) D vwCl (fw_tys cI cZ cH cR) N ad fw_nw0) (ho : o_Fore EE ad N cI cZ cH cR o) (hr0 : o_Hall EE ad N cI cZ cH cR r0) : ∀ (n : Nat) (M : fw_M) (x3 : Int32) (x4 : Int32) (x5 : Int32), P_Fore_fewestBows_h20 o r0 n M x3 x4 x5 = some z → fw_J p l e (headSpec wsX2_fewestBows rm_Fore_fewestBows).room s m args below meth c D vwCl N ad EE 6 0 0 (fw_E below args s D vwCl N ad EE (some (.int z.1)) z.2) M [(0, .ref (ad o)), (1, .ref (ad r0)), (3, .int x3), (4, .int x4), (5, .int x5)] 20 [] := by
  intro n
  induction n with
  | zero => intro M x3 x4 x5  h; cases h
  | succ n ih => intro M x3 x4 x5  h; exact c_Fore_fewestBows_b20 C ho hr0 ih  h
set_option maxRecDepth 100000 in
theorem c_Fore_fewestBows_b0 {p : Program} {l : Launch} {e : Env} {s : State} {m : MethodId} {args : Array Value} {below : List Frame} {meth : Method} {c : Code} {D : va_G} {cI cZ cH cR : ClassId} {N : Nat} {ad : Nat → Nat} {EE : fw_M → Nat → va_E} {o : Nat} {r0 : Nat} {M : fw_M} {x2 : Int32} {z : (Int32 × fw_M)} (C : fw_C p s m args meth c cX2_fewestBows RX2 wsX2_fewestBows 6 (some .int) D vwCl (fw_tys cI cZ cH cR) N ad fw_nw0) (ho : o_Fore EE ad N cI cZ cH cR o) (hr0 : o_Hall EE ad N cI cZ cH cR r0) (h : P_Fore_fewestBows_b0 o r0 M x2 = some z) : fw_J p l e (headSpec wsX2_fewestBows rm_Fore_fewestBows).room s m args below meth c D vwCl N ad EE 6 0 0 (fw_E below args s D vwCl N ad EE (some (.int z.1)) z.2) M [(0, .ref (ad o)), (1, .ref (ad r0)), (2, .int x2)] 0 [] := by
  unfold P_Fore_fewestBows_b0 at h
  refine fw_aload_n (pc := 0) C 0 dX2_fewestBows_0 rfl rfl ?_
  refine fw_getr (pc := 1) C ho.2.2.1.1 rfl qX2_fewestBows_21 dX2_fewestBows_1 ?_
  refine fw_aload_n (pc := 4) C 1 dX2_fewestBows_4 rfl rfl ?_
  obtain ⟨q1, hq1, h⟩ := fw_bind h
  refine fw_callV0 (pc := 5) C (rest := []) (c_Law_read ho.2.2.1.2 hr0 hq1) (cwV 1 C.2.2.2.2.1 gX2_fewestBows_X4_read rfl rfl rfl hd_Law_read ⟨Nat.le_of_ble_eq_true rfl, Nat.le_of_ble_eq_true rfl⟩) ho.2.2.1.2.1 rfl rfl ⟨Nat.zero_le _, Nat.zero_le _⟩ rfl (Nat.le_of_ble_eq_true rfl) dX2_fewestBows_5 ?_
  refine fw_aload_n (pc := 8) C 1 dX2_fewestBows_8 rfl rfl ?_
  refine fw_iload_n (pc := 9) C 2 dX2_fewestBows_9 rfl rfl ?_
  obtain ⟨v2, hv2, h⟩ := fw_bind h
  refine fw_callV1 (pc := 10) C (rest := []) (c_Hall_waitingAt hr0 hv2) (cwV 1 C.2.2.2.2.1 gX2_fewestBows_X3_waitingAt rfl rfl rfl hd_Hall_waitingAt ⟨Nat.le_of_ble_eq_true rfl, Nat.le_of_ble_eq_true rfl⟩) hr0.1 rfl rfl ⟨Nat.zero_le _, Nat.zero_le _⟩ rfl (Nat.le_of_ble_eq_true rfl) dX2_fewestBows_10 ?_
  refine fw_istore_n (pc := 13) C (L2 := [(0, .ref _), (1, .ref _), (2, .int _), (3, .int _)]) [1, 2, 3, 0] dX2_fewestBows_13 rfl (by decide) rfl ?_
  refine fw_iconst (pc := 14) C (v := -1) dX2_fewestBows_14 fk_iconst_m1 ?_
  refine fw_istore (pc := 15) C (L2 := [(0, .ref _), (1, .ref _), (2, .int _), (3, .int _), (4, .int _)]) [1, 2, 3, 4, 0] dX2_fewestBows_15 (by decide) rfl ?_
  refine fw_iconst (pc := 17) C (v := 0) dX2_fewestBows_17 fk_iconst_0 ?_
  refine fw_istore (pc := 18) C (L2 := [(0, .ref _), (1, .ref _), (2, .int _), (3, .int _), (4, .int _), (5, .int _)]) [1, 2, 3, 4, 5, 0] dX2_fewestBows_18 (by decide) rfl ?_
  exact fw_sub [0, 1, 3, 4, 5] rfl (c_Fore_fewestBows_h20 C ho hr0 _ _ _ _ _ h)
theorem c_Fore_fewestBows {l : Launch} {D : va_G} {cI cZ cH cR : ClassId} {N : Nat} {ad : Nat → Nat} {EE : fw_M → Nat → va_E} {o : Nat} {r0 : Nat} {M : fw_M} {a1 : Int32} {z : (Int32 × fw_M)} (ho : o_Fore EE ad N cI cZ cH cR o) (hr0 : o_Hall EE ad N cI cZ cH cR r0) (h : P_Fore_fewestBows o r0 M a1 = some z) : fw_Met l yX2_fewestBows wsX2_fewestBows rm_Fore_fewestBows D vwCl (fw_tys cI cZ cH cR) N ad fw_nw0 EE [.ref (ad o), .ref (ad r0), .int a1] M (some (.int z.1)) z.2 := by
  unfold P_Fore_fewestBows at h
  exact fw_intro (cc := cX2_fewestBows) (maxL := 6) (ret := some .int) (own := RX2) (by decide) rfl rfl (Nat.le_of_ble_eq_true rfl) (fun p e s m args below meth c C => fw_sub [0, 1, 2] rfl (c_Fore_fewestBows_b0 C ho hr0 h))
abbrev rm_Fore_leastRaiseOf : Room := { frames := 4, cells := 0, slots := 0, locals := 92 }
theorem hd_Fore_leastRaiseOf : yX2_leastRaiseOf.cls = RX2 ∧ yX2_leastRaiseOf.cls ≠ "java/lang/invoke/MethodHandle" ∧ yX2_leastRaiseOf.cls ≠ "java/lang/invoke/VarHandle" ∧ (parseMethodDescriptor yX2_leastRaiseOf.desc).map (fun d => d.parameters.length) = some 3 := by decide +kernel
theorem qX2_leastRaiseOf_111 : fw_G wsX2_leastRaiseOf RX2 111 RX3 TX3 9 5 := ⟨by decide +kernel, by decide +kernel, by decide⟩
theorem kmX2_leastRaiseOf_114 : Cond.methodLink RX2 114 Lib.Math.abs.name ∈ wsX2_leastRaiseOf ∧ Cond.static Lib.Math.abs.name ∈ wsX2_leastRaiseOf ∧ Cond.initialized "java/lang/Math" ∈ wsX2_leastRaiseOf ∧ Cond.code Lib.Math.abs.name Lib.Math.abs.code 1 (some .int) ∈ wsX2_leastRaiseOf := by decide +kernel
theorem qX2_leastRaiseOf_12 : fw_G wsX2_leastRaiseOf RX2 12 RX2 TX2 3 0 := ⟨by decide +kernel, by decide +kernel, by decide⟩
theorem qX2_leastRaiseOf_69 : fw_G wsX2_leastRaiseOf RX2 69 RX5 TX5 4 3 := ⟨by decide +kernel, by decide +kernel, by decide⟩
def P_Fore_leastRaiseOf_b98 (o : Nat) (r0 : Nat) (K14 : fw_M → Int32 → Int32 → Int32 → Int32 → Int32 → Option (Int32 × fw_M)) (M : fw_M) (x2 : Int32) (x3 : Int32) (x4 : Int32) (x5 : Int32) (x6 : Int32) : Option (Int32 × fw_M) := K14 M x2 x3 x4 x5 (x6 + (1 : Int32))
def P_Fore_leastRaiseOf_b61 (o : Nat) (r0 : Nat) (K14 : fw_M → Int32 → Int32 → Int32 → Int32 → Int32 → Option (Int32 × fw_M)) (M : fw_M) (x2 : Int32) (x3 : Int32) (x4 : Int32) (x5 : Int32) (x6 : Int32) (x7 : Int32) : Option (Int32 × fw_M) := (fw_ast M ((o + 1) + 2) 7 x3 x6).bind fun M1 => (P_Hall_waitingAt (o + 1) M1 x2).bind fun v2 => (P_Fore_lineOf o (o + 1) M1 v2).bind fun q3 => (if (q3 (o + 9) 3) = (0 : Int32) then P_Fore_leastRaiseOf_b98 o r0 K14 q3 x2 x3 x4 x7 x6 else P_Fore_leastRaiseOf_b98 o r0 K14 q3 x2 x3 x4 x5 x6)
def P_Fore_leastRaiseOf_b14 (o : Nat) (r0 : Nat) (K14 : fw_M → Int32 → Int32 → Int32 → Int32 → Int32 → Option (Int32 × fw_M)) (M : fw_M) (x2 : Int32) (x3 : Int32) (x4 : Int32) (x5 : Int32) (x6 : Int32) : Option (Int32 × fw_M) := (if (9 : Int32) < x6 then (fw_ast M ((o + 1) + 2) 7 x3 x4).bind fun M2 => some (x5, M2) else fw_pl (((((100 : Int32) * (if 0 ≤ (x6 - x4) then (x6 - x4) else 0 - (x6 - x4))) + ((10 : Int32) * x3)) + x6)) fun y3 => (if x6 = x4 then P_Fore_leastRaiseOf_b98 o r0 K14 M x2 x3 x4 x5 x6 else (if x5 < (0 : Int32) then P_Fore_leastRaiseOf_b61 o r0 K14 M x2 x3 x4 x5 x6 y3 else (if x5 ≤ y3 then P_Fore_leastRaiseOf_b98 o r0 K14 M x2 x3 x4 x5 x6 else P_Fore_leastRaiseOf_b61 o r0 K14 M x2 x3 x4 x5 x6 y3))))
def P_Fore_leastRaiseOf_h14 (o : Nat) (r0 : Nat) : Nat → fw_M → Int32 → Int32 → Int32 → Int32 → Int32 → Option (Int32 × fw_M)
  | 0, _, _, _, _, _, _ => none
  | n + 1, M, x2, x3, x4, x5, x6 => P_Fore_leastRaiseOf_b14 o r0 (P_Fore_leastRaiseOf_h14 o r0 n) M x2 x3 x4 x5 x6
def P_Fore_leastRaiseOf_b0 (o : Nat) (r0 : Nat) (M : fw_M) (x2 : Int32) (x3 : Int32) : Option (Int32 × fw_M) := (fw_ald M (r0 + 2) 7 x3).bind fun v1 => P_Fore_leastRaiseOf_h14 o r0 fw_fu M x2 x3 v1 (-1 : Int32) (0 : Int32)
def P_Fore_leastRaiseOf (o : Nat) (r0 : Nat) (M : fw_M) (a1 : Int32) (a2 : Int32) : Option (Int32 × fw_M) := P_Fore_leastRaiseOf_b0 o r0 M a1 a2
set_option maxRecDepth 100000 in
theorem c_Fore_leastRaiseOf_b98 {p : Program} {l : Launch} {e : Env} {s : State} {m : MethodId} {args : Array Value} {below : List Frame} {meth : Method} {c : Code} {D : va_G} {cI cZ cH cR : ClassId} {N : Nat} {ad : Nat → Nat} {EE : fw_M → Nat → va_E} {o : Nat} {r0 : Nat} {K14 : fw_M → Int32 → Int32 → Int32 → Int32 → Int32 → Option (Int32 × fw_M)} {M : fw_M} {x2 : Int32} {x3 : Int32} {x4 : Int32} {x5 : Int32} {x6 : Int32} {z : (Int32 × fw_M)} (C : fw_C p s m args meth c cX2_leastRaiseOf RX2 wsX2_leastRaiseOf 8 (some .int) D vwCl (fw_tys cI cZ cH cR) N ad fw_nw0) (ho : o_Fore EE ad N cI cZ cH cR o) (hr0 : o_Hall EE ad N cI cZ cH cR r0) (hK14 : ∀ (Mk : fw_M) (kx2 : Int32) (kx3 : Int32) (kx4 : Int32) (kx5 : Int32) (kx6 : Int32), K14 Mk kx2 kx3 kx4 kx5 kx6 = some z → fw_J p l e (headSpec wsX2_leastRaiseOf rm_Fore_leastRaiseOf).room s m args below meth c D vwCl N ad EE 8 0 0 (fw_E below args s D vwCl N ad EE (some (.int z.1)) z.2) Mk [(0, .ref (ad o)), (2, .int kx2), (3, .int kx3), (4, .int kx4), (5, .int kx5), (6, .int kx6)] 14 []) (h : P_Fore_leastRaiseOf_b98 o r0 K14 M x2 x3 x4 x5 x6 = some z) : fw_J p l e (headSpec wsX2_leastRaiseOf rm_Fore_leastRaiseOf).room s m args below meth c D vwCl N ad EE 8 0 0 (fw_E below args s D vwCl N ad EE (some (.int z.1)) z.2) M [(0, .ref (ad o)), (2, .int x2), (3, .int x3), (4, .int x4), (5, .int x5), (6, .int x6)] 98 [] := by
  unfold P_Fore_leastRaiseOf_b98 at h
  refine fw_iinc (pc := 98) C (v := 1) (L2 := [(0, .ref _), (2, .int _), (3, .int _), (4, .int _), (5, .int _), (6, .int _)]) 5 [1, 2, 3, 4, 5, 0] dX2_leastRaiseOf_98 rfl fk_iconst_1 (by decide) rfl ?_
  refine fw_goto (pc := 101) C (tgt := 14) dX2_leastRaiseOf_101 (by decide) ?_
  exact (hK14 _ _ _ _ _ _ h)
set_option maxRecDepth 100000 in
theorem c_Fore_leastRaiseOf_b61 {p : Program} {l : Launch} {e : Env} {s : State} {m : MethodId} {args : Array Value} {below : List Frame} {meth : Method} {c : Code} {D : va_G} {cI cZ cH cR : ClassId} {N : Nat} {ad : Nat → Nat} {EE : fw_M → Nat → va_E} {o : Nat} {r0 : Nat} {K14 : fw_M → Int32 → Int32 → Int32 → Int32 → Int32 → Option (Int32 × fw_M)} {M : fw_M} {x2 : Int32} {x3 : Int32} {x4 : Int32} {x5 : Int32} {x6 : Int32} {x7 : Int32} {z : (Int32 × fw_M)} (C : fw_C p s m args meth c cX2_leastRaiseOf RX2 wsX2_leastRaiseOf 8 (some .int) D vwCl (fw_tys cI cZ cH cR) N ad fw_nw0) (ho : o_Fore EE ad N cI cZ cH cR o) (hr0 : o_Hall EE ad N cI cZ cH cR r0) (hK14 : ∀ (Mk : fw_M) (kx2 : Int32) (kx3 : Int32) (kx4 : Int32) (kx5 : Int32) (kx6 : Int32), K14 Mk kx2 kx3 kx4 kx5 kx6 = some z → fw_J p l e (headSpec wsX2_leastRaiseOf rm_Fore_leastRaiseOf).room s m args below meth c D vwCl N ad EE 8 0 0 (fw_E below args s D vwCl N ad EE (some (.int z.1)) z.2) Mk [(0, .ref (ad o)), (2, .int kx2), (3, .int kx3), (4, .int kx4), (5, .int kx5), (6, .int kx6)] 14 []) (h : P_Fore_leastRaiseOf_b61 o r0 K14 M x2 x3 x4 x5 x6 x7 = some z) : fw_J p l e (headSpec wsX2_leastRaiseOf rm_Fore_leastRaiseOf).room s m args below meth c D vwCl N ad EE 8 0 0 (fw_E below args s D vwCl N ad EE (some (.int z.1)) z.2) M [(0, .ref (ad o)), (2, .int x2), (3, .int x3), (4, .int x4), (5, .int x5), (6, .int x6), (7, .int x7)] 61 [] := by
  unfold P_Fore_leastRaiseOf_b61 at h
  refine fw_aload_n (pc := 61) C 0 dX2_leastRaiseOf_61 rfl rfl ?_
  refine fw_getr (pc := 62) C ho.2.1.1 rfl qX2_leastRaiseOf_12 dX2_leastRaiseOf_62 ?_
  refine fw_getr (pc := 65) C ho.2.1.2.2.2.2.2.2.2.1.1 rfl qX2_leastRaiseOf_111 dX2_leastRaiseOf_65 ?_
  refine fw_iload_n (pc := 68) C 2 dX2_leastRaiseOf_68 rfl rfl ?_
  refine fw_iload (pc := 69) C 5 dX2_leastRaiseOf_69 rfl ?_
  obtain ⟨M1, hM1, h⟩ := fw_bind h
  refine fw_iast (pc := 71) C 0 ho.2.1.2.2.2.2.2.2.2.1.2 rfl hM1 dX2_leastRaiseOf_71 ?_
  refine fw_aload_n (pc := 72) C 0 dX2_leastRaiseOf_72 rfl rfl ?_
  refine fw_aload_n (pc := 73) C 0 dX2_leastRaiseOf_73 rfl rfl ?_
  refine fw_getr (pc := 74) C ho.2.1.1 rfl qX2_leastRaiseOf_12 dX2_leastRaiseOf_74 ?_
  refine fw_aload_n (pc := 77) C 0 dX2_leastRaiseOf_77 rfl rfl ?_
  refine fw_getr (pc := 78) C ho.2.1.1 rfl qX2_leastRaiseOf_12 dX2_leastRaiseOf_78 ?_
  refine fw_iload_n (pc := 81) C 1 dX2_leastRaiseOf_81 rfl rfl ?_
  obtain ⟨v2, hv2, h⟩ := fw_bind h
  refine fw_callV1 (pc := 82) C (rest := [_, _]) (c_Hall_waitingAt ho.2.1.2 hv2) (cwV 1 C.2.2.2.2.1 gX2_leastRaiseOf_X3_waitingAt rfl rfl rfl hd_Hall_waitingAt ⟨Nat.le_of_ble_eq_true rfl, Nat.le_of_ble_eq_true rfl⟩) ho.2.1.2.1 rfl rfl ⟨Nat.zero_le _, Nat.zero_le _⟩ rfl (Nat.le_of_ble_eq_true rfl) dX2_leastRaiseOf_82 ?_
  obtain ⟨q3, hq3, h⟩ := fw_bind h
  refine fw_callV1 (pc := 85) C (rest := []) (c_Fore_lineOf ho ho.2.1.2 hq3) (cwV 2 C.2.2.2.2.1 gX2_leastRaiseOf_X2_lineOf rfl rfl rfl hd_Fore_lineOf ⟨Nat.le_of_ble_eq_true rfl, Nat.le_of_ble_eq_true rfl⟩) ho.1 rfl rfl ⟨Nat.zero_le _, Nat.zero_le _⟩ rfl (Nat.le_of_ble_eq_true rfl) dX2_leastRaiseOf_85 ?_
  refine fw_geti (pc := 88) C ho.2.2.2.2.2.2.2.2 rfl qX2_leastRaiseOf_69 dX2_leastRaiseOf_88 ?_
  refine fw_if_ne (pc := 91) C (tgt := 98) dX2_leastRaiseOf_91 (by decide) (fun c4 => ?_) (fun c4 => ?_)
  · have h := fw_iff h c4
    exact fw_sub [0, 1, 2, 3, 4, 5] rfl (c_Fore_leastRaiseOf_b98 C ho hr0 hK14 h)
  · have h := fw_ift h c4
    refine fw_iload (pc := 94) C 6 dX2_leastRaiseOf_94 rfl ?_
    refine fw_istore (pc := 96) C (L2 := [(0, .ref _), (2, .int _), (3, .int _), (4, .int _), (5, .int _), (6, .int _), (7, .int _)]) [1, 2, 3, 4, 0, 5, 6] dX2_leastRaiseOf_96 (by decide) rfl ?_
    exact fw_sub [0, 1, 2, 3, 4, 5] rfl (c_Fore_leastRaiseOf_b98 C ho hr0 hK14 h)
set_option maxRecDepth 100000 in
theorem c_Fore_leastRaiseOf_b14 {p : Program} {l : Launch} {e : Env} {s : State} {m : MethodId} {args : Array Value} {below : List Frame} {meth : Method} {c : Code} {D : va_G} {cI cZ cH cR : ClassId} {N : Nat} {ad : Nat → Nat} {EE : fw_M → Nat → va_E} {o : Nat} {r0 : Nat} {K14 : fw_M → Int32 → Int32 → Int32 → Int32 → Int32 → Option (Int32 × fw_M)} {M : fw_M} {x2 : Int32} {x3 : Int32} {x4 : Int32} {x5 : Int32} {x6 : Int32} {z : (Int32 × fw_M)} (C : fw_C p s m args meth c cX2_leastRaiseOf RX2 wsX2_leastRaiseOf 8 (some .int) D vwCl (fw_tys cI cZ cH cR) N ad fw_nw0) (ho : o_Fore EE ad N cI cZ cH cR o) (hr0 : o_Hall EE ad N cI cZ cH cR r0) (hK14 : ∀ (Mk : fw_M) (kx2 : Int32) (kx3 : Int32) (kx4 : Int32) (kx5 : Int32) (kx6 : Int32), K14 Mk kx2 kx3 kx4 kx5 kx6 = some z → fw_J p l e (headSpec wsX2_leastRaiseOf rm_Fore_leastRaiseOf).room s m args below meth c D vwCl N ad EE 8 0 0 (fw_E below args s D vwCl N ad EE (some (.int z.1)) z.2) Mk [(0, .ref (ad o)), (2, .int kx2), (3, .int kx3), (4, .int kx4), (5, .int kx5), (6, .int kx6)] 14 []) (h : P_Fore_leastRaiseOf_b14 o r0 K14 M x2 x3 x4 x5 x6 = some z) : fw_J p l e (headSpec wsX2_leastRaiseOf rm_Fore_leastRaiseOf).room s m args below meth c D vwCl N ad EE 8 0 0 (fw_E below args s D vwCl N ad EE (some (.int z.1)) z.2) M [(0, .ref (ad o)), (2, .int x2), (3, .int x3), (4, .int x4), (5, .int x5), (6, .int x6)] 14 [] := by
  unfold P_Fore_leastRaiseOf_b14 at h
  refine fw_iload (pc := 14) C 5 dX2_leastRaiseOf_14 rfl ?_
  refine fw_bipush (pc := 16) C (v := 9) dX2_leastRaiseOf_16 fk_bipush_9 ?_
  refine fw_icmp_gt (pc := 18) C (tgt := 104) dX2_leastRaiseOf_18 (by decide) (fun c1 => ?_) (fun c1 => ?_)
  · have h := fw_ift h c1
    refine fw_aload_n (pc := 104) C 0 dX2_leastRaiseOf_104 rfl rfl ?_
    refine fw_getr (pc := 105) C ho.2.1.1 rfl qX2_leastRaiseOf_12 dX2_leastRaiseOf_105 ?_
    refine fw_getr (pc := 108) C ho.2.1.2.2.2.2.2.2.2.1.1 rfl qX2_leastRaiseOf_111 dX2_leastRaiseOf_108 ?_
    refine fw_iload_n (pc := 111) C 2 dX2_leastRaiseOf_111 rfl rfl ?_
    refine fw_iload (pc := 112) C 3 dX2_leastRaiseOf_112 rfl ?_
    obtain ⟨M2, hM2, h⟩ := fw_bind h
    refine fw_iast (pc := 114) C 0 ho.2.1.2.2.2.2.2.2.2.1.2 rfl hM2 dX2_leastRaiseOf_114 ?_
    refine fw_iload (pc := 115) C 4 dX2_leastRaiseOf_115 rfl ?_
    exact fw_iret (pc := 117) C (fw_p1 h) (fw_p2 h) dX2_leastRaiseOf_117
  · have h := fw_iff h c1
    refine fw_bipush (pc := 21) C (v := 100) dX2_leastRaiseOf_21 fk_bipush_100 ?_
    refine fw_iload (pc := 23) C 5 dX2_leastRaiseOf_23 rfl ?_
    refine fw_iload (pc := 25) C 3 dX2_leastRaiseOf_25 rfl ?_
    refine fw_isub (pc := 27) C dX2_leastRaiseOf_27 ?_
    refine fw_mabs (pc := 28) C kmX2_leastRaiseOf_114 ⟨Nat.zero_le _, Nat.zero_le _⟩ (Nat.le_of_ble_eq_true rfl) (Nat.le_of_ble_eq_true rfl) dX2_leastRaiseOf_28 ?_
    refine fw_imul (pc := 31) C dX2_leastRaiseOf_31 ?_
    refine fw_bipush (pc := 32) C (v := 10) dX2_leastRaiseOf_32 fk_bipush_10 ?_
    refine fw_iload_n (pc := 34) C 2 dX2_leastRaiseOf_34 rfl rfl ?_
    refine fw_imul (pc := 35) C dX2_leastRaiseOf_35 ?_
    refine fw_iadd (pc := 36) C dX2_leastRaiseOf_36 ?_
    refine fw_iload (pc := 37) C 5 dX2_leastRaiseOf_37 rfl ?_
    refine fw_iadd (pc := 39) C dX2_leastRaiseOf_39 ?_
    have h := fw_plh h
    refine fw_istore (pc := 40) C (L2 := [(0, .ref _), (2, .int _), (3, .int _), (4, .int _), (5, .int _), (6, .int _), (7, .int _)]) [1, 2, 3, 4, 5, 6, 0] dX2_leastRaiseOf_40 (by decide) rfl ?_
    refine fw_iload (pc := 42) C 5 dX2_leastRaiseOf_42 rfl ?_
    refine fw_iload (pc := 44) C 3 dX2_leastRaiseOf_44 rfl ?_
    refine fw_icmp_eq (pc := 46) C (tgt := 98) dX2_leastRaiseOf_46 (by decide) (fun c4 => ?_) (fun c4 => ?_)
    · have h := fw_ift h c4
      exact fw_sub [0, 1, 2, 3, 4, 5] rfl (c_Fore_leastRaiseOf_b98 C ho hr0 hK14 h)
    · have h := fw_iff h c4
      refine fw_iload (pc := 49) C 4 dX2_leastRaiseOf_49 rfl ?_
      refine fw_if_lt (pc := 51) C (tgt := 61) dX2_leastRaiseOf_51 (by decide) (fun c5 => ?_) (fun c5 => ?_)
      · have h := fw_ift h c5
        exact (c_Fore_leastRaiseOf_b61 C ho hr0 hK14 h)
      · have h := fw_iff h c5
        refine fw_iload (pc := 54) C 6 dX2_leastRaiseOf_54 rfl ?_
        refine fw_iload (pc := 56) C 4 dX2_leastRaiseOf_56 rfl ?_
        refine fw_icmp_ge (pc := 58) C (tgt := 98) dX2_leastRaiseOf_58 (by decide) (fun c6 => ?_) (fun c6 => ?_)
        · have h := fw_ift h c6
          exact fw_sub [0, 1, 2, 3, 4, 5] rfl (c_Fore_leastRaiseOf_b98 C ho hr0 hK14 h)
        · have h := fw_iff h c6
          exact (c_Fore_leastRaiseOf_b61 C ho hr0 hK14 h)
theorem c_Fore_leastRaiseOf_h14 {p : Program} {l : Launch} {e : Env} {s : State} {m : MethodId} {args : Array Value} {below : List Frame} {meth : Method} {c : Code} {D : va_G} {cI cZ cH cR : ClassId} {N : Nat} {ad : Nat → Nat} {EE : fw_M → Nat → va_E} {o : Nat} {r0 : Nat} {z : (Int32 × fw_M)} (C : fw_C p s m args meth c cX2_leastRaiseOf RX2 wsX2_leastRaiseOf 8 (some .int) D vwCl (fw_tys cI cZ cH cR) N ad fw_nw0) (ho : o_Fore EE ad N cI cZ cH cR o) (hr0 : o_Hall EE ad N cI cZ cH cR r0) : ∀ (n : Nat) (M : fw_M) (x2 : Int32) (x3 : Int32) (x4 : Int32) (x5 : Int32) (x6 : Int32), P_Fore_leastRaiseOf_h14 o r0 n M x2 x3 x4 x5 x6 = some z → fw_J p l e (headSpec wsX2_leastRaiseOf rm_Fore_leastRaiseOf).room s m args below meth c D vwCl N ad EE 8 0 0 (fw_E below args s D vwCl N ad EE (some (.int z.1)) z.2) M [(0, .ref (ad o)), (2, .int x2), (3, .int x3), (4, .int x4), (5, .int x5), (6, .int x6)] 14 [] := by
  intro n
  induction n with
  | zero => intro M x2 x3 x4 x5 x6  h; cases h
  | succ n ih => intro M x2 x3 x4 x5 x6  h; exact c_Fore_leastRaiseOf_b14 C ho hr0 ih  h
set_option maxRecDepth 100000 in
theorem c_Fore_leastRaiseOf_b0 {p : Program} {l : Launch} {e : Env} {s : State} {m : MethodId} {args : Array Value} {below : List Frame} {meth : Method} {c : Code} {D : va_G} {cI cZ cH cR : ClassId} {N : Nat} {ad : Nat → Nat} {EE : fw_M → Nat → va_E} {o : Nat} {r0 : Nat} {M : fw_M} {x2 : Int32} {x3 : Int32} {z : (Int32 × fw_M)} (C : fw_C p s m args meth c cX2_leastRaiseOf RX2 wsX2_leastRaiseOf 8 (some .int) D vwCl (fw_tys cI cZ cH cR) N ad fw_nw0) (ho : o_Fore EE ad N cI cZ cH cR o) (hr0 : o_Hall EE ad N cI cZ cH cR r0) (h : P_Fore_leastRaiseOf_b0 o r0 M x2 x3 = some z) : fw_J p l e (headSpec wsX2_leastRaiseOf rm_Fore_leastRaiseOf).room s m args below meth c D vwCl N ad EE 8 0 0 (fw_E below args s D vwCl N ad EE (some (.int z.1)) z.2) M [(0, .ref (ad o)), (1, .ref (ad r0)), (2, .int x2), (3, .int x3)] 0 [] := by
  unfold P_Fore_leastRaiseOf_b0 at h
  refine fw_aload_n (pc := 0) C 1 dX2_leastRaiseOf_0 rfl rfl ?_
  refine fw_getr (pc := 1) C hr0.2.2.2.2.2.2.1.1 rfl qX2_leastRaiseOf_111 dX2_leastRaiseOf_1 ?_
  refine fw_iload_n (pc := 4) C 3 dX2_leastRaiseOf_4 rfl rfl ?_
  obtain ⟨v1, hv1, h⟩ := fw_bind h
  refine fw_iald (pc := 5) C 0 hr0.2.2.2.2.2.2.1.2 rfl hv1 dX2_leastRaiseOf_5 ?_
  refine fw_istore (pc := 6) C (L2 := [(0, .ref _), (1, .ref _), (2, .int _), (3, .int _), (4, .int _)]) [1, 2, 3, 4, 0] dX2_leastRaiseOf_6 (by decide) rfl ?_
  refine fw_iconst (pc := 8) C (v := -1) dX2_leastRaiseOf_8 fk_iconst_m1 ?_
  refine fw_istore (pc := 9) C (L2 := [(0, .ref _), (1, .ref _), (2, .int _), (3, .int _), (4, .int _), (5, .int _)]) [1, 2, 3, 4, 5, 0] dX2_leastRaiseOf_9 (by decide) rfl ?_
  refine fw_iconst (pc := 11) C (v := 0) dX2_leastRaiseOf_11 fk_iconst_0 ?_
  refine fw_istore (pc := 12) C (L2 := [(0, .ref _), (1, .ref _), (2, .int _), (3, .int _), (4, .int _), (5, .int _), (6, .int _)]) [1, 2, 3, 4, 5, 6, 0] dX2_leastRaiseOf_12 (by decide) rfl ?_
  exact fw_sub [0, 2, 3, 4, 5, 6] rfl (c_Fore_leastRaiseOf_h14 C ho hr0 _ _ _ _ _ _ _ h)
theorem c_Fore_leastRaiseOf {l : Launch} {D : va_G} {cI cZ cH cR : ClassId} {N : Nat} {ad : Nat → Nat} {EE : fw_M → Nat → va_E} {o : Nat} {r0 : Nat} {M : fw_M} {a1 : Int32} {a2 : Int32} {z : (Int32 × fw_M)} (ho : o_Fore EE ad N cI cZ cH cR o) (hr0 : o_Hall EE ad N cI cZ cH cR r0) (h : P_Fore_leastRaiseOf o r0 M a1 a2 = some z) : fw_Met l yX2_leastRaiseOf wsX2_leastRaiseOf rm_Fore_leastRaiseOf D vwCl (fw_tys cI cZ cH cR) N ad fw_nw0 EE [.ref (ad o), .ref (ad r0), .int a1, .int a2] M (some (.int z.1)) z.2 := by
  unfold P_Fore_leastRaiseOf at h
  exact fw_intro (cc := cX2_leastRaiseOf) (maxL := 8) (ret := some .int) (own := RX2) (by decide) rfl rfl (Nat.le_of_ble_eq_true rfl) (fun p e s m args below meth c C => fw_sub [0, 1, 2, 3] rfl (c_Fore_leastRaiseOf_b0 C ho hr0 h))
abbrev rm_Fore_leastRaise : Room := { frames := 5, cells := 0, slots := 0, locals := 119 }
theorem hd_Fore_leastRaise : yX2_leastRaise.cls = RX2 ∧ yX2_leastRaise.cls ≠ "java/lang/invoke/MethodHandle" ∧ yX2_leastRaise.cls ≠ "java/lang/invoke/VarHandle" ∧ (parseMethodDescriptor yX2_leastRaise.desc).map (fun d => d.parameters.length) = some 2 := by decide +kernel
theorem qX2_leastRaise_69 : fw_G wsX2_leastRaise RX2 69 RX5 TX5 4 3 := ⟨by decide +kernel, by decide +kernel, by decide⟩
theorem qX2_leastRaise_12 : fw_G wsX2_leastRaise RX2 12 RX2 TX2 3 0 := ⟨by decide +kernel, by decide +kernel, by decide⟩
theorem qX2_leastRaise_77 : fw_G wsX2_leastRaise RX2 77 RX3 TX3 9 2 := ⟨by decide +kernel, by decide +kernel, by decide⟩
theorem qX2_leastRaise_51 : fw_G wsX2_leastRaise RX2 51 RX3 TX3 9 7 := ⟨by decide +kernel, by decide +kernel, by decide⟩
def P_Fore_leastRaise_b75 (o : Nat) (r0 : Nat) (K27 : fw_M → Int32 → Int32 → Int32 → Option (Int32 × fw_M)) (M : fw_M) (x2 : Int32) (x3 : Int32) (x4 : Int32) : Option (Int32 × fw_M) := K27 M x2 x3 (x4 + (1 : Int32))
def P_Fore_leastRaise_b72 (o : Nat) (r0 : Nat) (K27 : fw_M → Int32 → Int32 → Int32 → Option (Int32 × fw_M)) (M : fw_M) (x2 : Int32) (x4 : Int32) (x5 : Int32) : Option (Int32 × fw_M) := P_Fore_leastRaise_b75 o r0 K27 M x2 x5 x4
def P_Fore_leastRaise_b27 (o : Nat) (r0 : Nat) (K27 : fw_M → Int32 → Int32 → Int32 → Option (Int32 × fw_M)) (M : fw_M) (x2 : Int32) (x3 : Int32) (x4 : Int32) : Option (Int32 × fw_M) := (if (M r0 2) ≤ x4 then some (x3, M) else (fw_ald M (r0 + 4) 7 x4).bind fun v2 => (if v2 = x2 then (P_Fore_leastRaiseOf o r0 M x2 x4).bind fun q4 => (if q4.1 < (0 : Int32) then P_Fore_leastRaise_b75 o r0 K27 q4.2 x2 x3 x4 else (if x3 < (0 : Int32) then P_Fore_leastRaise_b72 o r0 K27 q4.2 x2 x4 q4.1 else (if x3 ≤ q4.1 then P_Fore_leastRaise_b75 o r0 K27 q4.2 x2 x3 x4 else P_Fore_leastRaise_b72 o r0 K27 q4.2 x2 x4 q4.1))) else P_Fore_leastRaise_b75 o r0 K27 M x2 x3 x4))
def P_Fore_leastRaise_h27 (o : Nat) (r0 : Nat) : Nat → fw_M → Int32 → Int32 → Int32 → Option (Int32 × fw_M)
  | 0, _, _, _, _ => none
  | n + 1, M, x2, x3, x4 => P_Fore_leastRaise_b27 o r0 (P_Fore_leastRaise_h27 o r0 n) M x2 x3 x4
def P_Fore_leastRaise_b0 (o : Nat) (r0 : Nat) (M : fw_M) (x2 : Int32) : Option (Int32 × fw_M) := (P_Fore_lineAt o r0 M x2).bind fun q1 => (if (q1 (o + 9) 3) = (0 : Int32) then some ((0 : Int32), q1) else (P_Hall_become (o + 1) r0 q1).bind fun q3 => P_Fore_leastRaise_h27 o r0 fw_fu q3 x2 (-1 : Int32) (0 : Int32))
def P_Fore_leastRaise (o : Nat) (r0 : Nat) (M : fw_M) (a1 : Int32) : Option (Int32 × fw_M) := P_Fore_leastRaise_b0 o r0 M a1
set_option maxRecDepth 100000 in
theorem c_Fore_leastRaise_b75 {p : Program} {l : Launch} {e : Env} {s : State} {m : MethodId} {args : Array Value} {below : List Frame} {meth : Method} {c : Code} {D : va_G} {cI cZ cH cR : ClassId} {N : Nat} {ad : Nat → Nat} {EE : fw_M → Nat → va_E} {o : Nat} {r0 : Nat} {K27 : fw_M → Int32 → Int32 → Int32 → Option (Int32 × fw_M)} {M : fw_M} {x2 : Int32} {x3 : Int32} {x4 : Int32} {z : (Int32 × fw_M)} (C : fw_C p s m args meth c cX2_leastRaise RX2 wsX2_leastRaise 6 (some .int) D vwCl (fw_tys cI cZ cH cR) N ad fw_nw0) (ho : o_Fore EE ad N cI cZ cH cR o) (hr0 : o_Hall EE ad N cI cZ cH cR r0) (hK27 : ∀ (Mk : fw_M) (kx2 : Int32) (kx3 : Int32) (kx4 : Int32), K27 Mk kx2 kx3 kx4 = some z → fw_J p l e (headSpec wsX2_leastRaise rm_Fore_leastRaise).room s m args below meth c D vwCl N ad EE 6 0 0 (fw_E below args s D vwCl N ad EE (some (.int z.1)) z.2) Mk [(0, .ref (ad o)), (1, .ref (ad r0)), (2, .int kx2), (3, .int kx3), (4, .int kx4)] 27 []) (h : P_Fore_leastRaise_b75 o r0 K27 M x2 x3 x4 = some z) : fw_J p l e (headSpec wsX2_leastRaise rm_Fore_leastRaise).room s m args below meth c D vwCl N ad EE 6 0 0 (fw_E below args s D vwCl N ad EE (some (.int z.1)) z.2) M [(0, .ref (ad o)), (1, .ref (ad r0)), (2, .int x2), (3, .int x3), (4, .int x4)] 75 [] := by
  unfold P_Fore_leastRaise_b75 at h
  refine fw_iinc (pc := 75) C (v := 1) (L2 := [(0, .ref _), (1, .ref _), (2, .int _), (3, .int _), (4, .int _)]) 4 [1, 2, 3, 4, 0] dX2_leastRaise_75 rfl fk_iconst_1 (by decide) rfl ?_
  refine fw_goto (pc := 78) C (tgt := 27) dX2_leastRaise_78 (by decide) ?_
  exact (hK27 _ _ _ _ h)
set_option maxRecDepth 100000 in
theorem c_Fore_leastRaise_b72 {p : Program} {l : Launch} {e : Env} {s : State} {m : MethodId} {args : Array Value} {below : List Frame} {meth : Method} {c : Code} {D : va_G} {cI cZ cH cR : ClassId} {N : Nat} {ad : Nat → Nat} {EE : fw_M → Nat → va_E} {o : Nat} {r0 : Nat} {K27 : fw_M → Int32 → Int32 → Int32 → Option (Int32 × fw_M)} {M : fw_M} {x2 : Int32} {x4 : Int32} {x5 : Int32} {z : (Int32 × fw_M)} (C : fw_C p s m args meth c cX2_leastRaise RX2 wsX2_leastRaise 6 (some .int) D vwCl (fw_tys cI cZ cH cR) N ad fw_nw0) (ho : o_Fore EE ad N cI cZ cH cR o) (hr0 : o_Hall EE ad N cI cZ cH cR r0) (hK27 : ∀ (Mk : fw_M) (kx2 : Int32) (kx3 : Int32) (kx4 : Int32), K27 Mk kx2 kx3 kx4 = some z → fw_J p l e (headSpec wsX2_leastRaise rm_Fore_leastRaise).room s m args below meth c D vwCl N ad EE 6 0 0 (fw_E below args s D vwCl N ad EE (some (.int z.1)) z.2) Mk [(0, .ref (ad o)), (1, .ref (ad r0)), (2, .int kx2), (3, .int kx3), (4, .int kx4)] 27 []) (h : P_Fore_leastRaise_b72 o r0 K27 M x2 x4 x5 = some z) : fw_J p l e (headSpec wsX2_leastRaise rm_Fore_leastRaise).room s m args below meth c D vwCl N ad EE 6 0 0 (fw_E below args s D vwCl N ad EE (some (.int z.1)) z.2) M [(0, .ref (ad o)), (1, .ref (ad r0)), (2, .int x2), (4, .int x4), (5, .int x5)] 72 [] := by
  unfold P_Fore_leastRaise_b72 at h
  refine fw_iload (pc := 72) C 4 dX2_leastRaise_72 rfl ?_
  refine fw_istore_n (pc := 74) C (L2 := [(0, .ref _), (1, .ref _), (2, .int _), (3, .int _), (4, .int _), (5, .int _)]) [1, 2, 3, 0, 4, 5] dX2_leastRaise_74 rfl (by decide) rfl ?_
  exact fw_sub [0, 1, 2, 3, 4] rfl (c_Fore_leastRaise_b75 C ho hr0 hK27 h)
set_option maxRecDepth 100000 in
theorem c_Fore_leastRaise_b27 {p : Program} {l : Launch} {e : Env} {s : State} {m : MethodId} {args : Array Value} {below : List Frame} {meth : Method} {c : Code} {D : va_G} {cI cZ cH cR : ClassId} {N : Nat} {ad : Nat → Nat} {EE : fw_M → Nat → va_E} {o : Nat} {r0 : Nat} {K27 : fw_M → Int32 → Int32 → Int32 → Option (Int32 × fw_M)} {M : fw_M} {x2 : Int32} {x3 : Int32} {x4 : Int32} {z : (Int32 × fw_M)} (C : fw_C p s m args meth c cX2_leastRaise RX2 wsX2_leastRaise 6 (some .int) D vwCl (fw_tys cI cZ cH cR) N ad fw_nw0) (ho : o_Fore EE ad N cI cZ cH cR o) (hr0 : o_Hall EE ad N cI cZ cH cR r0) (hK27 : ∀ (Mk : fw_M) (kx2 : Int32) (kx3 : Int32) (kx4 : Int32), K27 Mk kx2 kx3 kx4 = some z → fw_J p l e (headSpec wsX2_leastRaise rm_Fore_leastRaise).room s m args below meth c D vwCl N ad EE 6 0 0 (fw_E below args s D vwCl N ad EE (some (.int z.1)) z.2) Mk [(0, .ref (ad o)), (1, .ref (ad r0)), (2, .int kx2), (3, .int kx3), (4, .int kx4)] 27 []) (h : P_Fore_leastRaise_b27 o r0 K27 M x2 x3 x4 = some z) : fw_J p l e (headSpec wsX2_leastRaise rm_Fore_leastRaise).room s m args below meth c D vwCl N ad EE 6 0 0 (fw_E below args s D vwCl N ad EE (some (.int z.1)) z.2) M [(0, .ref (ad o)), (1, .ref (ad r0)), (2, .int x2), (3, .int x3), (4, .int x4)] 27 [] := by
  unfold P_Fore_leastRaise_b27 at h
  refine fw_iload (pc := 27) C 4 dX2_leastRaise_27 rfl ?_
  refine fw_aload_n (pc := 29) C 1 dX2_leastRaise_29 rfl rfl ?_
  refine fw_geti (pc := 30) C hr0.2.2.2.1 rfl qX2_leastRaise_77 dX2_leastRaise_30 ?_
  refine fw_icmp_ge (pc := 33) C (tgt := 81) dX2_leastRaise_33 (by decide) (fun c1 => ?_) (fun c1 => ?_)
  · have h := fw_ift h c1
    refine fw_iload_n (pc := 81) C 3 dX2_leastRaise_81 rfl rfl ?_
    exact fw_iret (pc := 82) C (fw_p1 h) (fw_p2 h) dX2_leastRaise_82
  · have h := fw_iff h c1
    refine fw_aload_n (pc := 36) C 1 dX2_leastRaise_36 rfl rfl ?_
    refine fw_getr (pc := 37) C hr0.2.2.2.2.2.2.2.2.1.1 rfl qX2_leastRaise_51 dX2_leastRaise_37 ?_
    refine fw_iload (pc := 40) C 4 dX2_leastRaise_40 rfl ?_
    obtain ⟨v2, hv2, h⟩ := fw_bind h
    refine fw_iald (pc := 42) C 0 hr0.2.2.2.2.2.2.2.2.1.2 rfl hv2 dX2_leastRaise_42 ?_
    refine fw_iload_n (pc := 43) C 2 dX2_leastRaise_43 rfl rfl ?_
    refine fw_icmp_ne (pc := 44) C (tgt := 75) dX2_leastRaise_44 (by decide) (fun c3 => ?_) (fun c3 => ?_)
    · have h := fw_iff h c3
      exact (c_Fore_leastRaise_b75 C ho hr0 hK27 h)
    · have h := fw_ift h c3
      refine fw_aload_n (pc := 47) C 0 dX2_leastRaise_47 rfl rfl ?_
      refine fw_aload_n (pc := 48) C 1 dX2_leastRaise_48 rfl rfl ?_
      refine fw_iload_n (pc := 49) C 2 dX2_leastRaise_49 rfl rfl ?_
      refine fw_iload (pc := 50) C 4 dX2_leastRaise_50 rfl ?_
      obtain ⟨q4, hq4, h⟩ := fw_bind h
      refine fw_callV1 (pc := 52) C (rest := []) (c_Fore_leastRaiseOf ho hr0 hq4) (cwV 3 C.2.2.2.2.1 gX2_leastRaise_X2_leastRaiseOf rfl rfl rfl hd_Fore_leastRaiseOf ⟨Nat.le_of_ble_eq_true rfl, Nat.le_of_ble_eq_true rfl⟩) ho.1 rfl rfl ⟨Nat.zero_le _, Nat.zero_le _⟩ rfl (Nat.le_of_ble_eq_true rfl) dX2_leastRaise_52 ?_
      refine fw_istore (pc := 55) C (L2 := [(0, .ref _), (1, .ref _), (2, .int _), (3, .int _), (4, .int _), (5, .int _)]) [1, 2, 3, 4, 5, 0] dX2_leastRaise_55 (by decide) rfl ?_
      refine fw_iload (pc := 57) C 5 dX2_leastRaise_57 rfl ?_
      refine fw_if_lt (pc := 59) C (tgt := 75) dX2_leastRaise_59 (by decide) (fun c5 => ?_) (fun c5 => ?_)
      · have h := fw_ift h c5
        exact fw_sub [0, 1, 2, 3, 4] rfl (c_Fore_leastRaise_b75 C ho hr0 hK27 h)
      · have h := fw_iff h c5
        refine fw_iload_n (pc := 62) C 3 dX2_leastRaise_62 rfl rfl ?_
        refine fw_if_lt (pc := 63) C (tgt := 72) dX2_leastRaise_63 (by decide) (fun c6 => ?_) (fun c6 => ?_)
        · have h := fw_ift h c6
          exact fw_sub [0, 1, 2, 4, 5] rfl (c_Fore_leastRaise_b72 C ho hr0 hK27 h)
        · have h := fw_iff h c6
          refine fw_iload (pc := 66) C 5 dX2_leastRaise_66 rfl ?_
          refine fw_iload_n (pc := 68) C 3 dX2_leastRaise_68 rfl rfl ?_
          refine fw_icmp_ge (pc := 69) C (tgt := 75) dX2_leastRaise_69 (by decide) (fun c7 => ?_) (fun c7 => ?_)
          · have h := fw_ift h c7
            exact fw_sub [0, 1, 2, 3, 4] rfl (c_Fore_leastRaise_b75 C ho hr0 hK27 h)
          · have h := fw_iff h c7
            exact fw_sub [0, 1, 2, 4, 5] rfl (c_Fore_leastRaise_b72 C ho hr0 hK27 h)
theorem c_Fore_leastRaise_h27 {p : Program} {l : Launch} {e : Env} {s : State} {m : MethodId} {args : Array Value} {below : List Frame} {meth : Method} {c : Code} {D : va_G} {cI cZ cH cR : ClassId} {N : Nat} {ad : Nat → Nat} {EE : fw_M → Nat → va_E} {o : Nat} {r0 : Nat} {z : (Int32 × fw_M)} (C : fw_C p s m args meth c cX2_leastRaise RX2 wsX2_leastRaise 6 (some .int) D vwCl (fw_tys cI cZ cH cR) N ad fw_nw0) (ho : o_Fore EE ad N cI cZ cH cR o) (hr0 : o_Hall EE ad N cI cZ cH cR r0) : ∀ (n : Nat) (M : fw_M) (x2 : Int32) (x3 : Int32) (x4 : Int32), P_Fore_leastRaise_h27 o r0 n M x2 x3 x4 = some z → fw_J p l e (headSpec wsX2_leastRaise rm_Fore_leastRaise).room s m args below meth c D vwCl N ad EE 6 0 0 (fw_E below args s D vwCl N ad EE (some (.int z.1)) z.2) M [(0, .ref (ad o)), (1, .ref (ad r0)), (2, .int x2), (3, .int x3), (4, .int x4)] 27 [] := by
  intro n
  induction n with
  | zero => intro M x2 x3 x4  h; cases h
  | succ n ih => intro M x2 x3 x4  h; exact c_Fore_leastRaise_b27 C ho hr0 ih  h
set_option maxRecDepth 100000 in
theorem c_Fore_leastRaise_b0 {p : Program} {l : Launch} {e : Env} {s : State} {m : MethodId} {args : Array Value} {below : List Frame} {meth : Method} {c : Code} {D : va_G} {cI cZ cH cR : ClassId} {N : Nat} {ad : Nat → Nat} {EE : fw_M → Nat → va_E} {o : Nat} {r0 : Nat} {M : fw_M} {x2 : Int32} {z : (Int32 × fw_M)} (C : fw_C p s m args meth c cX2_leastRaise RX2 wsX2_leastRaise 6 (some .int) D vwCl (fw_tys cI cZ cH cR) N ad fw_nw0) (ho : o_Fore EE ad N cI cZ cH cR o) (hr0 : o_Hall EE ad N cI cZ cH cR r0) (h : P_Fore_leastRaise_b0 o r0 M x2 = some z) : fw_J p l e (headSpec wsX2_leastRaise rm_Fore_leastRaise).room s m args below meth c D vwCl N ad EE 6 0 0 (fw_E below args s D vwCl N ad EE (some (.int z.1)) z.2) M [(0, .ref (ad o)), (1, .ref (ad r0)), (2, .int x2)] 0 [] := by
  unfold P_Fore_leastRaise_b0 at h
  refine fw_aload_n (pc := 0) C 0 dX2_leastRaise_0 rfl rfl ?_
  refine fw_aload_n (pc := 1) C 1 dX2_leastRaise_1 rfl rfl ?_
  refine fw_iload_n (pc := 2) C 2 dX2_leastRaise_2 rfl rfl ?_
  obtain ⟨q1, hq1, h⟩ := fw_bind h
  refine fw_callV1 (pc := 3) C (rest := []) (c_Fore_lineAt ho hr0 hq1) (cwV 2 C.2.2.2.2.1 gX2_leastRaise_X2_lineAt rfl rfl rfl hd_Fore_lineAt ⟨Nat.le_of_ble_eq_true rfl, Nat.le_of_ble_eq_true rfl⟩) ho.1 rfl rfl ⟨Nat.zero_le _, Nat.zero_le _⟩ rfl (Nat.le_of_ble_eq_true rfl) dX2_leastRaise_3 ?_
  refine fw_geti (pc := 6) C ho.2.2.2.2.2.2.2.2 rfl qX2_leastRaise_69 dX2_leastRaise_6 ?_
  refine fw_if_ne (pc := 9) C (tgt := 14) dX2_leastRaise_9 (by decide) (fun c2 => ?_) (fun c2 => ?_)
  · have h := fw_iff h c2
    refine fw_iconst (pc := 14) C (v := -1) dX2_leastRaise_14 fk_iconst_m1 ?_
    refine fw_istore_n (pc := 15) C (L2 := [(0, .ref _), (1, .ref _), (2, .int _), (3, .int _)]) [1, 2, 3, 0] dX2_leastRaise_15 rfl (by decide) rfl ?_
    refine fw_aload_n (pc := 16) C 0 dX2_leastRaise_16 rfl rfl ?_
    refine fw_getr (pc := 17) C ho.2.1.1 rfl qX2_leastRaise_12 dX2_leastRaise_17 ?_
    refine fw_aload_n (pc := 20) C 1 dX2_leastRaise_20 rfl rfl ?_
    obtain ⟨q3, hq3, h⟩ := fw_bind h
    refine fw_callV0 (pc := 21) C (rest := []) (c_Hall_become ho.2.1.2 hr0 hq3) (cwV 1 C.2.2.2.2.1 gX2_leastRaise_X3_become rfl rfl rfl hd_Hall_become ⟨Nat.le_of_ble_eq_true rfl, Nat.le_of_ble_eq_true rfl⟩) ho.2.1.2.1 rfl rfl ⟨Nat.zero_le _, Nat.zero_le _⟩ rfl (Nat.le_of_ble_eq_true rfl) dX2_leastRaise_21 ?_
    refine fw_iconst (pc := 24) C (v := 0) dX2_leastRaise_24 fk_iconst_0 ?_
    refine fw_istore (pc := 25) C (L2 := [(0, .ref _), (1, .ref _), (2, .int _), (3, .int _), (4, .int _)]) [1, 2, 3, 4, 0] dX2_leastRaise_25 (by decide) rfl ?_
    exact (c_Fore_leastRaise_h27 C ho hr0 _ _ _ _ _ h)
  · have h := fw_ift h c2
    refine fw_iconst (pc := 12) C (v := 0) dX2_leastRaise_12 fk_iconst_0 ?_
    exact fw_iret (pc := 13) C (fw_p1 h) (fw_p2 h) dX2_leastRaise_13
theorem c_Fore_leastRaise {l : Launch} {D : va_G} {cI cZ cH cR : ClassId} {N : Nat} {ad : Nat → Nat} {EE : fw_M → Nat → va_E} {o : Nat} {r0 : Nat} {M : fw_M} {a1 : Int32} {z : (Int32 × fw_M)} (ho : o_Fore EE ad N cI cZ cH cR o) (hr0 : o_Hall EE ad N cI cZ cH cR r0) (h : P_Fore_leastRaise o r0 M a1 = some z) : fw_Met l yX2_leastRaise wsX2_leastRaise rm_Fore_leastRaise D vwCl (fw_tys cI cZ cH cR) N ad fw_nw0 EE [.ref (ad o), .ref (ad r0), .int a1] M (some (.int z.1)) z.2 := by
  unfold P_Fore_leastRaise at h
  exact fw_intro (cc := cX2_leastRaise) (maxL := 6) (ret := some .int) (own := RX2) (by decide) rfl rfl (Nat.le_of_ble_eq_true rfl) (fun p e s m args below meth c C => fw_sub [0, 1, 2] rfl (c_Fore_leastRaise_b0 C ho hr0 h))
abbrev rm_Fore_isSeen : Room := { frames := 4, cells := 0, slots := 0, locals := 92 }
theorem hd_Fore_isSeen : yX2_isSeen.cls = RX2 ∧ yX2_isSeen.cls ≠ "java/lang/invoke/MethodHandle" ∧ yX2_isSeen.cls ≠ "java/lang/invoke/VarHandle" ∧ (parseMethodDescriptor yX2_isSeen.desc).map (fun d => d.parameters.length) = some 4 := by decide +kernel
theorem qX2_isSeen_12 : fw_G wsX2_isSeen RX2 12 RX2 TX2 3 0 := ⟨by decide +kernel, by decide +kernel, by decide⟩
theorem qX2_isSeen_131 : fw_G wsX2_isSeen RX2 131 RX6 TX6 3 0 := ⟨by decide +kernel, by decide +kernel, by decide⟩
theorem qX2_isSeen_28 : fw_G wsX2_isSeen RX2 28 RX2 TX2 3 2 := ⟨by decide +kernel, by decide +kernel, by decide⟩
def P_Fore_isSeen_b60 (o : Nat) (r1 : Nat) (M : fw_M) : Option (Int32 × fw_M) := some ((0 : Int32), M)
def P_Fore_isSeen_b20 (o : Nat) (r1 : Nat) (K20 : fw_M → Int32 → Int32 → Int32 → Option (Int32 × fw_M)) (M : fw_M) (x3 : Int32) (x4 : Int32) (x5 : Int32) : Option (Int32 × fw_M) := (if x4 ≤ x5 then some ((1 : Int32), M) else (P_Row_holds r1 M (x3 + x5) (1 : Int32)).bind fun v2 => (if v2 = (0 : Int32) then P_Fore_isSeen_b60 o r1 M else (fw_ald M (r1 + 1) 40 (x3 + x5)).bind fun v4 => (P_Line_goingIn (o + 9) M x5).bind fun v5 => (if v4 = v5 then K20 M x3 x4 (x5 + (1 : Int32)) else P_Fore_isSeen_b60 o r1 M)))
def P_Fore_isSeen_h20 (o : Nat) (r1 : Nat) : Nat → fw_M → Int32 → Int32 → Int32 → Option (Int32 × fw_M)
  | 0, _, _, _, _ => none
  | n + 1, M, x3, x4, x5 => P_Fore_isSeen_b20 o r1 (P_Fore_isSeen_h20 o r1 n) M x3 x4 x5
def P_Fore_isSeen_b0 (o : Nat) (r1 : Nat) (M : fw_M) (x1 : Int32) (x3 : Int32) (x4 : Int32) : Option (Int32 × fw_M) := (P_Hall_waitingAt (o + 1) M x1).bind fun v1 => (P_Fore_lineOf o (o + 1) M v1).bind fun q2 => P_Fore_isSeen_h20 o r1 fw_fu q2 x3 x4 (0 : Int32)
def P_Fore_isSeen (o : Nat) (r1 : Nat) (M : fw_M) (a0 : Int32) (a2 : Int32) (a3 : Int32) : Option (Int32 × fw_M) := P_Fore_isSeen_b0 o r1 M a0 a2 a3
set_option maxRecDepth 100000 in
theorem c_Fore_isSeen_b60 {p : Program} {l : Launch} {e : Env} {s : State} {m : MethodId} {args : Array Value} {below : List Frame} {meth : Method} {c : Code} {D : va_G} {cI cZ cH cR : ClassId} {N : Nat} {ad : Nat → Nat} {EE : fw_M → Nat → va_E} {o : Nat} {r1 : Nat} {M : fw_M} {z : (Int32 × fw_M)} (C : fw_C p s m args meth c cX2_isSeen RX2 wsX2_isSeen 6 (some .boolean) D vwCl (fw_tys cI cZ cH cR) N ad fw_nw0) (ho : o_Fore EE ad N cI cZ cH cR o) (hr1 : o_Row EE ad N cI cZ cH cR r1) (h : P_Fore_isSeen_b60 o r1 M = some z) : fw_J p l e (headSpec wsX2_isSeen rm_Fore_isSeen).room s m args below meth c D vwCl N ad EE 6 0 0 (fw_E below args s D vwCl N ad EE (some (.int z.1)) z.2) M [] 60 [] := by
  unfold P_Fore_isSeen_b60 at h
  refine fw_iconst (pc := 60) C (v := 0) dX2_isSeen_60 fk_iconst_0 ?_
  exact fw_zret (pc := 61) C (Or.inl rfl) (fw_p1 h) (fw_p2 h) dX2_isSeen_61
set_option maxRecDepth 100000 in
theorem c_Fore_isSeen_b20 {p : Program} {l : Launch} {e : Env} {s : State} {m : MethodId} {args : Array Value} {below : List Frame} {meth : Method} {c : Code} {D : va_G} {cI cZ cH cR : ClassId} {N : Nat} {ad : Nat → Nat} {EE : fw_M → Nat → va_E} {o : Nat} {r1 : Nat} {K20 : fw_M → Int32 → Int32 → Int32 → Option (Int32 × fw_M)} {M : fw_M} {x3 : Int32} {x4 : Int32} {x5 : Int32} {z : (Int32 × fw_M)} (C : fw_C p s m args meth c cX2_isSeen RX2 wsX2_isSeen 6 (some .boolean) D vwCl (fw_tys cI cZ cH cR) N ad fw_nw0) (ho : o_Fore EE ad N cI cZ cH cR o) (hr1 : o_Row EE ad N cI cZ cH cR r1) (hK20 : ∀ (Mk : fw_M) (kx3 : Int32) (kx4 : Int32) (kx5 : Int32), K20 Mk kx3 kx4 kx5 = some z → fw_J p l e (headSpec wsX2_isSeen rm_Fore_isSeen).room s m args below meth c D vwCl N ad EE 6 0 0 (fw_E below args s D vwCl N ad EE (some (.int z.1)) z.2) Mk [(0, .ref (ad o)), (2, .ref (ad r1)), (3, .int kx3), (4, .int kx4), (5, .int kx5)] 20 []) (h : P_Fore_isSeen_b20 o r1 K20 M x3 x4 x5 = some z) : fw_J p l e (headSpec wsX2_isSeen rm_Fore_isSeen).room s m args below meth c D vwCl N ad EE 6 0 0 (fw_E below args s D vwCl N ad EE (some (.int z.1)) z.2) M [(0, .ref (ad o)), (2, .ref (ad r1)), (3, .int x3), (4, .int x4), (5, .int x5)] 20 [] := by
  unfold P_Fore_isSeen_b20 at h
  refine fw_iload (pc := 20) C 4 dX2_isSeen_20 rfl ?_
  refine fw_iload (pc := 22) C 3 dX2_isSeen_22 rfl ?_
  refine fw_icmp_ge (pc := 24) C (tgt := 68) dX2_isSeen_24 (by decide) (fun c1 => ?_) (fun c1 => ?_)
  · have h := fw_ift h c1
    refine fw_iconst (pc := 68) C (v := 1) dX2_isSeen_68 fk_iconst_1 ?_
    exact fw_zret (pc := 69) C (Or.inr rfl) (fw_p1 h) (fw_p2 h) dX2_isSeen_69
  · have h := fw_iff h c1
    refine fw_aload_n (pc := 27) C 1 dX2_isSeen_27 rfl rfl ?_
    refine fw_iload_n (pc := 28) C 2 dX2_isSeen_28 rfl rfl ?_
    refine fw_iload (pc := 29) C 4 dX2_isSeen_29 rfl ?_
    refine fw_iadd (pc := 31) C dX2_isSeen_31 ?_
    refine fw_iconst (pc := 32) C (v := 1) dX2_isSeen_32 fk_iconst_1 ?_
    obtain ⟨v2, hv2, h⟩ := fw_bind h
    refine fw_callV1 (pc := 33) C (rest := []) (c_Row_holds hr1 hv2) (cwV 2 C.2.2.2.2.1 gX2_isSeen_X6_holds rfl rfl rfl hd_Row_holds ⟨Nat.le_of_ble_eq_true rfl, Nat.le_of_ble_eq_true rfl⟩) hr1.1 rfl rfl ⟨Nat.zero_le _, Nat.zero_le _⟩ rfl (Nat.le_of_ble_eq_true rfl) dX2_isSeen_33 ?_
    refine fw_if_eq (pc := 36) C (tgt := 60) dX2_isSeen_36 (by decide) (fun c3 => ?_) (fun c3 => ?_)
    · have h := fw_ift h c3
      exact fw_sub [] rfl (c_Fore_isSeen_b60 C ho hr1 h)
    · have h := fw_iff h c3
      refine fw_aload_n (pc := 39) C 1 dX2_isSeen_39 rfl rfl ?_
      refine fw_getr (pc := 40) C hr1.2.1.1 rfl qX2_isSeen_131 dX2_isSeen_40 ?_
      refine fw_iload_n (pc := 43) C 2 dX2_isSeen_43 rfl rfl ?_
      refine fw_iload (pc := 44) C 4 dX2_isSeen_44 rfl ?_
      refine fw_iadd (pc := 46) C dX2_isSeen_46 ?_
      obtain ⟨v4, hv4, h⟩ := fw_bind h
      refine fw_iald (pc := 47) C 0 hr1.2.1.2 rfl hv4 dX2_isSeen_47 ?_
      refine fw_aload_n (pc := 48) C 0 dX2_isSeen_48 rfl rfl ?_
      refine fw_getr (pc := 49) C ho.2.2.2.1 rfl qX2_isSeen_28 dX2_isSeen_49 ?_
      refine fw_iload (pc := 52) C 4 dX2_isSeen_52 rfl ?_
      obtain ⟨v5, hv5, h⟩ := fw_bind h
      refine fw_callV1 (pc := 54) C (rest := [_]) (c_Line_goingIn ho.2.2.2.2 hv5) (cwV 1 C.2.2.2.2.1 gX2_isSeen_X5_goingIn rfl rfl rfl hd_Line_goingIn ⟨Nat.le_of_ble_eq_true rfl, Nat.le_of_ble_eq_true rfl⟩) ho.2.2.2.2.1 rfl rfl ⟨Nat.zero_le _, Nat.zero_le _⟩ rfl (Nat.le_of_ble_eq_true rfl) dX2_isSeen_54 ?_
      refine fw_icmp_eq (pc := 57) C (tgt := 62) dX2_isSeen_57 (by decide) (fun c6 => ?_) (fun c6 => ?_)
      · have h := fw_ift h c6
        refine fw_iinc (pc := 62) C (v := 1) (L2 := [(0, .ref _), (2, .ref _), (3, .int _), (4, .int _), (5, .int _)]) 4 [1, 2, 3, 4, 0] dX2_isSeen_62 rfl fk_iconst_1 (by decide) rfl ?_
        refine fw_goto (pc := 65) C (tgt := 20) dX2_isSeen_65 (by decide) ?_
        exact (hK20 _ _ _ _ h)
      · have h := fw_iff h c6
        exact fw_sub [] rfl (c_Fore_isSeen_b60 C ho hr1 h)
theorem c_Fore_isSeen_h20 {p : Program} {l : Launch} {e : Env} {s : State} {m : MethodId} {args : Array Value} {below : List Frame} {meth : Method} {c : Code} {D : va_G} {cI cZ cH cR : ClassId} {N : Nat} {ad : Nat → Nat} {EE : fw_M → Nat → va_E} {o : Nat} {r1 : Nat} {z : (Int32 × fw_M)} (C : fw_C p s m args meth c cX2_isSeen RX2 wsX2_isSeen 6 (some .boolean) D vwCl (fw_tys cI cZ cH cR) N ad fw_nw0) (ho : o_Fore EE ad N cI cZ cH cR o) (hr1 : o_Row EE ad N cI cZ cH cR r1) : ∀ (n : Nat) (M : fw_M) (x3 : Int32) (x4 : Int32) (x5 : Int32), P_Fore_isSeen_h20 o r1 n M x3 x4 x5 = some z → fw_J p l e (headSpec wsX2_isSeen rm_Fore_isSeen).room s m args below meth c D vwCl N ad EE 6 0 0 (fw_E below args s D vwCl N ad EE (some (.int z.1)) z.2) M [(0, .ref (ad o)), (2, .ref (ad r1)), (3, .int x3), (4, .int x4), (5, .int x5)] 20 [] := by
  intro n
  induction n with
  | zero => intro M x3 x4 x5  h; cases h
  | succ n ih => intro M x3 x4 x5  h; exact c_Fore_isSeen_b20 C ho hr1 ih  h
set_option maxRecDepth 100000 in
theorem c_Fore_isSeen_b0 {p : Program} {l : Launch} {e : Env} {s : State} {m : MethodId} {args : Array Value} {below : List Frame} {meth : Method} {c : Code} {D : va_G} {cI cZ cH cR : ClassId} {N : Nat} {ad : Nat → Nat} {EE : fw_M → Nat → va_E} {o : Nat} {r1 : Nat} {M : fw_M} {x1 : Int32} {x3 : Int32} {x4 : Int32} {z : (Int32 × fw_M)} (C : fw_C p s m args meth c cX2_isSeen RX2 wsX2_isSeen 6 (some .boolean) D vwCl (fw_tys cI cZ cH cR) N ad fw_nw0) (ho : o_Fore EE ad N cI cZ cH cR o) (hr1 : o_Row EE ad N cI cZ cH cR r1) (h : P_Fore_isSeen_b0 o r1 M x1 x3 x4 = some z) : fw_J p l e (headSpec wsX2_isSeen rm_Fore_isSeen).room s m args below meth c D vwCl N ad EE 6 0 0 (fw_E below args s D vwCl N ad EE (some (.int z.1)) z.2) M [(0, .ref (ad o)), (1, .int x1), (2, .ref (ad r1)), (3, .int x3), (4, .int x4)] 0 [] := by
  unfold P_Fore_isSeen_b0 at h
  refine fw_aload_n (pc := 0) C 0 dX2_isSeen_0 rfl rfl ?_
  refine fw_aload_n (pc := 1) C 0 dX2_isSeen_1 rfl rfl ?_
  refine fw_getr (pc := 2) C ho.2.1.1 rfl qX2_isSeen_12 dX2_isSeen_2 ?_
  refine fw_aload_n (pc := 5) C 0 dX2_isSeen_5 rfl rfl ?_
  refine fw_getr (pc := 6) C ho.2.1.1 rfl qX2_isSeen_12 dX2_isSeen_6 ?_
  refine fw_iload_n (pc := 9) C 1 dX2_isSeen_9 rfl rfl ?_
  obtain ⟨v1, hv1, h⟩ := fw_bind h
  refine fw_callV1 (pc := 10) C (rest := [_, _]) (c_Hall_waitingAt ho.2.1.2 hv1) (cwV 1 C.2.2.2.2.1 gX2_isSeen_X3_waitingAt rfl rfl rfl hd_Hall_waitingAt ⟨Nat.le_of_ble_eq_true rfl, Nat.le_of_ble_eq_true rfl⟩) ho.2.1.2.1 rfl rfl ⟨Nat.zero_le _, Nat.zero_le _⟩ rfl (Nat.le_of_ble_eq_true rfl) dX2_isSeen_10 ?_
  obtain ⟨q2, hq2, h⟩ := fw_bind h
  refine fw_callV1 (pc := 13) C (rest := []) (c_Fore_lineOf ho ho.2.1.2 hq2) (cwV 2 C.2.2.2.2.1 gX2_isSeen_X2_lineOf rfl rfl rfl hd_Fore_lineOf ⟨Nat.le_of_ble_eq_true rfl, Nat.le_of_ble_eq_true rfl⟩) ho.1 rfl rfl ⟨Nat.zero_le _, Nat.zero_le _⟩ rfl (Nat.le_of_ble_eq_true rfl) dX2_isSeen_13 ?_
  refine fw_pop (pc := 16) C dX2_isSeen_16 rfl ?_
  refine fw_iconst (pc := 17) C (v := 0) dX2_isSeen_17 fk_iconst_0 ?_
  refine fw_istore (pc := 18) C (L2 := [(0, .ref _), (1, .int _), (2, .ref _), (3, .int _), (4, .int _), (5, .int _)]) [1, 2, 3, 4, 5, 0] dX2_isSeen_18 (by decide) rfl ?_
  exact fw_sub [0, 2, 3, 4, 5] rfl (c_Fore_isSeen_h20 C ho hr1 _ _ _ _ _ h)
theorem c_Fore_isSeen {l : Launch} {D : va_G} {cI cZ cH cR : ClassId} {N : Nat} {ad : Nat → Nat} {EE : fw_M → Nat → va_E} {o : Nat} {r1 : Nat} {M : fw_M} {a0 : Int32} {a2 : Int32} {a3 : Int32} {z : (Int32 × fw_M)} (ho : o_Fore EE ad N cI cZ cH cR o) (hr1 : o_Row EE ad N cI cZ cH cR r1) (h : P_Fore_isSeen o r1 M a0 a2 a3 = some z) : fw_Met l yX2_isSeen wsX2_isSeen rm_Fore_isSeen D vwCl (fw_tys cI cZ cH cR) N ad fw_nw0 EE [.ref (ad o), .int a0, .ref (ad r1), .int a2, .int a3] M (some (.int z.1)) z.2 := by
  unfold P_Fore_isSeen at h
  exact fw_intro (cc := cX2_isSeen) (maxL := 6) (ret := some .boolean) (own := RX2) (by decide) rfl rfl (Nat.le_of_ble_eq_true rfl) (fun p e s m args below meth c C => fw_sub [0, 1, 2, 3, 4] rfl (c_Fore_isSeen_b0 C ho hr1 h))
abbrev rm_Fore_ranksSeen : Room := { frames := 5, cells := 0, slots := 0, locals := 117 }
theorem hd_Fore_ranksSeen : yX2_ranksSeen.cls = RX2 ∧ yX2_ranksSeen.cls ≠ "java/lang/invoke/MethodHandle" ∧ yX2_ranksSeen.cls ≠ "java/lang/invoke/VarHandle" ∧ (parseMethodDescriptor yX2_ranksSeen.desc).map (fun d => d.parameters.length) = some 6 := by decide +kernel
theorem qX2_ranksSeen_12 : fw_G wsX2_ranksSeen RX2 12 RX2 TX2 3 0 := ⟨by decide +kernel, by decide +kernel, by decide⟩
theorem qX2_ranksSeen_111 : fw_G wsX2_ranksSeen RX2 111 RX3 TX3 9 5 := ⟨by decide +kernel, by decide +kernel, by decide⟩
def P_Fore_ranksSeen_b55 (o : Nat) (r0 : Nat) (r3 : Nat) (K14 : fw_M → Int32 → Int32 → Int32 → Int32 → Int32 → Int32 → Option (Int32 × fw_M)) (M : fw_M) (x2 : Int32) (x3 : Int32) (x5 : Int32) (x6 : Int32) (x7 : Int32) (x8 : Int32) : Option (Int32 × fw_M) := K14 M x2 x3 x5 x6 x7 (x8 + (1 : Int32))
def P_Fore_ranksSeen_b14 (o : Nat) (r0 : Nat) (r3 : Nat) (K14 : fw_M → Int32 → Int32 → Int32 → Int32 → Int32 → Int32 → Option (Int32 × fw_M)) (M : fw_M) (x2 : Int32) (x3 : Int32) (x5 : Int32) (x6 : Int32) (x7 : Int32) (x8 : Int32) : Option (Int32 × fw_M) := (if (9 : Int32) < x8 then some (x7, M) else (fw_ast M ((o + 1) + 2) 7 x3 x8).bind fun M2 => (P_Fore_isSeen o r3 M2 x2 x5 x6).bind fun q3 => (if q3.1 = (0 : Int32) then P_Fore_ranksSeen_b55 o r0 r3 K14 q3.2 x2 x3 x5 x6 x7 x8 else fw_pl ((x7 ||| ((1 : Int32) <<< (x8 &&& 31)))) fun y5 => P_Fore_ranksSeen_b55 o r0 r3 K14 q3.2 x2 x3 x5 x6 y5 x8))
def P_Fore_ranksSeen_h14 (o : Nat) (r0 : Nat) (r3 : Nat) : Nat → fw_M → Int32 → Int32 → Int32 → Int32 → Int32 → Int32 → Option (Int32 × fw_M)
  | 0, _, _, _, _, _, _, _ => none
  | n + 1, M, x2, x3, x5, x6, x7, x8 => P_Fore_ranksSeen_b14 o r0 r3 (P_Fore_ranksSeen_h14 o r0 r3 n) M x2 x3 x5 x6 x7 x8
def P_Fore_ranksSeen_b0 (o : Nat) (r0 : Nat) (r3 : Nat) (M : fw_M) (x2 : Int32) (x3 : Int32) (x5 : Int32) (x6 : Int32) : Option (Int32 × fw_M) := (P_Hall_become (o + 1) r0 M).bind fun q1 => P_Fore_ranksSeen_h14 o r0 r3 fw_fu q1 x2 x3 x5 x6 (0 : Int32) (0 : Int32)
def P_Fore_ranksSeen (o : Nat) (r0 : Nat) (r3 : Nat) (M : fw_M) (a1 : Int32) (a2 : Int32) (a4 : Int32) (a5 : Int32) : Option (Int32 × fw_M) := P_Fore_ranksSeen_b0 o r0 r3 M a1 a2 a4 a5
set_option maxRecDepth 100000 in
theorem c_Fore_ranksSeen_b55 {p : Program} {l : Launch} {e : Env} {s : State} {m : MethodId} {args : Array Value} {below : List Frame} {meth : Method} {c : Code} {D : va_G} {cI cZ cH cR : ClassId} {N : Nat} {ad : Nat → Nat} {EE : fw_M → Nat → va_E} {o : Nat} {r0 : Nat} {r3 : Nat} {K14 : fw_M → Int32 → Int32 → Int32 → Int32 → Int32 → Int32 → Option (Int32 × fw_M)} {M : fw_M} {x2 : Int32} {x3 : Int32} {x5 : Int32} {x6 : Int32} {x7 : Int32} {x8 : Int32} {z : (Int32 × fw_M)} (C : fw_C p s m args meth c cX2_ranksSeen RX2 wsX2_ranksSeen 9 (some .int) D vwCl (fw_tys cI cZ cH cR) N ad fw_nw0) (ho : o_Fore EE ad N cI cZ cH cR o) (hr0 : o_Hall EE ad N cI cZ cH cR r0) (hr3 : o_Row EE ad N cI cZ cH cR r3) (hK14 : ∀ (Mk : fw_M) (kx2 : Int32) (kx3 : Int32) (kx5 : Int32) (kx6 : Int32) (kx7 : Int32) (kx8 : Int32), K14 Mk kx2 kx3 kx5 kx6 kx7 kx8 = some z → fw_J p l e (headSpec wsX2_ranksSeen rm_Fore_ranksSeen).room s m args below meth c D vwCl N ad EE 9 0 0 (fw_E below args s D vwCl N ad EE (some (.int z.1)) z.2) Mk [(0, .ref (ad o)), (2, .int kx2), (3, .int kx3), (4, .ref (ad r3)), (5, .int kx5), (6, .int kx6), (7, .int kx7), (8, .int kx8)] 14 []) (h : P_Fore_ranksSeen_b55 o r0 r3 K14 M x2 x3 x5 x6 x7 x8 = some z) : fw_J p l e (headSpec wsX2_ranksSeen rm_Fore_ranksSeen).room s m args below meth c D vwCl N ad EE 9 0 0 (fw_E below args s D vwCl N ad EE (some (.int z.1)) z.2) M [(0, .ref (ad o)), (2, .int x2), (3, .int x3), (4, .ref (ad r3)), (5, .int x5), (6, .int x6), (7, .int x7), (8, .int x8)] 55 [] := by
  unfold P_Fore_ranksSeen_b55 at h
  refine fw_iinc (pc := 55) C (v := 1) (L2 := [(0, .ref _), (2, .int _), (3, .int _), (4, .ref _), (5, .int _), (6, .int _), (7, .int _), (8, .int _)]) 7 [1, 2, 3, 4, 5, 6, 7, 0] dX2_ranksSeen_55 rfl fk_iconst_1 (by decide) rfl ?_
  refine fw_goto (pc := 58) C (tgt := 14) dX2_ranksSeen_58 (by decide) ?_
  exact (hK14 _ _ _ _ _ _ _ h)
set_option maxRecDepth 100000 in
theorem c_Fore_ranksSeen_b14 {p : Program} {l : Launch} {e : Env} {s : State} {m : MethodId} {args : Array Value} {below : List Frame} {meth : Method} {c : Code} {D : va_G} {cI cZ cH cR : ClassId} {N : Nat} {ad : Nat → Nat} {EE : fw_M → Nat → va_E} {o : Nat} {r0 : Nat} {r3 : Nat} {K14 : fw_M → Int32 → Int32 → Int32 → Int32 → Int32 → Int32 → Option (Int32 × fw_M)} {M : fw_M} {x2 : Int32} {x3 : Int32} {x5 : Int32} {x6 : Int32} {x7 : Int32} {x8 : Int32} {z : (Int32 × fw_M)} (C : fw_C p s m args meth c cX2_ranksSeen RX2 wsX2_ranksSeen 9 (some .int) D vwCl (fw_tys cI cZ cH cR) N ad fw_nw0) (ho : o_Fore EE ad N cI cZ cH cR o) (hr0 : o_Hall EE ad N cI cZ cH cR r0) (hr3 : o_Row EE ad N cI cZ cH cR r3) (hK14 : ∀ (Mk : fw_M) (kx2 : Int32) (kx3 : Int32) (kx5 : Int32) (kx6 : Int32) (kx7 : Int32) (kx8 : Int32), K14 Mk kx2 kx3 kx5 kx6 kx7 kx8 = some z → fw_J p l e (headSpec wsX2_ranksSeen rm_Fore_ranksSeen).room s m args below meth c D vwCl N ad EE 9 0 0 (fw_E below args s D vwCl N ad EE (some (.int z.1)) z.2) Mk [(0, .ref (ad o)), (2, .int kx2), (3, .int kx3), (4, .ref (ad r3)), (5, .int kx5), (6, .int kx6), (7, .int kx7), (8, .int kx8)] 14 []) (h : P_Fore_ranksSeen_b14 o r0 r3 K14 M x2 x3 x5 x6 x7 x8 = some z) : fw_J p l e (headSpec wsX2_ranksSeen rm_Fore_ranksSeen).room s m args below meth c D vwCl N ad EE 9 0 0 (fw_E below args s D vwCl N ad EE (some (.int z.1)) z.2) M [(0, .ref (ad o)), (2, .int x2), (3, .int x3), (4, .ref (ad r3)), (5, .int x5), (6, .int x6), (7, .int x7), (8, .int x8)] 14 [] := by
  unfold P_Fore_ranksSeen_b14 at h
  refine fw_iload (pc := 14) C 7 dX2_ranksSeen_14 rfl ?_
  refine fw_bipush (pc := 16) C (v := 9) dX2_ranksSeen_16 fk_bipush_9 ?_
  refine fw_icmp_gt (pc := 18) C (tgt := 61) dX2_ranksSeen_18 (by decide) (fun c1 => ?_) (fun c1 => ?_)
  · have h := fw_ift h c1
    refine fw_iload (pc := 61) C 6 dX2_ranksSeen_61 rfl ?_
    exact fw_iret (pc := 63) C (fw_p1 h) (fw_p2 h) dX2_ranksSeen_63
  · have h := fw_iff h c1
    refine fw_aload_n (pc := 21) C 0 dX2_ranksSeen_21 rfl rfl ?_
    refine fw_getr (pc := 22) C ho.2.1.1 rfl qX2_ranksSeen_12 dX2_ranksSeen_22 ?_
    refine fw_getr (pc := 25) C ho.2.1.2.2.2.2.2.2.2.1.1 rfl qX2_ranksSeen_111 dX2_ranksSeen_25 ?_
    refine fw_iload_n (pc := 28) C 2 dX2_ranksSeen_28 rfl rfl ?_
    refine fw_iload (pc := 29) C 7 dX2_ranksSeen_29 rfl ?_
    obtain ⟨M2, hM2, h⟩ := fw_bind h
    refine fw_iast (pc := 31) C 0 ho.2.1.2.2.2.2.2.2.2.1.2 rfl hM2 dX2_ranksSeen_31 ?_
    refine fw_aload_n (pc := 32) C 0 dX2_ranksSeen_32 rfl rfl ?_
    refine fw_iload_n (pc := 33) C 1 dX2_ranksSeen_33 rfl rfl ?_
    refine fw_aload (pc := 34) C 3 dX2_ranksSeen_34 rfl ?_
    refine fw_iload (pc := 36) C 4 dX2_ranksSeen_36 rfl ?_
    refine fw_iload (pc := 38) C 5 dX2_ranksSeen_38 rfl ?_
    obtain ⟨q3, hq3, h⟩ := fw_bind h
    refine fw_callV1 (pc := 40) C (rest := []) (c_Fore_isSeen ho hr3 hq3) (cwV 4 C.2.2.2.2.1 gX2_ranksSeen_X2_isSeen rfl rfl rfl hd_Fore_isSeen ⟨Nat.le_of_ble_eq_true rfl, Nat.le_of_ble_eq_true rfl⟩) ho.1 rfl rfl ⟨Nat.zero_le _, Nat.zero_le _⟩ rfl (Nat.le_of_ble_eq_true rfl) dX2_ranksSeen_40 ?_
    refine fw_if_eq (pc := 43) C (tgt := 55) dX2_ranksSeen_43 (by decide) (fun c4 => ?_) (fun c4 => ?_)
    · have h := fw_ift h c4
      exact (c_Fore_ranksSeen_b55 C ho hr0 hr3 hK14 h)
    · have h := fw_iff h c4
      refine fw_iload (pc := 46) C 6 dX2_ranksSeen_46 rfl ?_
      refine fw_iconst (pc := 48) C (v := 1) dX2_ranksSeen_48 fk_iconst_1 ?_
      refine fw_iload (pc := 49) C 7 dX2_ranksSeen_49 rfl ?_
      refine fw_ishl (pc := 51) C dX2_ranksSeen_51 ?_
      refine fw_ior (pc := 52) C dX2_ranksSeen_52 ?_
      have h := fw_plh h
      refine fw_istore (pc := 53) C (L2 := [(0, .ref _), (2, .int _), (3, .int _), (4, .ref _), (5, .int _), (6, .int _), (7, .int _), (8, .int _)]) [1, 2, 3, 4, 5, 6, 0, 7] dX2_ranksSeen_53 (by decide) rfl ?_
      exact (c_Fore_ranksSeen_b55 C ho hr0 hr3 hK14 h)
theorem c_Fore_ranksSeen_h14 {p : Program} {l : Launch} {e : Env} {s : State} {m : MethodId} {args : Array Value} {below : List Frame} {meth : Method} {c : Code} {D : va_G} {cI cZ cH cR : ClassId} {N : Nat} {ad : Nat → Nat} {EE : fw_M → Nat → va_E} {o : Nat} {r0 : Nat} {r3 : Nat} {z : (Int32 × fw_M)} (C : fw_C p s m args meth c cX2_ranksSeen RX2 wsX2_ranksSeen 9 (some .int) D vwCl (fw_tys cI cZ cH cR) N ad fw_nw0) (ho : o_Fore EE ad N cI cZ cH cR o) (hr0 : o_Hall EE ad N cI cZ cH cR r0) (hr3 : o_Row EE ad N cI cZ cH cR r3) : ∀ (n : Nat) (M : fw_M) (x2 : Int32) (x3 : Int32) (x5 : Int32) (x6 : Int32) (x7 : Int32) (x8 : Int32), P_Fore_ranksSeen_h14 o r0 r3 n M x2 x3 x5 x6 x7 x8 = some z → fw_J p l e (headSpec wsX2_ranksSeen rm_Fore_ranksSeen).room s m args below meth c D vwCl N ad EE 9 0 0 (fw_E below args s D vwCl N ad EE (some (.int z.1)) z.2) M [(0, .ref (ad o)), (2, .int x2), (3, .int x3), (4, .ref (ad r3)), (5, .int x5), (6, .int x6), (7, .int x7), (8, .int x8)] 14 [] := by
  intro n
  induction n with
  | zero => intro M x2 x3 x5 x6 x7 x8  h; cases h
  | succ n ih => intro M x2 x3 x5 x6 x7 x8  h; exact c_Fore_ranksSeen_b14 C ho hr0 hr3 ih  h
set_option maxRecDepth 100000 in
theorem c_Fore_ranksSeen_b0 {p : Program} {l : Launch} {e : Env} {s : State} {m : MethodId} {args : Array Value} {below : List Frame} {meth : Method} {c : Code} {D : va_G} {cI cZ cH cR : ClassId} {N : Nat} {ad : Nat → Nat} {EE : fw_M → Nat → va_E} {o : Nat} {r0 : Nat} {r3 : Nat} {M : fw_M} {x2 : Int32} {x3 : Int32} {x5 : Int32} {x6 : Int32} {z : (Int32 × fw_M)} (C : fw_C p s m args meth c cX2_ranksSeen RX2 wsX2_ranksSeen 9 (some .int) D vwCl (fw_tys cI cZ cH cR) N ad fw_nw0) (ho : o_Fore EE ad N cI cZ cH cR o) (hr0 : o_Hall EE ad N cI cZ cH cR r0) (hr3 : o_Row EE ad N cI cZ cH cR r3) (h : P_Fore_ranksSeen_b0 o r0 r3 M x2 x3 x5 x6 = some z) : fw_J p l e (headSpec wsX2_ranksSeen rm_Fore_ranksSeen).room s m args below meth c D vwCl N ad EE 9 0 0 (fw_E below args s D vwCl N ad EE (some (.int z.1)) z.2) M [(0, .ref (ad o)), (1, .ref (ad r0)), (2, .int x2), (3, .int x3), (4, .ref (ad r3)), (5, .int x5), (6, .int x6)] 0 [] := by
  unfold P_Fore_ranksSeen_b0 at h
  refine fw_iconst (pc := 0) C (v := 0) dX2_ranksSeen_0 fk_iconst_0 ?_
  refine fw_istore (pc := 1) C (L2 := [(0, .ref _), (1, .ref _), (2, .int _), (3, .int _), (4, .ref _), (5, .int _), (6, .int _), (7, .int _)]) [1, 2, 3, 4, 5, 6, 7, 0] dX2_ranksSeen_1 (by decide) rfl ?_
  refine fw_aload_n (pc := 3) C 0 dX2_ranksSeen_3 rfl rfl ?_
  refine fw_getr (pc := 4) C ho.2.1.1 rfl qX2_ranksSeen_12 dX2_ranksSeen_4 ?_
  refine fw_aload_n (pc := 7) C 1 dX2_ranksSeen_7 rfl rfl ?_
  obtain ⟨q1, hq1, h⟩ := fw_bind h
  refine fw_callV0 (pc := 8) C (rest := []) (c_Hall_become ho.2.1.2 hr0 hq1) (cwV 1 C.2.2.2.2.1 gX2_ranksSeen_X3_become rfl rfl rfl hd_Hall_become ⟨Nat.le_of_ble_eq_true rfl, Nat.le_of_ble_eq_true rfl⟩) ho.2.1.2.1 rfl rfl ⟨Nat.zero_le _, Nat.zero_le _⟩ rfl (Nat.le_of_ble_eq_true rfl) dX2_ranksSeen_8 ?_
  refine fw_iconst (pc := 11) C (v := 0) dX2_ranksSeen_11 fk_iconst_0 ?_
  refine fw_istore (pc := 12) C (L2 := [(0, .ref _), (1, .ref _), (2, .int _), (3, .int _), (4, .ref _), (5, .int _), (6, .int _), (7, .int _), (8, .int _)]) [1, 2, 3, 4, 5, 6, 7, 8, 0] dX2_ranksSeen_12 (by decide) rfl ?_
  exact fw_sub [0, 2, 3, 4, 5, 6, 7, 8] rfl (c_Fore_ranksSeen_h14 C ho hr0 hr3 _ _ _ _ _ _ _ _ h)
theorem c_Fore_ranksSeen {l : Launch} {D : va_G} {cI cZ cH cR : ClassId} {N : Nat} {ad : Nat → Nat} {EE : fw_M → Nat → va_E} {o : Nat} {r0 : Nat} {r3 : Nat} {M : fw_M} {a1 : Int32} {a2 : Int32} {a4 : Int32} {a5 : Int32} {z : (Int32 × fw_M)} (ho : o_Fore EE ad N cI cZ cH cR o) (hr0 : o_Hall EE ad N cI cZ cH cR r0) (hr3 : o_Row EE ad N cI cZ cH cR r3) (h : P_Fore_ranksSeen o r0 r3 M a1 a2 a4 a5 = some z) : fw_Met l yX2_ranksSeen wsX2_ranksSeen rm_Fore_ranksSeen D vwCl (fw_tys cI cZ cH cR) N ad fw_nw0 EE [.ref (ad o), .ref (ad r0), .int a1, .int a2, .ref (ad r3), .int a4, .int a5] M (some (.int z.1)) z.2 := by
  unfold P_Fore_ranksSeen at h
  exact fw_intro (cc := cX2_ranksSeen) (maxL := 9) (ret := some .int) (own := RX2) (by decide) rfl rfl (Nat.le_of_ble_eq_true rfl) (fun p e s m args below meth c C => fw_sub [0, 1, 2, 3, 4, 5, 6] rfl (c_Fore_ranksSeen_b0 C ho hr0 hr3 h))
abbrev rm_Fore_kindsSeen : Room := { frames := 5, cells := 0, slots := 0, locals := 117 }
theorem hd_Fore_kindsSeen : yX2_kindsSeen.cls = RX2 ∧ yX2_kindsSeen.cls ≠ "java/lang/invoke/MethodHandle" ∧ yX2_kindsSeen.cls ≠ "java/lang/invoke/VarHandle" ∧ (parseMethodDescriptor yX2_kindsSeen.desc).map (fun d => d.parameters.length) = some 6 := by decide +kernel
theorem qX2_kindsSeen_12 : fw_G wsX2_kindsSeen RX2 12 RX2 TX2 3 0 := ⟨by decide +kernel, by decide +kernel, by decide⟩
theorem qX2_kindsSeen_123 : fw_G wsX2_kindsSeen RX2 123 RX3 TX3 9 4 := ⟨by decide +kernel, by decide +kernel, by decide⟩
def P_Fore_kindsSeen_b54 (o : Nat) (r0 : Nat) (r3 : Nat) (K14 : fw_M → Int32 → Int32 → Int32 → Int32 → Int32 → Int32 → Option (Int32 × fw_M)) (M : fw_M) (x2 : Int32) (x3 : Int32) (x5 : Int32) (x6 : Int32) (x7 : Int32) (x8 : Int32) : Option (Int32 × fw_M) := K14 M x2 x3 x5 x6 x7 (x8 + (1 : Int32))
def P_Fore_kindsSeen_b14 (o : Nat) (r0 : Nat) (r3 : Nat) (K14 : fw_M → Int32 → Int32 → Int32 → Int32 → Int32 → Int32 → Option (Int32 × fw_M)) (M : fw_M) (x2 : Int32) (x3 : Int32) (x5 : Int32) (x6 : Int32) (x7 : Int32) (x8 : Int32) : Option (Int32 × fw_M) := (if (5 : Int32) < x8 then some (x7, M) else (fw_ast M ((o + 1) + 1) 7 x3 x8).bind fun M2 => (P_Fore_isSeen o r3 M2 x2 x5 x6).bind fun q3 => (if q3.1 = (0 : Int32) then P_Fore_kindsSeen_b54 o r0 r3 K14 q3.2 x2 x3 x5 x6 x7 x8 else fw_pl ((x7 ||| ((1 : Int32) <<< (x8 &&& 31)))) fun y5 => P_Fore_kindsSeen_b54 o r0 r3 K14 q3.2 x2 x3 x5 x6 y5 x8))
def P_Fore_kindsSeen_h14 (o : Nat) (r0 : Nat) (r3 : Nat) : Nat → fw_M → Int32 → Int32 → Int32 → Int32 → Int32 → Int32 → Option (Int32 × fw_M)
  | 0, _, _, _, _, _, _, _ => none
  | n + 1, M, x2, x3, x5, x6, x7, x8 => P_Fore_kindsSeen_b14 o r0 r3 (P_Fore_kindsSeen_h14 o r0 r3 n) M x2 x3 x5 x6 x7 x8
def P_Fore_kindsSeen_b0 (o : Nat) (r0 : Nat) (r3 : Nat) (M : fw_M) (x2 : Int32) (x3 : Int32) (x5 : Int32) (x6 : Int32) : Option (Int32 × fw_M) := (P_Hall_become (o + 1) r0 M).bind fun q1 => P_Fore_kindsSeen_h14 o r0 r3 fw_fu q1 x2 x3 x5 x6 (0 : Int32) (1 : Int32)
def P_Fore_kindsSeen (o : Nat) (r0 : Nat) (r3 : Nat) (M : fw_M) (a1 : Int32) (a2 : Int32) (a4 : Int32) (a5 : Int32) : Option (Int32 × fw_M) := P_Fore_kindsSeen_b0 o r0 r3 M a1 a2 a4 a5
set_option maxRecDepth 100000 in
theorem c_Fore_kindsSeen_b54 {p : Program} {l : Launch} {e : Env} {s : State} {m : MethodId} {args : Array Value} {below : List Frame} {meth : Method} {c : Code} {D : va_G} {cI cZ cH cR : ClassId} {N : Nat} {ad : Nat → Nat} {EE : fw_M → Nat → va_E} {o : Nat} {r0 : Nat} {r3 : Nat} {K14 : fw_M → Int32 → Int32 → Int32 → Int32 → Int32 → Int32 → Option (Int32 × fw_M)} {M : fw_M} {x2 : Int32} {x3 : Int32} {x5 : Int32} {x6 : Int32} {x7 : Int32} {x8 : Int32} {z : (Int32 × fw_M)} (C : fw_C p s m args meth c cX2_kindsSeen RX2 wsX2_kindsSeen 9 (some .int) D vwCl (fw_tys cI cZ cH cR) N ad fw_nw0) (ho : o_Fore EE ad N cI cZ cH cR o) (hr0 : o_Hall EE ad N cI cZ cH cR r0) (hr3 : o_Row EE ad N cI cZ cH cR r3) (hK14 : ∀ (Mk : fw_M) (kx2 : Int32) (kx3 : Int32) (kx5 : Int32) (kx6 : Int32) (kx7 : Int32) (kx8 : Int32), K14 Mk kx2 kx3 kx5 kx6 kx7 kx8 = some z → fw_J p l e (headSpec wsX2_kindsSeen rm_Fore_kindsSeen).room s m args below meth c D vwCl N ad EE 9 0 0 (fw_E below args s D vwCl N ad EE (some (.int z.1)) z.2) Mk [(0, .ref (ad o)), (2, .int kx2), (3, .int kx3), (4, .ref (ad r3)), (5, .int kx5), (6, .int kx6), (7, .int kx7), (8, .int kx8)] 14 []) (h : P_Fore_kindsSeen_b54 o r0 r3 K14 M x2 x3 x5 x6 x7 x8 = some z) : fw_J p l e (headSpec wsX2_kindsSeen rm_Fore_kindsSeen).room s m args below meth c D vwCl N ad EE 9 0 0 (fw_E below args s D vwCl N ad EE (some (.int z.1)) z.2) M [(0, .ref (ad o)), (2, .int x2), (3, .int x3), (4, .ref (ad r3)), (5, .int x5), (6, .int x6), (7, .int x7), (8, .int x8)] 54 [] := by
  unfold P_Fore_kindsSeen_b54 at h
  refine fw_iinc (pc := 54) C (v := 1) (L2 := [(0, .ref _), (2, .int _), (3, .int _), (4, .ref _), (5, .int _), (6, .int _), (7, .int _), (8, .int _)]) 7 [1, 2, 3, 4, 5, 6, 7, 0] dX2_kindsSeen_54 rfl fk_iconst_1 (by decide) rfl ?_
  refine fw_goto (pc := 57) C (tgt := 14) dX2_kindsSeen_57 (by decide) ?_
  exact (hK14 _ _ _ _ _ _ _ h)
set_option maxRecDepth 100000 in
theorem c_Fore_kindsSeen_b14 {p : Program} {l : Launch} {e : Env} {s : State} {m : MethodId} {args : Array Value} {below : List Frame} {meth : Method} {c : Code} {D : va_G} {cI cZ cH cR : ClassId} {N : Nat} {ad : Nat → Nat} {EE : fw_M → Nat → va_E} {o : Nat} {r0 : Nat} {r3 : Nat} {K14 : fw_M → Int32 → Int32 → Int32 → Int32 → Int32 → Int32 → Option (Int32 × fw_M)} {M : fw_M} {x2 : Int32} {x3 : Int32} {x5 : Int32} {x6 : Int32} {x7 : Int32} {x8 : Int32} {z : (Int32 × fw_M)} (C : fw_C p s m args meth c cX2_kindsSeen RX2 wsX2_kindsSeen 9 (some .int) D vwCl (fw_tys cI cZ cH cR) N ad fw_nw0) (ho : o_Fore EE ad N cI cZ cH cR o) (hr0 : o_Hall EE ad N cI cZ cH cR r0) (hr3 : o_Row EE ad N cI cZ cH cR r3) (hK14 : ∀ (Mk : fw_M) (kx2 : Int32) (kx3 : Int32) (kx5 : Int32) (kx6 : Int32) (kx7 : Int32) (kx8 : Int32), K14 Mk kx2 kx3 kx5 kx6 kx7 kx8 = some z → fw_J p l e (headSpec wsX2_kindsSeen rm_Fore_kindsSeen).room s m args below meth c D vwCl N ad EE 9 0 0 (fw_E below args s D vwCl N ad EE (some (.int z.1)) z.2) Mk [(0, .ref (ad o)), (2, .int kx2), (3, .int kx3), (4, .ref (ad r3)), (5, .int kx5), (6, .int kx6), (7, .int kx7), (8, .int kx8)] 14 []) (h : P_Fore_kindsSeen_b14 o r0 r3 K14 M x2 x3 x5 x6 x7 x8 = some z) : fw_J p l e (headSpec wsX2_kindsSeen rm_Fore_kindsSeen).room s m args below meth c D vwCl N ad EE 9 0 0 (fw_E below args s D vwCl N ad EE (some (.int z.1)) z.2) M [(0, .ref (ad o)), (2, .int x2), (3, .int x3), (4, .ref (ad r3)), (5, .int x5), (6, .int x6), (7, .int x7), (8, .int x8)] 14 [] := by
  unfold P_Fore_kindsSeen_b14 at h
  refine fw_iload (pc := 14) C 7 dX2_kindsSeen_14 rfl ?_
  refine fw_iconst (pc := 16) C (v := 5) dX2_kindsSeen_16 fk_iconst_5 ?_
  refine fw_icmp_gt (pc := 17) C (tgt := 60) dX2_kindsSeen_17 (by decide) (fun c1 => ?_) (fun c1 => ?_)
  · have h := fw_ift h c1
    refine fw_iload (pc := 60) C 6 dX2_kindsSeen_60 rfl ?_
    exact fw_iret (pc := 62) C (fw_p1 h) (fw_p2 h) dX2_kindsSeen_62
  · have h := fw_iff h c1
    refine fw_aload_n (pc := 20) C 0 dX2_kindsSeen_20 rfl rfl ?_
    refine fw_getr (pc := 21) C ho.2.1.1 rfl qX2_kindsSeen_12 dX2_kindsSeen_21 ?_
    refine fw_getr (pc := 24) C ho.2.1.2.2.2.2.2.2.1.1 rfl qX2_kindsSeen_123 dX2_kindsSeen_24 ?_
    refine fw_iload_n (pc := 27) C 2 dX2_kindsSeen_27 rfl rfl ?_
    refine fw_iload (pc := 28) C 7 dX2_kindsSeen_28 rfl ?_
    obtain ⟨M2, hM2, h⟩ := fw_bind h
    refine fw_iast (pc := 30) C 0 ho.2.1.2.2.2.2.2.2.1.2 rfl hM2 dX2_kindsSeen_30 ?_
    refine fw_aload_n (pc := 31) C 0 dX2_kindsSeen_31 rfl rfl ?_
    refine fw_iload_n (pc := 32) C 1 dX2_kindsSeen_32 rfl rfl ?_
    refine fw_aload (pc := 33) C 3 dX2_kindsSeen_33 rfl ?_
    refine fw_iload (pc := 35) C 4 dX2_kindsSeen_35 rfl ?_
    refine fw_iload (pc := 37) C 5 dX2_kindsSeen_37 rfl ?_
    obtain ⟨q3, hq3, h⟩ := fw_bind h
    refine fw_callV1 (pc := 39) C (rest := []) (c_Fore_isSeen ho hr3 hq3) (cwV 4 C.2.2.2.2.1 gX2_kindsSeen_X2_isSeen rfl rfl rfl hd_Fore_isSeen ⟨Nat.le_of_ble_eq_true rfl, Nat.le_of_ble_eq_true rfl⟩) ho.1 rfl rfl ⟨Nat.zero_le _, Nat.zero_le _⟩ rfl (Nat.le_of_ble_eq_true rfl) dX2_kindsSeen_39 ?_
    refine fw_if_eq (pc := 42) C (tgt := 54) dX2_kindsSeen_42 (by decide) (fun c4 => ?_) (fun c4 => ?_)
    · have h := fw_ift h c4
      exact (c_Fore_kindsSeen_b54 C ho hr0 hr3 hK14 h)
    · have h := fw_iff h c4
      refine fw_iload (pc := 45) C 6 dX2_kindsSeen_45 rfl ?_
      refine fw_iconst (pc := 47) C (v := 1) dX2_kindsSeen_47 fk_iconst_1 ?_
      refine fw_iload (pc := 48) C 7 dX2_kindsSeen_48 rfl ?_
      refine fw_ishl (pc := 50) C dX2_kindsSeen_50 ?_
      refine fw_ior (pc := 51) C dX2_kindsSeen_51 ?_
      have h := fw_plh h
      refine fw_istore (pc := 52) C (L2 := [(0, .ref _), (2, .int _), (3, .int _), (4, .ref _), (5, .int _), (6, .int _), (7, .int _), (8, .int _)]) [1, 2, 3, 4, 5, 6, 0, 7] dX2_kindsSeen_52 (by decide) rfl ?_
      exact (c_Fore_kindsSeen_b54 C ho hr0 hr3 hK14 h)
theorem c_Fore_kindsSeen_h14 {p : Program} {l : Launch} {e : Env} {s : State} {m : MethodId} {args : Array Value} {below : List Frame} {meth : Method} {c : Code} {D : va_G} {cI cZ cH cR : ClassId} {N : Nat} {ad : Nat → Nat} {EE : fw_M → Nat → va_E} {o : Nat} {r0 : Nat} {r3 : Nat} {z : (Int32 × fw_M)} (C : fw_C p s m args meth c cX2_kindsSeen RX2 wsX2_kindsSeen 9 (some .int) D vwCl (fw_tys cI cZ cH cR) N ad fw_nw0) (ho : o_Fore EE ad N cI cZ cH cR o) (hr0 : o_Hall EE ad N cI cZ cH cR r0) (hr3 : o_Row EE ad N cI cZ cH cR r3) : ∀ (n : Nat) (M : fw_M) (x2 : Int32) (x3 : Int32) (x5 : Int32) (x6 : Int32) (x7 : Int32) (x8 : Int32), P_Fore_kindsSeen_h14 o r0 r3 n M x2 x3 x5 x6 x7 x8 = some z → fw_J p l e (headSpec wsX2_kindsSeen rm_Fore_kindsSeen).room s m args below meth c D vwCl N ad EE 9 0 0 (fw_E below args s D vwCl N ad EE (some (.int z.1)) z.2) M [(0, .ref (ad o)), (2, .int x2), (3, .int x3), (4, .ref (ad r3)), (5, .int x5), (6, .int x6), (7, .int x7), (8, .int x8)] 14 [] := by
  intro n
  induction n with
  | zero => intro M x2 x3 x5 x6 x7 x8  h; cases h
  | succ n ih => intro M x2 x3 x5 x6 x7 x8  h; exact c_Fore_kindsSeen_b14 C ho hr0 hr3 ih  h
set_option maxRecDepth 100000 in
theorem c_Fore_kindsSeen_b0 {p : Program} {l : Launch} {e : Env} {s : State} {m : MethodId} {args : Array Value} {below : List Frame} {meth : Method} {c : Code} {D : va_G} {cI cZ cH cR : ClassId} {N : Nat} {ad : Nat → Nat} {EE : fw_M → Nat → va_E} {o : Nat} {r0 : Nat} {r3 : Nat} {M : fw_M} {x2 : Int32} {x3 : Int32} {x5 : Int32} {x6 : Int32} {z : (Int32 × fw_M)} (C : fw_C p s m args meth c cX2_kindsSeen RX2 wsX2_kindsSeen 9 (some .int) D vwCl (fw_tys cI cZ cH cR) N ad fw_nw0) (ho : o_Fore EE ad N cI cZ cH cR o) (hr0 : o_Hall EE ad N cI cZ cH cR r0) (hr3 : o_Row EE ad N cI cZ cH cR r3) (h : P_Fore_kindsSeen_b0 o r0 r3 M x2 x3 x5 x6 = some z) : fw_J p l e (headSpec wsX2_kindsSeen rm_Fore_kindsSeen).room s m args below meth c D vwCl N ad EE 9 0 0 (fw_E below args s D vwCl N ad EE (some (.int z.1)) z.2) M [(0, .ref (ad o)), (1, .ref (ad r0)), (2, .int x2), (3, .int x3), (4, .ref (ad r3)), (5, .int x5), (6, .int x6)] 0 [] := by
  unfold P_Fore_kindsSeen_b0 at h
  refine fw_iconst (pc := 0) C (v := 0) dX2_kindsSeen_0 fk_iconst_0 ?_
  refine fw_istore (pc := 1) C (L2 := [(0, .ref _), (1, .ref _), (2, .int _), (3, .int _), (4, .ref _), (5, .int _), (6, .int _), (7, .int _)]) [1, 2, 3, 4, 5, 6, 7, 0] dX2_kindsSeen_1 (by decide) rfl ?_
  refine fw_aload_n (pc := 3) C 0 dX2_kindsSeen_3 rfl rfl ?_
  refine fw_getr (pc := 4) C ho.2.1.1 rfl qX2_kindsSeen_12 dX2_kindsSeen_4 ?_
  refine fw_aload_n (pc := 7) C 1 dX2_kindsSeen_7 rfl rfl ?_
  obtain ⟨q1, hq1, h⟩ := fw_bind h
  refine fw_callV0 (pc := 8) C (rest := []) (c_Hall_become ho.2.1.2 hr0 hq1) (cwV 1 C.2.2.2.2.1 gX2_kindsSeen_X3_become rfl rfl rfl hd_Hall_become ⟨Nat.le_of_ble_eq_true rfl, Nat.le_of_ble_eq_true rfl⟩) ho.2.1.2.1 rfl rfl ⟨Nat.zero_le _, Nat.zero_le _⟩ rfl (Nat.le_of_ble_eq_true rfl) dX2_kindsSeen_8 ?_
  refine fw_iconst (pc := 11) C (v := 1) dX2_kindsSeen_11 fk_iconst_1 ?_
  refine fw_istore (pc := 12) C (L2 := [(0, .ref _), (1, .ref _), (2, .int _), (3, .int _), (4, .ref _), (5, .int _), (6, .int _), (7, .int _), (8, .int _)]) [1, 2, 3, 4, 5, 6, 7, 8, 0] dX2_kindsSeen_12 (by decide) rfl ?_
  exact fw_sub [0, 2, 3, 4, 5, 6, 7, 8] rfl (c_Fore_kindsSeen_h14 C ho hr0 hr3 _ _ _ _ _ _ _ _ h)
theorem c_Fore_kindsSeen {l : Launch} {D : va_G} {cI cZ cH cR : ClassId} {N : Nat} {ad : Nat → Nat} {EE : fw_M → Nat → va_E} {o : Nat} {r0 : Nat} {r3 : Nat} {M : fw_M} {a1 : Int32} {a2 : Int32} {a4 : Int32} {a5 : Int32} {z : (Int32 × fw_M)} (ho : o_Fore EE ad N cI cZ cH cR o) (hr0 : o_Hall EE ad N cI cZ cH cR r0) (hr3 : o_Row EE ad N cI cZ cH cR r3) (h : P_Fore_kindsSeen o r0 r3 M a1 a2 a4 a5 = some z) : fw_Met l yX2_kindsSeen wsX2_kindsSeen rm_Fore_kindsSeen D vwCl (fw_tys cI cZ cH cR) N ad fw_nw0 EE [.ref (ad o), .ref (ad r0), .int a1, .int a2, .ref (ad r3), .int a4, .int a5] M (some (.int z.1)) z.2 := by
  unfold P_Fore_kindsSeen at h
  exact fw_intro (cc := cX2_kindsSeen) (maxL := 9) (ret := some .int) (own := RX2) (by decide) rfl rfl (Nat.le_of_ble_eq_true rfl) (fun p e s m args below meth c C => fw_sub [0, 1, 2, 3, 4, 5, 6] rfl (c_Fore_kindsSeen_b0 C ho hr0 hr3 h))
end
