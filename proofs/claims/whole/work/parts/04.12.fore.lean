noncomputable section
abbrev rm_Fore_isPair : Room := { frames := 1, cells := 0, slots := 0, locals := 22 }
theorem hd_Fore_isPair : yX2_isPair.cls = RX2 ∧ yX2_isPair.cls ≠ "java/lang/invoke/MethodHandle" ∧ yX2_isPair.cls ≠ "java/lang/invoke/VarHandle" ∧ (parseMethodDescriptor yX2_isPair.desc).map (fun d => d.parameters.length) = some 3 := by decide +kernel
def P_Fore_isPair_b23 (r0 : Nat) (M : fw_M) (t0 : Int32) : Option Int32 := (fw_zr t0).bind fun v1 => some v1
def P_Fore_isPair_b22 (r0 : Nat) (M : fw_M) : Option Int32 := P_Fore_isPair_b23 r0 M (0 : Int32)
def P_Fore_isPair_b0 (r0 : Nat) (M : fw_M) (x1 : Int32) (x2 : Int32) : Option Int32 := (P_Hall_yields r0 M x1 x2).bind fun v1 => (if v1 = (0 : Int32) then P_Fore_isPair_b22 r0 M else (P_Hall_yields r0 M x2 x1).bind fun v3 => (if v3 = (0 : Int32) then P_Fore_isPair_b22 r0 M else P_Fore_isPair_b23 r0 M (1 : Int32)))
def P_Fore_isPair (r0 : Nat) (M : fw_M) (a1 : Int32) (a2 : Int32) : Option Int32 := P_Fore_isPair_b0 r0 M a1 a2
set_option maxRecDepth 100000 in
theorem c_Fore_isPair_b23 {p : Program} {l : Launch} {e : Env} {s : State} {m : MethodId} {args : Array Value} {below : List Frame} {meth : Method} {c : Code} {D : va_G} {cI cZ cH cR : ClassId} {N : Nat} {ad : Nat → Nat} {EE : fw_M → Nat → va_E} {r0 : Nat} {M : fw_M} {t0 : Int32} {z : Int32} (C : fw_C p s m args meth c cX2_isPair RX2 wsX2_isPair 3 (some .boolean) D vwCl (fw_tys cI cZ cH cR) N ad fw_nw0) (hr0 : o_Hall EE ad N cI cZ cH cR r0) (h : P_Fore_isPair_b23 r0 M t0 = some z) : fw_J p l e (headSpec wsX2_isPair rm_Fore_isPair).room s m args below meth c D vwCl N ad EE 3 0 0 (fw_E below args s D vwCl N ad EE (some (.int z)) M) M [] 23 [.int t0] := by
  unfold P_Fore_isPair_b23 at h
  obtain ⟨v1, hv1, h⟩ := fw_bind h
  exact fw_zret (pc := 23) C (fw_zrh hv1).1 ((fw_zrh hv1).2.trans (Option.some.inj h)) rfl dX2_isPair_23
set_option maxRecDepth 100000 in
theorem c_Fore_isPair_b22 {p : Program} {l : Launch} {e : Env} {s : State} {m : MethodId} {args : Array Value} {below : List Frame} {meth : Method} {c : Code} {D : va_G} {cI cZ cH cR : ClassId} {N : Nat} {ad : Nat → Nat} {EE : fw_M → Nat → va_E} {r0 : Nat} {M : fw_M} {z : Int32} (C : fw_C p s m args meth c cX2_isPair RX2 wsX2_isPair 3 (some .boolean) D vwCl (fw_tys cI cZ cH cR) N ad fw_nw0) (hr0 : o_Hall EE ad N cI cZ cH cR r0) (h : P_Fore_isPair_b22 r0 M = some z) : fw_J p l e (headSpec wsX2_isPair rm_Fore_isPair).room s m args below meth c D vwCl N ad EE 3 0 0 (fw_E below args s D vwCl N ad EE (some (.int z)) M) M [] 22 [] := by
  unfold P_Fore_isPair_b22 at h
  refine fw_iconst (pc := 22) C (v := 0) dX2_isPair_22 fk_iconst_0 ?_
  exact (c_Fore_isPair_b23 C hr0 h)
set_option maxRecDepth 100000 in
theorem c_Fore_isPair_b0 {p : Program} {l : Launch} {e : Env} {s : State} {m : MethodId} {args : Array Value} {below : List Frame} {meth : Method} {c : Code} {D : va_G} {cI cZ cH cR : ClassId} {N : Nat} {ad : Nat → Nat} {EE : fw_M → Nat → va_E} {r0 : Nat} {M : fw_M} {x1 : Int32} {x2 : Int32} {z : Int32} (C : fw_C p s m args meth c cX2_isPair RX2 wsX2_isPair 3 (some .boolean) D vwCl (fw_tys cI cZ cH cR) N ad fw_nw0) (hr0 : o_Hall EE ad N cI cZ cH cR r0) (h : P_Fore_isPair_b0 r0 M x1 x2 = some z) : fw_J p l e (headSpec wsX2_isPair rm_Fore_isPair).room s m args below meth c D vwCl N ad EE 3 0 0 (fw_E below args s D vwCl N ad EE (some (.int z)) M) M [(0, .ref (ad r0)), (1, .int x1), (2, .int x2)] 0 [] := by
  unfold P_Fore_isPair_b0 at h
  refine fw_aload_n (pc := 0) C 0 dX2_isPair_0 rfl rfl ?_
  refine fw_iload_n (pc := 1) C 1 dX2_isPair_1 rfl rfl ?_
  refine fw_iload_n (pc := 2) C 2 dX2_isPair_2 rfl rfl ?_
  obtain ⟨v1, hv1, h⟩ := fw_bind h
  refine fw_callV1 (pc := 3) C (rest := []) (c_Hall_yields hr0 hv1) (cwV 2 C.2.2.2.2.1 gX2_isPair_X3_yields rfl rfl rfl hd_Hall_yields ⟨Nat.le_of_ble_eq_true rfl, Nat.le_of_ble_eq_true rfl⟩) hr0.1 rfl rfl ⟨Nat.zero_le _, Nat.zero_le _⟩ rfl (Nat.le_of_ble_eq_true rfl) dX2_isPair_3 ?_
  refine fw_if_eq (pc := 6) C (tgt := 22) dX2_isPair_6 (by decide) (fun c2 => ?_) (fun c2 => ?_)
  · have h := fw_ift h c2
    exact fw_sub [] rfl (c_Fore_isPair_b22 C hr0 h)
  · have h := fw_iff h c2
    refine fw_aload_n (pc := 9) C 0 dX2_isPair_9 rfl rfl ?_
    refine fw_iload_n (pc := 10) C 2 dX2_isPair_10 rfl rfl ?_
    refine fw_iload_n (pc := 11) C 1 dX2_isPair_11 rfl rfl ?_
    obtain ⟨v3, hv3, h⟩ := fw_bind h
    refine fw_callV1 (pc := 12) C (rest := []) (c_Hall_yields hr0 hv3) (cwV 2 C.2.2.2.2.1 gX2_isPair_X3_yields rfl rfl rfl hd_Hall_yields ⟨Nat.le_of_ble_eq_true rfl, Nat.le_of_ble_eq_true rfl⟩) hr0.1 rfl rfl ⟨Nat.zero_le _, Nat.zero_le _⟩ rfl (Nat.le_of_ble_eq_true rfl) dX2_isPair_12 ?_
    refine fw_if_eq (pc := 15) C (tgt := 22) dX2_isPair_15 (by decide) (fun c4 => ?_) (fun c4 => ?_)
    · have h := fw_ift h c4
      exact fw_sub [] rfl (c_Fore_isPair_b22 C hr0 h)
    · have h := fw_iff h c4
      refine fw_iconst (pc := 18) C (v := 1) dX2_isPair_18 fk_iconst_1 ?_
      refine fw_goto (pc := 19) C (tgt := 23) dX2_isPair_19 (by decide) ?_
      exact fw_sub [] rfl (c_Fore_isPair_b23 C hr0 h)
theorem c_Fore_isPair {l : Launch} {D : va_G} {cI cZ cH cR : ClassId} {N : Nat} {ad : Nat → Nat} {EE : fw_M → Nat → va_E} {r0 : Nat} {M : fw_M} {a1 : Int32} {a2 : Int32} {z : Int32} (hr0 : o_Hall EE ad N cI cZ cH cR r0) (h : P_Fore_isPair r0 M a1 a2 = some z) : fw_Met l yX2_isPair wsX2_isPair rm_Fore_isPair D vwCl (fw_tys cI cZ cH cR) N ad fw_nw0 EE [.ref (ad r0), .int a1, .int a2] M (some (.int z)) M := by
  unfold P_Fore_isPair at h
  exact fw_intro (cc := cX2_isPair) (maxL := 3) (ret := some .boolean) (own := RX2) (by decide) rfl rfl (Nat.le_of_ble_eq_true rfl) (fun p e s m args below meth c C => fw_sub [0, 1, 2] rfl (c_Fore_isPair_b0 C hr0 h))
abbrev rm_Fore_pairs : Room := { frames := 2, cells := 0, slots := 0, locals := 44 }
theorem hd_Fore_pairs : yX2_pairs.cls = RX2 ∧ yX2_pairs.cls ≠ "java/lang/invoke/MethodHandle" ∧ yX2_pairs.cls ≠ "java/lang/invoke/VarHandle" ∧ (parseMethodDescriptor yX2_pairs.desc).map (fun d => d.parameters.length) = some 1 := by decide +kernel
theorem qX2_pairs_77 : fw_G wsX2_pairs RX2 77 RX3 TX3 9 2 := ⟨by decide +kernel, by decide +kernel, by decide⟩
def P_Fore_pairs_b39 (o : Nat) (r0 : Nat) (M : fw_M) (K4 : Int32 → Int32 → Option Int32) (K17 : Int32 → Int32 → Int32 → Option Int32) (x2 : Int32) (x3 : Int32) (x4 : Int32) : Option Int32 := K17 x2 x3 (x4 + (1 : Int32))
def P_Fore_pairs_b17 (o : Nat) (r0 : Nat) (M : fw_M) (K4 : Int32 → Int32 → Option Int32) (K17 : Int32 → Int32 → Int32 → Option Int32) (x2 : Int32) (x3 : Int32) (x4 : Int32) : Option Int32 := (if (M r0 2) ≤ x4 then K4 x2 (x3 + (1 : Int32)) else (P_Fore_isPair r0 M x3 x4).bind fun v2 => (if v2 = (0 : Int32) then P_Fore_pairs_b39 o r0 M K4 K17 x2 x3 x4 else P_Fore_pairs_b39 o r0 M K4 K17 (x2 + (1 : Int32)) x3 x4))
def P_Fore_pairs_h17 (o : Nat) (r0 : Nat) (M : fw_M) (K4 : Int32 → Int32 → Option Int32) : Nat → Int32 → Int32 → Int32 → Option Int32
  | 0, _, _, _ => none
  | n + 1, x2, x3, x4 => P_Fore_pairs_b17 o r0 M K4 (P_Fore_pairs_h17 o r0 M K4 n) x2 x3 x4
def P_Fore_pairs_b4 (o : Nat) (r0 : Nat) (M : fw_M) (K4 : Int32 → Int32 → Option Int32) (x2 : Int32) (x3 : Int32) : Option Int32 := (if (M r0 2) ≤ x3 then some x2 else fw_pl ((x3 + (1 : Int32))) fun y2 => P_Fore_pairs_h17 o r0 M K4 fw_fu x2 x3 y2)
def P_Fore_pairs_h4 (o : Nat) (r0 : Nat) (M : fw_M) : Nat → Int32 → Int32 → Option Int32
  | 0, _, _ => none
  | n + 1, x2, x3 => P_Fore_pairs_b4 o r0 M (P_Fore_pairs_h4 o r0 M n) x2 x3
def P_Fore_pairs_b0 (o : Nat) (r0 : Nat) (M : fw_M) : Option Int32 := P_Fore_pairs_h4 o r0 M fw_fu (0 : Int32) (0 : Int32)
def P_Fore_pairs (o : Nat) (r0 : Nat) (M : fw_M) : Option Int32 := P_Fore_pairs_b0 o r0 M
set_option maxRecDepth 100000 in
theorem c_Fore_pairs_b39 {p : Program} {l : Launch} {e : Env} {s : State} {m : MethodId} {args : Array Value} {below : List Frame} {meth : Method} {c : Code} {D : va_G} {cI cZ cH cR : ClassId} {N : Nat} {ad : Nat → Nat} {EE : fw_M → Nat → va_E} {o : Nat} {r0 : Nat} {M : fw_M} {K4 : Int32 → Int32 → Option Int32} {K17 : Int32 → Int32 → Int32 → Option Int32} {x2 : Int32} {x3 : Int32} {x4 : Int32} {z : Int32} (C : fw_C p s m args meth c cX2_pairs RX2 wsX2_pairs 5 (some .int) D vwCl (fw_tys cI cZ cH cR) N ad fw_nw0) (ho : o_Fore EE ad N cI cZ cH cR o) (hr0 : o_Hall EE ad N cI cZ cH cR r0) (hK4 : ∀ (kx2 : Int32) (kx3 : Int32), K4 kx2 kx3 = some z → fw_J p l e (headSpec wsX2_pairs rm_Fore_pairs).room s m args below meth c D vwCl N ad EE 5 0 0 (fw_E below args s D vwCl N ad EE (some (.int z)) M) M [(1, .ref (ad r0)), (2, .int kx2), (3, .int kx3)] 4 []) (hK17 : ∀ (kx2 : Int32) (kx3 : Int32) (kx4 : Int32), K17 kx2 kx3 kx4 = some z → fw_J p l e (headSpec wsX2_pairs rm_Fore_pairs).room s m args below meth c D vwCl N ad EE 5 0 0 (fw_E below args s D vwCl N ad EE (some (.int z)) M) M [(1, .ref (ad r0)), (2, .int kx2), (3, .int kx3), (4, .int kx4)] 17 []) (h : P_Fore_pairs_b39 o r0 M K4 K17 x2 x3 x4 = some z) : fw_J p l e (headSpec wsX2_pairs rm_Fore_pairs).room s m args below meth c D vwCl N ad EE 5 0 0 (fw_E below args s D vwCl N ad EE (some (.int z)) M) M [(1, .ref (ad r0)), (2, .int x2), (3, .int x3), (4, .int x4)] 39 [] := by
  unfold P_Fore_pairs_b39 at h
  refine fw_iinc (pc := 39) C (v := 1) (L2 := [(1, .ref _), (2, .int _), (3, .int _), (4, .int _)]) 3 [1, 2, 3, 0] dX2_pairs_39 rfl fk_iconst_1 (by decide) rfl ?_
  refine fw_goto (pc := 42) C (tgt := 17) dX2_pairs_42 (by decide) ?_
  exact (hK17 _ _ _ h)
set_option maxRecDepth 100000 in
theorem c_Fore_pairs_b17 {p : Program} {l : Launch} {e : Env} {s : State} {m : MethodId} {args : Array Value} {below : List Frame} {meth : Method} {c : Code} {D : va_G} {cI cZ cH cR : ClassId} {N : Nat} {ad : Nat → Nat} {EE : fw_M → Nat → va_E} {o : Nat} {r0 : Nat} {M : fw_M} {K4 : Int32 → Int32 → Option Int32} {K17 : Int32 → Int32 → Int32 → Option Int32} {x2 : Int32} {x3 : Int32} {x4 : Int32} {z : Int32} (C : fw_C p s m args meth c cX2_pairs RX2 wsX2_pairs 5 (some .int) D vwCl (fw_tys cI cZ cH cR) N ad fw_nw0) (ho : o_Fore EE ad N cI cZ cH cR o) (hr0 : o_Hall EE ad N cI cZ cH cR r0) (hK4 : ∀ (kx2 : Int32) (kx3 : Int32), K4 kx2 kx3 = some z → fw_J p l e (headSpec wsX2_pairs rm_Fore_pairs).room s m args below meth c D vwCl N ad EE 5 0 0 (fw_E below args s D vwCl N ad EE (some (.int z)) M) M [(1, .ref (ad r0)), (2, .int kx2), (3, .int kx3)] 4 []) (hK17 : ∀ (kx2 : Int32) (kx3 : Int32) (kx4 : Int32), K17 kx2 kx3 kx4 = some z → fw_J p l e (headSpec wsX2_pairs rm_Fore_pairs).room s m args below meth c D vwCl N ad EE 5 0 0 (fw_E below args s D vwCl N ad EE (some (.int z)) M) M [(1, .ref (ad r0)), (2, .int kx2), (3, .int kx3), (4, .int kx4)] 17 []) (h : P_Fore_pairs_b17 o r0 M K4 K17 x2 x3 x4 = some z) : fw_J p l e (headSpec wsX2_pairs rm_Fore_pairs).room s m args below meth c D vwCl N ad EE 5 0 0 (fw_E below args s D vwCl N ad EE (some (.int z)) M) M [(1, .ref (ad r0)), (2, .int x2), (3, .int x3), (4, .int x4)] 17 [] := by
  unfold P_Fore_pairs_b17 at h
  refine fw_iload (pc := 17) C 3 dX2_pairs_17 rfl ?_
  refine fw_aload_n (pc := 19) C 0 dX2_pairs_19 rfl rfl ?_
  refine fw_geti (pc := 20) C hr0.2.2.2.1 rfl qX2_pairs_77 dX2_pairs_20 ?_
  refine fw_icmp_ge (pc := 23) C (tgt := 45) dX2_pairs_23 (by decide) (fun c1 => ?_) (fun c1 => ?_)
  · have h := fw_ift h c1
    refine fw_iinc (pc := 45) C (v := 1) (L2 := [(1, .ref _), (2, .int _), (3, .int _), (4, .int _)]) 2 [1, 2, 0, 3] dX2_pairs_45 rfl fk_iconst_1 (by decide) rfl ?_
    refine fw_goto (pc := 48) C (tgt := 4) dX2_pairs_48 (by decide) ?_
    exact fw_sub [0, 1, 2] rfl (hK4 _ _ h)
  · have h := fw_iff h c1
    refine fw_aload_n (pc := 26) C 0 dX2_pairs_26 rfl rfl ?_
    refine fw_iload_n (pc := 27) C 2 dX2_pairs_27 rfl rfl ?_
    refine fw_iload (pc := 28) C 3 dX2_pairs_28 rfl ?_
    obtain ⟨v2, hv2, h⟩ := fw_bind h
    refine fw_callS1 (pc := 30) C (rest := []) (c_Fore_isPair hr0 hv2) (va_cwS 3 C.2.2.2.2.1 gX2_pairs_X2_isPair rfl rfl rfl hd_Fore_isPair.2 ⟨Nat.le_of_ble_eq_true rfl, Nat.le_of_ble_eq_true rfl⟩) rfl ⟨Nat.zero_le _, Nat.zero_le _⟩ rfl (Nat.le_of_ble_eq_true rfl) dX2_pairs_30 ?_
    refine fw_if_eq (pc := 33) C (tgt := 39) dX2_pairs_33 (by decide) (fun c3 => ?_) (fun c3 => ?_)
    · have h := fw_ift h c3
      exact (c_Fore_pairs_b39 C ho hr0 hK4 hK17 h)
    · have h := fw_iff h c3
      refine fw_iinc (pc := 36) C (v := 1) (L2 := [(1, .ref _), (2, .int _), (3, .int _), (4, .int _)]) 1 [1, 0, 2, 3] dX2_pairs_36 rfl fk_iconst_1 (by decide) rfl ?_
      exact (c_Fore_pairs_b39 C ho hr0 hK4 hK17 h)
theorem c_Fore_pairs_h17 {p : Program} {l : Launch} {e : Env} {s : State} {m : MethodId} {args : Array Value} {below : List Frame} {meth : Method} {c : Code} {D : va_G} {cI cZ cH cR : ClassId} {N : Nat} {ad : Nat → Nat} {EE : fw_M → Nat → va_E} {o : Nat} {r0 : Nat} {M : fw_M} {K4 : Int32 → Int32 → Option Int32} {z : Int32} (C : fw_C p s m args meth c cX2_pairs RX2 wsX2_pairs 5 (some .int) D vwCl (fw_tys cI cZ cH cR) N ad fw_nw0) (ho : o_Fore EE ad N cI cZ cH cR o) (hr0 : o_Hall EE ad N cI cZ cH cR r0) (hK4 : ∀ (kx2 : Int32) (kx3 : Int32), K4 kx2 kx3 = some z → fw_J p l e (headSpec wsX2_pairs rm_Fore_pairs).room s m args below meth c D vwCl N ad EE 5 0 0 (fw_E below args s D vwCl N ad EE (some (.int z)) M) M [(1, .ref (ad r0)), (2, .int kx2), (3, .int kx3)] 4 []) : ∀ (n : Nat) (x2 : Int32) (x3 : Int32) (x4 : Int32), P_Fore_pairs_h17 o r0 M K4 n x2 x3 x4 = some z → fw_J p l e (headSpec wsX2_pairs rm_Fore_pairs).room s m args below meth c D vwCl N ad EE 5 0 0 (fw_E below args s D vwCl N ad EE (some (.int z)) M) M [(1, .ref (ad r0)), (2, .int x2), (3, .int x3), (4, .int x4)] 17 [] := by
  intro n
  induction n with
  | zero => intro x2 x3 x4  h; cases h
  | succ n ih => intro x2 x3 x4  h; exact c_Fore_pairs_b17 C ho hr0 hK4 ih  h
set_option maxRecDepth 100000 in
theorem c_Fore_pairs_b4 {p : Program} {l : Launch} {e : Env} {s : State} {m : MethodId} {args : Array Value} {below : List Frame} {meth : Method} {c : Code} {D : va_G} {cI cZ cH cR : ClassId} {N : Nat} {ad : Nat → Nat} {EE : fw_M → Nat → va_E} {o : Nat} {r0 : Nat} {M : fw_M} {K4 : Int32 → Int32 → Option Int32} {x2 : Int32} {x3 : Int32} {z : Int32} (C : fw_C p s m args meth c cX2_pairs RX2 wsX2_pairs 5 (some .int) D vwCl (fw_tys cI cZ cH cR) N ad fw_nw0) (ho : o_Fore EE ad N cI cZ cH cR o) (hr0 : o_Hall EE ad N cI cZ cH cR r0) (hK4 : ∀ (kx2 : Int32) (kx3 : Int32), K4 kx2 kx3 = some z → fw_J p l e (headSpec wsX2_pairs rm_Fore_pairs).room s m args below meth c D vwCl N ad EE 5 0 0 (fw_E below args s D vwCl N ad EE (some (.int z)) M) M [(1, .ref (ad r0)), (2, .int kx2), (3, .int kx3)] 4 []) (h : P_Fore_pairs_b4 o r0 M K4 x2 x3 = some z) : fw_J p l e (headSpec wsX2_pairs rm_Fore_pairs).room s m args below meth c D vwCl N ad EE 5 0 0 (fw_E below args s D vwCl N ad EE (some (.int z)) M) M [(1, .ref (ad r0)), (2, .int x2), (3, .int x3)] 4 [] := by
  unfold P_Fore_pairs_b4 at h
  refine fw_iload_n (pc := 4) C 2 dX2_pairs_4 rfl rfl ?_
  refine fw_aload_n (pc := 5) C 0 dX2_pairs_5 rfl rfl ?_
  refine fw_geti (pc := 6) C hr0.2.2.2.1 rfl qX2_pairs_77 dX2_pairs_6 ?_
  refine fw_icmp_ge (pc := 9) C (tgt := 51) dX2_pairs_9 (by decide) (fun c1 => ?_) (fun c1 => ?_)
  · have h := fw_ift h c1
    refine fw_iload_n (pc := 51) C 1 dX2_pairs_51 rfl rfl ?_
    exact fw_iret (pc := 52) C (Option.some.inj h) rfl dX2_pairs_52
  · have h := fw_iff h c1
    refine fw_iload_n (pc := 12) C 2 dX2_pairs_12 rfl rfl ?_
    refine fw_iconst (pc := 13) C (v := 1) dX2_pairs_13 fk_iconst_1 ?_
    refine fw_iadd (pc := 14) C dX2_pairs_14 ?_
    have h := fw_plh h
    refine fw_istore (pc := 15) C (L2 := [(1, .ref _), (2, .int _), (3, .int _), (4, .int _)]) [1, 2, 3, 0] dX2_pairs_15 (by decide) rfl ?_
    exact (c_Fore_pairs_h17 C ho hr0 hK4 _ _ _ _ h)
theorem c_Fore_pairs_h4 {p : Program} {l : Launch} {e : Env} {s : State} {m : MethodId} {args : Array Value} {below : List Frame} {meth : Method} {c : Code} {D : va_G} {cI cZ cH cR : ClassId} {N : Nat} {ad : Nat → Nat} {EE : fw_M → Nat → va_E} {o : Nat} {r0 : Nat} {M : fw_M} {z : Int32} (C : fw_C p s m args meth c cX2_pairs RX2 wsX2_pairs 5 (some .int) D vwCl (fw_tys cI cZ cH cR) N ad fw_nw0) (ho : o_Fore EE ad N cI cZ cH cR o) (hr0 : o_Hall EE ad N cI cZ cH cR r0) : ∀ (n : Nat) (x2 : Int32) (x3 : Int32), P_Fore_pairs_h4 o r0 M n x2 x3 = some z → fw_J p l e (headSpec wsX2_pairs rm_Fore_pairs).room s m args below meth c D vwCl N ad EE 5 0 0 (fw_E below args s D vwCl N ad EE (some (.int z)) M) M [(1, .ref (ad r0)), (2, .int x2), (3, .int x3)] 4 [] := by
  intro n
  induction n with
  | zero => intro x2 x3  h; cases h
  | succ n ih => intro x2 x3  h; exact c_Fore_pairs_b4 C ho hr0 ih  h
set_option maxRecDepth 100000 in
theorem c_Fore_pairs_b0 {p : Program} {l : Launch} {e : Env} {s : State} {m : MethodId} {args : Array Value} {below : List Frame} {meth : Method} {c : Code} {D : va_G} {cI cZ cH cR : ClassId} {N : Nat} {ad : Nat → Nat} {EE : fw_M → Nat → va_E} {o : Nat} {r0 : Nat} {M : fw_M} {z : Int32} (C : fw_C p s m args meth c cX2_pairs RX2 wsX2_pairs 5 (some .int) D vwCl (fw_tys cI cZ cH cR) N ad fw_nw0) (ho : o_Fore EE ad N cI cZ cH cR o) (hr0 : o_Hall EE ad N cI cZ cH cR r0) (h : P_Fore_pairs_b0 o r0 M = some z) : fw_J p l e (headSpec wsX2_pairs rm_Fore_pairs).room s m args below meth c D vwCl N ad EE 5 0 0 (fw_E below args s D vwCl N ad EE (some (.int z)) M) M [(1, .ref (ad r0))] 0 [] := by
  unfold P_Fore_pairs_b0 at h
  refine fw_iconst (pc := 0) C (v := 0) dX2_pairs_0 fk_iconst_0 ?_
  refine fw_istore_n (pc := 1) C (L2 := [(1, .ref _), (2, .int _)]) [1, 0] dX2_pairs_1 rfl (by decide) rfl ?_
  refine fw_iconst (pc := 2) C (v := 0) dX2_pairs_2 fk_iconst_0 ?_
  refine fw_istore_n (pc := 3) C (L2 := [(1, .ref _), (2, .int _), (3, .int _)]) [1, 2, 0] dX2_pairs_3 rfl (by decide) rfl ?_
  exact (c_Fore_pairs_h4 C ho hr0 _ _ _ h)
theorem c_Fore_pairs {l : Launch} {D : va_G} {cI cZ cH cR : ClassId} {N : Nat} {ad : Nat → Nat} {EE : fw_M → Nat → va_E} {o : Nat} {r0 : Nat} {M : fw_M} {z : Int32} (ho : o_Fore EE ad N cI cZ cH cR o) (hr0 : o_Hall EE ad N cI cZ cH cR r0) (h : P_Fore_pairs o r0 M = some z) : fw_Met l yX2_pairs wsX2_pairs rm_Fore_pairs D vwCl (fw_tys cI cZ cH cR) N ad fw_nw0 EE [.ref (ad o), .ref (ad r0)] M (some (.int z)) M := by
  unfold P_Fore_pairs at h
  exact fw_intro (cc := cX2_pairs) (maxL := 5) (ret := some .int) (own := RX2) (by decide) rfl rfl (Nat.le_of_ble_eq_true rfl) (fun p e s m args below meth c C => fw_sub [1] rfl (c_Fore_pairs_b0 C ho hr0 h))
abbrev rm_Fore_firstPair : Room := { frames := 2, cells := 0, slots := 0, locals := 44 }
theorem hd_Fore_firstPair : yX2_firstPair.cls = RX2 ∧ yX2_firstPair.cls ≠ "java/lang/invoke/MethodHandle" ∧ yX2_firstPair.cls ≠ "java/lang/invoke/VarHandle" ∧ (parseMethodDescriptor yX2_firstPair.desc).map (fun d => d.parameters.length) = some 1 := by decide +kernel
theorem qX2_firstPair_77 : fw_G wsX2_firstPair RX2 77 RX3 TX3 9 2 := ⟨by decide +kernel, by decide +kernel, by decide⟩
def P_Fore_firstPair_b14 (o : Nat) (r0 : Nat) (M : fw_M) (K2 : Int32 → Option Int32) (K14 : Int32 → Int32 → Option Int32) (x2 : Int32) (x3 : Int32) : Option Int32 := (if (M r0 2) ≤ x3 then K2 (x2 + (1 : Int32)) else (P_Fore_isPair r0 M x2 x3).bind fun v2 => (if v2 = (0 : Int32) then K14 x2 (x3 + (1 : Int32)) else some (((10 : Int32) * x2) + x3)))
def P_Fore_firstPair_h14 (o : Nat) (r0 : Nat) (M : fw_M) (K2 : Int32 → Option Int32) : Nat → Int32 → Int32 → Option Int32
  | 0, _, _ => none
  | n + 1, x2, x3 => P_Fore_firstPair_b14 o r0 M K2 (P_Fore_firstPair_h14 o r0 M K2 n) x2 x3
def P_Fore_firstPair_b2 (o : Nat) (r0 : Nat) (M : fw_M) (K2 : Int32 → Option Int32) (x2 : Int32) : Option Int32 := (if (M r0 2) ≤ x2 then some (-1 : Int32) else fw_pl ((x2 + (1 : Int32))) fun y2 => P_Fore_firstPair_h14 o r0 M K2 fw_fu x2 y2)
def P_Fore_firstPair_h2 (o : Nat) (r0 : Nat) (M : fw_M) : Nat → Int32 → Option Int32
  | 0, _ => none
  | n + 1, x2 => P_Fore_firstPair_b2 o r0 M (P_Fore_firstPair_h2 o r0 M n) x2
def P_Fore_firstPair_b0 (o : Nat) (r0 : Nat) (M : fw_M) : Option Int32 := P_Fore_firstPair_h2 o r0 M fw_fu (0 : Int32)
def P_Fore_firstPair (o : Nat) (r0 : Nat) (M : fw_M) : Option Int32 := P_Fore_firstPair_b0 o r0 M
set_option maxRecDepth 100000 in
theorem c_Fore_firstPair_b14 {p : Program} {l : Launch} {e : Env} {s : State} {m : MethodId} {args : Array Value} {below : List Frame} {meth : Method} {c : Code} {D : va_G} {cI cZ cH cR : ClassId} {N : Nat} {ad : Nat → Nat} {EE : fw_M → Nat → va_E} {o : Nat} {r0 : Nat} {M : fw_M} {K2 : Int32 → Option Int32} {K14 : Int32 → Int32 → Option Int32} {x2 : Int32} {x3 : Int32} {z : Int32} (C : fw_C p s m args meth c cX2_firstPair RX2 wsX2_firstPair 4 (some .int) D vwCl (fw_tys cI cZ cH cR) N ad fw_nw0) (ho : o_Fore EE ad N cI cZ cH cR o) (hr0 : o_Hall EE ad N cI cZ cH cR r0) (hK2 : ∀ (kx2 : Int32), K2 kx2 = some z → fw_J p l e (headSpec wsX2_firstPair rm_Fore_firstPair).room s m args below meth c D vwCl N ad EE 4 0 0 (fw_E below args s D vwCl N ad EE (some (.int z)) M) M [(1, .ref (ad r0)), (2, .int kx2)] 2 []) (hK14 : ∀ (kx2 : Int32) (kx3 : Int32), K14 kx2 kx3 = some z → fw_J p l e (headSpec wsX2_firstPair rm_Fore_firstPair).room s m args below meth c D vwCl N ad EE 4 0 0 (fw_E below args s D vwCl N ad EE (some (.int z)) M) M [(1, .ref (ad r0)), (2, .int kx2), (3, .int kx3)] 14 []) (h : P_Fore_firstPair_b14 o r0 M K2 K14 x2 x3 = some z) : fw_J p l e (headSpec wsX2_firstPair rm_Fore_firstPair).room s m args below meth c D vwCl N ad EE 4 0 0 (fw_E below args s D vwCl N ad EE (some (.int z)) M) M [(1, .ref (ad r0)), (2, .int x2), (3, .int x3)] 14 [] := by
  unfold P_Fore_firstPair_b14 at h
  refine fw_iload_n (pc := 14) C 2 dX2_firstPair_14 rfl rfl ?_
  refine fw_aload_n (pc := 15) C 0 dX2_firstPair_15 rfl rfl ?_
  refine fw_geti (pc := 16) C hr0.2.2.2.1 rfl qX2_firstPair_77 dX2_firstPair_16 ?_
  refine fw_icmp_ge (pc := 19) C (tgt := 44) dX2_firstPair_19 (by decide) (fun c1 => ?_) (fun c1 => ?_)
  · have h := fw_ift h c1
    refine fw_iinc (pc := 44) C (v := 1) (L2 := [(1, .ref _), (2, .int _), (3, .int _)]) 1 [1, 0, 2] dX2_firstPair_44 rfl fk_iconst_1 (by decide) rfl ?_
    refine fw_goto (pc := 47) C (tgt := 2) dX2_firstPair_47 (by decide) ?_
    exact fw_sub [0, 1] rfl (hK2 _ h)
  · have h := fw_iff h c1
    refine fw_aload_n (pc := 22) C 0 dX2_firstPair_22 rfl rfl ?_
    refine fw_iload_n (pc := 23) C 1 dX2_firstPair_23 rfl rfl ?_
    refine fw_iload_n (pc := 24) C 2 dX2_firstPair_24 rfl rfl ?_
    obtain ⟨v2, hv2, h⟩ := fw_bind h
    refine fw_callS1 (pc := 25) C (rest := []) (c_Fore_isPair hr0 hv2) (va_cwS 3 C.2.2.2.2.1 gX2_firstPair_X2_isPair rfl rfl rfl hd_Fore_isPair.2 ⟨Nat.le_of_ble_eq_true rfl, Nat.le_of_ble_eq_true rfl⟩) rfl ⟨Nat.zero_le _, Nat.zero_le _⟩ rfl (Nat.le_of_ble_eq_true rfl) dX2_firstPair_25 ?_
    refine fw_if_eq (pc := 28) C (tgt := 38) dX2_firstPair_28 (by decide) (fun c3 => ?_) (fun c3 => ?_)
    · have h := fw_ift h c3
      refine fw_iinc (pc := 38) C (v := 1) (L2 := [(1, .ref _), (2, .int _), (3, .int _)]) 2 [1, 2, 0] dX2_firstPair_38 rfl fk_iconst_1 (by decide) rfl ?_
      refine fw_goto (pc := 41) C (tgt := 14) dX2_firstPair_41 (by decide) ?_
      exact (hK14 _ _ h)
    · have h := fw_iff h c3
      refine fw_bipush (pc := 31) C (v := 10) dX2_firstPair_31 fk_bipush_10 ?_
      refine fw_iload_n (pc := 33) C 1 dX2_firstPair_33 rfl rfl ?_
      refine fw_imul (pc := 34) C dX2_firstPair_34 ?_
      refine fw_iload_n (pc := 35) C 2 dX2_firstPair_35 rfl rfl ?_
      refine fw_iadd (pc := 36) C dX2_firstPair_36 ?_
      exact fw_iret (pc := 37) C (Option.some.inj h) rfl dX2_firstPair_37
theorem c_Fore_firstPair_h14 {p : Program} {l : Launch} {e : Env} {s : State} {m : MethodId} {args : Array Value} {below : List Frame} {meth : Method} {c : Code} {D : va_G} {cI cZ cH cR : ClassId} {N : Nat} {ad : Nat → Nat} {EE : fw_M → Nat → va_E} {o : Nat} {r0 : Nat} {M : fw_M} {K2 : Int32 → Option Int32} {z : Int32} (C : fw_C p s m args meth c cX2_firstPair RX2 wsX2_firstPair 4 (some .int) D vwCl (fw_tys cI cZ cH cR) N ad fw_nw0) (ho : o_Fore EE ad N cI cZ cH cR o) (hr0 : o_Hall EE ad N cI cZ cH cR r0) (hK2 : ∀ (kx2 : Int32), K2 kx2 = some z → fw_J p l e (headSpec wsX2_firstPair rm_Fore_firstPair).room s m args below meth c D vwCl N ad EE 4 0 0 (fw_E below args s D vwCl N ad EE (some (.int z)) M) M [(1, .ref (ad r0)), (2, .int kx2)] 2 []) : ∀ (n : Nat) (x2 : Int32) (x3 : Int32), P_Fore_firstPair_h14 o r0 M K2 n x2 x3 = some z → fw_J p l e (headSpec wsX2_firstPair rm_Fore_firstPair).room s m args below meth c D vwCl N ad EE 4 0 0 (fw_E below args s D vwCl N ad EE (some (.int z)) M) M [(1, .ref (ad r0)), (2, .int x2), (3, .int x3)] 14 [] := by
  intro n
  induction n with
  | zero => intro x2 x3  h; cases h
  | succ n ih => intro x2 x3  h; exact c_Fore_firstPair_b14 C ho hr0 hK2 ih  h
set_option maxRecDepth 100000 in
theorem c_Fore_firstPair_b2 {p : Program} {l : Launch} {e : Env} {s : State} {m : MethodId} {args : Array Value} {below : List Frame} {meth : Method} {c : Code} {D : va_G} {cI cZ cH cR : ClassId} {N : Nat} {ad : Nat → Nat} {EE : fw_M → Nat → va_E} {o : Nat} {r0 : Nat} {M : fw_M} {K2 : Int32 → Option Int32} {x2 : Int32} {z : Int32} (C : fw_C p s m args meth c cX2_firstPair RX2 wsX2_firstPair 4 (some .int) D vwCl (fw_tys cI cZ cH cR) N ad fw_nw0) (ho : o_Fore EE ad N cI cZ cH cR o) (hr0 : o_Hall EE ad N cI cZ cH cR r0) (hK2 : ∀ (kx2 : Int32), K2 kx2 = some z → fw_J p l e (headSpec wsX2_firstPair rm_Fore_firstPair).room s m args below meth c D vwCl N ad EE 4 0 0 (fw_E below args s D vwCl N ad EE (some (.int z)) M) M [(1, .ref (ad r0)), (2, .int kx2)] 2 []) (h : P_Fore_firstPair_b2 o r0 M K2 x2 = some z) : fw_J p l e (headSpec wsX2_firstPair rm_Fore_firstPair).room s m args below meth c D vwCl N ad EE 4 0 0 (fw_E below args s D vwCl N ad EE (some (.int z)) M) M [(1, .ref (ad r0)), (2, .int x2)] 2 [] := by
  unfold P_Fore_firstPair_b2 at h
  refine fw_iload_n (pc := 2) C 1 dX2_firstPair_2 rfl rfl ?_
  refine fw_aload_n (pc := 3) C 0 dX2_firstPair_3 rfl rfl ?_
  refine fw_geti (pc := 4) C hr0.2.2.2.1 rfl qX2_firstPair_77 dX2_firstPair_4 ?_
  refine fw_icmp_ge (pc := 7) C (tgt := 50) dX2_firstPair_7 (by decide) (fun c1 => ?_) (fun c1 => ?_)
  · have h := fw_ift h c1
    refine fw_iconst (pc := 50) C (v := -1) dX2_firstPair_50 fk_iconst_m1 ?_
    exact fw_iret (pc := 51) C (Option.some.inj h) rfl dX2_firstPair_51
  · have h := fw_iff h c1
    refine fw_iload_n (pc := 10) C 1 dX2_firstPair_10 rfl rfl ?_
    refine fw_iconst (pc := 11) C (v := 1) dX2_firstPair_11 fk_iconst_1 ?_
    refine fw_iadd (pc := 12) C dX2_firstPair_12 ?_
    have h := fw_plh h
    refine fw_istore_n (pc := 13) C (L2 := [(1, .ref _), (2, .int _), (3, .int _)]) [1, 2, 0] dX2_firstPair_13 rfl (by decide) rfl ?_
    exact (c_Fore_firstPair_h14 C ho hr0 hK2 _ _ _ h)
theorem c_Fore_firstPair_h2 {p : Program} {l : Launch} {e : Env} {s : State} {m : MethodId} {args : Array Value} {below : List Frame} {meth : Method} {c : Code} {D : va_G} {cI cZ cH cR : ClassId} {N : Nat} {ad : Nat → Nat} {EE : fw_M → Nat → va_E} {o : Nat} {r0 : Nat} {M : fw_M} {z : Int32} (C : fw_C p s m args meth c cX2_firstPair RX2 wsX2_firstPair 4 (some .int) D vwCl (fw_tys cI cZ cH cR) N ad fw_nw0) (ho : o_Fore EE ad N cI cZ cH cR o) (hr0 : o_Hall EE ad N cI cZ cH cR r0) : ∀ (n : Nat) (x2 : Int32), P_Fore_firstPair_h2 o r0 M n x2 = some z → fw_J p l e (headSpec wsX2_firstPair rm_Fore_firstPair).room s m args below meth c D vwCl N ad EE 4 0 0 (fw_E below args s D vwCl N ad EE (some (.int z)) M) M [(1, .ref (ad r0)), (2, .int x2)] 2 [] := by
  intro n
  induction n with
  | zero => intro x2  h; cases h
  | succ n ih => intro x2  h; exact c_Fore_firstPair_b2 C ho hr0 ih  h
set_option maxRecDepth 100000 in
theorem c_Fore_firstPair_b0 {p : Program} {l : Launch} {e : Env} {s : State} {m : MethodId} {args : Array Value} {below : List Frame} {meth : Method} {c : Code} {D : va_G} {cI cZ cH cR : ClassId} {N : Nat} {ad : Nat → Nat} {EE : fw_M → Nat → va_E} {o : Nat} {r0 : Nat} {M : fw_M} {z : Int32} (C : fw_C p s m args meth c cX2_firstPair RX2 wsX2_firstPair 4 (some .int) D vwCl (fw_tys cI cZ cH cR) N ad fw_nw0) (ho : o_Fore EE ad N cI cZ cH cR o) (hr0 : o_Hall EE ad N cI cZ cH cR r0) (h : P_Fore_firstPair_b0 o r0 M = some z) : fw_J p l e (headSpec wsX2_firstPair rm_Fore_firstPair).room s m args below meth c D vwCl N ad EE 4 0 0 (fw_E below args s D vwCl N ad EE (some (.int z)) M) M [(1, .ref (ad r0))] 0 [] := by
  unfold P_Fore_firstPair_b0 at h
  refine fw_iconst (pc := 0) C (v := 0) dX2_firstPair_0 fk_iconst_0 ?_
  refine fw_istore_n (pc := 1) C (L2 := [(1, .ref _), (2, .int _)]) [1, 0] dX2_firstPair_1 rfl (by decide) rfl ?_
  exact (c_Fore_firstPair_h2 C ho hr0 _ _ h)
theorem c_Fore_firstPair {l : Launch} {D : va_G} {cI cZ cH cR : ClassId} {N : Nat} {ad : Nat → Nat} {EE : fw_M → Nat → va_E} {o : Nat} {r0 : Nat} {M : fw_M} {z : Int32} (ho : o_Fore EE ad N cI cZ cH cR o) (hr0 : o_Hall EE ad N cI cZ cH cR r0) (h : P_Fore_firstPair o r0 M = some z) : fw_Met l yX2_firstPair wsX2_firstPair rm_Fore_firstPair D vwCl (fw_tys cI cZ cH cR) N ad fw_nw0 EE [.ref (ad o), .ref (ad r0)] M (some (.int z)) M := by
  unfold P_Fore_firstPair at h
  exact fw_intro (cc := cX2_firstPair) (maxL := 4) (ret := some .int) (own := RX2) (by decide) rfl rfl (Nat.le_of_ble_eq_true rfl) (fun p e s m args below meth c C => fw_sub [1] rfl (c_Fore_firstPair_b0 C ho hr0 h))
abbrev rm_Fore_casesOf : Room := { frames := 0, cells := 0, slots := 0, locals := 0 }
theorem hd_Fore_casesOf : yX2_casesOf.cls = RX2 ∧ yX2_casesOf.cls ≠ "java/lang/invoke/MethodHandle" ∧ yX2_casesOf.cls ≠ "java/lang/invoke/VarHandle" ∧ (parseMethodDescriptor yX2_casesOf.desc).map (fun d => d.parameters.length) = some 3 := by decide +kernel
def P_Fore_casesOf_b43 (M : fw_M) (K5 : Int32 → Int32 → Int32 → Int64 → Int32 → Option Int64) (x0 : Int32) (x1 : Int32) (x2 : Int32) (x3 : Int64) (x5 : Int32) : Option Int64 := K5 x0 x1 x2 x3 (x5 + (1 : Int32))
def P_Fore_casesOf_b41 (M : fw_M) (K5 : Int32 → Int32 → Int32 → Int64 → Int32 → Option Int64) (x0 : Int32) (x1 : Int32) (x2 : Int32) (x5 : Int32) (t0 : Int64) (t1 : Int64) : Option Int64 := fw_pl ((t0 * t1)) fun y1 => P_Fore_casesOf_b43 M K5 x0 x1 x2 y1 x5
def P_Fore_casesOf_b5 (M : fw_M) (K5 : Int32 → Int32 → Int32 → Int64 → Int32 → Option Int64) (x0 : Int32) (x1 : Int32) (x2 : Int32) (x3 : Int64) (x5 : Int32) : Option Int64 := (if (7 : Int32) ≤ x5 then some x3 else (if ((x0 >>> (x5 &&& 31)) &&& (1 : Int32)) = (0 : Int32) then P_Fore_casesOf_b43 M K5 x0 x1 x2 x3 x5 else (if ((x1 >>> (x5 &&& 31)) &&& (1 : Int32)) = (0 : Int32) then P_Fore_casesOf_b41 M K5 x0 x1 x2 x5 x3 (Int32.toInt64 x2) else P_Fore_casesOf_b41 M K5 x0 x1 x2 x5 x3 (Int32.toInt64 ((10 : Int32) - x2)))))
def P_Fore_casesOf_h5 (M : fw_M) : Nat → Int32 → Int32 → Int32 → Int64 → Int32 → Option Int64
  | 0, _, _, _, _, _ => none
  | n + 1, x0, x1, x2, x3, x5 => P_Fore_casesOf_b5 M (P_Fore_casesOf_h5 M n) x0 x1 x2 x3 x5
def P_Fore_casesOf_b0 (M : fw_M) (x0 : Int32) (x1 : Int32) (x2 : Int32) : Option Int64 := P_Fore_casesOf_h5 M fw_fu x0 x1 x2 (1 : Int64) (0 : Int32)
def P_Fore_casesOf (M : fw_M) (a0 : Int32) (a1 : Int32) (a2 : Int32) : Option Int64 := P_Fore_casesOf_b0 M a0 a1 a2
set_option maxRecDepth 100000 in
theorem c_Fore_casesOf_b43 {p : Program} {l : Launch} {e : Env} {s : State} {m : MethodId} {args : Array Value} {below : List Frame} {meth : Method} {c : Code} {D : va_G} {cI cZ cH cR : ClassId} {N : Nat} {ad : Nat → Nat} {EE : fw_M → Nat → va_E} {M : fw_M} {K5 : Int32 → Int32 → Int32 → Int64 → Int32 → Option Int64} {x0 : Int32} {x1 : Int32} {x2 : Int32} {x3 : Int64} {x5 : Int32} {z : Int64} (C : fw_C p s m args meth c cX2_casesOf RX2 wsX2_casesOf 6 (some .long) D vwCl (fw_tys cI cZ cH cR) N ad fw_nw0) (hK5 : ∀ (kx0 : Int32) (kx1 : Int32) (kx2 : Int32) (kx3 : Int64) (kx5 : Int32), K5 kx0 kx1 kx2 kx3 kx5 = some z → fw_J p l e (headSpec wsX2_casesOf rm_Fore_casesOf).room s m args below meth c D vwCl N ad EE 6 0 0 (fw_E below args s D vwCl N ad EE (some (.long z)) M) M [(0, .int kx0), (1, .int kx1), (2, .int kx2), (3, .long kx3), (5, .int kx5)] 5 []) (h : P_Fore_casesOf_b43 M K5 x0 x1 x2 x3 x5 = some z) : fw_J p l e (headSpec wsX2_casesOf rm_Fore_casesOf).room s m args below meth c D vwCl N ad EE 6 0 0 (fw_E below args s D vwCl N ad EE (some (.long z)) M) M [(0, .int x0), (1, .int x1), (2, .int x2), (3, .long x3), (5, .int x5)] 43 [] := by
  unfold P_Fore_casesOf_b43 at h
  refine fw_iinc (pc := 43) C (v := 1) (L2 := [(0, .int _), (1, .int _), (2, .int _), (3, .long _), (5, .int _)]) 4 [1, 2, 3, 4, 0] dX2_casesOf_43 rfl fk_iconst_1 (by decide) rfl ?_
  refine fw_goto (pc := 46) C (tgt := 5) dX2_casesOf_46 (by decide) ?_
  exact (hK5 _ _ _ _ _ h)
set_option maxRecDepth 100000 in
theorem c_Fore_casesOf_b41 {p : Program} {l : Launch} {e : Env} {s : State} {m : MethodId} {args : Array Value} {below : List Frame} {meth : Method} {c : Code} {D : va_G} {cI cZ cH cR : ClassId} {N : Nat} {ad : Nat → Nat} {EE : fw_M → Nat → va_E} {M : fw_M} {K5 : Int32 → Int32 → Int32 → Int64 → Int32 → Option Int64} {x0 : Int32} {x1 : Int32} {x2 : Int32} {x5 : Int32} {t0 : Int64} {t1 : Int64} {z : Int64} (C : fw_C p s m args meth c cX2_casesOf RX2 wsX2_casesOf 6 (some .long) D vwCl (fw_tys cI cZ cH cR) N ad fw_nw0) (hK5 : ∀ (kx0 : Int32) (kx1 : Int32) (kx2 : Int32) (kx3 : Int64) (kx5 : Int32), K5 kx0 kx1 kx2 kx3 kx5 = some z → fw_J p l e (headSpec wsX2_casesOf rm_Fore_casesOf).room s m args below meth c D vwCl N ad EE 6 0 0 (fw_E below args s D vwCl N ad EE (some (.long z)) M) M [(0, .int kx0), (1, .int kx1), (2, .int kx2), (3, .long kx3), (5, .int kx5)] 5 []) (h : P_Fore_casesOf_b41 M K5 x0 x1 x2 x5 t0 t1 = some z) : fw_J p l e (headSpec wsX2_casesOf rm_Fore_casesOf).room s m args below meth c D vwCl N ad EE 6 0 0 (fw_E below args s D vwCl N ad EE (some (.long z)) M) M [(0, .int x0), (1, .int x1), (2, .int x2), (5, .int x5)] 41 [.long t1, .long t0] := by
  unfold P_Fore_casesOf_b41 at h
  refine fw_lmul (pc := 41) C dX2_casesOf_41 ?_
  have h := fw_plh h
  refine fw_lstore_n (pc := 42) C (L2 := [(0, .int _), (1, .int _), (2, .int _), (3, .long _), (5, .int _)]) [1, 2, 3, 0, 4] dX2_casesOf_42 rfl (by decide) rfl ?_
  exact (c_Fore_casesOf_b43 C  hK5 h)
set_option maxRecDepth 100000 in
theorem c_Fore_casesOf_b5 {p : Program} {l : Launch} {e : Env} {s : State} {m : MethodId} {args : Array Value} {below : List Frame} {meth : Method} {c : Code} {D : va_G} {cI cZ cH cR : ClassId} {N : Nat} {ad : Nat → Nat} {EE : fw_M → Nat → va_E} {M : fw_M} {K5 : Int32 → Int32 → Int32 → Int64 → Int32 → Option Int64} {x0 : Int32} {x1 : Int32} {x2 : Int32} {x3 : Int64} {x5 : Int32} {z : Int64} (C : fw_C p s m args meth c cX2_casesOf RX2 wsX2_casesOf 6 (some .long) D vwCl (fw_tys cI cZ cH cR) N ad fw_nw0) (hK5 : ∀ (kx0 : Int32) (kx1 : Int32) (kx2 : Int32) (kx3 : Int64) (kx5 : Int32), K5 kx0 kx1 kx2 kx3 kx5 = some z → fw_J p l e (headSpec wsX2_casesOf rm_Fore_casesOf).room s m args below meth c D vwCl N ad EE 6 0 0 (fw_E below args s D vwCl N ad EE (some (.long z)) M) M [(0, .int kx0), (1, .int kx1), (2, .int kx2), (3, .long kx3), (5, .int kx5)] 5 []) (h : P_Fore_casesOf_b5 M K5 x0 x1 x2 x3 x5 = some z) : fw_J p l e (headSpec wsX2_casesOf rm_Fore_casesOf).room s m args below meth c D vwCl N ad EE 6 0 0 (fw_E below args s D vwCl N ad EE (some (.long z)) M) M [(0, .int x0), (1, .int x1), (2, .int x2), (3, .long x3), (5, .int x5)] 5 [] := by
  unfold P_Fore_casesOf_b5 at h
  refine fw_iload (pc := 5) C 4 dX2_casesOf_5 rfl ?_
  refine fw_bipush (pc := 7) C (v := 7) dX2_casesOf_7 fk_bipush_7 ?_
  refine fw_icmp_ge (pc := 9) C (tgt := 49) dX2_casesOf_9 (by decide) (fun c1 => ?_) (fun c1 => ?_)
  · have h := fw_ift h c1
    refine fw_lload_n (pc := 49) C 3 dX2_casesOf_49 rfl rfl ?_
    exact fw_lret (pc := 50) C (Option.some.inj h) rfl dX2_casesOf_50
  · have h := fw_iff h c1
    refine fw_iload_n (pc := 12) C 0 dX2_casesOf_12 rfl rfl ?_
    refine fw_iload (pc := 13) C 4 dX2_casesOf_13 rfl ?_
    refine fw_ishr (pc := 15) C dX2_casesOf_15 ?_
    refine fw_iconst (pc := 16) C (v := 1) dX2_casesOf_16 fk_iconst_1 ?_
    refine fw_iand (pc := 17) C dX2_casesOf_17 ?_
    refine fw_if_eq (pc := 18) C (tgt := 43) dX2_casesOf_18 (by decide) (fun c2 => ?_) (fun c2 => ?_)
    · have h := fw_ift h c2
      exact (c_Fore_casesOf_b43 C  hK5 h)
    · have h := fw_iff h c2
      refine fw_lload_n (pc := 21) C 3 dX2_casesOf_21 rfl rfl ?_
      refine fw_iload_n (pc := 22) C 1 dX2_casesOf_22 rfl rfl ?_
      refine fw_iload (pc := 23) C 4 dX2_casesOf_23 rfl ?_
      refine fw_ishr (pc := 25) C dX2_casesOf_25 ?_
      refine fw_iconst (pc := 26) C (v := 1) dX2_casesOf_26 fk_iconst_1 ?_
      refine fw_iand (pc := 27) C dX2_casesOf_27 ?_
      refine fw_if_eq (pc := 28) C (tgt := 39) dX2_casesOf_28 (by decide) (fun c3 => ?_) (fun c3 => ?_)
      · have h := fw_ift h c3
        refine fw_iload_n (pc := 39) C 2 dX2_casesOf_39 rfl rfl ?_
        refine fw_i2l (pc := 40) C dX2_casesOf_40 ?_
        exact fw_sub [0, 1, 2, 4] rfl (c_Fore_casesOf_b41 C  hK5 h)
      · have h := fw_iff h c3
        refine fw_bipush (pc := 31) C (v := 10) dX2_casesOf_31 fk_bipush_10 ?_
        refine fw_iload_n (pc := 33) C 2 dX2_casesOf_33 rfl rfl ?_
        refine fw_isub (pc := 34) C dX2_casesOf_34 ?_
        refine fw_i2l (pc := 35) C dX2_casesOf_35 ?_
        refine fw_goto (pc := 36) C (tgt := 41) dX2_casesOf_36 (by decide) ?_
        exact fw_sub [0, 1, 2, 4] rfl (c_Fore_casesOf_b41 C  hK5 h)
theorem c_Fore_casesOf_h5 {p : Program} {l : Launch} {e : Env} {s : State} {m : MethodId} {args : Array Value} {below : List Frame} {meth : Method} {c : Code} {D : va_G} {cI cZ cH cR : ClassId} {N : Nat} {ad : Nat → Nat} {EE : fw_M → Nat → va_E} {M : fw_M} {z : Int64} (C : fw_C p s m args meth c cX2_casesOf RX2 wsX2_casesOf 6 (some .long) D vwCl (fw_tys cI cZ cH cR) N ad fw_nw0) : ∀ (n : Nat) (x0 : Int32) (x1 : Int32) (x2 : Int32) (x3 : Int64) (x5 : Int32), P_Fore_casesOf_h5 M n x0 x1 x2 x3 x5 = some z → fw_J p l e (headSpec wsX2_casesOf rm_Fore_casesOf).room s m args below meth c D vwCl N ad EE 6 0 0 (fw_E below args s D vwCl N ad EE (some (.long z)) M) M [(0, .int x0), (1, .int x1), (2, .int x2), (3, .long x3), (5, .int x5)] 5 [] := by
  intro n
  induction n with
  | zero => intro x0 x1 x2 x3 x5  h; cases h
  | succ n ih => intro x0 x1 x2 x3 x5  h; exact c_Fore_casesOf_b5 C  ih  h
set_option maxRecDepth 100000 in
theorem c_Fore_casesOf_b0 {p : Program} {l : Launch} {e : Env} {s : State} {m : MethodId} {args : Array Value} {below : List Frame} {meth : Method} {c : Code} {D : va_G} {cI cZ cH cR : ClassId} {N : Nat} {ad : Nat → Nat} {EE : fw_M → Nat → va_E} {M : fw_M} {x0 : Int32} {x1 : Int32} {x2 : Int32} {z : Int64} (C : fw_C p s m args meth c cX2_casesOf RX2 wsX2_casesOf 6 (some .long) D vwCl (fw_tys cI cZ cH cR) N ad fw_nw0) (h : P_Fore_casesOf_b0 M x0 x1 x2 = some z) : fw_J p l e (headSpec wsX2_casesOf rm_Fore_casesOf).room s m args below meth c D vwCl N ad EE 6 0 0 (fw_E below args s D vwCl N ad EE (some (.long z)) M) M [(0, .int x0), (1, .int x1), (2, .int x2)] 0 [] := by
  unfold P_Fore_casesOf_b0 at h
  refine fw_lconst (pc := 0) C (v := 1) dX2_casesOf_0 fk_lconst_1 ?_
  refine fw_lstore_n (pc := 1) C (L2 := [(0, .int _), (1, .int _), (2, .int _), (3, .long _)]) [1, 2, 3, 0] dX2_casesOf_1 rfl (by decide) rfl ?_
  refine fw_iconst (pc := 2) C (v := 0) dX2_casesOf_2 fk_iconst_0 ?_
  refine fw_istore (pc := 3) C (L2 := [(0, .int _), (1, .int _), (2, .int _), (3, .long _), (5, .int _)]) [1, 2, 3, 4, 0] dX2_casesOf_3 (by decide) rfl ?_
  exact (c_Fore_casesOf_h5 C  _ _ _ _ _ _ h)
theorem c_Fore_casesOf {l : Launch} {D : va_G} {cI cZ cH cR : ClassId} {N : Nat} {ad : Nat → Nat} {EE : fw_M → Nat → va_E} {M : fw_M} {a0 : Int32} {a1 : Int32} {a2 : Int32} {z : Int64} (h : P_Fore_casesOf M a0 a1 a2 = some z) : fw_Met l yX2_casesOf wsX2_casesOf rm_Fore_casesOf D vwCl (fw_tys cI cZ cH cR) N ad fw_nw0 EE [.int a0, .int a1, .int a2] M (some (.long z)) M := by
  unfold P_Fore_casesOf at h
  exact fw_intro (cc := cX2_casesOf) (maxL := 6) (ret := some .long) (own := RX2) (by decide) rfl rfl (Nat.le_of_ble_eq_true rfl) (fun p e s m args below meth c C => fw_sub [0, 1, 2] rfl (c_Fore_casesOf_b0 C  h))
abbrev rm_Fore_casesOfGoing : Room := { frames := 2, cells := 0, slots := 0, locals := 46 }
theorem hd_Fore_casesOfGoing : yX2_casesOfGoing.cls = RX2 ∧ yX2_casesOfGoing.cls ≠ "java/lang/invoke/MethodHandle" ∧ yX2_casesOfGoing.cls ≠ "java/lang/invoke/VarHandle" ∧ (parseMethodDescriptor yX2_casesOfGoing.desc).map (fun d => d.parameters.length) = some 3 := by decide +kernel
theorem qX2_casesOfGoing_21 : fw_G wsX2_casesOfGoing RX2 21 RX2 TX2 3 1 := ⟨by decide +kernel, by decide +kernel, by decide⟩
def P_Fore_casesOfGoing_b73 (o : Nat) (r0 : Nat) (K27 : fw_M → Int32 → Int32 → Int32 → Int64 → Int32 → Option (Int64 × fw_M)) (M : fw_M) (x3 : Int32) (x4 : Int32) (x5 : Int32) (x6 : Int64) (x8 : Int32) : Option (Int64 × fw_M) := K27 M x3 x4 x5 x6 (x8 + (1 : Int32))
def P_Fore_casesOfGoing_b27 (o : Nat) (r0 : Nat) (K27 : fw_M → Int32 → Int32 → Int32 → Int64 → Int32 → Option (Int64 × fw_M)) (M : fw_M) (x3 : Int32) (x4 : Int32) (x5 : Int32) (x6 : Int64) (x8 : Int32) : Option (Int64 × fw_M) := (if (128 : Int32) ≤ x8 then some (x6, M) else (if (x8 &&& (x4 ^^^ (-1 : Int32))) = (0 : Int32) then (P_Law_first (o + 7) M x8 x5).bind fun v3 => (if v3 = (-1 : Int32) then P_Fore_casesOfGoing_b73 o r0 K27 M x3 x4 x5 x6 x8 else (P_Fore_casesOf M x4 x8 x3).bind fun v5 => fw_pl ((x6 + v5)) fun y6 => P_Fore_casesOfGoing_b73 o r0 K27 M x3 x4 x5 y6 x8) else P_Fore_casesOfGoing_b73 o r0 K27 M x3 x4 x5 x6 x8))
def P_Fore_casesOfGoing_h27 (o : Nat) (r0 : Nat) : Nat → fw_M → Int32 → Int32 → Int32 → Int64 → Int32 → Option (Int64 × fw_M)
  | 0, _, _, _, _, _, _ => none
  | n + 1, M, x3, x4, x5, x6, x8 => P_Fore_casesOfGoing_b27 o r0 (P_Fore_casesOfGoing_h27 o r0 n) M x3 x4 x5 x6 x8
def P_Fore_casesOfGoing_b0 (o : Nat) (r0 : Nat) (M : fw_M) (x2 : Int32) (x3 : Int32) : Option (Int64 × fw_M) := (P_Law_read (o + 7) r0 M).bind fun q1 => (P_Hall_waitingAt r0 q1 x2).bind fun v2 => (P_Hall_nobodies r0 q1).bind fun v3 => P_Fore_casesOfGoing_h27 o r0 fw_fu q1 x3 v2 v3 (0 : Int64) (1 : Int32)
def P_Fore_casesOfGoing (o : Nat) (r0 : Nat) (M : fw_M) (a1 : Int32) (a2 : Int32) : Option (Int64 × fw_M) := P_Fore_casesOfGoing_b0 o r0 M a1 a2
set_option maxRecDepth 100000 in
theorem c_Fore_casesOfGoing_b73 {p : Program} {l : Launch} {e : Env} {s : State} {m : MethodId} {args : Array Value} {below : List Frame} {meth : Method} {c : Code} {D : va_G} {cI cZ cH cR : ClassId} {N : Nat} {ad : Nat → Nat} {EE : fw_M → Nat → va_E} {o : Nat} {r0 : Nat} {K27 : fw_M → Int32 → Int32 → Int32 → Int64 → Int32 → Option (Int64 × fw_M)} {M : fw_M} {x3 : Int32} {x4 : Int32} {x5 : Int32} {x6 : Int64} {x8 : Int32} {z : (Int64 × fw_M)} (C : fw_C p s m args meth c cX2_casesOfGoing RX2 wsX2_casesOfGoing 9 (some .long) D vwCl (fw_tys cI cZ cH cR) N ad fw_nw0) (ho : o_Fore EE ad N cI cZ cH cR o) (hr0 : o_Hall EE ad N cI cZ cH cR r0) (hK27 : ∀ (Mk : fw_M) (kx3 : Int32) (kx4 : Int32) (kx5 : Int32) (kx6 : Int64) (kx8 : Int32), K27 Mk kx3 kx4 kx5 kx6 kx8 = some z → fw_J p l e (headSpec wsX2_casesOfGoing rm_Fore_casesOfGoing).room s m args below meth c D vwCl N ad EE 9 0 0 (fw_E below args s D vwCl N ad EE (some (.long z.1)) z.2) Mk [(0, .ref (ad o)), (3, .int kx3), (4, .int kx4), (5, .int kx5), (6, .long kx6), (8, .int kx8)] 27 []) (h : P_Fore_casesOfGoing_b73 o r0 K27 M x3 x4 x5 x6 x8 = some z) : fw_J p l e (headSpec wsX2_casesOfGoing rm_Fore_casesOfGoing).room s m args below meth c D vwCl N ad EE 9 0 0 (fw_E below args s D vwCl N ad EE (some (.long z.1)) z.2) M [(0, .ref (ad o)), (3, .int x3), (4, .int x4), (5, .int x5), (6, .long x6), (8, .int x8)] 73 [] := by
  unfold P_Fore_casesOfGoing_b73 at h
  refine fw_iinc (pc := 73) C (v := 1) (L2 := [(0, .ref _), (3, .int _), (4, .int _), (5, .int _), (6, .long _), (8, .int _)]) 5 [1, 2, 3, 4, 5, 0] dX2_casesOfGoing_73 rfl fk_iconst_1 (by decide) rfl ?_
  refine fw_goto (pc := 76) C (tgt := 27) dX2_casesOfGoing_76 (by decide) ?_
  exact (hK27 _ _ _ _ _ _ h)
set_option maxRecDepth 100000 in
theorem c_Fore_casesOfGoing_b27 {p : Program} {l : Launch} {e : Env} {s : State} {m : MethodId} {args : Array Value} {below : List Frame} {meth : Method} {c : Code} {D : va_G} {cI cZ cH cR : ClassId} {N : Nat} {ad : Nat → Nat} {EE : fw_M → Nat → va_E} {o : Nat} {r0 : Nat} {K27 : fw_M → Int32 → Int32 → Int32 → Int64 → Int32 → Option (Int64 × fw_M)} {M : fw_M} {x3 : Int32} {x4 : Int32} {x5 : Int32} {x6 : Int64} {x8 : Int32} {z : (Int64 × fw_M)} (C : fw_C p s m args meth c cX2_casesOfGoing RX2 wsX2_casesOfGoing 9 (some .long) D vwCl (fw_tys cI cZ cH cR) N ad fw_nw0) (ho : o_Fore EE ad N cI cZ cH cR o) (hr0 : o_Hall EE ad N cI cZ cH cR r0) (hK27 : ∀ (Mk : fw_M) (kx3 : Int32) (kx4 : Int32) (kx5 : Int32) (kx6 : Int64) (kx8 : Int32), K27 Mk kx3 kx4 kx5 kx6 kx8 = some z → fw_J p l e (headSpec wsX2_casesOfGoing rm_Fore_casesOfGoing).room s m args below meth c D vwCl N ad EE 9 0 0 (fw_E below args s D vwCl N ad EE (some (.long z.1)) z.2) Mk [(0, .ref (ad o)), (3, .int kx3), (4, .int kx4), (5, .int kx5), (6, .long kx6), (8, .int kx8)] 27 []) (h : P_Fore_casesOfGoing_b27 o r0 K27 M x3 x4 x5 x6 x8 = some z) : fw_J p l e (headSpec wsX2_casesOfGoing rm_Fore_casesOfGoing).room s m args below meth c D vwCl N ad EE 9 0 0 (fw_E below args s D vwCl N ad EE (some (.long z.1)) z.2) M [(0, .ref (ad o)), (3, .int x3), (4, .int x4), (5, .int x5), (6, .long x6), (8, .int x8)] 27 [] := by
  unfold P_Fore_casesOfGoing_b27 at h
  refine fw_iload (pc := 27) C 5 dX2_casesOfGoing_27 rfl ?_
  refine fw_sipush (pc := 29) C (v := 128) dX2_casesOfGoing_29 fk_sipush_128 ?_
  refine fw_icmp_ge (pc := 32) C (tgt := 79) dX2_casesOfGoing_32 (by decide) (fun c1 => ?_) (fun c1 => ?_)
  · have h := fw_ift h c1
    refine fw_lload (pc := 79) C 4 dX2_casesOfGoing_79 rfl ?_
    exact fw_lret (pc := 81) C (fw_p1 h) (fw_p2 h) dX2_casesOfGoing_81
  · have h := fw_iff h c1
    refine fw_iload (pc := 35) C 5 dX2_casesOfGoing_35 rfl ?_
    refine fw_iload (pc := 37) C 2 dX2_casesOfGoing_37 rfl ?_
    refine fw_iconst (pc := 39) C (v := -1) dX2_casesOfGoing_39 fk_iconst_m1 ?_
    refine fw_ixor (pc := 40) C dX2_casesOfGoing_40 ?_
    refine fw_iand (pc := 41) C dX2_casesOfGoing_41 ?_
    refine fw_if_ne (pc := 42) C (tgt := 73) dX2_casesOfGoing_42 (by decide) (fun c2 => ?_) (fun c2 => ?_)
    · have h := fw_iff h c2
      exact (c_Fore_casesOfGoing_b73 C ho hr0 hK27 h)
    · have h := fw_ift h c2
      refine fw_aload_n (pc := 45) C 0 dX2_casesOfGoing_45 rfl rfl ?_
      refine fw_getr (pc := 46) C ho.2.2.1.1 rfl qX2_casesOfGoing_21 dX2_casesOfGoing_46 ?_
      refine fw_iload (pc := 49) C 5 dX2_casesOfGoing_49 rfl ?_
      refine fw_iload (pc := 51) C 3 dX2_casesOfGoing_51 rfl ?_
      obtain ⟨v3, hv3, h⟩ := fw_bind h
      refine fw_callV1 (pc := 53) C (rest := []) (c_Law_first ho.2.2.1.2 hv3) (cwV 2 C.2.2.2.2.1 gX2_casesOfGoing_X4_first rfl rfl rfl hd_Law_first ⟨Nat.le_of_ble_eq_true rfl, Nat.le_of_ble_eq_true rfl⟩) ho.2.2.1.2.1 rfl rfl ⟨Nat.zero_le _, Nat.zero_le _⟩ rfl (Nat.le_of_ble_eq_true rfl) dX2_casesOfGoing_53 ?_
      refine fw_iconst (pc := 56) C (v := -1) dX2_casesOfGoing_56 fk_iconst_m1 ?_
      refine fw_icmp_eq (pc := 57) C (tgt := 73) dX2_casesOfGoing_57 (by decide) (fun c4 => ?_) (fun c4 => ?_)
      · have h := fw_ift h c4
        exact (c_Fore_casesOfGoing_b73 C ho hr0 hK27 h)
      · have h := fw_iff h c4
        refine fw_lload (pc := 60) C 4 dX2_casesOfGoing_60 rfl ?_
        refine fw_iload (pc := 62) C 2 dX2_casesOfGoing_62 rfl ?_
        refine fw_iload (pc := 64) C 5 dX2_casesOfGoing_64 rfl ?_
        refine fw_iload_n (pc := 66) C 1 dX2_casesOfGoing_66 rfl rfl ?_
        obtain ⟨v5, hv5, h⟩ := fw_bind h
        refine fw_callS1 (pc := 67) C (rest := [_]) (c_Fore_casesOf  hv5) (va_cwS 3 C.2.2.2.2.1 gX2_casesOfGoing_X2_casesOf rfl rfl rfl hd_Fore_casesOf.2 ⟨Nat.le_of_ble_eq_true rfl, Nat.le_of_ble_eq_true rfl⟩) rfl ⟨Nat.zero_le _, Nat.zero_le _⟩ rfl (Nat.le_of_ble_eq_true rfl) dX2_casesOfGoing_67 ?_
        refine fw_ladd (pc := 70) C dX2_casesOfGoing_70 ?_
        have h := fw_plh h
        refine fw_lstore (pc := 71) C (L2 := [(0, .ref _), (3, .int _), (4, .int _), (5, .int _), (6, .long _), (8, .int _)]) [1, 2, 3, 4, 0, 5] dX2_casesOfGoing_71 (by decide) rfl ?_
        exact (c_Fore_casesOfGoing_b73 C ho hr0 hK27 h)
theorem c_Fore_casesOfGoing_h27 {p : Program} {l : Launch} {e : Env} {s : State} {m : MethodId} {args : Array Value} {below : List Frame} {meth : Method} {c : Code} {D : va_G} {cI cZ cH cR : ClassId} {N : Nat} {ad : Nat → Nat} {EE : fw_M → Nat → va_E} {o : Nat} {r0 : Nat} {z : (Int64 × fw_M)} (C : fw_C p s m args meth c cX2_casesOfGoing RX2 wsX2_casesOfGoing 9 (some .long) D vwCl (fw_tys cI cZ cH cR) N ad fw_nw0) (ho : o_Fore EE ad N cI cZ cH cR o) (hr0 : o_Hall EE ad N cI cZ cH cR r0) : ∀ (n : Nat) (M : fw_M) (x3 : Int32) (x4 : Int32) (x5 : Int32) (x6 : Int64) (x8 : Int32), P_Fore_casesOfGoing_h27 o r0 n M x3 x4 x5 x6 x8 = some z → fw_J p l e (headSpec wsX2_casesOfGoing rm_Fore_casesOfGoing).room s m args below meth c D vwCl N ad EE 9 0 0 (fw_E below args s D vwCl N ad EE (some (.long z.1)) z.2) M [(0, .ref (ad o)), (3, .int x3), (4, .int x4), (5, .int x5), (6, .long x6), (8, .int x8)] 27 [] := by
  intro n
  induction n with
  | zero => intro M x3 x4 x5 x6 x8  h; cases h
  | succ n ih => intro M x3 x4 x5 x6 x8  h; exact c_Fore_casesOfGoing_b27 C ho hr0 ih  h
set_option maxRecDepth 100000 in
theorem c_Fore_casesOfGoing_b0 {p : Program} {l : Launch} {e : Env} {s : State} {m : MethodId} {args : Array Value} {below : List Frame} {meth : Method} {c : Code} {D : va_G} {cI cZ cH cR : ClassId} {N : Nat} {ad : Nat → Nat} {EE : fw_M → Nat → va_E} {o : Nat} {r0 : Nat} {M : fw_M} {x2 : Int32} {x3 : Int32} {z : (Int64 × fw_M)} (C : fw_C p s m args meth c cX2_casesOfGoing RX2 wsX2_casesOfGoing 9 (some .long) D vwCl (fw_tys cI cZ cH cR) N ad fw_nw0) (ho : o_Fore EE ad N cI cZ cH cR o) (hr0 : o_Hall EE ad N cI cZ cH cR r0) (h : P_Fore_casesOfGoing_b0 o r0 M x2 x3 = some z) : fw_J p l e (headSpec wsX2_casesOfGoing rm_Fore_casesOfGoing).room s m args below meth c D vwCl N ad EE 9 0 0 (fw_E below args s D vwCl N ad EE (some (.long z.1)) z.2) M [(0, .ref (ad o)), (1, .ref (ad r0)), (2, .int x2), (3, .int x3)] 0 [] := by
  unfold P_Fore_casesOfGoing_b0 at h
  refine fw_aload_n (pc := 0) C 0 dX2_casesOfGoing_0 rfl rfl ?_
  refine fw_getr (pc := 1) C ho.2.2.1.1 rfl qX2_casesOfGoing_21 dX2_casesOfGoing_1 ?_
  refine fw_aload_n (pc := 4) C 1 dX2_casesOfGoing_4 rfl rfl ?_
  obtain ⟨q1, hq1, h⟩ := fw_bind h
  refine fw_callV0 (pc := 5) C (rest := []) (c_Law_read ho.2.2.1.2 hr0 hq1) (cwV 1 C.2.2.2.2.1 gX2_casesOfGoing_X4_read rfl rfl rfl hd_Law_read ⟨Nat.le_of_ble_eq_true rfl, Nat.le_of_ble_eq_true rfl⟩) ho.2.2.1.2.1 rfl rfl ⟨Nat.zero_le _, Nat.zero_le _⟩ rfl (Nat.le_of_ble_eq_true rfl) dX2_casesOfGoing_5 ?_
  refine fw_aload_n (pc := 8) C 1 dX2_casesOfGoing_8 rfl rfl ?_
  refine fw_iload_n (pc := 9) C 2 dX2_casesOfGoing_9 rfl rfl ?_
  obtain ⟨v2, hv2, h⟩ := fw_bind h
  refine fw_callV1 (pc := 10) C (rest := []) (c_Hall_waitingAt hr0 hv2) (cwV 1 C.2.2.2.2.1 gX2_casesOfGoing_X3_waitingAt rfl rfl rfl hd_Hall_waitingAt ⟨Nat.le_of_ble_eq_true rfl, Nat.le_of_ble_eq_true rfl⟩) hr0.1 rfl rfl ⟨Nat.zero_le _, Nat.zero_le _⟩ rfl (Nat.le_of_ble_eq_true rfl) dX2_casesOfGoing_10 ?_
  refine fw_istore (pc := 13) C (L2 := [(0, .ref _), (1, .ref _), (2, .int _), (3, .int _), (4, .int _)]) [1, 2, 3, 4, 0] dX2_casesOfGoing_13 (by decide) rfl ?_
  refine fw_aload_n (pc := 15) C 1 dX2_casesOfGoing_15 rfl rfl ?_
  obtain ⟨v3, hv3, h⟩ := fw_bind h
  refine fw_callV1 (pc := 16) C (rest := []) (c_Hall_nobodies hr0 hv3) (cwV 0 C.2.2.2.2.1 gX2_casesOfGoing_X3_nobodies rfl rfl rfl hd_Hall_nobodies ⟨Nat.le_of_ble_eq_true rfl, Nat.le_of_ble_eq_true rfl⟩) hr0.1 rfl rfl ⟨Nat.zero_le _, Nat.zero_le _⟩ rfl (Nat.le_of_ble_eq_true rfl) dX2_casesOfGoing_16 ?_
  refine fw_istore (pc := 19) C (L2 := [(0, .ref _), (1, .ref _), (2, .int _), (3, .int _), (4, .int _), (5, .int _)]) [1, 2, 3, 4, 5, 0] dX2_casesOfGoing_19 (by decide) rfl ?_
  refine fw_lconst (pc := 21) C (v := 0) dX2_casesOfGoing_21 fk_lconst_0 ?_
  refine fw_lstore (pc := 22) C (L2 := [(0, .ref _), (1, .ref _), (2, .int _), (3, .int _), (4, .int _), (5, .int _), (6, .long _)]) [1, 2, 3, 4, 5, 6, 0] dX2_casesOfGoing_22 (by decide) rfl ?_
  refine fw_iconst (pc := 24) C (v := 1) dX2_casesOfGoing_24 fk_iconst_1 ?_
  refine fw_istore (pc := 25) C (L2 := [(0, .ref _), (1, .ref _), (2, .int _), (3, .int _), (4, .int _), (5, .int _), (6, .long _), (8, .int _)]) [1, 2, 3, 4, 5, 6, 7, 0] dX2_casesOfGoing_25 (by decide) rfl ?_
  exact fw_sub [0, 3, 4, 5, 6, 7] rfl (c_Fore_casesOfGoing_h27 C ho hr0 _ _ _ _ _ _ _ h)
theorem c_Fore_casesOfGoing {l : Launch} {D : va_G} {cI cZ cH cR : ClassId} {N : Nat} {ad : Nat → Nat} {EE : fw_M → Nat → va_E} {o : Nat} {r0 : Nat} {M : fw_M} {a1 : Int32} {a2 : Int32} {z : (Int64 × fw_M)} (ho : o_Fore EE ad N cI cZ cH cR o) (hr0 : o_Hall EE ad N cI cZ cH cR r0) (h : P_Fore_casesOfGoing o r0 M a1 a2 = some z) : fw_Met l yX2_casesOfGoing wsX2_casesOfGoing rm_Fore_casesOfGoing D vwCl (fw_tys cI cZ cH cR) N ad fw_nw0 EE [.ref (ad o), .ref (ad r0), .int a1, .int a2] M (some (.long z.1)) z.2 := by
  unfold P_Fore_casesOfGoing at h
  exact fw_intro (cc := cX2_casesOfGoing) (maxL := 9) (ret := some .long) (own := RX2) (by decide) rfl rfl (Nat.le_of_ble_eq_true rfl) (fun p e s m args below meth c C => fw_sub [0, 1, 2, 3] rfl (c_Fore_casesOfGoing_b0 C ho hr0 h))
abbrev rm_Fore_draw : Room := { frames := 0, cells := 0, slots := 0, locals := 0 }
theorem hd_Fore_draw : yX2_draw.cls = RX2 ∧ yX2_draw.cls ≠ "java/lang/invoke/MethodHandle" ∧ yX2_draw.cls ≠ "java/lang/invoke/VarHandle" ∧ (parseMethodDescriptor yX2_draw.desc).map (fun d => d.parameters.length) = some 1 := by decide +kernel
theorem qX2_draw_12 : fw_G wsX2_draw RX2 12 RX2 TX2 3 0 := ⟨by decide +kernel, by decide +kernel, by decide⟩
theorem qX2_draw_77 : fw_G wsX2_draw RX2 77 RX3 TX3 9 2 := ⟨by decide +kernel, by decide +kernel, by decide⟩
theorem qX2_draw_61 : fw_G wsX2_draw RX2 61 RX3 TX3 9 0 := ⟨by decide +kernel, by decide +kernel, by decide⟩
theorem qX2_draw_51 : fw_G wsX2_draw RX2 51 RX3 TX3 9 7 := ⟨by decide +kernel, by decide +kernel, by decide⟩
theorem qX2_draw_163 : fw_G wsX2_draw RX2 163 RX3 TX3 9 8 := ⟨by decide +kernel, by decide +kernel, by decide⟩
theorem qX2_draw_102 : fw_G wsX2_draw RX2 102 RX3 TX3 9 1 := ⟨by decide +kernel, by decide +kernel, by decide⟩
def P_Fore_draw_b22 (o : Nat) (M : fw_M) : Option fw_M := some M
def P_Fore_draw_b45 (o : Nat) (M : fw_M) : Option fw_M := some M
def P_Fore_draw_b98 (o : Nat) (M : fw_M) : Option fw_M := some M
def P_Fore_draw_b0 (o : Nat) (M : fw_M) (x1 : Int64) : Option fw_M := (if (M (o + 1) 2) < (1 : Int32) then P_Fore_draw_b22 o M else (if (1 : Int32) ≤ (M (o + 1) 0) then (fw_lremP x1 (Int32.toInt64 (M (o + 1) 2))).bind fun v3 => fw_pl ((Int64.toInt32 v3)) fun y4 => (if y4 < (0 : Int32) then P_Fore_draw_b45 o M else (if y4 < (7 : Int32) then (fw_ald M ((o + 1) + 4) 7 y4).bind fun v7 => (if v7 = (-1 : Int32) then (fw_lremP x1 (Int32.toInt64 (M (o + 1) 0))).bind fun v10 => (fw_ast M ((o + 1) + 4) 7 y4 (Int64.toInt32 v10)).bind fun M11 => P_Fore_draw_b98 o M11 else (fw_ast M ((o + 1) + 5) 7 y4 (M (o + 1) 1)).bind fun M9 => P_Fore_draw_b98 o M9) else P_Fore_draw_b45 o M)) else P_Fore_draw_b22 o M))
def P_Fore_draw (o : Nat) (M : fw_M) (a0 : Int64) : Option fw_M := P_Fore_draw_b0 o M a0
set_option maxRecDepth 100000 in
theorem c_Fore_draw_b22 {p : Program} {l : Launch} {e : Env} {s : State} {m : MethodId} {args : Array Value} {below : List Frame} {meth : Method} {c : Code} {D : va_G} {cI cZ cH cR : ClassId} {N : Nat} {ad : Nat → Nat} {EE : fw_M → Nat → va_E} {o : Nat} {M : fw_M} {z : fw_M} (C : fw_C p s m args meth c cX2_draw RX2 wsX2_draw 4 (none) D vwCl (fw_tys cI cZ cH cR) N ad fw_nw0) (ho : o_Fore EE ad N cI cZ cH cR o) (h : P_Fore_draw_b22 o M = some z) : fw_J p l e (headSpec wsX2_draw rm_Fore_draw).room s m args below meth c D vwCl N ad EE 4 0 0 (fw_E below args s D vwCl N ad EE none z) M [] 22 [] := by
  unfold P_Fore_draw_b22 at h
  exact fw_vret (pc := 22) C (Option.some.inj h) dX2_draw_22
set_option maxRecDepth 100000 in
theorem c_Fore_draw_b45 {p : Program} {l : Launch} {e : Env} {s : State} {m : MethodId} {args : Array Value} {below : List Frame} {meth : Method} {c : Code} {D : va_G} {cI cZ cH cR : ClassId} {N : Nat} {ad : Nat → Nat} {EE : fw_M → Nat → va_E} {o : Nat} {M : fw_M} {z : fw_M} (C : fw_C p s m args meth c cX2_draw RX2 wsX2_draw 4 (none) D vwCl (fw_tys cI cZ cH cR) N ad fw_nw0) (ho : o_Fore EE ad N cI cZ cH cR o) (h : P_Fore_draw_b45 o M = some z) : fw_J p l e (headSpec wsX2_draw rm_Fore_draw).room s m args below meth c D vwCl N ad EE 4 0 0 (fw_E below args s D vwCl N ad EE none z) M [] 45 [] := by
  unfold P_Fore_draw_b45 at h
  exact fw_vret (pc := 45) C (Option.some.inj h) dX2_draw_45
set_option maxRecDepth 100000 in
theorem c_Fore_draw_b98 {p : Program} {l : Launch} {e : Env} {s : State} {m : MethodId} {args : Array Value} {below : List Frame} {meth : Method} {c : Code} {D : va_G} {cI cZ cH cR : ClassId} {N : Nat} {ad : Nat → Nat} {EE : fw_M → Nat → va_E} {o : Nat} {M : fw_M} {z : fw_M} (C : fw_C p s m args meth c cX2_draw RX2 wsX2_draw 4 (none) D vwCl (fw_tys cI cZ cH cR) N ad fw_nw0) (ho : o_Fore EE ad N cI cZ cH cR o) (h : P_Fore_draw_b98 o M = some z) : fw_J p l e (headSpec wsX2_draw rm_Fore_draw).room s m args below meth c D vwCl N ad EE 4 0 0 (fw_E below args s D vwCl N ad EE none z) M [] 98 [] := by
  unfold P_Fore_draw_b98 at h
  exact fw_vret (pc := 98) C (Option.some.inj h) dX2_draw_98
set_option maxRecDepth 100000 in
theorem c_Fore_draw_b0 {p : Program} {l : Launch} {e : Env} {s : State} {m : MethodId} {args : Array Value} {below : List Frame} {meth : Method} {c : Code} {D : va_G} {cI cZ cH cR : ClassId} {N : Nat} {ad : Nat → Nat} {EE : fw_M → Nat → va_E} {o : Nat} {M : fw_M} {x1 : Int64} {z : fw_M} (C : fw_C p s m args meth c cX2_draw RX2 wsX2_draw 4 (none) D vwCl (fw_tys cI cZ cH cR) N ad fw_nw0) (ho : o_Fore EE ad N cI cZ cH cR o) (h : P_Fore_draw_b0 o M x1 = some z) : fw_J p l e (headSpec wsX2_draw rm_Fore_draw).room s m args below meth c D vwCl N ad EE 4 0 0 (fw_E below args s D vwCl N ad EE none z) M [(0, .ref (ad o)), (1, .long x1)] 0 [] := by
  unfold P_Fore_draw_b0 at h
  refine fw_aload_n (pc := 0) C 0 dX2_draw_0 rfl rfl ?_
  refine fw_getr (pc := 1) C ho.2.1.1 rfl qX2_draw_12 dX2_draw_1 ?_
  refine fw_geti (pc := 4) C ho.2.1.2.2.2.2.1 rfl qX2_draw_77 dX2_draw_4 ?_
  refine fw_iconst (pc := 7) C (v := 1) dX2_draw_7 fk_iconst_1 ?_
  refine fw_icmp_lt (pc := 8) C (tgt := 22) dX2_draw_8 (by decide) (fun c1 => ?_) (fun c1 => ?_)
  · have h := fw_ift h c1
    exact fw_sub [] rfl (c_Fore_draw_b22 C ho h)
  · have h := fw_iff h c1
    refine fw_aload_n (pc := 11) C 0 dX2_draw_11 rfl rfl ?_
    refine fw_getr (pc := 12) C ho.2.1.1 rfl qX2_draw_12 dX2_draw_12 ?_
    refine fw_geti (pc := 15) C ho.2.1.2.2.1 rfl qX2_draw_61 dX2_draw_15 ?_
    refine fw_iconst (pc := 18) C (v := 1) dX2_draw_18 fk_iconst_1 ?_
    refine fw_icmp_ge (pc := 19) C (tgt := 23) dX2_draw_19 (by decide) (fun c2 => ?_) (fun c2 => ?_)
    · have h := fw_ift h c2
      refine fw_lload_n (pc := 23) C 1 dX2_draw_23 rfl rfl ?_
      refine fw_aload_n (pc := 24) C 0 dX2_draw_24 rfl rfl ?_
      refine fw_getr (pc := 25) C ho.2.1.1 rfl qX2_draw_12 dX2_draw_25 ?_
      refine fw_geti (pc := 28) C ho.2.1.2.2.2.2.1 rfl qX2_draw_77 dX2_draw_28 ?_
      refine fw_i2l (pc := 31) C dX2_draw_31 ?_
      obtain ⟨v3, hv3, h⟩ := fw_bind h
      refine fw_lrem (pc := 32) C dX2_draw_32 hv3 ?_
      refine fw_l2i (pc := 33) C dX2_draw_33 ?_
      have h := fw_plh h
      refine fw_istore_n (pc := 34) C (L2 := [(0, .ref _), (1, .long _), (3, .int _)]) [1, 2, 0] dX2_draw_34 rfl (by decide) rfl ?_
      refine fw_iload_n (pc := 35) C 2 dX2_draw_35 rfl rfl ?_
      refine fw_if_lt (pc := 36) C (tgt := 45) dX2_draw_36 (by decide) (fun c5 => ?_) (fun c5 => ?_)
      · have h := fw_ift h c5
        exact fw_sub [] rfl (c_Fore_draw_b45 C ho h)
      · have h := fw_iff h c5
        refine fw_iload_n (pc := 39) C 2 dX2_draw_39 rfl rfl ?_
        refine fw_bipush (pc := 40) C (v := 7) dX2_draw_40 fk_bipush_7 ?_
        refine fw_icmp_lt (pc := 42) C (tgt := 46) dX2_draw_42 (by decide) (fun c6 => ?_) (fun c6 => ?_)
        · have h := fw_ift h c6
          refine fw_aload_n (pc := 46) C 0 dX2_draw_46 rfl rfl ?_
          refine fw_getr (pc := 47) C ho.2.1.1 rfl qX2_draw_12 dX2_draw_47 ?_
          refine fw_getr (pc := 50) C ho.2.1.2.2.2.2.2.2.2.2.2.1.1 rfl qX2_draw_51 dX2_draw_50 ?_
          refine fw_iload_n (pc := 53) C 2 dX2_draw_53 rfl rfl ?_
          obtain ⟨v7, hv7, h⟩ := fw_bind h
          refine fw_iald (pc := 54) C 0 ho.2.1.2.2.2.2.2.2.2.2.2.1.2 rfl hv7 dX2_draw_54 ?_
          refine fw_iconst (pc := 55) C (v := -1) dX2_draw_55 fk_iconst_m1 ?_
          refine fw_icmp_ne (pc := 56) C (tgt := 82) dX2_draw_56 (by decide) (fun c8 => ?_) (fun c8 => ?_)
          · have h := fw_iff h c8
            refine fw_aload_n (pc := 82) C 0 dX2_draw_82 rfl rfl ?_
            refine fw_getr (pc := 83) C ho.2.1.1 rfl qX2_draw_12 dX2_draw_83 ?_
            refine fw_getr (pc := 86) C ho.2.1.2.2.2.2.2.2.2.2.2.2.1 rfl qX2_draw_163 dX2_draw_86 ?_
            refine fw_iload_n (pc := 89) C 2 dX2_draw_89 rfl rfl ?_
            refine fw_aload_n (pc := 90) C 0 dX2_draw_90 rfl rfl ?_
            refine fw_getr (pc := 91) C ho.2.1.1 rfl qX2_draw_12 dX2_draw_91 ?_
            refine fw_geti (pc := 94) C ho.2.1.2.2.2.1 rfl qX2_draw_102 dX2_draw_94 ?_
            obtain ⟨M9, hM9, h⟩ := fw_bind h
            refine fw_iast (pc := 97) C 0 ho.2.1.2.2.2.2.2.2.2.2.2.2.2 rfl hM9 dX2_draw_97 ?_
            exact fw_sub [] rfl (c_Fore_draw_b98 C ho h)
          · have h := fw_ift h c8
            refine fw_aload_n (pc := 59) C 0 dX2_draw_59 rfl rfl ?_
            refine fw_getr (pc := 60) C ho.2.1.1 rfl qX2_draw_12 dX2_draw_60 ?_
            refine fw_getr (pc := 63) C ho.2.1.2.2.2.2.2.2.2.2.2.1.1 rfl qX2_draw_51 dX2_draw_63 ?_
            refine fw_iload_n (pc := 66) C 2 dX2_draw_66 rfl rfl ?_
            refine fw_lload_n (pc := 67) C 1 dX2_draw_67 rfl rfl ?_
            refine fw_aload_n (pc := 68) C 0 dX2_draw_68 rfl rfl ?_
            refine fw_getr (pc := 69) C ho.2.1.1 rfl qX2_draw_12 dX2_draw_69 ?_
            refine fw_geti (pc := 72) C ho.2.1.2.2.1 rfl qX2_draw_61 dX2_draw_72 ?_
            refine fw_i2l (pc := 75) C dX2_draw_75 ?_
            obtain ⟨v10, hv10, h⟩ := fw_bind h
            refine fw_lrem (pc := 76) C dX2_draw_76 hv10 ?_
            refine fw_l2i (pc := 77) C dX2_draw_77 ?_
            obtain ⟨M11, hM11, h⟩ := fw_bind h
            refine fw_iast (pc := 78) C 0 ho.2.1.2.2.2.2.2.2.2.2.2.1.2 rfl hM11 dX2_draw_78 ?_
            refine fw_goto (pc := 79) C (tgt := 98) dX2_draw_79 (by decide) ?_
            exact fw_sub [] rfl (c_Fore_draw_b98 C ho h)
        · have h := fw_iff h c6
          exact fw_sub [] rfl (c_Fore_draw_b45 C ho h)
    · have h := fw_iff h c2
      exact fw_sub [] rfl (c_Fore_draw_b22 C ho h)
theorem c_Fore_draw {l : Launch} {D : va_G} {cI cZ cH cR : ClassId} {N : Nat} {ad : Nat → Nat} {EE : fw_M → Nat → va_E} {o : Nat} {M : fw_M} {a0 : Int64} {z : fw_M} (ho : o_Fore EE ad N cI cZ cH cR o) (h : P_Fore_draw o M a0 = some z) : fw_Met l yX2_draw wsX2_draw rm_Fore_draw D vwCl (fw_tys cI cZ cH cR) N ad fw_nw0 EE [.ref (ad o), .long a0] M none z := by
  unfold P_Fore_draw at h
  exact fw_intro (cc := cX2_draw) (maxL := 4) (ret := none) (own := RX2) (by decide) rfl rfl (Nat.le_of_ble_eq_true rfl) (fun p e s m args below meth c C => fw_sub [0, 1] rfl (c_Fore_draw_b0 C ho h))
abbrev rm_Fore_daysByDraws : Room := { frames := 3, cells := 0, slots := 0, locals := 71 }
theorem hd_Fore_daysByDraws : yX2_daysByDraws.cls = RX2 ∧ yX2_daysByDraws.cls ≠ "java/lang/invoke/MethodHandle" ∧ yX2_daysByDraws.cls ≠ "java/lang/invoke/VarHandle" ∧ (parseMethodDescriptor yX2_daysByDraws.desc).map (fun d => d.parameters.length) = some 3 := by decide +kernel
theorem qX2_daysByDraws_12 : fw_G wsX2_daysByDraws RX2 12 RX2 TX2 3 0 := ⟨by decide +kernel, by decide +kernel, by decide⟩
theorem qX2_daysByDraws_21 : fw_G wsX2_daysByDraws RX2 21 RX2 TX2 3 1 := ⟨by decide +kernel, by decide +kernel, by decide⟩
theorem kX2_daysByDraws_151 : Cond.constantLong RX2 151 (16807) ∈ wsX2_daysByDraws := by decide +kernel
theorem kX2_daysByDraws_153 : Cond.constantLong RX2 153 (2147483647) ∈ wsX2_daysByDraws := by decide +kernel
def P_Fore_daysByDraws_b29 (o : Nat) (r0 : Nat) (K29 : fw_M → Int32 → Int64 → Int32 → Int32 → Option (Int32 × fw_M)) (M : fw_M) (x2 : Int32) (x4 : Int64) (x6 : Int32) (x7 : Int32) : Option (Int32 × fw_M) := (if x2 ≤ x7 then some (x6, M) else (fw_lremP (x4 * (16807 : Int64)) (2147483647 : Int64)).bind fun v2 => (P_Fore_draw o M v2).bind fun q3 => (P_Hall_pass (o + 1) (o + 7) q3).bind fun q4 => fw_pl ((x6 + q4.1)) fun y5 => K29 q4.2 x2 v2 y5 (x7 + (1 : Int32)))
def P_Fore_daysByDraws_h29 (o : Nat) (r0 : Nat) : Nat → fw_M → Int32 → Int64 → Int32 → Int32 → Option (Int32 × fw_M)
  | 0, _, _, _, _, _ => none
  | n + 1, M, x2, x4, x6, x7 => P_Fore_daysByDraws_b29 o r0 (P_Fore_daysByDraws_h29 o r0 n) M x2 x4 x6 x7
def P_Fore_daysByDraws_b0 (o : Nat) (r0 : Nat) (M : fw_M) (x2 : Int32) (x3 : Int32) : Option (Int32 × fw_M) := (P_Hall_become (o + 1) r0 M).bind fun q1 => (P_Law_read (o + 7) (o + 1) q1).bind fun q2 => fw_pl ((Int32.toInt64 x3)) fun y3 => P_Fore_daysByDraws_h29 o r0 fw_fu q2 x2 y3 (0 : Int32) (0 : Int32)
def P_Fore_daysByDraws (o : Nat) (r0 : Nat) (M : fw_M) (a1 : Int32) (a2 : Int32) : Option (Int32 × fw_M) := P_Fore_daysByDraws_b0 o r0 M a1 a2
set_option maxRecDepth 100000 in
theorem c_Fore_daysByDraws_b29 {p : Program} {l : Launch} {e : Env} {s : State} {m : MethodId} {args : Array Value} {below : List Frame} {meth : Method} {c : Code} {D : va_G} {cI cZ cH cR : ClassId} {N : Nat} {ad : Nat → Nat} {EE : fw_M → Nat → va_E} {o : Nat} {r0 : Nat} {K29 : fw_M → Int32 → Int64 → Int32 → Int32 → Option (Int32 × fw_M)} {M : fw_M} {x2 : Int32} {x4 : Int64} {x6 : Int32} {x7 : Int32} {z : (Int32 × fw_M)} (C : fw_C p s m args meth c cX2_daysByDraws RX2 wsX2_daysByDraws 8 (some .int) D vwCl (fw_tys cI cZ cH cR) N ad fw_nw0) (ho : o_Fore EE ad N cI cZ cH cR o) (hr0 : o_Hall EE ad N cI cZ cH cR r0) (hK29 : ∀ (Mk : fw_M) (kx2 : Int32) (kx4 : Int64) (kx6 : Int32) (kx7 : Int32), K29 Mk kx2 kx4 kx6 kx7 = some z → fw_J p l e (headSpec wsX2_daysByDraws rm_Fore_daysByDraws).room s m args below meth c D vwCl N ad EE 8 0 0 (fw_E below args s D vwCl N ad EE (some (.int z.1)) z.2) Mk [(0, .ref (ad o)), (2, .int kx2), (4, .long kx4), (6, .int kx6), (7, .int kx7)] 29 []) (h : P_Fore_daysByDraws_b29 o r0 K29 M x2 x4 x6 x7 = some z) : fw_J p l e (headSpec wsX2_daysByDraws rm_Fore_daysByDraws).room s m args below meth c D vwCl N ad EE 8 0 0 (fw_E below args s D vwCl N ad EE (some (.int z.1)) z.2) M [(0, .ref (ad o)), (2, .int x2), (4, .long x4), (6, .int x6), (7, .int x7)] 29 [] := by
  unfold P_Fore_daysByDraws_b29 at h
  refine fw_iload (pc := 29) C 4 dX2_daysByDraws_29 rfl ?_
  refine fw_iload_n (pc := 31) C 1 dX2_daysByDraws_31 rfl rfl ?_
  refine fw_icmp_ge (pc := 32) C (tgt := 75) dX2_daysByDraws_32 (by decide) (fun c1 => ?_) (fun c1 => ?_)
  · have h := fw_ift h c1
    refine fw_iload (pc := 75) C 3 dX2_daysByDraws_75 rfl ?_
    exact fw_iret (pc := 77) C (fw_p1 h) (fw_p2 h) dX2_daysByDraws_77
  · have h := fw_iff h c1
    refine fw_lload (pc := 35) C 2 dX2_daysByDraws_35 rfl ?_
    refine fw_ldc2 (pc := 37) C (v := 16807) kX2_daysByDraws_151 dX2_daysByDraws_37 ?_
    refine fw_lmul (pc := 40) C dX2_daysByDraws_40 ?_
    refine fw_ldc2 (pc := 41) C (v := 2147483647) kX2_daysByDraws_153 dX2_daysByDraws_41 ?_
    obtain ⟨v2, hv2, h⟩ := fw_bind h
    refine fw_lrem (pc := 44) C dX2_daysByDraws_44 hv2 ?_
    refine fw_lstore (pc := 45) C (L2 := [(0, .ref _), (2, .int _), (4, .long _), (6, .int _), (7, .int _)]) [1, 2, 0, 3, 4] dX2_daysByDraws_45 (by decide) rfl ?_
    refine fw_aload_n (pc := 47) C 0 dX2_daysByDraws_47 rfl rfl ?_
    refine fw_lload (pc := 48) C 2 dX2_daysByDraws_48 rfl ?_
    obtain ⟨q3, hq3, h⟩ := fw_bind h
    refine fw_callV0 (pc := 50) C (rest := []) (c_Fore_draw ho hq3) (cwV 1 C.2.2.2.2.1 gX2_daysByDraws_X2_draw rfl rfl rfl hd_Fore_draw ⟨Nat.le_of_ble_eq_true rfl, Nat.le_of_ble_eq_true rfl⟩) ho.1 rfl rfl ⟨Nat.zero_le _, Nat.zero_le _⟩ rfl (Nat.le_of_ble_eq_true rfl) dX2_daysByDraws_50 ?_
    refine fw_iload (pc := 53) C 3 dX2_daysByDraws_53 rfl ?_
    refine fw_aload_n (pc := 55) C 0 dX2_daysByDraws_55 rfl rfl ?_
    refine fw_getr (pc := 56) C ho.2.1.1 rfl qX2_daysByDraws_12 dX2_daysByDraws_56 ?_
    refine fw_aload_n (pc := 59) C 0 dX2_daysByDraws_59 rfl rfl ?_
    refine fw_getr (pc := 60) C ho.2.2.1.1 rfl qX2_daysByDraws_21 dX2_daysByDraws_60 ?_
    obtain ⟨q4, hq4, h⟩ := fw_bind h
    refine fw_callV1 (pc := 63) C (rest := [_]) (c_Hall_pass ho.2.1.2 ho.2.2.1.2 hq4) (cwV 1 C.2.2.2.2.1 gX2_daysByDraws_X3_pass rfl rfl rfl hd_Hall_pass ⟨Nat.le_of_ble_eq_true rfl, Nat.le_of_ble_eq_true rfl⟩) ho.2.1.2.1 rfl rfl ⟨Nat.zero_le _, Nat.zero_le _⟩ rfl (Nat.le_of_ble_eq_true rfl) dX2_daysByDraws_63 ?_
    refine fw_iadd (pc := 66) C dX2_daysByDraws_66 ?_
    have h := fw_plh h
    refine fw_istore (pc := 67) C (L2 := [(0, .ref _), (2, .int _), (4, .long _), (6, .int _), (7, .int _)]) [1, 2, 3, 0, 4] dX2_daysByDraws_67 (by decide) rfl ?_
    refine fw_iinc (pc := 69) C (v := 1) (L2 := [(0, .ref _), (2, .int _), (4, .long _), (6, .int _), (7, .int _)]) 4 [1, 2, 3, 4, 0] dX2_daysByDraws_69 rfl fk_iconst_1 (by decide) rfl ?_
    refine fw_goto (pc := 72) C (tgt := 29) dX2_daysByDraws_72 (by decide) ?_
    exact (hK29 _ _ _ _ _ h)
theorem c_Fore_daysByDraws_h29 {p : Program} {l : Launch} {e : Env} {s : State} {m : MethodId} {args : Array Value} {below : List Frame} {meth : Method} {c : Code} {D : va_G} {cI cZ cH cR : ClassId} {N : Nat} {ad : Nat → Nat} {EE : fw_M → Nat → va_E} {o : Nat} {r0 : Nat} {z : (Int32 × fw_M)} (C : fw_C p s m args meth c cX2_daysByDraws RX2 wsX2_daysByDraws 8 (some .int) D vwCl (fw_tys cI cZ cH cR) N ad fw_nw0) (ho : o_Fore EE ad N cI cZ cH cR o) (hr0 : o_Hall EE ad N cI cZ cH cR r0) : ∀ (n : Nat) (M : fw_M) (x2 : Int32) (x4 : Int64) (x6 : Int32) (x7 : Int32), P_Fore_daysByDraws_h29 o r0 n M x2 x4 x6 x7 = some z → fw_J p l e (headSpec wsX2_daysByDraws rm_Fore_daysByDraws).room s m args below meth c D vwCl N ad EE 8 0 0 (fw_E below args s D vwCl N ad EE (some (.int z.1)) z.2) M [(0, .ref (ad o)), (2, .int x2), (4, .long x4), (6, .int x6), (7, .int x7)] 29 [] := by
  intro n
  induction n with
  | zero => intro M x2 x4 x6 x7  h; cases h
  | succ n ih => intro M x2 x4 x6 x7  h; exact c_Fore_daysByDraws_b29 C ho hr0 ih  h
set_option maxRecDepth 100000 in
theorem c_Fore_daysByDraws_b0 {p : Program} {l : Launch} {e : Env} {s : State} {m : MethodId} {args : Array Value} {below : List Frame} {meth : Method} {c : Code} {D : va_G} {cI cZ cH cR : ClassId} {N : Nat} {ad : Nat → Nat} {EE : fw_M → Nat → va_E} {o : Nat} {r0 : Nat} {M : fw_M} {x2 : Int32} {x3 : Int32} {z : (Int32 × fw_M)} (C : fw_C p s m args meth c cX2_daysByDraws RX2 wsX2_daysByDraws 8 (some .int) D vwCl (fw_tys cI cZ cH cR) N ad fw_nw0) (ho : o_Fore EE ad N cI cZ cH cR o) (hr0 : o_Hall EE ad N cI cZ cH cR r0) (h : P_Fore_daysByDraws_b0 o r0 M x2 x3 = some z) : fw_J p l e (headSpec wsX2_daysByDraws rm_Fore_daysByDraws).room s m args below meth c D vwCl N ad EE 8 0 0 (fw_E below args s D vwCl N ad EE (some (.int z.1)) z.2) M [(0, .ref (ad o)), (1, .ref (ad r0)), (2, .int x2), (3, .int x3)] 0 [] := by
  unfold P_Fore_daysByDraws_b0 at h
  refine fw_aload_n (pc := 0) C 0 dX2_daysByDraws_0 rfl rfl ?_
  refine fw_getr (pc := 1) C ho.2.1.1 rfl qX2_daysByDraws_12 dX2_daysByDraws_1 ?_
  refine fw_aload_n (pc := 4) C 1 dX2_daysByDraws_4 rfl rfl ?_
  obtain ⟨q1, hq1, h⟩ := fw_bind h
  refine fw_callV0 (pc := 5) C (rest := []) (c_Hall_become ho.2.1.2 hr0 hq1) (cwV 1 C.2.2.2.2.1 gX2_daysByDraws_X3_become rfl rfl rfl hd_Hall_become ⟨Nat.le_of_ble_eq_true rfl, Nat.le_of_ble_eq_true rfl⟩) ho.2.1.2.1 rfl rfl ⟨Nat.zero_le _, Nat.zero_le _⟩ rfl (Nat.le_of_ble_eq_true rfl) dX2_daysByDraws_5 ?_
  refine fw_aload_n (pc := 8) C 0 dX2_daysByDraws_8 rfl rfl ?_
  refine fw_getr (pc := 9) C ho.2.2.1.1 rfl qX2_daysByDraws_21 dX2_daysByDraws_9 ?_
  refine fw_aload_n (pc := 12) C 0 dX2_daysByDraws_12 rfl rfl ?_
  refine fw_getr (pc := 13) C ho.2.1.1 rfl qX2_daysByDraws_12 dX2_daysByDraws_13 ?_
  obtain ⟨q2, hq2, h⟩ := fw_bind h
  refine fw_callV0 (pc := 16) C (rest := []) (c_Law_read ho.2.2.1.2 ho.2.1.2 hq2) (cwV 1 C.2.2.2.2.1 gX2_daysByDraws_X4_read rfl rfl rfl hd_Law_read ⟨Nat.le_of_ble_eq_true rfl, Nat.le_of_ble_eq_true rfl⟩) ho.2.2.1.2.1 rfl rfl ⟨Nat.zero_le _, Nat.zero_le _⟩ rfl (Nat.le_of_ble_eq_true rfl) dX2_daysByDraws_16 ?_
  refine fw_iload_n (pc := 19) C 3 dX2_daysByDraws_19 rfl rfl ?_
  refine fw_i2l (pc := 20) C dX2_daysByDraws_20 ?_
  have h := fw_plh h
  refine fw_lstore (pc := 21) C (L2 := [(0, .ref _), (1, .ref _), (2, .int _), (3, .int _), (4, .long _)]) [1, 2, 3, 4, 0] dX2_daysByDraws_21 (by decide) rfl ?_
  refine fw_iconst (pc := 23) C (v := 0) dX2_daysByDraws_23 fk_iconst_0 ?_
  refine fw_istore (pc := 24) C (L2 := [(0, .ref _), (1, .ref _), (2, .int _), (3, .int _), (4, .long _), (6, .int _)]) [1, 2, 3, 4, 5, 0] dX2_daysByDraws_24 (by decide) rfl ?_
  refine fw_iconst (pc := 26) C (v := 0) dX2_daysByDraws_26 fk_iconst_0 ?_
  refine fw_istore (pc := 27) C (L2 := [(0, .ref _), (1, .ref _), (2, .int _), (3, .int _), (4, .long _), (6, .int _), (7, .int _)]) [1, 2, 3, 4, 5, 6, 0] dX2_daysByDraws_27 (by decide) rfl ?_
  exact fw_sub [0, 2, 4, 5, 6] rfl (c_Fore_daysByDraws_h29 C ho hr0 _ _ _ _ _ _ h)
theorem c_Fore_daysByDraws {l : Launch} {D : va_G} {cI cZ cH cR : ClassId} {N : Nat} {ad : Nat → Nat} {EE : fw_M → Nat → va_E} {o : Nat} {r0 : Nat} {M : fw_M} {a1 : Int32} {a2 : Int32} {z : (Int32 × fw_M)} (ho : o_Fore EE ad N cI cZ cH cR o) (hr0 : o_Hall EE ad N cI cZ cH cR r0) (h : P_Fore_daysByDraws o r0 M a1 a2 = some z) : fw_Met l yX2_daysByDraws wsX2_daysByDraws rm_Fore_daysByDraws D vwCl (fw_tys cI cZ cH cR) N ad fw_nw0 EE [.ref (ad o), .ref (ad r0), .int a1, .int a2] M (some (.int z.1)) z.2 := by
  unfold P_Fore_daysByDraws at h
  exact fw_intro (cc := cX2_daysByDraws) (maxL := 8) (ret := some .int) (own := RX2) (by decide) rfl rfl (Nat.le_of_ble_eq_true rfl) (fun p e s m args below meth c C => fw_sub [0, 1, 2, 3] rfl (c_Fore_daysByDraws_b0 C ho hr0 h))
end
