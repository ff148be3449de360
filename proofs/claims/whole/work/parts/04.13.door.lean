noncomputable section
abbrev rm_Door_isRow : Room := { frames := 1, cells := 0, slots := 0, locals := 22 }
theorem hd_Door_isRow : yX8_isRow.cls = RX8 ∧ yX8_isRow.cls ≠ "java/lang/invoke/MethodHandle" ∧ yX8_isRow.cls ≠ "java/lang/invoke/VarHandle" ∧ (parseMethodDescriptor yX8_isRow.desc).map (fun d => d.parameters.length) = some 1 := by decide +kernel
def P_Door_isRow_b0 (M : fw_M) (x0 : Int32) : Option Int32 := (P_Door_within M x0 (0 : Int32) (7 : Int32)).bind fun v1 => (fw_zr v1).bind fun v2 => some v2
def P_Door_isRow (M : fw_M) (a0 : Int32) : Option Int32 := P_Door_isRow_b0 M a0
set_option maxRecDepth 100000 in
theorem c_Door_isRow_b0 {p : Program} {l : Launch} {e : Env} {s : State} {m : MethodId} {args : Array Value} {below : List Frame} {meth : Method} {c : Code} {D : va_G} {cI cZ cH cR : ClassId} {N : Nat} {ad : Nat → Nat} {EE : fw_M → Nat → va_E} {M : fw_M} {x0 : Int32} {z : Int32} (C : fw_C p s m args meth c cX8_isRow RX8 wsX8_isRow 1 (some .boolean) D vwCl (fw_tys cI cZ cH cR) N ad fw_nw0) (h : P_Door_isRow_b0 M x0 = some z) : fw_J p l e (headSpec wsX8_isRow rm_Door_isRow).room s m args below meth c D vwCl N ad EE 1 0 0 (fw_E below args s D vwCl N ad EE (some (.int z)) M) M [(0, .int x0)] 0 [] := by
  unfold P_Door_isRow_b0 at h
  refine fw_iload_n (pc := 0) C 0 dX8_isRow_0 rfl rfl ?_
  refine fw_iconst (pc := 1) C (v := 0) dX8_isRow_1 fk_iconst_0 ?_
  refine fw_bipush (pc := 2) C (v := 7) dX8_isRow_2 fk_bipush_7 ?_
  obtain ⟨v1, hv1, h⟩ := fw_bind h
  refine fw_callS1 (pc := 4) C (rest := []) (c_Door_within  hv1) (va_cwS 3 C.2.2.2.2.1 gX8_isRow_X8_within rfl rfl rfl hd_Door_within.2 ⟨Nat.le_of_ble_eq_true rfl, Nat.le_of_ble_eq_true rfl⟩) rfl ⟨Nat.zero_le _, Nat.zero_le _⟩ rfl (Nat.le_of_ble_eq_true rfl) dX8_isRow_4 ?_
  obtain ⟨v2, hv2, h⟩ := fw_bind h
  exact fw_zret (pc := 7) C (fw_zrh hv2).1 ((fw_zrh hv2).2.trans (Option.some.inj h)) rfl dX8_isRow_7
theorem c_Door_isRow {l : Launch} {D : va_G} {cI cZ cH cR : ClassId} {N : Nat} {ad : Nat → Nat} {EE : fw_M → Nat → va_E} {M : fw_M} {a0 : Int32} {z : Int32} (h : P_Door_isRow M a0 = some z) : fw_Met l yX8_isRow wsX8_isRow rm_Door_isRow D vwCl (fw_tys cI cZ cH cR) N ad fw_nw0 EE [.int a0] M (some (.int z)) M := by
  unfold P_Door_isRow at h
  exact fw_intro (cc := cX8_isRow) (maxL := 1) (ret := some .boolean) (own := RX8) (by decide) rfl rfl (Nat.le_of_ble_eq_true rfl) (fun p e s m args below meth c C => fw_sub [0] rfl (c_Door_isRow_b0 C  h))
abbrev rm_Door_found : Room := { frames := 0, cells := 0, slots := 0, locals := 0 }
theorem hd_Door_found : yX8_found.cls = RX8 ∧ yX8_found.cls ≠ "java/lang/invoke/MethodHandle" ∧ yX8_found.cls ≠ "java/lang/invoke/VarHandle" ∧ (parseMethodDescriptor yX8_found.desc).map (fun d => d.parameters.length) = some 1 := by decide +kernel
theorem qX8_found_58 : fw_G wsX8_found RX8 58 RX8 TX8 9 8 := ⟨by decide +kernel, by decide +kernel, by decide⟩
theorem kX8_found_321 : Cond.constant RX8 321 (-1000010) ∈ wsX8_found := by decide +kernel
def P_Door_found_b0 (o : Nat) (M : fw_M) (x1 : Int32) : Option (Int32 × fw_M) := fw_pl (fw_set M o 8 x1) fun M1 => some (((-1000010 : Int32) - x1), M1)
def P_Door_found (o : Nat) (M : fw_M) (a0 : Int32) : Option (Int32 × fw_M) := P_Door_found_b0 o M a0
set_option maxRecDepth 100000 in
theorem c_Door_found_b0 {p : Program} {l : Launch} {e : Env} {s : State} {m : MethodId} {args : Array Value} {below : List Frame} {meth : Method} {c : Code} {D : va_G} {cI cZ cH cR : ClassId} {N : Nat} {ad : Nat → Nat} {EE : fw_M → Nat → va_E} {o : Nat} {M : fw_M} {x1 : Int32} {z : (Int32 × fw_M)} (C : fw_C p s m args meth c cX8_found RX8 wsX8_found 2 (some .int) D vwCl (fw_tys cI cZ cH cR) N ad fw_nw0) (ho : o_Door EE ad N cI cZ cH cR o) (h : P_Door_found_b0 o M x1 = some z) : fw_J p l e (headSpec wsX8_found rm_Door_found).room s m args below meth c D vwCl N ad EE 2 0 0 (fw_E below args s D vwCl N ad EE (some (.int z.1)) z.2) M [(0, .ref (ad o)), (1, .int x1)] 0 [] := by
  unfold P_Door_found_b0 at h
  refine fw_aload_n (pc := 0) C 0 dX8_found_0 rfl rfl ?_
  refine fw_iload_n (pc := 1) C 1 dX8_found_1 rfl rfl ?_
  have h := fw_plh h
  refine fw_puti (pc := 2) C ho.2.2.2.2.2.2.2.2.2 rfl qX8_found_58 tyX8 tyX8_ok nmX8 rfl rfl dX8_found_2 ?_
  refine fw_ldcw (pc := 5) C (v := -1000010) kX8_found_321 dX8_found_5 ?_
  refine fw_iload_n (pc := 8) C 1 dX8_found_8 rfl rfl ?_
  refine fw_isub (pc := 9) C dX8_found_9 ?_
  exact fw_iret (pc := 10) C (fw_p1 h) (fw_p2 h) dX8_found_10
theorem c_Door_found {l : Launch} {D : va_G} {cI cZ cH cR : ClassId} {N : Nat} {ad : Nat → Nat} {EE : fw_M → Nat → va_E} {o : Nat} {M : fw_M} {a0 : Int32} {z : (Int32 × fw_M)} (ho : o_Door EE ad N cI cZ cH cR o) (h : P_Door_found o M a0 = some z) : fw_Met l yX8_found wsX8_found rm_Door_found D vwCl (fw_tys cI cZ cH cR) N ad fw_nw0 EE [.ref (ad o), .int a0] M (some (.int z.1)) z.2 := by
  unfold P_Door_found at h
  exact fw_intro (cc := cX8_found) (maxL := 2) (ret := some .int) (own := RX8) (by decide) rfl rfl (Nat.le_of_ble_eq_true rfl) (fun p e s m args below meth c C => fw_sub [0, 1] rfl (c_Door_found_b0 C ho h))
abbrev rm_Door_fine : Room := { frames := 0, cells := 0, slots := 0, locals := 0 }
theorem hd_Door_fine : yX8_fine.cls = RX8 ∧ yX8_fine.cls ≠ "java/lang/invoke/MethodHandle" ∧ yX8_fine.cls ≠ "java/lang/invoke/VarHandle" ∧ (parseMethodDescriptor yX8_fine.desc).map (fun d => d.parameters.length) = some 1 := by decide +kernel
theorem qX8_fine_58 : fw_G wsX8_fine RX8 58 RX8 TX8 9 8 := ⟨by decide +kernel, by decide +kernel, by decide⟩
def P_Door_fine_b0 (o : Nat) (M : fw_M) (x1 : Int32) : Option (Int32 × fw_M) := fw_pl (fw_set M o 8 (0 : Int32)) fun M1 => some (x1, M1)
def P_Door_fine (o : Nat) (M : fw_M) (a0 : Int32) : Option (Int32 × fw_M) := P_Door_fine_b0 o M a0
set_option maxRecDepth 100000 in
theorem c_Door_fine_b0 {p : Program} {l : Launch} {e : Env} {s : State} {m : MethodId} {args : Array Value} {below : List Frame} {meth : Method} {c : Code} {D : va_G} {cI cZ cH cR : ClassId} {N : Nat} {ad : Nat → Nat} {EE : fw_M → Nat → va_E} {o : Nat} {M : fw_M} {x1 : Int32} {z : (Int32 × fw_M)} (C : fw_C p s m args meth c cX8_fine RX8 wsX8_fine 2 (some .int) D vwCl (fw_tys cI cZ cH cR) N ad fw_nw0) (ho : o_Door EE ad N cI cZ cH cR o) (h : P_Door_fine_b0 o M x1 = some z) : fw_J p l e (headSpec wsX8_fine rm_Door_fine).room s m args below meth c D vwCl N ad EE 2 0 0 (fw_E below args s D vwCl N ad EE (some (.int z.1)) z.2) M [(0, .ref (ad o)), (1, .int x1)] 0 [] := by
  unfold P_Door_fine_b0 at h
  refine fw_aload_n (pc := 0) C 0 dX8_fine_0 rfl rfl ?_
  refine fw_iconst (pc := 1) C (v := 0) dX8_fine_1 fk_iconst_0 ?_
  have h := fw_plh h
  refine fw_puti (pc := 2) C ho.2.2.2.2.2.2.2.2.2 rfl qX8_fine_58 tyX8 tyX8_ok nmX8 rfl rfl dX8_fine_2 ?_
  refine fw_iload_n (pc := 5) C 1 dX8_fine_5 rfl rfl ?_
  exact fw_iret (pc := 6) C (fw_p1 h) (fw_p2 h) dX8_fine_6
theorem c_Door_fine {l : Launch} {D : va_G} {cI cZ cH cR : ClassId} {N : Nat} {ad : Nat → Nat} {EE : fw_M → Nat → va_E} {o : Nat} {M : fw_M} {a0 : Int32} {z : (Int32 × fw_M)} (ho : o_Door EE ad N cI cZ cH cR o) (h : P_Door_fine o M a0 = some z) : fw_Met l yX8_fine wsX8_fine rm_Door_fine D vwCl (fw_tys cI cZ cH cR) N ad fw_nw0 EE [.ref (ad o), .int a0] M (some (.int z.1)) z.2 := by
  unfold P_Door_fine at h
  exact fw_intro (cc := cX8_fine) (maxL := 2) (ret := some .int) (own := RX8) (by decide) rfl rfl (Nat.le_of_ble_eq_true rfl) (fun p e s m args below meth c C => fw_sub [0, 1] rfl (c_Door_fine_b0 C ho h))
abbrev rm_Door_row : Room := { frames := 2, cells := 0, slots := 0, locals := 42 }
theorem hd_Door_row : yX8_row.cls = RX8 ∧ yX8_row.cls ≠ "java/lang/invoke/MethodHandle" ∧ yX8_row.cls ≠ "java/lang/invoke/VarHandle" ∧ (parseMethodDescriptor yX8_row.desc).map (fun d => d.parameters.length) = some 3 := by decide +kernel
theorem qX8_row_11 : fw_G wsX8_row RX8 11 RX8 TX8 9 0 := ⟨by decide +kernel, by decide +kernel, by decide⟩
theorem kX8_row_70 : Cond.constant RX8 70 (-1000001) ∈ wsX8_row := by decide +kernel
def P_Door_row_b22 (o : Nat) (M : fw_M) : Option (Int32 × fw_M) := some ((-1000001 : Int32), M)
def P_Door_row_b0 (o : Nat) (M : fw_M) (x1 : Int32) (x2 : Int32) (x3 : Int32) : Option (Int32 × fw_M) := (P_Door_isRow M x1).bind fun v1 => (if v1 = (0 : Int32) then P_Door_row_b22 o M else (P_Door_within M x2 (0 : Int32) (2 : Int32)).bind fun v3 => (if v3 = (0 : Int32) then P_Door_row_b22 o M else (if x3 ≤ (40 : Int32) then (if (0 : Int32) ≤ x3 then (fw_aix 8 x1).bind fun i7 => (P_Row_lay (o + 171 + 2 * i7) M x2 x3).bind fun q8 => (P_Door_fine o q8 x3).bind fun q9 => some (q9.1, q9.2) else (P_Door_found o M (4 : Int32)).bind fun q10 => some (q10.1, q10.2)) else P_Door_row_b22 o M)))
def P_Door_row (o : Nat) (M : fw_M) (a0 : Int32) (a1 : Int32) (a2 : Int32) : Option (Int32 × fw_M) := P_Door_row_b0 o M a0 a1 a2
set_option maxRecDepth 100000 in
theorem c_Door_row_b22 {p : Program} {l : Launch} {e : Env} {s : State} {m : MethodId} {args : Array Value} {below : List Frame} {meth : Method} {c : Code} {D : va_G} {cI cZ cH cR : ClassId} {N : Nat} {ad : Nat → Nat} {EE : fw_M → Nat → va_E} {o : Nat} {M : fw_M} {z : (Int32 × fw_M)} (C : fw_C p s m args meth c cX8_row RX8 wsX8_row 4 (some .int) D vwCl (fw_tys cI cZ cH cR) N ad fw_nw0) (ho : o_Door EE ad N cI cZ cH cR o) (h : P_Door_row_b22 o M = some z) : fw_J p l e (headSpec wsX8_row rm_Door_row).room s m args below meth c D vwCl N ad EE 4 0 0 (fw_E below args s D vwCl N ad EE (some (.int z.1)) z.2) M [] 22 [] := by
  unfold P_Door_row_b22 at h
  refine fw_ldc (pc := 22) C (v := -1000001) kX8_row_70 dX8_row_22 ?_
  exact fw_iret (pc := 24) C (fw_p1 h) (fw_p2 h) dX8_row_24
set_option maxRecDepth 100000 in
theorem c_Door_row_b0 {p : Program} {l : Launch} {e : Env} {s : State} {m : MethodId} {args : Array Value} {below : List Frame} {meth : Method} {c : Code} {D : va_G} {cI cZ cH cR : ClassId} {N : Nat} {ad : Nat → Nat} {EE : fw_M → Nat → va_E} {o : Nat} {M : fw_M} {x1 : Int32} {x2 : Int32} {x3 : Int32} {z : (Int32 × fw_M)} (C : fw_C p s m args meth c cX8_row RX8 wsX8_row 4 (some .int) D vwCl (fw_tys cI cZ cH cR) N ad fw_nw0) (ho : o_Door EE ad N cI cZ cH cR o) (h : P_Door_row_b0 o M x1 x2 x3 = some z) : fw_J p l e (headSpec wsX8_row rm_Door_row).room s m args below meth c D vwCl N ad EE 4 0 0 (fw_E below args s D vwCl N ad EE (some (.int z.1)) z.2) M [(0, .ref (ad o)), (1, .int x1), (2, .int x2), (3, .int x3)] 0 [] := by
  unfold P_Door_row_b0 at h
  refine fw_iload_n (pc := 0) C 1 dX8_row_0 rfl rfl ?_
  obtain ⟨v1, hv1, h⟩ := fw_bind h
  refine fw_callS1 (pc := 1) C (rest := []) (c_Door_isRow  hv1) (va_cwS 1 C.2.2.2.2.1 gX8_row_X8_isRow rfl rfl rfl hd_Door_isRow.2 ⟨Nat.le_of_ble_eq_true rfl, Nat.le_of_ble_eq_true rfl⟩) rfl ⟨Nat.zero_le _, Nat.zero_le _⟩ rfl (Nat.le_of_ble_eq_true rfl) dX8_row_1 ?_
  refine fw_if_eq (pc := 4) C (tgt := 22) dX8_row_4 (by decide) (fun c2 => ?_) (fun c2 => ?_)
  · have h := fw_ift h c2
    exact fw_sub [] rfl (c_Door_row_b22 C ho h)
  · have h := fw_iff h c2
    refine fw_iload_n (pc := 7) C 2 dX8_row_7 rfl rfl ?_
    refine fw_iconst (pc := 8) C (v := 0) dX8_row_8 fk_iconst_0 ?_
    refine fw_iconst (pc := 9) C (v := 2) dX8_row_9 fk_iconst_2 ?_
    obtain ⟨v3, hv3, h⟩ := fw_bind h
    refine fw_callS1 (pc := 10) C (rest := []) (c_Door_within  hv3) (va_cwS 3 C.2.2.2.2.1 gX8_row_X8_within rfl rfl rfl hd_Door_within.2 ⟨Nat.le_of_ble_eq_true rfl, Nat.le_of_ble_eq_true rfl⟩) rfl ⟨Nat.zero_le _, Nat.zero_le _⟩ rfl (Nat.le_of_ble_eq_true rfl) dX8_row_10 ?_
    refine fw_if_eq (pc := 13) C (tgt := 22) dX8_row_13 (by decide) (fun c4 => ?_) (fun c4 => ?_)
    · have h := fw_ift h c4
      exact fw_sub [] rfl (c_Door_row_b22 C ho h)
    · have h := fw_iff h c4
      refine fw_iload_n (pc := 16) C 3 dX8_row_16 rfl rfl ?_
      refine fw_bipush (pc := 17) C (v := 40) dX8_row_17 fk_bipush_40 ?_
      refine fw_icmp_le (pc := 19) C (tgt := 25) dX8_row_19 (by decide) (fun c5 => ?_) (fun c5 => ?_)
      · have h := fw_ift h c5
        refine fw_iload_n (pc := 25) C 3 dX8_row_25 rfl rfl ?_
        refine fw_if_ge (pc := 26) C (tgt := 35) dX8_row_26 (by decide) (fun c6 => ?_) (fun c6 => ?_)
        · have h := fw_ift h c6
          refine fw_aload_n (pc := 35) C 0 dX8_row_35 rfl rfl ?_
          refine fw_getr (pc := 36) C ho.2.1.1 rfl qX8_row_11 dX8_row_36 ?_
          refine fw_iload_n (pc := 39) C 1 dX8_row_39 rfl rfl ?_
          obtain ⟨i7, hi7, h⟩ := fw_bind h
          refine fw_aald (pc := 40) C 3 ho.2.1.2.1 rfl hi7 dX8_row_40 ?_
          refine fw_iload_n (pc := 41) C 2 dX8_row_41 rfl rfl ?_
          refine fw_iload_n (pc := 42) C 3 dX8_row_42 rfl rfl ?_
          obtain ⟨q8, hq8, h⟩ := fw_bind h
          refine fw_callV0 (pc := 43) C (rest := []) (c_Row_lay (ho.2.1.2.2 i7 (fw_aixlt hi7)) hq8) (cwV 2 C.2.2.2.2.1 gX8_row_X6_lay rfl rfl rfl hd_Row_lay ⟨Nat.le_of_ble_eq_true rfl, Nat.le_of_ble_eq_true rfl⟩) (ho.2.1.2.2 i7 (fw_aixlt hi7)).1 rfl rfl ⟨Nat.zero_le _, Nat.zero_le _⟩ rfl (Nat.le_of_ble_eq_true rfl) dX8_row_43 ?_
          refine fw_aload_n (pc := 46) C 0 dX8_row_46 rfl rfl ?_
          refine fw_iload_n (pc := 47) C 3 dX8_row_47 rfl rfl ?_
          obtain ⟨q9, hq9, h⟩ := fw_bind h
          refine fw_callV1 (pc := 48) C (rest := []) (c_Door_fine ho hq9) (cwV 1 C.2.2.2.2.1 gX8_row_X8_fine rfl rfl rfl hd_Door_fine ⟨Nat.le_of_ble_eq_true rfl, Nat.le_of_ble_eq_true rfl⟩) ho.1 rfl rfl ⟨Nat.zero_le _, Nat.zero_le _⟩ rfl (Nat.le_of_ble_eq_true rfl) dX8_row_48 ?_
          exact fw_iret (pc := 51) C (fw_p1 h) (fw_p2 h) dX8_row_51
        · have h := fw_iff h c6
          refine fw_aload_n (pc := 29) C 0 dX8_row_29 rfl rfl ?_
          refine fw_iconst (pc := 30) C (v := 4) dX8_row_30 fk_iconst_4 ?_
          obtain ⟨q10, hq10, h⟩ := fw_bind h
          refine fw_callV1 (pc := 31) C (rest := []) (c_Door_found ho hq10) (cwV 1 C.2.2.2.2.1 gX8_row_X8_found rfl rfl rfl hd_Door_found ⟨Nat.le_of_ble_eq_true rfl, Nat.le_of_ble_eq_true rfl⟩) ho.1 rfl rfl ⟨Nat.zero_le _, Nat.zero_le _⟩ rfl (Nat.le_of_ble_eq_true rfl) dX8_row_31 ?_
          exact fw_iret (pc := 34) C (fw_p1 h) (fw_p2 h) dX8_row_34
      · have h := fw_iff h c5
        exact fw_sub [] rfl (c_Door_row_b22 C ho h)
theorem c_Door_row {l : Launch} {D : va_G} {cI cZ cH cR : ClassId} {N : Nat} {ad : Nat → Nat} {EE : fw_M → Nat → va_E} {o : Nat} {M : fw_M} {a0 : Int32} {a1 : Int32} {a2 : Int32} {z : (Int32 × fw_M)} (ho : o_Door EE ad N cI cZ cH cR o) (h : P_Door_row o M a0 a1 a2 = some z) : fw_Met l yX8_row wsX8_row rm_Door_row D vwCl (fw_tys cI cZ cH cR) N ad fw_nw0 EE [.ref (ad o), .int a0, .int a1, .int a2] M (some (.int z.1)) z.2 := by
  unfold P_Door_row at h
  exact fw_intro (cc := cX8_row) (maxL := 4) (ret := some .int) (own := RX8) (by decide) rfl rfl (Nat.le_of_ble_eq_true rfl) (fun p e s m args below meth c C => fw_sub [0, 1, 2, 3] rfl (c_Door_row_b0 C ho h))
abbrev rm_Door_set : Room := { frames := 2, cells := 0, slots := 0, locals := 42 }
theorem hd_Door_set : yX8_set.cls = RX8 ∧ yX8_set.cls ≠ "java/lang/invoke/MethodHandle" ∧ yX8_set.cls ≠ "java/lang/invoke/VarHandle" ∧ (parseMethodDescriptor yX8_set.desc).map (fun d => d.parameters.length) = some 3 := by decide +kernel
theorem kX8_set_70 : Cond.constant RX8 70 (-1000001) ∈ wsX8_set := by decide +kernel
theorem qX8_set_11 : fw_G wsX8_set RX8 11 RX8 TX8 9 0 := ⟨by decide +kernel, by decide +kernel, by decide⟩
def P_Door_set_b0 (o : Nat) (M : fw_M) (x1 : Int32) (x2 : Int32) (x3 : Int32) : Option (Int32 × fw_M) := (P_Door_isRow M x1).bind fun v1 => (if v1 = (0 : Int32) then some ((-1000001 : Int32), M) else (fw_aix 8 x1).bind fun i3 => (P_Row_isMissing (o + 171 + 2 * i3) M).bind fun v4 => (if v4 = (0 : Int32) then (fw_aix 8 x1).bind fun i6 => (P_Row_holds (o + 171 + 2 * i6) M x2 (1 : Int32)).bind fun v7 => (if v7 = (0 : Int32) then (P_Door_found o M (2 : Int32)).bind fun q12 => some (q12.1, q12.2) else (fw_aix 8 x1).bind fun i9 => (P_Row_put (o + 171 + 2 * i9) M x2 x3).bind fun q10 => (P_Door_fine o q10.2 q10.1).bind fun q11 => some (q11.1, q11.2)) else (P_Door_found o M (1 : Int32)).bind fun q13 => some (q13.1, q13.2)))
def P_Door_set (o : Nat) (M : fw_M) (a0 : Int32) (a1 : Int32) (a2 : Int32) : Option (Int32 × fw_M) := P_Door_set_b0 o M a0 a1 a2
set_option maxRecDepth 100000 in
theorem c_Door_set_b0 {p : Program} {l : Launch} {e : Env} {s : State} {m : MethodId} {args : Array Value} {below : List Frame} {meth : Method} {c : Code} {D : va_G} {cI cZ cH cR : ClassId} {N : Nat} {ad : Nat → Nat} {EE : fw_M → Nat → va_E} {o : Nat} {M : fw_M} {x1 : Int32} {x2 : Int32} {x3 : Int32} {z : (Int32 × fw_M)} (C : fw_C p s m args meth c cX8_set RX8 wsX8_set 4 (some .int) D vwCl (fw_tys cI cZ cH cR) N ad fw_nw0) (ho : o_Door EE ad N cI cZ cH cR o) (h : P_Door_set_b0 o M x1 x2 x3 = some z) : fw_J p l e (headSpec wsX8_set rm_Door_set).room s m args below meth c D vwCl N ad EE 4 0 0 (fw_E below args s D vwCl N ad EE (some (.int z.1)) z.2) M [(0, .ref (ad o)), (1, .int x1), (2, .int x2), (3, .int x3)] 0 [] := by
  unfold P_Door_set_b0 at h
  refine fw_iload_n (pc := 0) C 1 dX8_set_0 rfl rfl ?_
  obtain ⟨v1, hv1, h⟩ := fw_bind h
  refine fw_callS1 (pc := 1) C (rest := []) (c_Door_isRow  hv1) (va_cwS 1 C.2.2.2.2.1 gX8_set_X8_isRow rfl rfl rfl hd_Door_isRow.2 ⟨Nat.le_of_ble_eq_true rfl, Nat.le_of_ble_eq_true rfl⟩) rfl ⟨Nat.zero_le _, Nat.zero_le _⟩ rfl (Nat.le_of_ble_eq_true rfl) dX8_set_1 ?_
  refine fw_if_ne (pc := 4) C (tgt := 10) dX8_set_4 (by decide) (fun c2 => ?_) (fun c2 => ?_)
  · have h := fw_iff h c2
    refine fw_aload_n (pc := 10) C 0 dX8_set_10 rfl rfl ?_
    refine fw_getr (pc := 11) C ho.2.1.1 rfl qX8_set_11 dX8_set_11 ?_
    refine fw_iload_n (pc := 14) C 1 dX8_set_14 rfl rfl ?_
    obtain ⟨i3, hi3, h⟩ := fw_bind h
    refine fw_aald (pc := 15) C 3 ho.2.1.2.1 rfl hi3 dX8_set_15 ?_
    obtain ⟨v4, hv4, h⟩ := fw_bind h
    refine fw_callV1 (pc := 16) C (rest := []) (c_Row_isMissing (ho.2.1.2.2 i3 (fw_aixlt hi3)) hv4) (cwV 0 C.2.2.2.2.1 gX8_set_X6_isMissing rfl rfl rfl hd_Row_isMissing ⟨Nat.le_of_ble_eq_true rfl, Nat.le_of_ble_eq_true rfl⟩) (ho.2.1.2.2 i3 (fw_aixlt hi3)).1 rfl rfl ⟨Nat.zero_le _, Nat.zero_le _⟩ rfl (Nat.le_of_ble_eq_true rfl) dX8_set_16 ?_
    refine fw_if_eq (pc := 19) C (tgt := 28) dX8_set_19 (by decide) (fun c5 => ?_) (fun c5 => ?_)
    · have h := fw_ift h c5
      refine fw_aload_n (pc := 28) C 0 dX8_set_28 rfl rfl ?_
      refine fw_getr (pc := 29) C ho.2.1.1 rfl qX8_set_11 dX8_set_29 ?_
      refine fw_iload_n (pc := 32) C 1 dX8_set_32 rfl rfl ?_
      obtain ⟨i6, hi6, h⟩ := fw_bind h
      refine fw_aald (pc := 33) C 3 ho.2.1.2.1 rfl hi6 dX8_set_33 ?_
      refine fw_iload_n (pc := 34) C 2 dX8_set_34 rfl rfl ?_
      refine fw_iconst (pc := 35) C (v := 1) dX8_set_35 fk_iconst_1 ?_
      obtain ⟨v7, hv7, h⟩ := fw_bind h
      refine fw_callV1 (pc := 36) C (rest := []) (c_Row_holds (ho.2.1.2.2 i6 (fw_aixlt hi6)) hv7) (cwV 2 C.2.2.2.2.1 gX8_set_X6_holds rfl rfl rfl hd_Row_holds ⟨Nat.le_of_ble_eq_true rfl, Nat.le_of_ble_eq_true rfl⟩) (ho.2.1.2.2 i6 (fw_aixlt hi6)).1 rfl rfl ⟨Nat.zero_le _, Nat.zero_le _⟩ rfl (Nat.le_of_ble_eq_true rfl) dX8_set_36 ?_
      refine fw_if_ne (pc := 39) C (tgt := 48) dX8_set_39 (by decide) (fun c8 => ?_) (fun c8 => ?_)
      · have h := fw_iff h c8
        refine fw_aload_n (pc := 48) C 0 dX8_set_48 rfl rfl ?_
        refine fw_aload_n (pc := 49) C 0 dX8_set_49 rfl rfl ?_
        refine fw_getr (pc := 50) C ho.2.1.1 rfl qX8_set_11 dX8_set_50 ?_
        refine fw_iload_n (pc := 53) C 1 dX8_set_53 rfl rfl ?_
        obtain ⟨i9, hi9, h⟩ := fw_bind h
        refine fw_aald (pc := 54) C 3 ho.2.1.2.1 rfl hi9 dX8_set_54 ?_
        refine fw_iload_n (pc := 55) C 2 dX8_set_55 rfl rfl ?_
        refine fw_iload_n (pc := 56) C 3 dX8_set_56 rfl rfl ?_
        obtain ⟨q10, hq10, h⟩ := fw_bind h
        refine fw_callV1 (pc := 57) C (rest := [_]) (c_Row_put (ho.2.1.2.2 i9 (fw_aixlt hi9)) hq10) (cwV 2 C.2.2.2.2.1 gX8_set_X6_put rfl rfl rfl hd_Row_put ⟨Nat.le_of_ble_eq_true rfl, Nat.le_of_ble_eq_true rfl⟩) (ho.2.1.2.2 i9 (fw_aixlt hi9)).1 rfl rfl ⟨Nat.zero_le _, Nat.zero_le _⟩ rfl (Nat.le_of_ble_eq_true rfl) dX8_set_57 ?_
        obtain ⟨q11, hq11, h⟩ := fw_bind h
        refine fw_callV1 (pc := 60) C (rest := []) (c_Door_fine ho hq11) (cwV 1 C.2.2.2.2.1 gX8_set_X8_fine rfl rfl rfl hd_Door_fine ⟨Nat.le_of_ble_eq_true rfl, Nat.le_of_ble_eq_true rfl⟩) ho.1 rfl rfl ⟨Nat.zero_le _, Nat.zero_le _⟩ rfl (Nat.le_of_ble_eq_true rfl) dX8_set_60 ?_
        exact fw_iret (pc := 63) C (fw_p1 h) (fw_p2 h) dX8_set_63
      · have h := fw_ift h c8
        refine fw_aload_n (pc := 42) C 0 dX8_set_42 rfl rfl ?_
        refine fw_iconst (pc := 43) C (v := 2) dX8_set_43 fk_iconst_2 ?_
        obtain ⟨q12, hq12, h⟩ := fw_bind h
        refine fw_callV1 (pc := 44) C (rest := []) (c_Door_found ho hq12) (cwV 1 C.2.2.2.2.1 gX8_set_X8_found rfl rfl rfl hd_Door_found ⟨Nat.le_of_ble_eq_true rfl, Nat.le_of_ble_eq_true rfl⟩) ho.1 rfl rfl ⟨Nat.zero_le _, Nat.zero_le _⟩ rfl (Nat.le_of_ble_eq_true rfl) dX8_set_44 ?_
        exact fw_iret (pc := 47) C (fw_p1 h) (fw_p2 h) dX8_set_47
    · have h := fw_iff h c5
      refine fw_aload_n (pc := 22) C 0 dX8_set_22 rfl rfl ?_
      refine fw_iconst (pc := 23) C (v := 1) dX8_set_23 fk_iconst_1 ?_
      obtain ⟨q13, hq13, h⟩ := fw_bind h
      refine fw_callV1 (pc := 24) C (rest := []) (c_Door_found ho hq13) (cwV 1 C.2.2.2.2.1 gX8_set_X8_found rfl rfl rfl hd_Door_found ⟨Nat.le_of_ble_eq_true rfl, Nat.le_of_ble_eq_true rfl⟩) ho.1 rfl rfl ⟨Nat.zero_le _, Nat.zero_le _⟩ rfl (Nat.le_of_ble_eq_true rfl) dX8_set_24 ?_
      exact fw_iret (pc := 27) C (fw_p1 h) (fw_p2 h) dX8_set_27
  · have h := fw_ift h c2
    refine fw_ldc (pc := 7) C (v := -1000001) kX8_set_70 dX8_set_7 ?_
    exact fw_iret (pc := 9) C (fw_p1 h) (fw_p2 h) dX8_set_9
theorem c_Door_set {l : Launch} {D : va_G} {cI cZ cH cR : ClassId} {N : Nat} {ad : Nat → Nat} {EE : fw_M → Nat → va_E} {o : Nat} {M : fw_M} {a0 : Int32} {a1 : Int32} {a2 : Int32} {z : (Int32 × fw_M)} (ho : o_Door EE ad N cI cZ cH cR o) (h : P_Door_set o M a0 a1 a2 = some z) : fw_Met l yX8_set wsX8_set rm_Door_set D vwCl (fw_tys cI cZ cH cR) N ad fw_nw0 EE [.ref (ad o), .int a0, .int a1, .int a2] M (some (.int z.1)) z.2 := by
  unfold P_Door_set at h
  exact fw_intro (cc := cX8_set) (maxL := 4) (ret := some .int) (own := RX8) (by decide) rfl rfl (Nat.le_of_ble_eq_true rfl) (fun p e s m args below meth c C => fw_sub [0, 1, 2, 3] rfl (c_Door_set_b0 C ho h))
abbrev rm_Door_copy : Room := { frames := 2, cells := 0, slots := 0, locals := 48 }
theorem hd_Door_copy : yX8_copy.cls = RX8 ∧ yX8_copy.cls ≠ "java/lang/invoke/MethodHandle" ∧ yX8_copy.cls ≠ "java/lang/invoke/VarHandle" ∧ (parseMethodDescriptor yX8_copy.desc).map (fun d => d.parameters.length) = some 5 := by decide +kernel
theorem qX8_copy_11 : fw_G wsX8_copy RX8 11 RX8 TX8 9 0 := ⟨by decide +kernel, by decide +kernel, by decide⟩
theorem qX8_copy_94 : fw_G wsX8_copy RX8 94 RX6 TX6 3 1 := ⟨by decide +kernel, by decide +kernel, by decide⟩
theorem qX8_copy_97 : fw_G wsX8_copy RX8 97 RX6 TX6 3 0 := ⟨by decide +kernel, by decide +kernel, by decide⟩
theorem kcX8_copy_101 : Cond.methodLink RX8 101 arraycopyName ∈ wsX8_copy ∧ Cond.native arraycopyName ∈ wsX8_copy ∧ Cond.static arraycopyName ∈ wsX8_copy ∧ Cond.initialized "java/lang/System" ∈ wsX8_copy := by decide +kernel
theorem kX8_copy_70 : Cond.constant RX8 70 (-1000001) ∈ wsX8_copy := by decide +kernel
def P_Door_copy_b14 (o : Nat) (M : fw_M) : Option (Int32 × fw_M) := some ((-1000001 : Int32), M)
def P_Door_copy_b41 (o : Nat) (M : fw_M) : Option (Int32 × fw_M) := (P_Door_found o M (1 : Int32)).bind fun q1 => some (q1.1, q1.2)
def P_Door_copy_b105 (o : Nat) (M : fw_M) : Option (Int32 × fw_M) := (P_Door_found o M (2 : Int32)).bind fun q1 => some (q1.1, q1.2)
def P_Door_copy_b0 (o : Nat) (M : fw_M) (x1 : Int32) (x2 : Int32) (x3 : Int32) (x4 : Int32) (x5 : Int32) : Option (Int32 × fw_M) := (P_Door_isRow M x1).bind fun v1 => (if v1 = (0 : Int32) then P_Door_copy_b14 o M else (P_Door_isRow M x3).bind fun v3 => (if v3 = (0 : Int32) then P_Door_copy_b14 o M else (fw_aix 8 x1).bind fun i5 => (P_Row_isMissing (o + 171 + 2 * i5) M).bind fun v6 => (if v6 = (0 : Int32) then (fw_aix 8 x3).bind fun i8 => (P_Row_isMissing (o + 171 + 2 * i8) M).bind fun v9 => (if v9 = (0 : Int32) then (fw_aix 8 x1).bind fun i11 => (fw_aix 8 x3).bind fun i12 => (if (M (o + 171 + 2 * i11) 1) = (M (o + 171 + 2 * i12) 1) then (fw_aix 8 x1).bind fun i14 => (P_Row_holds (o + 171 + 2 * i14) M x2 x5).bind fun v15 => (if v15 = (0 : Int32) then P_Door_copy_b105 o M else (fw_aix 8 x3).bind fun i17 => (P_Row_holds (o + 171 + 2 * i17) M x4 x5).bind fun v18 => (if v18 = (0 : Int32) then P_Door_copy_b105 o M else (fw_aix 8 x1).bind fun i20 => (fw_aix 8 x3).bind fun i21 => (fw_cpy M ((o + 171 + 2 * i20) + 1) 40 x2 ((o + 171 + 2 * i21) + 1) 40 x4 x5).bind fun M22 => (P_Door_fine o M22 x5).bind fun q23 => some (q23.1, q23.2))) else (P_Door_found o M (5 : Int32)).bind fun q24 => some (q24.1, q24.2)) else P_Door_copy_b41 o M) else P_Door_copy_b41 o M)))
def P_Door_copy (o : Nat) (M : fw_M) (a0 : Int32) (a1 : Int32) (a2 : Int32) (a3 : Int32) (a4 : Int32) : Option (Int32 × fw_M) := P_Door_copy_b0 o M a0 a1 a2 a3 a4
set_option maxRecDepth 100000 in
theorem c_Door_copy_b14 {p : Program} {l : Launch} {e : Env} {s : State} {m : MethodId} {args : Array Value} {below : List Frame} {meth : Method} {c : Code} {D : va_G} {cI cZ cH cR : ClassId} {N : Nat} {ad : Nat → Nat} {EE : fw_M → Nat → va_E} {o : Nat} {M : fw_M} {z : (Int32 × fw_M)} (C : fw_C p s m args meth c cX8_copy RX8 wsX8_copy 6 (some .int) D vwCl (fw_tys cI cZ cH cR) N ad fw_nw0) (ho : o_Door EE ad N cI cZ cH cR o) (h : P_Door_copy_b14 o M = some z) : fw_J p l e (headSpec wsX8_copy rm_Door_copy).room s m args below meth c D vwCl N ad EE 6 0 0 (fw_E below args s D vwCl N ad EE (some (.int z.1)) z.2) M [] 14 [] := by
  unfold P_Door_copy_b14 at h
  refine fw_ldc (pc := 14) C (v := -1000001) kX8_copy_70 dX8_copy_14 ?_
  exact fw_iret (pc := 16) C (fw_p1 h) (fw_p2 h) dX8_copy_16
set_option maxRecDepth 100000 in
theorem c_Door_copy_b41 {p : Program} {l : Launch} {e : Env} {s : State} {m : MethodId} {args : Array Value} {below : List Frame} {meth : Method} {c : Code} {D : va_G} {cI cZ cH cR : ClassId} {N : Nat} {ad : Nat → Nat} {EE : fw_M → Nat → va_E} {o : Nat} {M : fw_M} {z : (Int32 × fw_M)} (C : fw_C p s m args meth c cX8_copy RX8 wsX8_copy 6 (some .int) D vwCl (fw_tys cI cZ cH cR) N ad fw_nw0) (ho : o_Door EE ad N cI cZ cH cR o) (h : P_Door_copy_b41 o M = some z) : fw_J p l e (headSpec wsX8_copy rm_Door_copy).room s m args below meth c D vwCl N ad EE 6 0 0 (fw_E below args s D vwCl N ad EE (some (.int z.1)) z.2) M [(0, .ref (ad o))] 41 [] := by
  unfold P_Door_copy_b41 at h
  refine fw_aload_n (pc := 41) C 0 dX8_copy_41 rfl rfl ?_
  refine fw_iconst (pc := 42) C (v := 1) dX8_copy_42 fk_iconst_1 ?_
  obtain ⟨q1, hq1, h⟩ := fw_bind h
  refine fw_callV1 (pc := 43) C (rest := []) (c_Door_found ho hq1) (cwV 1 C.2.2.2.2.1 gX8_copy_X8_found rfl rfl rfl hd_Door_found ⟨Nat.le_of_ble_eq_true rfl, Nat.le_of_ble_eq_true rfl⟩) ho.1 rfl rfl ⟨Nat.zero_le _, Nat.zero_le _⟩ rfl (Nat.le_of_ble_eq_true rfl) dX8_copy_43 ?_
  exact fw_iret (pc := 46) C (fw_p1 h) (fw_p2 h) dX8_copy_46
set_option maxRecDepth 100000 in
theorem c_Door_copy_b105 {p : Program} {l : Launch} {e : Env} {s : State} {m : MethodId} {args : Array Value} {below : List Frame} {meth : Method} {c : Code} {D : va_G} {cI cZ cH cR : ClassId} {N : Nat} {ad : Nat → Nat} {EE : fw_M → Nat → va_E} {o : Nat} {M : fw_M} {z : (Int32 × fw_M)} (C : fw_C p s m args meth c cX8_copy RX8 wsX8_copy 6 (some .int) D vwCl (fw_tys cI cZ cH cR) N ad fw_nw0) (ho : o_Door EE ad N cI cZ cH cR o) (h : P_Door_copy_b105 o M = some z) : fw_J p l e (headSpec wsX8_copy rm_Door_copy).room s m args below meth c D vwCl N ad EE 6 0 0 (fw_E below args s D vwCl N ad EE (some (.int z.1)) z.2) M [(0, .ref (ad o))] 105 [] := by
  unfold P_Door_copy_b105 at h
  refine fw_aload_n (pc := 105) C 0 dX8_copy_105 rfl rfl ?_
  refine fw_iconst (pc := 106) C (v := 2) dX8_copy_106 fk_iconst_2 ?_
  obtain ⟨q1, hq1, h⟩ := fw_bind h
  refine fw_callV1 (pc := 107) C (rest := []) (c_Door_found ho hq1) (cwV 1 C.2.2.2.2.1 gX8_copy_X8_found rfl rfl rfl hd_Door_found ⟨Nat.le_of_ble_eq_true rfl, Nat.le_of_ble_eq_true rfl⟩) ho.1 rfl rfl ⟨Nat.zero_le _, Nat.zero_le _⟩ rfl (Nat.le_of_ble_eq_true rfl) dX8_copy_107 ?_
  exact fw_iret (pc := 110) C (fw_p1 h) (fw_p2 h) dX8_copy_110
set_option maxRecDepth 100000 in
theorem c_Door_copy_b0 {p : Program} {l : Launch} {e : Env} {s : State} {m : MethodId} {args : Array Value} {below : List Frame} {meth : Method} {c : Code} {D : va_G} {cI cZ cH cR : ClassId} {N : Nat} {ad : Nat → Nat} {EE : fw_M → Nat → va_E} {o : Nat} {M : fw_M} {x1 : Int32} {x2 : Int32} {x3 : Int32} {x4 : Int32} {x5 : Int32} {z : (Int32 × fw_M)} (C : fw_C p s m args meth c cX8_copy RX8 wsX8_copy 6 (some .int) D vwCl (fw_tys cI cZ cH cR) N ad fw_nw0) (ho : o_Door EE ad N cI cZ cH cR o) (h : P_Door_copy_b0 o M x1 x2 x3 x4 x5 = some z) : fw_J p l e (headSpec wsX8_copy rm_Door_copy).room s m args below meth c D vwCl N ad EE 6 0 0 (fw_E below args s D vwCl N ad EE (some (.int z.1)) z.2) M [(0, .ref (ad o)), (1, .int x1), (2, .int x2), (3, .int x3), (4, .int x4), (5, .int x5)] 0 [] := by
  unfold P_Door_copy_b0 at h
  refine fw_iload_n (pc := 0) C 1 dX8_copy_0 rfl rfl ?_
  obtain ⟨v1, hv1, h⟩ := fw_bind h
  refine fw_callS1 (pc := 1) C (rest := []) (c_Door_isRow  hv1) (va_cwS 1 C.2.2.2.2.1 gX8_copy_X8_isRow rfl rfl rfl hd_Door_isRow.2 ⟨Nat.le_of_ble_eq_true rfl, Nat.le_of_ble_eq_true rfl⟩) rfl ⟨Nat.zero_le _, Nat.zero_le _⟩ rfl (Nat.le_of_ble_eq_true rfl) dX8_copy_1 ?_
  refine fw_if_eq (pc := 4) C (tgt := 14) dX8_copy_4 (by decide) (fun c2 => ?_) (fun c2 => ?_)
  · have h := fw_ift h c2
    exact fw_sub [] rfl (c_Door_copy_b14 C ho h)
  · have h := fw_iff h c2
    refine fw_iload_n (pc := 7) C 3 dX8_copy_7 rfl rfl ?_
    obtain ⟨v3, hv3, h⟩ := fw_bind h
    refine fw_callS1 (pc := 8) C (rest := []) (c_Door_isRow  hv3) (va_cwS 1 C.2.2.2.2.1 gX8_copy_X8_isRow rfl rfl rfl hd_Door_isRow.2 ⟨Nat.le_of_ble_eq_true rfl, Nat.le_of_ble_eq_true rfl⟩) rfl ⟨Nat.zero_le _, Nat.zero_le _⟩ rfl (Nat.le_of_ble_eq_true rfl) dX8_copy_8 ?_
    refine fw_if_ne (pc := 11) C (tgt := 17) dX8_copy_11 (by decide) (fun c4 => ?_) (fun c4 => ?_)
    · have h := fw_iff h c4
      refine fw_aload_n (pc := 17) C 0 dX8_copy_17 rfl rfl ?_
      refine fw_getr (pc := 18) C ho.2.1.1 rfl qX8_copy_11 dX8_copy_18 ?_
      refine fw_iload_n (pc := 21) C 1 dX8_copy_21 rfl rfl ?_
      obtain ⟨i5, hi5, h⟩ := fw_bind h
      refine fw_aald (pc := 22) C 3 ho.2.1.2.1 rfl hi5 dX8_copy_22 ?_
      obtain ⟨v6, hv6, h⟩ := fw_bind h
      refine fw_callV1 (pc := 23) C (rest := []) (c_Row_isMissing (ho.2.1.2.2 i5 (fw_aixlt hi5)) hv6) (cwV 0 C.2.2.2.2.1 gX8_copy_X6_isMissing rfl rfl rfl hd_Row_isMissing ⟨Nat.le_of_ble_eq_true rfl, Nat.le_of_ble_eq_true rfl⟩) (ho.2.1.2.2 i5 (fw_aixlt hi5)).1 rfl rfl ⟨Nat.zero_le _, Nat.zero_le _⟩ rfl (Nat.le_of_ble_eq_true rfl) dX8_copy_23 ?_
      refine fw_if_ne (pc := 26) C (tgt := 41) dX8_copy_26 (by decide) (fun c7 => ?_) (fun c7 => ?_)
      · have h := fw_iff h c7
        exact fw_sub [0] rfl (c_Door_copy_b41 C ho h)
      · have h := fw_ift h c7
        refine fw_aload_n (pc := 29) C 0 dX8_copy_29 rfl rfl ?_
        refine fw_getr (pc := 30) C ho.2.1.1 rfl qX8_copy_11 dX8_copy_30 ?_
        refine fw_iload_n (pc := 33) C 3 dX8_copy_33 rfl rfl ?_
        obtain ⟨i8, hi8, h⟩ := fw_bind h
        refine fw_aald (pc := 34) C 3 ho.2.1.2.1 rfl hi8 dX8_copy_34 ?_
        obtain ⟨v9, hv9, h⟩ := fw_bind h
        refine fw_callV1 (pc := 35) C (rest := []) (c_Row_isMissing (ho.2.1.2.2 i8 (fw_aixlt hi8)) hv9) (cwV 0 C.2.2.2.2.1 gX8_copy_X6_isMissing rfl rfl rfl hd_Row_isMissing ⟨Nat.le_of_ble_eq_true rfl, Nat.le_of_ble_eq_true rfl⟩) (ho.2.1.2.2 i8 (fw_aixlt hi8)).1 rfl rfl ⟨Nat.zero_le _, Nat.zero_le _⟩ rfl (Nat.le_of_ble_eq_true rfl) dX8_copy_35 ?_
        refine fw_if_eq (pc := 38) C (tgt := 47) dX8_copy_38 (by decide) (fun c10 => ?_) (fun c10 => ?_)
        · have h := fw_ift h c10
          refine fw_aload_n (pc := 47) C 0 dX8_copy_47 rfl rfl ?_
          refine fw_getr (pc := 48) C ho.2.1.1 rfl qX8_copy_11 dX8_copy_48 ?_
          refine fw_iload_n (pc := 51) C 1 dX8_copy_51 rfl rfl ?_
          obtain ⟨i11, hi11, h⟩ := fw_bind h
          refine fw_aald (pc := 52) C 3 ho.2.1.2.1 rfl hi11 dX8_copy_52 ?_
          refine fw_geti (pc := 53) C (ho.2.1.2.2 i11 (fw_aixlt hi11)).2.2.1 rfl qX8_copy_94 dX8_copy_53 ?_
          refine fw_aload_n (pc := 56) C 0 dX8_copy_56 rfl rfl ?_
          refine fw_getr (pc := 57) C ho.2.1.1 rfl qX8_copy_11 dX8_copy_57 ?_
          refine fw_iload_n (pc := 60) C 3 dX8_copy_60 rfl rfl ?_
          obtain ⟨i12, hi12, h⟩ := fw_bind h
          refine fw_aald (pc := 61) C 3 ho.2.1.2.1 rfl hi12 dX8_copy_61 ?_
          refine fw_geti (pc := 62) C (ho.2.1.2.2 i12 (fw_aixlt hi12)).2.2.1 rfl qX8_copy_94 dX8_copy_62 ?_
          refine fw_icmp_eq (pc := 65) C (tgt := 74) dX8_copy_65 (by decide) (fun c13 => ?_) (fun c13 => ?_)
          · have h := fw_ift h c13
            refine fw_aload_n (pc := 74) C 0 dX8_copy_74 rfl rfl ?_
            refine fw_getr (pc := 75) C ho.2.1.1 rfl qX8_copy_11 dX8_copy_75 ?_
            refine fw_iload_n (pc := 78) C 1 dX8_copy_78 rfl rfl ?_
            obtain ⟨i14, hi14, h⟩ := fw_bind h
            refine fw_aald (pc := 79) C 3 ho.2.1.2.1 rfl hi14 dX8_copy_79 ?_
            refine fw_iload_n (pc := 80) C 2 dX8_copy_80 rfl rfl ?_
            refine fw_iload (pc := 81) C 5 dX8_copy_81 rfl ?_
            obtain ⟨v15, hv15, h⟩ := fw_bind h
            refine fw_callV1 (pc := 83) C (rest := []) (c_Row_holds (ho.2.1.2.2 i14 (fw_aixlt hi14)) hv15) (cwV 2 C.2.2.2.2.1 gX8_copy_X6_holds rfl rfl rfl hd_Row_holds ⟨Nat.le_of_ble_eq_true rfl, Nat.le_of_ble_eq_true rfl⟩) (ho.2.1.2.2 i14 (fw_aixlt hi14)).1 rfl rfl ⟨Nat.zero_le _, Nat.zero_le _⟩ rfl (Nat.le_of_ble_eq_true rfl) dX8_copy_83 ?_
            refine fw_if_eq (pc := 86) C (tgt := 105) dX8_copy_86 (by decide) (fun c16 => ?_) (fun c16 => ?_)
            · have h := fw_ift h c16
              exact fw_sub [0] rfl (c_Door_copy_b105 C ho h)
            · have h := fw_iff h c16
              refine fw_aload_n (pc := 89) C 0 dX8_copy_89 rfl rfl ?_
              refine fw_getr (pc := 90) C ho.2.1.1 rfl qX8_copy_11 dX8_copy_90 ?_
              refine fw_iload_n (pc := 93) C 3 dX8_copy_93 rfl rfl ?_
              obtain ⟨i17, hi17, h⟩ := fw_bind h
              refine fw_aald (pc := 94) C 3 ho.2.1.2.1 rfl hi17 dX8_copy_94 ?_
              refine fw_iload (pc := 95) C 4 dX8_copy_95 rfl ?_
              refine fw_iload (pc := 97) C 5 dX8_copy_97 rfl ?_
              obtain ⟨v18, hv18, h⟩ := fw_bind h
              refine fw_callV1 (pc := 99) C (rest := []) (c_Row_holds (ho.2.1.2.2 i17 (fw_aixlt hi17)) hv18) (cwV 2 C.2.2.2.2.1 gX8_copy_X6_holds rfl rfl rfl hd_Row_holds ⟨Nat.le_of_ble_eq_true rfl, Nat.le_of_ble_eq_true rfl⟩) (ho.2.1.2.2 i17 (fw_aixlt hi17)).1 rfl rfl ⟨Nat.zero_le _, Nat.zero_le _⟩ rfl (Nat.le_of_ble_eq_true rfl) dX8_copy_99 ?_
              refine fw_if_ne (pc := 102) C (tgt := 111) dX8_copy_102 (by decide) (fun c19 => ?_) (fun c19 => ?_)
              · have h := fw_iff h c19
                refine fw_aload_n (pc := 111) C 0 dX8_copy_111 rfl rfl ?_
                refine fw_getr (pc := 112) C ho.2.1.1 rfl qX8_copy_11 dX8_copy_112 ?_
                refine fw_iload_n (pc := 115) C 1 dX8_copy_115 rfl rfl ?_
                obtain ⟨i20, hi20, h⟩ := fw_bind h
                refine fw_aald (pc := 116) C 3 ho.2.1.2.1 rfl hi20 dX8_copy_116 ?_
                refine fw_getr (pc := 117) C (ho.2.1.2.2 i20 (fw_aixlt hi20)).2.1.1 rfl qX8_copy_97 dX8_copy_117 ?_
                refine fw_iload_n (pc := 120) C 2 dX8_copy_120 rfl rfl ?_
                refine fw_aload_n (pc := 121) C 0 dX8_copy_121 rfl rfl ?_
                refine fw_getr (pc := 122) C ho.2.1.1 rfl qX8_copy_11 dX8_copy_122 ?_
                refine fw_iload_n (pc := 125) C 3 dX8_copy_125 rfl rfl ?_
                obtain ⟨i21, hi21, h⟩ := fw_bind h
                refine fw_aald (pc := 126) C 3 ho.2.1.2.1 rfl hi21 dX8_copy_126 ?_
                refine fw_getr (pc := 127) C (ho.2.1.2.2 i21 (fw_aixlt hi21)).2.1.1 rfl qX8_copy_97 dX8_copy_127 ?_
                refine fw_iload (pc := 130) C 4 dX8_copy_130 rfl ?_
                refine fw_iload (pc := 132) C 5 dX8_copy_132 rfl ?_
                obtain ⟨M22, hM22, h⟩ := fw_bind h
                refine fw_copy (pc := 134) C 0 0 kcX8_copy_101 (ho.2.1.2.2 i20 (fw_aixlt hi20)).2.1.2 (ho.2.1.2.2 i21 (fw_aixlt hi21)).2.1.2 rfl rfl hM22 (Nat.le_of_ble_eq_true rfl) (Nat.le_of_ble_eq_true rfl) dX8_copy_134 ?_
                refine fw_aload_n (pc := 137) C 0 dX8_copy_137 rfl rfl ?_
                refine fw_iload (pc := 138) C 5 dX8_copy_138 rfl ?_
                obtain ⟨q23, hq23, h⟩ := fw_bind h
                refine fw_callV1 (pc := 140) C (rest := []) (c_Door_fine ho hq23) (cwV 1 C.2.2.2.2.1 gX8_copy_X8_fine rfl rfl rfl hd_Door_fine ⟨Nat.le_of_ble_eq_true rfl, Nat.le_of_ble_eq_true rfl⟩) ho.1 rfl rfl ⟨Nat.zero_le _, Nat.zero_le _⟩ rfl (Nat.le_of_ble_eq_true rfl) dX8_copy_140 ?_
                exact fw_iret (pc := 143) C (fw_p1 h) (fw_p2 h) dX8_copy_143
              · have h := fw_ift h c19
                exact fw_sub [0] rfl (c_Door_copy_b105 C ho h)
          · have h := fw_iff h c13
            refine fw_aload_n (pc := 68) C 0 dX8_copy_68 rfl rfl ?_
            refine fw_iconst (pc := 69) C (v := 5) dX8_copy_69 fk_iconst_5 ?_
            obtain ⟨q24, hq24, h⟩ := fw_bind h
            refine fw_callV1 (pc := 70) C (rest := []) (c_Door_found ho hq24) (cwV 1 C.2.2.2.2.1 gX8_copy_X8_found rfl rfl rfl hd_Door_found ⟨Nat.le_of_ble_eq_true rfl, Nat.le_of_ble_eq_true rfl⟩) ho.1 rfl rfl ⟨Nat.zero_le _, Nat.zero_le _⟩ rfl (Nat.le_of_ble_eq_true rfl) dX8_copy_70 ?_
            exact fw_iret (pc := 73) C (fw_p1 h) (fw_p2 h) dX8_copy_73
        · have h := fw_iff h c10
          exact fw_sub [0] rfl (c_Door_copy_b41 C ho h)
    · have h := fw_ift h c4
      exact fw_sub [] rfl (c_Door_copy_b14 C ho h)
theorem c_Door_copy {l : Launch} {D : va_G} {cI cZ cH cR : ClassId} {N : Nat} {ad : Nat → Nat} {EE : fw_M → Nat → va_E} {o : Nat} {M : fw_M} {a0 : Int32} {a1 : Int32} {a2 : Int32} {a3 : Int32} {a4 : Int32} {z : (Int32 × fw_M)} (ho : o_Door EE ad N cI cZ cH cR o) (h : P_Door_copy o M a0 a1 a2 a3 a4 = some z) : fw_Met l yX8_copy wsX8_copy rm_Door_copy D vwCl (fw_tys cI cZ cH cR) N ad fw_nw0 EE [.ref (ad o), .int a0, .int a1, .int a2, .int a3, .int a4] M (some (.int z.1)) z.2 := by
  unfold P_Door_copy at h
  exact fw_intro (cc := cX8_copy) (maxL := 6) (ret := some .int) (own := RX8) (by decide) rfl rfl (Nat.le_of_ble_eq_true rfl) (fun p e s m args below meth c C => fw_sub [0, 1, 2, 3, 4, 5] rfl (c_Door_copy_b0 C ho h))
abbrev rm_Door_drop : Room := { frames := 2, cells := 0, slots := 0, locals := 42 }
theorem hd_Door_drop : yX8_drop.cls = RX8 ∧ yX8_drop.cls ≠ "java/lang/invoke/MethodHandle" ∧ yX8_drop.cls ≠ "java/lang/invoke/VarHandle" ∧ (parseMethodDescriptor yX8_drop.desc).map (fun d => d.parameters.length) = some 1 := by decide +kernel
theorem kX8_drop_70 : Cond.constant RX8 70 (-1000001) ∈ wsX8_drop := by decide +kernel
theorem qX8_drop_11 : fw_G wsX8_drop RX8 11 RX8 TX8 9 0 := ⟨by decide +kernel, by decide +kernel, by decide⟩
def P_Door_drop_b0 (o : Nat) (M : fw_M) (x1 : Int32) : Option (Int32 × fw_M) := (P_Door_isRow M x1).bind fun v1 => (if v1 = (0 : Int32) then some ((-1000001 : Int32), M) else (fw_aix 8 x1).bind fun i3 => (P_Row_isMissing (o + 171 + 2 * i3) M).bind fun v4 => (if v4 = (0 : Int32) then (fw_aix 8 x1).bind fun i6 => (P_Row_clear (o + 171 + 2 * i6) M).bind fun q7 => (P_Door_fine o q7.2 q7.1).bind fun q8 => some (q8.1, q8.2) else (P_Door_found o M (1 : Int32)).bind fun q9 => some (q9.1, q9.2)))
def P_Door_drop (o : Nat) (M : fw_M) (a0 : Int32) : Option (Int32 × fw_M) := P_Door_drop_b0 o M a0
set_option maxRecDepth 100000 in
theorem c_Door_drop_b0 {p : Program} {l : Launch} {e : Env} {s : State} {m : MethodId} {args : Array Value} {below : List Frame} {meth : Method} {c : Code} {D : va_G} {cI cZ cH cR : ClassId} {N : Nat} {ad : Nat → Nat} {EE : fw_M → Nat → va_E} {o : Nat} {M : fw_M} {x1 : Int32} {z : (Int32 × fw_M)} (C : fw_C p s m args meth c cX8_drop RX8 wsX8_drop 2 (some .int) D vwCl (fw_tys cI cZ cH cR) N ad fw_nw0) (ho : o_Door EE ad N cI cZ cH cR o) (h : P_Door_drop_b0 o M x1 = some z) : fw_J p l e (headSpec wsX8_drop rm_Door_drop).room s m args below meth c D vwCl N ad EE 2 0 0 (fw_E below args s D vwCl N ad EE (some (.int z.1)) z.2) M [(0, .ref (ad o)), (1, .int x1)] 0 [] := by
  unfold P_Door_drop_b0 at h
  refine fw_iload_n (pc := 0) C 1 dX8_drop_0 rfl rfl ?_
  obtain ⟨v1, hv1, h⟩ := fw_bind h
  refine fw_callS1 (pc := 1) C (rest := []) (c_Door_isRow  hv1) (va_cwS 1 C.2.2.2.2.1 gX8_drop_X8_isRow rfl rfl rfl hd_Door_isRow.2 ⟨Nat.le_of_ble_eq_true rfl, Nat.le_of_ble_eq_true rfl⟩) rfl ⟨Nat.zero_le _, Nat.zero_le _⟩ rfl (Nat.le_of_ble_eq_true rfl) dX8_drop_1 ?_
  refine fw_if_ne (pc := 4) C (tgt := 10) dX8_drop_4 (by decide) (fun c2 => ?_) (fun c2 => ?_)
  · have h := fw_iff h c2
    refine fw_aload_n (pc := 10) C 0 dX8_drop_10 rfl rfl ?_
    refine fw_getr (pc := 11) C ho.2.1.1 rfl qX8_drop_11 dX8_drop_11 ?_
    refine fw_iload_n (pc := 14) C 1 dX8_drop_14 rfl rfl ?_
    obtain ⟨i3, hi3, h⟩ := fw_bind h
    refine fw_aald (pc := 15) C 3 ho.2.1.2.1 rfl hi3 dX8_drop_15 ?_
    obtain ⟨v4, hv4, h⟩ := fw_bind h
    refine fw_callV1 (pc := 16) C (rest := []) (c_Row_isMissing (ho.2.1.2.2 i3 (fw_aixlt hi3)) hv4) (cwV 0 C.2.2.2.2.1 gX8_drop_X6_isMissing rfl rfl rfl hd_Row_isMissing ⟨Nat.le_of_ble_eq_true rfl, Nat.le_of_ble_eq_true rfl⟩) (ho.2.1.2.2 i3 (fw_aixlt hi3)).1 rfl rfl ⟨Nat.zero_le _, Nat.zero_le _⟩ rfl (Nat.le_of_ble_eq_true rfl) dX8_drop_16 ?_
    refine fw_if_eq (pc := 19) C (tgt := 28) dX8_drop_19 (by decide) (fun c5 => ?_) (fun c5 => ?_)
    · have h := fw_ift h c5
      refine fw_aload_n (pc := 28) C 0 dX8_drop_28 rfl rfl ?_
      refine fw_aload_n (pc := 29) C 0 dX8_drop_29 rfl rfl ?_
      refine fw_getr (pc := 30) C ho.2.1.1 rfl qX8_drop_11 dX8_drop_30 ?_
      refine fw_iload_n (pc := 33) C 1 dX8_drop_33 rfl rfl ?_
      obtain ⟨i6, hi6, h⟩ := fw_bind h
      refine fw_aald (pc := 34) C 3 ho.2.1.2.1 rfl hi6 dX8_drop_34 ?_
      obtain ⟨q7, hq7, h⟩ := fw_bind h
      refine fw_callV1 (pc := 35) C (rest := [_]) (c_Row_clear (ho.2.1.2.2 i6 (fw_aixlt hi6)) hq7) (cwV 0 C.2.2.2.2.1 gX8_drop_X6_clear rfl rfl rfl hd_Row_clear ⟨Nat.le_of_ble_eq_true rfl, Nat.le_of_ble_eq_true rfl⟩) (ho.2.1.2.2 i6 (fw_aixlt hi6)).1 rfl rfl ⟨Nat.zero_le _, Nat.zero_le _⟩ rfl (Nat.le_of_ble_eq_true rfl) dX8_drop_35 ?_
      obtain ⟨q8, hq8, h⟩ := fw_bind h
      refine fw_callV1 (pc := 38) C (rest := []) (c_Door_fine ho hq8) (cwV 1 C.2.2.2.2.1 gX8_drop_X8_fine rfl rfl rfl hd_Door_fine ⟨Nat.le_of_ble_eq_true rfl, Nat.le_of_ble_eq_true rfl⟩) ho.1 rfl rfl ⟨Nat.zero_le _, Nat.zero_le _⟩ rfl (Nat.le_of_ble_eq_true rfl) dX8_drop_38 ?_
      exact fw_iret (pc := 41) C (fw_p1 h) (fw_p2 h) dX8_drop_41
    · have h := fw_iff h c5
      refine fw_aload_n (pc := 22) C 0 dX8_drop_22 rfl rfl ?_
      refine fw_iconst (pc := 23) C (v := 1) dX8_drop_23 fk_iconst_1 ?_
      obtain ⟨q9, hq9, h⟩ := fw_bind h
      refine fw_callV1 (pc := 24) C (rest := []) (c_Door_found ho hq9) (cwV 1 C.2.2.2.2.1 gX8_drop_X8_found rfl rfl rfl hd_Door_found ⟨Nat.le_of_ble_eq_true rfl, Nat.le_of_ble_eq_true rfl⟩) ho.1 rfl rfl ⟨Nat.zero_le _, Nat.zero_le _⟩ rfl (Nat.le_of_ble_eq_true rfl) dX8_drop_24 ?_
      exact fw_iret (pc := 27) C (fw_p1 h) (fw_p2 h) dX8_drop_27
  · have h := fw_ift h c2
    refine fw_ldc (pc := 7) C (v := -1000001) kX8_drop_70 dX8_drop_7 ?_
    exact fw_iret (pc := 9) C (fw_p1 h) (fw_p2 h) dX8_drop_9
theorem c_Door_drop {l : Launch} {D : va_G} {cI cZ cH cR : ClassId} {N : Nat} {ad : Nat → Nat} {EE : fw_M → Nat → va_E} {o : Nat} {M : fw_M} {a0 : Int32} {z : (Int32 × fw_M)} (ho : o_Door EE ad N cI cZ cH cR o) (h : P_Door_drop o M a0 = some z) : fw_Met l yX8_drop wsX8_drop rm_Door_drop D vwCl (fw_tys cI cZ cH cR) N ad fw_nw0 EE [.ref (ad o), .int a0] M (some (.int z.1)) z.2 := by
  unfold P_Door_drop at h
  exact fw_intro (cc := cX8_drop) (maxL := 2) (ret := some .int) (own := RX8) (by decide) rfl rfl (Nat.le_of_ble_eq_true rfl) (fun p e s m args below meth c C => fw_sub [0, 1] rfl (c_Door_drop_b0 C ho h))
abbrev rm_Door_feed : Room := { frames := 1, cells := 0, slots := 0, locals := 22 }
theorem hd_Door_feed : yX8_feed.cls = RX8 ∧ yX8_feed.cls ≠ "java/lang/invoke/MethodHandle" ∧ yX8_feed.cls ≠ "java/lang/invoke/VarHandle" ∧ (parseMethodDescriptor yX8_feed.desc).map (fun d => d.parameters.length) = some 1 := by decide +kernel
theorem kX8_feed_70 : Cond.constant RX8 70 (-1000001) ∈ wsX8_feed := by decide +kernel
theorem qX8_feed_18 : fw_G wsX8_feed RX8 18 RX8 TX8 9 1 := ⟨by decide +kernel, by decide +kernel, by decide⟩
theorem qX8_feed_114 : fw_G wsX8_feed RX8 114 RX7 TX7 4 1 := ⟨by decide +kernel, by decide +kernel, by decide⟩
theorem kX8_feed_117 : Cond.constant RX8 117 (-1000003) ∈ wsX8_feed := by decide +kernel
def P_Door_feed_b37 (o : Nat) (M : fw_M) (t0 : Int32) : Option (Int32 × fw_M) := some (t0, M)
def P_Door_feed_b0 (o : Nat) (M : fw_M) (x1 : Int32) : Option (Int32 × fw_M) := (P_Door_within M x1 (0 : Int32) (255 : Int32)).bind fun v1 => (if v1 = (0 : Int32) then some ((-1000001 : Int32), M) else (P_Tape_add (o + 2) M x1).bind fun q3 => (if q3.1 = (0 : Int32) then P_Door_feed_b37 o q3.2 (-1000003 : Int32) else P_Door_feed_b37 o q3.2 (q3.2 (o + 2) 1)))
def P_Door_feed (o : Nat) (M : fw_M) (a0 : Int32) : Option (Int32 × fw_M) := P_Door_feed_b0 o M a0
set_option maxRecDepth 100000 in
theorem c_Door_feed_b37 {p : Program} {l : Launch} {e : Env} {s : State} {m : MethodId} {args : Array Value} {below : List Frame} {meth : Method} {c : Code} {D : va_G} {cI cZ cH cR : ClassId} {N : Nat} {ad : Nat → Nat} {EE : fw_M → Nat → va_E} {o : Nat} {M : fw_M} {t0 : Int32} {z : (Int32 × fw_M)} (C : fw_C p s m args meth c cX8_feed RX8 wsX8_feed 2 (some .int) D vwCl (fw_tys cI cZ cH cR) N ad fw_nw0) (ho : o_Door EE ad N cI cZ cH cR o) (h : P_Door_feed_b37 o M t0 = some z) : fw_J p l e (headSpec wsX8_feed rm_Door_feed).room s m args below meth c D vwCl N ad EE 2 0 0 (fw_E below args s D vwCl N ad EE (some (.int z.1)) z.2) M [] 37 [.int t0] := by
  unfold P_Door_feed_b37 at h
  exact fw_iret (pc := 37) C (fw_p1 h) (fw_p2 h) dX8_feed_37
set_option maxRecDepth 100000 in
theorem c_Door_feed_b0 {p : Program} {l : Launch} {e : Env} {s : State} {m : MethodId} {args : Array Value} {below : List Frame} {meth : Method} {c : Code} {D : va_G} {cI cZ cH cR : ClassId} {N : Nat} {ad : Nat → Nat} {EE : fw_M → Nat → va_E} {o : Nat} {M : fw_M} {x1 : Int32} {z : (Int32 × fw_M)} (C : fw_C p s m args meth c cX8_feed RX8 wsX8_feed 2 (some .int) D vwCl (fw_tys cI cZ cH cR) N ad fw_nw0) (ho : o_Door EE ad N cI cZ cH cR o) (h : P_Door_feed_b0 o M x1 = some z) : fw_J p l e (headSpec wsX8_feed rm_Door_feed).room s m args below meth c D vwCl N ad EE 2 0 0 (fw_E below args s D vwCl N ad EE (some (.int z.1)) z.2) M [(0, .ref (ad o)), (1, .int x1)] 0 [] := by
  unfold P_Door_feed_b0 at h
  refine fw_iload_n (pc := 0) C 1 dX8_feed_0 rfl rfl ?_
  refine fw_iconst (pc := 1) C (v := 0) dX8_feed_1 fk_iconst_0 ?_
  refine fw_sipush (pc := 2) C (v := 255) dX8_feed_2 fk_sipush_255 ?_
  obtain ⟨v1, hv1, h⟩ := fw_bind h
  refine fw_callS1 (pc := 5) C (rest := []) (c_Door_within  hv1) (va_cwS 3 C.2.2.2.2.1 gX8_feed_X8_within rfl rfl rfl hd_Door_within.2 ⟨Nat.le_of_ble_eq_true rfl, Nat.le_of_ble_eq_true rfl⟩) rfl ⟨Nat.zero_le _, Nat.zero_le _⟩ rfl (Nat.le_of_ble_eq_true rfl) dX8_feed_5 ?_
  refine fw_if_ne (pc := 8) C (tgt := 14) dX8_feed_8 (by decide) (fun c2 => ?_) (fun c2 => ?_)
  · have h := fw_iff h c2
    refine fw_aload_n (pc := 14) C 0 dX8_feed_14 rfl rfl ?_
    refine fw_getr (pc := 15) C ho.2.2.1.1 rfl qX8_feed_18 dX8_feed_15 ?_
    refine fw_iload_n (pc := 18) C 1 dX8_feed_18 rfl rfl ?_
    obtain ⟨q3, hq3, h⟩ := fw_bind h
    refine fw_callV1 (pc := 19) C (rest := []) (c_Tape_add ho.2.2.1.2 hq3) (cwV 1 C.2.2.2.2.1 gX8_feed_X7_add rfl rfl rfl hd_Tape_add ⟨Nat.le_of_ble_eq_true rfl, Nat.le_of_ble_eq_true rfl⟩) ho.2.2.1.2.1 rfl rfl ⟨Nat.zero_le _, Nat.zero_le _⟩ rfl (Nat.le_of_ble_eq_true rfl) dX8_feed_19 ?_
    refine fw_if_eq (pc := 22) C (tgt := 35) dX8_feed_22 (by decide) (fun c4 => ?_) (fun c4 => ?_)
    · have h := fw_ift h c4
      refine fw_ldc (pc := 35) C (v := -1000003) kX8_feed_117 dX8_feed_35 ?_
      exact fw_sub [] rfl (c_Door_feed_b37 C ho h)
    · have h := fw_iff h c4
      refine fw_aload_n (pc := 25) C 0 dX8_feed_25 rfl rfl ?_
      refine fw_getr (pc := 26) C ho.2.2.1.1 rfl qX8_feed_18 dX8_feed_26 ?_
      refine fw_geti (pc := 29) C ho.2.2.1.2.2.2.1 rfl qX8_feed_114 dX8_feed_29 ?_
      refine fw_goto (pc := 32) C (tgt := 37) dX8_feed_32 (by decide) ?_
      exact fw_sub [] rfl (c_Door_feed_b37 C ho h)
  · have h := fw_ift h c2
    refine fw_ldc (pc := 11) C (v := -1000001) kX8_feed_70 dX8_feed_11 ?_
    exact fw_iret (pc := 13) C (fw_p1 h) (fw_p2 h) dX8_feed_13
theorem c_Door_feed {l : Launch} {D : va_G} {cI cZ cH cR : ClassId} {N : Nat} {ad : Nat → Nat} {EE : fw_M → Nat → va_E} {o : Nat} {M : fw_M} {a0 : Int32} {z : (Int32 × fw_M)} (ho : o_Door EE ad N cI cZ cH cR o) (h : P_Door_feed o M a0 = some z) : fw_Met l yX8_feed wsX8_feed rm_Door_feed D vwCl (fw_tys cI cZ cH cR) N ad fw_nw0 EE [.ref (ad o), .int a0] M (some (.int z.1)) z.2 := by
  unfold P_Door_feed at h
  exact fw_intro (cc := cX8_feed) (maxL := 2) (ret := some .int) (own := RX8) (by decide) rfl rfl (Nat.le_of_ble_eq_true rfl) (fun p e s m args below meth c C => fw_sub [0, 1] rfl (c_Door_feed_b0 C ho h))
abbrev rm_Door_ministry : Room := { frames := 6, cells := 0, slots := 0, locals := 136 }
theorem hd_Door_ministry : yX8_ministry.cls = RX8 ∧ yX8_ministry.cls ≠ "java/lang/invoke/MethodHandle" ∧ yX8_ministry.cls ≠ "java/lang/invoke/VarHandle" ∧ (parseMethodDescriptor yX8_ministry.desc).map (fun d => d.parameters.length) = some 0 := by decide +kernel
theorem qX8_ministry_43 : fw_G wsX8_ministry RX8 43 RX8 TX8 9 5 := ⟨by decide +kernel, by decide +kernel, by decide⟩
theorem qX8_ministry_118 : fw_G wsX8_ministry RX8 118 RX2 TX2 3 0 := ⟨by decide +kernel, by decide +kernel, by decide⟩
theorem qX8_ministry_18 : fw_G wsX8_ministry RX8 18 RX8 TX8 9 1 := ⟨by decide +kernel, by decide +kernel, by decide⟩
theorem qX8_ministry_114 : fw_G wsX8_ministry RX8 114 RX7 TX7 4 1 := ⟨by decide +kernel, by decide +kernel, by decide⟩
theorem qX8_ministry_125 : fw_G wsX8_ministry RX8 125 RX7 TX7 4 3 := ⟨by decide +kernel, by decide +kernel, by decide⟩
theorem qX8_ministry_54 : fw_G wsX8_ministry RX8 54 RX8 TX8 9 7 := ⟨by decide +kernel, by decide +kernel, by decide⟩
theorem kX8_ministry_128 : Cond.constant RX8 128 (-1000100) ∈ wsX8_ministry := by decide +kernel
theorem qX8_ministry_129 : fw_G wsX8_ministry RX8 129 RX7 TX7 4 2 := ⟨by decide +kernel, by decide +kernel, by decide⟩
theorem qX8_ministry_25 : fw_G wsX8_ministry RX8 25 RX8 TX8 9 2 := ⟨by decide +kernel, by decide +kernel, by decide⟩
theorem qX8_ministry_32 : fw_G wsX8_ministry RX8 32 RX8 TX8 9 3 := ⟨by decide +kernel, by decide +kernel, by decide⟩
theorem qX8_ministry_139 : fw_G wsX8_ministry RX8 139 RX3 TX3 9 2 := ⟨by decide +kernel, by decide +kernel, by decide⟩
def P_Door_ministry_b0 (o : Nat) (M : fw_M) : Option (Int32 × fw_M) := (P_Tape_readInto (o + 2) ((o + 157) + 1) M).bind fun q1 => fw_pl (fw_set q1.2 (o + 2) 1 (0 : Int32)) fun M2 => (if q1.1 = (0 : Int32) then fw_pl (fw_set M2 o 7 (M2 (o + 2) 3)) fun M6 => some (((-1000100 : Int32) - (M6 (o + 2) 2)), M6) else (P_Hall_become (o + 4) ((o + 157) + 1) M2).bind fun q4 => (P_Acts_forget (o + 10) q4).bind fun q5 => some ((q5 (o + 4) 2), q5))
def P_Door_ministry (o : Nat) (M : fw_M) : Option (Int32 × fw_M) := P_Door_ministry_b0 o M
set_option maxRecDepth 100000 in
theorem c_Door_ministry_b0 {p : Program} {l : Launch} {e : Env} {s : State} {m : MethodId} {args : Array Value} {below : List Frame} {meth : Method} {c : Code} {D : va_G} {cI cZ cH cR : ClassId} {N : Nat} {ad : Nat → Nat} {EE : fw_M → Nat → va_E} {o : Nat} {M : fw_M} {z : (Int32 × fw_M)} (C : fw_C p s m args meth c cX8_ministry RX8 wsX8_ministry 3 (some .int) D vwCl (fw_tys cI cZ cH cR) N ad fw_nw0) (ho : o_Door EE ad N cI cZ cH cR o) (h : P_Door_ministry_b0 o M = some z) : fw_J p l e (headSpec wsX8_ministry rm_Door_ministry).room s m args below meth c D vwCl N ad EE 3 0 0 (fw_E below args s D vwCl N ad EE (some (.int z.1)) z.2) M [(0, .ref (ad o))] 0 [] := by
  unfold P_Door_ministry_b0 at h
  refine fw_aload_n (pc := 0) C 0 dX8_ministry_0 rfl rfl ?_
  refine fw_getr (pc := 1) C ho.2.2.2.2.2.2.1.1 rfl qX8_ministry_43 dX8_ministry_1 ?_
  refine fw_getr (pc := 4) C ho.2.2.2.2.2.2.1.2.2.1.1 rfl qX8_ministry_118 dX8_ministry_4 ?_
  refine fw_astore_n (pc := 7) C (L2 := [(0, .ref _), (1, .ref _)]) [1, 0] dX8_ministry_7 rfl (by decide) rfl ?_
  refine fw_aload_n (pc := 8) C 0 dX8_ministry_8 rfl rfl ?_
  refine fw_getr (pc := 9) C ho.2.2.1.1 rfl qX8_ministry_18 dX8_ministry_9 ?_
  refine fw_aload_n (pc := 12) C 1 dX8_ministry_12 rfl rfl ?_
  obtain ⟨q1, hq1, h⟩ := fw_bind h
  refine fw_callV1 (pc := 13) C (rest := []) (c_Tape_readInto ho.2.2.1.2 ho.2.2.2.2.2.2.1.2.2.1.2 hq1) (cwV 1 C.2.2.2.2.1 gX8_ministry_X7_readInto rfl rfl rfl hd_Tape_readInto ⟨Nat.le_of_ble_eq_true rfl, Nat.le_of_ble_eq_true rfl⟩) ho.2.2.1.2.1 rfl rfl ⟨Nat.zero_le _, Nat.zero_le _⟩ rfl (Nat.le_of_ble_eq_true rfl) dX8_ministry_13 ?_
  refine fw_istore_n (pc := 16) C (L2 := [(0, .ref _), (1, .ref _), (2, .int _)]) [1, 2, 0] dX8_ministry_16 rfl (by decide) rfl ?_
  refine fw_aload_n (pc := 17) C 0 dX8_ministry_17 rfl rfl ?_
  refine fw_getr (pc := 18) C ho.2.2.1.1 rfl qX8_ministry_18 dX8_ministry_18 ?_
  refine fw_iconst (pc := 21) C (v := 0) dX8_ministry_21 fk_iconst_0 ?_
  have h := fw_plh h
  refine fw_puti (pc := 22) C ho.2.2.1.2.2.2.1 rfl qX8_ministry_114 tyX7 tyX7_ok nmX7 rfl rfl dX8_ministry_22 ?_
  refine fw_iload_n (pc := 25) C 2 dX8_ministry_25 rfl rfl ?_
  refine fw_if_ne (pc := 26) C (tgt := 51) dX8_ministry_26 (by decide) (fun c3 => ?_) (fun c3 => ?_)
  · have h := fw_iff h c3
    refine fw_aload_n (pc := 51) C 0 dX8_ministry_51 rfl rfl ?_
    refine fw_getr (pc := 52) C ho.2.2.2.1.1 rfl qX8_ministry_25 dX8_ministry_52 ?_
    refine fw_aload_n (pc := 55) C 1 dX8_ministry_55 rfl rfl ?_
    obtain ⟨q4, hq4, h⟩ := fw_bind h
    refine fw_callV0 (pc := 56) C (rest := []) (c_Hall_become ho.2.2.2.1.2 ho.2.2.2.2.2.2.1.2.2.1.2 hq4) (cwV 1 C.2.2.2.2.1 gX8_ministry_X3_become rfl rfl rfl hd_Hall_become ⟨Nat.le_of_ble_eq_true rfl, Nat.le_of_ble_eq_true rfl⟩) ho.2.2.2.1.2.1 rfl rfl ⟨Nat.zero_le _, Nat.zero_le _⟩ rfl (Nat.le_of_ble_eq_true rfl) dX8_ministry_56 ?_
    refine fw_aload_n (pc := 59) C 0 dX8_ministry_59 rfl rfl ?_
    refine fw_getr (pc := 60) C ho.2.2.2.2.1.1 rfl qX8_ministry_32 dX8_ministry_60 ?_
    obtain ⟨q5, hq5, h⟩ := fw_bind h
    refine fw_callV0 (pc := 63) C (rest := []) (c_Acts_forget ho.2.2.2.2.1.2 hq5) (cwV 0 C.2.2.2.2.1 gX8_ministry_X0_forget rfl rfl rfl hd_Acts_forget ⟨Nat.le_of_ble_eq_true rfl, Nat.le_of_ble_eq_true rfl⟩) ho.2.2.2.2.1.2.1 rfl rfl ⟨Nat.zero_le _, Nat.zero_le _⟩ rfl (Nat.le_of_ble_eq_true rfl) dX8_ministry_63 ?_
    refine fw_aload_n (pc := 66) C 0 dX8_ministry_66 rfl rfl ?_
    refine fw_getr (pc := 67) C ho.2.2.2.1.1 rfl qX8_ministry_25 dX8_ministry_67 ?_
    refine fw_geti (pc := 70) C ho.2.2.2.1.2.2.2.2.1 rfl qX8_ministry_139 dX8_ministry_70 ?_
    exact fw_iret (pc := 73) C (fw_p1 h) (fw_p2 h) dX8_ministry_73
  · have h := fw_ift h c3
    refine fw_aload_n (pc := 29) C 0 dX8_ministry_29 rfl rfl ?_
    refine fw_aload_n (pc := 30) C 0 dX8_ministry_30 rfl rfl ?_
    refine fw_getr (pc := 31) C ho.2.2.1.1 rfl qX8_ministry_18 dX8_ministry_31 ?_
    refine fw_geti (pc := 34) C ho.2.2.1.2.2.2.2.2 rfl qX8_ministry_125 dX8_ministry_34 ?_
    have h := fw_plh h
    refine fw_puti (pc := 37) C ho.2.2.2.2.2.2.2.2.1 rfl qX8_ministry_54 tyX8 tyX8_ok nmX8 rfl rfl dX8_ministry_37 ?_
    refine fw_ldc (pc := 40) C (v := -1000100) kX8_ministry_128 dX8_ministry_40 ?_
    refine fw_aload_n (pc := 42) C 0 dX8_ministry_42 rfl rfl ?_
    refine fw_getr (pc := 43) C ho.2.2.1.1 rfl qX8_ministry_18 dX8_ministry_43 ?_
    refine fw_geti (pc := 46) C ho.2.2.1.2.2.2.2.1 rfl qX8_ministry_129 dX8_ministry_46 ?_
    refine fw_isub (pc := 49) C dX8_ministry_49 ?_
    exact fw_iret (pc := 50) C (fw_p1 h) (fw_p2 h) dX8_ministry_50
theorem c_Door_ministry {l : Launch} {D : va_G} {cI cZ cH cR : ClassId} {N : Nat} {ad : Nat → Nat} {EE : fw_M → Nat → va_E} {o : Nat} {M : fw_M} {z : (Int32 × fw_M)} (ho : o_Door EE ad N cI cZ cH cR o) (h : P_Door_ministry o M = some z) : fw_Met l yX8_ministry wsX8_ministry rm_Door_ministry D vwCl (fw_tys cI cZ cH cR) N ad fw_nw0 EE [.ref (ad o)] M (some (.int z.1)) z.2 := by
  unfold P_Door_ministry at h
  exact fw_intro (cc := cX8_ministry) (maxL := 3) (ret := some .int) (own := RX8) (by decide) rfl rfl (Nat.le_of_ble_eq_true rfl) (fun p e s m args below meth c C => fw_sub [0] rfl (c_Door_ministry_b0 C ho h))
abbrev rm_Door_fault : Room := { frames := 0, cells := 0, slots := 0, locals := 0 }
theorem hd_Door_fault : yX8_fault.cls = RX8 ∧ yX8_fault.cls ≠ "java/lang/invoke/MethodHandle" ∧ yX8_fault.cls ≠ "java/lang/invoke/VarHandle" ∧ (parseMethodDescriptor yX8_fault.desc).map (fun d => d.parameters.length) = some 0 := by decide +kernel
theorem qX8_fault_54 : fw_G wsX8_fault RX8 54 RX8 TX8 9 7 := ⟨by decide +kernel, by decide +kernel, by decide⟩
def P_Door_fault_b0 (o : Nat) (M : fw_M) : Option Int32 := some (M o 7)
def P_Door_fault (o : Nat) (M : fw_M) : Option Int32 := P_Door_fault_b0 o M
set_option maxRecDepth 100000 in
theorem c_Door_fault_b0 {p : Program} {l : Launch} {e : Env} {s : State} {m : MethodId} {args : Array Value} {below : List Frame} {meth : Method} {c : Code} {D : va_G} {cI cZ cH cR : ClassId} {N : Nat} {ad : Nat → Nat} {EE : fw_M → Nat → va_E} {o : Nat} {M : fw_M} {z : Int32} (C : fw_C p s m args meth c cX8_fault RX8 wsX8_fault 1 (some .int) D vwCl (fw_tys cI cZ cH cR) N ad fw_nw0) (ho : o_Door EE ad N cI cZ cH cR o) (h : P_Door_fault_b0 o M = some z) : fw_J p l e (headSpec wsX8_fault rm_Door_fault).room s m args below meth c D vwCl N ad EE 1 0 0 (fw_E below args s D vwCl N ad EE (some (.int z)) M) M [(0, .ref (ad o))] 0 [] := by
  unfold P_Door_fault_b0 at h
  refine fw_aload_n (pc := 0) C 0 dX8_fault_0 rfl rfl ?_
  refine fw_geti (pc := 1) C ho.2.2.2.2.2.2.2.2.1 rfl qX8_fault_54 dX8_fault_1 ?_
  exact fw_iret (pc := 4) C (Option.some.inj h) rfl dX8_fault_4
theorem c_Door_fault {l : Launch} {D : va_G} {cI cZ cH cR : ClassId} {N : Nat} {ad : Nat → Nat} {EE : fw_M → Nat → va_E} {o : Nat} {M : fw_M} {z : Int32} (ho : o_Door EE ad N cI cZ cH cR o) (h : P_Door_fault o M = some z) : fw_Met l yX8_fault wsX8_fault rm_Door_fault D vwCl (fw_tys cI cZ cH cR) N ad fw_nw0 EE [.ref (ad o)] M (some (.int z)) M := by
  unfold P_Door_fault at h
  exact fw_intro (cc := cX8_fault) (maxL := 1) (ret := some .int) (own := RX8) (by decide) rfl rfl (Nat.le_of_ble_eq_true rfl) (fun p e s m args below meth c C => fw_sub [0] rfl (c_Door_fault_b0 C ho h))
abbrev rm_Door_undo : Room := { frames := 3, cells := 0, slots := 0, locals := 90 }
theorem hd_Door_undo : yX8_undo.cls = RX8 ∧ yX8_undo.cls ≠ "java/lang/invoke/MethodHandle" ∧ yX8_undo.cls ≠ "java/lang/invoke/VarHandle" ∧ (parseMethodDescriptor yX8_undo.desc).map (fun d => d.parameters.length) = some 0 := by decide +kernel
theorem qX8_undo_32 : fw_G wsX8_undo RX8 32 RX8 TX8 9 3 := ⟨by decide +kernel, by decide +kernel, by decide⟩
theorem qX8_undo_142 : fw_G wsX8_undo RX8 142 RX0 TX0 3 2 := ⟨by decide +kernel, by decide +kernel, by decide⟩
theorem kX8_undo_145 : Cond.constant RX8 145 (-1000002) ∈ wsX8_undo := by decide +kernel
theorem qX8_undo_25 : fw_G wsX8_undo RX8 25 RX8 TX8 9 2 := ⟨by decide +kernel, by decide +kernel, by decide⟩
def P_Door_undo_b0 (o : Nat) (M : fw_M) : Option (Int32 × fw_M) := (if (M (o + 10) 2) = (0 : Int32) then some ((-1000002 : Int32), M) else (P_Acts_takeBack (o + 10) (o + 4) M).bind fun q2 => some ((q2 (o + 10) 2), q2))
def P_Door_undo (o : Nat) (M : fw_M) : Option (Int32 × fw_M) := P_Door_undo_b0 o M
set_option maxRecDepth 100000 in
theorem c_Door_undo_b0 {p : Program} {l : Launch} {e : Env} {s : State} {m : MethodId} {args : Array Value} {below : List Frame} {meth : Method} {c : Code} {D : va_G} {cI cZ cH cR : ClassId} {N : Nat} {ad : Nat → Nat} {EE : fw_M → Nat → va_E} {o : Nat} {M : fw_M} {z : (Int32 × fw_M)} (C : fw_C p s m args meth c cX8_undo RX8 wsX8_undo 1 (some .int) D vwCl (fw_tys cI cZ cH cR) N ad fw_nw0) (ho : o_Door EE ad N cI cZ cH cR o) (h : P_Door_undo_b0 o M = some z) : fw_J p l e (headSpec wsX8_undo rm_Door_undo).room s m args below meth c D vwCl N ad EE 1 0 0 (fw_E below args s D vwCl N ad EE (some (.int z.1)) z.2) M [(0, .ref (ad o))] 0 [] := by
  unfold P_Door_undo_b0 at h
  refine fw_aload_n (pc := 0) C 0 dX8_undo_0 rfl rfl ?_
  refine fw_getr (pc := 1) C ho.2.2.2.2.1.1 rfl qX8_undo_32 dX8_undo_1 ?_
  refine fw_geti (pc := 4) C ho.2.2.2.2.1.2.2.2.2 rfl qX8_undo_142 dX8_undo_4 ?_
  refine fw_if_ne (pc := 7) C (tgt := 13) dX8_undo_7 (by decide) (fun c1 => ?_) (fun c1 => ?_)
  · have h := fw_iff h c1
    refine fw_aload_n (pc := 13) C 0 dX8_undo_13 rfl rfl ?_
    refine fw_getr (pc := 14) C ho.2.2.2.2.1.1 rfl qX8_undo_32 dX8_undo_14 ?_
    refine fw_aload_n (pc := 17) C 0 dX8_undo_17 rfl rfl ?_
    refine fw_getr (pc := 18) C ho.2.2.2.1.1 rfl qX8_undo_25 dX8_undo_18 ?_
    obtain ⟨q2, hq2, h⟩ := fw_bind h
    refine fw_callV0 (pc := 21) C (rest := []) (c_Acts_takeBack ho.2.2.2.2.1.2 ho.2.2.2.1.2 hq2) (cwV 1 C.2.2.2.2.1 gX8_undo_X0_takeBack rfl rfl rfl hd_Acts_takeBack ⟨Nat.le_of_ble_eq_true rfl, Nat.le_of_ble_eq_true rfl⟩) ho.2.2.2.2.1.2.1 rfl rfl ⟨Nat.zero_le _, Nat.zero_le _⟩ rfl (Nat.le_of_ble_eq_true rfl) dX8_undo_21 ?_
    refine fw_aload_n (pc := 24) C 0 dX8_undo_24 rfl rfl ?_
    refine fw_getr (pc := 25) C ho.2.2.2.2.1.1 rfl qX8_undo_32 dX8_undo_25 ?_
    refine fw_geti (pc := 28) C ho.2.2.2.2.1.2.2.2.2 rfl qX8_undo_142 dX8_undo_28 ?_
    exact fw_iret (pc := 31) C (fw_p1 h) (fw_p2 h) dX8_undo_31
  · have h := fw_ift h c1
    refine fw_ldc (pc := 10) C (v := -1000002) kX8_undo_145 dX8_undo_10 ?_
    exact fw_iret (pc := 12) C (fw_p1 h) (fw_p2 h) dX8_undo_12
theorem c_Door_undo {l : Launch} {D : va_G} {cI cZ cH cR : ClassId} {N : Nat} {ad : Nat → Nat} {EE : fw_M → Nat → va_E} {o : Nat} {M : fw_M} {z : (Int32 × fw_M)} (ho : o_Door EE ad N cI cZ cH cR o) (h : P_Door_undo o M = some z) : fw_Met l yX8_undo wsX8_undo rm_Door_undo D vwCl (fw_tys cI cZ cH cR) N ad fw_nw0 EE [.ref (ad o)] M (some (.int z.1)) z.2 := by
  unfold P_Door_undo at h
  exact fw_intro (cc := cX8_undo) (maxL := 1) (ret := some .int) (own := RX8) (by decide) rfl rfl (Nat.le_of_ble_eq_true rfl) (fun p e s m args below meth c C => fw_sub [0] rfl (c_Door_undo_b0 C ho h))
abbrev rm_Door_refusal : Room := { frames := 0, cells := 0, slots := 0, locals := 0 }
theorem hd_Door_refusal : yX8_refusal.cls = RX8 ∧ yX8_refusal.cls ≠ "java/lang/invoke/MethodHandle" ∧ yX8_refusal.cls ≠ "java/lang/invoke/VarHandle" ∧ (parseMethodDescriptor yX8_refusal.desc).map (fun d => d.parameters.length) = some 1 := by decide +kernel
theorem qX8_refusal_25 : fw_G wsX8_refusal RX8 25 RX8 TX8 9 2 := ⟨by decide +kernel, by decide +kernel, by decide⟩
theorem qX8_refusal_139 : fw_G wsX8_refusal RX8 139 RX3 TX3 9 2 := ⟨by decide +kernel, by decide +kernel, by decide⟩
theorem kX8_refusal_145 : Cond.constant RX8 145 (-1000002) ∈ wsX8_refusal := by decide +kernel
theorem kX8_refusal_70 : Cond.constant RX8 70 (-1000001) ∈ wsX8_refusal := by decide +kernel
def P_Door_refusal_b23 (o : Nat) (M : fw_M) (t0 : Int32) : Option Int32 := some t0
def P_Door_refusal_b0 (o : Nat) (M : fw_M) (x1 : Int32) : Option Int32 := (if (M (o + 4) 2) = (0 : Int32) then some (-1000002 : Int32) else (if x1 = (0 : Int32) then P_Door_refusal_b23 o M (-1000001 : Int32) else P_Door_refusal_b23 o M (0 : Int32)))
def P_Door_refusal (o : Nat) (M : fw_M) (a0 : Int32) : Option Int32 := P_Door_refusal_b0 o M a0
set_option maxRecDepth 100000 in
theorem c_Door_refusal_b23 {p : Program} {l : Launch} {e : Env} {s : State} {m : MethodId} {args : Array Value} {below : List Frame} {meth : Method} {c : Code} {D : va_G} {cI cZ cH cR : ClassId} {N : Nat} {ad : Nat → Nat} {EE : fw_M → Nat → va_E} {o : Nat} {M : fw_M} {t0 : Int32} {z : Int32} (C : fw_C p s m args meth c cX8_refusal RX8 wsX8_refusal 2 (some .int) D vwCl (fw_tys cI cZ cH cR) N ad fw_nw0) (ho : o_Door EE ad N cI cZ cH cR o) (h : P_Door_refusal_b23 o M t0 = some z) : fw_J p l e (headSpec wsX8_refusal rm_Door_refusal).room s m args below meth c D vwCl N ad EE 2 0 0 (fw_E below args s D vwCl N ad EE (some (.int z)) M) M [] 23 [.int t0] := by
  unfold P_Door_refusal_b23 at h
  exact fw_iret (pc := 23) C (Option.some.inj h) rfl dX8_refusal_23
set_option maxRecDepth 100000 in
theorem c_Door_refusal_b0 {p : Program} {l : Launch} {e : Env} {s : State} {m : MethodId} {args : Array Value} {below : List Frame} {meth : Method} {c : Code} {D : va_G} {cI cZ cH cR : ClassId} {N : Nat} {ad : Nat → Nat} {EE : fw_M → Nat → va_E} {o : Nat} {M : fw_M} {x1 : Int32} {z : Int32} (C : fw_C p s m args meth c cX8_refusal RX8 wsX8_refusal 2 (some .int) D vwCl (fw_tys cI cZ cH cR) N ad fw_nw0) (ho : o_Door EE ad N cI cZ cH cR o) (h : P_Door_refusal_b0 o M x1 = some z) : fw_J p l e (headSpec wsX8_refusal rm_Door_refusal).room s m args below meth c D vwCl N ad EE 2 0 0 (fw_E below args s D vwCl N ad EE (some (.int z)) M) M [(0, .ref (ad o)), (1, .int x1)] 0 [] := by
  unfold P_Door_refusal_b0 at h
  refine fw_aload_n (pc := 0) C 0 dX8_refusal_0 rfl rfl ?_
  refine fw_getr (pc := 1) C ho.2.2.2.1.1 rfl qX8_refusal_25 dX8_refusal_1 ?_
  refine fw_geti (pc := 4) C ho.2.2.2.1.2.2.2.2.1 rfl qX8_refusal_139 dX8_refusal_4 ?_
  refine fw_if_ne (pc := 7) C (tgt := 13) dX8_refusal_7 (by decide) (fun c1 => ?_) (fun c1 => ?_)
  · have h := fw_iff h c1
    refine fw_iload_n (pc := 13) C 1 dX8_refusal_13 rfl rfl ?_
    refine fw_if_eq (pc := 14) C (tgt := 21) dX8_refusal_14 (by decide) (fun c2 => ?_) (fun c2 => ?_)
    · have h := fw_ift h c2
      refine fw_ldc (pc := 21) C (v := -1000001) kX8_refusal_70 dX8_refusal_21 ?_
      exact fw_sub [] rfl (c_Door_refusal_b23 C ho h)
    · have h := fw_iff h c2
      refine fw_iconst (pc := 17) C (v := 0) dX8_refusal_17 fk_iconst_0 ?_
      refine fw_goto (pc := 18) C (tgt := 23) dX8_refusal_18 (by decide) ?_
      exact fw_sub [] rfl (c_Door_refusal_b23 C ho h)
  · have h := fw_ift h c1
    refine fw_ldc (pc := 10) C (v := -1000002) kX8_refusal_145 dX8_refusal_10 ?_
    exact fw_iret (pc := 12) C (Option.some.inj h) rfl dX8_refusal_12
theorem c_Door_refusal {l : Launch} {D : va_G} {cI cZ cH cR : ClassId} {N : Nat} {ad : Nat → Nat} {EE : fw_M → Nat → va_E} {o : Nat} {M : fw_M} {a0 : Int32} {z : Int32} (ho : o_Door EE ad N cI cZ cH cR o) (h : P_Door_refusal o M a0 = some z) : fw_Met l yX8_refusal wsX8_refusal rm_Door_refusal D vwCl (fw_tys cI cZ cH cR) N ad fw_nw0 EE [.ref (ad o), .int a0] M (some (.int z)) M := by
  unfold P_Door_refusal at h
  exact fw_intro (cc := cX8_refusal) (maxL := 2) (ret := some .int) (own := RX8) (by decide) rfl rfl (Nat.le_of_ble_eq_true rfl) (fun p e s m args below meth c C => fw_sub [0, 1] rfl (c_Door_refusal_b0 C ho h))
abbrev rm_Door_steps : Room := { frames := 3, cells := 0, slots := 0, locals := 90 }
theorem hd_Door_steps : yX8_steps.cls = RX8 ∧ yX8_steps.cls ≠ "java/lang/invoke/MethodHandle" ∧ yX8_steps.cls ≠ "java/lang/invoke/VarHandle" ∧ (parseMethodDescriptor yX8_steps.desc).map (fun d => d.parameters.length) = some 1 := by decide +kernel
theorem qX8_steps_25 : fw_G wsX8_steps RX8 25 RX8 TX8 9 2 := ⟨by decide +kernel, by decide +kernel, by decide⟩
theorem qX8_steps_153 : fw_G wsX8_steps RX8 153 RX3 TX3 9 3 := ⟨by decide +kernel, by decide +kernel, by decide⟩
theorem kX8_steps_117 : Cond.constant RX8 117 (-1000003) ∈ wsX8_steps := by decide +kernel
theorem qX8_steps_43 : fw_G wsX8_steps RX8 43 RX8 TX8 9 5 := ⟨by decide +kernel, by decide +kernel, by decide⟩
theorem qX8_steps_32 : fw_G wsX8_steps RX8 32 RX8 TX8 9 3 := ⟨by decide +kernel, by decide +kernel, by decide⟩
def P_Door_steps_b54 (o : Nat) (K54 : fw_M → Int32 → Int32 → Int32 → Option (Int32 × fw_M)) (M : fw_M) (x1 : Int32) (x4 : Int32) (x5 : Int32) : Option (Int32 × fw_M) := (if x1 ≤ x5 then some (x4, M) else (P_Acts_keep (o + 10) (o + 4) M).bind fun q2 => (P_Hall_pass (o + 4) ((o + 157) + 7) q2).bind fun q3 => fw_pl ((x4 + q3.1)) fun y4 => K54 q3.2 x1 y4 (x5 + (1 : Int32)))
def P_Door_steps_h54 (o : Nat) : Nat → fw_M → Int32 → Int32 → Int32 → Option (Int32 × fw_M)
  | 0, _, _, _, _ => none
  | n + 1, M, x1, x4, x5 => P_Door_steps_b54 o (P_Door_steps_h54 o n) M x1 x4 x5
def P_Door_steps_b0 (o : Nat) (M : fw_M) (x1 : Int32) : Option (Int32 × fw_M) := (P_Door_within M x1 (1 : Int32) (24 : Int32)).bind fun v1 => (P_Door_refusal o M v1).bind fun v2 => (if v2 = (0 : Int32) then (if ((M (o + 4) 3) + x1) ≤ (999 : Int32) then (P_Fore_lawOf (o + 157) (o + 4) M).bind fun q5 => P_Door_steps_h54 o fw_fu q5 x1 (0 : Int32) (0 : Int32) else some ((-1000003 : Int32), M)) else some (v2, M))
def P_Door_steps (o : Nat) (M : fw_M) (a0 : Int32) : Option (Int32 × fw_M) := P_Door_steps_b0 o M a0
set_option maxRecDepth 100000 in
theorem c_Door_steps_b54 {p : Program} {l : Launch} {e : Env} {s : State} {m : MethodId} {args : Array Value} {below : List Frame} {meth : Method} {c : Code} {D : va_G} {cI cZ cH cR : ClassId} {N : Nat} {ad : Nat → Nat} {EE : fw_M → Nat → va_E} {o : Nat} {K54 : fw_M → Int32 → Int32 → Int32 → Option (Int32 × fw_M)} {M : fw_M} {x1 : Int32} {x4 : Int32} {x5 : Int32} {z : (Int32 × fw_M)} (C : fw_C p s m args meth c cX8_steps RX8 wsX8_steps 6 (some .int) D vwCl (fw_tys cI cZ cH cR) N ad fw_nw0) (ho : o_Door EE ad N cI cZ cH cR o) (hK54 : ∀ (Mk : fw_M) (kx1 : Int32) (kx4 : Int32) (kx5 : Int32), K54 Mk kx1 kx4 kx5 = some z → fw_J p l e (headSpec wsX8_steps rm_Door_steps).room s m args below meth c D vwCl N ad EE 6 0 0 (fw_E below args s D vwCl N ad EE (some (.int z.1)) z.2) Mk [(0, .ref (ad o)), (1, .int kx1), (3, .ref (ad ((o + 157) + 7))), (4, .int kx4), (5, .int kx5)] 54 []) (h : P_Door_steps_b54 o K54 M x1 x4 x5 = some z) : fw_J p l e (headSpec wsX8_steps rm_Door_steps).room s m args below meth c D vwCl N ad EE 6 0 0 (fw_E below args s D vwCl N ad EE (some (.int z.1)) z.2) M [(0, .ref (ad o)), (1, .int x1), (3, .ref (ad ((o + 157) + 7))), (4, .int x4), (5, .int x5)] 54 [] := by
  unfold P_Door_steps_b54 at h
  refine fw_iload (pc := 54) C 4 dX8_steps_54 rfl ?_
  refine fw_iload_n (pc := 56) C 1 dX8_steps_56 rfl rfl ?_
  refine fw_icmp_ge (pc := 57) C (tgt := 90) dX8_steps_57 (by decide) (fun c1 => ?_) (fun c1 => ?_)
  · have h := fw_ift h c1
    refine fw_iload (pc := 90) C 3 dX8_steps_90 rfl ?_
    exact fw_iret (pc := 92) C (fw_p1 h) (fw_p2 h) dX8_steps_92
  · have h := fw_iff h c1
    refine fw_aload_n (pc := 60) C 0 dX8_steps_60 rfl rfl ?_
    refine fw_getr (pc := 61) C ho.2.2.2.2.1.1 rfl qX8_steps_32 dX8_steps_61 ?_
    refine fw_aload_n (pc := 64) C 0 dX8_steps_64 rfl rfl ?_
    refine fw_getr (pc := 65) C ho.2.2.2.1.1 rfl qX8_steps_25 dX8_steps_65 ?_
    obtain ⟨q2, hq2, h⟩ := fw_bind h
    refine fw_callV0 (pc := 68) C (rest := []) (c_Acts_keep ho.2.2.2.2.1.2 ho.2.2.2.1.2 hq2) (cwV 1 C.2.2.2.2.1 gX8_steps_X0_keep rfl rfl rfl hd_Acts_keep ⟨Nat.le_of_ble_eq_true rfl, Nat.le_of_ble_eq_true rfl⟩) ho.2.2.2.2.1.2.1 rfl rfl ⟨Nat.zero_le _, Nat.zero_le _⟩ rfl (Nat.le_of_ble_eq_true rfl) dX8_steps_68 ?_
    refine fw_iload (pc := 71) C 3 dX8_steps_71 rfl ?_
    refine fw_aload_n (pc := 73) C 0 dX8_steps_73 rfl rfl ?_
    refine fw_getr (pc := 74) C ho.2.2.2.1.1 rfl qX8_steps_25 dX8_steps_74 ?_
    refine fw_aload_n (pc := 77) C 2 dX8_steps_77 rfl rfl ?_
    obtain ⟨q3, hq3, h⟩ := fw_bind h
    refine fw_callV1 (pc := 78) C (rest := [_]) (c_Hall_pass ho.2.2.2.1.2 ho.2.2.2.2.2.2.1.2.2.2.1.2 hq3) (cwV 1 C.2.2.2.2.1 gX8_steps_X3_pass rfl rfl rfl hd_Hall_pass ⟨Nat.le_of_ble_eq_true rfl, Nat.le_of_ble_eq_true rfl⟩) ho.2.2.2.1.2.1 rfl rfl ⟨Nat.zero_le _, Nat.zero_le _⟩ rfl (Nat.le_of_ble_eq_true rfl) dX8_steps_78 ?_
    refine fw_iadd (pc := 81) C dX8_steps_81 ?_
    have h := fw_plh h
    refine fw_istore (pc := 82) C (L2 := [(0, .ref _), (1, .int _), (3, .ref _), (4, .int _), (5, .int _)]) [1, 2, 3, 0, 4] dX8_steps_82 (by decide) rfl ?_
    refine fw_iinc (pc := 84) C (v := 1) (L2 := [(0, .ref _), (1, .int _), (3, .ref _), (4, .int _), (5, .int _)]) 4 [1, 2, 3, 4, 0] dX8_steps_84 rfl fk_iconst_1 (by decide) rfl ?_
    refine fw_goto (pc := 87) C (tgt := 54) dX8_steps_87 (by decide) ?_
    exact (hK54 _ _ _ _ h)
theorem c_Door_steps_h54 {p : Program} {l : Launch} {e : Env} {s : State} {m : MethodId} {args : Array Value} {below : List Frame} {meth : Method} {c : Code} {D : va_G} {cI cZ cH cR : ClassId} {N : Nat} {ad : Nat → Nat} {EE : fw_M → Nat → va_E} {o : Nat} {z : (Int32 × fw_M)} (C : fw_C p s m args meth c cX8_steps RX8 wsX8_steps 6 (some .int) D vwCl (fw_tys cI cZ cH cR) N ad fw_nw0) (ho : o_Door EE ad N cI cZ cH cR o) : ∀ (n : Nat) (M : fw_M) (x1 : Int32) (x4 : Int32) (x5 : Int32), P_Door_steps_h54 o n M x1 x4 x5 = some z → fw_J p l e (headSpec wsX8_steps rm_Door_steps).room s m args below meth c D vwCl N ad EE 6 0 0 (fw_E below args s D vwCl N ad EE (some (.int z.1)) z.2) M [(0, .ref (ad o)), (1, .int x1), (3, .ref (ad ((o + 157) + 7))), (4, .int x4), (5, .int x5)] 54 [] := by
  intro n
  induction n with
  | zero => intro M x1 x4 x5  h; cases h
  | succ n ih => intro M x1 x4 x5  h; exact c_Door_steps_b54 C ho ih  h
set_option maxRecDepth 100000 in
theorem c_Door_steps_b0 {p : Program} {l : Launch} {e : Env} {s : State} {m : MethodId} {args : Array Value} {below : List Frame} {meth : Method} {c : Code} {D : va_G} {cI cZ cH cR : ClassId} {N : Nat} {ad : Nat → Nat} {EE : fw_M → Nat → va_E} {o : Nat} {M : fw_M} {x1 : Int32} {z : (Int32 × fw_M)} (C : fw_C p s m args meth c cX8_steps RX8 wsX8_steps 6 (some .int) D vwCl (fw_tys cI cZ cH cR) N ad fw_nw0) (ho : o_Door EE ad N cI cZ cH cR o) (h : P_Door_steps_b0 o M x1 = some z) : fw_J p l e (headSpec wsX8_steps rm_Door_steps).room s m args below meth c D vwCl N ad EE 6 0 0 (fw_E below args s D vwCl N ad EE (some (.int z.1)) z.2) M [(0, .ref (ad o)), (1, .int x1)] 0 [] := by
  unfold P_Door_steps_b0 at h
  refine fw_aload_n (pc := 0) C 0 dX8_steps_0 rfl rfl ?_
  refine fw_iload_n (pc := 1) C 1 dX8_steps_1 rfl rfl ?_
  refine fw_iconst (pc := 2) C (v := 1) dX8_steps_2 fk_iconst_1 ?_
  refine fw_bipush (pc := 3) C (v := 24) dX8_steps_3 fk_bipush_24 ?_
  obtain ⟨v1, hv1, h⟩ := fw_bind h
  refine fw_callS1 (pc := 5) C (rest := [_]) (c_Door_within  hv1) (va_cwS 3 C.2.2.2.2.1 gX8_steps_X8_within rfl rfl rfl hd_Door_within.2 ⟨Nat.le_of_ble_eq_true rfl, Nat.le_of_ble_eq_true rfl⟩) rfl ⟨Nat.zero_le _, Nat.zero_le _⟩ rfl (Nat.le_of_ble_eq_true rfl) dX8_steps_5 ?_
  obtain ⟨v2, hv2, h⟩ := fw_bind h
  refine fw_callV1 (pc := 8) C (rest := []) (c_Door_refusal ho hv2) (cwV 1 C.2.2.2.2.1 gX8_steps_X8_refusal rfl rfl rfl hd_Door_refusal ⟨Nat.le_of_ble_eq_true rfl, Nat.le_of_ble_eq_true rfl⟩) ho.1 rfl rfl ⟨Nat.zero_le _, Nat.zero_le _⟩ rfl (Nat.le_of_ble_eq_true rfl) dX8_steps_8 ?_
  refine fw_istore_n (pc := 11) C (L2 := [(0, .ref _), (1, .int _), (2, .int _)]) [1, 2, 0] dX8_steps_11 rfl (by decide) rfl ?_
  refine fw_iload_n (pc := 12) C 2 dX8_steps_12 rfl rfl ?_
  refine fw_if_eq (pc := 13) C (tgt := 18) dX8_steps_13 (by decide) (fun c3 => ?_) (fun c3 => ?_)
  · have h := fw_ift h c3
    refine fw_aload_n (pc := 18) C 0 dX8_steps_18 rfl rfl ?_
    refine fw_getr (pc := 19) C ho.2.2.2.1.1 rfl qX8_steps_25 dX8_steps_19 ?_
    refine fw_geti (pc := 22) C ho.2.2.2.1.2.2.2.2.2.1 rfl qX8_steps_153 dX8_steps_22 ?_
    refine fw_iload_n (pc := 25) C 1 dX8_steps_25 rfl rfl ?_
    refine fw_iadd (pc := 26) C dX8_steps_26 ?_
    refine fw_sipush (pc := 27) C (v := 999) dX8_steps_27 fk_sipush_999 ?_
    refine fw_icmp_le (pc := 30) C (tgt := 36) dX8_steps_30 (by decide) (fun c4 => ?_) (fun c4 => ?_)
    · have h := fw_ift h c4
      refine fw_aload_n (pc := 36) C 0 dX8_steps_36 rfl rfl ?_
      refine fw_getr (pc := 37) C ho.2.2.2.2.2.2.1.1 rfl qX8_steps_43 dX8_steps_37 ?_
      refine fw_aload_n (pc := 40) C 0 dX8_steps_40 rfl rfl ?_
      refine fw_getr (pc := 41) C ho.2.2.2.1.1 rfl qX8_steps_25 dX8_steps_41 ?_
      obtain ⟨q5, hq5, h⟩ := fw_bind h
      refine fw_callV1 (pc := 44) C (rest := []) (c_Fore_lawOf ho.2.2.2.2.2.2.1.2 ho.2.2.2.1.2 hq5) (cwV 1 C.2.2.2.2.1 gX8_steps_X2_lawOf rfl rfl rfl hd_Fore_lawOf ⟨Nat.le_of_ble_eq_true rfl, Nat.le_of_ble_eq_true rfl⟩) ho.2.2.2.2.2.2.1.2.1 rfl rfl ⟨Nat.zero_le _, Nat.zero_le _⟩ rfl (Nat.le_of_ble_eq_true rfl) dX8_steps_44 ?_
      refine fw_astore_n (pc := 47) C (L2 := [(0, .ref _), (1, .int _), (2, .int _), (3, .ref _)]) [1, 2, 3, 0] dX8_steps_47 rfl (by decide) rfl ?_
      refine fw_iconst (pc := 48) C (v := 0) dX8_steps_48 fk_iconst_0 ?_
      refine fw_istore (pc := 49) C (L2 := [(0, .ref _), (1, .int _), (2, .int _), (3, .ref _), (4, .int _)]) [1, 2, 3, 4, 0] dX8_steps_49 (by decide) rfl ?_
      refine fw_iconst (pc := 51) C (v := 0) dX8_steps_51 fk_iconst_0 ?_
      refine fw_istore (pc := 52) C (L2 := [(0, .ref _), (1, .int _), (2, .int _), (3, .ref _), (4, .int _), (5, .int _)]) [1, 2, 3, 4, 5, 0] dX8_steps_52 (by decide) rfl ?_
      exact fw_sub [0, 1, 3, 4, 5] rfl (c_Door_steps_h54 C ho _ _ _ _ _ h)
    · have h := fw_iff h c4
      refine fw_ldc (pc := 33) C (v := -1000003) kX8_steps_117 dX8_steps_33 ?_
      exact fw_iret (pc := 35) C (fw_p1 h) (fw_p2 h) dX8_steps_35
  · have h := fw_iff h c3
    refine fw_iload_n (pc := 16) C 2 dX8_steps_16 rfl rfl ?_
    exact fw_iret (pc := 17) C (fw_p1 h) (fw_p2 h) dX8_steps_17
theorem c_Door_steps {l : Launch} {D : va_G} {cI cZ cH cR : ClassId} {N : Nat} {ad : Nat → Nat} {EE : fw_M → Nat → va_E} {o : Nat} {M : fw_M} {a0 : Int32} {z : (Int32 × fw_M)} (ho : o_Door EE ad N cI cZ cH cR o) (h : P_Door_steps o M a0 = some z) : fw_Met l yX8_steps wsX8_steps rm_Door_steps D vwCl (fw_tys cI cZ cH cR) N ad fw_nw0 EE [.ref (ad o), .int a0] M (some (.int z.1)) z.2 := by
  unfold P_Door_steps at h
  exact fw_intro (cc := cX8_steps) (maxL := 6) (ret := some .int) (own := RX8) (by decide) rfl rfl (Nat.le_of_ble_eq_true rfl) (fun p e s m args below meth c C => fw_sub [0, 1] rfl (c_Door_steps_b0 C ho h))
abbrev rm_Door_isPerson : Room := { frames := 1, cells := 0, slots := 0, locals := 22 }
theorem hd_Door_isPerson : yX8_isPerson.cls = RX8 ∧ yX8_isPerson.cls ≠ "java/lang/invoke/MethodHandle" ∧ yX8_isPerson.cls ≠ "java/lang/invoke/VarHandle" ∧ (parseMethodDescriptor yX8_isPerson.desc).map (fun d => d.parameters.length) = some 1 := by decide +kernel
theorem qX8_isPerson_25 : fw_G wsX8_isPerson RX8 25 RX8 TX8 9 2 := ⟨by decide +kernel, by decide +kernel, by decide⟩
theorem qX8_isPerson_139 : fw_G wsX8_isPerson RX8 139 RX3 TX3 9 2 := ⟨by decide +kernel, by decide +kernel, by decide⟩
def P_Door_isPerson_b0 (o : Nat) (M : fw_M) (x1 : Int32) : Option Int32 := (P_Door_within M x1 (0 : Int32) ((M (o + 4) 2) - (1 : Int32))).bind fun v1 => (fw_zr v1).bind fun v2 => some v2
def P_Door_isPerson (o : Nat) (M : fw_M) (a0 : Int32) : Option Int32 := P_Door_isPerson_b0 o M a0
set_option maxRecDepth 100000 in
theorem c_Door_isPerson_b0 {p : Program} {l : Launch} {e : Env} {s : State} {m : MethodId} {args : Array Value} {below : List Frame} {meth : Method} {c : Code} {D : va_G} {cI cZ cH cR : ClassId} {N : Nat} {ad : Nat → Nat} {EE : fw_M → Nat → va_E} {o : Nat} {M : fw_M} {x1 : Int32} {z : Int32} (C : fw_C p s m args meth c cX8_isPerson RX8 wsX8_isPerson 2 (some .boolean) D vwCl (fw_tys cI cZ cH cR) N ad fw_nw0) (ho : o_Door EE ad N cI cZ cH cR o) (h : P_Door_isPerson_b0 o M x1 = some z) : fw_J p l e (headSpec wsX8_isPerson rm_Door_isPerson).room s m args below meth c D vwCl N ad EE 2 0 0 (fw_E below args s D vwCl N ad EE (some (.int z)) M) M [(0, .ref (ad o)), (1, .int x1)] 0 [] := by
  unfold P_Door_isPerson_b0 at h
  refine fw_iload_n (pc := 0) C 1 dX8_isPerson_0 rfl rfl ?_
  refine fw_iconst (pc := 1) C (v := 0) dX8_isPerson_1 fk_iconst_0 ?_
  refine fw_aload_n (pc := 2) C 0 dX8_isPerson_2 rfl rfl ?_
  refine fw_getr (pc := 3) C ho.2.2.2.1.1 rfl qX8_isPerson_25 dX8_isPerson_3 ?_
  refine fw_geti (pc := 6) C ho.2.2.2.1.2.2.2.2.1 rfl qX8_isPerson_139 dX8_isPerson_6 ?_
  refine fw_iconst (pc := 9) C (v := 1) dX8_isPerson_9 fk_iconst_1 ?_
  refine fw_isub (pc := 10) C dX8_isPerson_10 ?_
  obtain ⟨v1, hv1, h⟩ := fw_bind h
  refine fw_callS1 (pc := 11) C (rest := []) (c_Door_within  hv1) (va_cwS 3 C.2.2.2.2.1 gX8_isPerson_X8_within rfl rfl rfl hd_Door_within.2 ⟨Nat.le_of_ble_eq_true rfl, Nat.le_of_ble_eq_true rfl⟩) rfl ⟨Nat.zero_le _, Nat.zero_le _⟩ rfl (Nat.le_of_ble_eq_true rfl) dX8_isPerson_11 ?_
  obtain ⟨v2, hv2, h⟩ := fw_bind h
  exact fw_zret (pc := 14) C (fw_zrh hv2).1 ((fw_zrh hv2).2.trans (Option.some.inj h)) rfl dX8_isPerson_14
theorem c_Door_isPerson {l : Launch} {D : va_G} {cI cZ cH cR : ClassId} {N : Nat} {ad : Nat → Nat} {EE : fw_M → Nat → va_E} {o : Nat} {M : fw_M} {a0 : Int32} {z : Int32} (ho : o_Door EE ad N cI cZ cH cR o) (h : P_Door_isPerson o M a0 = some z) : fw_Met l yX8_isPerson wsX8_isPerson rm_Door_isPerson D vwCl (fw_tys cI cZ cH cR) N ad fw_nw0 EE [.ref (ad o), .int a0] M (some (.int z)) M := by
  unfold P_Door_isPerson at h
  exact fw_intro (cc := cX8_isPerson) (maxL := 2) (ret := some .boolean) (own := RX8) (by decide) rfl rfl (Nat.le_of_ble_eq_true rfl) (fun p e s m args below meth c C => fw_sub [0, 1] rfl (c_Door_isPerson_b0 C ho h))
abbrev rm_Door_isDoor : Room := { frames := 1, cells := 0, slots := 0, locals := 22 }
theorem hd_Door_isDoor : yX8_isDoor.cls = RX8 ∧ yX8_isDoor.cls ≠ "java/lang/invoke/MethodHandle" ∧ yX8_isDoor.cls ≠ "java/lang/invoke/VarHandle" ∧ (parseMethodDescriptor yX8_isDoor.desc).map (fun d => d.parameters.length) = some 1 := by decide +kernel
theorem qX8_isDoor_25 : fw_G wsX8_isDoor RX8 25 RX8 TX8 9 2 := ⟨by decide +kernel, by decide +kernel, by decide⟩
theorem qX8_isDoor_232 : fw_G wsX8_isDoor RX8 232 RX3 TX3 9 0 := ⟨by decide +kernel, by decide +kernel, by decide⟩
def P_Door_isDoor_b0 (o : Nat) (M : fw_M) (x1 : Int32) : Option Int32 := (P_Door_within M x1 (0 : Int32) ((M (o + 4) 0) - (1 : Int32))).bind fun v1 => (fw_zr v1).bind fun v2 => some v2
def P_Door_isDoor (o : Nat) (M : fw_M) (a0 : Int32) : Option Int32 := P_Door_isDoor_b0 o M a0
set_option maxRecDepth 100000 in
theorem c_Door_isDoor_b0 {p : Program} {l : Launch} {e : Env} {s : State} {m : MethodId} {args : Array Value} {below : List Frame} {meth : Method} {c : Code} {D : va_G} {cI cZ cH cR : ClassId} {N : Nat} {ad : Nat → Nat} {EE : fw_M → Nat → va_E} {o : Nat} {M : fw_M} {x1 : Int32} {z : Int32} (C : fw_C p s m args meth c cX8_isDoor RX8 wsX8_isDoor 2 (some .boolean) D vwCl (fw_tys cI cZ cH cR) N ad fw_nw0) (ho : o_Door EE ad N cI cZ cH cR o) (h : P_Door_isDoor_b0 o M x1 = some z) : fw_J p l e (headSpec wsX8_isDoor rm_Door_isDoor).room s m args below meth c D vwCl N ad EE 2 0 0 (fw_E below args s D vwCl N ad EE (some (.int z)) M) M [(0, .ref (ad o)), (1, .int x1)] 0 [] := by
  unfold P_Door_isDoor_b0 at h
  refine fw_iload_n (pc := 0) C 1 dX8_isDoor_0 rfl rfl ?_
  refine fw_iconst (pc := 1) C (v := 0) dX8_isDoor_1 fk_iconst_0 ?_
  refine fw_aload_n (pc := 2) C 0 dX8_isDoor_2 rfl rfl ?_
  refine fw_getr (pc := 3) C ho.2.2.2.1.1 rfl qX8_isDoor_25 dX8_isDoor_3 ?_
  refine fw_geti (pc := 6) C ho.2.2.2.1.2.2.1 rfl qX8_isDoor_232 dX8_isDoor_6 ?_
  refine fw_iconst (pc := 9) C (v := 1) dX8_isDoor_9 fk_iconst_1 ?_
  refine fw_isub (pc := 10) C dX8_isDoor_10 ?_
  obtain ⟨v1, hv1, h⟩ := fw_bind h
  refine fw_callS1 (pc := 11) C (rest := []) (c_Door_within  hv1) (va_cwS 3 C.2.2.2.2.1 gX8_isDoor_X8_within rfl rfl rfl hd_Door_within.2 ⟨Nat.le_of_ble_eq_true rfl, Nat.le_of_ble_eq_true rfl⟩) rfl ⟨Nat.zero_le _, Nat.zero_le _⟩ rfl (Nat.le_of_ble_eq_true rfl) dX8_isDoor_11 ?_
  obtain ⟨v2, hv2, h⟩ := fw_bind h
  exact fw_zret (pc := 14) C (fw_zrh hv2).1 ((fw_zrh hv2).2.trans (Option.some.inj h)) rfl dX8_isDoor_14
theorem c_Door_isDoor {l : Launch} {D : va_G} {cI cZ cH cR : ClassId} {N : Nat} {ad : Nat → Nat} {EE : fw_M → Nat → va_E} {o : Nat} {M : fw_M} {a0 : Int32} {z : Int32} (ho : o_Door EE ad N cI cZ cH cR o) (h : P_Door_isDoor o M a0 = some z) : fw_Met l yX8_isDoor wsX8_isDoor rm_Door_isDoor D vwCl (fw_tys cI cZ cH cR) N ad fw_nw0 EE [.ref (ad o), .int a0] M (some (.int z)) M := by
  unfold P_Door_isDoor at h
  exact fw_intro (cc := cX8_isDoor) (maxL := 2) (ret := some .boolean) (own := RX8) (by decide) rfl rfl (Nat.le_of_ble_eq_true rfl) (fun p e s m args below meth c C => fw_sub [0, 1] rfl (c_Door_isDoor_b0 C ho h))
abbrev rm_Door_orNone : Room := { frames := 0, cells := 0, slots := 0, locals := 0 }
theorem hd_Door_orNone : yX8_orNone.cls = RX8 ∧ yX8_orNone.cls ≠ "java/lang/invoke/MethodHandle" ∧ yX8_orNone.cls ≠ "java/lang/invoke/VarHandle" ∧ (parseMethodDescriptor yX8_orNone.desc).map (fun d => d.parameters.length) = some 1 := by decide +kernel
theorem kX8_orNone_317 : Cond.constant RX8 317 (-1000000) ∈ wsX8_orNone := by decide +kernel
def P_Door_orNone_b11 (M : fw_M) (t0 : Int32) : Option Int32 := some t0
def P_Door_orNone_b0 (M : fw_M) (x0 : Int32) : Option Int32 := (if (0 : Int32) ≤ x0 then P_Door_orNone_b11 M x0 else P_Door_orNone_b11 M (-1000000 : Int32))
def P_Door_orNone (M : fw_M) (a0 : Int32) : Option Int32 := P_Door_orNone_b0 M a0
set_option maxRecDepth 100000 in
theorem c_Door_orNone_b11 {p : Program} {l : Launch} {e : Env} {s : State} {m : MethodId} {args : Array Value} {below : List Frame} {meth : Method} {c : Code} {D : va_G} {cI cZ cH cR : ClassId} {N : Nat} {ad : Nat → Nat} {EE : fw_M → Nat → va_E} {M : fw_M} {t0 : Int32} {z : Int32} (C : fw_C p s m args meth c cX8_orNone RX8 wsX8_orNone 1 (some .int) D vwCl (fw_tys cI cZ cH cR) N ad fw_nw0) (h : P_Door_orNone_b11 M t0 = some z) : fw_J p l e (headSpec wsX8_orNone rm_Door_orNone).room s m args below meth c D vwCl N ad EE 1 0 0 (fw_E below args s D vwCl N ad EE (some (.int z)) M) M [] 11 [.int t0] := by
  unfold P_Door_orNone_b11 at h
  exact fw_iret (pc := 11) C (Option.some.inj h) rfl dX8_orNone_11
set_option maxRecDepth 100000 in
theorem c_Door_orNone_b0 {p : Program} {l : Launch} {e : Env} {s : State} {m : MethodId} {args : Array Value} {below : List Frame} {meth : Method} {c : Code} {D : va_G} {cI cZ cH cR : ClassId} {N : Nat} {ad : Nat → Nat} {EE : fw_M → Nat → va_E} {M : fw_M} {x0 : Int32} {z : Int32} (C : fw_C p s m args meth c cX8_orNone RX8 wsX8_orNone 1 (some .int) D vwCl (fw_tys cI cZ cH cR) N ad fw_nw0) (h : P_Door_orNone_b0 M x0 = some z) : fw_J p l e (headSpec wsX8_orNone rm_Door_orNone).room s m args below meth c D vwCl N ad EE 1 0 0 (fw_E below args s D vwCl N ad EE (some (.int z)) M) M [(0, .int x0)] 0 [] := by
  unfold P_Door_orNone_b0 at h
  refine fw_iload_n (pc := 0) C 0 dX8_orNone_0 rfl rfl ?_
  refine fw_if_ge (pc := 1) C (tgt := 10) dX8_orNone_1 (by decide) (fun c1 => ?_) (fun c1 => ?_)
  · have h := fw_ift h c1
    refine fw_iload_n (pc := 10) C 0 dX8_orNone_10 rfl rfl ?_
    exact fw_sub [] rfl (c_Door_orNone_b11 C  h)
  · have h := fw_iff h c1
    refine fw_ldcw (pc := 4) C (v := -1000000) kX8_orNone_317 dX8_orNone_4 ?_
    refine fw_goto (pc := 7) C (tgt := 11) dX8_orNone_7 (by decide) ?_
    exact fw_sub [] rfl (c_Door_orNone_b11 C  h)
theorem c_Door_orNone {l : Launch} {D : va_G} {cI cZ cH cR : ClassId} {N : Nat} {ad : Nat → Nat} {EE : fw_M → Nat → va_E} {M : fw_M} {a0 : Int32} {z : Int32} (h : P_Door_orNone M a0 = some z) : fw_Met l yX8_orNone wsX8_orNone rm_Door_orNone D vwCl (fw_tys cI cZ cH cR) N ad fw_nw0 EE [.int a0] M (some (.int z)) M := by
  unfold P_Door_orNone at h
  exact fw_intro (cc := cX8_orNone) (maxL := 1) (ret := some .int) (own := RX8) (by decide) rfl rfl (Nat.le_of_ble_eq_true rfl) (fun p e s m args below meth c C => fw_sub [0] rfl (c_Door_orNone_b0 C  h))
abbrev rm_Door_come : Room := { frames := 3, cells := 0, slots := 0, locals := 90 }
theorem hd_Door_come : yX8_come.cls = RX8 ∧ yX8_come.cls ≠ "java/lang/invoke/MethodHandle" ∧ yX8_come.cls ≠ "java/lang/invoke/VarHandle" ∧ (parseMethodDescriptor yX8_come.desc).map (fun d => d.parameters.length) = some 2 := by decide +kernel
theorem qX8_come_25 : fw_G wsX8_come RX8 25 RX8 TX8 9 2 := ⟨by decide +kernel, by decide +kernel, by decide⟩
theorem qX8_come_173 : fw_G wsX8_come RX8 173 RX3 TX3 9 7 := ⟨by decide +kernel, by decide +kernel, by decide⟩
theorem kX8_come_145 : Cond.constant RX8 145 (-1000002) ∈ wsX8_come := by decide +kernel
theorem qX8_come_32 : fw_G wsX8_come RX8 32 RX8 TX8 9 3 := ⟨by decide +kernel, by decide +kernel, by decide⟩
theorem kX8_come_70 : Cond.constant RX8 70 (-1000001) ∈ wsX8_come := by decide +kernel
def P_Door_come_b16 (o : Nat) (M : fw_M) : Option (Int32 × fw_M) := some ((-1000001 : Int32), M)
def P_Door_come_b0 (o : Nat) (M : fw_M) (x1 : Int32) (x2 : Int32) : Option (Int32 × fw_M) := (P_Door_isPerson o M x1).bind fun v1 => (if v1 = (0 : Int32) then P_Door_come_b16 o M else (P_Door_isDoor o M x2).bind fun v3 => (if v3 = (0 : Int32) then P_Door_come_b16 o M else (fw_ald M ((o + 4) + 4) 7 x1).bind fun v5 => (if v5 = x2 then some ((-1000002 : Int32), M) else (P_Acts_keep (o + 10) (o + 4) M).bind fun q7 => (fw_ast q7 ((o + 4) + 4) 7 x1 x2).bind fun M8 => (P_Door_orNone M8 v5).bind fun v9 => some (v9, M8))))
def P_Door_come (o : Nat) (M : fw_M) (a0 : Int32) (a1 : Int32) : Option (Int32 × fw_M) := P_Door_come_b0 o M a0 a1
set_option maxRecDepth 100000 in
theorem c_Door_come_b16 {p : Program} {l : Launch} {e : Env} {s : State} {m : MethodId} {args : Array Value} {below : List Frame} {meth : Method} {c : Code} {D : va_G} {cI cZ cH cR : ClassId} {N : Nat} {ad : Nat → Nat} {EE : fw_M → Nat → va_E} {o : Nat} {M : fw_M} {z : (Int32 × fw_M)} (C : fw_C p s m args meth c cX8_come RX8 wsX8_come 4 (some .int) D vwCl (fw_tys cI cZ cH cR) N ad fw_nw0) (ho : o_Door EE ad N cI cZ cH cR o) (h : P_Door_come_b16 o M = some z) : fw_J p l e (headSpec wsX8_come rm_Door_come).room s m args below meth c D vwCl N ad EE 4 0 0 (fw_E below args s D vwCl N ad EE (some (.int z.1)) z.2) M [] 16 [] := by
  unfold P_Door_come_b16 at h
  refine fw_ldc (pc := 16) C (v := -1000001) kX8_come_70 dX8_come_16 ?_
  exact fw_iret (pc := 18) C (fw_p1 h) (fw_p2 h) dX8_come_18
set_option maxRecDepth 100000 in
theorem c_Door_come_b0 {p : Program} {l : Launch} {e : Env} {s : State} {m : MethodId} {args : Array Value} {below : List Frame} {meth : Method} {c : Code} {D : va_G} {cI cZ cH cR : ClassId} {N : Nat} {ad : Nat → Nat} {EE : fw_M → Nat → va_E} {o : Nat} {M : fw_M} {x1 : Int32} {x2 : Int32} {z : (Int32 × fw_M)} (C : fw_C p s m args meth c cX8_come RX8 wsX8_come 4 (some .int) D vwCl (fw_tys cI cZ cH cR) N ad fw_nw0) (ho : o_Door EE ad N cI cZ cH cR o) (h : P_Door_come_b0 o M x1 x2 = some z) : fw_J p l e (headSpec wsX8_come rm_Door_come).room s m args below meth c D vwCl N ad EE 4 0 0 (fw_E below args s D vwCl N ad EE (some (.int z.1)) z.2) M [(0, .ref (ad o)), (1, .int x1), (2, .int x2)] 0 [] := by
  unfold P_Door_come_b0 at h
  refine fw_aload_n (pc := 0) C 0 dX8_come_0 rfl rfl ?_
  refine fw_iload_n (pc := 1) C 1 dX8_come_1 rfl rfl ?_
  obtain ⟨v1, hv1, h⟩ := fw_bind h
  refine fw_callV1 (pc := 2) C (rest := []) (c_Door_isPerson ho hv1) (cwV 1 C.2.2.2.2.1 gX8_come_X8_isPerson rfl rfl rfl hd_Door_isPerson ⟨Nat.le_of_ble_eq_true rfl, Nat.le_of_ble_eq_true rfl⟩) ho.1 rfl rfl ⟨Nat.zero_le _, Nat.zero_le _⟩ rfl (Nat.le_of_ble_eq_true rfl) dX8_come_2 ?_
  refine fw_if_eq (pc := 5) C (tgt := 16) dX8_come_5 (by decide) (fun c2 => ?_) (fun c2 => ?_)
  · have h := fw_ift h c2
    exact fw_sub [] rfl (c_Door_come_b16 C ho h)
  · have h := fw_iff h c2
    refine fw_aload_n (pc := 8) C 0 dX8_come_8 rfl rfl ?_
    refine fw_iload_n (pc := 9) C 2 dX8_come_9 rfl rfl ?_
    obtain ⟨v3, hv3, h⟩ := fw_bind h
    refine fw_callV1 (pc := 10) C (rest := []) (c_Door_isDoor ho hv3) (cwV 1 C.2.2.2.2.1 gX8_come_X8_isDoor rfl rfl rfl hd_Door_isDoor ⟨Nat.le_of_ble_eq_true rfl, Nat.le_of_ble_eq_true rfl⟩) ho.1 rfl rfl ⟨Nat.zero_le _, Nat.zero_le _⟩ rfl (Nat.le_of_ble_eq_true rfl) dX8_come_10 ?_
    refine fw_if_ne (pc := 13) C (tgt := 19) dX8_come_13 (by decide) (fun c4 => ?_) (fun c4 => ?_)
    · have h := fw_iff h c4
      refine fw_aload_n (pc := 19) C 0 dX8_come_19 rfl rfl ?_
      refine fw_getr (pc := 20) C ho.2.2.2.1.1 rfl qX8_come_25 dX8_come_20 ?_
      refine fw_getr (pc := 23) C ho.2.2.2.1.2.2.2.2.2.2.2.2.2.1.1 rfl qX8_come_173 dX8_come_23 ?_
      refine fw_iload_n (pc := 26) C 1 dX8_come_26 rfl rfl ?_
      obtain ⟨v5, hv5, h⟩ := fw_bind h
      refine fw_iald (pc := 27) C 0 ho.2.2.2.1.2.2.2.2.2.2.2.2.2.1.2 rfl hv5 dX8_come_27 ?_
      refine fw_istore_n (pc := 28) C (L2 := [(0, .ref _), (1, .int _), (2, .int _), (3, .int _)]) [1, 2, 3, 0] dX8_come_28 rfl (by decide) rfl ?_
      refine fw_iload_n (pc := 29) C 3 dX8_come_29 rfl rfl ?_
      refine fw_iload_n (pc := 30) C 2 dX8_come_30 rfl rfl ?_
      refine fw_icmp_ne (pc := 31) C (tgt := 37) dX8_come_31 (by decide) (fun c6 => ?_) (fun c6 => ?_)
      · have h := fw_iff h c6
        refine fw_aload_n (pc := 37) C 0 dX8_come_37 rfl rfl ?_
        refine fw_getr (pc := 38) C ho.2.2.2.2.1.1 rfl qX8_come_32 dX8_come_38 ?_
        refine fw_aload_n (pc := 41) C 0 dX8_come_41 rfl rfl ?_
        refine fw_getr (pc := 42) C ho.2.2.2.1.1 rfl qX8_come_25 dX8_come_42 ?_
        obtain ⟨q7, hq7, h⟩ := fw_bind h
        refine fw_callV0 (pc := 45) C (rest := []) (c_Acts_keep ho.2.2.2.2.1.2 ho.2.2.2.1.2 hq7) (cwV 1 C.2.2.2.2.1 gX8_come_X0_keep rfl rfl rfl hd_Acts_keep ⟨Nat.le_of_ble_eq_true rfl, Nat.le_of_ble_eq_true rfl⟩) ho.2.2.2.2.1.2.1 rfl rfl ⟨Nat.zero_le _, Nat.zero_le _⟩ rfl (Nat.le_of_ble_eq_true rfl) dX8_come_45 ?_
        refine fw_aload_n (pc := 48) C 0 dX8_come_48 rfl rfl ?_
        refine fw_getr (pc := 49) C ho.2.2.2.1.1 rfl qX8_come_25 dX8_come_49 ?_
        refine fw_getr (pc := 52) C ho.2.2.2.1.2.2.2.2.2.2.2.2.2.1.1 rfl qX8_come_173 dX8_come_52 ?_
        refine fw_iload_n (pc := 55) C 1 dX8_come_55 rfl rfl ?_
        refine fw_iload_n (pc := 56) C 2 dX8_come_56 rfl rfl ?_
        obtain ⟨M8, hM8, h⟩ := fw_bind h
        refine fw_iast (pc := 57) C 0 ho.2.2.2.1.2.2.2.2.2.2.2.2.2.1.2 rfl hM8 dX8_come_57 ?_
        refine fw_iload_n (pc := 58) C 3 dX8_come_58 rfl rfl ?_
        obtain ⟨v9, hv9, h⟩ := fw_bind h
        refine fw_callS1 (pc := 59) C (rest := []) (c_Door_orNone  hv9) (va_cwS 1 C.2.2.2.2.1 gX8_come_X8_orNone rfl rfl rfl hd_Door_orNone.2 ⟨Nat.le_of_ble_eq_true rfl, Nat.le_of_ble_eq_true rfl⟩) rfl ⟨Nat.zero_le _, Nat.zero_le _⟩ rfl (Nat.le_of_ble_eq_true rfl) dX8_come_59 ?_
        exact fw_iret (pc := 62) C (fw_p1 h) (fw_p2 h) dX8_come_62
      · have h := fw_ift h c6
        refine fw_ldc (pc := 34) C (v := -1000002) kX8_come_145 dX8_come_34 ?_
        exact fw_iret (pc := 36) C (fw_p1 h) (fw_p2 h) dX8_come_36
    · have h := fw_ift h c4
      exact fw_sub [] rfl (c_Door_come_b16 C ho h)
theorem c_Door_come {l : Launch} {D : va_G} {cI cZ cH cR : ClassId} {N : Nat} {ad : Nat → Nat} {EE : fw_M → Nat → va_E} {o : Nat} {M : fw_M} {a0 : Int32} {a1 : Int32} {z : (Int32 × fw_M)} (ho : o_Door EE ad N cI cZ cH cR o) (h : P_Door_come o M a0 a1 = some z) : fw_Met l yX8_come wsX8_come rm_Door_come D vwCl (fw_tys cI cZ cH cR) N ad fw_nw0 EE [.ref (ad o), .int a0, .int a1] M (some (.int z.1)) z.2 := by
  unfold P_Door_come at h
  exact fw_intro (cc := cX8_come) (maxL := 4) (ret := some .int) (own := RX8) (by decide) rfl rfl (Nat.le_of_ble_eq_true rfl) (fun p e s m args below meth c C => fw_sub [0, 1, 2] rfl (c_Door_come_b0 C ho h))
abbrev rm_Door_bow : Room := { frames := 3, cells := 0, slots := 0, locals := 90 }
theorem hd_Door_bow : yX8_bow.cls = RX8 ∧ yX8_bow.cls ≠ "java/lang/invoke/MethodHandle" ∧ yX8_bow.cls ≠ "java/lang/invoke/VarHandle" ∧ (parseMethodDescriptor yX8_bow.desc).map (fun d => d.parameters.length) = some 1 := by decide +kernel
theorem kX8_bow_70 : Cond.constant RX8 70 (-1000001) ∈ wsX8_bow := by decide +kernel
theorem qX8_bow_25 : fw_G wsX8_bow RX8 25 RX8 TX8 9 2 := ⟨by decide +kernel, by decide +kernel, by decide⟩
theorem qX8_bow_173 : fw_G wsX8_bow RX8 173 RX3 TX3 9 7 := ⟨by decide +kernel, by decide +kernel, by decide⟩
theorem kX8_bow_145 : Cond.constant RX8 145 (-1000002) ∈ wsX8_bow := by decide +kernel
theorem qX8_bow_32 : fw_G wsX8_bow RX8 32 RX8 TX8 9 3 := ⟨by decide +kernel, by decide +kernel, by decide⟩
theorem qX8_bow_179 : fw_G wsX8_bow RX8 179 RX3 TX3 9 8 := ⟨by decide +kernel, by decide +kernel, by decide⟩
theorem qX8_bow_182 : fw_G wsX8_bow RX8 182 RX3 TX3 9 1 := ⟨by decide +kernel, by decide +kernel, by decide⟩
def P_Door_bow_b0 (o : Nat) (M : fw_M) (x1 : Int32) : Option (Int32 × fw_M) := (P_Door_isPerson o M x1).bind fun v1 => (if v1 = (0 : Int32) then some ((-1000001 : Int32), M) else (fw_ald M ((o + 4) + 4) 7 x1).bind fun v3 => (if v3 = (-1 : Int32) then some ((-1000002 : Int32), M) else (P_Acts_keep (o + 10) (o + 4) M).bind fun q5 => (fw_ast q5 ((o + 4) + 5) 7 x1 (q5 (o + 4) 1)).bind fun M6 => (P_Hall_nobodies (o + 4) M6).bind fun v7 => (P_J6_bitCount v7).bind fun v8 => some (v8, M6)))
def P_Door_bow (o : Nat) (M : fw_M) (a0 : Int32) : Option (Int32 × fw_M) := P_Door_bow_b0 o M a0
set_option maxRecDepth 100000 in
theorem c_Door_bow_b0 {p : Program} {l : Launch} {e : Env} {s : State} {m : MethodId} {args : Array Value} {below : List Frame} {meth : Method} {c : Code} {D : va_G} {cI cZ cH cR : ClassId} {N : Nat} {ad : Nat → Nat} {EE : fw_M → Nat → va_E} {o : Nat} {M : fw_M} {x1 : Int32} {z : (Int32 × fw_M)} (C : fw_C p s m args meth c cX8_bow RX8 wsX8_bow 2 (some .int) D vwCl (fw_tys cI cZ cH cR) N ad fw_nw0) (ho : o_Door EE ad N cI cZ cH cR o) (h : P_Door_bow_b0 o M x1 = some z) : fw_J p l e (headSpec wsX8_bow rm_Door_bow).room s m args below meth c D vwCl N ad EE 2 0 0 (fw_E below args s D vwCl N ad EE (some (.int z.1)) z.2) M [(0, .ref (ad o)), (1, .int x1)] 0 [] := by
  unfold P_Door_bow_b0 at h
  refine fw_aload_n (pc := 0) C 0 dX8_bow_0 rfl rfl ?_
  refine fw_iload_n (pc := 1) C 1 dX8_bow_1 rfl rfl ?_
  obtain ⟨v1, hv1, h⟩ := fw_bind h
  refine fw_callV1 (pc := 2) C (rest := []) (c_Door_isPerson ho hv1) (cwV 1 C.2.2.2.2.1 gX8_bow_X8_isPerson rfl rfl rfl hd_Door_isPerson ⟨Nat.le_of_ble_eq_true rfl, Nat.le_of_ble_eq_true rfl⟩) ho.1 rfl rfl ⟨Nat.zero_le _, Nat.zero_le _⟩ rfl (Nat.le_of_ble_eq_true rfl) dX8_bow_2 ?_
  refine fw_if_ne (pc := 5) C (tgt := 11) dX8_bow_5 (by decide) (fun c2 => ?_) (fun c2 => ?_)
  · have h := fw_iff h c2
    refine fw_aload_n (pc := 11) C 0 dX8_bow_11 rfl rfl ?_
    refine fw_getr (pc := 12) C ho.2.2.2.1.1 rfl qX8_bow_25 dX8_bow_12 ?_
    refine fw_getr (pc := 15) C ho.2.2.2.1.2.2.2.2.2.2.2.2.2.1.1 rfl qX8_bow_173 dX8_bow_15 ?_
    refine fw_iload_n (pc := 18) C 1 dX8_bow_18 rfl rfl ?_
    obtain ⟨v3, hv3, h⟩ := fw_bind h
    refine fw_iald (pc := 19) C 0 ho.2.2.2.1.2.2.2.2.2.2.2.2.2.1.2 rfl hv3 dX8_bow_19 ?_
    refine fw_iconst (pc := 20) C (v := -1) dX8_bow_20 fk_iconst_m1 ?_
    refine fw_icmp_ne (pc := 21) C (tgt := 27) dX8_bow_21 (by decide) (fun c4 => ?_) (fun c4 => ?_)
    · have h := fw_iff h c4
      refine fw_aload_n (pc := 27) C 0 dX8_bow_27 rfl rfl ?_
      refine fw_getr (pc := 28) C ho.2.2.2.2.1.1 rfl qX8_bow_32 dX8_bow_28 ?_
      refine fw_aload_n (pc := 31) C 0 dX8_bow_31 rfl rfl ?_
      refine fw_getr (pc := 32) C ho.2.2.2.1.1 rfl qX8_bow_25 dX8_bow_32 ?_
      obtain ⟨q5, hq5, h⟩ := fw_bind h
      refine fw_callV0 (pc := 35) C (rest := []) (c_Acts_keep ho.2.2.2.2.1.2 ho.2.2.2.1.2 hq5) (cwV 1 C.2.2.2.2.1 gX8_bow_X0_keep rfl rfl rfl hd_Acts_keep ⟨Nat.le_of_ble_eq_true rfl, Nat.le_of_ble_eq_true rfl⟩) ho.2.2.2.2.1.2.1 rfl rfl ⟨Nat.zero_le _, Nat.zero_le _⟩ rfl (Nat.le_of_ble_eq_true rfl) dX8_bow_35 ?_
      refine fw_aload_n (pc := 38) C 0 dX8_bow_38 rfl rfl ?_
      refine fw_getr (pc := 39) C ho.2.2.2.1.1 rfl qX8_bow_25 dX8_bow_39 ?_
      refine fw_getr (pc := 42) C ho.2.2.2.1.2.2.2.2.2.2.2.2.2.2.1 rfl qX8_bow_179 dX8_bow_42 ?_
      refine fw_iload_n (pc := 45) C 1 dX8_bow_45 rfl rfl ?_
      refine fw_aload_n (pc := 46) C 0 dX8_bow_46 rfl rfl ?_
      refine fw_getr (pc := 47) C ho.2.2.2.1.1 rfl qX8_bow_25 dX8_bow_47 ?_
      refine fw_geti (pc := 50) C ho.2.2.2.1.2.2.2.1 rfl qX8_bow_182 dX8_bow_50 ?_
      obtain ⟨M6, hM6, h⟩ := fw_bind h
      refine fw_iast (pc := 53) C 0 ho.2.2.2.1.2.2.2.2.2.2.2.2.2.2.2 rfl hM6 dX8_bow_53 ?_
      refine fw_aload_n (pc := 54) C 0 dX8_bow_54 rfl rfl ?_
      refine fw_getr (pc := 55) C ho.2.2.2.1.1 rfl qX8_bow_25 dX8_bow_55 ?_
      obtain ⟨v7, hv7, h⟩ := fw_bind h
      refine fw_callV1 (pc := 58) C (rest := []) (c_Hall_nobodies ho.2.2.2.1.2 hv7) (cwV 0 C.2.2.2.2.1 gX8_bow_X3_nobodies rfl rfl rfl hd_Hall_nobodies ⟨Nat.le_of_ble_eq_true rfl, Nat.le_of_ble_eq_true rfl⟩) ho.2.2.2.1.2.1 rfl rfl ⟨Nat.zero_le _, Nat.zero_le _⟩ rfl (Nat.le_of_ble_eq_true rfl) dX8_bow_58 ?_
      obtain ⟨v8, hv8, h⟩ := fw_bind h
      refine fw_callS1 (pc := 61) C (rest := []) (c_J6_bitCount  hv8) (va_cwS 1 C.2.2.2.2.1 gX8_bow_J6_bitCount_0f7a4 rfl rfl rfl hd_J6_bitCount.2 ⟨Nat.le_of_ble_eq_true rfl, Nat.le_of_ble_eq_true rfl⟩) rfl ⟨Nat.zero_le _, Nat.zero_le _⟩ rfl (Nat.le_of_ble_eq_true rfl) dX8_bow_61 ?_
      exact fw_iret (pc := 64) C (fw_p1 h) (fw_p2 h) dX8_bow_64
    · have h := fw_ift h c4
      refine fw_ldc (pc := 24) C (v := -1000002) kX8_bow_145 dX8_bow_24 ?_
      exact fw_iret (pc := 26) C (fw_p1 h) (fw_p2 h) dX8_bow_26
  · have h := fw_ift h c2
    refine fw_ldc (pc := 8) C (v := -1000001) kX8_bow_70 dX8_bow_8 ?_
    exact fw_iret (pc := 10) C (fw_p1 h) (fw_p2 h) dX8_bow_10
theorem c_Door_bow {l : Launch} {D : va_G} {cI cZ cH cR : ClassId} {N : Nat} {ad : Nat → Nat} {EE : fw_M → Nat → va_E} {o : Nat} {M : fw_M} {a0 : Int32} {z : (Int32 × fw_M)} (ho : o_Door EE ad N cI cZ cH cR o) (h : P_Door_bow o M a0 = some z) : fw_Met l yX8_bow wsX8_bow rm_Door_bow D vwCl (fw_tys cI cZ cH cR) N ad fw_nw0 EE [.ref (ad o), .int a0] M (some (.int z.1)) z.2 := by
  unfold P_Door_bow at h
  exact fw_intro (cc := cX8_bow) (maxL := 2) (ret := some .int) (own := RX8) (by decide) rfl rfl (Nat.le_of_ble_eq_true rfl) (fun p e s m args below meth c C => fw_sub [0, 1] rfl (c_Door_bow_b0 C ho h))
abbrev rm_Door_revise : Room := { frames := 3, cells := 0, slots := 0, locals := 90 }
theorem hd_Door_revise : yX8_revise.cls = RX8 ∧ yX8_revise.cls ≠ "java/lang/invoke/MethodHandle" ∧ yX8_revise.cls ≠ "java/lang/invoke/VarHandle" ∧ (parseMethodDescriptor yX8_revise.desc).map (fun d => d.parameters.length) = some 3 := by decide +kernel
theorem qX8_revise_32 : fw_G wsX8_revise RX8 32 RX8 TX8 9 3 := ⟨by decide +kernel, by decide +kernel, by decide⟩
theorem qX8_revise_25 : fw_G wsX8_revise RX8 25 RX8 TX8 9 2 := ⟨by decide +kernel, by decide +kernel, by decide⟩
theorem qX8_revise_193 : fw_G wsX8_revise RX8 193 RX3 TX3 9 5 := ⟨by decide +kernel, by decide +kernel, by decide⟩
theorem qX8_revise_196 : fw_G wsX8_revise RX8 196 RX3 TX3 9 6 := ⟨by decide +kernel, by decide +kernel, by decide⟩
theorem kX8_revise_70 : Cond.constant RX8 70 (-1000001) ∈ wsX8_revise := by decide +kernel
def P_Door_revise_b27 (o : Nat) (M : fw_M) : Option (Int32 × fw_M) := some ((-1000001 : Int32), M)
def P_Door_revise_b62 (o : Nat) (M : fw_M) (x1 : Int32) (x3 : Int32) (t0 : Nat) : Option (Int32 × fw_M) := (fw_ald M t0 7 x1).bind fun v1 => (fw_ast M t0 7 x1 x3).bind fun M2 => some (v1, M2)
def P_Door_revise_b0 (o : Nat) (M : fw_M) (x1 : Int32) (x2 : Int32) (x3 : Int32) : Option (Int32 × fw_M) := (P_Door_isPerson o M x1).bind fun v1 => (if v1 = (0 : Int32) then P_Door_revise_b27 o M else (P_Door_within M x2 (0 : Int32) (1 : Int32)).bind fun v3 => (if v3 = (0 : Int32) then P_Door_revise_b27 o M else (P_Door_within M x3 (0 : Int32) (9 : Int32)).bind fun v5 => (if v5 = (0 : Int32) then P_Door_revise_b27 o M else (P_Acts_keep (o + 10) (o + 4) M).bind fun q7 => (if x2 = (0 : Int32) then P_Door_revise_b62 o q7 x1 x3 ((o + 4) + 2) else P_Door_revise_b62 o q7 x1 x3 ((o + 4) + 3)))))
def P_Door_revise (o : Nat) (M : fw_M) (a0 : Int32) (a1 : Int32) (a2 : Int32) : Option (Int32 × fw_M) := P_Door_revise_b0 o M a0 a1 a2
set_option maxRecDepth 100000 in
theorem c_Door_revise_b27 {p : Program} {l : Launch} {e : Env} {s : State} {m : MethodId} {args : Array Value} {below : List Frame} {meth : Method} {c : Code} {D : va_G} {cI cZ cH cR : ClassId} {N : Nat} {ad : Nat → Nat} {EE : fw_M → Nat → va_E} {o : Nat} {M : fw_M} {z : (Int32 × fw_M)} (C : fw_C p s m args meth c cX8_revise RX8 wsX8_revise 6 (some .int) D vwCl (fw_tys cI cZ cH cR) N ad fw_nw0) (ho : o_Door EE ad N cI cZ cH cR o) (h : P_Door_revise_b27 o M = some z) : fw_J p l e (headSpec wsX8_revise rm_Door_revise).room s m args below meth c D vwCl N ad EE 6 0 0 (fw_E below args s D vwCl N ad EE (some (.int z.1)) z.2) M [] 27 [] := by
  unfold P_Door_revise_b27 at h
  refine fw_ldc (pc := 27) C (v := -1000001) kX8_revise_70 dX8_revise_27 ?_
  exact fw_iret (pc := 29) C (fw_p1 h) (fw_p2 h) dX8_revise_29
set_option maxRecDepth 100000 in
theorem c_Door_revise_b62 {p : Program} {l : Launch} {e : Env} {s : State} {m : MethodId} {args : Array Value} {below : List Frame} {meth : Method} {c : Code} {D : va_G} {cI cZ cH cR : ClassId} {N : Nat} {ad : Nat → Nat} {EE : fw_M → Nat → va_E} {o : Nat} {M : fw_M} {x1 : Int32} {x3 : Int32} {t0 : Nat} {z : (Int32 × fw_M)} (C : fw_C p s m args meth c cX8_revise RX8 wsX8_revise 6 (some .int) D vwCl (fw_tys cI cZ cH cR) N ad fw_nw0) (ho : o_Door EE ad N cI cZ cH cR o) (ht0 : fw_I EE N cI t0 7) (h : P_Door_revise_b62 o M x1 x3 t0 = some z) : fw_J p l e (headSpec wsX8_revise rm_Door_revise).room s m args below meth c D vwCl N ad EE 6 0 0 (fw_E below args s D vwCl N ad EE (some (.int z.1)) z.2) M [(1, .int x1), (3, .int x3)] 62 [.ref (ad t0)] := by
  unfold P_Door_revise_b62 at h
  refine fw_astore (pc := 62) C (L2 := [(1, .int _), (3, .int _), (4, .ref _)]) [1, 2, 0] dX8_revise_62 (by decide) rfl ?_
  refine fw_aload (pc := 64) C 2 dX8_revise_64 rfl ?_
  refine fw_iload_n (pc := 66) C 0 dX8_revise_66 rfl rfl ?_
  obtain ⟨v1, hv1, h⟩ := fw_bind h
  refine fw_iald (pc := 67) C 0 ht0 rfl hv1 dX8_revise_67 ?_
  refine fw_istore (pc := 68) C (L2 := [(1, .int _), (3, .int _), (4, .ref _), (5, .int _)]) [1, 2, 3, 0] dX8_revise_68 (by decide) rfl ?_
  refine fw_aload (pc := 70) C 2 dX8_revise_70 rfl ?_
  refine fw_iload_n (pc := 72) C 0 dX8_revise_72 rfl rfl ?_
  refine fw_iload_n (pc := 73) C 1 dX8_revise_73 rfl rfl ?_
  obtain ⟨M2, hM2, h⟩ := fw_bind h
  refine fw_iast (pc := 74) C 0 ht0 rfl hM2 dX8_revise_74 ?_
  refine fw_iload (pc := 75) C 3 dX8_revise_75 rfl ?_
  exact fw_iret (pc := 77) C (fw_p1 h) (fw_p2 h) dX8_revise_77
set_option maxRecDepth 100000 in
theorem c_Door_revise_b0 {p : Program} {l : Launch} {e : Env} {s : State} {m : MethodId} {args : Array Value} {below : List Frame} {meth : Method} {c : Code} {D : va_G} {cI cZ cH cR : ClassId} {N : Nat} {ad : Nat → Nat} {EE : fw_M → Nat → va_E} {o : Nat} {M : fw_M} {x1 : Int32} {x2 : Int32} {x3 : Int32} {z : (Int32 × fw_M)} (C : fw_C p s m args meth c cX8_revise RX8 wsX8_revise 6 (some .int) D vwCl (fw_tys cI cZ cH cR) N ad fw_nw0) (ho : o_Door EE ad N cI cZ cH cR o) (h : P_Door_revise_b0 o M x1 x2 x3 = some z) : fw_J p l e (headSpec wsX8_revise rm_Door_revise).room s m args below meth c D vwCl N ad EE 6 0 0 (fw_E below args s D vwCl N ad EE (some (.int z.1)) z.2) M [(0, .ref (ad o)), (1, .int x1), (2, .int x2), (3, .int x3)] 0 [] := by
  unfold P_Door_revise_b0 at h
  refine fw_aload_n (pc := 0) C 0 dX8_revise_0 rfl rfl ?_
  refine fw_iload_n (pc := 1) C 1 dX8_revise_1 rfl rfl ?_
  obtain ⟨v1, hv1, h⟩ := fw_bind h
  refine fw_callV1 (pc := 2) C (rest := []) (c_Door_isPerson ho hv1) (cwV 1 C.2.2.2.2.1 gX8_revise_X8_isPerson rfl rfl rfl hd_Door_isPerson ⟨Nat.le_of_ble_eq_true rfl, Nat.le_of_ble_eq_true rfl⟩) ho.1 rfl rfl ⟨Nat.zero_le _, Nat.zero_le _⟩ rfl (Nat.le_of_ble_eq_true rfl) dX8_revise_2 ?_
  refine fw_if_eq (pc := 5) C (tgt := 27) dX8_revise_5 (by decide) (fun c2 => ?_) (fun c2 => ?_)
  · have h := fw_ift h c2
    exact fw_sub [] rfl (c_Door_revise_b27 C ho h)
  · have h := fw_iff h c2
    refine fw_iload_n (pc := 8) C 2 dX8_revise_8 rfl rfl ?_
    refine fw_iconst (pc := 9) C (v := 0) dX8_revise_9 fk_iconst_0 ?_
    refine fw_iconst (pc := 10) C (v := 1) dX8_revise_10 fk_iconst_1 ?_
    obtain ⟨v3, hv3, h⟩ := fw_bind h
    refine fw_callS1 (pc := 11) C (rest := []) (c_Door_within  hv3) (va_cwS 3 C.2.2.2.2.1 gX8_revise_X8_within rfl rfl rfl hd_Door_within.2 ⟨Nat.le_of_ble_eq_true rfl, Nat.le_of_ble_eq_true rfl⟩) rfl ⟨Nat.zero_le _, Nat.zero_le _⟩ rfl (Nat.le_of_ble_eq_true rfl) dX8_revise_11 ?_
    refine fw_if_eq (pc := 14) C (tgt := 27) dX8_revise_14 (by decide) (fun c4 => ?_) (fun c4 => ?_)
    · have h := fw_ift h c4
      exact fw_sub [] rfl (c_Door_revise_b27 C ho h)
    · have h := fw_iff h c4
      refine fw_iload_n (pc := 17) C 3 dX8_revise_17 rfl rfl ?_
      refine fw_iconst (pc := 18) C (v := 0) dX8_revise_18 fk_iconst_0 ?_
      refine fw_bipush (pc := 19) C (v := 9) dX8_revise_19 fk_bipush_9 ?_
      obtain ⟨v5, hv5, h⟩ := fw_bind h
      refine fw_callS1 (pc := 21) C (rest := []) (c_Door_within  hv5) (va_cwS 3 C.2.2.2.2.1 gX8_revise_X8_within rfl rfl rfl hd_Door_within.2 ⟨Nat.le_of_ble_eq_true rfl, Nat.le_of_ble_eq_true rfl⟩) rfl ⟨Nat.zero_le _, Nat.zero_le _⟩ rfl (Nat.le_of_ble_eq_true rfl) dX8_revise_21 ?_
      refine fw_if_ne (pc := 24) C (tgt := 30) dX8_revise_24 (by decide) (fun c6 => ?_) (fun c6 => ?_)
      · have h := fw_iff h c6
        refine fw_aload_n (pc := 30) C 0 dX8_revise_30 rfl rfl ?_
        refine fw_getr (pc := 31) C ho.2.2.2.2.1.1 rfl qX8_revise_32 dX8_revise_31 ?_
        refine fw_aload_n (pc := 34) C 0 dX8_revise_34 rfl rfl ?_
        refine fw_getr (pc := 35) C ho.2.2.2.1.1 rfl qX8_revise_25 dX8_revise_35 ?_
        obtain ⟨q7, hq7, h⟩ := fw_bind h
        refine fw_callV0 (pc := 38) C (rest := []) (c_Acts_keep ho.2.2.2.2.1.2 ho.2.2.2.1.2 hq7) (cwV 1 C.2.2.2.2.1 gX8_revise_X0_keep rfl rfl rfl hd_Acts_keep ⟨Nat.le_of_ble_eq_true rfl, Nat.le_of_ble_eq_true rfl⟩) ho.2.2.2.2.1.2.1 rfl rfl ⟨Nat.zero_le _, Nat.zero_le _⟩ rfl (Nat.le_of_ble_eq_true rfl) dX8_revise_38 ?_
        refine fw_iload_n (pc := 41) C 2 dX8_revise_41 rfl rfl ?_
        refine fw_if_ne (pc := 42) C (tgt := 55) dX8_revise_42 (by decide) (fun c8 => ?_) (fun c8 => ?_)
        · have h := fw_iff h c8
          refine fw_aload_n (pc := 55) C 0 dX8_revise_55 rfl rfl ?_
          refine fw_getr (pc := 56) C ho.2.2.2.1.1 rfl qX8_revise_25 dX8_revise_56 ?_
          refine fw_getr (pc := 59) C ho.2.2.2.1.2.2.2.2.2.2.2.2.1.1 rfl qX8_revise_196 dX8_revise_59 ?_
          exact fw_sub [1, 3] rfl (c_Door_revise_b62 C ho ho.2.2.2.1.2.2.2.2.2.2.2.2.1.2 h)
        · have h := fw_ift h c8
          refine fw_aload_n (pc := 45) C 0 dX8_revise_45 rfl rfl ?_
          refine fw_getr (pc := 46) C ho.2.2.2.1.1 rfl qX8_revise_25 dX8_revise_46 ?_
          refine fw_getr (pc := 49) C ho.2.2.2.1.2.2.2.2.2.2.2.1.1 rfl qX8_revise_193 dX8_revise_49 ?_
          refine fw_goto (pc := 52) C (tgt := 62) dX8_revise_52 (by decide) ?_
          exact fw_sub [1, 3] rfl (c_Door_revise_b62 C ho ho.2.2.2.1.2.2.2.2.2.2.2.1.2 h)
      · have h := fw_ift h c6
        exact fw_sub [] rfl (c_Door_revise_b27 C ho h)
theorem c_Door_revise {l : Launch} {D : va_G} {cI cZ cH cR : ClassId} {N : Nat} {ad : Nat → Nat} {EE : fw_M → Nat → va_E} {o : Nat} {M : fw_M} {a0 : Int32} {a1 : Int32} {a2 : Int32} {z : (Int32 × fw_M)} (ho : o_Door EE ad N cI cZ cH cR o) (h : P_Door_revise o M a0 a1 a2 = some z) : fw_Met l yX8_revise wsX8_revise rm_Door_revise D vwCl (fw_tys cI cZ cH cR) N ad fw_nw0 EE [.ref (ad o), .int a0, .int a1, .int a2] M (some (.int z.1)) z.2 := by
  unfold P_Door_revise at h
  exact fw_intro (cc := cX8_revise) (maxL := 6) (ret := some .int) (own := RX8) (by decide) rfl rfl (Nat.le_of_ble_eq_true rfl) (fun p e s m args below meth c C => fw_sub [0, 1, 2, 3] rfl (c_Door_revise_b0 C ho h))
abbrev rm_Door_person : Room := { frames := 3, cells := 0, slots := 0, locals := 66 }
theorem hd_Door_person : yX8_person.cls = RX8 ∧ yX8_person.cls ≠ "java/lang/invoke/MethodHandle" ∧ yX8_person.cls ≠ "java/lang/invoke/VarHandle" ∧ (parseMethodDescriptor yX8_person.desc).map (fun d => d.parameters.length) = some 2 := by decide +kernel
theorem kX8_person_70 : Cond.constant RX8 70 (-1000001) ∈ wsX8_person := by decide +kernel
theorem qX8_person_25 : fw_G wsX8_person RX8 25 RX8 TX8 9 2 := ⟨by decide +kernel, by decide +kernel, by decide⟩
theorem qX8_person_173 : fw_G wsX8_person RX8 173 RX3 TX3 9 7 := ⟨by decide +kernel, by decide +kernel, by decide⟩
theorem qX8_person_43 : fw_G wsX8_person RX8 43 RX8 TX8 9 5 := ⟨by decide +kernel, by decide +kernel, by decide⟩
theorem qX8_person_179 : fw_G wsX8_person RX8 179 RX3 TX3 9 8 := ⟨by decide +kernel, by decide +kernel, by decide⟩
theorem qX8_person_196 : fw_G wsX8_person RX8 196 RX3 TX3 9 6 := ⟨by decide +kernel, by decide +kernel, by decide⟩
theorem qX8_person_193 : fw_G wsX8_person RX8 193 RX3 TX3 9 5 := ⟨by decide +kernel, by decide +kernel, by decide⟩
def P_Door_person_b138 (o : Nat) (M : fw_M) (t0 : Int32) : Option (Int32 × fw_M) := some (t0, M)
def P_Door_person_b137 (o : Nat) (M : fw_M) : Option (Int32 × fw_M) := P_Door_person_b138 o M (0 : Int32)
def P_Door_person_b178 (o : Nat) (M : fw_M) (t0 : Int32) : Option (Int32 × fw_M) := some (t0, M)
def P_Door_person_b0 (o : Nat) (M : fw_M) (x1 : Int32) (x2 : Int32) : Option (Int32 × fw_M) := (P_Door_isPerson o M x1).bind fun v1 => (if v1 = (0 : Int32) then some ((-1000001 : Int32), M) else (fw_ald M ((o + 4) + 4) 7 x1).bind fun v3 => (if x2 = (0 : Int32) then (fw_ald M ((o + 4) + 2) 7 x1).bind fun v5 => some (v5, M) else (if x2 = (1 : Int32) then (fw_ald M ((o + 4) + 3) 7 x1).bind fun v7 => some (v7, M) else (if x2 = (2 : Int32) then (P_Door_orNone M v3).bind fun v9 => some (v9, M) else (if x2 = (3 : Int32) then (fw_ald M ((o + 4) + 5) 7 x1).bind fun v11 => some (v11, M) else (if x2 = (4 : Int32) then (if v3 = (-1 : Int32) then P_Door_person_b137 o M else (P_Fore_lawOf (o + 157) (o + 4) M).bind fun q14 => (P_Hall_waitingAt (o + 4) q14 v3).bind fun v15 => (P_Hall_nobodies (o + 4) q14).bind fun v16 => (P_Law_lets ((o + 157) + 7) q14 x1 v15 v16).bind fun v17 => (if v17 = (0 : Int32) then P_Door_person_b137 o q14 else P_Door_person_b138 o q14 (1 : Int32))) else (if x2 = (5 : Int32) then (if v3 = (-1 : Int32) then P_Door_person_b178 o M (0 : Int32) else (P_Fore_lawOf (o + 157) (o + 4) M).bind fun q21 => (P_Hall_waitingAt (o + 4) q21 v3).bind fun v22 => (P_Hall_nobodies (o + 4) q21).bind fun v23 => (P_Law_yielded ((o + 157) + 7) q21 x1 v22 v23).bind fun v24 => P_Door_person_b178 o q21 v24) else some ((-1000001 : Int32), M))))))))
def P_Door_person (o : Nat) (M : fw_M) (a0 : Int32) (a1 : Int32) : Option (Int32 × fw_M) := P_Door_person_b0 o M a0 a1
set_option maxRecDepth 100000 in
theorem c_Door_person_b138 {p : Program} {l : Launch} {e : Env} {s : State} {m : MethodId} {args : Array Value} {below : List Frame} {meth : Method} {c : Code} {D : va_G} {cI cZ cH cR : ClassId} {N : Nat} {ad : Nat → Nat} {EE : fw_M → Nat → va_E} {o : Nat} {M : fw_M} {t0 : Int32} {z : (Int32 × fw_M)} (C : fw_C p s m args meth c cX8_person RX8 wsX8_person 4 (some .int) D vwCl (fw_tys cI cZ cH cR) N ad fw_nw0) (ho : o_Door EE ad N cI cZ cH cR o) (h : P_Door_person_b138 o M t0 = some z) : fw_J p l e (headSpec wsX8_person rm_Door_person).room s m args below meth c D vwCl N ad EE 4 0 0 (fw_E below args s D vwCl N ad EE (some (.int z.1)) z.2) M [] 138 [.int t0] := by
  unfold P_Door_person_b138 at h
  exact fw_iret (pc := 138) C (fw_p1 h) (fw_p2 h) dX8_person_138
set_option maxRecDepth 100000 in
theorem c_Door_person_b137 {p : Program} {l : Launch} {e : Env} {s : State} {m : MethodId} {args : Array Value} {below : List Frame} {meth : Method} {c : Code} {D : va_G} {cI cZ cH cR : ClassId} {N : Nat} {ad : Nat → Nat} {EE : fw_M → Nat → va_E} {o : Nat} {M : fw_M} {z : (Int32 × fw_M)} (C : fw_C p s m args meth c cX8_person RX8 wsX8_person 4 (some .int) D vwCl (fw_tys cI cZ cH cR) N ad fw_nw0) (ho : o_Door EE ad N cI cZ cH cR o) (h : P_Door_person_b137 o M = some z) : fw_J p l e (headSpec wsX8_person rm_Door_person).room s m args below meth c D vwCl N ad EE 4 0 0 (fw_E below args s D vwCl N ad EE (some (.int z.1)) z.2) M [] 137 [] := by
  unfold P_Door_person_b137 at h
  refine fw_iconst (pc := 137) C (v := 0) dX8_person_137 fk_iconst_0 ?_
  exact (c_Door_person_b138 C ho h)
set_option maxRecDepth 100000 in
theorem c_Door_person_b178 {p : Program} {l : Launch} {e : Env} {s : State} {m : MethodId} {args : Array Value} {below : List Frame} {meth : Method} {c : Code} {D : va_G} {cI cZ cH cR : ClassId} {N : Nat} {ad : Nat → Nat} {EE : fw_M → Nat → va_E} {o : Nat} {M : fw_M} {t0 : Int32} {z : (Int32 × fw_M)} (C : fw_C p s m args meth c cX8_person RX8 wsX8_person 4 (some .int) D vwCl (fw_tys cI cZ cH cR) N ad fw_nw0) (ho : o_Door EE ad N cI cZ cH cR o) (h : P_Door_person_b178 o M t0 = some z) : fw_J p l e (headSpec wsX8_person rm_Door_person).room s m args below meth c D vwCl N ad EE 4 0 0 (fw_E below args s D vwCl N ad EE (some (.int z.1)) z.2) M [] 178 [.int t0] := by
  unfold P_Door_person_b178 at h
  exact fw_iret (pc := 178) C (fw_p1 h) (fw_p2 h) dX8_person_178
set_option maxRecDepth 100000 in
theorem c_Door_person_b0 {p : Program} {l : Launch} {e : Env} {s : State} {m : MethodId} {args : Array Value} {below : List Frame} {meth : Method} {c : Code} {D : va_G} {cI cZ cH cR : ClassId} {N : Nat} {ad : Nat → Nat} {EE : fw_M → Nat → va_E} {o : Nat} {M : fw_M} {x1 : Int32} {x2 : Int32} {z : (Int32 × fw_M)} (C : fw_C p s m args meth c cX8_person RX8 wsX8_person 4 (some .int) D vwCl (fw_tys cI cZ cH cR) N ad fw_nw0) (ho : o_Door EE ad N cI cZ cH cR o) (h : P_Door_person_b0 o M x1 x2 = some z) : fw_J p l e (headSpec wsX8_person rm_Door_person).room s m args below meth c D vwCl N ad EE 4 0 0 (fw_E below args s D vwCl N ad EE (some (.int z.1)) z.2) M [(0, .ref (ad o)), (1, .int x1), (2, .int x2)] 0 [] := by
  unfold P_Door_person_b0 at h
  refine fw_aload_n (pc := 0) C 0 dX8_person_0 rfl rfl ?_
  refine fw_iload_n (pc := 1) C 1 dX8_person_1 rfl rfl ?_
  obtain ⟨v1, hv1, h⟩ := fw_bind h
  refine fw_callV1 (pc := 2) C (rest := []) (c_Door_isPerson ho hv1) (cwV 1 C.2.2.2.2.1 gX8_person_X8_isPerson rfl rfl rfl hd_Door_isPerson ⟨Nat.le_of_ble_eq_true rfl, Nat.le_of_ble_eq_true rfl⟩) ho.1 rfl rfl ⟨Nat.zero_le _, Nat.zero_le _⟩ rfl (Nat.le_of_ble_eq_true rfl) dX8_person_2 ?_
  refine fw_if_ne (pc := 5) C (tgt := 11) dX8_person_5 (by decide) (fun c2 => ?_) (fun c2 => ?_)
  · have h := fw_iff h c2
    refine fw_aload_n (pc := 11) C 0 dX8_person_11 rfl rfl ?_
    refine fw_getr (pc := 12) C ho.2.2.2.1.1 rfl qX8_person_25 dX8_person_12 ?_
    refine fw_getr (pc := 15) C ho.2.2.2.1.2.2.2.2.2.2.2.2.2.1.1 rfl qX8_person_173 dX8_person_15 ?_
    refine fw_iload_n (pc := 18) C 1 dX8_person_18 rfl rfl ?_
    obtain ⟨v3, hv3, h⟩ := fw_bind h
    refine fw_iald (pc := 19) C 0 ho.2.2.2.1.2.2.2.2.2.2.2.2.2.1.2 rfl hv3 dX8_person_19 ?_
    refine fw_istore_n (pc := 20) C (L2 := [(0, .ref _), (1, .int _), (2, .int _), (3, .int _)]) [1, 2, 3, 0] dX8_person_20 rfl (by decide) rfl ?_
    refine fw_iload_n (pc := 21) C 2 dX8_person_21 rfl rfl ?_
    rcases fw_cs h with ⟨c4, h⟩ | ⟨c4, h⟩
    · refine fw_tsin (pc := 22) C dX8_person_22 c4 (v := 0) (off := 38) (by decide) (tgt := 60) (by decide) ?_
      refine fw_aload_n (pc := 60) C 0 dX8_person_60 rfl rfl ?_
      refine fw_getr (pc := 61) C ho.2.2.2.1.1 rfl qX8_person_25 dX8_person_61 ?_
      refine fw_getr (pc := 64) C ho.2.2.2.1.2.2.2.2.2.2.2.1.1 rfl qX8_person_193 dX8_person_64 ?_
      refine fw_iload_n (pc := 67) C 1 dX8_person_67 rfl rfl ?_
      obtain ⟨v5, hv5, h⟩ := fw_bind h
      refine fw_iald (pc := 68) C 0 ho.2.2.2.1.2.2.2.2.2.2.2.1.2 rfl hv5 dX8_person_68 ?_
      exact fw_iret (pc := 69) C (fw_p1 h) (fw_p2 h) dX8_person_69
    · rcases fw_cs h with ⟨c6, h⟩ | ⟨c6, h⟩
      · refine fw_tsin (pc := 22) C dX8_person_22 c6 (v := 1) (off := 48) (by decide) (tgt := 70) (by decide) ?_
        refine fw_aload_n (pc := 70) C 0 dX8_person_70 rfl rfl ?_
        refine fw_getr (pc := 71) C ho.2.2.2.1.1 rfl qX8_person_25 dX8_person_71 ?_
        refine fw_getr (pc := 74) C ho.2.2.2.1.2.2.2.2.2.2.2.2.1.1 rfl qX8_person_196 dX8_person_74 ?_
        refine fw_iload_n (pc := 77) C 1 dX8_person_77 rfl rfl ?_
        obtain ⟨v7, hv7, h⟩ := fw_bind h
        refine fw_iald (pc := 78) C 0 ho.2.2.2.1.2.2.2.2.2.2.2.2.1.2 rfl hv7 dX8_person_78 ?_
        exact fw_iret (pc := 79) C (fw_p1 h) (fw_p2 h) dX8_person_79
      · rcases fw_cs h with ⟨c8, h⟩ | ⟨c8, h⟩
        · refine fw_tsin (pc := 22) C dX8_person_22 c8 (v := 2) (off := 58) (by decide) (tgt := 80) (by decide) ?_
          refine fw_iload_n (pc := 80) C 3 dX8_person_80 rfl rfl ?_
          obtain ⟨v9, hv9, h⟩ := fw_bind h
          refine fw_callS1 (pc := 81) C (rest := []) (c_Door_orNone  hv9) (va_cwS 1 C.2.2.2.2.1 gX8_person_X8_orNone rfl rfl rfl hd_Door_orNone.2 ⟨Nat.le_of_ble_eq_true rfl, Nat.le_of_ble_eq_true rfl⟩) rfl ⟨Nat.zero_le _, Nat.zero_le _⟩ rfl (Nat.le_of_ble_eq_true rfl) dX8_person_81 ?_
          exact fw_iret (pc := 84) C (fw_p1 h) (fw_p2 h) dX8_person_84
        · rcases fw_cs h with ⟨c10, h⟩ | ⟨c10, h⟩
          · refine fw_tsin (pc := 22) C dX8_person_22 c10 (v := 3) (off := 63) (by decide) (tgt := 85) (by decide) ?_
            refine fw_aload_n (pc := 85) C 0 dX8_person_85 rfl rfl ?_
            refine fw_getr (pc := 86) C ho.2.2.2.1.1 rfl qX8_person_25 dX8_person_86 ?_
            refine fw_getr (pc := 89) C ho.2.2.2.1.2.2.2.2.2.2.2.2.2.2.1 rfl qX8_person_179 dX8_person_89 ?_
            refine fw_iload_n (pc := 92) C 1 dX8_person_92 rfl rfl ?_
            obtain ⟨v11, hv11, h⟩ := fw_bind h
            refine fw_iald (pc := 93) C 0 ho.2.2.2.1.2.2.2.2.2.2.2.2.2.2.2 rfl hv11 dX8_person_93 ?_
            exact fw_iret (pc := 94) C (fw_p1 h) (fw_p2 h) dX8_person_94
          · rcases fw_cs h with ⟨c12, h⟩ | ⟨c12, h⟩
            · refine fw_tsin (pc := 22) C dX8_person_22 c12 (v := 4) (off := 73) (by decide) (tgt := 95) (by decide) ?_
              refine fw_iload_n (pc := 95) C 3 dX8_person_95 rfl rfl ?_
              refine fw_iconst (pc := 96) C (v := -1) dX8_person_96 fk_iconst_m1 ?_
              refine fw_icmp_eq (pc := 97) C (tgt := 137) dX8_person_97 (by decide) (fun c13 => ?_) (fun c13 => ?_)
              · have h := fw_ift h c13
                exact fw_sub [] rfl (c_Door_person_b137 C ho h)
              · have h := fw_iff h c13
                refine fw_aload_n (pc := 100) C 0 dX8_person_100 rfl rfl ?_
                refine fw_getr (pc := 101) C ho.2.2.2.2.2.2.1.1 rfl qX8_person_43 dX8_person_101 ?_
                refine fw_aload_n (pc := 104) C 0 dX8_person_104 rfl rfl ?_
                refine fw_getr (pc := 105) C ho.2.2.2.1.1 rfl qX8_person_25 dX8_person_105 ?_
                obtain ⟨q14, hq14, h⟩ := fw_bind h
                refine fw_callV1 (pc := 108) C (rest := []) (c_Fore_lawOf ho.2.2.2.2.2.2.1.2 ho.2.2.2.1.2 hq14) (cwV 1 C.2.2.2.2.1 gX8_person_X2_lawOf rfl rfl rfl hd_Fore_lawOf ⟨Nat.le_of_ble_eq_true rfl, Nat.le_of_ble_eq_true rfl⟩) ho.2.2.2.2.2.2.1.2.1 rfl rfl ⟨Nat.zero_le _, Nat.zero_le _⟩ rfl (Nat.le_of_ble_eq_true rfl) dX8_person_108 ?_
                refine fw_iload_n (pc := 111) C 1 dX8_person_111 rfl rfl ?_
                refine fw_aload_n (pc := 112) C 0 dX8_person_112 rfl rfl ?_
                refine fw_getr (pc := 113) C ho.2.2.2.1.1 rfl qX8_person_25 dX8_person_113 ?_
                refine fw_iload_n (pc := 116) C 3 dX8_person_116 rfl rfl ?_
                obtain ⟨v15, hv15, h⟩ := fw_bind h
                refine fw_callV1 (pc := 117) C (rest := [_, _]) (c_Hall_waitingAt ho.2.2.2.1.2 hv15) (cwV 1 C.2.2.2.2.1 gX8_person_X3_waitingAt rfl rfl rfl hd_Hall_waitingAt ⟨Nat.le_of_ble_eq_true rfl, Nat.le_of_ble_eq_true rfl⟩) ho.2.2.2.1.2.1 rfl rfl ⟨Nat.zero_le _, Nat.zero_le _⟩ rfl (Nat.le_of_ble_eq_true rfl) dX8_person_117 ?_
                refine fw_aload_n (pc := 120) C 0 dX8_person_120 rfl rfl ?_
                refine fw_getr (pc := 121) C ho.2.2.2.1.1 rfl qX8_person_25 dX8_person_121 ?_
                obtain ⟨v16, hv16, h⟩ := fw_bind h
                refine fw_callV1 (pc := 124) C (rest := [_, _, _]) (c_Hall_nobodies ho.2.2.2.1.2 hv16) (cwV 0 C.2.2.2.2.1 gX8_person_X3_nobodies rfl rfl rfl hd_Hall_nobodies ⟨Nat.le_of_ble_eq_true rfl, Nat.le_of_ble_eq_true rfl⟩) ho.2.2.2.1.2.1 rfl rfl ⟨Nat.zero_le _, Nat.zero_le _⟩ rfl (Nat.le_of_ble_eq_true rfl) dX8_person_124 ?_
                obtain ⟨v17, hv17, h⟩ := fw_bind h
                refine fw_callV1 (pc := 127) C (rest := []) (c_Law_lets ho.2.2.2.2.2.2.1.2.2.2.1.2 hv17) (cwV 3 C.2.2.2.2.1 gX8_person_X4_lets rfl rfl rfl hd_Law_lets ⟨Nat.le_of_ble_eq_true rfl, Nat.le_of_ble_eq_true rfl⟩) ho.2.2.2.2.2.2.1.2.2.2.1.2.1 rfl rfl ⟨Nat.zero_le _, Nat.zero_le _⟩ rfl (Nat.le_of_ble_eq_true rfl) dX8_person_127 ?_
                refine fw_if_eq (pc := 130) C (tgt := 137) dX8_person_130 (by decide) (fun c18 => ?_) (fun c18 => ?_)
                · have h := fw_ift h c18
                  exact fw_sub [] rfl (c_Door_person_b137 C ho h)
                · have h := fw_iff h c18
                  refine fw_iconst (pc := 133) C (v := 1) dX8_person_133 fk_iconst_1 ?_
                  refine fw_goto (pc := 134) C (tgt := 138) dX8_person_134 (by decide) ?_
                  exact fw_sub [] rfl (c_Door_person_b138 C ho h)
            · rcases fw_cs h with ⟨c19, h⟩ | ⟨c19, h⟩
              · refine fw_tsin (pc := 22) C dX8_person_22 c19 (v := 5) (off := 117) (by decide) (tgt := 139) (by decide) ?_
                refine fw_iload_n (pc := 139) C 3 dX8_person_139 rfl rfl ?_
                refine fw_iconst (pc := 140) C (v := -1) dX8_person_140 fk_iconst_m1 ?_
                refine fw_icmp_ne (pc := 141) C (tgt := 148) dX8_person_141 (by decide) (fun c20 => ?_) (fun c20 => ?_)
                · have h := fw_iff h c20
                  refine fw_aload_n (pc := 148) C 0 dX8_person_148 rfl rfl ?_
                  refine fw_getr (pc := 149) C ho.2.2.2.2.2.2.1.1 rfl qX8_person_43 dX8_person_149 ?_
                  refine fw_aload_n (pc := 152) C 0 dX8_person_152 rfl rfl ?_
                  refine fw_getr (pc := 153) C ho.2.2.2.1.1 rfl qX8_person_25 dX8_person_153 ?_
                  obtain ⟨q21, hq21, h⟩ := fw_bind h
                  refine fw_callV1 (pc := 156) C (rest := []) (c_Fore_lawOf ho.2.2.2.2.2.2.1.2 ho.2.2.2.1.2 hq21) (cwV 1 C.2.2.2.2.1 gX8_person_X2_lawOf rfl rfl rfl hd_Fore_lawOf ⟨Nat.le_of_ble_eq_true rfl, Nat.le_of_ble_eq_true rfl⟩) ho.2.2.2.2.2.2.1.2.1 rfl rfl ⟨Nat.zero_le _, Nat.zero_le _⟩ rfl (Nat.le_of_ble_eq_true rfl) dX8_person_156 ?_
                  refine fw_iload_n (pc := 159) C 1 dX8_person_159 rfl rfl ?_
                  refine fw_aload_n (pc := 160) C 0 dX8_person_160 rfl rfl ?_
                  refine fw_getr (pc := 161) C ho.2.2.2.1.1 rfl qX8_person_25 dX8_person_161 ?_
                  refine fw_iload_n (pc := 164) C 3 dX8_person_164 rfl rfl ?_
                  obtain ⟨v22, hv22, h⟩ := fw_bind h
                  refine fw_callV1 (pc := 165) C (rest := [_, _]) (c_Hall_waitingAt ho.2.2.2.1.2 hv22) (cwV 1 C.2.2.2.2.1 gX8_person_X3_waitingAt rfl rfl rfl hd_Hall_waitingAt ⟨Nat.le_of_ble_eq_true rfl, Nat.le_of_ble_eq_true rfl⟩) ho.2.2.2.1.2.1 rfl rfl ⟨Nat.zero_le _, Nat.zero_le _⟩ rfl (Nat.le_of_ble_eq_true rfl) dX8_person_165 ?_
                  refine fw_aload_n (pc := 168) C 0 dX8_person_168 rfl rfl ?_
                  refine fw_getr (pc := 169) C ho.2.2.2.1.1 rfl qX8_person_25 dX8_person_169 ?_
                  obtain ⟨v23, hv23, h⟩ := fw_bind h
                  refine fw_callV1 (pc := 172) C (rest := [_, _, _]) (c_Hall_nobodies ho.2.2.2.1.2 hv23) (cwV 0 C.2.2.2.2.1 gX8_person_X3_nobodies rfl rfl rfl hd_Hall_nobodies ⟨Nat.le_of_ble_eq_true rfl, Nat.le_of_ble_eq_true rfl⟩) ho.2.2.2.1.2.1 rfl rfl ⟨Nat.zero_le _, Nat.zero_le _⟩ rfl (Nat.le_of_ble_eq_true rfl) dX8_person_172 ?_
                  obtain ⟨v24, hv24, h⟩ := fw_bind h
                  refine fw_callV1 (pc := 175) C (rest := []) (c_Law_yielded ho.2.2.2.2.2.2.1.2.2.2.1.2 hv24) (cwV 3 C.2.2.2.2.1 gX8_person_X4_yielded rfl rfl rfl hd_Law_yielded ⟨Nat.le_of_ble_eq_true rfl, Nat.le_of_ble_eq_true rfl⟩) ho.2.2.2.2.2.2.1.2.2.2.1.2.1 rfl rfl ⟨Nat.zero_le _, Nat.zero_le _⟩ rfl (Nat.le_of_ble_eq_true rfl) dX8_person_175 ?_
                  exact fw_sub [] rfl (c_Door_person_b178 C ho h)
                · have h := fw_ift h c20
                  refine fw_iconst (pc := 144) C (v := 0) dX8_person_144 fk_iconst_0 ?_
                  refine fw_goto (pc := 145) C (tgt := 178) dX8_person_145 (by decide) ?_
                  exact fw_sub [] rfl (c_Door_person_b178 C ho h)
              · refine fw_tsout (pc := 22) C dX8_person_22 (fun z z1 z2 e => ?_) (tgt := 179) (by decide) ?_
                · subst e
                  have ec4 := lv_neT c4 (a := 0) (by decide)
                  have ec6 := lv_neT c6 (a := 1) (by decide)
                  have ec8 := lv_neT c8 (a := 2) (by decide)
                  have ec10 := lv_neT c10 (a := 3) (by decide)
                  have ec12 := lv_neT c12 (a := 4) (by decide)
                  have ec19 := lv_neT c19 (a := 5) (by decide)
                  omega
                · refine fw_ldc (pc := 179) C (v := -1000001) kX8_person_70 dX8_person_179 ?_
                  exact fw_iret (pc := 181) C (fw_p1 h) (fw_p2 h) dX8_person_181
  · have h := fw_ift h c2
    refine fw_ldc (pc := 8) C (v := -1000001) kX8_person_70 dX8_person_8 ?_
    exact fw_iret (pc := 10) C (fw_p1 h) (fw_p2 h) dX8_person_10
theorem c_Door_person {l : Launch} {D : va_G} {cI cZ cH cR : ClassId} {N : Nat} {ad : Nat → Nat} {EE : fw_M → Nat → va_E} {o : Nat} {M : fw_M} {a0 : Int32} {a1 : Int32} {z : (Int32 × fw_M)} (ho : o_Door EE ad N cI cZ cH cR o) (h : P_Door_person o M a0 a1 = some z) : fw_Met l yX8_person wsX8_person rm_Door_person D vwCl (fw_tys cI cZ cH cR) N ad fw_nw0 EE [.ref (ad o), .int a0, .int a1] M (some (.int z.1)) z.2 := by
  unfold P_Door_person at h
  exact fw_intro (cc := cX8_person) (maxL := 4) (ret := some .int) (own := RX8) (by decide) rfl rfl (Nat.le_of_ble_eq_true rfl) (fun p e s m args below meth c C => fw_sub [0, 1, 2] rfl (c_Door_person_b0 C ho h))
abbrev rm_Door_door : Room := { frames := 3, cells := 0, slots := 0, locals := 66 }
theorem hd_Door_door : yX8_door.cls = RX8 ∧ yX8_door.cls ≠ "java/lang/invoke/MethodHandle" ∧ yX8_door.cls ≠ "java/lang/invoke/VarHandle" ∧ (parseMethodDescriptor yX8_door.desc).map (fun d => d.parameters.length) = some 2 := by decide +kernel
theorem qX8_door_25 : fw_G wsX8_door RX8 25 RX8 TX8 9 2 := ⟨by decide +kernel, by decide +kernel, by decide⟩
theorem qX8_door_43 : fw_G wsX8_door RX8 43 RX8 TX8 9 5 := ⟨by decide +kernel, by decide +kernel, by decide⟩
def P_Door_door_b78 (o : Nat) (M : fw_M) (t0 : Int32) : Option (Int32 × fw_M) := some (t0, M)
def P_Door_door_b23 (o : Nat) (M : fw_M) (x1 : Int32) (x2 : Int32) (t1 : Int32) : Option (Int32 × fw_M) := (P_Door_refusal o M t1).bind fun v1 => (if v1 = (0 : Int32) then (P_Hall_waitingAt (o + 4) M x1).bind fun v3 => (if x2 = (0 : Int32) then P_Door_door_b78 o M v3 else (P_Fore_lawOf (o + 157) (o + 4) M).bind fun q5 => (P_Hall_nobodies (o + 4) q5).bind fun v6 => (P_Law_first ((o + 157) + 7) q5 v3 v6).bind fun v7 => (P_Door_orNone q5 v7).bind fun v8 => P_Door_door_b78 o q5 v8) else some (v1, M))
def P_Door_door_b22 (o : Nat) (M : fw_M) (x1 : Int32) (x2 : Int32) : Option (Int32 × fw_M) := P_Door_door_b23 o M x1 x2 (0 : Int32)
def P_Door_door_b0 (o : Nat) (M : fw_M) (x1 : Int32) (x2 : Int32) : Option (Int32 × fw_M) := (P_Door_isDoor o M x1).bind fun v1 => (if v1 = (0 : Int32) then P_Door_door_b22 o M x1 x2 else (P_Door_within M x2 (0 : Int32) (1 : Int32)).bind fun v3 => (if v3 = (0 : Int32) then P_Door_door_b22 o M x1 x2 else P_Door_door_b23 o M x1 x2 (1 : Int32)))
def P_Door_door (o : Nat) (M : fw_M) (a0 : Int32) (a1 : Int32) : Option (Int32 × fw_M) := P_Door_door_b0 o M a0 a1
set_option maxRecDepth 100000 in
theorem c_Door_door_b78 {p : Program} {l : Launch} {e : Env} {s : State} {m : MethodId} {args : Array Value} {below : List Frame} {meth : Method} {c : Code} {D : va_G} {cI cZ cH cR : ClassId} {N : Nat} {ad : Nat → Nat} {EE : fw_M → Nat → va_E} {o : Nat} {M : fw_M} {t0 : Int32} {z : (Int32 × fw_M)} (C : fw_C p s m args meth c cX8_door RX8 wsX8_door 5 (some .int) D vwCl (fw_tys cI cZ cH cR) N ad fw_nw0) (ho : o_Door EE ad N cI cZ cH cR o) (h : P_Door_door_b78 o M t0 = some z) : fw_J p l e (headSpec wsX8_door rm_Door_door).room s m args below meth c D vwCl N ad EE 5 0 0 (fw_E below args s D vwCl N ad EE (some (.int z.1)) z.2) M [] 78 [.int t0] := by
  unfold P_Door_door_b78 at h
  exact fw_iret (pc := 78) C (fw_p1 h) (fw_p2 h) dX8_door_78
set_option maxRecDepth 100000 in
theorem c_Door_door_b23 {p : Program} {l : Launch} {e : Env} {s : State} {m : MethodId} {args : Array Value} {below : List Frame} {meth : Method} {c : Code} {D : va_G} {cI cZ cH cR : ClassId} {N : Nat} {ad : Nat → Nat} {EE : fw_M → Nat → va_E} {o : Nat} {M : fw_M} {x1 : Int32} {x2 : Int32} {t1 : Int32} {z : (Int32 × fw_M)} (C : fw_C p s m args meth c cX8_door RX8 wsX8_door 5 (some .int) D vwCl (fw_tys cI cZ cH cR) N ad fw_nw0) (ho : o_Door EE ad N cI cZ cH cR o) (h : P_Door_door_b23 o M x1 x2 t1 = some z) : fw_J p l e (headSpec wsX8_door rm_Door_door).room s m args below meth c D vwCl N ad EE 5 0 0 (fw_E below args s D vwCl N ad EE (some (.int z.1)) z.2) M [(0, .ref (ad o)), (1, .int x1), (2, .int x2)] 23 [.int t1, .ref (ad o)] := by
  unfold P_Door_door_b23 at h
  obtain ⟨v1, hv1, h⟩ := fw_bind h
  refine fw_callV1 (pc := 23) C (rest := []) (c_Door_refusal ho hv1) (cwV 1 C.2.2.2.2.1 gX8_door_X8_refusal rfl rfl rfl hd_Door_refusal ⟨Nat.le_of_ble_eq_true rfl, Nat.le_of_ble_eq_true rfl⟩) ho.1 rfl rfl ⟨Nat.zero_le _, Nat.zero_le _⟩ rfl (Nat.le_of_ble_eq_true rfl) dX8_door_23 ?_
  refine fw_istore_n (pc := 26) C (L2 := [(0, .ref _), (1, .int _), (2, .int _), (3, .int _)]) [1, 2, 3, 0] dX8_door_26 rfl (by decide) rfl ?_
  refine fw_iload_n (pc := 27) C 3 dX8_door_27 rfl rfl ?_
  refine fw_if_eq (pc := 28) C (tgt := 33) dX8_door_28 (by decide) (fun c2 => ?_) (fun c2 => ?_)
  · have h := fw_ift h c2
    refine fw_aload_n (pc := 33) C 0 dX8_door_33 rfl rfl ?_
    refine fw_getr (pc := 34) C ho.2.2.2.1.1 rfl qX8_door_25 dX8_door_34 ?_
    refine fw_iload_n (pc := 37) C 1 dX8_door_37 rfl rfl ?_
    obtain ⟨v3, hv3, h⟩ := fw_bind h
    refine fw_callV1 (pc := 38) C (rest := []) (c_Hall_waitingAt ho.2.2.2.1.2 hv3) (cwV 1 C.2.2.2.2.1 gX8_door_X3_waitingAt rfl rfl rfl hd_Hall_waitingAt ⟨Nat.le_of_ble_eq_true rfl, Nat.le_of_ble_eq_true rfl⟩) ho.2.2.2.1.2.1 rfl rfl ⟨Nat.zero_le _, Nat.zero_le _⟩ rfl (Nat.le_of_ble_eq_true rfl) dX8_door_38 ?_
    refine fw_istore (pc := 41) C (L2 := [(0, .ref _), (1, .int _), (2, .int _), (3, .int _), (4, .int _)]) [1, 2, 3, 4, 0] dX8_door_41 (by decide) rfl ?_
    refine fw_iload_n (pc := 43) C 2 dX8_door_43 rfl rfl ?_
    refine fw_if_ne (pc := 44) C (tgt := 52) dX8_door_44 (by decide) (fun c4 => ?_) (fun c4 => ?_)
    · have h := fw_iff h c4
      refine fw_aload_n (pc := 52) C 0 dX8_door_52 rfl rfl ?_
      refine fw_getr (pc := 53) C ho.2.2.2.2.2.2.1.1 rfl qX8_door_43 dX8_door_53 ?_
      refine fw_aload_n (pc := 56) C 0 dX8_door_56 rfl rfl ?_
      refine fw_getr (pc := 57) C ho.2.2.2.1.1 rfl qX8_door_25 dX8_door_57 ?_
      obtain ⟨q5, hq5, h⟩ := fw_bind h
      refine fw_callV1 (pc := 60) C (rest := []) (c_Fore_lawOf ho.2.2.2.2.2.2.1.2 ho.2.2.2.1.2 hq5) (cwV 1 C.2.2.2.2.1 gX8_door_X2_lawOf rfl rfl rfl hd_Fore_lawOf ⟨Nat.le_of_ble_eq_true rfl, Nat.le_of_ble_eq_true rfl⟩) ho.2.2.2.2.2.2.1.2.1 rfl rfl ⟨Nat.zero_le _, Nat.zero_le _⟩ rfl (Nat.le_of_ble_eq_true rfl) dX8_door_60 ?_
      refine fw_iload (pc := 63) C 4 dX8_door_63 rfl ?_
      refine fw_aload_n (pc := 65) C 0 dX8_door_65 rfl rfl ?_
      refine fw_getr (pc := 66) C ho.2.2.2.1.1 rfl qX8_door_25 dX8_door_66 ?_
      obtain ⟨v6, hv6, h⟩ := fw_bind h
      refine fw_callV1 (pc := 69) C (rest := [_, _]) (c_Hall_nobodies ho.2.2.2.1.2 hv6) (cwV 0 C.2.2.2.2.1 gX8_door_X3_nobodies rfl rfl rfl hd_Hall_nobodies ⟨Nat.le_of_ble_eq_true rfl, Nat.le_of_ble_eq_true rfl⟩) ho.2.2.2.1.2.1 rfl rfl ⟨Nat.zero_le _, Nat.zero_le _⟩ rfl (Nat.le_of_ble_eq_true rfl) dX8_door_69 ?_
      obtain ⟨v7, hv7, h⟩ := fw_bind h
      refine fw_callV1 (pc := 72) C (rest := []) (c_Law_first ho.2.2.2.2.2.2.1.2.2.2.1.2 hv7) (cwV 2 C.2.2.2.2.1 gX8_door_X4_first rfl rfl rfl hd_Law_first ⟨Nat.le_of_ble_eq_true rfl, Nat.le_of_ble_eq_true rfl⟩) ho.2.2.2.2.2.2.1.2.2.2.1.2.1 rfl rfl ⟨Nat.zero_le _, Nat.zero_le _⟩ rfl (Nat.le_of_ble_eq_true rfl) dX8_door_72 ?_
      obtain ⟨v8, hv8, h⟩ := fw_bind h
      refine fw_callS1 (pc := 75) C (rest := []) (c_Door_orNone  hv8) (va_cwS 1 C.2.2.2.2.1 gX8_door_X8_orNone rfl rfl rfl hd_Door_orNone.2 ⟨Nat.le_of_ble_eq_true rfl, Nat.le_of_ble_eq_true rfl⟩) rfl ⟨Nat.zero_le _, Nat.zero_le _⟩ rfl (Nat.le_of_ble_eq_true rfl) dX8_door_75 ?_
      exact fw_sub [] rfl (c_Door_door_b78 C ho h)
    · have h := fw_ift h c4
      refine fw_iload (pc := 47) C 4 dX8_door_47 rfl ?_
      refine fw_goto (pc := 49) C (tgt := 78) dX8_door_49 (by decide) ?_
      exact fw_sub [] rfl (c_Door_door_b78 C ho h)
  · have h := fw_iff h c2
    refine fw_iload_n (pc := 31) C 3 dX8_door_31 rfl rfl ?_
    exact fw_iret (pc := 32) C (fw_p1 h) (fw_p2 h) dX8_door_32
set_option maxRecDepth 100000 in
theorem c_Door_door_b22 {p : Program} {l : Launch} {e : Env} {s : State} {m : MethodId} {args : Array Value} {below : List Frame} {meth : Method} {c : Code} {D : va_G} {cI cZ cH cR : ClassId} {N : Nat} {ad : Nat → Nat} {EE : fw_M → Nat → va_E} {o : Nat} {M : fw_M} {x1 : Int32} {x2 : Int32} {z : (Int32 × fw_M)} (C : fw_C p s m args meth c cX8_door RX8 wsX8_door 5 (some .int) D vwCl (fw_tys cI cZ cH cR) N ad fw_nw0) (ho : o_Door EE ad N cI cZ cH cR o) (h : P_Door_door_b22 o M x1 x2 = some z) : fw_J p l e (headSpec wsX8_door rm_Door_door).room s m args below meth c D vwCl N ad EE 5 0 0 (fw_E below args s D vwCl N ad EE (some (.int z.1)) z.2) M [(0, .ref (ad o)), (1, .int x1), (2, .int x2)] 22 [.ref (ad o)] := by
  unfold P_Door_door_b22 at h
  refine fw_iconst (pc := 22) C (v := 0) dX8_door_22 fk_iconst_0 ?_
  exact (c_Door_door_b23 C ho h)
set_option maxRecDepth 100000 in
theorem c_Door_door_b0 {p : Program} {l : Launch} {e : Env} {s : State} {m : MethodId} {args : Array Value} {below : List Frame} {meth : Method} {c : Code} {D : va_G} {cI cZ cH cR : ClassId} {N : Nat} {ad : Nat → Nat} {EE : fw_M → Nat → va_E} {o : Nat} {M : fw_M} {x1 : Int32} {x2 : Int32} {z : (Int32 × fw_M)} (C : fw_C p s m args meth c cX8_door RX8 wsX8_door 5 (some .int) D vwCl (fw_tys cI cZ cH cR) N ad fw_nw0) (ho : o_Door EE ad N cI cZ cH cR o) (h : P_Door_door_b0 o M x1 x2 = some z) : fw_J p l e (headSpec wsX8_door rm_Door_door).room s m args below meth c D vwCl N ad EE 5 0 0 (fw_E below args s D vwCl N ad EE (some (.int z.1)) z.2) M [(0, .ref (ad o)), (1, .int x1), (2, .int x2)] 0 [] := by
  unfold P_Door_door_b0 at h
  refine fw_aload_n (pc := 0) C 0 dX8_door_0 rfl rfl ?_
  refine fw_aload_n (pc := 1) C 0 dX8_door_1 rfl rfl ?_
  refine fw_iload_n (pc := 2) C 1 dX8_door_2 rfl rfl ?_
  obtain ⟨v1, hv1, h⟩ := fw_bind h
  refine fw_callV1 (pc := 3) C (rest := [_]) (c_Door_isDoor ho hv1) (cwV 1 C.2.2.2.2.1 gX8_door_X8_isDoor rfl rfl rfl hd_Door_isDoor ⟨Nat.le_of_ble_eq_true rfl, Nat.le_of_ble_eq_true rfl⟩) ho.1 rfl rfl ⟨Nat.zero_le _, Nat.zero_le _⟩ rfl (Nat.le_of_ble_eq_true rfl) dX8_door_3 ?_
  refine fw_if_eq (pc := 6) C (tgt := 22) dX8_door_6 (by decide) (fun c2 => ?_) (fun c2 => ?_)
  · have h := fw_ift h c2
    exact (c_Door_door_b22 C ho h)
  · have h := fw_iff h c2
    refine fw_iload_n (pc := 9) C 2 dX8_door_9 rfl rfl ?_
    refine fw_iconst (pc := 10) C (v := 0) dX8_door_10 fk_iconst_0 ?_
    refine fw_iconst (pc := 11) C (v := 1) dX8_door_11 fk_iconst_1 ?_
    obtain ⟨v3, hv3, h⟩ := fw_bind h
    refine fw_callS1 (pc := 12) C (rest := [_]) (c_Door_within  hv3) (va_cwS 3 C.2.2.2.2.1 gX8_door_X8_within rfl rfl rfl hd_Door_within.2 ⟨Nat.le_of_ble_eq_true rfl, Nat.le_of_ble_eq_true rfl⟩) rfl ⟨Nat.zero_le _, Nat.zero_le _⟩ rfl (Nat.le_of_ble_eq_true rfl) dX8_door_12 ?_
    refine fw_if_eq (pc := 15) C (tgt := 22) dX8_door_15 (by decide) (fun c4 => ?_) (fun c4 => ?_)
    · have h := fw_ift h c4
      exact (c_Door_door_b22 C ho h)
    · have h := fw_iff h c4
      refine fw_iconst (pc := 18) C (v := 1) dX8_door_18 fk_iconst_1 ?_
      refine fw_goto (pc := 19) C (tgt := 23) dX8_door_19 (by decide) ?_
      exact (c_Door_door_b23 C ho h)
theorem c_Door_door {l : Launch} {D : va_G} {cI cZ cH cR : ClassId} {N : Nat} {ad : Nat → Nat} {EE : fw_M → Nat → va_E} {o : Nat} {M : fw_M} {a0 : Int32} {a1 : Int32} {z : (Int32 × fw_M)} (ho : o_Door EE ad N cI cZ cH cR o) (h : P_Door_door o M a0 a1 = some z) : fw_Met l yX8_door wsX8_door rm_Door_door D vwCl (fw_tys cI cZ cH cR) N ad fw_nw0 EE [.ref (ad o), .int a0, .int a1] M (some (.int z.1)) z.2 := by
  unfold P_Door_door at h
  exact fw_intro (cc := cX8_door) (maxL := 5) (ret := some .int) (own := RX8) (by decide) rfl rfl (Nat.le_of_ble_eq_true rfl) (fun p e s m args below meth c C => fw_sub [0, 1, 2] rfl (c_Door_door_b0 C ho h))
abbrev rm_Door_ahead : Room := { frames := 6, cells := 0, slots := 0, locals := 137 }
theorem hd_Door_ahead : yX8_ahead.cls = RX8 ∧ yX8_ahead.cls ≠ "java/lang/invoke/MethodHandle" ∧ yX8_ahead.cls ≠ "java/lang/invoke/VarHandle" ∧ (parseMethodDescriptor yX8_ahead.desc).map (fun d => d.parameters.length) = some 2 := by decide +kernel
theorem qX8_ahead_43 : fw_G wsX8_ahead RX8 43 RX8 TX8 9 5 := ⟨by decide +kernel, by decide +kernel, by decide⟩
theorem qX8_ahead_25 : fw_G wsX8_ahead RX8 25 RX8 TX8 9 2 := ⟨by decide +kernel, by decide +kernel, by decide⟩
theorem kX8_ahead_70 : Cond.constant RX8 70 (-1000001) ∈ wsX8_ahead := by decide +kernel
def P_Door_ahead_b18 (o : Nat) (M : fw_M) : Option (Int32 × fw_M) := some ((-1000001 : Int32), M)
def P_Door_ahead_b48 (o : Nat) (M : fw_M) (t0 : Int32) : Option (Int32 × fw_M) := some (t0, M)
def P_Door_ahead_b47 (o : Nat) (M : fw_M) : Option (Int32 × fw_M) := P_Door_ahead_b48 o M (0 : Int32)
def P_Door_ahead_b0 (o : Nat) (M : fw_M) (x1 : Int32) (x2 : Int32) : Option (Int32 × fw_M) := (P_Door_isPerson o M x1).bind fun v1 => (if v1 = (0 : Int32) then P_Door_ahead_b18 o M else (P_Door_within M x2 (0 : Int32) (60 : Int32)).bind fun v3 => (if v3 = (0 : Int32) then P_Door_ahead_b18 o M else (P_Fore_whenThrough (o + 157) (o + 4) M x1).bind fun q5 => (if q5.1 < (0 : Int32) then P_Door_ahead_b47 o q5.2 else (if x2 < q5.1 then P_Door_ahead_b47 o q5.2 else P_Door_ahead_b48 o q5.2 (1 : Int32)))))
def P_Door_ahead (o : Nat) (M : fw_M) (a0 : Int32) (a1 : Int32) : Option (Int32 × fw_M) := P_Door_ahead_b0 o M a0 a1
set_option maxRecDepth 100000 in
theorem c_Door_ahead_b18 {p : Program} {l : Launch} {e : Env} {s : State} {m : MethodId} {args : Array Value} {below : List Frame} {meth : Method} {c : Code} {D : va_G} {cI cZ cH cR : ClassId} {N : Nat} {ad : Nat → Nat} {EE : fw_M → Nat → va_E} {o : Nat} {M : fw_M} {z : (Int32 × fw_M)} (C : fw_C p s m args meth c cX8_ahead RX8 wsX8_ahead 4 (some .int) D vwCl (fw_tys cI cZ cH cR) N ad fw_nw0) (ho : o_Door EE ad N cI cZ cH cR o) (h : P_Door_ahead_b18 o M = some z) : fw_J p l e (headSpec wsX8_ahead rm_Door_ahead).room s m args below meth c D vwCl N ad EE 4 0 0 (fw_E below args s D vwCl N ad EE (some (.int z.1)) z.2) M [] 18 [] := by
  unfold P_Door_ahead_b18 at h
  refine fw_ldc (pc := 18) C (v := -1000001) kX8_ahead_70 dX8_ahead_18 ?_
  exact fw_iret (pc := 20) C (fw_p1 h) (fw_p2 h) dX8_ahead_20
set_option maxRecDepth 100000 in
theorem c_Door_ahead_b48 {p : Program} {l : Launch} {e : Env} {s : State} {m : MethodId} {args : Array Value} {below : List Frame} {meth : Method} {c : Code} {D : va_G} {cI cZ cH cR : ClassId} {N : Nat} {ad : Nat → Nat} {EE : fw_M → Nat → va_E} {o : Nat} {M : fw_M} {t0 : Int32} {z : (Int32 × fw_M)} (C : fw_C p s m args meth c cX8_ahead RX8 wsX8_ahead 4 (some .int) D vwCl (fw_tys cI cZ cH cR) N ad fw_nw0) (ho : o_Door EE ad N cI cZ cH cR o) (h : P_Door_ahead_b48 o M t0 = some z) : fw_J p l e (headSpec wsX8_ahead rm_Door_ahead).room s m args below meth c D vwCl N ad EE 4 0 0 (fw_E below args s D vwCl N ad EE (some (.int z.1)) z.2) M [] 48 [.int t0] := by
  unfold P_Door_ahead_b48 at h
  exact fw_iret (pc := 48) C (fw_p1 h) (fw_p2 h) dX8_ahead_48
set_option maxRecDepth 100000 in
theorem c_Door_ahead_b47 {p : Program} {l : Launch} {e : Env} {s : State} {m : MethodId} {args : Array Value} {below : List Frame} {meth : Method} {c : Code} {D : va_G} {cI cZ cH cR : ClassId} {N : Nat} {ad : Nat → Nat} {EE : fw_M → Nat → va_E} {o : Nat} {M : fw_M} {z : (Int32 × fw_M)} (C : fw_C p s m args meth c cX8_ahead RX8 wsX8_ahead 4 (some .int) D vwCl (fw_tys cI cZ cH cR) N ad fw_nw0) (ho : o_Door EE ad N cI cZ cH cR o) (h : P_Door_ahead_b47 o M = some z) : fw_J p l e (headSpec wsX8_ahead rm_Door_ahead).room s m args below meth c D vwCl N ad EE 4 0 0 (fw_E below args s D vwCl N ad EE (some (.int z.1)) z.2) M [] 47 [] := by
  unfold P_Door_ahead_b47 at h
  refine fw_iconst (pc := 47) C (v := 0) dX8_ahead_47 fk_iconst_0 ?_
  exact (c_Door_ahead_b48 C ho h)
set_option maxRecDepth 100000 in
theorem c_Door_ahead_b0 {p : Program} {l : Launch} {e : Env} {s : State} {m : MethodId} {args : Array Value} {below : List Frame} {meth : Method} {c : Code} {D : va_G} {cI cZ cH cR : ClassId} {N : Nat} {ad : Nat → Nat} {EE : fw_M → Nat → va_E} {o : Nat} {M : fw_M} {x1 : Int32} {x2 : Int32} {z : (Int32 × fw_M)} (C : fw_C p s m args meth c cX8_ahead RX8 wsX8_ahead 4 (some .int) D vwCl (fw_tys cI cZ cH cR) N ad fw_nw0) (ho : o_Door EE ad N cI cZ cH cR o) (h : P_Door_ahead_b0 o M x1 x2 = some z) : fw_J p l e (headSpec wsX8_ahead rm_Door_ahead).room s m args below meth c D vwCl N ad EE 4 0 0 (fw_E below args s D vwCl N ad EE (some (.int z.1)) z.2) M [(0, .ref (ad o)), (1, .int x1), (2, .int x2)] 0 [] := by
  unfold P_Door_ahead_b0 at h
  refine fw_aload_n (pc := 0) C 0 dX8_ahead_0 rfl rfl ?_
  refine fw_iload_n (pc := 1) C 1 dX8_ahead_1 rfl rfl ?_
  obtain ⟨v1, hv1, h⟩ := fw_bind h
  refine fw_callV1 (pc := 2) C (rest := []) (c_Door_isPerson ho hv1) (cwV 1 C.2.2.2.2.1 gX8_ahead_X8_isPerson rfl rfl rfl hd_Door_isPerson ⟨Nat.le_of_ble_eq_true rfl, Nat.le_of_ble_eq_true rfl⟩) ho.1 rfl rfl ⟨Nat.zero_le _, Nat.zero_le _⟩ rfl (Nat.le_of_ble_eq_true rfl) dX8_ahead_2 ?_
  refine fw_if_eq (pc := 5) C (tgt := 18) dX8_ahead_5 (by decide) (fun c2 => ?_) (fun c2 => ?_)
  · have h := fw_ift h c2
    exact fw_sub [] rfl (c_Door_ahead_b18 C ho h)
  · have h := fw_iff h c2
    refine fw_iload_n (pc := 8) C 2 dX8_ahead_8 rfl rfl ?_
    refine fw_iconst (pc := 9) C (v := 0) dX8_ahead_9 fk_iconst_0 ?_
    refine fw_bipush (pc := 10) C (v := 60) dX8_ahead_10 fk_bipush_60 ?_
    obtain ⟨v3, hv3, h⟩ := fw_bind h
    refine fw_callS1 (pc := 12) C (rest := []) (c_Door_within  hv3) (va_cwS 3 C.2.2.2.2.1 gX8_ahead_X8_within rfl rfl rfl hd_Door_within.2 ⟨Nat.le_of_ble_eq_true rfl, Nat.le_of_ble_eq_true rfl⟩) rfl ⟨Nat.zero_le _, Nat.zero_le _⟩ rfl (Nat.le_of_ble_eq_true rfl) dX8_ahead_12 ?_
    refine fw_if_ne (pc := 15) C (tgt := 21) dX8_ahead_15 (by decide) (fun c4 => ?_) (fun c4 => ?_)
    · have h := fw_iff h c4
      refine fw_aload_n (pc := 21) C 0 dX8_ahead_21 rfl rfl ?_
      refine fw_getr (pc := 22) C ho.2.2.2.2.2.2.1.1 rfl qX8_ahead_43 dX8_ahead_22 ?_
      refine fw_aload_n (pc := 25) C 0 dX8_ahead_25 rfl rfl ?_
      refine fw_getr (pc := 26) C ho.2.2.2.1.1 rfl qX8_ahead_25 dX8_ahead_26 ?_
      refine fw_iload_n (pc := 29) C 1 dX8_ahead_29 rfl rfl ?_
      obtain ⟨q5, hq5, h⟩ := fw_bind h
      refine fw_callV1 (pc := 30) C (rest := []) (c_Fore_whenThrough ho.2.2.2.2.2.2.1.2 ho.2.2.2.1.2 hq5) (cwV 2 C.2.2.2.2.1 gX8_ahead_X2_whenThrough rfl rfl rfl hd_Fore_whenThrough ⟨Nat.le_of_ble_eq_true rfl, Nat.le_of_ble_eq_true rfl⟩) ho.2.2.2.2.2.2.1.2.1 rfl rfl ⟨Nat.zero_le _, Nat.zero_le _⟩ rfl (Nat.le_of_ble_eq_true rfl) dX8_ahead_30 ?_
      refine fw_istore_n (pc := 33) C (L2 := [(0, .ref _), (1, .int _), (2, .int _), (3, .int _)]) [1, 2, 3, 0] dX8_ahead_33 rfl (by decide) rfl ?_
      refine fw_iload_n (pc := 34) C 3 dX8_ahead_34 rfl rfl ?_
      refine fw_if_lt (pc := 35) C (tgt := 47) dX8_ahead_35 (by decide) (fun c6 => ?_) (fun c6 => ?_)
      · have h := fw_ift h c6
        exact fw_sub [] rfl (c_Door_ahead_b47 C ho h)
      · have h := fw_iff h c6
        refine fw_iload_n (pc := 38) C 3 dX8_ahead_38 rfl rfl ?_
        refine fw_iload_n (pc := 39) C 2 dX8_ahead_39 rfl rfl ?_
        refine fw_icmp_gt (pc := 40) C (tgt := 47) dX8_ahead_40 (by decide) (fun c7 => ?_) (fun c7 => ?_)
        · have h := fw_ift h c7
          exact fw_sub [] rfl (c_Door_ahead_b47 C ho h)
        · have h := fw_iff h c7
          refine fw_iconst (pc := 43) C (v := 1) dX8_ahead_43 fk_iconst_1 ?_
          refine fw_goto (pc := 44) C (tgt := 48) dX8_ahead_44 (by decide) ?_
          exact fw_sub [] rfl (c_Door_ahead_b48 C ho h)
    · have h := fw_ift h c4
      exact fw_sub [] rfl (c_Door_ahead_b18 C ho h)
theorem c_Door_ahead {l : Launch} {D : va_G} {cI cZ cH cR : ClassId} {N : Nat} {ad : Nat → Nat} {EE : fw_M → Nat → va_E} {o : Nat} {M : fw_M} {a0 : Int32} {a1 : Int32} {z : (Int32 × fw_M)} (ho : o_Door EE ad N cI cZ cH cR o) (h : P_Door_ahead o M a0 a1 = some z) : fw_Met l yX8_ahead wsX8_ahead rm_Door_ahead D vwCl (fw_tys cI cZ cH cR) N ad fw_nw0 EE [.ref (ad o), .int a0, .int a1] M (some (.int z.1)) z.2 := by
  unfold P_Door_ahead at h
  exact fw_intro (cc := cX8_ahead) (maxL := 4) (ret := some .int) (own := RX8) (by decide) rfl rfl (Nat.le_of_ble_eq_true rfl) (fun p e s m args below meth c C => fw_sub [0, 1, 2] rfl (c_Door_ahead_b0 C ho h))
abbrev rm_Door_waitAhead : Room := { frames := 5, cells := 0, slots := 0, locals := 114 }
theorem hd_Door_waitAhead : yX8_waitAhead.cls = RX8 ∧ yX8_waitAhead.cls ≠ "java/lang/invoke/MethodHandle" ∧ yX8_waitAhead.cls ≠ "java/lang/invoke/VarHandle" ∧ (parseMethodDescriptor yX8_waitAhead.desc).map (fun d => d.parameters.length) = some 2 := by decide +kernel
theorem qX8_waitAhead_43 : fw_G wsX8_waitAhead RX8 43 RX8 TX8 9 5 := ⟨by decide +kernel, by decide +kernel, by decide⟩
theorem qX8_waitAhead_25 : fw_G wsX8_waitAhead RX8 25 RX8 TX8 9 2 := ⟨by decide +kernel, by decide +kernel, by decide⟩
theorem qX8_waitAhead_222 : fw_G wsX8_waitAhead RX8 222 RX5 TX5 4 2 := ⟨by decide +kernel, by decide +kernel, by decide⟩
theorem kmX8_waitAhead_227 : Cond.methodLink RX8 227 Lib.Math.min.name ∈ wsX8_waitAhead ∧ Cond.static Lib.Math.min.name ∈ wsX8_waitAhead ∧ Cond.initialized "java/lang/Math" ∈ wsX8_waitAhead ∧ Cond.code Lib.Math.min.name Lib.Math.min.code 2 (some .int) ∈ wsX8_waitAhead := by decide +kernel
def P_Door_waitAhead_b24 (o : Nat) (M : fw_M) (x1 : Int32) (x2 : Int32) (t1 : Int32) : Option (Int32 × fw_M) := (P_Door_refusal o M t1).bind fun v1 => (if v1 = (0 : Int32) then (P_Fore_lineAt (o + 157) (o + 4) M x1).bind fun q3 => (P_Hall_waitingAt (o + 4) q3 x1).bind fun v4 => (P_J6_bitCount v4).bind fun v5 => some ((v5 - (if (q3 ((o + 157) + 9) 2) < x2 then (q3 ((o + 157) + 9) 2) else x2)), q3) else some (v1, M))
def P_Door_waitAhead_b23 (o : Nat) (M : fw_M) (x1 : Int32) (x2 : Int32) : Option (Int32 × fw_M) := P_Door_waitAhead_b24 o M x1 x2 (0 : Int32)
def P_Door_waitAhead_b0 (o : Nat) (M : fw_M) (x1 : Int32) (x2 : Int32) : Option (Int32 × fw_M) := (P_Door_isDoor o M x1).bind fun v1 => (if v1 = (0 : Int32) then P_Door_waitAhead_b23 o M x1 x2 else (P_Door_within M x2 (0 : Int32) (60 : Int32)).bind fun v3 => (if v3 = (0 : Int32) then P_Door_waitAhead_b23 o M x1 x2 else P_Door_waitAhead_b24 o M x1 x2 (1 : Int32)))
def P_Door_waitAhead (o : Nat) (M : fw_M) (a0 : Int32) (a1 : Int32) : Option (Int32 × fw_M) := P_Door_waitAhead_b0 o M a0 a1
set_option maxRecDepth 100000 in
theorem c_Door_waitAhead_b24 {p : Program} {l : Launch} {e : Env} {s : State} {m : MethodId} {args : Array Value} {below : List Frame} {meth : Method} {c : Code} {D : va_G} {cI cZ cH cR : ClassId} {N : Nat} {ad : Nat → Nat} {EE : fw_M → Nat → va_E} {o : Nat} {M : fw_M} {x1 : Int32} {x2 : Int32} {t1 : Int32} {z : (Int32 × fw_M)} (C : fw_C p s m args meth c cX8_waitAhead RX8 wsX8_waitAhead 5 (some .int) D vwCl (fw_tys cI cZ cH cR) N ad fw_nw0) (ho : o_Door EE ad N cI cZ cH cR o) (h : P_Door_waitAhead_b24 o M x1 x2 t1 = some z) : fw_J p l e (headSpec wsX8_waitAhead rm_Door_waitAhead).room s m args below meth c D vwCl N ad EE 5 0 0 (fw_E below args s D vwCl N ad EE (some (.int z.1)) z.2) M [(0, .ref (ad o)), (1, .int x1), (2, .int x2)] 24 [.int t1, .ref (ad o)] := by
  unfold P_Door_waitAhead_b24 at h
  obtain ⟨v1, hv1, h⟩ := fw_bind h
  refine fw_callV1 (pc := 24) C (rest := []) (c_Door_refusal ho hv1) (cwV 1 C.2.2.2.2.1 gX8_waitAhead_X8_refusal rfl rfl rfl hd_Door_refusal ⟨Nat.le_of_ble_eq_true rfl, Nat.le_of_ble_eq_true rfl⟩) ho.1 rfl rfl ⟨Nat.zero_le _, Nat.zero_le _⟩ rfl (Nat.le_of_ble_eq_true rfl) dX8_waitAhead_24 ?_
  refine fw_istore_n (pc := 27) C (L2 := [(0, .ref _), (1, .int _), (2, .int _), (3, .int _)]) [1, 2, 3, 0] dX8_waitAhead_27 rfl (by decide) rfl ?_
  refine fw_iload_n (pc := 28) C 3 dX8_waitAhead_28 rfl rfl ?_
  refine fw_if_eq (pc := 29) C (tgt := 34) dX8_waitAhead_29 (by decide) (fun c2 => ?_) (fun c2 => ?_)
  · have h := fw_ift h c2
    refine fw_aload_n (pc := 34) C 0 dX8_waitAhead_34 rfl rfl ?_
    refine fw_getr (pc := 35) C ho.2.2.2.2.2.2.1.1 rfl qX8_waitAhead_43 dX8_waitAhead_35 ?_
    refine fw_aload_n (pc := 38) C 0 dX8_waitAhead_38 rfl rfl ?_
    refine fw_getr (pc := 39) C ho.2.2.2.1.1 rfl qX8_waitAhead_25 dX8_waitAhead_39 ?_
    refine fw_iload_n (pc := 42) C 1 dX8_waitAhead_42 rfl rfl ?_
    obtain ⟨q3, hq3, h⟩ := fw_bind h
    refine fw_callV1 (pc := 43) C (rest := []) (c_Fore_lineAt ho.2.2.2.2.2.2.1.2 ho.2.2.2.1.2 hq3) (cwV 2 C.2.2.2.2.1 gX8_waitAhead_X2_lineAt rfl rfl rfl hd_Fore_lineAt ⟨Nat.le_of_ble_eq_true rfl, Nat.le_of_ble_eq_true rfl⟩) ho.2.2.2.2.2.2.1.2.1 rfl rfl ⟨Nat.zero_le _, Nat.zero_le _⟩ rfl (Nat.le_of_ble_eq_true rfl) dX8_waitAhead_43 ?_
    refine fw_astore (pc := 46) C (L2 := [(0, .ref _), (1, .int _), (2, .int _), (3, .int _), (4, .ref _)]) [1, 2, 3, 4, 0] dX8_waitAhead_46 (by decide) rfl ?_
    refine fw_aload_n (pc := 48) C 0 dX8_waitAhead_48 rfl rfl ?_
    refine fw_getr (pc := 49) C ho.2.2.2.1.1 rfl qX8_waitAhead_25 dX8_waitAhead_49 ?_
    refine fw_iload_n (pc := 52) C 1 dX8_waitAhead_52 rfl rfl ?_
    obtain ⟨v4, hv4, h⟩ := fw_bind h
    refine fw_callV1 (pc := 53) C (rest := []) (c_Hall_waitingAt ho.2.2.2.1.2 hv4) (cwV 1 C.2.2.2.2.1 gX8_waitAhead_X3_waitingAt rfl rfl rfl hd_Hall_waitingAt ⟨Nat.le_of_ble_eq_true rfl, Nat.le_of_ble_eq_true rfl⟩) ho.2.2.2.1.2.1 rfl rfl ⟨Nat.zero_le _, Nat.zero_le _⟩ rfl (Nat.le_of_ble_eq_true rfl) dX8_waitAhead_53 ?_
    obtain ⟨v5, hv5, h⟩ := fw_bind h
    refine fw_callS1 (pc := 56) C (rest := []) (c_J6_bitCount  hv5) (va_cwS 1 C.2.2.2.2.1 gX8_waitAhead_J6_bitCount_0f7a4 rfl rfl rfl hd_J6_bitCount.2 ⟨Nat.le_of_ble_eq_true rfl, Nat.le_of_ble_eq_true rfl⟩) rfl ⟨Nat.zero_le _, Nat.zero_le _⟩ rfl (Nat.le_of_ble_eq_true rfl) dX8_waitAhead_56 ?_
    refine fw_iload_n (pc := 59) C 2 dX8_waitAhead_59 rfl rfl ?_
    refine fw_aload (pc := 60) C 4 dX8_waitAhead_60 rfl ?_
    refine fw_geti (pc := 62) C ho.2.2.2.2.2.2.1.2.2.2.2.2.2.2.2.1 rfl qX8_waitAhead_222 dX8_waitAhead_62 ?_
    refine fw_mmin (pc := 65) C kmX8_waitAhead_227 ⟨Nat.zero_le _, Nat.zero_le _⟩ (Nat.le_of_ble_eq_true rfl) (Nat.le_of_ble_eq_true rfl) dX8_waitAhead_65 ?_
    refine fw_isub (pc := 68) C dX8_waitAhead_68 ?_
    exact fw_iret (pc := 69) C (fw_p1 h) (fw_p2 h) dX8_waitAhead_69
  · have h := fw_iff h c2
    refine fw_iload_n (pc := 32) C 3 dX8_waitAhead_32 rfl rfl ?_
    exact fw_iret (pc := 33) C (fw_p1 h) (fw_p2 h) dX8_waitAhead_33
set_option maxRecDepth 100000 in
theorem c_Door_waitAhead_b23 {p : Program} {l : Launch} {e : Env} {s : State} {m : MethodId} {args : Array Value} {below : List Frame} {meth : Method} {c : Code} {D : va_G} {cI cZ cH cR : ClassId} {N : Nat} {ad : Nat → Nat} {EE : fw_M → Nat → va_E} {o : Nat} {M : fw_M} {x1 : Int32} {x2 : Int32} {z : (Int32 × fw_M)} (C : fw_C p s m args meth c cX8_waitAhead RX8 wsX8_waitAhead 5 (some .int) D vwCl (fw_tys cI cZ cH cR) N ad fw_nw0) (ho : o_Door EE ad N cI cZ cH cR o) (h : P_Door_waitAhead_b23 o M x1 x2 = some z) : fw_J p l e (headSpec wsX8_waitAhead rm_Door_waitAhead).room s m args below meth c D vwCl N ad EE 5 0 0 (fw_E below args s D vwCl N ad EE (some (.int z.1)) z.2) M [(0, .ref (ad o)), (1, .int x1), (2, .int x2)] 23 [.ref (ad o)] := by
  unfold P_Door_waitAhead_b23 at h
  refine fw_iconst (pc := 23) C (v := 0) dX8_waitAhead_23 fk_iconst_0 ?_
  exact (c_Door_waitAhead_b24 C ho h)
set_option maxRecDepth 100000 in
theorem c_Door_waitAhead_b0 {p : Program} {l : Launch} {e : Env} {s : State} {m : MethodId} {args : Array Value} {below : List Frame} {meth : Method} {c : Code} {D : va_G} {cI cZ cH cR : ClassId} {N : Nat} {ad : Nat → Nat} {EE : fw_M → Nat → va_E} {o : Nat} {M : fw_M} {x1 : Int32} {x2 : Int32} {z : (Int32 × fw_M)} (C : fw_C p s m args meth c cX8_waitAhead RX8 wsX8_waitAhead 5 (some .int) D vwCl (fw_tys cI cZ cH cR) N ad fw_nw0) (ho : o_Door EE ad N cI cZ cH cR o) (h : P_Door_waitAhead_b0 o M x1 x2 = some z) : fw_J p l e (headSpec wsX8_waitAhead rm_Door_waitAhead).room s m args below meth c D vwCl N ad EE 5 0 0 (fw_E below args s D vwCl N ad EE (some (.int z.1)) z.2) M [(0, .ref (ad o)), (1, .int x1), (2, .int x2)] 0 [] := by
  unfold P_Door_waitAhead_b0 at h
  refine fw_aload_n (pc := 0) C 0 dX8_waitAhead_0 rfl rfl ?_
  refine fw_aload_n (pc := 1) C 0 dX8_waitAhead_1 rfl rfl ?_
  refine fw_iload_n (pc := 2) C 1 dX8_waitAhead_2 rfl rfl ?_
  obtain ⟨v1, hv1, h⟩ := fw_bind h
  refine fw_callV1 (pc := 3) C (rest := [_]) (c_Door_isDoor ho hv1) (cwV 1 C.2.2.2.2.1 gX8_waitAhead_X8_isDoor rfl rfl rfl hd_Door_isDoor ⟨Nat.le_of_ble_eq_true rfl, Nat.le_of_ble_eq_true rfl⟩) ho.1 rfl rfl ⟨Nat.zero_le _, Nat.zero_le _⟩ rfl (Nat.le_of_ble_eq_true rfl) dX8_waitAhead_3 ?_
  refine fw_if_eq (pc := 6) C (tgt := 23) dX8_waitAhead_6 (by decide) (fun c2 => ?_) (fun c2 => ?_)
  · have h := fw_ift h c2
    exact (c_Door_waitAhead_b23 C ho h)
  · have h := fw_iff h c2
    refine fw_iload_n (pc := 9) C 2 dX8_waitAhead_9 rfl rfl ?_
    refine fw_iconst (pc := 10) C (v := 0) dX8_waitAhead_10 fk_iconst_0 ?_
    refine fw_bipush (pc := 11) C (v := 60) dX8_waitAhead_11 fk_bipush_60 ?_
    obtain ⟨v3, hv3, h⟩ := fw_bind h
    refine fw_callS1 (pc := 13) C (rest := [_]) (c_Door_within  hv3) (va_cwS 3 C.2.2.2.2.1 gX8_waitAhead_X8_within rfl rfl rfl hd_Door_within.2 ⟨Nat.le_of_ble_eq_true rfl, Nat.le_of_ble_eq_true rfl⟩) rfl ⟨Nat.zero_le _, Nat.zero_le _⟩ rfl (Nat.le_of_ble_eq_true rfl) dX8_waitAhead_13 ?_
    refine fw_if_eq (pc := 16) C (tgt := 23) dX8_waitAhead_16 (by decide) (fun c4 => ?_) (fun c4 => ?_)
    · have h := fw_ift h c4
      exact (c_Door_waitAhead_b23 C ho h)
    · have h := fw_iff h c4
      refine fw_iconst (pc := 19) C (v := 1) dX8_waitAhead_19 fk_iconst_1 ?_
      refine fw_goto (pc := 20) C (tgt := 24) dX8_waitAhead_20 (by decide) ?_
      exact (c_Door_waitAhead_b24 C ho h)
theorem c_Door_waitAhead {l : Launch} {D : va_G} {cI cZ cH cR : ClassId} {N : Nat} {ad : Nat → Nat} {EE : fw_M → Nat → va_E} {o : Nat} {M : fw_M} {a0 : Int32} {a1 : Int32} {z : (Int32 × fw_M)} (ho : o_Door EE ad N cI cZ cH cR o) (h : P_Door_waitAhead o M a0 a1 = some z) : fw_Met l yX8_waitAhead wsX8_waitAhead rm_Door_waitAhead D vwCl (fw_tys cI cZ cH cR) N ad fw_nw0 EE [.ref (ad o), .int a0, .int a1] M (some (.int z.1)) z.2 := by
  unfold P_Door_waitAhead at h
  exact fw_intro (cc := cX8_waitAhead) (maxL := 5) (ret := some .int) (own := RX8) (by decide) rfl rfl (Nat.le_of_ble_eq_true rfl) (fun p e s m args below meth c C => fw_sub [0, 1, 2] rfl (c_Door_waitAhead_b0 C ho h))
end
