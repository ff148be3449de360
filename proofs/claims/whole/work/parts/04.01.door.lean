noncomputable section
abbrev rm_Door_within : Room := { frames := 0, cells := 0, slots := 0, locals := 0 }
theorem hd_Door_within : yX8_within.cls = RX8 ∧ yX8_within.cls ≠ "java/lang/invoke/MethodHandle" ∧ yX8_within.cls ≠ "java/lang/invoke/VarHandle" ∧ (parseMethodDescriptor yX8_within.desc).map (fun d => d.parameters.length) = some 3 := by decide +kernel
def P_Door_within_b15 (M : fw_M) (t0 : Int32) : Option Int32 := (fw_zr t0).bind fun v1 => some v1
def P_Door_within_b14 (M : fw_M) : Option Int32 := P_Door_within_b15 M (0 : Int32)
def P_Door_within_b0 (M : fw_M) (x0 : Int32) (x1 : Int32) (x2 : Int32) : Option Int32 := (if x0 < x1 then P_Door_within_b14 M else (if x2 < x0 then P_Door_within_b14 M else P_Door_within_b15 M (1 : Int32)))
def P_Door_within (M : fw_M) (a0 : Int32) (a1 : Int32) (a2 : Int32) : Option Int32 := P_Door_within_b0 M a0 a1 a2
set_option maxRecDepth 100000 in
theorem c_Door_within_b15 {p : Program} {l : Launch} {e : Env} {s : State} {m : MethodId} {args : Array Value} {below : List Frame} {meth : Method} {c : Code} {D : va_G} {cI cZ cH cR : ClassId} {N : Nat} {ad : Nat → Nat} {EE : fw_M → Nat → va_E} {M : fw_M} {t0 : Int32} {z : Int32} (C : fw_C p s m args meth c cX8_within RX8 wsX8_within 3 (some .boolean) D vwCl (fw_tys cI cZ cH cR) N ad fw_nw0) (h : P_Door_within_b15 M t0 = some z) : fw_J p l e (headSpec wsX8_within rm_Door_within).room s m args below meth c D vwCl N ad EE 3 0 0 (fw_E below args s D vwCl N ad EE (some (.int z)) M) M [] 15 [.int t0] := by
  unfold P_Door_within_b15 at h
  obtain ⟨v1, hv1, h⟩ := fw_bind h
  exact fw_zret (pc := 15) C (fw_zrh hv1).1 ((fw_zrh hv1).2.trans (Option.some.inj h)) rfl dX8_within_15
set_option maxRecDepth 100000 in
theorem c_Door_within_b14 {p : Program} {l : Launch} {e : Env} {s : State} {m : MethodId} {args : Array Value} {below : List Frame} {meth : Method} {c : Code} {D : va_G} {cI cZ cH cR : ClassId} {N : Nat} {ad : Nat → Nat} {EE : fw_M → Nat → va_E} {M : fw_M} {z : Int32} (C : fw_C p s m args meth c cX8_within RX8 wsX8_within 3 (some .boolean) D vwCl (fw_tys cI cZ cH cR) N ad fw_nw0) (h : P_Door_within_b14 M = some z) : fw_J p l e (headSpec wsX8_within rm_Door_within).room s m args below meth c D vwCl N ad EE 3 0 0 (fw_E below args s D vwCl N ad EE (some (.int z)) M) M [] 14 [] := by
  unfold P_Door_within_b14 at h
  refine fw_iconst (pc := 14) C (v := 0) dX8_within_14 fk_iconst_0 ?_
  exact (c_Door_within_b15 C  h)
set_option maxRecDepth 100000 in
theorem c_Door_within_b0 {p : Program} {l : Launch} {e : Env} {s : State} {m : MethodId} {args : Array Value} {below : List Frame} {meth : Method} {c : Code} {D : va_G} {cI cZ cH cR : ClassId} {N : Nat} {ad : Nat → Nat} {EE : fw_M → Nat → va_E} {M : fw_M} {x0 : Int32} {x1 : Int32} {x2 : Int32} {z : Int32} (C : fw_C p s m args meth c cX8_within RX8 wsX8_within 3 (some .boolean) D vwCl (fw_tys cI cZ cH cR) N ad fw_nw0) (h : P_Door_within_b0 M x0 x1 x2 = some z) : fw_J p l e (headSpec wsX8_within rm_Door_within).room s m args below meth c D vwCl N ad EE 3 0 0 (fw_E below args s D vwCl N ad EE (some (.int z)) M) M [(0, .int x0), (1, .int x1), (2, .int x2)] 0 [] := by
  unfold P_Door_within_b0 at h
  refine fw_iload_n (pc := 0) C 0 dX8_within_0 rfl rfl ?_
  refine fw_iload_n (pc := 1) C 1 dX8_within_1 rfl rfl ?_
  refine fw_icmp_lt (pc := 2) C (tgt := 14) dX8_within_2 (by decide) (fun c1 => ?_) (fun c1 => ?_)
  · have h := fw_ift h c1
    exact fw_sub [] rfl (c_Door_within_b14 C  h)
  · have h := fw_iff h c1
    refine fw_iload_n (pc := 5) C 0 dX8_within_5 rfl rfl ?_
    refine fw_iload_n (pc := 6) C 2 dX8_within_6 rfl rfl ?_
    refine fw_icmp_gt (pc := 7) C (tgt := 14) dX8_within_7 (by decide) (fun c2 => ?_) (fun c2 => ?_)
    · have h := fw_ift h c2
      exact fw_sub [] rfl (c_Door_within_b14 C  h)
    · have h := fw_iff h c2
      refine fw_iconst (pc := 10) C (v := 1) dX8_within_10 fk_iconst_1 ?_
      refine fw_goto (pc := 11) C (tgt := 15) dX8_within_11 (by decide) ?_
      exact fw_sub [] rfl (c_Door_within_b15 C  h)
theorem c_Door_within {l : Launch} {D : va_G} {cI cZ cH cR : ClassId} {N : Nat} {ad : Nat → Nat} {EE : fw_M → Nat → va_E} {M : fw_M} {a0 : Int32} {a1 : Int32} {a2 : Int32} {z : Int32} (h : P_Door_within M a0 a1 a2 = some z) : fw_Met l yX8_within wsX8_within rm_Door_within D vwCl (fw_tys cI cZ cH cR) N ad fw_nw0 EE [.int a0, .int a1, .int a2] M (some (.int z)) M := by
  unfold P_Door_within at h
  exact fw_intro (cc := cX8_within) (maxL := 3) (ret := some .boolean) (own := RX8) (by decide) rfl rfl (Nat.le_of_ble_eq_true rfl) (fun p e s m args below meth c C => fw_sub [0, 1, 2] rfl (c_Door_within_b0 C  h))
end
