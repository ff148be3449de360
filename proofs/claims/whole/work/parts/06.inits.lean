theorem fk_bipush_6 : (Int8.ofInt (6)).toInt32 = 6 := by decide
theorem fk_bipush_78 : (Int8.ofInt (78)).toInt32 = 78 := by decide
theorem fk_sipush_320 : (Int16.ofInt (320)).toInt32 = 320 := by decide
theorem fk_sipush_936 : (Int16.ofInt (936)).toInt32 = 936 := by decide
abbrev nw_k : fw_nw := [(RX2, 11, yX3_init, "YieldDoors"), (RX2, 20, yX4_init, "YieldDoors"), (RX2, 27, yX5_init, "YieldDoors"), (RX0, 24, yX3_init, "YieldDoors"), (RX8, 24, yX3_init, "YieldDoors"), (RX8, 61, yX6_init, "YieldDoors"), (RX8, 17, yX7_init, "YieldDoors"), (RX8, 42, yX2_init, "YieldDoors"), (RX8, 49, yX1_init, "YieldDoors")]
def pk_Hall (F : Nat → va_E) (b0 : Nat) (cI cZ cH cR : ClassId) (k : Nat) : Prop := F k = .inr (3, [.int 0, .int 0, .int 0, .int 0, .ref (b0 + (k + 1)), .ref (b0 + (k + 2)), .ref (b0 + (k + 3)), .ref (b0 + (k + 4)), .ref (b0 + (k + 5))]) ∧ F (k + 1) = .inl (cI, 7, .inl (fun _ => 0)) ∧ F (k + 2) = .inl (cI, 7, .inl (fun _ => 0)) ∧ F (k + 3) = .inl (cI, 7, .inl (fun _ => 0)) ∧ F (k + 4) = .inl (cI, 7, .inl (fun _ => 0)) ∧ F (k + 5) = .inl (cI, 7, .inl (fun _ => 0))
def pk_Row (F : Nat → va_E) (b0 : Nat) (cI cZ cH cR : ClassId) (k : Nat) : Prop := F k = .inr (6, [.ref (b0 + (k + 1)), .int 0, .int (-1)]) ∧ F (k + 1) = .inl (cI, 40, .inl (fun _ => 0))
def pk_Tape (F : Nat → va_E) (b0 : Nat) (cI cZ cH cR : ClassId) (k : Nat) : Prop := F k = .inr (7, [.ref (b0 + (k + 1)), .int 0, .int 0, .int 0]) ∧ F (k + 1) = .inl (cI, 100, .inl (fun _ => 0))
def pk_Law (F : Nat → va_E) (b0 : Nat) (cI cZ cH cR : ClassId) (k : Nat) : Prop := F k = .inr (4, [.ref (b0 + (k + 1))]) ∧ F (k + 1) = .inl (cI, 7, .inl (fun _ => 0))
def pk_Line (F : Nat → va_E) (b0 : Nat) (cI cZ cH cR : ClassId) (k : Nat) : Prop := F k = .inr (5, [.ref (b0 + (k + 1)), .ref (b0 + (k + 2)), .int 0, .int 0]) ∧ F (k + 1) = .inl (cI, 7, .inl (fun _ => 0)) ∧ F (k + 2) = .inl (cI, 7, .inl (fun _ => 0))
def pk_Asking (F : Nat → va_E) (b0 : Nat) (cI cZ cH cR : ClassId) (k : Nat) : Prop := F k = .inr (1, [.ref (b0 + (k + 1)), .int 0]) ∧ F (k + 1) = .inl (cI, 16, .inl (fun _ => 0))
def pk_Acts (F : Nat → va_E) (b0 : Nat) (cI cZ cH cR : ClassId) (k : Nat) : Prop := F k = .inr (0, [.ref (b0 + (k + 1)), .int 0, .int 0]) ∧ F (k + 1) = .inl (cH, 24, .inr (.inr (.inr (.inr (fun i => some (b0 + (k + 2 + 6 * i))))))) ∧ (∀ i, i < 24 → pk_Hall F b0 cI cZ cH cR (k + 2 + 6 * i))
def pk_Fore (F : Nat → va_E) (b0 : Nat) (cI cZ cH cR : ClassId) (k : Nat) : Prop := F k = .inr (2, [.ref (b0 + (k + 1)), .ref (b0 + (k + 7)), .ref (b0 + (k + 9))]) ∧ pk_Hall F b0 cI cZ cH cR (k + 1) ∧ pk_Law F b0 cI cZ cH cR (k + 7) ∧ pk_Line F b0 cI cZ cH cR (k + 9)
def pk_Door (F : Nat → va_E) (b0 : Nat) (cI cZ cH cR : ClassId) (k : Nat) : Prop := F k = .inr (8, [.ref (b0 + (k + 1)), .ref (b0 + (k + 2)), .ref (b0 + (k + 4)), .ref (b0 + (k + 10)), .ref (b0 + (k + 156)), .ref (b0 + (k + 157)), .ref (b0 + (k + 169)), .int 0, .int 0]) ∧ F (k + 1) = .inl (cR, 8, .inr (.inr (.inr (.inr (fun i => some (b0 + (k + 171 + 2 * i))))))) ∧ pk_Tape F b0 cI cZ cH cR (k + 2) ∧ pk_Hall F b0 cI cZ cH cR (k + 4) ∧ pk_Acts F b0 cI cZ cH cR (k + 10) ∧ F (k + 156) = .inl (cH, 2, .inr (.inr (.inr (.inr (fun i => some (b0 + (k + 187 + 6 * i))))))) ∧ pk_Fore F b0 cI cZ cH cR (k + 157) ∧ pk_Asking F b0 cI cZ cH cR (k + 169) ∧ (∀ i, i < 8 → pk_Row F b0 cI cZ cH cR (k + 171 + 2 * i)) ∧ (∀ i, i < 2 → pk_Hall F b0 cI cZ cH cR (k + 187 + 6 * i))
def pk_Mod (F : Nat → va_E) (b0 : Nat) (cI cZ cH cR : ClassId) (k : Nat) : Prop := F k = .inr (9, [.int 0, .int 0, .ref (b0 + (k + 1)), .ref (b0 + (k + 2)), .ref (b0 + (k + 3)), .ref (b0 + (k + 4)), .ref (b0 + (k + 5)), .ref (b0 + (k + 6)), .ref (b0 + (k + 7)), .int 0, .ref (b0 + (k + 8)), .int 0, .int 0, .int 0, .int 0, .int 0, .int 0, .int 0, .int 0, .ref (b0 + (k + 9)), .ref (b0 + (k + 10)), .ref (b0 + (k + 11)), .ref (b0 + (k + 12)), .int 0]) ∧ F (k + 1) = .inl (cI, 8, .inl (fun j => if j < 8 then -1 else 0)) ∧ F (k + 2) = .inl (cI, 8, .inl (fun _ => 0)) ∧ F (k + 3) = .inl (cI, 320, .inl (fun _ => 0)) ∧ F (k + 4) = .inl (cI, 39, .inl (fun _ => 0)) ∧ F (k + 5) = .inl (cI, 39, .inl (fun _ => 0)) ∧ F (k + 6) = .inl (cI, 39, .inl (fun _ => 0)) ∧ F (k + 7) = .inl (cI, 936, .inl (fun _ => 0)) ∧ F (k + 8) = .inl (cI, 100, .inl (fun _ => 0)) ∧ F (k + 9) = .inl (cI, 4, .inl (fun _ => 0)) ∧ F (k + 10) = .inl (cZ, 2, .inl (fun _ => 0)) ∧ F (k + 11) = .inl (cI, 78, .inl (fun _ => 0)) ∧ F (k + 12) = .inl (cI, 16, .inl (fun _ => 0))
theorem lane_0 : upd (fun _ => 0) ((0 : Int32).toNatClampNeg) (-1) = (fun j : Nat => if j < 1 then (-1 : Int32) else 0) := by
  funext j
  unfold upd
  rw [show ((0 : Int32).toNatClampNeg) = 0 from by decide]
  by_cases h : j = 0
  · subst h; simp
  · rw [if_neg h]
    show ((0 : Int32)) = _
    rw [if_neg (by omega)]
theorem lane_1 : upd (fun j => if j < 1 then -1 else 0) ((1 : Int32).toNatClampNeg) (-1) = (fun j : Nat => if j < 2 then (-1 : Int32) else 0) := by
  funext j
  unfold upd
  rw [show ((1 : Int32).toNatClampNeg) = 1 from by decide]
  by_cases h : j = 1
  · subst h; simp
  · rw [if_neg h]
    show (if j < 1 then (-1 : Int32) else 0) = _
    by_cases h2 : j < 1
    · rw [if_pos h2, if_pos (by omega)]
    · rw [if_neg h2, if_neg (by omega)]
theorem lane_2 : upd (fun j => if j < 2 then -1 else 0) ((2 : Int32).toNatClampNeg) (-1) = (fun j : Nat => if j < 3 then (-1 : Int32) else 0) := by
  funext j
  unfold upd
  rw [show ((2 : Int32).toNatClampNeg) = 2 from by decide]
  by_cases h : j = 2
  · subst h; simp
  · rw [if_neg h]
    show (if j < 2 then (-1 : Int32) else 0) = _
    by_cases h2 : j < 2
    · rw [if_pos h2, if_pos (by omega)]
    · rw [if_neg h2, if_neg (by omega)]
theorem lane_3 : upd (fun j => if j < 3 then -1 else 0) ((3 : Int32).toNatClampNeg) (-1) = (fun j : Nat => if j < 4 then (-1 : Int32) else 0) := by
  funext j
  unfold upd
  rw [show ((3 : Int32).toNatClampNeg) = 3 from by decide]
  by_cases h : j = 3
  · subst h; simp
  · rw [if_neg h]
    show (if j < 3 then (-1 : Int32) else 0) = _
    by_cases h2 : j < 3
    · rw [if_pos h2, if_pos (by omega)]
    · rw [if_neg h2, if_neg (by omega)]
theorem lane_4 : upd (fun j => if j < 4 then -1 else 0) ((4 : Int32).toNatClampNeg) (-1) = (fun j : Nat => if j < 5 then (-1 : Int32) else 0) := by
  funext j
  unfold upd
  rw [show ((4 : Int32).toNatClampNeg) = 4 from by decide]
  by_cases h : j = 4
  · subst h; simp
  · rw [if_neg h]
    show (if j < 4 then (-1 : Int32) else 0) = _
    by_cases h2 : j < 4
    · rw [if_pos h2, if_pos (by omega)]
    · rw [if_neg h2, if_neg (by omega)]
theorem lane_5 : upd (fun j => if j < 5 then -1 else 0) ((5 : Int32).toNatClampNeg) (-1) = (fun j : Nat => if j < 6 then (-1 : Int32) else 0) := by
  funext j
  unfold upd
  rw [show ((5 : Int32).toNatClampNeg) = 5 from by decide]
  by_cases h : j = 5
  · subst h; simp
  · rw [if_neg h]
    show (if j < 5 then (-1 : Int32) else 0) = _
    by_cases h2 : j < 5
    · rw [if_pos h2, if_pos (by omega)]
    · rw [if_neg h2, if_neg (by omega)]
theorem lane_6 : upd (fun j => if j < 6 then -1 else 0) ((6 : Int32).toNatClampNeg) (-1) = (fun j : Nat => if j < 7 then (-1 : Int32) else 0) := by
  funext j
  unfold upd
  rw [show ((6 : Int32).toNatClampNeg) = 6 from by decide]
  by_cases h : j = 6
  · subst h; simp
  · rw [if_neg h]
    show (if j < 6 then (-1 : Int32) else 0) = _
    by_cases h2 : j < 6
    · rw [if_pos h2, if_pos (by omega)]
    · rw [if_neg h2, if_neg (by omega)]
theorem lane_7 : upd (fun j => if j < 7 then -1 else 0) ((7 : Int32).toNatClampNeg) (-1) = (fun j : Nat => if j < 8 then (-1 : Int32) else 0) := by
  funext j
  unfold upd
  rw [show ((7 : Int32).toNatClampNeg) = 7 from by decide]
  by_cases h : j = 7
  · subst h; simp
  · rw [if_neg h]
    show (if j < 7 then (-1 : Int32) else 0) = _
    by_cases h2 : j < 7
    · rw [if_pos h2, if_pos (by omega)]
    · rw [if_neg h2, if_neg (by omega)]
abbrev rk_Hall : Room := { frames := 1, cells := 5, slots := 35, locals := 30 }
theorem hd_iHall : yX3_init.cls ≠ "java/lang/invoke/MethodHandle" ∧ yX3_init.cls ≠ "java/lang/invoke/VarHandle" ∧ (parseMethodDescriptor yX3_init.desc).map (fun d => d.parameters.length) = some 0 := by decide +kernel
theorem hb_Hall : ∀ j, j < 9 → defaultValue (tyX3 j) = vp_V [.int 0, .int 0, .int 0, .int 0, .null, .null, .null, .null, .null] j := by decide
theorem koX3_3 : Cond.methodLink RX3 3 objectInit ∈ wsX3_init ∧ Cond.instanceMethod objectInit ∈ wsX3_init ∧ Cond.code objectInit ⟨#[0xb1]⟩ 1 none ∈ wsX3_init := by decide +kernel
theorem qiX3_9_0 : fw_G wsX3_init RX3 9 RX3 TX3 9 0 := ⟨by decide +kernel, by decide +kernel, by decide⟩
theorem qiX3_15_1 : fw_G wsX3_init RX3 15 RX3 TX3 9 1 := ⟨by decide +kernel, by decide +kernel, by decide⟩
theorem qiX3_18_2 : fw_G wsX3_init RX3 18 RX3 TX3 9 2 := ⟨by decide +kernel, by decide +kernel, by decide⟩
theorem qiX3_21_3 : fw_G wsX3_init RX3 21 RX3 TX3 9 3 := ⟨by decide +kernel, by decide +kernel, by decide⟩
theorem krX3_int : Cond.arrayClass .int ∈ wsX3_init := by decide +kernel
theorem qiX3_24_4 : fw_G wsX3_init RX3 24 RX3 TX3 9 4 := ⟨by decide +kernel, by decide +kernel, by decide⟩
theorem qiX3_28_5 : fw_G wsX3_init RX3 28 RX3 TX3 9 5 := ⟨by decide +kernel, by decide +kernel, by decide⟩
theorem qiX3_31_6 : fw_G wsX3_init RX3 31 RX3 TX3 9 6 := ⟨by decide +kernel, by decide +kernel, by decide⟩
theorem qiX3_34_7 : fw_G wsX3_init RX3 34 RX3 TX3 9 7 := ⟨by decide +kernel, by decide +kernel, by decide⟩
theorem qiX3_37_8 : fw_G wsX3_init RX3 37 RX3 TX3 9 8 := ⟨by decide +kernel, by decide +kernel, by decide⟩
set_option maxRecDepth 100000 in
set_option maxHeartbeats 4000000 in
theorem ci_Hall {p : Program} {l : Launch} {e : Env} {s : State} {m : MethodId} {args : Array Value} {below : List Frame} {meth : Method} {c : Code} {D : va_G} {cI cZ cH cR : ClassId} {b0 k : Nat} {F E0 : Nat → va_E} (C : fk_C p s m args meth c cX3_init RX3 wsX3_init 1 D vwCl (fw_tys cI cZ cH cR) nw_k) (hin : meth.name = "<init>") (hr : meth.sig.returnType = none) (hF : pk_Hall F b0 cI cZ cH cR k) (hb : E0 k = .inr (3, [.int 0, .int 0, .int 0, .int 0, .null, .null, .null, .null, .null])) : fk_J p l e (headSpec wsX3_init rk_Hall).room s m args below meth c D vwCl b0 1 (fk_E below args s D vwCl b0 (k + 6) (fk_fill F E0 k 6) 5 35) 0 0 (k + 1) E0 [(0, .ref (b0 + k))] 0 [] := by
  have o0 : ∀ j, j < k → E0 j = E0 j := fun _ _ => rfl
  refine fk_aload_n (pc := 0) C 0 dX3_init_0 rfl rfl ?_
  refine fk_obj (pc := 1) C koX3_3 (Nat.le_of_ble_eq_true rfl) (Nat.le_of_ble_eq_true rfl) dX3_init_1 ?_
  refine fk_aload_n (pc := 4) C 0 dX3_init_4 rfl rfl ?_
  refine fk_iconst (pc := 5) C (v := 0) dX3_init_5 fk_iconst_0 ?_
  refine fk_put (pc := 6) C (by omega) hb rfl qiX3_9_0 tyX3 tyX3_ok nmX3 rfl rfl rfl rfl (Nat.le_of_ble_eq_true rfl) dX3_init_6 (fun E1 g1_E1 g2_E1 => ?_)
  have hE1 : E1 k = .inr (3, [.int 0, .int 0, .int 0, .int 0, .null, .null, .null, .null, .null]) := g1_E1
  have oE1_7 : ∀ j, j < k → E1 j = E0 j := fun j z => (g2_E1 j (by omega)).trans (o0 j z)
  refine fk_aload_n (pc := 9) C 0 dX3_init_9 rfl rfl ?_
  refine fk_iconst (pc := 10) C (v := 0) dX3_init_10 fk_iconst_0 ?_
  refine fk_put (pc := 11) C (by omega) hE1 rfl qiX3_15_1 tyX3 tyX3_ok nmX3 rfl rfl rfl rfl (Nat.le_of_ble_eq_true rfl) dX3_init_11 (fun E2 g1_E2 g2_E2 => ?_)
  have hE2 : E2 k = .inr (3, [.int 0, .int 0, .int 0, .int 0, .null, .null, .null, .null, .null]) := g1_E2
  have oE2_12 : ∀ j, j < k → E2 j = E0 j := fun j z => (g2_E2 j (by omega)).trans (oE1_7 j z)
  refine fk_aload_n (pc := 14) C 0 dX3_init_14 rfl rfl ?_
  refine fk_iconst (pc := 15) C (v := 0) dX3_init_15 fk_iconst_0 ?_
  refine fk_put (pc := 16) C (by omega) hE2 rfl qiX3_18_2 tyX3 tyX3_ok nmX3 rfl rfl rfl rfl (Nat.le_of_ble_eq_true rfl) dX3_init_16 (fun E3 g1_E3 g2_E3 => ?_)
  have hE3 : E3 k = .inr (3, [.int 0, .int 0, .int 0, .int 0, .null, .null, .null, .null, .null]) := g1_E3
  have oE3_17 : ∀ j, j < k → E3 j = E0 j := fun j z => (g2_E3 j (by omega)).trans (oE2_12 j z)
  refine fk_aload_n (pc := 19) C 0 dX3_init_19 rfl rfl ?_
  refine fk_iconst (pc := 20) C (v := 0) dX3_init_20 fk_iconst_0 ?_
  refine fk_put (pc := 21) C (by omega) hE3 rfl qiX3_21_3 tyX3 tyX3_ok nmX3 rfl rfl rfl rfl (Nat.le_of_ble_eq_true rfl) dX3_init_21 (fun E4 g1_E4 g2_E4 => ?_)
  have hE4 : E4 k = .inr (3, [.int 0, .int 0, .int 0, .int 0, .null, .null, .null, .null, .null]) := g1_E4
  have oE4_22 : ∀ j, j < k → E4 j = E0 j := fun j z => (g2_E4 j (by omega)).trans (oE3_17 j z)
  refine fk_aload_n (pc := 24) C 0 dX3_init_24 rfl rfl ?_
  refine fk_bipush (pc := 25) C (v := 7) dX3_init_25 fk_bipush_7 ?_
  refine fk_newa (pc := 27) C (n := (k + 1)) (N' := 7) (a0 := (7, .inl (fun _ => 0))) (cA := cI) 0 krX3_int rfl rfl rfl (fun _ => rfl) (by decide) (by decide) (by decide) ⟨Nat.le_of_ble_eq_true rfl, Nat.le_of_ble_eq_true rfl⟩ dX3_init_27 (fun E5 g1_E5 g2_E5 => ?_)
  have hE5 : E5 (k + 1) = .inl (cI, 7, .inl (fun _ => 0)) := g1_E5
  have hE5_27 : E5 k = .inr (3, [.int 0, .int 0, .int 0, .int 0, .null, .null, .null, .null, .null]) := (g2_E5 _ (by omega)).trans hE4
  have oE5_28 : ∀ j, j < k → E5 j = E0 j := fun j z => (g2_E5 j (by omega)).trans (oE4_22 j z)
  refine fk_putF (pc := 29) C hin (by omega) hE5_27 rfl qiX3_24_4 tyX3 tyX3_ok nmX3 rfl rfl rfl rfl rfl (Nat.le_of_ble_eq_true rfl) dX3_init_29 (fun E6 g1_E6 g2_E6 => ?_)
  have hE6 : E6 k = .inr (3, [.int 0, .int 0, .int 0, .int 0, .ref (b0 + (k + 1)), .null, .null, .null, .null]) := g1_E6
  have hE6_31 : E6 (k + 1) = .inl (cI, 7, .inl (fun _ => 0)) := (g2_E6 _ (by omega)).trans hE5
  have oE6_32 : ∀ j, j < k → E6 j = E0 j := fun j z => (g2_E6 j (by omega)).trans (oE5_28 j z)
  refine fk_aload_n (pc := 32) C 0 dX3_init_32 rfl rfl ?_
  refine fk_bipush (pc := 33) C (v := 7) dX3_init_33 fk_bipush_7 ?_
  refine fk_newa (pc := 35) C (n := (k + 2)) (N' := 7) (a0 := (7, .inl (fun _ => 0))) (cA := cI) 0 krX3_int rfl rfl rfl (fun _ => rfl) (by decide) (by decide) (by decide) ⟨Nat.le_of_ble_eq_true rfl, Nat.le_of_ble_eq_true rfl⟩ dX3_init_35 (fun E7 g1_E7 g2_E7 => ?_)
  have hE7 : E7 (k + 2) = .inl (cI, 7, .inl (fun _ => 0)) := g1_E7
  have hE7_37 : E7 k = .inr (3, [.int 0, .int 0, .int 0, .int 0, .ref (b0 + (k + 1)), .null, .null, .null, .null]) := (g2_E7 _ (by omega)).trans hE6
  have hE7_38 : E7 (k + 1) = .inl (cI, 7, .inl (fun _ => 0)) := (g2_E7 _ (by omega)).trans hE6_31
  have oE7_39 : ∀ j, j < k → E7 j = E0 j := fun j z => (g2_E7 j (by omega)).trans (oE6_32 j z)
  refine fk_putF (pc := 37) C hin (by omega) hE7_37 rfl qiX3_28_5 tyX3 tyX3_ok nmX3 rfl rfl rfl rfl rfl (Nat.le_of_ble_eq_true rfl) dX3_init_37 (fun E8 g1_E8 g2_E8 => ?_)
  have hE8 : E8 k = .inr (3, [.int 0, .int 0, .int 0, .int 0, .ref (b0 + (k + 1)), .ref (b0 + (k + 2)), .null, .null, .null]) := g1_E8
  have hE8_42 : E8 (k + 1) = .inl (cI, 7, .inl (fun _ => 0)) := (g2_E8 _ (by omega)).trans hE7_38
  have hE8_43 : E8 (k + 2) = .inl (cI, 7, .inl (fun _ => 0)) := (g2_E8 _ (by omega)).trans hE7
  have oE8_44 : ∀ j, j < k → E8 j = E0 j := fun j z => (g2_E8 j (by omega)).trans (oE7_39 j z)
  refine fk_aload_n (pc := 40) C 0 dX3_init_40 rfl rfl ?_
  refine fk_bipush (pc := 41) C (v := 7) dX3_init_41 fk_bipush_7 ?_
  refine fk_newa (pc := 43) C (n := (k + 3)) (N' := 7) (a0 := (7, .inl (fun _ => 0))) (cA := cI) 0 krX3_int rfl rfl rfl (fun _ => rfl) (by decide) (by decide) (by decide) ⟨Nat.le_of_ble_eq_true rfl, Nat.le_of_ble_eq_true rfl⟩ dX3_init_43 (fun E9 g1_E9 g2_E9 => ?_)
  have hE9 : E9 (k + 3) = .inl (cI, 7, .inl (fun _ => 0)) := g1_E9
  have hE9_49 : E9 k = .inr (3, [.int 0, .int 0, .int 0, .int 0, .ref (b0 + (k + 1)), .ref (b0 + (k + 2)), .null, .null, .null]) := (g2_E9 _ (by omega)).trans hE8
  have hE9_50 : E9 (k + 1) = .inl (cI, 7, .inl (fun _ => 0)) := (g2_E9 _ (by omega)).trans hE8_42
  have hE9_51 : E9 (k + 2) = .inl (cI, 7, .inl (fun _ => 0)) := (g2_E9 _ (by omega)).trans hE8_43
  have oE9_52 : ∀ j, j < k → E9 j = E0 j := fun j z => (g2_E9 j (by omega)).trans (oE8_44 j z)
  refine fk_putF (pc := 45) C hin (by omega) hE9_49 rfl qiX3_31_6 tyX3 tyX3_ok nmX3 rfl rfl rfl rfl rfl (Nat.le_of_ble_eq_true rfl) dX3_init_45 (fun E10 g1_E10 g2_E10 => ?_)
  have hE10 : E10 k = .inr (3, [.int 0, .int 0, .int 0, .int 0, .ref (b0 + (k + 1)), .ref (b0 + (k + 2)), .ref (b0 + (k + 3)), .null, .null]) := g1_E10
  have hE10_55 : E10 (k + 1) = .inl (cI, 7, .inl (fun _ => 0)) := (g2_E10 _ (by omega)).trans hE9_50
  have hE10_56 : E10 (k + 2) = .inl (cI, 7, .inl (fun _ => 0)) := (g2_E10 _ (by omega)).trans hE9_51
  have hE10_57 : E10 (k + 3) = .inl (cI, 7, .inl (fun _ => 0)) := (g2_E10 _ (by omega)).trans hE9
  have oE10_58 : ∀ j, j < k → E10 j = E0 j := fun j z => (g2_E10 j (by omega)).trans (oE9_52 j z)
  refine fk_aload_n (pc := 48) C 0 dX3_init_48 rfl rfl ?_
  refine fk_bipush (pc := 49) C (v := 7) dX3_init_49 fk_bipush_7 ?_
  refine fk_newa (pc := 51) C (n := (k + 4)) (N' := 7) (a0 := (7, .inl (fun _ => 0))) (cA := cI) 0 krX3_int rfl rfl rfl (fun _ => rfl) (by decide) (by decide) (by decide) ⟨Nat.le_of_ble_eq_true rfl, Nat.le_of_ble_eq_true rfl⟩ dX3_init_51 (fun E11 g1_E11 g2_E11 => ?_)
  have hE11 : E11 (k + 4) = .inl (cI, 7, .inl (fun _ => 0)) := g1_E11
  have hE11_63 : E11 k = .inr (3, [.int 0, .int 0, .int 0, .int 0, .ref (b0 + (k + 1)), .ref (b0 + (k + 2)), .ref (b0 + (k + 3)), .null, .null]) := (g2_E11 _ (by omega)).trans hE10
  have hE11_64 : E11 (k + 1) = .inl (cI, 7, .inl (fun _ => 0)) := (g2_E11 _ (by omega)).trans hE10_55
  have hE11_65 : E11 (k + 2) = .inl (cI, 7, .inl (fun _ => 0)) := (g2_E11 _ (by omega)).trans hE10_56
  have hE11_66 : E11 (k + 3) = .inl (cI, 7, .inl (fun _ => 0)) := (g2_E11 _ (by omega)).trans hE10_57
  have oE11_67 : ∀ j, j < k → E11 j = E0 j := fun j z => (g2_E11 j (by omega)).trans (oE10_58 j z)
  refine fk_putF (pc := 53) C hin (by omega) hE11_63 rfl qiX3_34_7 tyX3 tyX3_ok nmX3 rfl rfl rfl rfl rfl (Nat.le_of_ble_eq_true rfl) dX3_init_53 (fun E12 g1_E12 g2_E12 => ?_)
  have hE12 : E12 k = .inr (3, [.int 0, .int 0, .int 0, .int 0, .ref (b0 + (k + 1)), .ref (b0 + (k + 2)), .ref (b0 + (k + 3)), .ref (b0 + (k + 4)), .null]) := g1_E12
  have hE12_70 : E12 (k + 1) = .inl (cI, 7, .inl (fun _ => 0)) := (g2_E12 _ (by omega)).trans hE11_64
  have hE12_71 : E12 (k + 2) = .inl (cI, 7, .inl (fun _ => 0)) := (g2_E12 _ (by omega)).trans hE11_65
  have hE12_72 : E12 (k + 3) = .inl (cI, 7, .inl (fun _ => 0)) := (g2_E12 _ (by omega)).trans hE11_66
  have hE12_73 : E12 (k + 4) = .inl (cI, 7, .inl (fun _ => 0)) := (g2_E12 _ (by omega)).trans hE11
  have oE12_74 : ∀ j, j < k → E12 j = E0 j := fun j z => (g2_E12 j (by omega)).trans (oE11_67 j z)
  refine fk_aload_n (pc := 56) C 0 dX3_init_56 rfl rfl ?_
  refine fk_bipush (pc := 57) C (v := 7) dX3_init_57 fk_bipush_7 ?_
  refine fk_newa (pc := 59) C (n := (k + 5)) (N' := 7) (a0 := (7, .inl (fun _ => 0))) (cA := cI) 0 krX3_int rfl rfl rfl (fun _ => rfl) (by decide) (by decide) (by decide) ⟨Nat.le_of_ble_eq_true rfl, Nat.le_of_ble_eq_true rfl⟩ dX3_init_59 (fun E13 g1_E13 g2_E13 => ?_)
  have hE13 : E13 (k + 5) = .inl (cI, 7, .inl (fun _ => 0)) := g1_E13
  have hE13_79 : E13 k = .inr (3, [.int 0, .int 0, .int 0, .int 0, .ref (b0 + (k + 1)), .ref (b0 + (k + 2)), .ref (b0 + (k + 3)), .ref (b0 + (k + 4)), .null]) := (g2_E13 _ (by omega)).trans hE12
  have hE13_80 : E13 (k + 1) = .inl (cI, 7, .inl (fun _ => 0)) := (g2_E13 _ (by omega)).trans hE12_70
  have hE13_81 : E13 (k + 2) = .inl (cI, 7, .inl (fun _ => 0)) := (g2_E13 _ (by omega)).trans hE12_71
  have hE13_82 : E13 (k + 3) = .inl (cI, 7, .inl (fun _ => 0)) := (g2_E13 _ (by omega)).trans hE12_72
  have hE13_83 : E13 (k + 4) = .inl (cI, 7, .inl (fun _ => 0)) := (g2_E13 _ (by omega)).trans hE12_73
  have oE13_84 : ∀ j, j < k → E13 j = E0 j := fun j z => (g2_E13 j (by omega)).trans (oE12_74 j z)
  refine fk_putF (pc := 61) C hin (by omega) hE13_79 rfl qiX3_37_8 tyX3 tyX3_ok nmX3 rfl rfl rfl rfl rfl (Nat.le_of_ble_eq_true rfl) dX3_init_61 (fun E14 g1_E14 g2_E14 => ?_)
  have hE14 : E14 k = .inr (3, [.int 0, .int 0, .int 0, .int 0, .ref (b0 + (k + 1)), .ref (b0 + (k + 2)), .ref (b0 + (k + 3)), .ref (b0 + (k + 4)), .ref (b0 + (k + 5))]) := g1_E14
  have hE14_87 : E14 (k + 1) = .inl (cI, 7, .inl (fun _ => 0)) := (g2_E14 _ (by omega)).trans hE13_80
  have hE14_88 : E14 (k + 2) = .inl (cI, 7, .inl (fun _ => 0)) := (g2_E14 _ (by omega)).trans hE13_81
  have hE14_89 : E14 (k + 3) = .inl (cI, 7, .inl (fun _ => 0)) := (g2_E14 _ (by omega)).trans hE13_82
  have hE14_90 : E14 (k + 4) = .inl (cI, 7, .inl (fun _ => 0)) := (g2_E14 _ (by omega)).trans hE13_83
  have hE14_91 : E14 (k + 5) = .inl (cI, 7, .inl (fun _ => 0)) := (g2_E14 _ (by omega)).trans hE13
  have oE14_92 : ∀ j, j < k → E14 j = E0 j := fun j z => (g2_E14 j (by omega)).trans (oE13_84 j z)
  refine fk_vret (pc := 64) C hr ?_ dX3_init_64
  intro j hj
  unfold fk_fill
  by_cases z0 : j < k
  · rw [if_neg (by omega)]; exact Or.inl (oE14_92 j z0)
  rw [if_pos (by omega)]
  by_cases z1 : j = k
  · subst z1; exact Or.inl (hE14.trans hF.1.symm)
  by_cases z2 : j = (k + 1)
  · subst z2; exact Or.inl (hE14_87.trans hF.2.1.symm)
  by_cases z3 : j = (k + 2)
  · subst z3; exact Or.inl (hE14_88.trans hF.2.2.1.symm)
  by_cases z4 : j = (k + 3)
  · subst z4; exact Or.inl (hE14_89.trans hF.2.2.2.1.symm)
  by_cases z5 : j = (k + 4)
  · subst z5; exact Or.inl (hE14_90.trans hF.2.2.2.2.1.symm)
  by_cases z6 : j = (k + 5)
  · subst z6; exact Or.inl (hE14_91.trans hF.2.2.2.2.2.symm)
  omega
set_option maxRecDepth 100000 in
theorem ck_Hall {l : Launch} {D : va_G} {cI cZ cH cR : ClassId} {b0 k : Nat} {F E0 : Nat → va_E} (hF : pk_Hall F b0 cI cZ cH cR k) (hb : E0 k = .inr (3, [.int 0, .int 0, .int 0, .int 0, .null, .null, .null, .null, .null])) : fk_Met l yX3_init wsX3_init rk_Hall D vwCl (fw_tys cI cZ cH cR) nw_k b0 [.ref (b0 + k)] (k + 1) E0 (k + 6) (fk_fill F E0 k 6) 5 35 :=
  fk_intro (cc := cX3_init) (maxL := 1) (own := RX3) (by decide) rfl rfl rfl (Nat.le_of_ble_eq_true rfl) (fun p e s m args below meth c C hin hr => fk_sub [0] rfl (ci_Hall C hin hr hF hb))
abbrev rk_Row : Room := { frames := 1, cells := 1, slots := 40, locals := 30 }
theorem hd_iRow : yX6_init.cls ≠ "java/lang/invoke/MethodHandle" ∧ yX6_init.cls ≠ "java/lang/invoke/VarHandle" ∧ (parseMethodDescriptor yX6_init.desc).map (fun d => d.parameters.length) = some 0 := by decide +kernel
theorem hb_Row : ∀ j, j < 3 → defaultValue (tyX6 j) = vp_V [.null, .int 0, .int 0] j := by decide
theorem koX6_3 : Cond.methodLink RX6 3 objectInit ∈ wsX6_init ∧ Cond.instanceMethod objectInit ∈ wsX6_init ∧ Cond.code objectInit ⟨#[0xb1]⟩ 1 none ∈ wsX6_init := by decide +kernel
theorem krX6_int : Cond.arrayClass .int ∈ wsX6_init := by decide +kernel
theorem qiX6_9_0 : fw_G wsX6_init RX6 9 RX6 TX6 3 0 := ⟨by decide +kernel, by decide +kernel, by decide⟩
theorem qiX6_15_1 : fw_G wsX6_init RX6 15 RX6 TX6 3 1 := ⟨by decide +kernel, by decide +kernel, by decide⟩
theorem qiX6_19_2 : fw_G wsX6_init RX6 19 RX6 TX6 3 2 := ⟨by decide +kernel, by decide +kernel, by decide⟩
set_option maxRecDepth 100000 in
set_option maxHeartbeats 4000000 in
theorem ci_Row {p : Program} {l : Launch} {e : Env} {s : State} {m : MethodId} {args : Array Value} {below : List Frame} {meth : Method} {c : Code} {D : va_G} {cI cZ cH cR : ClassId} {b0 k : Nat} {F E0 : Nat → va_E} (C : fk_C p s m args meth c cX6_init RX6 wsX6_init 1 D vwCl (fw_tys cI cZ cH cR) nw_k) (hin : meth.name = "<init>") (hr : meth.sig.returnType = none) (hF : pk_Row F b0 cI cZ cH cR k) (hb : E0 k = .inr (6, [.null, .int 0, .int 0])) : fk_J p l e (headSpec wsX6_init rk_Row).room s m args below meth c D vwCl b0 1 (fk_E below args s D vwCl b0 (k + 2) (fk_fill F E0 k 2) 1 40) 0 0 (k + 1) E0 [(0, .ref (b0 + k))] 0 [] := by
  have o0 : ∀ j, j < k → E0 j = E0 j := fun _ _ => rfl
  refine fk_aload_n (pc := 0) C 0 dX6_init_0 rfl rfl ?_
  refine fk_obj (pc := 1) C koX6_3 (Nat.le_of_ble_eq_true rfl) (Nat.le_of_ble_eq_true rfl) dX6_init_1 ?_
  refine fk_aload_n (pc := 4) C 0 dX6_init_4 rfl rfl ?_
  refine fk_bipush (pc := 5) C (v := 40) dX6_init_5 fk_bipush_40 ?_
  refine fk_newa (pc := 7) C (n := (k + 1)) (N' := 40) (a0 := (40, .inl (fun _ => 0))) (cA := cI) 0 krX6_int rfl rfl rfl (fun _ => rfl) (by decide) (by decide) (by decide) ⟨Nat.le_of_ble_eq_true rfl, Nat.le_of_ble_eq_true rfl⟩ dX6_init_7 (fun E1 g1_E1 g2_E1 => ?_)
  have hE1 : E1 (k + 1) = .inl (cI, 40, .inl (fun _ => 0)) := g1_E1
  have hE1_7 : E1 k = .inr (6, [.null, .int 0, .int 0]) := (g2_E1 _ (by omega)).trans hb
  have oE1_8 : ∀ j, j < k → E1 j = E0 j := fun j z => (g2_E1 j (by omega)).trans (o0 j z)
  refine fk_putF (pc := 9) C hin (by omega) hE1_7 rfl qiX6_9_0 tyX6 tyX6_ok nmX6 rfl rfl rfl rfl rfl (Nat.le_of_ble_eq_true rfl) dX6_init_9 (fun E2 g1_E2 g2_E2 => ?_)
  have hE2 : E2 k = .inr (6, [.ref (b0 + (k + 1)), .int 0, .int 0]) := g1_E2
  have hE2_11 : E2 (k + 1) = .inl (cI, 40, .inl (fun _ => 0)) := (g2_E2 _ (by omega)).trans hE1
  have oE2_12 : ∀ j, j < k → E2 j = E0 j := fun j z => (g2_E2 j (by omega)).trans (oE1_8 j z)
  refine fk_aload_n (pc := 12) C 0 dX6_init_12 rfl rfl ?_
  refine fk_iconst (pc := 13) C (v := 0) dX6_init_13 fk_iconst_0 ?_
  refine fk_put (pc := 14) C (by omega) hE2 rfl qiX6_15_1 tyX6 tyX6_ok nmX6 rfl rfl rfl rfl (Nat.le_of_ble_eq_true rfl) dX6_init_14 (fun E3 g1_E3 g2_E3 => ?_)
  have hE3 : E3 k = .inr (6, [.ref (b0 + (k + 1)), .int 0, .int 0]) := g1_E3
  have hE3_17 : E3 (k + 1) = .inl (cI, 40, .inl (fun _ => 0)) := (g2_E3 _ (by omega)).trans hE2_11
  have oE3_18 : ∀ j, j < k → E3 j = E0 j := fun j z => (g2_E3 j (by omega)).trans (oE2_12 j z)
  refine fk_aload_n (pc := 17) C 0 dX6_init_17 rfl rfl ?_
  refine fk_iconst (pc := 18) C (v := -1) dX6_init_18 fk_iconst_m1 ?_
  refine fk_put (pc := 19) C (by omega) hE3 rfl qiX6_19_2 tyX6 tyX6_ok nmX6 rfl rfl rfl rfl (Nat.le_of_ble_eq_true rfl) dX6_init_19 (fun E4 g1_E4 g2_E4 => ?_)
  have hE4 : E4 k = .inr (6, [.ref (b0 + (k + 1)), .int 0, .int (-1)]) := g1_E4
  have hE4_23 : E4 (k + 1) = .inl (cI, 40, .inl (fun _ => 0)) := (g2_E4 _ (by omega)).trans hE3_17
  have oE4_24 : ∀ j, j < k → E4 j = E0 j := fun j z => (g2_E4 j (by omega)).trans (oE3_18 j z)
  refine fk_vret (pc := 22) C hr ?_ dX6_init_22
  intro j hj
  unfold fk_fill
  by_cases z0 : j < k
  · rw [if_neg (by omega)]; exact Or.inl (oE4_24 j z0)
  rw [if_pos (by omega)]
  by_cases z1 : j = k
  · subst z1; exact Or.inl (hE4.trans hF.1.symm)
  by_cases z2 : j = (k + 1)
  · subst z2; exact Or.inl (hE4_23.trans hF.2.symm)
  omega
set_option maxRecDepth 100000 in
theorem ck_Row {l : Launch} {D : va_G} {cI cZ cH cR : ClassId} {b0 k : Nat} {F E0 : Nat → va_E} (hF : pk_Row F b0 cI cZ cH cR k) (hb : E0 k = .inr (6, [.null, .int 0, .int 0])) : fk_Met l yX6_init wsX6_init rk_Row D vwCl (fw_tys cI cZ cH cR) nw_k b0 [.ref (b0 + k)] (k + 1) E0 (k + 2) (fk_fill F E0 k 2) 1 40 :=
  fk_intro (cc := cX6_init) (maxL := 1) (own := RX6) (by decide) rfl rfl rfl (Nat.le_of_ble_eq_true rfl) (fun p e s m args below meth c C hin hr => fk_sub [0] rfl (ci_Row C hin hr hF hb))
abbrev rk_Tape : Room := { frames := 1, cells := 1, slots := 100, locals := 30 }
theorem hd_iTape : yX7_init.cls ≠ "java/lang/invoke/MethodHandle" ∧ yX7_init.cls ≠ "java/lang/invoke/VarHandle" ∧ (parseMethodDescriptor yX7_init.desc).map (fun d => d.parameters.length) = some 0 := by decide +kernel
theorem hb_Tape : ∀ j, j < 4 → defaultValue (tyX7 j) = vp_V [.null, .int 0, .int 0, .int 0] j := by decide
theorem koX7_3 : Cond.methodLink RX7 3 objectInit ∈ wsX7_init ∧ Cond.instanceMethod objectInit ∈ wsX7_init ∧ Cond.code objectInit ⟨#[0xb1]⟩ 1 none ∈ wsX7_init := by decide +kernel
theorem krX7_int : Cond.arrayClass .int ∈ wsX7_init := by decide +kernel
theorem qiX7_9_0 : fw_G wsX7_init RX7 9 RX7 TX7 4 0 := ⟨by decide +kernel, by decide +kernel, by decide⟩
theorem qiX7_15_1 : fw_G wsX7_init RX7 15 RX7 TX7 4 1 := ⟨by decide +kernel, by decide +kernel, by decide⟩
theorem qiX7_19_2 : fw_G wsX7_init RX7 19 RX7 TX7 4 2 := ⟨by decide +kernel, by decide +kernel, by decide⟩
theorem qiX7_22_3 : fw_G wsX7_init RX7 22 RX7 TX7 4 3 := ⟨by decide +kernel, by decide +kernel, by decide⟩
set_option maxRecDepth 100000 in
set_option maxHeartbeats 4000000 in
theorem ci_Tape {p : Program} {l : Launch} {e : Env} {s : State} {m : MethodId} {args : Array Value} {below : List Frame} {meth : Method} {c : Code} {D : va_G} {cI cZ cH cR : ClassId} {b0 k : Nat} {F E0 : Nat → va_E} (C : fk_C p s m args meth c cX7_init RX7 wsX7_init 1 D vwCl (fw_tys cI cZ cH cR) nw_k) (hin : meth.name = "<init>") (hr : meth.sig.returnType = none) (hF : pk_Tape F b0 cI cZ cH cR k) (hb : E0 k = .inr (7, [.null, .int 0, .int 0, .int 0])) : fk_J p l e (headSpec wsX7_init rk_Tape).room s m args below meth c D vwCl b0 1 (fk_E below args s D vwCl b0 (k + 2) (fk_fill F E0 k 2) 1 100) 0 0 (k + 1) E0 [(0, .ref (b0 + k))] 0 [] := by
  have o0 : ∀ j, j < k → E0 j = E0 j := fun _ _ => rfl
  refine fk_aload_n (pc := 0) C 0 dX7_init_0 rfl rfl ?_
  refine fk_obj (pc := 1) C koX7_3 (Nat.le_of_ble_eq_true rfl) (Nat.le_of_ble_eq_true rfl) dX7_init_1 ?_
  refine fk_aload_n (pc := 4) C 0 dX7_init_4 rfl rfl ?_
  refine fk_bipush (pc := 5) C (v := 100) dX7_init_5 fk_bipush_100 ?_
  refine fk_newa (pc := 7) C (n := (k + 1)) (N' := 100) (a0 := (100, .inl (fun _ => 0))) (cA := cI) 0 krX7_int rfl rfl rfl (fun _ => rfl) (by decide) (by decide) (by decide) ⟨Nat.le_of_ble_eq_true rfl, Nat.le_of_ble_eq_true rfl⟩ dX7_init_7 (fun E1 g1_E1 g2_E1 => ?_)
  have hE1 : E1 (k + 1) = .inl (cI, 100, .inl (fun _ => 0)) := g1_E1
  have hE1_7 : E1 k = .inr (7, [.null, .int 0, .int 0, .int 0]) := (g2_E1 _ (by omega)).trans hb
  have oE1_8 : ∀ j, j < k → E1 j = E0 j := fun j z => (g2_E1 j (by omega)).trans (o0 j z)
  refine fk_putF (pc := 9) C hin (by omega) hE1_7 rfl qiX7_9_0 tyX7 tyX7_ok nmX7 rfl rfl rfl rfl rfl (Nat.le_of_ble_eq_true rfl) dX7_init_9 (fun E2 g1_E2 g2_E2 => ?_)
  have hE2 : E2 k = .inr (7, [.ref (b0 + (k + 1)), .int 0, .int 0, .int 0]) := g1_E2
  have hE2_11 : E2 (k + 1) = .inl (cI, 100, .inl (fun _ => 0)) := (g2_E2 _ (by omega)).trans hE1
  have oE2_12 : ∀ j, j < k → E2 j = E0 j := fun j z => (g2_E2 j (by omega)).trans (oE1_8 j z)
  refine fk_aload_n (pc := 12) C 0 dX7_init_12 rfl rfl ?_
  refine fk_iconst (pc := 13) C (v := 0) dX7_init_13 fk_iconst_0 ?_
  refine fk_put (pc := 14) C (by omega) hE2 rfl qiX7_15_1 tyX7 tyX7_ok nmX7 rfl rfl rfl rfl (Nat.le_of_ble_eq_true rfl) dX7_init_14 (fun E3 g1_E3 g2_E3 => ?_)
  have hE3 : E3 k = .inr (7, [.ref (b0 + (k + 1)), .int 0, .int 0, .int 0]) := g1_E3
  have hE3_17 : E3 (k + 1) = .inl (cI, 100, .inl (fun _ => 0)) := (g2_E3 _ (by omega)).trans hE2_11
  have oE3_18 : ∀ j, j < k → E3 j = E0 j := fun j z => (g2_E3 j (by omega)).trans (oE2_12 j z)
  refine fk_aload_n (pc := 17) C 0 dX7_init_17 rfl rfl ?_
  refine fk_iconst (pc := 18) C (v := 0) dX7_init_18 fk_iconst_0 ?_
  refine fk_put (pc := 19) C (by omega) hE3 rfl qiX7_19_2 tyX7 tyX7_ok nmX7 rfl rfl rfl rfl (Nat.le_of_ble_eq_true rfl) dX7_init_19 (fun E4 g1_E4 g2_E4 => ?_)
  have hE4 : E4 k = .inr (7, [.ref (b0 + (k + 1)), .int 0, .int 0, .int 0]) := g1_E4
  have hE4_23 : E4 (k + 1) = .inl (cI, 100, .inl (fun _ => 0)) := (g2_E4 _ (by omega)).trans hE3_17
  have oE4_24 : ∀ j, j < k → E4 j = E0 j := fun j z => (g2_E4 j (by omega)).trans (oE3_18 j z)
  refine fk_aload_n (pc := 22) C 0 dX7_init_22 rfl rfl ?_
  refine fk_iconst (pc := 23) C (v := 0) dX7_init_23 fk_iconst_0 ?_
  refine fk_put (pc := 24) C (by omega) hE4 rfl qiX7_22_3 tyX7 tyX7_ok nmX7 rfl rfl rfl rfl (Nat.le_of_ble_eq_true rfl) dX7_init_24 (fun E5 g1_E5 g2_E5 => ?_)
  have hE5 : E5 k = .inr (7, [.ref (b0 + (k + 1)), .int 0, .int 0, .int 0]) := g1_E5
  have hE5_29 : E5 (k + 1) = .inl (cI, 100, .inl (fun _ => 0)) := (g2_E5 _ (by omega)).trans hE4_23
  have oE5_30 : ∀ j, j < k → E5 j = E0 j := fun j z => (g2_E5 j (by omega)).trans (oE4_24 j z)
  refine fk_vret (pc := 27) C hr ?_ dX7_init_27
  intro j hj
  unfold fk_fill
  by_cases z0 : j < k
  · rw [if_neg (by omega)]; exact Or.inl (oE5_30 j z0)
  rw [if_pos (by omega)]
  by_cases z1 : j = k
  · subst z1; exact Or.inl (hE5.trans hF.1.symm)
  by_cases z2 : j = (k + 1)
  · subst z2; exact Or.inl (hE5_29.trans hF.2.symm)
  omega
set_option maxRecDepth 100000 in
theorem ck_Tape {l : Launch} {D : va_G} {cI cZ cH cR : ClassId} {b0 k : Nat} {F E0 : Nat → va_E} (hF : pk_Tape F b0 cI cZ cH cR k) (hb : E0 k = .inr (7, [.null, .int 0, .int 0, .int 0])) : fk_Met l yX7_init wsX7_init rk_Tape D vwCl (fw_tys cI cZ cH cR) nw_k b0 [.ref (b0 + k)] (k + 1) E0 (k + 2) (fk_fill F E0 k 2) 1 100 :=
  fk_intro (cc := cX7_init) (maxL := 1) (own := RX7) (by decide) rfl rfl rfl (Nat.le_of_ble_eq_true rfl) (fun p e s m args below meth c C hin hr => fk_sub [0] rfl (ci_Tape C hin hr hF hb))
abbrev rk_Law : Room := { frames := 1, cells := 1, slots := 7, locals := 30 }
theorem hd_iLaw : yX4_init.cls ≠ "java/lang/invoke/MethodHandle" ∧ yX4_init.cls ≠ "java/lang/invoke/VarHandle" ∧ (parseMethodDescriptor yX4_init.desc).map (fun d => d.parameters.length) = some 0 := by decide +kernel
theorem hb_Law : ∀ j, j < 1 → defaultValue (tyX4 j) = vp_V [.null] j := by decide
theorem koX4_3 : Cond.methodLink RX4 3 objectInit ∈ wsX4_init ∧ Cond.instanceMethod objectInit ∈ wsX4_init ∧ Cond.code objectInit ⟨#[0xb1]⟩ 1 none ∈ wsX4_init := by decide +kernel
theorem krX4_int : Cond.arrayClass .int ∈ wsX4_init := by decide +kernel
theorem qiX4_9_0 : fw_G wsX4_init RX4 9 RX4 TX4 1 0 := ⟨by decide +kernel, by decide +kernel, by decide⟩
set_option maxRecDepth 100000 in
set_option maxHeartbeats 4000000 in
theorem ci_Law {p : Program} {l : Launch} {e : Env} {s : State} {m : MethodId} {args : Array Value} {below : List Frame} {meth : Method} {c : Code} {D : va_G} {cI cZ cH cR : ClassId} {b0 k : Nat} {F E0 : Nat → va_E} (C : fk_C p s m args meth c cX4_init RX4 wsX4_init 1 D vwCl (fw_tys cI cZ cH cR) nw_k) (hin : meth.name = "<init>") (hr : meth.sig.returnType = none) (hF : pk_Law F b0 cI cZ cH cR k) (hb : E0 k = .inr (4, [.null])) : fk_J p l e (headSpec wsX4_init rk_Law).room s m args below meth c D vwCl b0 1 (fk_E below args s D vwCl b0 (k + 2) (fk_fill F E0 k 2) 1 7) 0 0 (k + 1) E0 [(0, .ref (b0 + k))] 0 [] := by
  have o0 : ∀ j, j < k → E0 j = E0 j := fun _ _ => rfl
  refine fk_aload_n (pc := 0) C 0 dX4_init_0 rfl rfl ?_
  refine fk_obj (pc := 1) C koX4_3 (Nat.le_of_ble_eq_true rfl) (Nat.le_of_ble_eq_true rfl) dX4_init_1 ?_
  refine fk_aload_n (pc := 4) C 0 dX4_init_4 rfl rfl ?_
  refine fk_bipush (pc := 5) C (v := 7) dX4_init_5 fk_bipush_7 ?_
  refine fk_newa (pc := 7) C (n := (k + 1)) (N' := 7) (a0 := (7, .inl (fun _ => 0))) (cA := cI) 0 krX4_int rfl rfl rfl (fun _ => rfl) (by decide) (by decide) (by decide) ⟨Nat.le_of_ble_eq_true rfl, Nat.le_of_ble_eq_true rfl⟩ dX4_init_7 (fun E1 g1_E1 g2_E1 => ?_)
  have hE1 : E1 (k + 1) = .inl (cI, 7, .inl (fun _ => 0)) := g1_E1
  have hE1_7 : E1 k = .inr (4, [.null]) := (g2_E1 _ (by omega)).trans hb
  have oE1_8 : ∀ j, j < k → E1 j = E0 j := fun j z => (g2_E1 j (by omega)).trans (o0 j z)
  refine fk_putF (pc := 9) C hin (by omega) hE1_7 rfl qiX4_9_0 tyX4 tyX4_ok nmX4 rfl rfl rfl rfl rfl (Nat.le_of_ble_eq_true rfl) dX4_init_9 (fun E2 g1_E2 g2_E2 => ?_)
  have hE2 : E2 k = .inr (4, [.ref (b0 + (k + 1))]) := g1_E2
  have hE2_11 : E2 (k + 1) = .inl (cI, 7, .inl (fun _ => 0)) := (g2_E2 _ (by omega)).trans hE1
  have oE2_12 : ∀ j, j < k → E2 j = E0 j := fun j z => (g2_E2 j (by omega)).trans (oE1_8 j z)
  refine fk_vret (pc := 12) C hr ?_ dX4_init_12
  intro j hj
  unfold fk_fill
  by_cases z0 : j < k
  · rw [if_neg (by omega)]; exact Or.inl (oE2_12 j z0)
  rw [if_pos (by omega)]
  by_cases z1 : j = k
  · subst z1; exact Or.inl (hE2.trans hF.1.symm)
  by_cases z2 : j = (k + 1)
  · subst z2; exact Or.inl (hE2_11.trans hF.2.symm)
  omega
set_option maxRecDepth 100000 in
theorem ck_Law {l : Launch} {D : va_G} {cI cZ cH cR : ClassId} {b0 k : Nat} {F E0 : Nat → va_E} (hF : pk_Law F b0 cI cZ cH cR k) (hb : E0 k = .inr (4, [.null])) : fk_Met l yX4_init wsX4_init rk_Law D vwCl (fw_tys cI cZ cH cR) nw_k b0 [.ref (b0 + k)] (k + 1) E0 (k + 2) (fk_fill F E0 k 2) 1 7 :=
  fk_intro (cc := cX4_init) (maxL := 1) (own := RX4) (by decide) rfl rfl rfl (Nat.le_of_ble_eq_true rfl) (fun p e s m args below meth c C hin hr => fk_sub [0] rfl (ci_Law C hin hr hF hb))
abbrev rk_Line : Room := { frames := 1, cells := 2, slots := 14, locals := 30 }
theorem hd_iLine : yX5_init.cls ≠ "java/lang/invoke/MethodHandle" ∧ yX5_init.cls ≠ "java/lang/invoke/VarHandle" ∧ (parseMethodDescriptor yX5_init.desc).map (fun d => d.parameters.length) = some 0 := by decide +kernel
theorem hb_Line : ∀ j, j < 4 → defaultValue (tyX5 j) = vp_V [.null, .null, .int 0, .int 0] j := by decide
theorem koX5_3 : Cond.methodLink RX5 3 objectInit ∈ wsX5_init ∧ Cond.instanceMethod objectInit ∈ wsX5_init ∧ Cond.code objectInit ⟨#[0xb1]⟩ 1 none ∈ wsX5_init := by decide +kernel
theorem krX5_int : Cond.arrayClass .int ∈ wsX5_init := by decide +kernel
theorem qiX5_9_0 : fw_G wsX5_init RX5 9 RX5 TX5 4 0 := ⟨by decide +kernel, by decide +kernel, by decide⟩
theorem qiX5_15_1 : fw_G wsX5_init RX5 15 RX5 TX5 4 1 := ⟨by decide +kernel, by decide +kernel, by decide⟩
theorem qiX5_18_2 : fw_G wsX5_init RX5 18 RX5 TX5 4 2 := ⟨by decide +kernel, by decide +kernel, by decide⟩
theorem qiX5_22_3 : fw_G wsX5_init RX5 22 RX5 TX5 4 3 := ⟨by decide +kernel, by decide +kernel, by decide⟩
set_option maxRecDepth 100000 in
set_option maxHeartbeats 4000000 in
theorem ci_Line {p : Program} {l : Launch} {e : Env} {s : State} {m : MethodId} {args : Array Value} {below : List Frame} {meth : Method} {c : Code} {D : va_G} {cI cZ cH cR : ClassId} {b0 k : Nat} {F E0 : Nat → va_E} (C : fk_C p s m args meth c cX5_init RX5 wsX5_init 1 D vwCl (fw_tys cI cZ cH cR) nw_k) (hin : meth.name = "<init>") (hr : meth.sig.returnType = none) (hF : pk_Line F b0 cI cZ cH cR k) (hb : E0 k = .inr (5, [.null, .null, .int 0, .int 0])) : fk_J p l e (headSpec wsX5_init rk_Line).room s m args below meth c D vwCl b0 1 (fk_E below args s D vwCl b0 (k + 3) (fk_fill F E0 k 3) 2 14) 0 0 (k + 1) E0 [(0, .ref (b0 + k))] 0 [] := by
  have o0 : ∀ j, j < k → E0 j = E0 j := fun _ _ => rfl
  refine fk_aload_n (pc := 0) C 0 dX5_init_0 rfl rfl ?_
  refine fk_obj (pc := 1) C koX5_3 (Nat.le_of_ble_eq_true rfl) (Nat.le_of_ble_eq_true rfl) dX5_init_1 ?_
  refine fk_aload_n (pc := 4) C 0 dX5_init_4 rfl rfl ?_
  refine fk_bipush (pc := 5) C (v := 7) dX5_init_5 fk_bipush_7 ?_
  refine fk_newa (pc := 7) C (n := (k + 1)) (N' := 7) (a0 := (7, .inl (fun _ => 0))) (cA := cI) 0 krX5_int rfl rfl rfl (fun _ => rfl) (by decide) (by decide) (by decide) ⟨Nat.le_of_ble_eq_true rfl, Nat.le_of_ble_eq_true rfl⟩ dX5_init_7 (fun E1 g1_E1 g2_E1 => ?_)
  have hE1 : E1 (k + 1) = .inl (cI, 7, .inl (fun _ => 0)) := g1_E1
  have hE1_7 : E1 k = .inr (5, [.null, .null, .int 0, .int 0]) := (g2_E1 _ (by omega)).trans hb
  have oE1_8 : ∀ j, j < k → E1 j = E0 j := fun j z => (g2_E1 j (by omega)).trans (o0 j z)
  refine fk_putF (pc := 9) C hin (by omega) hE1_7 rfl qiX5_9_0 tyX5 tyX5_ok nmX5 rfl rfl rfl rfl rfl (Nat.le_of_ble_eq_true rfl) dX5_init_9 (fun E2 g1_E2 g2_E2 => ?_)
  have hE2 : E2 k = .inr (5, [.ref (b0 + (k + 1)), .null, .int 0, .int 0]) := g1_E2
  have hE2_11 : E2 (k + 1) = .inl (cI, 7, .inl (fun _ => 0)) := (g2_E2 _ (by omega)).trans hE1
  have oE2_12 : ∀ j, j < k → E2 j = E0 j := fun j z => (g2_E2 j (by omega)).trans (oE1_8 j z)
  refine fk_aload_n (pc := 12) C 0 dX5_init_12 rfl rfl ?_
  refine fk_bipush (pc := 13) C (v := 7) dX5_init_13 fk_bipush_7 ?_
  refine fk_newa (pc := 15) C (n := (k + 2)) (N' := 7) (a0 := (7, .inl (fun _ => 0))) (cA := cI) 0 krX5_int rfl rfl rfl (fun _ => rfl) (by decide) (by decide) (by decide) ⟨Nat.le_of_ble_eq_true rfl, Nat.le_of_ble_eq_true rfl⟩ dX5_init_15 (fun E3 g1_E3 g2_E3 => ?_)
  have hE3 : E3 (k + 2) = .inl (cI, 7, .inl (fun _ => 0)) := g1_E3
  have hE3_17 : E3 k = .inr (5, [.ref (b0 + (k + 1)), .null, .int 0, .int 0]) := (g2_E3 _ (by omega)).trans hE2
  have hE3_18 : E3 (k + 1) = .inl (cI, 7, .inl (fun _ => 0)) := (g2_E3 _ (by omega)).trans hE2_11
  have oE3_19 : ∀ j, j < k → E3 j = E0 j := fun j z => (g2_E3 j (by omega)).trans (oE2_12 j z)
  refine fk_putF (pc := 17) C hin (by omega) hE3_17 rfl qiX5_15_1 tyX5 tyX5_ok nmX5 rfl rfl rfl rfl rfl (Nat.le_of_ble_eq_true rfl) dX5_init_17 (fun E4 g1_E4 g2_E4 => ?_)
  have hE4 : E4 k = .inr (5, [.ref (b0 + (k + 1)), .ref (b0 + (k + 2)), .int 0, .int 0]) := g1_E4
  have hE4_22 : E4 (k + 1) = .inl (cI, 7, .inl (fun _ => 0)) := (g2_E4 _ (by omega)).trans hE3_18
  have hE4_23 : E4 (k + 2) = .inl (cI, 7, .inl (fun _ => 0)) := (g2_E4 _ (by omega)).trans hE3
  have oE4_24 : ∀ j, j < k → E4 j = E0 j := fun j z => (g2_E4 j (by omega)).trans (oE3_19 j z)
  refine fk_aload_n (pc := 20) C 0 dX5_init_20 rfl rfl ?_
  refine fk_iconst (pc := 21) C (v := 0) dX5_init_21 fk_iconst_0 ?_
  refine fk_put (pc := 22) C (by omega) hE4 rfl qiX5_18_2 tyX5 tyX5_ok nmX5 rfl rfl rfl rfl (Nat.le_of_ble_eq_true rfl) dX5_init_22 (fun E5 g1_E5 g2_E5 => ?_)
  have hE5 : E5 k = .inr (5, [.ref (b0 + (k + 1)), .ref (b0 + (k + 2)), .int 0, .int 0]) := g1_E5
  have hE5_29 : E5 (k + 1) = .inl (cI, 7, .inl (fun _ => 0)) := (g2_E5 _ (by omega)).trans hE4_22
  have hE5_30 : E5 (k + 2) = .inl (cI, 7, .inl (fun _ => 0)) := (g2_E5 _ (by omega)).trans hE4_23
  have oE5_31 : ∀ j, j < k → E5 j = E0 j := fun j z => (g2_E5 j (by omega)).trans (oE4_24 j z)
  refine fk_aload_n (pc := 25) C 0 dX5_init_25 rfl rfl ?_
  refine fk_iconst (pc := 26) C (v := 0) dX5_init_26 fk_iconst_0 ?_
  refine fk_put (pc := 27) C (by omega) hE5 rfl qiX5_22_3 tyX5 tyX5_ok nmX5 rfl rfl rfl rfl (Nat.le_of_ble_eq_true rfl) dX5_init_27 (fun E6 g1_E6 g2_E6 => ?_)
  have hE6 : E6 k = .inr (5, [.ref (b0 + (k + 1)), .ref (b0 + (k + 2)), .int 0, .int 0]) := g1_E6
  have hE6_36 : E6 (k + 1) = .inl (cI, 7, .inl (fun _ => 0)) := (g2_E6 _ (by omega)).trans hE5_29
  have hE6_37 : E6 (k + 2) = .inl (cI, 7, .inl (fun _ => 0)) := (g2_E6 _ (by omega)).trans hE5_30
  have oE6_38 : ∀ j, j < k → E6 j = E0 j := fun j z => (g2_E6 j (by omega)).trans (oE5_31 j z)
  refine fk_vret (pc := 30) C hr ?_ dX5_init_30
  intro j hj
  unfold fk_fill
  by_cases z0 : j < k
  · rw [if_neg (by omega)]; exact Or.inl (oE6_38 j z0)
  rw [if_pos (by omega)]
  by_cases z1 : j = k
  · subst z1; exact Or.inl (hE6.trans hF.1.symm)
  by_cases z2 : j = (k + 1)
  · subst z2; exact Or.inl (hE6_36.trans hF.2.1.symm)
  by_cases z3 : j = (k + 2)
  · subst z3; exact Or.inl (hE6_37.trans hF.2.2.symm)
  omega
set_option maxRecDepth 100000 in
theorem ck_Line {l : Launch} {D : va_G} {cI cZ cH cR : ClassId} {b0 k : Nat} {F E0 : Nat → va_E} (hF : pk_Line F b0 cI cZ cH cR k) (hb : E0 k = .inr (5, [.null, .null, .int 0, .int 0])) : fk_Met l yX5_init wsX5_init rk_Line D vwCl (fw_tys cI cZ cH cR) nw_k b0 [.ref (b0 + k)] (k + 1) E0 (k + 3) (fk_fill F E0 k 3) 2 14 :=
  fk_intro (cc := cX5_init) (maxL := 1) (own := RX5) (by decide) rfl rfl rfl (Nat.le_of_ble_eq_true rfl) (fun p e s m args below meth c C hin hr => fk_sub [0] rfl (ci_Line C hin hr hF hb))
abbrev rk_Asking : Room := { frames := 1, cells := 1, slots := 16, locals := 30 }
theorem hd_iAsking : yX1_init.cls ≠ "java/lang/invoke/MethodHandle" ∧ yX1_init.cls ≠ "java/lang/invoke/VarHandle" ∧ (parseMethodDescriptor yX1_init.desc).map (fun d => d.parameters.length) = some 0 := by decide +kernel
theorem hb_Asking : ∀ j, j < 2 → defaultValue (tyX1 j) = vp_V [.null, .int 0] j := by decide
theorem koX1_3 : Cond.methodLink RX1 3 objectInit ∈ wsX1_init ∧ Cond.instanceMethod objectInit ∈ wsX1_init ∧ Cond.code objectInit ⟨#[0xb1]⟩ 1 none ∈ wsX1_init := by decide +kernel
theorem krX1_int : Cond.arrayClass .int ∈ wsX1_init := by decide +kernel
theorem qiX1_9_0 : fw_G wsX1_init RX1 9 RX1 TX1 2 0 := ⟨by decide +kernel, by decide +kernel, by decide⟩
theorem qiX1_15_1 : fw_G wsX1_init RX1 15 RX1 TX1 2 1 := ⟨by decide +kernel, by decide +kernel, by decide⟩
set_option maxRecDepth 100000 in
set_option maxHeartbeats 4000000 in
theorem ci_Asking {p : Program} {l : Launch} {e : Env} {s : State} {m : MethodId} {args : Array Value} {below : List Frame} {meth : Method} {c : Code} {D : va_G} {cI cZ cH cR : ClassId} {b0 k : Nat} {F E0 : Nat → va_E} (C : fk_C p s m args meth c cX1_init RX1 wsX1_init 1 D vwCl (fw_tys cI cZ cH cR) nw_k) (hin : meth.name = "<init>") (hr : meth.sig.returnType = none) (hF : pk_Asking F b0 cI cZ cH cR k) (hb : E0 k = .inr (1, [.null, .int 0])) : fk_J p l e (headSpec wsX1_init rk_Asking).room s m args below meth c D vwCl b0 1 (fk_E below args s D vwCl b0 (k + 2) (fk_fill F E0 k 2) 1 16) 0 0 (k + 1) E0 [(0, .ref (b0 + k))] 0 [] := by
  have o0 : ∀ j, j < k → E0 j = E0 j := fun _ _ => rfl
  refine fk_aload_n (pc := 0) C 0 dX1_init_0 rfl rfl ?_
  refine fk_obj (pc := 1) C koX1_3 (Nat.le_of_ble_eq_true rfl) (Nat.le_of_ble_eq_true rfl) dX1_init_1 ?_
  refine fk_aload_n (pc := 4) C 0 dX1_init_4 rfl rfl ?_
  refine fk_bipush (pc := 5) C (v := 16) dX1_init_5 fk_bipush_16 ?_
  refine fk_newa (pc := 7) C (n := (k + 1)) (N' := 16) (a0 := (16, .inl (fun _ => 0))) (cA := cI) 0 krX1_int rfl rfl rfl (fun _ => rfl) (by decide) (by decide) (by decide) ⟨Nat.le_of_ble_eq_true rfl, Nat.le_of_ble_eq_true rfl⟩ dX1_init_7 (fun E1 g1_E1 g2_E1 => ?_)
  have hE1 : E1 (k + 1) = .inl (cI, 16, .inl (fun _ => 0)) := g1_E1
  have hE1_7 : E1 k = .inr (1, [.null, .int 0]) := (g2_E1 _ (by omega)).trans hb
  have oE1_8 : ∀ j, j < k → E1 j = E0 j := fun j z => (g2_E1 j (by omega)).trans (o0 j z)
  refine fk_putF (pc := 9) C hin (by omega) hE1_7 rfl qiX1_9_0 tyX1 tyX1_ok nmX1 rfl rfl rfl rfl rfl (Nat.le_of_ble_eq_true rfl) dX1_init_9 (fun E2 g1_E2 g2_E2 => ?_)
  have hE2 : E2 k = .inr (1, [.ref (b0 + (k + 1)), .int 0]) := g1_E2
  have hE2_11 : E2 (k + 1) = .inl (cI, 16, .inl (fun _ => 0)) := (g2_E2 _ (by omega)).trans hE1
  have oE2_12 : ∀ j, j < k → E2 j = E0 j := fun j z => (g2_E2 j (by omega)).trans (oE1_8 j z)
  refine fk_aload_n (pc := 12) C 0 dX1_init_12 rfl rfl ?_
  refine fk_iconst (pc := 13) C (v := 0) dX1_init_13 fk_iconst_0 ?_
  refine fk_put (pc := 14) C (by omega) hE2 rfl qiX1_15_1 tyX1 tyX1_ok nmX1 rfl rfl rfl rfl (Nat.le_of_ble_eq_true rfl) dX1_init_14 (fun E3 g1_E3 g2_E3 => ?_)
  have hE3 : E3 k = .inr (1, [.ref (b0 + (k + 1)), .int 0]) := g1_E3
  have hE3_17 : E3 (k + 1) = .inl (cI, 16, .inl (fun _ => 0)) := (g2_E3 _ (by omega)).trans hE2_11
  have oE3_18 : ∀ j, j < k → E3 j = E0 j := fun j z => (g2_E3 j (by omega)).trans (oE2_12 j z)
  refine fk_vret (pc := 17) C hr ?_ dX1_init_17
  intro j hj
  unfold fk_fill
  by_cases z0 : j < k
  · rw [if_neg (by omega)]; exact Or.inl (oE3_18 j z0)
  rw [if_pos (by omega)]
  by_cases z1 : j = k
  · subst z1; exact Or.inl (hE3.trans hF.1.symm)
  by_cases z2 : j = (k + 1)
  · subst z2; exact Or.inl (hE3_17.trans hF.2.symm)
  omega
set_option maxRecDepth 100000 in
theorem ck_Asking {l : Launch} {D : va_G} {cI cZ cH cR : ClassId} {b0 k : Nat} {F E0 : Nat → va_E} (hF : pk_Asking F b0 cI cZ cH cR k) (hb : E0 k = .inr (1, [.null, .int 0])) : fk_Met l yX1_init wsX1_init rk_Asking D vwCl (fw_tys cI cZ cH cR) nw_k b0 [.ref (b0 + k)] (k + 1) E0 (k + 2) (fk_fill F E0 k 2) 1 16 :=
  fk_intro (cc := cX1_init) (maxL := 1) (own := RX1) (by decide) rfl rfl rfl (Nat.le_of_ble_eq_true rfl) (fun p e s m args below meth c C hin hr => fk_sub [0] rfl (ci_Asking C hin hr hF hb))
abbrev rk_Fore : Room := { frames := 2, cells := 11, slots := 70, locals := 60 }
theorem hd_iFore : yX2_init.cls ≠ "java/lang/invoke/MethodHandle" ∧ yX2_init.cls ≠ "java/lang/invoke/VarHandle" ∧ (parseMethodDescriptor yX2_init.desc).map (fun d => d.parameters.length) = some 0 := by decide +kernel
theorem hb_Fore : ∀ j, j < 3 → defaultValue (tyX2 j) = vp_V [.null, .null, .null] j := by decide
theorem koX2_3 : Cond.methodLink RX2 3 objectInit ∈ wsX2_init ∧ Cond.instanceMethod objectInit ∈ wsX2_init ∧ Cond.code objectInit ⟨#[0xb1]⟩ 1 none ∈ wsX2_init := by decide +kernel
theorem kwX2_9 : Cond.classLink RX2 9 RX3 ∈ wsX2_init ∧ Cond.instantiable RX3 9 ∈ wsX2_init ∧ Cond.initialized RX3 ∈ wsX2_init := by decide +kernel
theorem kiX2_X3 : ∀ w ∈ u_ws RX3 TX3 9, w ∈ wsX2_init := by decide +kernel
theorem kvX2_Hall_11 : Cond.initialized RX3 ∈ wsX2_init ∧ Cond.instanceMethod yX3_init ∈ wsX2_init := by decide +kernel
theorem qiX2_12_0 : fw_G wsX2_init RX2 12 RX2 TX2 3 0 := ⟨by decide +kernel, by decide +kernel, by decide⟩
theorem kwX2_18 : Cond.classLink RX2 18 RX4 ∈ wsX2_init ∧ Cond.instantiable RX4 1 ∈ wsX2_init ∧ Cond.initialized RX4 ∈ wsX2_init := by decide +kernel
theorem kiX2_X4 : ∀ w ∈ u_ws RX4 TX4 1, w ∈ wsX2_init := by decide +kernel
theorem kvX2_Law_20 : Cond.initialized RX4 ∈ wsX2_init ∧ Cond.instanceMethod yX4_init ∈ wsX2_init := by decide +kernel
theorem qiX2_21_1 : fw_G wsX2_init RX2 21 RX2 TX2 3 1 := ⟨by decide +kernel, by decide +kernel, by decide⟩
theorem kwX2_25 : Cond.classLink RX2 25 RX5 ∈ wsX2_init ∧ Cond.instantiable RX5 4 ∈ wsX2_init ∧ Cond.initialized RX5 ∈ wsX2_init := by decide +kernel
theorem kiX2_X5 : ∀ w ∈ u_ws RX5 TX5 4, w ∈ wsX2_init := by decide +kernel
theorem kvX2_Line_27 : Cond.initialized RX5 ∈ wsX2_init ∧ Cond.instanceMethod yX5_init ∈ wsX2_init := by decide +kernel
theorem qiX2_28_2 : fw_G wsX2_init RX2 28 RX2 TX2 3 2 := ⟨by decide +kernel, by decide +kernel, by decide⟩
set_option maxRecDepth 100000 in
set_option maxHeartbeats 4000000 in
theorem ci_Fore {p : Program} {l : Launch} {e : Env} {s : State} {m : MethodId} {args : Array Value} {below : List Frame} {meth : Method} {c : Code} {D : va_G} {cI cZ cH cR : ClassId} {b0 k : Nat} {F E0 : Nat → va_E} (C : fk_C p s m args meth c cX2_init RX2 wsX2_init 1 D vwCl (fw_tys cI cZ cH cR) nw_k) (hin : meth.name = "<init>") (hr : meth.sig.returnType = none) (hF : pk_Fore F b0 cI cZ cH cR k) (hb : E0 k = .inr (2, [.null, .null, .null])) : fk_J p l e (headSpec wsX2_init rk_Fore).room s m args below meth c D vwCl b0 1 (fk_E below args s D vwCl b0 (k + 12) (fk_fill F E0 k 12) 11 70) 0 0 (k + 1) E0 [(0, .ref (b0 + k))] 0 [] := by
  have o0 : ∀ j, j < k → E0 j = E0 j := fun _ _ => rfl
  refine fk_aload_n (pc := 0) C 0 dX2_init_0 rfl rfl ?_
  refine fk_obj (pc := 1) C koX2_3 (Nat.le_of_ble_eq_true rfl) (Nat.le_of_ble_eq_true rfl) dX2_init_1 ?_
  refine fk_aload_n (pc := 4) C 0 dX2_init_4 rfl rfl ?_
  refine fk_new (pc := 5) C (ci := 3) (n := (k + 1)) (fs := [.int 0, .int 0, .int 0, .int 0, .null, .null, .null, .null, .null]) kiX2_X3 tyX3 tyX3_ok kwX2_9 rfl hb_Hall ⟨Nat.le_of_ble_eq_true rfl, Nat.le_of_ble_eq_true rfl⟩ dX2_init_5 (fun E1 g1_E1 g2_E1 => ?_)
  have hE1 : E1 (k + 1) = .inr (3, [.int 0, .int 0, .int 0, .int 0, .null, .null, .null, .null, .null]) := g1_E1
  have hE1_6 : E1 k = .inr (2, [.null, .null, .null]) := (g2_E1 _ (by omega)).trans hb
  have oE1_7 : ∀ j, j < k → E1 j = E0 j := fun j z => (g2_E1 j (by omega)).trans (o0 j z)
  refine fk_dup (pc := 8) C dX2_init_8 rfl ?_
  refine fk_callIN (pc := 9) C (ck_Hall (F := F) (E0 := E1) hF.2.1 hE1) ⟨va_cnB 0 C.2.2.2.2.1 gX2_init_X3_init_n11 rfl rfl rfl (C.2.2.2.2.2.2.1.1 (RX2, 11, yX3_init, "YieldDoors") (by decide +kernel)) (C.2.2.2.2.1 _ kvX2_Hall_11.1) hd_iHall ⟨Nat.le_of_ble_eq_true rfl, Nat.le_of_ble_eq_true rfl⟩, rfl, C.2.2.2.2.1 _ kvX2_Hall_11.2⟩ (Nat.le_of_ble_eq_true rfl) dX2_init_9 ⟨Nat.le_of_ble_eq_true rfl, Nat.le_of_ble_eq_true rfl⟩ ?_
  obtain ⟨E2, eE2⟩ : ∃ z, z = fk_fill F E1 (k + 1) 6 := ⟨_, rfl⟩
  rw [← eE2]
  have g2_E2 : ∀ j, ¬ ((k + 1) ≤ j ∧ j < (k + 1) + 6) → E2 j = E1 j := fun j z => by rw [eE2]; exact if_neg z
  have g1_E2 : ∀ j, (k + 1) ≤ j → j < (k + 1) + 6 → E2 j = F j := fun j z1 z2 => by rw [eE2]; exact if_pos ⟨z1, z2⟩
  have hE2_14 : E2 k = .inr (2, [.null, .null, .null]) := (g2_E2 _ (by omega)).trans hE1_6
  have oE2_15 : ∀ j, j < k → E2 j = E0 j := fun j z => (g2_E2 j (by omega)).trans (oE1_7 j z)
  refine fk_putF (pc := 12) C hin (by omega) hE2_14 rfl qiX2_12_0 tyX2 tyX2_ok nmX2 rfl rfl rfl rfl rfl (Nat.le_of_ble_eq_true rfl) dX2_init_12 (fun E3 g1_E3 g2_E3 => ?_)
  have hE3 : E3 k = .inr (2, [.ref (b0 + (k + 1)), .null, .null]) := g1_E3
  have rE3_18 : ∀ j, (k + 1) ≤ j → j < (k + 1) + 6 → E3 j = F j := fun j z1 z2 => (g2_E3 j (by omega)).trans (g1_E2 j z1 z2)
  have oE3_19 : ∀ j, j < k → E3 j = E0 j := fun j z => (g2_E3 j (by omega)).trans (oE2_15 j z)
  refine fk_aload_n (pc := 15) C 0 dX2_init_15 rfl rfl ?_
  refine fk_new (pc := 16) C (ci := 4) (n := (k + 7)) (fs := [.null]) kiX2_X4 tyX4 tyX4_ok kwX2_18 rfl hb_Law ⟨Nat.le_of_ble_eq_true rfl, Nat.le_of_ble_eq_true rfl⟩ dX2_init_16 (fun E4 g1_E4 g2_E4 => ?_)
  have hE4 : E4 (k + 7) = .inr (4, [.null]) := g1_E4
  have hE4_23 : E4 k = .inr (2, [.ref (b0 + (k + 1)), .null, .null]) := (g2_E4 _ (by omega)).trans hE3
  have rE4_24 : ∀ j, (k + 1) ≤ j → j < (k + 1) + 6 → E4 j = F j := fun j z1 z2 => (g2_E4 j (by omega)).trans (rE3_18 j z1 z2)
  have oE4_25 : ∀ j, j < k → E4 j = E0 j := fun j z => (g2_E4 j (by omega)).trans (oE3_19 j z)
  refine fk_dup (pc := 19) C dX2_init_19 rfl ?_
  refine fk_callIN (pc := 20) C (ck_Law (F := F) (E0 := E4) hF.2.2.1 hE4) ⟨va_cnB 0 C.2.2.2.2.1 gX2_init_X4_init_n20 rfl rfl rfl (C.2.2.2.2.2.2.1.1 (RX2, 20, yX4_init, "YieldDoors") (by decide +kernel)) (C.2.2.2.2.1 _ kvX2_Law_20.1) hd_iLaw ⟨Nat.le_of_ble_eq_true rfl, Nat.le_of_ble_eq_true rfl⟩, rfl, C.2.2.2.2.1 _ kvX2_Law_20.2⟩ (Nat.le_of_ble_eq_true rfl) dX2_init_20 ⟨Nat.le_of_ble_eq_true rfl, Nat.le_of_ble_eq_true rfl⟩ ?_
  obtain ⟨E5, eE5⟩ : ∃ z, z = fk_fill F E4 (k + 7) 2 := ⟨_, rfl⟩
  rw [← eE5]
  have g2_E5 : ∀ j, ¬ ((k + 7) ≤ j ∧ j < (k + 7) + 2) → E5 j = E4 j := fun j z => by rw [eE5]; exact if_neg z
  have g1_E5 : ∀ j, (k + 7) ≤ j → j < (k + 7) + 2 → E5 j = F j := fun j z1 z2 => by rw [eE5]; exact if_pos ⟨z1, z2⟩
  have hE5_32 : E5 k = .inr (2, [.ref (b0 + (k + 1)), .null, .null]) := (g2_E5 _ (by omega)).trans hE4_23
  have rE5_33 : ∀ j, (k + 1) ≤ j → j < (k + 1) + 6 → E5 j = F j := fun j z1 z2 => (g2_E5 j (by omega)).trans (rE4_24 j z1 z2)
  have oE5_34 : ∀ j, j < k → E5 j = E0 j := fun j z => (g2_E5 j (by omega)).trans (oE4_25 j z)
  refine fk_putF (pc := 23) C hin (by omega) hE5_32 rfl qiX2_21_1 tyX2 tyX2_ok nmX2 rfl rfl rfl rfl rfl (Nat.le_of_ble_eq_true rfl) dX2_init_23 (fun E6 g1_E6 g2_E6 => ?_)
  have hE6 : E6 k = .inr (2, [.ref (b0 + (k + 1)), .ref (b0 + (k + 7)), .null]) := g1_E6
  have rE6_37 : ∀ j, (k + 1) ≤ j → j < (k + 1) + 6 → E6 j = F j := fun j z1 z2 => (g2_E6 j (by omega)).trans (rE5_33 j z1 z2)
  have rE6_38 : ∀ j, (k + 7) ≤ j → j < (k + 7) + 2 → E6 j = F j := fun j z1 z2 => (g2_E6 j (by omega)).trans (g1_E5 j z1 z2)
  have oE6_39 : ∀ j, j < k → E6 j = E0 j := fun j z => (g2_E6 j (by omega)).trans (oE5_34 j z)
  refine fk_aload_n (pc := 26) C 0 dX2_init_26 rfl rfl ?_
  refine fk_new (pc := 27) C (ci := 5) (n := (k + 9)) (fs := [.null, .null, .int 0, .int 0]) kiX2_X5 tyX5 tyX5_ok kwX2_25 rfl hb_Line ⟨Nat.le_of_ble_eq_true rfl, Nat.le_of_ble_eq_true rfl⟩ dX2_init_27 (fun E7 g1_E7 g2_E7 => ?_)
  have hE7 : E7 (k + 9) = .inr (5, [.null, .null, .int 0, .int 0]) := g1_E7
  have hE7_43 : E7 k = .inr (2, [.ref (b0 + (k + 1)), .ref (b0 + (k + 7)), .null]) := (g2_E7 _ (by omega)).trans hE6
  have rE7_44 : ∀ j, (k + 1) ≤ j → j < (k + 1) + 6 → E7 j = F j := fun j z1 z2 => (g2_E7 j (by omega)).trans (rE6_37 j z1 z2)
  have rE7_45 : ∀ j, (k + 7) ≤ j → j < (k + 7) + 2 → E7 j = F j := fun j z1 z2 => (g2_E7 j (by omega)).trans (rE6_38 j z1 z2)
  have oE7_46 : ∀ j, j < k → E7 j = E0 j := fun j z => (g2_E7 j (by omega)).trans (oE6_39 j z)
  refine fk_dup (pc := 30) C dX2_init_30 rfl ?_
  refine fk_callIN (pc := 31) C (ck_Line (F := F) (E0 := E7) hF.2.2.2 hE7) ⟨va_cnB 0 C.2.2.2.2.1 gX2_init_X5_init_n27 rfl rfl rfl (C.2.2.2.2.2.2.1.1 (RX2, 27, yX5_init, "YieldDoors") (by decide +kernel)) (C.2.2.2.2.1 _ kvX2_Line_27.1) hd_iLine ⟨Nat.le_of_ble_eq_true rfl, Nat.le_of_ble_eq_true rfl⟩, rfl, C.2.2.2.2.1 _ kvX2_Line_27.2⟩ (Nat.le_of_ble_eq_true rfl) dX2_init_31 ⟨Nat.le_of_ble_eq_true rfl, Nat.le_of_ble_eq_true rfl⟩ ?_
  obtain ⟨E8, eE8⟩ : ∃ z, z = fk_fill F E7 (k + 9) 3 := ⟨_, rfl⟩
  rw [← eE8]
  have g2_E8 : ∀ j, ¬ ((k + 9) ≤ j ∧ j < (k + 9) + 3) → E8 j = E7 j := fun j z => by rw [eE8]; exact if_neg z
  have g1_E8 : ∀ j, (k + 9) ≤ j → j < (k + 9) + 3 → E8 j = F j := fun j z1 z2 => by rw [eE8]; exact if_pos ⟨z1, z2⟩
  have hE8_53 : E8 k = .inr (2, [.ref (b0 + (k + 1)), .ref (b0 + (k + 7)), .null]) := (g2_E8 _ (by omega)).trans hE7_43
  have rE8_54 : ∀ j, (k + 1) ≤ j → j < (k + 1) + 6 → E8 j = F j := fun j z1 z2 => (g2_E8 j (by omega)).trans (rE7_44 j z1 z2)
  have rE8_55 : ∀ j, (k + 7) ≤ j → j < (k + 7) + 2 → E8 j = F j := fun j z1 z2 => (g2_E8 j (by omega)).trans (rE7_45 j z1 z2)
  have oE8_56 : ∀ j, j < k → E8 j = E0 j := fun j z => (g2_E8 j (by omega)).trans (oE7_46 j z)
  refine fk_putF (pc := 34) C hin (by omega) hE8_53 rfl qiX2_28_2 tyX2 tyX2_ok nmX2 rfl rfl rfl rfl rfl (Nat.le_of_ble_eq_true rfl) dX2_init_34 (fun E9 g1_E9 g2_E9 => ?_)
  have hE9 : E9 k = .inr (2, [.ref (b0 + (k + 1)), .ref (b0 + (k + 7)), .ref (b0 + (k + 9))]) := g1_E9
  have rE9_59 : ∀ j, (k + 1) ≤ j → j < (k + 1) + 6 → E9 j = F j := fun j z1 z2 => (g2_E9 j (by omega)).trans (rE8_54 j z1 z2)
  have rE9_60 : ∀ j, (k + 7) ≤ j → j < (k + 7) + 2 → E9 j = F j := fun j z1 z2 => (g2_E9 j (by omega)).trans (rE8_55 j z1 z2)
  have rE9_61 : ∀ j, (k + 9) ≤ j → j < (k + 9) + 3 → E9 j = F j := fun j z1 z2 => (g2_E9 j (by omega)).trans (g1_E8 j z1 z2)
  have oE9_62 : ∀ j, j < k → E9 j = E0 j := fun j z => (g2_E9 j (by omega)).trans (oE8_56 j z)
  refine fk_vret (pc := 37) C hr ?_ dX2_init_37
  intro j hj
  unfold fk_fill
  by_cases z0 : j < k
  · rw [if_neg (by omega)]; exact Or.inl (oE9_62 j z0)
  rw [if_pos (by omega)]
  by_cases z1 : j = k
  · subst z1; exact Or.inl (hE9.trans hF.1.symm)
  by_cases z_rE9_59 : (k + 1) ≤ j ∧ j < (k + 1) + 6
  · exact Or.inl (rE9_59 j z_rE9_59.1 z_rE9_59.2)
  by_cases z_rE9_60 : (k + 7) ≤ j ∧ j < (k + 7) + 2
  · exact Or.inl (rE9_60 j z_rE9_60.1 z_rE9_60.2)
  by_cases z_rE9_61 : (k + 9) ≤ j ∧ j < (k + 9) + 3
  · exact Or.inl (rE9_61 j z_rE9_61.1 z_rE9_61.2)
  omega
set_option maxRecDepth 100000 in
theorem ck_Fore {l : Launch} {D : va_G} {cI cZ cH cR : ClassId} {b0 k : Nat} {F E0 : Nat → va_E} (hF : pk_Fore F b0 cI cZ cH cR k) (hb : E0 k = .inr (2, [.null, .null, .null])) : fk_Met l yX2_init wsX2_init rk_Fore D vwCl (fw_tys cI cZ cH cR) nw_k b0 [.ref (b0 + k)] (k + 1) E0 (k + 12) (fk_fill F E0 k 12) 11 70 :=
  fk_intro (cc := cX2_init) (maxL := 1) (own := RX2) (by decide) rfl rfl rfl (Nat.le_of_ble_eq_true rfl) (fun p e s m args below meth c C hin hr => fk_sub [0] rfl (ci_Fore C hin hr hF hb))
abbrev rk_Mod : Room := { frames := 1, cells := 12, slots := 1589, locals := 40 }
theorem hd_iMod : yX9_init.cls ≠ "java/lang/invoke/MethodHandle" ∧ yX9_init.cls ≠ "java/lang/invoke/VarHandle" ∧ (parseMethodDescriptor yX9_init.desc).map (fun d => d.parameters.length) = some 0 := by decide +kernel
theorem hb_Mod : ∀ j, j < 24 → defaultValue (tyX9 j) = vp_V [.int 0, .int 0, .null, .null, .null, .null, .null, .null, .null, .int 0, .null, .int 0, .int 0, .int 0, .int 0, .int 0, .int 0, .int 0, .int 0, .null, .null, .null, .null, .int 0] j := by decide
theorem koX9_1 : Cond.methodLink RX9 1 objectInit ∈ wsX9_init ∧ Cond.instanceMethod objectInit ∈ wsX9_init ∧ Cond.code objectInit ⟨#[0xb1]⟩ 1 none ∈ wsX9_init := by decide +kernel
theorem krX9_int : Cond.arrayClass .int ∈ wsX9_init := by decide +kernel
theorem qiX9_7_2 : fw_G wsX9_init RX9 7 RX9 TX9 24 2 := ⟨by decide +kernel, by decide +kernel, by decide⟩
theorem qiX9_13_3 : fw_G wsX9_init RX9 13 RX9 TX9 24 3 := ⟨by decide +kernel, by decide +kernel, by decide⟩
theorem qiX9_16_4 : fw_G wsX9_init RX9 16 RX9 TX9 24 4 := ⟨by decide +kernel, by decide +kernel, by decide⟩
theorem qiX9_19_5 : fw_G wsX9_init RX9 19 RX9 TX9 24 5 := ⟨by decide +kernel, by decide +kernel, by decide⟩
theorem qiX9_22_6 : fw_G wsX9_init RX9 22 RX9 TX9 24 6 := ⟨by decide +kernel, by decide +kernel, by decide⟩
theorem qiX9_25_7 : fw_G wsX9_init RX9 25 RX9 TX9 24 7 := ⟨by decide +kernel, by decide +kernel, by decide⟩
theorem qiX9_28_8 : fw_G wsX9_init RX9 28 RX9 TX9 24 8 := ⟨by decide +kernel, by decide +kernel, by decide⟩
theorem qiX9_31_10 : fw_G wsX9_init RX9 31 RX9 TX9 24 10 := ⟨by decide +kernel, by decide +kernel, by decide⟩
theorem qiX9_34_19 : fw_G wsX9_init RX9 34 RX9 TX9 24 19 := ⟨by decide +kernel, by decide +kernel, by decide⟩
theorem krX9_boolean : Cond.arrayClass .boolean ∈ wsX9_init := by decide +kernel
theorem qiX9_37_20 : fw_G wsX9_init RX9 37 RX9 TX9 24 20 := ⟨by decide +kernel, by decide +kernel, by decide⟩
theorem qiX9_41_21 : fw_G wsX9_init RX9 41 RX9 TX9 24 21 := ⟨by decide +kernel, by decide +kernel, by decide⟩
theorem qiX9_44_22 : fw_G wsX9_init RX9 44 RX9 TX9 24 22 := ⟨by decide +kernel, by decide +kernel, by decide⟩
set_option maxRecDepth 100000 in
set_option maxHeartbeats 4000000 in
theorem ci_Mod {p : Program} {l : Launch} {e : Env} {s : State} {m : MethodId} {args : Array Value} {below : List Frame} {meth : Method} {c : Code} {D : va_G} {cI cZ cH cR : ClassId} {b0 k : Nat} {F E0 : Nat → va_E} (C : fk_C p s m args meth c cX9_init RX9 wsX9_init 1 D vwCl (fw_tys cI cZ cH cR) nw_k) (hin : meth.name = "<init>") (hr : meth.sig.returnType = none) (hF : pk_Mod F b0 cI cZ cH cR k) (hb : E0 k = .inr (9, [.int 0, .int 0, .null, .null, .null, .null, .null, .null, .null, .int 0, .null, .int 0, .int 0, .int 0, .int 0, .int 0, .int 0, .int 0, .int 0, .null, .null, .null, .null, .int 0])) : fk_J p l e (headSpec wsX9_init rk_Mod).room s m args below meth c D vwCl b0 1 (fk_E below args s D vwCl b0 (k + 13) (fk_fill F E0 k 13) 12 1589) 0 0 (k + 1) E0 [(0, .ref (b0 + k))] 0 [] := by
  have o0 : ∀ j, j < k → E0 j = E0 j := fun _ _ => rfl
  refine fk_aload_n (pc := 0) C 0 dX9_init_0 rfl rfl ?_
  refine fk_obj (pc := 1) C koX9_1 (Nat.le_of_ble_eq_true rfl) (Nat.le_of_ble_eq_true rfl) dX9_init_1 ?_
  refine fk_aload_n (pc := 4) C 0 dX9_init_4 rfl rfl ?_
  refine fk_bipush (pc := 5) C (v := 8) dX9_init_5 fk_bipush_8 ?_
  refine fk_newa (pc := 7) C (n := (k + 1)) (N' := 8) (a0 := (8, .inl (fun _ => 0))) (cA := cI) 0 krX9_int rfl rfl rfl (fun _ => rfl) (by decide) (by decide) (by decide) ⟨Nat.le_of_ble_eq_true rfl, Nat.le_of_ble_eq_true rfl⟩ dX9_init_7 (fun E1 g1_E1 g2_E1 => ?_)
  have hE1 : E1 (k + 1) = .inl (cI, 8, .inl (fun _ => 0)) := g1_E1
  have hE1_7 : E1 k = .inr (9, [.int 0, .int 0, .null, .null, .null, .null, .null, .null, .null, .int 0, .null, .int 0, .int 0, .int 0, .int 0, .int 0, .int 0, .int 0, .int 0, .null, .null, .null, .null, .int 0]) := (g2_E1 _ (by omega)).trans hb
  have oE1_8 : ∀ j, j < k → E1 j = E0 j := fun j z => (g2_E1 j (by omega)).trans (o0 j z)
  refine fk_dup (pc := 9) C dX9_init_9 rfl ?_
  refine fk_iconst (pc := 10) C (v := 0) dX9_init_10 fk_iconst_0 ?_
  refine fk_iconst (pc := 11) C (v := -1) dX9_init_11 fk_iconst_m1 ?_
  refine fk_iast (pc := 12) C 0 (by omega) hE1 rfl (vp_in_iff.mpr (by decide)) dX9_init_12 (fun E2 g1_E2 g2_E2 => ?_)
  have hE2 : E2 (k + 1) = .inl (cI, 8, .inl (fun j => if j < 1 then -1 else 0)) := by rw [g1_E2, show upd _ ((0 : Int32).toNatClampNeg) (-1) = (fun j : Nat => if j < 1 then (-1 : Int32) else 0) from lane_0]
  have hE2_14 : E2 k = .inr (9, [.int 0, .int 0, .null, .null, .null, .null, .null, .null, .null, .int 0, .null, .int 0, .int 0, .int 0, .int 0, .int 0, .int 0, .int 0, .int 0, .null, .null, .null, .null, .int 0]) := (g2_E2 _ (by omega)).trans hE1_7
  have oE2_15 : ∀ j, j < k → E2 j = E0 j := fun j z => (g2_E2 j (by omega)).trans (oE1_8 j z)
  refine fk_dup (pc := 13) C dX9_init_13 rfl ?_
  refine fk_iconst (pc := 14) C (v := 1) dX9_init_14 fk_iconst_1 ?_
  refine fk_iconst (pc := 15) C (v := -1) dX9_init_15 fk_iconst_m1 ?_
  refine fk_iast (pc := 16) C 0 (by omega) hE2 rfl (vp_in_iff.mpr (by decide)) dX9_init_16 (fun E3 g1_E3 g2_E3 => ?_)
  have hE3 : E3 (k + 1) = .inl (cI, 8, .inl (fun j => if j < 2 then -1 else 0)) := by rw [g1_E3, show upd _ ((1 : Int32).toNatClampNeg) (-1) = (fun j : Nat => if j < 2 then (-1 : Int32) else 0) from lane_1]
  have hE3_21 : E3 k = .inr (9, [.int 0, .int 0, .null, .null, .null, .null, .null, .null, .null, .int 0, .null, .int 0, .int 0, .int 0, .int 0, .int 0, .int 0, .int 0, .int 0, .null, .null, .null, .null, .int 0]) := (g2_E3 _ (by omega)).trans hE2_14
  have oE3_22 : ∀ j, j < k → E3 j = E0 j := fun j z => (g2_E3 j (by omega)).trans (oE2_15 j z)
  refine fk_dup (pc := 17) C dX9_init_17 rfl ?_
  refine fk_iconst (pc := 18) C (v := 2) dX9_init_18 fk_iconst_2 ?_
  refine fk_iconst (pc := 19) C (v := -1) dX9_init_19 fk_iconst_m1 ?_
  refine fk_iast (pc := 20) C 0 (by omega) hE3 rfl (vp_in_iff.mpr (by decide)) dX9_init_20 (fun E4 g1_E4 g2_E4 => ?_)
  have hE4 : E4 (k + 1) = .inl (cI, 8, .inl (fun j => if j < 3 then -1 else 0)) := by rw [g1_E4, show upd _ ((2 : Int32).toNatClampNeg) (-1) = (fun j : Nat => if j < 3 then (-1 : Int32) else 0) from lane_2]
  have hE4_28 : E4 k = .inr (9, [.int 0, .int 0, .null, .null, .null, .null, .null, .null, .null, .int 0, .null, .int 0, .int 0, .int 0, .int 0, .int 0, .int 0, .int 0, .int 0, .null, .null, .null, .null, .int 0]) := (g2_E4 _ (by omega)).trans hE3_21
  have oE4_29 : ∀ j, j < k → E4 j = E0 j := fun j z => (g2_E4 j (by omega)).trans (oE3_22 j z)
  refine fk_dup (pc := 21) C dX9_init_21 rfl ?_
  refine fk_iconst (pc := 22) C (v := 3) dX9_init_22 fk_iconst_3 ?_
  refine fk_iconst (pc := 23) C (v := -1) dX9_init_23 fk_iconst_m1 ?_
  refine fk_iast (pc := 24) C 0 (by omega) hE4 rfl (vp_in_iff.mpr (by decide)) dX9_init_24 (fun E5 g1_E5 g2_E5 => ?_)
  have hE5 : E5 (k + 1) = .inl (cI, 8, .inl (fun j => if j < 4 then -1 else 0)) := by rw [g1_E5, show upd _ ((3 : Int32).toNatClampNeg) (-1) = (fun j : Nat => if j < 4 then (-1 : Int32) else 0) from lane_3]
  have hE5_35 : E5 k = .inr (9, [.int 0, .int 0, .null, .null, .null, .null, .null, .null, .null, .int 0, .null, .int 0, .int 0, .int 0, .int 0, .int 0, .int 0, .int 0, .int 0, .null, .null, .null, .null, .int 0]) := (g2_E5 _ (by omega)).trans hE4_28
  have oE5_36 : ∀ j, j < k → E5 j = E0 j := fun j z => (g2_E5 j (by omega)).trans (oE4_29 j z)
  refine fk_dup (pc := 25) C dX9_init_25 rfl ?_
  refine fk_iconst (pc := 26) C (v := 4) dX9_init_26 fk_iconst_4 ?_
  refine fk_iconst (pc := 27) C (v := -1) dX9_init_27 fk_iconst_m1 ?_
  refine fk_iast (pc := 28) C 0 (by omega) hE5 rfl (vp_in_iff.mpr (by decide)) dX9_init_28 (fun E6 g1_E6 g2_E6 => ?_)
  have hE6 : E6 (k + 1) = .inl (cI, 8, .inl (fun j => if j < 5 then -1 else 0)) := by rw [g1_E6, show upd _ ((4 : Int32).toNatClampNeg) (-1) = (fun j : Nat => if j < 5 then (-1 : Int32) else 0) from lane_4]
  have hE6_42 : E6 k = .inr (9, [.int 0, .int 0, .null, .null, .null, .null, .null, .null, .null, .int 0, .null, .int 0, .int 0, .int 0, .int 0, .int 0, .int 0, .int 0, .int 0, .null, .null, .null, .null, .int 0]) := (g2_E6 _ (by omega)).trans hE5_35
  have oE6_43 : ∀ j, j < k → E6 j = E0 j := fun j z => (g2_E6 j (by omega)).trans (oE5_36 j z)
  refine fk_dup (pc := 29) C dX9_init_29 rfl ?_
  refine fk_iconst (pc := 30) C (v := 5) dX9_init_30 fk_iconst_5 ?_
  refine fk_iconst (pc := 31) C (v := -1) dX9_init_31 fk_iconst_m1 ?_
  refine fk_iast (pc := 32) C 0 (by omega) hE6 rfl (vp_in_iff.mpr (by decide)) dX9_init_32 (fun E7 g1_E7 g2_E7 => ?_)
  have hE7 : E7 (k + 1) = .inl (cI, 8, .inl (fun j => if j < 6 then -1 else 0)) := by rw [g1_E7, show upd _ ((5 : Int32).toNatClampNeg) (-1) = (fun j : Nat => if j < 6 then (-1 : Int32) else 0) from lane_5]
  have hE7_49 : E7 k = .inr (9, [.int 0, .int 0, .null, .null, .null, .null, .null, .null, .null, .int 0, .null, .int 0, .int 0, .int 0, .int 0, .int 0, .int 0, .int 0, .int 0, .null, .null, .null, .null, .int 0]) := (g2_E7 _ (by omega)).trans hE6_42
  have oE7_50 : ∀ j, j < k → E7 j = E0 j := fun j z => (g2_E7 j (by omega)).trans (oE6_43 j z)
  refine fk_dup (pc := 33) C dX9_init_33 rfl ?_
  refine fk_bipush (pc := 34) C (v := 6) dX9_init_34 fk_bipush_6 ?_
  refine fk_iconst (pc := 36) C (v := -1) dX9_init_36 fk_iconst_m1 ?_
  refine fk_iast (pc := 37) C 0 (by omega) hE7 rfl (vp_in_iff.mpr (by decide)) dX9_init_37 (fun E8 g1_E8 g2_E8 => ?_)
  have hE8 : E8 (k + 1) = .inl (cI, 8, .inl (fun j => if j < 7 then -1 else 0)) := by rw [g1_E8, show upd _ ((6 : Int32).toNatClampNeg) (-1) = (fun j : Nat => if j < 7 then (-1 : Int32) else 0) from lane_6]
  have hE8_56 : E8 k = .inr (9, [.int 0, .int 0, .null, .null, .null, .null, .null, .null, .null, .int 0, .null, .int 0, .int 0, .int 0, .int 0, .int 0, .int 0, .int 0, .int 0, .null, .null, .null, .null, .int 0]) := (g2_E8 _ (by omega)).trans hE7_49
  have oE8_57 : ∀ j, j < k → E8 j = E0 j := fun j z => (g2_E8 j (by omega)).trans (oE7_50 j z)
  refine fk_dup (pc := 38) C dX9_init_38 rfl ?_
  refine fk_bipush (pc := 39) C (v := 7) dX9_init_39 fk_bipush_7 ?_
  refine fk_iconst (pc := 41) C (v := -1) dX9_init_41 fk_iconst_m1 ?_
  refine fk_iast (pc := 42) C 0 (by omega) hE8 rfl (vp_in_iff.mpr (by decide)) dX9_init_42 (fun E9 g1_E9 g2_E9 => ?_)
  have hE9 : E9 (k + 1) = .inl (cI, 8, .inl (fun j => if j < 8 then -1 else 0)) := by rw [g1_E9, show upd _ ((7 : Int32).toNatClampNeg) (-1) = (fun j : Nat => if j < 8 then (-1 : Int32) else 0) from lane_7]
  have hE9_63 : E9 k = .inr (9, [.int 0, .int 0, .null, .null, .null, .null, .null, .null, .null, .int 0, .null, .int 0, .int 0, .int 0, .int 0, .int 0, .int 0, .int 0, .int 0, .null, .null, .null, .null, .int 0]) := (g2_E9 _ (by omega)).trans hE8_56
  have oE9_64 : ∀ j, j < k → E9 j = E0 j := fun j z => (g2_E9 j (by omega)).trans (oE8_57 j z)
  refine fk_putF (pc := 43) C hin (by omega) hE9_63 rfl qiX9_7_2 tyX9 tyX9_ok nmX9 rfl rfl rfl rfl rfl (Nat.le_of_ble_eq_true rfl) dX9_init_43 (fun E10 g1_E10 g2_E10 => ?_)
  have hE10 : E10 k = .inr (9, [.int 0, .int 0, .ref (b0 + (k + 1)), .null, .null, .null, .null, .null, .null, .int 0, .null, .int 0, .int 0, .int 0, .int 0, .int 0, .int 0, .int 0, .int 0, .null, .null, .null, .null, .int 0]) := g1_E10
  have hE10_67 : E10 (k + 1) = .inl (cI, 8, .inl (fun j => if j < 8 then -1 else 0)) := (g2_E10 _ (by omega)).trans hE9
  have oE10_68 : ∀ j, j < k → E10 j = E0 j := fun j z => (g2_E10 j (by omega)).trans (oE9_64 j z)
  refine fk_aload_n (pc := 46) C 0 dX9_init_46 rfl rfl ?_
  refine fk_bipush (pc := 47) C (v := 8) dX9_init_47 fk_bipush_8 ?_
  refine fk_newa (pc := 49) C (n := (k + 2)) (N' := 8) (a0 := (8, .inl (fun _ => 0))) (cA := cI) 0 krX9_int rfl rfl rfl (fun _ => rfl) (by decide) (by decide) (by decide) ⟨Nat.le_of_ble_eq_true rfl, Nat.le_of_ble_eq_true rfl⟩ dX9_init_49 (fun E11 g1_E11 g2_E11 => ?_)
  have hE11 : E11 (k + 2) = .inl (cI, 8, .inl (fun _ => 0)) := g1_E11
  have hE11_73 : E11 k = .inr (9, [.int 0, .int 0, .ref (b0 + (k + 1)), .null, .null, .null, .null, .null, .null, .int 0, .null, .int 0, .int 0, .int 0, .int 0, .int 0, .int 0, .int 0, .int 0, .null, .null, .null, .null, .int 0]) := (g2_E11 _ (by omega)).trans hE10
  have hE11_74 : E11 (k + 1) = .inl (cI, 8, .inl (fun j => if j < 8 then -1 else 0)) := (g2_E11 _ (by omega)).trans hE10_67
  have oE11_75 : ∀ j, j < k → E11 j = E0 j := fun j z => (g2_E11 j (by omega)).trans (oE10_68 j z)
  refine fk_putF (pc := 51) C hin (by omega) hE11_73 rfl qiX9_13_3 tyX9 tyX9_ok nmX9 rfl rfl rfl rfl rfl (Nat.le_of_ble_eq_true rfl) dX9_init_51 (fun E12 g1_E12 g2_E12 => ?_)
  have hE12 : E12 k = .inr (9, [.int 0, .int 0, .ref (b0 + (k + 1)), .ref (b0 + (k + 2)), .null, .null, .null, .null, .null, .int 0, .null, .int 0, .int 0, .int 0, .int 0, .int 0, .int 0, .int 0, .int 0, .null, .null, .null, .null, .int 0]) := g1_E12
  have hE12_78 : E12 (k + 1) = .inl (cI, 8, .inl (fun j => if j < 8 then -1 else 0)) := (g2_E12 _ (by omega)).trans hE11_74
  have hE12_79 : E12 (k + 2) = .inl (cI, 8, .inl (fun _ => 0)) := (g2_E12 _ (by omega)).trans hE11
  have oE12_80 : ∀ j, j < k → E12 j = E0 j := fun j z => (g2_E12 j (by omega)).trans (oE11_75 j z)
  refine fk_aload_n (pc := 54) C 0 dX9_init_54 rfl rfl ?_
  refine fk_sipush (pc := 55) C (v := 320) dX9_init_55 fk_sipush_320 ?_
  refine fk_newa (pc := 58) C (n := (k + 3)) (N' := 320) (a0 := (320, .inl (fun _ => 0))) (cA := cI) 0 krX9_int rfl rfl rfl (fun _ => rfl) (by decide) (by decide) (by decide) ⟨Nat.le_of_ble_eq_true rfl, Nat.le_of_ble_eq_true rfl⟩ dX9_init_58 (fun E13 g1_E13 g2_E13 => ?_)
  have hE13 : E13 (k + 3) = .inl (cI, 320, .inl (fun _ => 0)) := g1_E13
  have hE13_85 : E13 k = .inr (9, [.int 0, .int 0, .ref (b0 + (k + 1)), .ref (b0 + (k + 2)), .null, .null, .null, .null, .null, .int 0, .null, .int 0, .int 0, .int 0, .int 0, .int 0, .int 0, .int 0, .int 0, .null, .null, .null, .null, .int 0]) := (g2_E13 _ (by omega)).trans hE12
  have hE13_86 : E13 (k + 1) = .inl (cI, 8, .inl (fun j => if j < 8 then -1 else 0)) := (g2_E13 _ (by omega)).trans hE12_78
  have hE13_87 : E13 (k + 2) = .inl (cI, 8, .inl (fun _ => 0)) := (g2_E13 _ (by omega)).trans hE12_79
  have oE13_88 : ∀ j, j < k → E13 j = E0 j := fun j z => (g2_E13 j (by omega)).trans (oE12_80 j z)
  refine fk_putF (pc := 60) C hin (by omega) hE13_85 rfl qiX9_16_4 tyX9 tyX9_ok nmX9 rfl rfl rfl rfl rfl (Nat.le_of_ble_eq_true rfl) dX9_init_60 (fun E14 g1_E14 g2_E14 => ?_)
  have hE14 : E14 k = .inr (9, [.int 0, .int 0, .ref (b0 + (k + 1)), .ref (b0 + (k + 2)), .ref (b0 + (k + 3)), .null, .null, .null, .null, .int 0, .null, .int 0, .int 0, .int 0, .int 0, .int 0, .int 0, .int 0, .int 0, .null, .null, .null, .null, .int 0]) := g1_E14
  have hE14_91 : E14 (k + 1) = .inl (cI, 8, .inl (fun j => if j < 8 then -1 else 0)) := (g2_E14 _ (by omega)).trans hE13_86
  have hE14_92 : E14 (k + 2) = .inl (cI, 8, .inl (fun _ => 0)) := (g2_E14 _ (by omega)).trans hE13_87
  have hE14_93 : E14 (k + 3) = .inl (cI, 320, .inl (fun _ => 0)) := (g2_E14 _ (by omega)).trans hE13
  have oE14_94 : ∀ j, j < k → E14 j = E0 j := fun j z => (g2_E14 j (by omega)).trans (oE13_88 j z)
  refine fk_aload_n (pc := 63) C 0 dX9_init_63 rfl rfl ?_
  refine fk_bipush (pc := 64) C (v := 39) dX9_init_64 fk_bipush_39 ?_
  refine fk_newa (pc := 66) C (n := (k + 4)) (N' := 39) (a0 := (39, .inl (fun _ => 0))) (cA := cI) 0 krX9_int rfl rfl rfl (fun _ => rfl) (by decide) (by decide) (by decide) ⟨Nat.le_of_ble_eq_true rfl, Nat.le_of_ble_eq_true rfl⟩ dX9_init_66 (fun E15 g1_E15 g2_E15 => ?_)
  have hE15 : E15 (k + 4) = .inl (cI, 39, .inl (fun _ => 0)) := g1_E15
  have hE15_99 : E15 k = .inr (9, [.int 0, .int 0, .ref (b0 + (k + 1)), .ref (b0 + (k + 2)), .ref (b0 + (k + 3)), .null, .null, .null, .null, .int 0, .null, .int 0, .int 0, .int 0, .int 0, .int 0, .int 0, .int 0, .int 0, .null, .null, .null, .null, .int 0]) := (g2_E15 _ (by omega)).trans hE14
  have hE15_100 : E15 (k + 1) = .inl (cI, 8, .inl (fun j => if j < 8 then -1 else 0)) := (g2_E15 _ (by omega)).trans hE14_91
  have hE15_101 : E15 (k + 2) = .inl (cI, 8, .inl (fun _ => 0)) := (g2_E15 _ (by omega)).trans hE14_92
  have hE15_102 : E15 (k + 3) = .inl (cI, 320, .inl (fun _ => 0)) := (g2_E15 _ (by omega)).trans hE14_93
  have oE15_103 : ∀ j, j < k → E15 j = E0 j := fun j z => (g2_E15 j (by omega)).trans (oE14_94 j z)
  refine fk_putF (pc := 68) C hin (by omega) hE15_99 rfl qiX9_19_5 tyX9 tyX9_ok nmX9 rfl rfl rfl rfl rfl (Nat.le_of_ble_eq_true rfl) dX9_init_68 (fun E16 g1_E16 g2_E16 => ?_)
  have hE16 : E16 k = .inr (9, [.int 0, .int 0, .ref (b0 + (k + 1)), .ref (b0 + (k + 2)), .ref (b0 + (k + 3)), .ref (b0 + (k + 4)), .null, .null, .null, .int 0, .null, .int 0, .int 0, .int 0, .int 0, .int 0, .int 0, .int 0, .int 0, .null, .null, .null, .null, .int 0]) := g1_E16
  have hE16_106 : E16 (k + 1) = .inl (cI, 8, .inl (fun j => if j < 8 then -1 else 0)) := (g2_E16 _ (by omega)).trans hE15_100
  have hE16_107 : E16 (k + 2) = .inl (cI, 8, .inl (fun _ => 0)) := (g2_E16 _ (by omega)).trans hE15_101
  have hE16_108 : E16 (k + 3) = .inl (cI, 320, .inl (fun _ => 0)) := (g2_E16 _ (by omega)).trans hE15_102
  have hE16_109 : E16 (k + 4) = .inl (cI, 39, .inl (fun _ => 0)) := (g2_E16 _ (by omega)).trans hE15
  have oE16_110 : ∀ j, j < k → E16 j = E0 j := fun j z => (g2_E16 j (by omega)).trans (oE15_103 j z)
  refine fk_aload_n (pc := 71) C 0 dX9_init_71 rfl rfl ?_
  refine fk_bipush (pc := 72) C (v := 39) dX9_init_72 fk_bipush_39 ?_
  refine fk_newa (pc := 74) C (n := (k + 5)) (N' := 39) (a0 := (39, .inl (fun _ => 0))) (cA := cI) 0 krX9_int rfl rfl rfl (fun _ => rfl) (by decide) (by decide) (by decide) ⟨Nat.le_of_ble_eq_true rfl, Nat.le_of_ble_eq_true rfl⟩ dX9_init_74 (fun E17 g1_E17 g2_E17 => ?_)
  have hE17 : E17 (k + 5) = .inl (cI, 39, .inl (fun _ => 0)) := g1_E17
  have hE17_115 : E17 k = .inr (9, [.int 0, .int 0, .ref (b0 + (k + 1)), .ref (b0 + (k + 2)), .ref (b0 + (k + 3)), .ref (b0 + (k + 4)), .null, .null, .null, .int 0, .null, .int 0, .int 0, .int 0, .int 0, .int 0, .int 0, .int 0, .int 0, .null, .null, .null, .null, .int 0]) := (g2_E17 _ (by omega)).trans hE16
  have hE17_116 : E17 (k + 1) = .inl (cI, 8, .inl (fun j => if j < 8 then -1 else 0)) := (g2_E17 _ (by omega)).trans hE16_106
  have hE17_117 : E17 (k + 2) = .inl (cI, 8, .inl (fun _ => 0)) := (g2_E17 _ (by omega)).trans hE16_107
  have hE17_118 : E17 (k + 3) = .inl (cI, 320, .inl (fun _ => 0)) := (g2_E17 _ (by omega)).trans hE16_108
  have hE17_119 : E17 (k + 4) = .inl (cI, 39, .inl (fun _ => 0)) := (g2_E17 _ (by omega)).trans hE16_109
  have oE17_120 : ∀ j, j < k → E17 j = E0 j := fun j z => (g2_E17 j (by omega)).trans (oE16_110 j z)
  refine fk_putF (pc := 76) C hin (by omega) hE17_115 rfl qiX9_22_6 tyX9 tyX9_ok nmX9 rfl rfl rfl rfl rfl (Nat.le_of_ble_eq_true rfl) dX9_init_76 (fun E18 g1_E18 g2_E18 => ?_)
  have hE18 : E18 k = .inr (9, [.int 0, .int 0, .ref (b0 + (k + 1)), .ref (b0 + (k + 2)), .ref (b0 + (k + 3)), .ref (b0 + (k + 4)), .ref (b0 + (k + 5)), .null, .null, .int 0, .null, .int 0, .int 0, .int 0, .int 0, .int 0, .int 0, .int 0, .int 0, .null, .null, .null, .null, .int 0]) := g1_E18
  have hE18_123 : E18 (k + 1) = .inl (cI, 8, .inl (fun j => if j < 8 then -1 else 0)) := (g2_E18 _ (by omega)).trans hE17_116
  have hE18_124 : E18 (k + 2) = .inl (cI, 8, .inl (fun _ => 0)) := (g2_E18 _ (by omega)).trans hE17_117
  have hE18_125 : E18 (k + 3) = .inl (cI, 320, .inl (fun _ => 0)) := (g2_E18 _ (by omega)).trans hE17_118
  have hE18_126 : E18 (k + 4) = .inl (cI, 39, .inl (fun _ => 0)) := (g2_E18 _ (by omega)).trans hE17_119
  have hE18_127 : E18 (k + 5) = .inl (cI, 39, .inl (fun _ => 0)) := (g2_E18 _ (by omega)).trans hE17
  have oE18_128 : ∀ j, j < k → E18 j = E0 j := fun j z => (g2_E18 j (by omega)).trans (oE17_120 j z)
  refine fk_aload_n (pc := 79) C 0 dX9_init_79 rfl rfl ?_
  refine fk_bipush (pc := 80) C (v := 39) dX9_init_80 fk_bipush_39 ?_
  refine fk_newa (pc := 82) C (n := (k + 6)) (N' := 39) (a0 := (39, .inl (fun _ => 0))) (cA := cI) 0 krX9_int rfl rfl rfl (fun _ => rfl) (by decide) (by decide) (by decide) ⟨Nat.le_of_ble_eq_true rfl, Nat.le_of_ble_eq_true rfl⟩ dX9_init_82 (fun E19 g1_E19 g2_E19 => ?_)
  have hE19 : E19 (k + 6) = .inl (cI, 39, .inl (fun _ => 0)) := g1_E19
  have hE19_133 : E19 k = .inr (9, [.int 0, .int 0, .ref (b0 + (k + 1)), .ref (b0 + (k + 2)), .ref (b0 + (k + 3)), .ref (b0 + (k + 4)), .ref (b0 + (k + 5)), .null, .null, .int 0, .null, .int 0, .int 0, .int 0, .int 0, .int 0, .int 0, .int 0, .int 0, .null, .null, .null, .null, .int 0]) := (g2_E19 _ (by omega)).trans hE18
  have hE19_134 : E19 (k + 1) = .inl (cI, 8, .inl (fun j => if j < 8 then -1 else 0)) := (g2_E19 _ (by omega)).trans hE18_123
  have hE19_135 : E19 (k + 2) = .inl (cI, 8, .inl (fun _ => 0)) := (g2_E19 _ (by omega)).trans hE18_124
  have hE19_136 : E19 (k + 3) = .inl (cI, 320, .inl (fun _ => 0)) := (g2_E19 _ (by omega)).trans hE18_125
  have hE19_137 : E19 (k + 4) = .inl (cI, 39, .inl (fun _ => 0)) := (g2_E19 _ (by omega)).trans hE18_126
  have hE19_138 : E19 (k + 5) = .inl (cI, 39, .inl (fun _ => 0)) := (g2_E19 _ (by omega)).trans hE18_127
  have oE19_139 : ∀ j, j < k → E19 j = E0 j := fun j z => (g2_E19 j (by omega)).trans (oE18_128 j z)
  refine fk_putF (pc := 84) C hin (by omega) hE19_133 rfl qiX9_25_7 tyX9 tyX9_ok nmX9 rfl rfl rfl rfl rfl (Nat.le_of_ble_eq_true rfl) dX9_init_84 (fun E20 g1_E20 g2_E20 => ?_)
  have hE20 : E20 k = .inr (9, [.int 0, .int 0, .ref (b0 + (k + 1)), .ref (b0 + (k + 2)), .ref (b0 + (k + 3)), .ref (b0 + (k + 4)), .ref (b0 + (k + 5)), .ref (b0 + (k + 6)), .null, .int 0, .null, .int 0, .int 0, .int 0, .int 0, .int 0, .int 0, .int 0, .int 0, .null, .null, .null, .null, .int 0]) := g1_E20
  have hE20_142 : E20 (k + 1) = .inl (cI, 8, .inl (fun j => if j < 8 then -1 else 0)) := (g2_E20 _ (by omega)).trans hE19_134
  have hE20_143 : E20 (k + 2) = .inl (cI, 8, .inl (fun _ => 0)) := (g2_E20 _ (by omega)).trans hE19_135
  have hE20_144 : E20 (k + 3) = .inl (cI, 320, .inl (fun _ => 0)) := (g2_E20 _ (by omega)).trans hE19_136
  have hE20_145 : E20 (k + 4) = .inl (cI, 39, .inl (fun _ => 0)) := (g2_E20 _ (by omega)).trans hE19_137
  have hE20_146 : E20 (k + 5) = .inl (cI, 39, .inl (fun _ => 0)) := (g2_E20 _ (by omega)).trans hE19_138
  have hE20_147 : E20 (k + 6) = .inl (cI, 39, .inl (fun _ => 0)) := (g2_E20 _ (by omega)).trans hE19
  have oE20_148 : ∀ j, j < k → E20 j = E0 j := fun j z => (g2_E20 j (by omega)).trans (oE19_139 j z)
  refine fk_aload_n (pc := 87) C 0 dX9_init_87 rfl rfl ?_
  refine fk_sipush (pc := 88) C (v := 936) dX9_init_88 fk_sipush_936 ?_
  refine fk_newa (pc := 91) C (n := (k + 7)) (N' := 936) (a0 := (936, .inl (fun _ => 0))) (cA := cI) 0 krX9_int rfl rfl rfl (fun _ => rfl) (by decide) (by decide) (by decide) ⟨Nat.le_of_ble_eq_true rfl, Nat.le_of_ble_eq_true rfl⟩ dX9_init_91 (fun E21 g1_E21 g2_E21 => ?_)
  have hE21 : E21 (k + 7) = .inl (cI, 936, .inl (fun _ => 0)) := g1_E21
  have hE21_153 : E21 k = .inr (9, [.int 0, .int 0, .ref (b0 + (k + 1)), .ref (b0 + (k + 2)), .ref (b0 + (k + 3)), .ref (b0 + (k + 4)), .ref (b0 + (k + 5)), .ref (b0 + (k + 6)), .null, .int 0, .null, .int 0, .int 0, .int 0, .int 0, .int 0, .int 0, .int 0, .int 0, .null, .null, .null, .null, .int 0]) := (g2_E21 _ (by omega)).trans hE20
  have hE21_154 : E21 (k + 1) = .inl (cI, 8, .inl (fun j => if j < 8 then -1 else 0)) := (g2_E21 _ (by omega)).trans hE20_142
  have hE21_155 : E21 (k + 2) = .inl (cI, 8, .inl (fun _ => 0)) := (g2_E21 _ (by omega)).trans hE20_143
  have hE21_156 : E21 (k + 3) = .inl (cI, 320, .inl (fun _ => 0)) := (g2_E21 _ (by omega)).trans hE20_144
  have hE21_157 : E21 (k + 4) = .inl (cI, 39, .inl (fun _ => 0)) := (g2_E21 _ (by omega)).trans hE20_145
  have hE21_158 : E21 (k + 5) = .inl (cI, 39, .inl (fun _ => 0)) := (g2_E21 _ (by omega)).trans hE20_146
  have hE21_159 : E21 (k + 6) = .inl (cI, 39, .inl (fun _ => 0)) := (g2_E21 _ (by omega)).trans hE20_147
  have oE21_160 : ∀ j, j < k → E21 j = E0 j := fun j z => (g2_E21 j (by omega)).trans (oE20_148 j z)
  refine fk_putF (pc := 93) C hin (by omega) hE21_153 rfl qiX9_28_8 tyX9 tyX9_ok nmX9 rfl rfl rfl rfl rfl (Nat.le_of_ble_eq_true rfl) dX9_init_93 (fun E22 g1_E22 g2_E22 => ?_)
  have hE22 : E22 k = .inr (9, [.int 0, .int 0, .ref (b0 + (k + 1)), .ref (b0 + (k + 2)), .ref (b0 + (k + 3)), .ref (b0 + (k + 4)), .ref (b0 + (k + 5)), .ref (b0 + (k + 6)), .ref (b0 + (k + 7)), .int 0, .null, .int 0, .int 0, .int 0, .int 0, .int 0, .int 0, .int 0, .int 0, .null, .null, .null, .null, .int 0]) := g1_E22
  have hE22_163 : E22 (k + 1) = .inl (cI, 8, .inl (fun j => if j < 8 then -1 else 0)) := (g2_E22 _ (by omega)).trans hE21_154
  have hE22_164 : E22 (k + 2) = .inl (cI, 8, .inl (fun _ => 0)) := (g2_E22 _ (by omega)).trans hE21_155
  have hE22_165 : E22 (k + 3) = .inl (cI, 320, .inl (fun _ => 0)) := (g2_E22 _ (by omega)).trans hE21_156
  have hE22_166 : E22 (k + 4) = .inl (cI, 39, .inl (fun _ => 0)) := (g2_E22 _ (by omega)).trans hE21_157
  have hE22_167 : E22 (k + 5) = .inl (cI, 39, .inl (fun _ => 0)) := (g2_E22 _ (by omega)).trans hE21_158
  have hE22_168 : E22 (k + 6) = .inl (cI, 39, .inl (fun _ => 0)) := (g2_E22 _ (by omega)).trans hE21_159
  have hE22_169 : E22 (k + 7) = .inl (cI, 936, .inl (fun _ => 0)) := (g2_E22 _ (by omega)).trans hE21
  have oE22_170 : ∀ j, j < k → E22 j = E0 j := fun j z => (g2_E22 j (by omega)).trans (oE21_160 j z)
  refine fk_aload_n (pc := 96) C 0 dX9_init_96 rfl rfl ?_
  refine fk_bipush (pc := 97) C (v := 100) dX9_init_97 fk_bipush_100 ?_
  refine fk_newa (pc := 99) C (n := (k + 8)) (N' := 100) (a0 := (100, .inl (fun _ => 0))) (cA := cI) 0 krX9_int rfl rfl rfl (fun _ => rfl) (by decide) (by decide) (by decide) ⟨Nat.le_of_ble_eq_true rfl, Nat.le_of_ble_eq_true rfl⟩ dX9_init_99 (fun E23 g1_E23 g2_E23 => ?_)
  have hE23 : E23 (k + 8) = .inl (cI, 100, .inl (fun _ => 0)) := g1_E23
  have hE23_175 : E23 k = .inr (9, [.int 0, .int 0, .ref (b0 + (k + 1)), .ref (b0 + (k + 2)), .ref (b0 + (k + 3)), .ref (b0 + (k + 4)), .ref (b0 + (k + 5)), .ref (b0 + (k + 6)), .ref (b0 + (k + 7)), .int 0, .null, .int 0, .int 0, .int 0, .int 0, .int 0, .int 0, .int 0, .int 0, .null, .null, .null, .null, .int 0]) := (g2_E23 _ (by omega)).trans hE22
  have hE23_176 : E23 (k + 1) = .inl (cI, 8, .inl (fun j => if j < 8 then -1 else 0)) := (g2_E23 _ (by omega)).trans hE22_163
  have hE23_177 : E23 (k + 2) = .inl (cI, 8, .inl (fun _ => 0)) := (g2_E23 _ (by omega)).trans hE22_164
  have hE23_178 : E23 (k + 3) = .inl (cI, 320, .inl (fun _ => 0)) := (g2_E23 _ (by omega)).trans hE22_165
  have hE23_179 : E23 (k + 4) = .inl (cI, 39, .inl (fun _ => 0)) := (g2_E23 _ (by omega)).trans hE22_166
  have hE23_180 : E23 (k + 5) = .inl (cI, 39, .inl (fun _ => 0)) := (g2_E23 _ (by omega)).trans hE22_167
  have hE23_181 : E23 (k + 6) = .inl (cI, 39, .inl (fun _ => 0)) := (g2_E23 _ (by omega)).trans hE22_168
  have hE23_182 : E23 (k + 7) = .inl (cI, 936, .inl (fun _ => 0)) := (g2_E23 _ (by omega)).trans hE22_169
  have oE23_183 : ∀ j, j < k → E23 j = E0 j := fun j z => (g2_E23 j (by omega)).trans (oE22_170 j z)
  refine fk_putF (pc := 101) C hin (by omega) hE23_175 rfl qiX9_31_10 tyX9 tyX9_ok nmX9 rfl rfl rfl rfl rfl (Nat.le_of_ble_eq_true rfl) dX9_init_101 (fun E24 g1_E24 g2_E24 => ?_)
  have hE24 : E24 k = .inr (9, [.int 0, .int 0, .ref (b0 + (k + 1)), .ref (b0 + (k + 2)), .ref (b0 + (k + 3)), .ref (b0 + (k + 4)), .ref (b0 + (k + 5)), .ref (b0 + (k + 6)), .ref (b0 + (k + 7)), .int 0, .ref (b0 + (k + 8)), .int 0, .int 0, .int 0, .int 0, .int 0, .int 0, .int 0, .int 0, .null, .null, .null, .null, .int 0]) := g1_E24
  have hE24_186 : E24 (k + 1) = .inl (cI, 8, .inl (fun j => if j < 8 then -1 else 0)) := (g2_E24 _ (by omega)).trans hE23_176
  have hE24_187 : E24 (k + 2) = .inl (cI, 8, .inl (fun _ => 0)) := (g2_E24 _ (by omega)).trans hE23_177
  have hE24_188 : E24 (k + 3) = .inl (cI, 320, .inl (fun _ => 0)) := (g2_E24 _ (by omega)).trans hE23_178
  have hE24_189 : E24 (k + 4) = .inl (cI, 39, .inl (fun _ => 0)) := (g2_E24 _ (by omega)).trans hE23_179
  have hE24_190 : E24 (k + 5) = .inl (cI, 39, .inl (fun _ => 0)) := (g2_E24 _ (by omega)).trans hE23_180
  have hE24_191 : E24 (k + 6) = .inl (cI, 39, .inl (fun _ => 0)) := (g2_E24 _ (by omega)).trans hE23_181
  have hE24_192 : E24 (k + 7) = .inl (cI, 936, .inl (fun _ => 0)) := (g2_E24 _ (by omega)).trans hE23_182
  have hE24_193 : E24 (k + 8) = .inl (cI, 100, .inl (fun _ => 0)) := (g2_E24 _ (by omega)).trans hE23
  have oE24_194 : ∀ j, j < k → E24 j = E0 j := fun j z => (g2_E24 j (by omega)).trans (oE23_183 j z)
  refine fk_aload_n (pc := 104) C 0 dX9_init_104 rfl rfl ?_
  refine fk_iconst (pc := 105) C (v := 4) dX9_init_105 fk_iconst_4 ?_
  refine fk_newa (pc := 106) C (n := (k + 9)) (N' := 4) (a0 := (4, .inl (fun _ => 0))) (cA := cI) 0 krX9_int rfl rfl rfl (fun _ => rfl) (by decide) (by decide) (by decide) ⟨Nat.le_of_ble_eq_true rfl, Nat.le_of_ble_eq_true rfl⟩ dX9_init_106 (fun E25 g1_E25 g2_E25 => ?_)
  have hE25 : E25 (k + 9) = .inl (cI, 4, .inl (fun _ => 0)) := g1_E25
  have hE25_199 : E25 k = .inr (9, [.int 0, .int 0, .ref (b0 + (k + 1)), .ref (b0 + (k + 2)), .ref (b0 + (k + 3)), .ref (b0 + (k + 4)), .ref (b0 + (k + 5)), .ref (b0 + (k + 6)), .ref (b0 + (k + 7)), .int 0, .ref (b0 + (k + 8)), .int 0, .int 0, .int 0, .int 0, .int 0, .int 0, .int 0, .int 0, .null, .null, .null, .null, .int 0]) := (g2_E25 _ (by omega)).trans hE24
  have hE25_200 : E25 (k + 1) = .inl (cI, 8, .inl (fun j => if j < 8 then -1 else 0)) := (g2_E25 _ (by omega)).trans hE24_186
  have hE25_201 : E25 (k + 2) = .inl (cI, 8, .inl (fun _ => 0)) := (g2_E25 _ (by omega)).trans hE24_187
  have hE25_202 : E25 (k + 3) = .inl (cI, 320, .inl (fun _ => 0)) := (g2_E25 _ (by omega)).trans hE24_188
  have hE25_203 : E25 (k + 4) = .inl (cI, 39, .inl (fun _ => 0)) := (g2_E25 _ (by omega)).trans hE24_189
  have hE25_204 : E25 (k + 5) = .inl (cI, 39, .inl (fun _ => 0)) := (g2_E25 _ (by omega)).trans hE24_190
  have hE25_205 : E25 (k + 6) = .inl (cI, 39, .inl (fun _ => 0)) := (g2_E25 _ (by omega)).trans hE24_191
  have hE25_206 : E25 (k + 7) = .inl (cI, 936, .inl (fun _ => 0)) := (g2_E25 _ (by omega)).trans hE24_192
  have hE25_207 : E25 (k + 8) = .inl (cI, 100, .inl (fun _ => 0)) := (g2_E25 _ (by omega)).trans hE24_193
  have oE25_208 : ∀ j, j < k → E25 j = E0 j := fun j z => (g2_E25 j (by omega)).trans (oE24_194 j z)
  refine fk_putF (pc := 108) C hin (by omega) hE25_199 rfl qiX9_34_19 tyX9 tyX9_ok nmX9 rfl rfl rfl rfl rfl (Nat.le_of_ble_eq_true rfl) dX9_init_108 (fun E26 g1_E26 g2_E26 => ?_)
  have hE26 : E26 k = .inr (9, [.int 0, .int 0, .ref (b0 + (k + 1)), .ref (b0 + (k + 2)), .ref (b0 + (k + 3)), .ref (b0 + (k + 4)), .ref (b0 + (k + 5)), .ref (b0 + (k + 6)), .ref (b0 + (k + 7)), .int 0, .ref (b0 + (k + 8)), .int 0, .int 0, .int 0, .int 0, .int 0, .int 0, .int 0, .int 0, .ref (b0 + (k + 9)), .null, .null, .null, .int 0]) := g1_E26
  have hE26_211 : E26 (k + 1) = .inl (cI, 8, .inl (fun j => if j < 8 then -1 else 0)) := (g2_E26 _ (by omega)).trans hE25_200
  have hE26_212 : E26 (k + 2) = .inl (cI, 8, .inl (fun _ => 0)) := (g2_E26 _ (by omega)).trans hE25_201
  have hE26_213 : E26 (k + 3) = .inl (cI, 320, .inl (fun _ => 0)) := (g2_E26 _ (by omega)).trans hE25_202
  have hE26_214 : E26 (k + 4) = .inl (cI, 39, .inl (fun _ => 0)) := (g2_E26 _ (by omega)).trans hE25_203
  have hE26_215 : E26 (k + 5) = .inl (cI, 39, .inl (fun _ => 0)) := (g2_E26 _ (by omega)).trans hE25_204
  have hE26_216 : E26 (k + 6) = .inl (cI, 39, .inl (fun _ => 0)) := (g2_E26 _ (by omega)).trans hE25_205
  have hE26_217 : E26 (k + 7) = .inl (cI, 936, .inl (fun _ => 0)) := (g2_E26 _ (by omega)).trans hE25_206
  have hE26_218 : E26 (k + 8) = .inl (cI, 100, .inl (fun _ => 0)) := (g2_E26 _ (by omega)).trans hE25_207
  have hE26_219 : E26 (k + 9) = .inl (cI, 4, .inl (fun _ => 0)) := (g2_E26 _ (by omega)).trans hE25
  have oE26_220 : ∀ j, j < k → E26 j = E0 j := fun j z => (g2_E26 j (by omega)).trans (oE25_208 j z)
  refine fk_aload_n (pc := 111) C 0 dX9_init_111 rfl rfl ?_
  refine fk_iconst (pc := 112) C (v := 2) dX9_init_112 fk_iconst_2 ?_
  refine fk_newa (pc := 113) C (n := (k + 10)) (N' := 2) (a0 := (2, .inl (fun _ => 0))) (cA := cZ) 1 krX9_boolean rfl rfl rfl (fun _ => rfl) (by decide) (by decide) (by decide) ⟨Nat.le_of_ble_eq_true rfl, Nat.le_of_ble_eq_true rfl⟩ dX9_init_113 (fun E27 g1_E27 g2_E27 => ?_)
  have hE27 : E27 (k + 10) = .inl (cZ, 2, .inl (fun _ => 0)) := g1_E27
  have hE27_225 : E27 k = .inr (9, [.int 0, .int 0, .ref (b0 + (k + 1)), .ref (b0 + (k + 2)), .ref (b0 + (k + 3)), .ref (b0 + (k + 4)), .ref (b0 + (k + 5)), .ref (b0 + (k + 6)), .ref (b0 + (k + 7)), .int 0, .ref (b0 + (k + 8)), .int 0, .int 0, .int 0, .int 0, .int 0, .int 0, .int 0, .int 0, .ref (b0 + (k + 9)), .null, .null, .null, .int 0]) := (g2_E27 _ (by omega)).trans hE26
  have hE27_226 : E27 (k + 1) = .inl (cI, 8, .inl (fun j => if j < 8 then -1 else 0)) := (g2_E27 _ (by omega)).trans hE26_211
  have hE27_227 : E27 (k + 2) = .inl (cI, 8, .inl (fun _ => 0)) := (g2_E27 _ (by omega)).trans hE26_212
  have hE27_228 : E27 (k + 3) = .inl (cI, 320, .inl (fun _ => 0)) := (g2_E27 _ (by omega)).trans hE26_213
  have hE27_229 : E27 (k + 4) = .inl (cI, 39, .inl (fun _ => 0)) := (g2_E27 _ (by omega)).trans hE26_214
  have hE27_230 : E27 (k + 5) = .inl (cI, 39, .inl (fun _ => 0)) := (g2_E27 _ (by omega)).trans hE26_215
  have hE27_231 : E27 (k + 6) = .inl (cI, 39, .inl (fun _ => 0)) := (g2_E27 _ (by omega)).trans hE26_216
  have hE27_232 : E27 (k + 7) = .inl (cI, 936, .inl (fun _ => 0)) := (g2_E27 _ (by omega)).trans hE26_217
  have hE27_233 : E27 (k + 8) = .inl (cI, 100, .inl (fun _ => 0)) := (g2_E27 _ (by omega)).trans hE26_218
  have hE27_234 : E27 (k + 9) = .inl (cI, 4, .inl (fun _ => 0)) := (g2_E27 _ (by omega)).trans hE26_219
  have oE27_235 : ∀ j, j < k → E27 j = E0 j := fun j z => (g2_E27 j (by omega)).trans (oE26_220 j z)
  refine fk_putF (pc := 115) C hin (by omega) hE27_225 rfl qiX9_37_20 tyX9 tyX9_ok nmX9 rfl rfl rfl rfl rfl (Nat.le_of_ble_eq_true rfl) dX9_init_115 (fun E28 g1_E28 g2_E28 => ?_)
  have hE28 : E28 k = .inr (9, [.int 0, .int 0, .ref (b0 + (k + 1)), .ref (b0 + (k + 2)), .ref (b0 + (k + 3)), .ref (b0 + (k + 4)), .ref (b0 + (k + 5)), .ref (b0 + (k + 6)), .ref (b0 + (k + 7)), .int 0, .ref (b0 + (k + 8)), .int 0, .int 0, .int 0, .int 0, .int 0, .int 0, .int 0, .int 0, .ref (b0 + (k + 9)), .ref (b0 + (k + 10)), .null, .null, .int 0]) := g1_E28
  have hE28_238 : E28 (k + 1) = .inl (cI, 8, .inl (fun j => if j < 8 then -1 else 0)) := (g2_E28 _ (by omega)).trans hE27_226
  have hE28_239 : E28 (k + 2) = .inl (cI, 8, .inl (fun _ => 0)) := (g2_E28 _ (by omega)).trans hE27_227
  have hE28_240 : E28 (k + 3) = .inl (cI, 320, .inl (fun _ => 0)) := (g2_E28 _ (by omega)).trans hE27_228
  have hE28_241 : E28 (k + 4) = .inl (cI, 39, .inl (fun _ => 0)) := (g2_E28 _ (by omega)).trans hE27_229
  have hE28_242 : E28 (k + 5) = .inl (cI, 39, .inl (fun _ => 0)) := (g2_E28 _ (by omega)).trans hE27_230
  have hE28_243 : E28 (k + 6) = .inl (cI, 39, .inl (fun _ => 0)) := (g2_E28 _ (by omega)).trans hE27_231
  have hE28_244 : E28 (k + 7) = .inl (cI, 936, .inl (fun _ => 0)) := (g2_E28 _ (by omega)).trans hE27_232
  have hE28_245 : E28 (k + 8) = .inl (cI, 100, .inl (fun _ => 0)) := (g2_E28 _ (by omega)).trans hE27_233
  have hE28_246 : E28 (k + 9) = .inl (cI, 4, .inl (fun _ => 0)) := (g2_E28 _ (by omega)).trans hE27_234
  have hE28_247 : E28 (k + 10) = .inl (cZ, 2, .inl (fun _ => 0)) := (g2_E28 _ (by omega)).trans hE27
  have oE28_248 : ∀ j, j < k → E28 j = E0 j := fun j z => (g2_E28 j (by omega)).trans (oE27_235 j z)
  refine fk_aload_n (pc := 118) C 0 dX9_init_118 rfl rfl ?_
  refine fk_bipush (pc := 119) C (v := 78) dX9_init_119 fk_bipush_78 ?_
  refine fk_newa (pc := 121) C (n := (k + 11)) (N' := 78) (a0 := (78, .inl (fun _ => 0))) (cA := cI) 0 krX9_int rfl rfl rfl (fun _ => rfl) (by decide) (by decide) (by decide) ⟨Nat.le_of_ble_eq_true rfl, Nat.le_of_ble_eq_true rfl⟩ dX9_init_121 (fun E29 g1_E29 g2_E29 => ?_)
  have hE29 : E29 (k + 11) = .inl (cI, 78, .inl (fun _ => 0)) := g1_E29
  have hE29_253 : E29 k = .inr (9, [.int 0, .int 0, .ref (b0 + (k + 1)), .ref (b0 + (k + 2)), .ref (b0 + (k + 3)), .ref (b0 + (k + 4)), .ref (b0 + (k + 5)), .ref (b0 + (k + 6)), .ref (b0 + (k + 7)), .int 0, .ref (b0 + (k + 8)), .int 0, .int 0, .int 0, .int 0, .int 0, .int 0, .int 0, .int 0, .ref (b0 + (k + 9)), .ref (b0 + (k + 10)), .null, .null, .int 0]) := (g2_E29 _ (by omega)).trans hE28
  have hE29_254 : E29 (k + 1) = .inl (cI, 8, .inl (fun j => if j < 8 then -1 else 0)) := (g2_E29 _ (by omega)).trans hE28_238
  have hE29_255 : E29 (k + 2) = .inl (cI, 8, .inl (fun _ => 0)) := (g2_E29 _ (by omega)).trans hE28_239
  have hE29_256 : E29 (k + 3) = .inl (cI, 320, .inl (fun _ => 0)) := (g2_E29 _ (by omega)).trans hE28_240
  have hE29_257 : E29 (k + 4) = .inl (cI, 39, .inl (fun _ => 0)) := (g2_E29 _ (by omega)).trans hE28_241
  have hE29_258 : E29 (k + 5) = .inl (cI, 39, .inl (fun _ => 0)) := (g2_E29 _ (by omega)).trans hE28_242
  have hE29_259 : E29 (k + 6) = .inl (cI, 39, .inl (fun _ => 0)) := (g2_E29 _ (by omega)).trans hE28_243
  have hE29_260 : E29 (k + 7) = .inl (cI, 936, .inl (fun _ => 0)) := (g2_E29 _ (by omega)).trans hE28_244
  have hE29_261 : E29 (k + 8) = .inl (cI, 100, .inl (fun _ => 0)) := (g2_E29 _ (by omega)).trans hE28_245
  have hE29_262 : E29 (k + 9) = .inl (cI, 4, .inl (fun _ => 0)) := (g2_E29 _ (by omega)).trans hE28_246
  have hE29_263 : E29 (k + 10) = .inl (cZ, 2, .inl (fun _ => 0)) := (g2_E29 _ (by omega)).trans hE28_247
  have oE29_264 : ∀ j, j < k → E29 j = E0 j := fun j z => (g2_E29 j (by omega)).trans (oE28_248 j z)
  refine fk_putF (pc := 123) C hin (by omega) hE29_253 rfl qiX9_41_21 tyX9 tyX9_ok nmX9 rfl rfl rfl rfl rfl (Nat.le_of_ble_eq_true rfl) dX9_init_123 (fun E30 g1_E30 g2_E30 => ?_)
  have hE30 : E30 k = .inr (9, [.int 0, .int 0, .ref (b0 + (k + 1)), .ref (b0 + (k + 2)), .ref (b0 + (k + 3)), .ref (b0 + (k + 4)), .ref (b0 + (k + 5)), .ref (b0 + (k + 6)), .ref (b0 + (k + 7)), .int 0, .ref (b0 + (k + 8)), .int 0, .int 0, .int 0, .int 0, .int 0, .int 0, .int 0, .int 0, .ref (b0 + (k + 9)), .ref (b0 + (k + 10)), .ref (b0 + (k + 11)), .null, .int 0]) := g1_E30
  have hE30_267 : E30 (k + 1) = .inl (cI, 8, .inl (fun j => if j < 8 then -1 else 0)) := (g2_E30 _ (by omega)).trans hE29_254
  have hE30_268 : E30 (k + 2) = .inl (cI, 8, .inl (fun _ => 0)) := (g2_E30 _ (by omega)).trans hE29_255
  have hE30_269 : E30 (k + 3) = .inl (cI, 320, .inl (fun _ => 0)) := (g2_E30 _ (by omega)).trans hE29_256
  have hE30_270 : E30 (k + 4) = .inl (cI, 39, .inl (fun _ => 0)) := (g2_E30 _ (by omega)).trans hE29_257
  have hE30_271 : E30 (k + 5) = .inl (cI, 39, .inl (fun _ => 0)) := (g2_E30 _ (by omega)).trans hE29_258
  have hE30_272 : E30 (k + 6) = .inl (cI, 39, .inl (fun _ => 0)) := (g2_E30 _ (by omega)).trans hE29_259
  have hE30_273 : E30 (k + 7) = .inl (cI, 936, .inl (fun _ => 0)) := (g2_E30 _ (by omega)).trans hE29_260
  have hE30_274 : E30 (k + 8) = .inl (cI, 100, .inl (fun _ => 0)) := (g2_E30 _ (by omega)).trans hE29_261
  have hE30_275 : E30 (k + 9) = .inl (cI, 4, .inl (fun _ => 0)) := (g2_E30 _ (by omega)).trans hE29_262
  have hE30_276 : E30 (k + 10) = .inl (cZ, 2, .inl (fun _ => 0)) := (g2_E30 _ (by omega)).trans hE29_263
  have hE30_277 : E30 (k + 11) = .inl (cI, 78, .inl (fun _ => 0)) := (g2_E30 _ (by omega)).trans hE29
  have oE30_278 : ∀ j, j < k → E30 j = E0 j := fun j z => (g2_E30 j (by omega)).trans (oE29_264 j z)
  refine fk_aload_n (pc := 126) C 0 dX9_init_126 rfl rfl ?_
  refine fk_bipush (pc := 127) C (v := 16) dX9_init_127 fk_bipush_16 ?_
  refine fk_newa (pc := 129) C (n := (k + 12)) (N' := 16) (a0 := (16, .inl (fun _ => 0))) (cA := cI) 0 krX9_int rfl rfl rfl (fun _ => rfl) (by decide) (by decide) (by decide) ⟨Nat.le_of_ble_eq_true rfl, Nat.le_of_ble_eq_true rfl⟩ dX9_init_129 (fun E31 g1_E31 g2_E31 => ?_)
  have hE31 : E31 (k + 12) = .inl (cI, 16, .inl (fun _ => 0)) := g1_E31
  have hE31_283 : E31 k = .inr (9, [.int 0, .int 0, .ref (b0 + (k + 1)), .ref (b0 + (k + 2)), .ref (b0 + (k + 3)), .ref (b0 + (k + 4)), .ref (b0 + (k + 5)), .ref (b0 + (k + 6)), .ref (b0 + (k + 7)), .int 0, .ref (b0 + (k + 8)), .int 0, .int 0, .int 0, .int 0, .int 0, .int 0, .int 0, .int 0, .ref (b0 + (k + 9)), .ref (b0 + (k + 10)), .ref (b0 + (k + 11)), .null, .int 0]) := (g2_E31 _ (by omega)).trans hE30
  have hE31_284 : E31 (k + 1) = .inl (cI, 8, .inl (fun j => if j < 8 then -1 else 0)) := (g2_E31 _ (by omega)).trans hE30_267
  have hE31_285 : E31 (k + 2) = .inl (cI, 8, .inl (fun _ => 0)) := (g2_E31 _ (by omega)).trans hE30_268
  have hE31_286 : E31 (k + 3) = .inl (cI, 320, .inl (fun _ => 0)) := (g2_E31 _ (by omega)).trans hE30_269
  have hE31_287 : E31 (k + 4) = .inl (cI, 39, .inl (fun _ => 0)) := (g2_E31 _ (by omega)).trans hE30_270
  have hE31_288 : E31 (k + 5) = .inl (cI, 39, .inl (fun _ => 0)) := (g2_E31 _ (by omega)).trans hE30_271
  have hE31_289 : E31 (k + 6) = .inl (cI, 39, .inl (fun _ => 0)) := (g2_E31 _ (by omega)).trans hE30_272
  have hE31_290 : E31 (k + 7) = .inl (cI, 936, .inl (fun _ => 0)) := (g2_E31 _ (by omega)).trans hE30_273
  have hE31_291 : E31 (k + 8) = .inl (cI, 100, .inl (fun _ => 0)) := (g2_E31 _ (by omega)).trans hE30_274
  have hE31_292 : E31 (k + 9) = .inl (cI, 4, .inl (fun _ => 0)) := (g2_E31 _ (by omega)).trans hE30_275
  have hE31_293 : E31 (k + 10) = .inl (cZ, 2, .inl (fun _ => 0)) := (g2_E31 _ (by omega)).trans hE30_276
  have hE31_294 : E31 (k + 11) = .inl (cI, 78, .inl (fun _ => 0)) := (g2_E31 _ (by omega)).trans hE30_277
  have oE31_295 : ∀ j, j < k → E31 j = E0 j := fun j z => (g2_E31 j (by omega)).trans (oE30_278 j z)
  refine fk_putF (pc := 131) C hin (by omega) hE31_283 rfl qiX9_44_22 tyX9 tyX9_ok nmX9 rfl rfl rfl rfl rfl (Nat.le_of_ble_eq_true rfl) dX9_init_131 (fun E32 g1_E32 g2_E32 => ?_)
  have hE32 : E32 k = .inr (9, [.int 0, .int 0, .ref (b0 + (k + 1)), .ref (b0 + (k + 2)), .ref (b0 + (k + 3)), .ref (b0 + (k + 4)), .ref (b0 + (k + 5)), .ref (b0 + (k + 6)), .ref (b0 + (k + 7)), .int 0, .ref (b0 + (k + 8)), .int 0, .int 0, .int 0, .int 0, .int 0, .int 0, .int 0, .int 0, .ref (b0 + (k + 9)), .ref (b0 + (k + 10)), .ref (b0 + (k + 11)), .ref (b0 + (k + 12)), .int 0]) := g1_E32
  have hE32_298 : E32 (k + 1) = .inl (cI, 8, .inl (fun j => if j < 8 then -1 else 0)) := (g2_E32 _ (by omega)).trans hE31_284
  have hE32_299 : E32 (k + 2) = .inl (cI, 8, .inl (fun _ => 0)) := (g2_E32 _ (by omega)).trans hE31_285
  have hE32_300 : E32 (k + 3) = .inl (cI, 320, .inl (fun _ => 0)) := (g2_E32 _ (by omega)).trans hE31_286
  have hE32_301 : E32 (k + 4) = .inl (cI, 39, .inl (fun _ => 0)) := (g2_E32 _ (by omega)).trans hE31_287
  have hE32_302 : E32 (k + 5) = .inl (cI, 39, .inl (fun _ => 0)) := (g2_E32 _ (by omega)).trans hE31_288
  have hE32_303 : E32 (k + 6) = .inl (cI, 39, .inl (fun _ => 0)) := (g2_E32 _ (by omega)).trans hE31_289
  have hE32_304 : E32 (k + 7) = .inl (cI, 936, .inl (fun _ => 0)) := (g2_E32 _ (by omega)).trans hE31_290
  have hE32_305 : E32 (k + 8) = .inl (cI, 100, .inl (fun _ => 0)) := (g2_E32 _ (by omega)).trans hE31_291
  have hE32_306 : E32 (k + 9) = .inl (cI, 4, .inl (fun _ => 0)) := (g2_E32 _ (by omega)).trans hE31_292
  have hE32_307 : E32 (k + 10) = .inl (cZ, 2, .inl (fun _ => 0)) := (g2_E32 _ (by omega)).trans hE31_293
  have hE32_308 : E32 (k + 11) = .inl (cI, 78, .inl (fun _ => 0)) := (g2_E32 _ (by omega)).trans hE31_294
  have hE32_309 : E32 (k + 12) = .inl (cI, 16, .inl (fun _ => 0)) := (g2_E32 _ (by omega)).trans hE31
  have oE32_310 : ∀ j, j < k → E32 j = E0 j := fun j z => (g2_E32 j (by omega)).trans (oE31_295 j z)
  refine fk_vret (pc := 134) C hr ?_ dX9_init_134
  intro j hj
  unfold fk_fill
  by_cases z0 : j < k
  · rw [if_neg (by omega)]; exact Or.inl (oE32_310 j z0)
  rw [if_pos (by omega)]
  by_cases z1 : j = k
  · subst z1; exact Or.inl (hE32.trans hF.1.symm)
  by_cases z2 : j = (k + 1)
  · subst z2; exact Or.inl (hE32_298.trans hF.2.1.symm)
  by_cases z3 : j = (k + 2)
  · subst z3; exact Or.inl (hE32_299.trans hF.2.2.1.symm)
  by_cases z4 : j = (k + 3)
  · subst z4; exact Or.inl (hE32_300.trans hF.2.2.2.1.symm)
  by_cases z5 : j = (k + 4)
  · subst z5; exact Or.inl (hE32_301.trans hF.2.2.2.2.1.symm)
  by_cases z6 : j = (k + 5)
  · subst z6; exact Or.inl (hE32_302.trans hF.2.2.2.2.2.1.symm)
  by_cases z7 : j = (k + 6)
  · subst z7; exact Or.inl (hE32_303.trans hF.2.2.2.2.2.2.1.symm)
  by_cases z8 : j = (k + 7)
  · subst z8; exact Or.inl (hE32_304.trans hF.2.2.2.2.2.2.2.1.symm)
  by_cases z9 : j = (k + 8)
  · subst z9; exact Or.inl (hE32_305.trans hF.2.2.2.2.2.2.2.2.1.symm)
  by_cases z10 : j = (k + 9)
  · subst z10; exact Or.inl (hE32_306.trans hF.2.2.2.2.2.2.2.2.2.1.symm)
  by_cases z11 : j = (k + 10)
  · subst z11; exact Or.inl (hE32_307.trans hF.2.2.2.2.2.2.2.2.2.2.1.symm)
  by_cases z12 : j = (k + 11)
  · subst z12; exact Or.inl (hE32_308.trans hF.2.2.2.2.2.2.2.2.2.2.2.1.symm)
  by_cases z13 : j = (k + 12)
  · subst z13; exact Or.inl (hE32_309.trans hF.2.2.2.2.2.2.2.2.2.2.2.2.symm)
  omega
set_option maxRecDepth 100000 in
theorem ck_Mod {l : Launch} {D : va_G} {cI cZ cH cR : ClassId} {b0 k : Nat} {F E0 : Nat → va_E} (hF : pk_Mod F b0 cI cZ cH cR k) (hb : E0 k = .inr (9, [.int 0, .int 0, .null, .null, .null, .null, .null, .null, .null, .int 0, .null, .int 0, .int 0, .int 0, .int 0, .int 0, .int 0, .int 0, .int 0, .null, .null, .null, .null, .int 0])) : fk_Met l yX9_init wsX9_init rk_Mod D vwCl (fw_tys cI cZ cH cR) nw_k b0 [.ref (b0 + k)] (k + 1) E0 (k + 13) (fk_fill F E0 k 13) 12 1589 :=
  fk_intro (cc := cX9_init) (maxL := 1) (own := RX9) (by decide) rfl rfl rfl (Nat.le_of_ble_eq_true rfl) (fun p e s m args below meth c C hin hr => fk_sub [0] rfl (ci_Mod C hin hr hF hb))
abbrev rk_Acts : Room := { frames := 2, cells := 145, slots := 1080, locals := 60 }
theorem hd_iActs : yX0_init.cls ≠ "java/lang/invoke/MethodHandle" ∧ yX0_init.cls ≠ "java/lang/invoke/VarHandle" ∧ (parseMethodDescriptor yX0_init.desc).map (fun d => d.parameters.length) = some 0 := by decide +kernel
theorem hb_Acts : ∀ j, j < 3 → defaultValue (tyX0 j) = vp_V [.null, .int 0, .int 0] j := by decide
theorem rkc_Acts : (headSpec wsX0_init rk_Acts).room.cells = 145 := rfl
theorem rks_Acts : (headSpec wsX0_init rk_Acts).room.slots = 1080 := rfl
theorem qiX0_11_0 : fw_G wsX0_init RX0 11 RX0 TX0 3 0 := ⟨by decide +kernel, by decide +kernel, by decide⟩
theorem kwX0_9 : Cond.classLink RX0 9 RX3 ∈ wsX0_init ∧ Cond.instantiable RX3 9 ∈ wsX0_init ∧ Cond.initialized RX3 ∈ wsX0_init := by decide +kernel
theorem kiX0_X3 : ∀ w ∈ u_ws RX3 TX3 9, w ∈ wsX0_init := by decide +kernel
theorem kvX0_Hall_24 : Cond.initialized RX3 ∈ wsX0_init ∧ Cond.instanceMethod yX3_init ∈ wsX0_init := by decide +kernel
theorem koX0_3 : Cond.methodLink RX0 3 objectInit ∈ wsX0_init ∧ Cond.instanceMethod objectInit ∈ wsX0_init ∧ Cond.code objectInit ⟨#[0xb1]⟩ 1 none ∈ wsX0_init := by decide +kernel
theorem klX0_9 : Cond.classLink RX0 9 RX3 ∈ wsX0_init := by decide +kernel
theorem qiX0_17_1 : fw_G wsX0_init RX0 17 RX0 TX0 3 1 := ⟨by decide +kernel, by decide +kernel, by decide⟩
theorem qiX0_21_2 : fw_G wsX0_init RX0 21 RX0 TX0 3 2 := ⟨by decide +kernel, by decide +kernel, by decide⟩
set_option maxRecDepth 100000 in
set_option maxHeartbeats 4000000 in
theorem cl_Acts {p : Program} {l : Launch} {e : Env} {s : State} {m : MethodId} {args : Array Value} {below : List Frame} {meth : Method} {c : Code} {D : va_G} {cI cZ cH cR : ClassId} {b0 k : Nat} {F E0 : Nat → va_E} (C : fk_C p s m args meth c cX0_init RX0 wsX0_init 2 D vwCl (fw_tys cI cZ cH cR) nw_k) (hin : meth.name = "<init>") (hr : meth.sig.returnType = none) (hF : pk_Acts F b0 cI cZ cH cR k) : ∀ (r i : Nat) (E : Nat → va_E) (f : Nat → Option Nat), i + r = 24 → (E k = .inr (0, [.ref (b0 + (k + 1)), .int 0, .int 0])) → (E (k + 1) = .inl (cH, 24, .inr (.inr (.inr (.inr (f)))))) → (∀ j, j < i → f j = some (b0 + (k + 2 + 6 * j))) → (∀ j, k + 2 ≤ j → j < (k + 2 + 6 * i) → E j = F j) → (∀ j, j < k → E j = E0 j) → fk_J p l e (headSpec wsX0_init rk_Acts).room s m args below meth c D vwCl b0 2 (fk_E below args s D vwCl b0 (k + 146) (fk_fill F E0 k 146) 145 1080) (1 + 6 * i) (24 + 44 * i) (k + 2 + 6 * i) E [(0, .ref (b0 + k)), (1, .int (nI i))] 25 [] := by
  intro r
  induction r with
  | zero =>
    intro i E f hi0 hk ha hf hrg ho
    have hi : i = 24 := by omega
    subst hi
    refine fk_iload_n (pc := 25) C 1 dX0_init_25 rfl rfl ?_
    refine fk_bipush (pc := 26) C (v := 24) dX0_init_26 fk_bipush_24 ?_
    refine fk_icmp_ge (pc := 28) C (tgt := 50) dX0_init_28 (by decide) (fun c1 => ?_) (fun c1 => ?_)
    · refine fk_vret (pc := 50) C hr ?_ dX0_init_50
      intro j hj
      unfold fk_fill
      by_cases z0 : j < k
      · rw [if_neg (by omega)]; exact Or.inl (ho j z0)
      rw [if_pos (by omega)]
      by_cases z1 : j = k
      · subst z1; exact Or.inl (hk.trans hF.1.symm)
      by_cases z2 : j = (k + 1)
      · subst z2; exact Or.inr ⟨_, _, _, _, ha, hF.2.1, hf⟩
      by_cases z_hrg : k + 2 ≤ j ∧ j < (k + 2 + 6 * 24)
      · exact Or.inl (hrg j z_hrg.1 z_hrg.2)
      omega
    · exact absurd (nI_le (a := 24) (b := 24) (by omega) (by decide)) c1
  | succ r ih =>
    intro i E f hi0 hk ha hf hrg ho
    have hi : i < 24 := by omega
    refine fk_iload_n (pc := 25) C 1 dX0_init_25 rfl rfl ?_
    refine fk_bipush (pc := 26) C (v := 24) dX0_init_26 fk_bipush_24 ?_
    refine fk_icmp_ge (pc := 28) C (tgt := 50) dX0_init_28 (by decide) (fun c1 => ?_) (fun c1 => ?_)
    · exact absurd c1 (nI_ge (a := i) (b := 24) hi (by decide))
    · refine fk_aload_n (pc := 31) C 0 dX0_init_31 rfl rfl ?_
      refine fk_getr (pc := 32) C (by omega) hk rfl qiX0_11_0 rfl dX0_init_32 ?_
      refine fk_iload_n (pc := 35) C 1 dX0_init_35 rfl rfl ?_
      refine fk_new (pc := 36) C (ci := 3) (n := (k + 2 + 6 * i)) (fs := [.int 0, .int 0, .int 0, .int 0, .null, .null, .null, .null, .null]) kiX0_X3 tyX3 tyX3_ok kwX0_9 rfl hb_Hall (by rw [rkc_Acts, rks_Acts]; omega) dX0_init_36 (fun E1 g1_E1 g2_E1 => ?_)
      have hE1 : E1 (k + 2 + 6 * i) = .inr (3, [.int 0, .int 0, .int 0, .int 0, .null, .null, .null, .null, .null]) := g1_E1
      have hE1_5 : E1 k = .inr (0, [.ref (b0 + (k + 1)), .int 0, .int 0]) := (g2_E1 _ (by omega)).trans hk
      have hE1_6 : E1 (k + 1) = .inl (cH, 24, .inr (.inr (.inr (.inr (f))))) := (g2_E1 _ (by omega)).trans ha
      have rE1_7 : ∀ j, k + 2 ≤ j → j < (k + 2 + 6 * i) → E1 j = F j := fun j z1 z2 => (g2_E1 j (by omega)).trans (hrg j z1 z2)
      have oE1_8 : ∀ j, j < k → E1 j = E0 j := fun j z => (g2_E1 j (by omega)).trans (ho j z)
      refine fk_dup (pc := 39) C dX0_init_39 rfl ?_
      refine fk_callIN (pc := 40) C (ck_Hall (F := F) (E0 := E1) (hF.2.2 i hi) hE1) ⟨va_cnB 0 C.2.2.2.2.1 gX0_init_X3_init_n24 rfl rfl rfl (C.2.2.2.2.2.2.1.1 (RX0, 24, yX3_init, "YieldDoors") (by decide +kernel)) (C.2.2.2.2.1 _ kvX0_Hall_24.1) hd_iHall ⟨Nat.le_of_ble_eq_true rfl, Nat.le_of_ble_eq_true rfl⟩, rfl, C.2.2.2.2.1 _ kvX0_Hall_24.2⟩ (Nat.le_of_ble_eq_true rfl) dX0_init_40 (by rw [rkc_Acts, rks_Acts]; omega) ?_
      obtain ⟨E2, eE2⟩ : ∃ z, z = fk_fill F E1 (k + 2 + 6 * i) 6 := ⟨_, rfl⟩
      rw [← eE2]
      have g2_E2 : ∀ j, ¬ ((k + 2 + 6 * i) ≤ j ∧ j < (k + 2 + 6 * i) + 6) → E2 j = E1 j := fun j z => by rw [eE2]; exact if_neg z
      have g1_E2 : ∀ j, (k + 2 + 6 * i) ≤ j → j < (k + 2 + 6 * i) + 6 → E2 j = F j := fun j z1 z2 => by rw [eE2]; exact if_pos ⟨z1, z2⟩
      have hE2_15 : E2 k = .inr (0, [.ref (b0 + (k + 1)), .int 0, .int 0]) := (g2_E2 _ (by omega)).trans hE1_5
      have hE2_16 : E2 (k + 1) = .inl (cH, 24, .inr (.inr (.inr (.inr (f))))) := (g2_E2 _ (by omega)).trans hE1_6
      have rE2_17 : ∀ j, k + 2 ≤ j → j < (k + 2 + 6 * i) → E2 j = F j := fun j z1 z2 => (g2_E2 j (by omega)).trans (rE1_7 j z1 z2)
      have oE2_18 : ∀ j, j < k → E2 j = E0 j := fun j z => (g2_E2 j (by omega)).trans (oE1_8 j z)
      have hv_E3 : E2 (k + 2 + 6 * i) = F (k + 2 + 6 * i) := g1_E2 (k + 2 + 6 * i) (by omega) (by omega)
      refine fk_aast (pc := 43) C 2 (by omega) hE2_16 rfl (by omega) (hv_E3.trans (hF.2.2 i hi).1) rfl (vp_in_nI hi (by decide)) dX0_init_43 (fun E3 g1_E3 g2_E3 => ?_)
      have hE3 : E3 (k + 1) = .inl (cH, 24, .inr (.inr (.inr (.inr (va_up f (nI i).toNatClampNeg (some (b0 + (k + 2 + 6 * i)))))))) := g1_E3
      have hE3_22 : E3 k = .inr (0, [.ref (b0 + (k + 1)), .int 0, .int 0]) := (g2_E3 _ (by omega)).trans hE2_15
      have rE3_23 : ∀ j, k + 2 ≤ j → j < (k + 2 + 6 * i) → E3 j = F j := fun j z1 z2 => (g2_E3 j (by omega)).trans (rE2_17 j z1 z2)
      have rE3_24 : ∀ j, (k + 2 + 6 * i) ≤ j → j < (k + 2 + 6 * i) + 6 → E3 j = F j := fun j z1 z2 => (g2_E3 j (by omega)).trans (g1_E2 j z1 z2)
      have oE3_25 : ∀ j, j < k → E3 j = E0 j := fun j z => (g2_E3 j (by omega)).trans (oE2_18 j z)
      refine fk_iinc (pc := 44) C (v := nI (i + 1)) (L2 := [(0, .ref _), (1, .int _)]) 1 [1, 0] dX0_init_44 rfl (by rw [fk_iconst_1]; exact nI_1 i) (by decide) rfl ?_
      refine fk_goto (pc := 47) C (tgt := 25) dX0_init_47 (by decide) ?_
      refine fk_widen (k := 1 + 6 * (i + 1)) (n1 := 24 + 44 * (i + 1)) (by omega) (by omega) ?_
      refine fk_at (n2 := k + 2 + 6 * (i + 1)) (by omega) ?_
      refine ih (i + 1) E3 _ (by omega) hE3_22 hE3 (fun j z => ?_) (fun j z1 z2 => if z : j < (k + 2 + 6 * i) then rE3_23 j z1 z else rE3_24 j (by omega) (by omega)) oE3_25
      by_cases zi : j = i
      · subst zi; rw [nI_clamp (by omega)]; exact if_pos rfl
      · rw [nI_clamp (by omega)]; exact (if_neg zi).trans (hf j (by omega))
set_option maxRecDepth 100000 in
set_option maxHeartbeats 4000000 in
theorem ci_Acts {p : Program} {l : Launch} {e : Env} {s : State} {m : MethodId} {args : Array Value} {below : List Frame} {meth : Method} {c : Code} {D : va_G} {cI cZ cH cR : ClassId} {b0 k : Nat} {F E0 : Nat → va_E} (C : fk_C p s m args meth c cX0_init RX0 wsX0_init 2 D vwCl (fw_tys cI cZ cH cR) nw_k) (hin : meth.name = "<init>") (hr : meth.sig.returnType = none) (hF : pk_Acts F b0 cI cZ cH cR k) (hb : E0 k = .inr (0, [.null, .int 0, .int 0])) : fk_J p l e (headSpec wsX0_init rk_Acts).room s m args below meth c D vwCl b0 2 (fk_E below args s D vwCl b0 (k + 146) (fk_fill F E0 k 146) 145 1080) 0 0 (k + 1) E0 [(0, .ref (b0 + k))] 0 [] := by
  have o0 : ∀ j, j < k → E0 j = E0 j := fun _ _ => rfl
  refine fk_aload_n (pc := 0) C 0 dX0_init_0 rfl rfl ?_
  refine fk_obj (pc := 1) C koX0_3 (Nat.le_of_ble_eq_true rfl) (Nat.le_of_ble_eq_true rfl) dX0_init_1 ?_
  refine fk_aload_n (pc := 4) C 0 dX0_init_4 rfl rfl ?_
  refine fk_bipush (pc := 5) C (v := 24) dX0_init_5 fk_bipush_24 ?_
  refine fk_newq (pc := 7) C (n := (k + 1)) (N' := 24) (cA := cH) 2 klX0_9 C.2.2.2.2.2.2.1.2.1 rfl (by decide) (by decide) (by decide) ⟨Nat.le_of_ble_eq_true rfl, Nat.le_of_ble_eq_true rfl⟩ dX0_init_7 (fun E1 g1_E1 g2_E1 => ?_)
  have hE1 : E1 (k + 1) = .inl (cH, 24, .inr (.inr (.inr (.inr (fun _ => none))))) := g1_E1
  have hE1_7 : E1 k = .inr (0, [.null, .int 0, .int 0]) := (g2_E1 _ (by omega)).trans hb
  have oE1_8 : ∀ j, j < k → E1 j = E0 j := fun j z => (g2_E1 j (by omega)).trans (o0 j z)
  refine fk_putF (pc := 10) C hin (by omega) hE1_7 rfl qiX0_11_0 tyX0 tyX0_ok nmX0 rfl rfl rfl rfl rfl (Nat.le_of_ble_eq_true rfl) dX0_init_10 (fun E2 g1_E2 g2_E2 => ?_)
  have hE2 : E2 k = .inr (0, [.ref (b0 + (k + 1)), .int 0, .int 0]) := g1_E2
  have hE2_11 : E2 (k + 1) = .inl (cH, 24, .inr (.inr (.inr (.inr (fun _ => none))))) := (g2_E2 _ (by omega)).trans hE1
  have oE2_12 : ∀ j, j < k → E2 j = E0 j := fun j z => (g2_E2 j (by omega)).trans (oE1_8 j z)
  refine fk_aload_n (pc := 13) C 0 dX0_init_13 rfl rfl ?_
  refine fk_iconst (pc := 14) C (v := 0) dX0_init_14 fk_iconst_0 ?_
  refine fk_put (pc := 15) C (by omega) hE2 rfl qiX0_17_1 tyX0 tyX0_ok nmX0 rfl rfl rfl rfl (Nat.le_of_ble_eq_true rfl) dX0_init_15 (fun E3 g1_E3 g2_E3 => ?_)
  have hE3 : E3 k = .inr (0, [.ref (b0 + (k + 1)), .int 0, .int 0]) := g1_E3
  have hE3_17 : E3 (k + 1) = .inl (cH, 24, .inr (.inr (.inr (.inr (fun _ => none))))) := (g2_E3 _ (by omega)).trans hE2_11
  have oE3_18 : ∀ j, j < k → E3 j = E0 j := fun j z => (g2_E3 j (by omega)).trans (oE2_12 j z)
  refine fk_aload_n (pc := 18) C 0 dX0_init_18 rfl rfl ?_
  refine fk_iconst (pc := 19) C (v := 0) dX0_init_19 fk_iconst_0 ?_
  refine fk_put (pc := 20) C (by omega) hE3 rfl qiX0_21_2 tyX0 tyX0_ok nmX0 rfl rfl rfl rfl (Nat.le_of_ble_eq_true rfl) dX0_init_20 (fun E4 g1_E4 g2_E4 => ?_)
  have hE4 : E4 k = .inr (0, [.ref (b0 + (k + 1)), .int 0, .int 0]) := g1_E4
  have hE4_23 : E4 (k + 1) = .inl (cH, 24, .inr (.inr (.inr (.inr (fun _ => none))))) := (g2_E4 _ (by omega)).trans hE3_17
  have oE4_24 : ∀ j, j < k → E4 j = E0 j := fun j z => (g2_E4 j (by omega)).trans (oE3_18 j z)
  refine fk_iconst (pc := 23) C (v := 0) dX0_init_23 fk_iconst_0 ?_
  refine fk_istore_n (pc := 24) C (L2 := [(0, .ref _), (1, .int _)]) [1, 0] dX0_init_24 rfl (by decide) rfl ?_
  exact cl_Acts C hin hr hF 24 0 E4 (fun _ => none) (by omega) hE4 hE4_23 (fun j z => absurd z (by omega)) (fun j z1 z2 => absurd z1 (by omega)) oE4_24
set_option maxRecDepth 100000 in
theorem ck_Acts {l : Launch} {D : va_G} {cI cZ cH cR : ClassId} {b0 k : Nat} {F E0 : Nat → va_E} (hF : pk_Acts F b0 cI cZ cH cR k) (hb : E0 k = .inr (0, [.null, .int 0, .int 0])) : fk_Met l yX0_init wsX0_init rk_Acts D vwCl (fw_tys cI cZ cH cR) nw_k b0 [.ref (b0 + k)] (k + 1) E0 (k + 146) (fk_fill F E0 k 146) 145 1080 :=
  fk_intro (cc := cX0_init) (maxL := 2) (own := RX0) (by decide) rfl rfl rfl (Nat.le_of_ble_eq_true rfl) (fun p e s m args below meth c C hin hr => fk_sub [0] rfl (ci_Acts C hin hr hF hb))
abbrev rk_Door : Room := { frames := 3, cells := 198, slots := 1764, locals := 91 }
theorem hd_iDoor : yX8_init.cls ≠ "java/lang/invoke/MethodHandle" ∧ yX8_init.cls ≠ "java/lang/invoke/VarHandle" ∧ (parseMethodDescriptor yX8_init.desc).map (fun d => d.parameters.length) = some 0 := by decide +kernel
theorem hb_Door : ∀ j, j < 9 → defaultValue (tyX8 j) = vp_V [.null, .null, .null, .null, .null, .null, .null, .int 0, .int 0] j := by decide
theorem rkc_Door : (headSpec wsX8_init rk_Door).room.cells = 198 := rfl
theorem rks_Door : (headSpec wsX8_init rk_Door).room.slots = 1764 := rfl
theorem qiX8_11_0 : fw_G wsX8_init RX8 11 RX8 TX8 9 0 := ⟨by decide +kernel, by decide +kernel, by decide⟩
theorem kwX8_9 : Cond.classLink RX8 9 RX6 ∈ wsX8_init ∧ Cond.instantiable RX6 3 ∈ wsX8_init ∧ Cond.initialized RX6 ∈ wsX8_init := by decide +kernel
theorem kiX8_X6 : ∀ w ∈ u_ws RX6 TX6 3, w ∈ wsX8_init := by decide +kernel
theorem kvX8_Row_61 : Cond.initialized RX6 ∈ wsX8_init ∧ Cond.instanceMethod yX6_init ∈ wsX8_init := by decide +kernel
theorem qiX8_36_4 : fw_G wsX8_init RX8 36 RX8 TX8 9 4 := ⟨by decide +kernel, by decide +kernel, by decide⟩
theorem kwX8_22 : Cond.classLink RX8 22 RX3 ∈ wsX8_init ∧ Cond.instantiable RX3 9 ∈ wsX8_init ∧ Cond.initialized RX3 ∈ wsX8_init := by decide +kernel
theorem kiX8_X3 : ∀ w ∈ u_ws RX3 TX3 9, w ∈ wsX8_init := by decide +kernel
theorem kvX8_Hall_24 : Cond.initialized RX3 ∈ wsX8_init ∧ Cond.instanceMethod yX3_init ∈ wsX8_init := by decide +kernel
theorem koX8_1 : Cond.methodLink RX8 1 objectInit ∈ wsX8_init ∧ Cond.instanceMethod objectInit ∈ wsX8_init ∧ Cond.code objectInit ⟨#[0xb1]⟩ 1 none ∈ wsX8_init := by decide +kernel
theorem klX8_9 : Cond.classLink RX8 9 RX6 ∈ wsX8_init := by decide +kernel
theorem kwX8_15 : Cond.classLink RX8 15 RX7 ∈ wsX8_init ∧ Cond.instantiable RX7 4 ∈ wsX8_init ∧ Cond.initialized RX7 ∈ wsX8_init := by decide +kernel
theorem kiX8_X7 : ∀ w ∈ u_ws RX7 TX7 4, w ∈ wsX8_init := by decide +kernel
theorem kvX8_Tape_17 : Cond.initialized RX7 ∈ wsX8_init ∧ Cond.instanceMethod yX7_init ∈ wsX8_init := by decide +kernel
theorem qiX8_18_1 : fw_G wsX8_init RX8 18 RX8 TX8 9 1 := ⟨by decide +kernel, by decide +kernel, by decide⟩
theorem qiX8_25_2 : fw_G wsX8_init RX8 25 RX8 TX8 9 2 := ⟨by decide +kernel, by decide +kernel, by decide⟩
theorem kwX8_29 : Cond.classLink RX8 29 RX0 ∈ wsX8_init ∧ Cond.instantiable RX0 3 ∈ wsX8_init ∧ Cond.initialized RX0 ∈ wsX8_init := by decide +kernel
theorem kiX8_X0 : ∀ w ∈ u_ws RX0 TX0 3, w ∈ wsX8_init := by decide +kernel
theorem kvX8_Acts_31 : Cond.initialized RX0 ∈ wsX8_init ∧ Cond.instanceMethod yX0_init ∈ wsX8_init ∧ Cond.methodLink RX8 31 yX0_init ∈ wsX8_init := by decide +kernel
theorem qiX8_32_3 : fw_G wsX8_init RX8 32 RX8 TX8 9 3 := ⟨by decide +kernel, by decide +kernel, by decide⟩
theorem klX8_22 : Cond.classLink RX8 22 RX3 ∈ wsX8_init := by decide +kernel
theorem kwX8_40 : Cond.classLink RX8 40 RX2 ∈ wsX8_init ∧ Cond.instantiable RX2 3 ∈ wsX8_init ∧ Cond.initialized RX2 ∈ wsX8_init := by decide +kernel
theorem kiX8_X2 : ∀ w ∈ u_ws RX2 TX2 3, w ∈ wsX8_init := by decide +kernel
theorem kvX8_Fore_42 : Cond.initialized RX2 ∈ wsX8_init ∧ Cond.instanceMethod yX2_init ∈ wsX8_init := by decide +kernel
theorem qiX8_43_5 : fw_G wsX8_init RX8 43 RX8 TX8 9 5 := ⟨by decide +kernel, by decide +kernel, by decide⟩
theorem kwX8_47 : Cond.classLink RX8 47 RX1 ∈ wsX8_init ∧ Cond.instantiable RX1 2 ∈ wsX8_init ∧ Cond.initialized RX1 ∈ wsX8_init := by decide +kernel
theorem kiX8_X1 : ∀ w ∈ u_ws RX1 TX1 2, w ∈ wsX8_init := by decide +kernel
theorem kvX8_Asking_49 : Cond.initialized RX1 ∈ wsX8_init ∧ Cond.instanceMethod yX1_init ∈ wsX8_init := by decide +kernel
theorem qiX8_50_6 : fw_G wsX8_init RX8 50 RX8 TX8 9 6 := ⟨by decide +kernel, by decide +kernel, by decide⟩
theorem qiX8_54_7 : fw_G wsX8_init RX8 54 RX8 TX8 9 7 := ⟨by decide +kernel, by decide +kernel, by decide⟩
theorem qiX8_58_8 : fw_G wsX8_init RX8 58 RX8 TX8 9 8 := ⟨by decide +kernel, by decide +kernel, by decide⟩
set_option maxRecDepth 100000 in
set_option maxHeartbeats 4000000 in
theorem cl_Door2 {p : Program} {l : Launch} {e : Env} {s : State} {m : MethodId} {args : Array Value} {below : List Frame} {meth : Method} {c : Code} {D : va_G} {cI cZ cH cR : ClassId} {b0 k : Nat} {F E0 : Nat → va_E} {fr : Nat → Option Nat} (hfr : ∀ i, i < 8 → fr i = some (b0 + (k + 171 + 2 * i))) (C : fk_C p s m args meth c cX8_init RX8 wsX8_init 2 D vwCl (fw_tys cI cZ cH cR) nw_k) (hin : meth.name = "<init>") (hr : meth.sig.returnType = none) (hF : pk_Door F b0 cI cZ cH cR k) : ∀ (r i : Nat) (E : Nat → va_E) (f : Nat → Option Nat), i + r = 2 → (E k = .inr (8, [.ref (b0 + (k + 1)), .ref (b0 + (k + 2)), .ref (b0 + (k + 4)), .ref (b0 + (k + 10)), .ref (b0 + (k + 156)), .ref (b0 + (k + 157)), .ref (b0 + (k + 169)), .int 0, .int 0])) → (E (k + 156) = .inl (cH, 2, .inr (.inr (.inr (.inr (f)))))) → (∀ j, j < i → f j = some (b0 + (k + 187 + 6 * j))) → (∀ j, k + 187 ≤ j → j < (k + 187 + 6 * i) → E j = F j) → (E (k + 1) = .inl (cR, 8, .inr (.inr (.inr (.inr (fr)))))) → (∀ j, k + 2 ≤ j → j < k + 2 + 2 → E j = F j) → (∀ j, k + 4 ≤ j → j < k + 4 + 6 → E j = F j) → (∀ j, k + 10 ≤ j → j < k + 10 + 146 → E j = F j) → (∀ j, k + 157 ≤ j → j < k + 157 + 12 → E j = F j) → (∀ j, k + 169 ≤ j → j < k + 169 + 2 → E j = F j) → (∀ j, k + 171 ≤ j → j < k + 171 + 2 * 8 → E j = F j) → (∀ j, j < k → E j = E0 j) → fk_J p l e (headSpec wsX8_init rk_Door).room s m args below meth c D vwCl b0 2 (fk_E below args s D vwCl b0 (k + 199) (fk_fill F E0 k 199) 198 1764) (186 + 6 * i) (1676 + 44 * i) (k + 187 + 6 * i) E [(0, .ref (b0 + k)), (1, .int (nI i))] 115 [] := by
  intro r
  induction r with
  | zero =>
    intro i E f hi0 hk ha hf hrg hrow hr_tape hr_hall hr_acts hr_fore hr_ask hr_rows ho
    have hi : i = 2 := by omega
    subst hi
    refine fk_iload_n (pc := 115) C 1 dX8_init_115 rfl rfl ?_
    refine fk_iconst (pc := 116) C (v := 2) dX8_init_116 fk_iconst_2 ?_
    refine fk_icmp_ge (pc := 117) C (tgt := 139) dX8_init_117 (by decide) (fun c1 => ?_) (fun c1 => ?_)
    · refine fk_vret (pc := 139) C hr ?_ dX8_init_139
      intro j hj
      unfold fk_fill
      by_cases z0 : j < k
      · rw [if_neg (by omega)]; exact Or.inl (ho j z0)
      rw [if_pos (by omega)]
      by_cases z1 : j = k
      · subst z1; exact Or.inl (hk.trans hF.1.symm)
      by_cases z2 : j = (k + 1)
      · subst z2; exact Or.inr ⟨_, _, _, _, hrow, hF.2.1, (fun i z => hfr i z)⟩
      by_cases z6 : j = (k + 156)
      · subst z6; exact Or.inr ⟨_, _, _, _, ha, hF.2.2.2.2.2.1, hf⟩
      by_cases z_hrg : k + 187 ≤ j ∧ j < (k + 187 + 6 * 2)
      · exact Or.inl (hrg j z_hrg.1 z_hrg.2)
      by_cases z_hr_tape : k + 2 ≤ j ∧ j < k + 2 + 2
      · exact Or.inl (hr_tape j z_hr_tape.1 z_hr_tape.2)
      by_cases z_hr_hall : k + 4 ≤ j ∧ j < k + 4 + 6
      · exact Or.inl (hr_hall j z_hr_hall.1 z_hr_hall.2)
      by_cases z_hr_acts : k + 10 ≤ j ∧ j < k + 10 + 146
      · exact Or.inl (hr_acts j z_hr_acts.1 z_hr_acts.2)
      by_cases z_hr_fore : k + 157 ≤ j ∧ j < k + 157 + 12
      · exact Or.inl (hr_fore j z_hr_fore.1 z_hr_fore.2)
      by_cases z_hr_ask : k + 169 ≤ j ∧ j < k + 169 + 2
      · exact Or.inl (hr_ask j z_hr_ask.1 z_hr_ask.2)
      by_cases z_hr_rows : k + 171 ≤ j ∧ j < k + 171 + 2 * 8
      · exact Or.inl (hr_rows j z_hr_rows.1 z_hr_rows.2)
      omega
    · exact absurd (nI_le (a := 2) (b := 2) (by omega) (by decide)) c1
  | succ r ih =>
    intro i E f hi0 hk ha hf hrg hrow hr_tape hr_hall hr_acts hr_fore hr_ask hr_rows ho
    have hi : i < 2 := by omega
    refine fk_iload_n (pc := 115) C 1 dX8_init_115 rfl rfl ?_
    refine fk_iconst (pc := 116) C (v := 2) dX8_init_116 fk_iconst_2 ?_
    refine fk_icmp_ge (pc := 117) C (tgt := 139) dX8_init_117 (by decide) (fun c1 => ?_) (fun c1 => ?_)
    · exact absurd c1 (nI_ge (a := i) (b := 2) hi (by decide))
    · refine fk_aload_n (pc := 120) C 0 dX8_init_120 rfl rfl ?_
      refine fk_getr (pc := 121) C (by omega) hk rfl qiX8_36_4 rfl dX8_init_121 ?_
      refine fk_iload_n (pc := 124) C 1 dX8_init_124 rfl rfl ?_
      refine fk_new (pc := 125) C (ci := 3) (n := (k + 187 + 6 * i)) (fs := [.int 0, .int 0, .int 0, .int 0, .null, .null, .null, .null, .null]) kiX8_X3 tyX3 tyX3_ok kwX8_22 rfl hb_Hall (by rw [rkc_Door, rks_Door]; omega) dX8_init_125 (fun E1 g1_E1 g2_E1 => ?_)
      have hE1 : E1 (k + 187 + 6 * i) = .inr (3, [.int 0, .int 0, .int 0, .int 0, .null, .null, .null, .null, .null]) := g1_E1
      have hE1_5 : E1 k = .inr (8, [.ref (b0 + (k + 1)), .ref (b0 + (k + 2)), .ref (b0 + (k + 4)), .ref (b0 + (k + 10)), .ref (b0 + (k + 156)), .ref (b0 + (k + 157)), .ref (b0 + (k + 169)), .int 0, .int 0]) := (g2_E1 _ (by omega)).trans hk
      have hE1_6 : E1 (k + 156) = .inl (cH, 2, .inr (.inr (.inr (.inr (f))))) := (g2_E1 _ (by omega)).trans ha
      have hE1_7 : E1 (k + 1) = .inl (cR, 8, .inr (.inr (.inr (.inr (fr))))) := (g2_E1 _ (by omega)).trans hrow
      have rE1_8 : ∀ j, k + 187 ≤ j → j < (k + 187 + 6 * i) → E1 j = F j := fun j z1 z2 => (g2_E1 j (by omega)).trans (hrg j z1 z2)
      have rE1_9 : ∀ j, k + 2 ≤ j → j < k + 2 + 2 → E1 j = F j := fun j z1 z2 => (g2_E1 j (by omega)).trans (hr_tape j z1 z2)
      have rE1_10 : ∀ j, k + 4 ≤ j → j < k + 4 + 6 → E1 j = F j := fun j z1 z2 => (g2_E1 j (by omega)).trans (hr_hall j z1 z2)
      have rE1_11 : ∀ j, k + 10 ≤ j → j < k + 10 + 146 → E1 j = F j := fun j z1 z2 => (g2_E1 j (by omega)).trans (hr_acts j z1 z2)
      have rE1_12 : ∀ j, k + 157 ≤ j → j < k + 157 + 12 → E1 j = F j := fun j z1 z2 => (g2_E1 j (by omega)).trans (hr_fore j z1 z2)
      have rE1_13 : ∀ j, k + 169 ≤ j → j < k + 169 + 2 → E1 j = F j := fun j z1 z2 => (g2_E1 j (by omega)).trans (hr_ask j z1 z2)
      have rE1_14 : ∀ j, k + 171 ≤ j → j < k + 171 + 2 * 8 → E1 j = F j := fun j z1 z2 => (g2_E1 j (by omega)).trans (hr_rows j z1 z2)
      have oE1_15 : ∀ j, j < k → E1 j = E0 j := fun j z => (g2_E1 j (by omega)).trans (ho j z)
      refine fk_dup (pc := 128) C dX8_init_128 rfl ?_
      refine fk_callIN (pc := 129) C (ck_Hall (F := F) (E0 := E1) (hF.2.2.2.2.2.2.2.2.2 i hi) hE1) ⟨va_cnB 0 C.2.2.2.2.1 gX8_init_X3_init_n24 rfl rfl rfl (C.2.2.2.2.2.2.1.1 (RX8, 24, yX3_init, "YieldDoors") (by decide +kernel)) (C.2.2.2.2.1 _ kvX8_Hall_24.1) hd_iHall ⟨Nat.le_of_ble_eq_true rfl, Nat.le_of_ble_eq_true rfl⟩, rfl, C.2.2.2.2.1 _ kvX8_Hall_24.2⟩ (Nat.le_of_ble_eq_true rfl) dX8_init_129 (by rw [rkc_Door, rks_Door]; omega) ?_
      obtain ⟨E2, eE2⟩ : ∃ z, z = fk_fill F E1 (k + 187 + 6 * i) 6 := ⟨_, rfl⟩
      rw [← eE2]
      have g2_E2 : ∀ j, ¬ ((k + 187 + 6 * i) ≤ j ∧ j < (k + 187 + 6 * i) + 6) → E2 j = E1 j := fun j z => by rw [eE2]; exact if_neg z
      have g1_E2 : ∀ j, (k + 187 + 6 * i) ≤ j → j < (k + 187 + 6 * i) + 6 → E2 j = F j := fun j z1 z2 => by rw [eE2]; exact if_pos ⟨z1, z2⟩
      have hE2_22 : E2 k = .inr (8, [.ref (b0 + (k + 1)), .ref (b0 + (k + 2)), .ref (b0 + (k + 4)), .ref (b0 + (k + 10)), .ref (b0 + (k + 156)), .ref (b0 + (k + 157)), .ref (b0 + (k + 169)), .int 0, .int 0]) := (g2_E2 _ (by omega)).trans hE1_5
      have hE2_23 : E2 (k + 156) = .inl (cH, 2, .inr (.inr (.inr (.inr (f))))) := (g2_E2 _ (by omega)).trans hE1_6
      have hE2_24 : E2 (k + 1) = .inl (cR, 8, .inr (.inr (.inr (.inr (fr))))) := (g2_E2 _ (by omega)).trans hE1_7
      have rE2_25 : ∀ j, k + 187 ≤ j → j < (k + 187 + 6 * i) → E2 j = F j := fun j z1 z2 => (g2_E2 j (by omega)).trans (rE1_8 j z1 z2)
      have rE2_26 : ∀ j, k + 2 ≤ j → j < k + 2 + 2 → E2 j = F j := fun j z1 z2 => (g2_E2 j (by omega)).trans (rE1_9 j z1 z2)
      have rE2_27 : ∀ j, k + 4 ≤ j → j < k + 4 + 6 → E2 j = F j := fun j z1 z2 => (g2_E2 j (by omega)).trans (rE1_10 j z1 z2)
      have rE2_28 : ∀ j, k + 10 ≤ j → j < k + 10 + 146 → E2 j = F j := fun j z1 z2 => (g2_E2 j (by omega)).trans (rE1_11 j z1 z2)
      have rE2_29 : ∀ j, k + 157 ≤ j → j < k + 157 + 12 → E2 j = F j := fun j z1 z2 => (g2_E2 j (by omega)).trans (rE1_12 j z1 z2)
      have rE2_30 : ∀ j, k + 169 ≤ j → j < k + 169 + 2 → E2 j = F j := fun j z1 z2 => (g2_E2 j (by omega)).trans (rE1_13 j z1 z2)
      have rE2_31 : ∀ j, k + 171 ≤ j → j < k + 171 + 2 * 8 → E2 j = F j := fun j z1 z2 => (g2_E2 j (by omega)).trans (rE1_14 j z1 z2)
      have oE2_32 : ∀ j, j < k → E2 j = E0 j := fun j z => (g2_E2 j (by omega)).trans (oE1_15 j z)
      have hv_E3 : E2 (k + 187 + 6 * i) = F (k + 187 + 6 * i) := g1_E2 (k + 187 + 6 * i) (by omega) (by omega)
      refine fk_aast (pc := 132) C 2 (by omega) hE2_23 rfl (by omega) (hv_E3.trans (hF.2.2.2.2.2.2.2.2.2 i hi).1) rfl (vp_in_nI hi (by decide)) dX8_init_132 (fun E3 g1_E3 g2_E3 => ?_)
      have hE3 : E3 (k + 156) = .inl (cH, 2, .inr (.inr (.inr (.inr (va_up f (nI i).toNatClampNeg (some (b0 + (k + 187 + 6 * i)))))))) := g1_E3
      have hE3_36 : E3 k = .inr (8, [.ref (b0 + (k + 1)), .ref (b0 + (k + 2)), .ref (b0 + (k + 4)), .ref (b0 + (k + 10)), .ref (b0 + (k + 156)), .ref (b0 + (k + 157)), .ref (b0 + (k + 169)), .int 0, .int 0]) := (g2_E3 _ (by omega)).trans hE2_22
      have hE3_37 : E3 (k + 1) = .inl (cR, 8, .inr (.inr (.inr (.inr (fr))))) := (g2_E3 _ (by omega)).trans hE2_24
      have rE3_38 : ∀ j, k + 187 ≤ j → j < (k + 187 + 6 * i) → E3 j = F j := fun j z1 z2 => (g2_E3 j (by omega)).trans (rE2_25 j z1 z2)
      have rE3_39 : ∀ j, k + 2 ≤ j → j < k + 2 + 2 → E3 j = F j := fun j z1 z2 => (g2_E3 j (by omega)).trans (rE2_26 j z1 z2)
      have rE3_40 : ∀ j, k + 4 ≤ j → j < k + 4 + 6 → E3 j = F j := fun j z1 z2 => (g2_E3 j (by omega)).trans (rE2_27 j z1 z2)
      have rE3_41 : ∀ j, k + 10 ≤ j → j < k + 10 + 146 → E3 j = F j := fun j z1 z2 => (g2_E3 j (by omega)).trans (rE2_28 j z1 z2)
      have rE3_42 : ∀ j, k + 157 ≤ j → j < k + 157 + 12 → E3 j = F j := fun j z1 z2 => (g2_E3 j (by omega)).trans (rE2_29 j z1 z2)
      have rE3_43 : ∀ j, k + 169 ≤ j → j < k + 169 + 2 → E3 j = F j := fun j z1 z2 => (g2_E3 j (by omega)).trans (rE2_30 j z1 z2)
      have rE3_44 : ∀ j, k + 171 ≤ j → j < k + 171 + 2 * 8 → E3 j = F j := fun j z1 z2 => (g2_E3 j (by omega)).trans (rE2_31 j z1 z2)
      have rE3_45 : ∀ j, (k + 187 + 6 * i) ≤ j → j < (k + 187 + 6 * i) + 6 → E3 j = F j := fun j z1 z2 => (g2_E3 j (by omega)).trans (g1_E2 j z1 z2)
      have oE3_46 : ∀ j, j < k → E3 j = E0 j := fun j z => (g2_E3 j (by omega)).trans (oE2_32 j z)
      refine fk_iinc (pc := 133) C (v := nI (i + 1)) (L2 := [(0, .ref _), (1, .int _)]) 1 [1, 0] dX8_init_133 rfl (by rw [fk_iconst_1]; exact nI_1 i) (by decide) rfl ?_
      refine fk_goto (pc := 136) C (tgt := 115) dX8_init_136 (by decide) ?_
      refine fk_widen (k := 186 + 6 * (i + 1)) (n1 := 1676 + 44 * (i + 1)) (by omega) (by omega) ?_
      refine fk_at (n2 := k + 187 + 6 * (i + 1)) (by omega) ?_
      refine ih (i + 1) E3 _ (by omega) hE3_36 hE3 (fun j z => ?_) (fun j z1 z2 => if z : j < (k + 187 + 6 * i) then rE3_38 j z1 z else rE3_45 j (by omega) (by omega)) hE3_37 rE3_39 rE3_40 rE3_41 rE3_42 rE3_43 rE3_44 oE3_46
      by_cases zi : j = i
      · subst zi; rw [nI_clamp (by omega)]; exact if_pos rfl
      · rw [nI_clamp (by omega)]; exact (if_neg zi).trans (hf j (by omega))
set_option maxRecDepth 100000 in
set_option maxHeartbeats 4000000 in
theorem cl_Door1 {p : Program} {l : Launch} {e : Env} {s : State} {m : MethodId} {args : Array Value} {below : List Frame} {meth : Method} {c : Code} {D : va_G} {cI cZ cH cR : ClassId} {b0 k : Nat} {F E0 : Nat → va_E} (C : fk_C p s m args meth c cX8_init RX8 wsX8_init 2 D vwCl (fw_tys cI cZ cH cR) nw_k) (hin : meth.name = "<init>") (hr : meth.sig.returnType = none) (hF : pk_Door F b0 cI cZ cH cR k) : ∀ (r i : Nat) (E : Nat → va_E) (f : Nat → Option Nat), i + r = 8 → (E k = .inr (8, [.ref (b0 + (k + 1)), .ref (b0 + (k + 2)), .ref (b0 + (k + 4)), .ref (b0 + (k + 10)), .ref (b0 + (k + 156)), .ref (b0 + (k + 157)), .ref (b0 + (k + 169)), .int 0, .int 0])) → (E (k + 1) = .inl (cR, 8, .inr (.inr (.inr (.inr (f)))))) → (∀ j, j < i → f j = some (b0 + (k + 171 + 2 * j))) → (∀ j, k + 171 ≤ j → j < (k + 171 + 2 * i) → E j = F j) → (E (k + 156) = .inl (cH, 2, .inr (.inr (.inr (.inr (fun _ => none)))))) → (∀ j, k + 2 ≤ j → j < k + 2 + 2 → E j = F j) → (∀ j, k + 4 ≤ j → j < k + 4 + 6 → E j = F j) → (∀ j, k + 10 ≤ j → j < k + 10 + 146 → E j = F j) → (∀ j, k + 157 ≤ j → j < k + 157 + 12 → E j = F j) → (∀ j, k + 169 ≤ j → j < k + 169 + 2 → E j = F j) → (∀ j, j < k → E j = E0 j) → fk_J p l e (headSpec wsX8_init rk_Door).room s m args below meth c D vwCl b0 2 (fk_E below args s D vwCl b0 (k + 199) (fk_fill F E0 k 199) 198 1764) (170 + 2 * i) (1332 + 43 * i) (k + 171 + 2 * i) E [(0, .ref (b0 + k)), (1, .int (nI i))] 88 [] := by
  intro r
  induction r with
  | zero =>
    intro i E f hi0 hk ha hf hrg himg hr_tape hr_hall hr_acts hr_fore hr_ask ho
    have hi : i = 8 := by omega
    subst hi
    refine fk_iload_n (pc := 88) C 1 dX8_init_88 rfl rfl ?_
    refine fk_bipush (pc := 89) C (v := 8) dX8_init_89 fk_bipush_8 ?_
    refine fk_icmp_ge (pc := 91) C (tgt := 113) dX8_init_91 (by decide) (fun c1 => ?_) (fun c1 => ?_)
    · refine fk_sub (L2 := [(0, .ref _)]) [0] rfl ?_
      refine fk_iconst (pc := 113) C (v := 0) dX8_init_113 fk_iconst_0 ?_
      refine fk_istore_n (pc := 114) C (L2 := [(0, .ref _), (1, .int _)]) [1, 0] dX8_init_114 rfl (by decide) rfl ?_
      refine fk_at (n2 := k + 187 + 6 * 0) (by omega) ?_
      refine fk_widen (k := 186 + 6 * 0) (n1 := 1676 + 44 * 0) (by omega) (by omega) ?_
      exact cl_Door2 (fr := f) hf C hin hr hF 2 0 E (fun _ => none) (by omega) hk himg (fun j z => absurd z (by omega)) (fun j z1 z2 => absurd z1 (by omega)) ha hr_tape hr_hall hr_acts hr_fore hr_ask hrg ho
    · exact absurd (nI_le (a := 8) (b := 8) (by omega) (by decide)) c1
  | succ r ih =>
    intro i E f hi0 hk ha hf hrg himg hr_tape hr_hall hr_acts hr_fore hr_ask ho
    have hi : i < 8 := by omega
    refine fk_iload_n (pc := 88) C 1 dX8_init_88 rfl rfl ?_
    refine fk_bipush (pc := 89) C (v := 8) dX8_init_89 fk_bipush_8 ?_
    refine fk_icmp_ge (pc := 91) C (tgt := 113) dX8_init_91 (by decide) (fun c1 => ?_) (fun c1 => ?_)
    · exact absurd c1 (nI_ge (a := i) (b := 8) hi (by decide))
    · refine fk_aload_n (pc := 94) C 0 dX8_init_94 rfl rfl ?_
      refine fk_getr (pc := 95) C (by omega) hk rfl qiX8_11_0 rfl dX8_init_95 ?_
      refine fk_iload_n (pc := 98) C 1 dX8_init_98 rfl rfl ?_
      refine fk_new (pc := 99) C (ci := 6) (n := (k + 171 + 2 * i)) (fs := [.null, .int 0, .int 0]) kiX8_X6 tyX6 tyX6_ok kwX8_9 rfl hb_Row (by rw [rkc_Door, rks_Door]; omega) dX8_init_99 (fun E1 g1_E1 g2_E1 => ?_)
      have hE1 : E1 (k + 171 + 2 * i) = .inr (6, [.null, .int 0, .int 0]) := g1_E1
      have hE1_5 : E1 k = .inr (8, [.ref (b0 + (k + 1)), .ref (b0 + (k + 2)), .ref (b0 + (k + 4)), .ref (b0 + (k + 10)), .ref (b0 + (k + 156)), .ref (b0 + (k + 157)), .ref (b0 + (k + 169)), .int 0, .int 0]) := (g2_E1 _ (by omega)).trans hk
      have hE1_6 : E1 (k + 1) = .inl (cR, 8, .inr (.inr (.inr (.inr (f))))) := (g2_E1 _ (by omega)).trans ha
      have hE1_7 : E1 (k + 156) = .inl (cH, 2, .inr (.inr (.inr (.inr (fun _ => none))))) := (g2_E1 _ (by omega)).trans himg
      have rE1_8 : ∀ j, k + 171 ≤ j → j < (k + 171 + 2 * i) → E1 j = F j := fun j z1 z2 => (g2_E1 j (by omega)).trans (hrg j z1 z2)
      have rE1_9 : ∀ j, k + 2 ≤ j → j < k + 2 + 2 → E1 j = F j := fun j z1 z2 => (g2_E1 j (by omega)).trans (hr_tape j z1 z2)
      have rE1_10 : ∀ j, k + 4 ≤ j → j < k + 4 + 6 → E1 j = F j := fun j z1 z2 => (g2_E1 j (by omega)).trans (hr_hall j z1 z2)
      have rE1_11 : ∀ j, k + 10 ≤ j → j < k + 10 + 146 → E1 j = F j := fun j z1 z2 => (g2_E1 j (by omega)).trans (hr_acts j z1 z2)
      have rE1_12 : ∀ j, k + 157 ≤ j → j < k + 157 + 12 → E1 j = F j := fun j z1 z2 => (g2_E1 j (by omega)).trans (hr_fore j z1 z2)
      have rE1_13 : ∀ j, k + 169 ≤ j → j < k + 169 + 2 → E1 j = F j := fun j z1 z2 => (g2_E1 j (by omega)).trans (hr_ask j z1 z2)
      have oE1_14 : ∀ j, j < k → E1 j = E0 j := fun j z => (g2_E1 j (by omega)).trans (ho j z)
      refine fk_dup (pc := 102) C dX8_init_102 rfl ?_
      refine fk_callIN (pc := 103) C (ck_Row (F := F) (E0 := E1) (hF.2.2.2.2.2.2.2.2.1 i hi) hE1) ⟨va_cnB 0 C.2.2.2.2.1 gX8_init_X6_init_n61 rfl rfl rfl (C.2.2.2.2.2.2.1.1 (RX8, 61, yX6_init, "YieldDoors") (by decide +kernel)) (C.2.2.2.2.1 _ kvX8_Row_61.1) hd_iRow ⟨Nat.le_of_ble_eq_true rfl, Nat.le_of_ble_eq_true rfl⟩, rfl, C.2.2.2.2.1 _ kvX8_Row_61.2⟩ (Nat.le_of_ble_eq_true rfl) dX8_init_103 (by rw [rkc_Door, rks_Door]; omega) ?_
      obtain ⟨E2, eE2⟩ : ∃ z, z = fk_fill F E1 (k + 171 + 2 * i) 2 := ⟨_, rfl⟩
      rw [← eE2]
      have g2_E2 : ∀ j, ¬ ((k + 171 + 2 * i) ≤ j ∧ j < (k + 171 + 2 * i) + 2) → E2 j = E1 j := fun j z => by rw [eE2]; exact if_neg z
      have g1_E2 : ∀ j, (k + 171 + 2 * i) ≤ j → j < (k + 171 + 2 * i) + 2 → E2 j = F j := fun j z1 z2 => by rw [eE2]; exact if_pos ⟨z1, z2⟩
      have hE2_21 : E2 k = .inr (8, [.ref (b0 + (k + 1)), .ref (b0 + (k + 2)), .ref (b0 + (k + 4)), .ref (b0 + (k + 10)), .ref (b0 + (k + 156)), .ref (b0 + (k + 157)), .ref (b0 + (k + 169)), .int 0, .int 0]) := (g2_E2 _ (by omega)).trans hE1_5
      have hE2_22 : E2 (k + 1) = .inl (cR, 8, .inr (.inr (.inr (.inr (f))))) := (g2_E2 _ (by omega)).trans hE1_6
      have hE2_23 : E2 (k + 156) = .inl (cH, 2, .inr (.inr (.inr (.inr (fun _ => none))))) := (g2_E2 _ (by omega)).trans hE1_7
      have rE2_24 : ∀ j, k + 171 ≤ j → j < (k + 171 + 2 * i) → E2 j = F j := fun j z1 z2 => (g2_E2 j (by omega)).trans (rE1_8 j z1 z2)
      have rE2_25 : ∀ j, k + 2 ≤ j → j < k + 2 + 2 → E2 j = F j := fun j z1 z2 => (g2_E2 j (by omega)).trans (rE1_9 j z1 z2)
      have rE2_26 : ∀ j, k + 4 ≤ j → j < k + 4 + 6 → E2 j = F j := fun j z1 z2 => (g2_E2 j (by omega)).trans (rE1_10 j z1 z2)
      have rE2_27 : ∀ j, k + 10 ≤ j → j < k + 10 + 146 → E2 j = F j := fun j z1 z2 => (g2_E2 j (by omega)).trans (rE1_11 j z1 z2)
      have rE2_28 : ∀ j, k + 157 ≤ j → j < k + 157 + 12 → E2 j = F j := fun j z1 z2 => (g2_E2 j (by omega)).trans (rE1_12 j z1 z2)
      have rE2_29 : ∀ j, k + 169 ≤ j → j < k + 169 + 2 → E2 j = F j := fun j z1 z2 => (g2_E2 j (by omega)).trans (rE1_13 j z1 z2)
      have oE2_30 : ∀ j, j < k → E2 j = E0 j := fun j z => (g2_E2 j (by omega)).trans (oE1_14 j z)
      have hv_E3 : E2 (k + 171 + 2 * i) = F (k + 171 + 2 * i) := g1_E2 (k + 171 + 2 * i) (by omega) (by omega)
      refine fk_aast (pc := 106) C 3 (by omega) hE2_22 rfl (by omega) (hv_E3.trans (hF.2.2.2.2.2.2.2.2.1 i hi).1) rfl (vp_in_nI hi (by decide)) dX8_init_106 (fun E3 g1_E3 g2_E3 => ?_)
      have hE3 : E3 (k + 1) = .inl (cR, 8, .inr (.inr (.inr (.inr (va_up f (nI i).toNatClampNeg (some (b0 + (k + 171 + 2 * i)))))))) := g1_E3
      have hE3_34 : E3 k = .inr (8, [.ref (b0 + (k + 1)), .ref (b0 + (k + 2)), .ref (b0 + (k + 4)), .ref (b0 + (k + 10)), .ref (b0 + (k + 156)), .ref (b0 + (k + 157)), .ref (b0 + (k + 169)), .int 0, .int 0]) := (g2_E3 _ (by omega)).trans hE2_21
      have hE3_35 : E3 (k + 156) = .inl (cH, 2, .inr (.inr (.inr (.inr (fun _ => none))))) := (g2_E3 _ (by omega)).trans hE2_23
      have rE3_36 : ∀ j, k + 171 ≤ j → j < (k + 171 + 2 * i) → E3 j = F j := fun j z1 z2 => (g2_E3 j (by omega)).trans (rE2_24 j z1 z2)
      have rE3_37 : ∀ j, k + 2 ≤ j → j < k + 2 + 2 → E3 j = F j := fun j z1 z2 => (g2_E3 j (by omega)).trans (rE2_25 j z1 z2)
      have rE3_38 : ∀ j, k + 4 ≤ j → j < k + 4 + 6 → E3 j = F j := fun j z1 z2 => (g2_E3 j (by omega)).trans (rE2_26 j z1 z2)
      have rE3_39 : ∀ j, k + 10 ≤ j → j < k + 10 + 146 → E3 j = F j := fun j z1 z2 => (g2_E3 j (by omega)).trans (rE2_27 j z1 z2)
      have rE3_40 : ∀ j, k + 157 ≤ j → j < k + 157 + 12 → E3 j = F j := fun j z1 z2 => (g2_E3 j (by omega)).trans (rE2_28 j z1 z2)
      have rE3_41 : ∀ j, k + 169 ≤ j → j < k + 169 + 2 → E3 j = F j := fun j z1 z2 => (g2_E3 j (by omega)).trans (rE2_29 j z1 z2)
      have rE3_42 : ∀ j, (k + 171 + 2 * i) ≤ j → j < (k + 171 + 2 * i) + 2 → E3 j = F j := fun j z1 z2 => (g2_E3 j (by omega)).trans (g1_E2 j z1 z2)
      have oE3_43 : ∀ j, j < k → E3 j = E0 j := fun j z => (g2_E3 j (by omega)).trans (oE2_30 j z)
      refine fk_iinc (pc := 107) C (v := nI (i + 1)) (L2 := [(0, .ref _), (1, .int _)]) 1 [1, 0] dX8_init_107 rfl (by rw [fk_iconst_1]; exact nI_1 i) (by decide) rfl ?_
      refine fk_goto (pc := 110) C (tgt := 88) dX8_init_110 (by decide) ?_
      refine fk_widen (k := 170 + 2 * (i + 1)) (n1 := 1332 + 43 * (i + 1)) (by omega) (by omega) ?_
      refine fk_at (n2 := k + 171 + 2 * (i + 1)) (by omega) ?_
      refine ih (i + 1) E3 _ (by omega) hE3_34 hE3 (fun j z => ?_) (fun j z1 z2 => if z : j < (k + 171 + 2 * i) then rE3_36 j z1 z else rE3_42 j (by omega) (by omega)) hE3_35 rE3_37 rE3_38 rE3_39 rE3_40 rE3_41 oE3_43
      by_cases zi : j = i
      · subst zi; rw [nI_clamp (by omega)]; exact if_pos rfl
      · rw [nI_clamp (by omega)]; exact (if_neg zi).trans (hf j (by omega))
set_option maxRecDepth 100000 in
set_option maxHeartbeats 4000000 in
theorem ci_Door {p : Program} {l : Launch} {e : Env} {s : State} {m : MethodId} {args : Array Value} {below : List Frame} {meth : Method} {c : Code} {D : va_G} {cI cZ cH cR : ClassId} {b0 k : Nat} {F E0 : Nat → va_E} (C : fk_C p s m args meth c cX8_init RX8 wsX8_init 2 D vwCl (fw_tys cI cZ cH cR) nw_k) (hin : meth.name = "<init>") (hr : meth.sig.returnType = none) (hF : pk_Door F b0 cI cZ cH cR k) (hb : E0 k = .inr (8, [.null, .null, .null, .null, .null, .null, .null, .int 0, .int 0])) : fk_J p l e (headSpec wsX8_init rk_Door).room s m args below meth c D vwCl b0 2 (fk_E below args s D vwCl b0 (k + 199) (fk_fill F E0 k 199) 198 1764) 0 0 (k + 1) E0 [(0, .ref (b0 + k))] 0 [] := by
  have o0 : ∀ j, j < k → E0 j = E0 j := fun _ _ => rfl
  refine fk_aload_n (pc := 0) C 0 dX8_init_0 rfl rfl ?_
  refine fk_obj (pc := 1) C koX8_1 (Nat.le_of_ble_eq_true rfl) (Nat.le_of_ble_eq_true rfl) dX8_init_1 ?_
  refine fk_aload_n (pc := 4) C 0 dX8_init_4 rfl rfl ?_
  refine fk_bipush (pc := 5) C (v := 8) dX8_init_5 fk_bipush_8 ?_
  refine fk_newq (pc := 7) C (n := (k + 1)) (N' := 8) (cA := cR) 3 klX8_9 C.2.2.2.2.2.2.1.2.2 rfl (by decide) (by decide) (by decide) ⟨Nat.le_of_ble_eq_true rfl, Nat.le_of_ble_eq_true rfl⟩ dX8_init_7 (fun E1 g1_E1 g2_E1 => ?_)
  have hE1 : E1 (k + 1) = .inl (cR, 8, .inr (.inr (.inr (.inr (fun _ => none))))) := g1_E1
  have hE1_7 : E1 k = .inr (8, [.null, .null, .null, .null, .null, .null, .null, .int 0, .int 0]) := (g2_E1 _ (by omega)).trans hb
  have oE1_8 : ∀ j, j < k → E1 j = E0 j := fun j z => (g2_E1 j (by omega)).trans (o0 j z)
  refine fk_putF (pc := 10) C hin (by omega) hE1_7 rfl qiX8_11_0 tyX8 tyX8_ok nmX8 rfl rfl rfl rfl rfl (Nat.le_of_ble_eq_true rfl) dX8_init_10 (fun E2 g1_E2 g2_E2 => ?_)
  have hE2 : E2 k = .inr (8, [.ref (b0 + (k + 1)), .null, .null, .null, .null, .null, .null, .int 0, .int 0]) := g1_E2
  have hE2_11 : E2 (k + 1) = .inl (cR, 8, .inr (.inr (.inr (.inr (fun _ => none))))) := (g2_E2 _ (by omega)).trans hE1
  have oE2_12 : ∀ j, j < k → E2 j = E0 j := fun j z => (g2_E2 j (by omega)).trans (oE1_8 j z)
  refine fk_aload_n (pc := 13) C 0 dX8_init_13 rfl rfl ?_
  refine fk_new (pc := 14) C (ci := 7) (n := (k + 2)) (fs := [.null, .int 0, .int 0, .int 0]) kiX8_X7 tyX7 tyX7_ok kwX8_15 rfl hb_Tape ⟨Nat.le_of_ble_eq_true rfl, Nat.le_of_ble_eq_true rfl⟩ dX8_init_14 (fun E3 g1_E3 g2_E3 => ?_)
  have hE3 : E3 (k + 2) = .inr (7, [.null, .int 0, .int 0, .int 0]) := g1_E3
  have hE3_16 : E3 k = .inr (8, [.ref (b0 + (k + 1)), .null, .null, .null, .null, .null, .null, .int 0, .int 0]) := (g2_E3 _ (by omega)).trans hE2
  have hE3_17 : E3 (k + 1) = .inl (cR, 8, .inr (.inr (.inr (.inr (fun _ => none))))) := (g2_E3 _ (by omega)).trans hE2_11
  have oE3_18 : ∀ j, j < k → E3 j = E0 j := fun j z => (g2_E3 j (by omega)).trans (oE2_12 j z)
  refine fk_dup (pc := 17) C dX8_init_17 rfl ?_
  refine fk_callIN (pc := 18) C (ck_Tape (F := F) (E0 := E3) hF.2.2.1 hE3) ⟨va_cnB 0 C.2.2.2.2.1 gX8_init_X7_init_n17 rfl rfl rfl (C.2.2.2.2.2.2.1.1 (RX8, 17, yX7_init, "YieldDoors") (by decide +kernel)) (C.2.2.2.2.1 _ kvX8_Tape_17.1) hd_iTape ⟨Nat.le_of_ble_eq_true rfl, Nat.le_of_ble_eq_true rfl⟩, rfl, C.2.2.2.2.1 _ kvX8_Tape_17.2⟩ (Nat.le_of_ble_eq_true rfl) dX8_init_18 ⟨Nat.le_of_ble_eq_true rfl, Nat.le_of_ble_eq_true rfl⟩ ?_
  obtain ⟨E4, eE4⟩ : ∃ z, z = fk_fill F E3 (k + 2) 2 := ⟨_, rfl⟩
  rw [← eE4]
  have g2_E4 : ∀ j, ¬ ((k + 2) ≤ j ∧ j < (k + 2) + 2) → E4 j = E3 j := fun j z => by rw [eE4]; exact if_neg z
  have g1_E4 : ∀ j, (k + 2) ≤ j → j < (k + 2) + 2 → E4 j = F j := fun j z1 z2 => by rw [eE4]; exact if_pos ⟨z1, z2⟩
  have hE4_25 : E4 k = .inr (8, [.ref (b0 + (k + 1)), .null, .null, .null, .null, .null, .null, .int 0, .int 0]) := (g2_E4 _ (by omega)).trans hE3_16
  have hE4_26 : E4 (k + 1) = .inl (cR, 8, .inr (.inr (.inr (.inr (fun _ => none))))) := (g2_E4 _ (by omega)).trans hE3_17
  have oE4_27 : ∀ j, j < k → E4 j = E0 j := fun j z => (g2_E4 j (by omega)).trans (oE3_18 j z)
  refine fk_putF (pc := 21) C hin (by omega) hE4_25 rfl qiX8_18_1 tyX8 tyX8_ok nmX8 rfl rfl rfl rfl rfl (Nat.le_of_ble_eq_true rfl) dX8_init_21 (fun E5 g1_E5 g2_E5 => ?_)
  have hE5 : E5 k = .inr (8, [.ref (b0 + (k + 1)), .ref (b0 + (k + 2)), .null, .null, .null, .null, .null, .int 0, .int 0]) := g1_E5
  have hE5_30 : E5 (k + 1) = .inl (cR, 8, .inr (.inr (.inr (.inr (fun _ => none))))) := (g2_E5 _ (by omega)).trans hE4_26
  have rE5_31 : ∀ j, (k + 2) ≤ j → j < (k + 2) + 2 → E5 j = F j := fun j z1 z2 => (g2_E5 j (by omega)).trans (g1_E4 j z1 z2)
  have oE5_32 : ∀ j, j < k → E5 j = E0 j := fun j z => (g2_E5 j (by omega)).trans (oE4_27 j z)
  refine fk_aload_n (pc := 24) C 0 dX8_init_24 rfl rfl ?_
  refine fk_new (pc := 25) C (ci := 3) (n := (k + 4)) (fs := [.int 0, .int 0, .int 0, .int 0, .null, .null, .null, .null, .null]) kiX8_X3 tyX3 tyX3_ok kwX8_22 rfl hb_Hall ⟨Nat.le_of_ble_eq_true rfl, Nat.le_of_ble_eq_true rfl⟩ dX8_init_25 (fun E6 g1_E6 g2_E6 => ?_)
  have hE6 : E6 (k + 4) = .inr (3, [.int 0, .int 0, .int 0, .int 0, .null, .null, .null, .null, .null]) := g1_E6
  have hE6_36 : E6 k = .inr (8, [.ref (b0 + (k + 1)), .ref (b0 + (k + 2)), .null, .null, .null, .null, .null, .int 0, .int 0]) := (g2_E6 _ (by omega)).trans hE5
  have hE6_37 : E6 (k + 1) = .inl (cR, 8, .inr (.inr (.inr (.inr (fun _ => none))))) := (g2_E6 _ (by omega)).trans hE5_30
  have rE6_38 : ∀ j, (k + 2) ≤ j → j < (k + 2) + 2 → E6 j = F j := fun j z1 z2 => (g2_E6 j (by omega)).trans (rE5_31 j z1 z2)
  have oE6_39 : ∀ j, j < k → E6 j = E0 j := fun j z => (g2_E6 j (by omega)).trans (oE5_32 j z)
  refine fk_dup (pc := 28) C dX8_init_28 rfl ?_
  refine fk_callIN (pc := 29) C (ck_Hall (F := F) (E0 := E6) hF.2.2.2.1 hE6) ⟨va_cnB 0 C.2.2.2.2.1 gX8_init_X3_init_n24 rfl rfl rfl (C.2.2.2.2.2.2.1.1 (RX8, 24, yX3_init, "YieldDoors") (by decide +kernel)) (C.2.2.2.2.1 _ kvX8_Hall_24.1) hd_iHall ⟨Nat.le_of_ble_eq_true rfl, Nat.le_of_ble_eq_true rfl⟩, rfl, C.2.2.2.2.1 _ kvX8_Hall_24.2⟩ (Nat.le_of_ble_eq_true rfl) dX8_init_29 ⟨Nat.le_of_ble_eq_true rfl, Nat.le_of_ble_eq_true rfl⟩ ?_
  obtain ⟨E7, eE7⟩ : ∃ z, z = fk_fill F E6 (k + 4) 6 := ⟨_, rfl⟩
  rw [← eE7]
  have g2_E7 : ∀ j, ¬ ((k + 4) ≤ j ∧ j < (k + 4) + 6) → E7 j = E6 j := fun j z => by rw [eE7]; exact if_neg z
  have g1_E7 : ∀ j, (k + 4) ≤ j → j < (k + 4) + 6 → E7 j = F j := fun j z1 z2 => by rw [eE7]; exact if_pos ⟨z1, z2⟩
  have hE7_46 : E7 k = .inr (8, [.ref (b0 + (k + 1)), .ref (b0 + (k + 2)), .null, .null, .null, .null, .null, .int 0, .int 0]) := (g2_E7 _ (by omega)).trans hE6_36
  have hE7_47 : E7 (k + 1) = .inl (cR, 8, .inr (.inr (.inr (.inr (fun _ => none))))) := (g2_E7 _ (by omega)).trans hE6_37
  have rE7_48 : ∀ j, (k + 2) ≤ j → j < (k + 2) + 2 → E7 j = F j := fun j z1 z2 => (g2_E7 j (by omega)).trans (rE6_38 j z1 z2)
  have oE7_49 : ∀ j, j < k → E7 j = E0 j := fun j z => (g2_E7 j (by omega)).trans (oE6_39 j z)
  refine fk_putF (pc := 32) C hin (by omega) hE7_46 rfl qiX8_25_2 tyX8 tyX8_ok nmX8 rfl rfl rfl rfl rfl (Nat.le_of_ble_eq_true rfl) dX8_init_32 (fun E8 g1_E8 g2_E8 => ?_)
  have hE8 : E8 k = .inr (8, [.ref (b0 + (k + 1)), .ref (b0 + (k + 2)), .ref (b0 + (k + 4)), .null, .null, .null, .null, .int 0, .int 0]) := g1_E8
  have hE8_52 : E8 (k + 1) = .inl (cR, 8, .inr (.inr (.inr (.inr (fun _ => none))))) := (g2_E8 _ (by omega)).trans hE7_47
  have rE8_53 : ∀ j, (k + 2) ≤ j → j < (k + 2) + 2 → E8 j = F j := fun j z1 z2 => (g2_E8 j (by omega)).trans (rE7_48 j z1 z2)
  have rE8_54 : ∀ j, (k + 4) ≤ j → j < (k + 4) + 6 → E8 j = F j := fun j z1 z2 => (g2_E8 j (by omega)).trans (g1_E7 j z1 z2)
  have oE8_55 : ∀ j, j < k → E8 j = E0 j := fun j z => (g2_E8 j (by omega)).trans (oE7_49 j z)
  refine fk_aload_n (pc := 35) C 0 dX8_init_35 rfl rfl ?_
  refine fk_new (pc := 36) C (ci := 0) (n := (k + 10)) (fs := [.null, .int 0, .int 0]) kiX8_X0 tyX0 tyX0_ok kwX8_29 rfl hb_Acts ⟨Nat.le_of_ble_eq_true rfl, Nat.le_of_ble_eq_true rfl⟩ dX8_init_36 (fun E9 g1_E9 g2_E9 => ?_)
  have hE9 : E9 (k + 10) = .inr (0, [.null, .int 0, .int 0]) := g1_E9
  have hE9_59 : E9 k = .inr (8, [.ref (b0 + (k + 1)), .ref (b0 + (k + 2)), .ref (b0 + (k + 4)), .null, .null, .null, .null, .int 0, .int 0]) := (g2_E9 _ (by omega)).trans hE8
  have hE9_60 : E9 (k + 1) = .inl (cR, 8, .inr (.inr (.inr (.inr (fun _ => none))))) := (g2_E9 _ (by omega)).trans hE8_52
  have rE9_61 : ∀ j, (k + 2) ≤ j → j < (k + 2) + 2 → E9 j = F j := fun j z1 z2 => (g2_E9 j (by omega)).trans (rE8_53 j z1 z2)
  have rE9_62 : ∀ j, (k + 4) ≤ j → j < (k + 4) + 6 → E9 j = F j := fun j z1 z2 => (g2_E9 j (by omega)).trans (rE8_54 j z1 z2)
  have oE9_63 : ∀ j, j < k → E9 j = E0 j := fun j z => (g2_E9 j (by omega)).trans (oE8_55 j z)
  refine fk_dup (pc := 39) C dX8_init_39 rfl ?_
  refine fk_callI (pc := 40) C (ck_Acts (F := F) (E0 := E9) hF.2.2.2.2.1 hE9) (cwI 0 C.2.2.2.2.1 gX8_init_X0_init rfl rfl rfl (C.2.2.2.2.1 _ kvX8_Acts_31.1) (C.2.2.2.2.1 _ kvX8_Acts_31.2.2) (C.2.2.2.2.1 _ kvX8_Acts_31.2.1) rfl hd_iActs ⟨Nat.le_of_ble_eq_true rfl, Nat.le_of_ble_eq_true rfl⟩) (Nat.le_of_ble_eq_true rfl) dX8_init_40 ⟨Nat.le_of_ble_eq_true rfl, Nat.le_of_ble_eq_true rfl⟩ ?_
  obtain ⟨E10, eE10⟩ : ∃ z, z = fk_fill F E9 (k + 10) 146 := ⟨_, rfl⟩
  rw [← eE10]
  have g2_E10 : ∀ j, ¬ ((k + 10) ≤ j ∧ j < (k + 10) + 146) → E10 j = E9 j := fun j z => by rw [eE10]; exact if_neg z
  have g1_E10 : ∀ j, (k + 10) ≤ j → j < (k + 10) + 146 → E10 j = F j := fun j z1 z2 => by rw [eE10]; exact if_pos ⟨z1, z2⟩
  have hE10_70 : E10 k = .inr (8, [.ref (b0 + (k + 1)), .ref (b0 + (k + 2)), .ref (b0 + (k + 4)), .null, .null, .null, .null, .int 0, .int 0]) := (g2_E10 _ (by omega)).trans hE9_59
  have hE10_71 : E10 (k + 1) = .inl (cR, 8, .inr (.inr (.inr (.inr (fun _ => none))))) := (g2_E10 _ (by omega)).trans hE9_60
  have rE10_72 : ∀ j, (k + 2) ≤ j → j < (k + 2) + 2 → E10 j = F j := fun j z1 z2 => (g2_E10 j (by omega)).trans (rE9_61 j z1 z2)
  have rE10_73 : ∀ j, (k + 4) ≤ j → j < (k + 4) + 6 → E10 j = F j := fun j z1 z2 => (g2_E10 j (by omega)).trans (rE9_62 j z1 z2)
  have oE10_74 : ∀ j, j < k → E10 j = E0 j := fun j z => (g2_E10 j (by omega)).trans (oE9_63 j z)
  refine fk_putF (pc := 43) C hin (by omega) hE10_70 rfl qiX8_32_3 tyX8 tyX8_ok nmX8 rfl rfl rfl rfl rfl (Nat.le_of_ble_eq_true rfl) dX8_init_43 (fun E11 g1_E11 g2_E11 => ?_)
  have hE11 : E11 k = .inr (8, [.ref (b0 + (k + 1)), .ref (b0 + (k + 2)), .ref (b0 + (k + 4)), .ref (b0 + (k + 10)), .null, .null, .null, .int 0, .int 0]) := g1_E11
  have hE11_77 : E11 (k + 1) = .inl (cR, 8, .inr (.inr (.inr (.inr (fun _ => none))))) := (g2_E11 _ (by omega)).trans hE10_71
  have rE11_78 : ∀ j, (k + 2) ≤ j → j < (k + 2) + 2 → E11 j = F j := fun j z1 z2 => (g2_E11 j (by omega)).trans (rE10_72 j z1 z2)
  have rE11_79 : ∀ j, (k + 4) ≤ j → j < (k + 4) + 6 → E11 j = F j := fun j z1 z2 => (g2_E11 j (by omega)).trans (rE10_73 j z1 z2)
  have rE11_80 : ∀ j, (k + 10) ≤ j → j < (k + 10) + 146 → E11 j = F j := fun j z1 z2 => (g2_E11 j (by omega)).trans (g1_E10 j z1 z2)
  have oE11_81 : ∀ j, j < k → E11 j = E0 j := fun j z => (g2_E11 j (by omega)).trans (oE10_74 j z)
  refine fk_aload_n (pc := 46) C 0 dX8_init_46 rfl rfl ?_
  refine fk_iconst (pc := 47) C (v := 2) dX8_init_47 fk_iconst_2 ?_
  refine fk_newq (pc := 48) C (n := (k + 156)) (N' := 2) (cA := cH) 2 klX8_22 C.2.2.2.2.2.2.1.2.1 rfl (by decide) (by decide) (by decide) ⟨Nat.le_of_ble_eq_true rfl, Nat.le_of_ble_eq_true rfl⟩ dX8_init_48 (fun E12 g1_E12 g2_E12 => ?_)
  have hE12 : E12 (k + 156) = .inl (cH, 2, .inr (.inr (.inr (.inr (fun _ => none))))) := g1_E12
  have hE12_86 : E12 k = .inr (8, [.ref (b0 + (k + 1)), .ref (b0 + (k + 2)), .ref (b0 + (k + 4)), .ref (b0 + (k + 10)), .null, .null, .null, .int 0, .int 0]) := (g2_E12 _ (by omega)).trans hE11
  have hE12_87 : E12 (k + 1) = .inl (cR, 8, .inr (.inr (.inr (.inr (fun _ => none))))) := (g2_E12 _ (by omega)).trans hE11_77
  have rE12_88 : ∀ j, (k + 2) ≤ j → j < (k + 2) + 2 → E12 j = F j := fun j z1 z2 => (g2_E12 j (by omega)).trans (rE11_78 j z1 z2)
  have rE12_89 : ∀ j, (k + 4) ≤ j → j < (k + 4) + 6 → E12 j = F j := fun j z1 z2 => (g2_E12 j (by omega)).trans (rE11_79 j z1 z2)
  have rE12_90 : ∀ j, (k + 10) ≤ j → j < (k + 10) + 146 → E12 j = F j := fun j z1 z2 => (g2_E12 j (by omega)).trans (rE11_80 j z1 z2)
  have oE12_91 : ∀ j, j < k → E12 j = E0 j := fun j z => (g2_E12 j (by omega)).trans (oE11_81 j z)
  refine fk_putF (pc := 51) C hin (by omega) hE12_86 rfl qiX8_36_4 tyX8 tyX8_ok nmX8 rfl rfl rfl rfl rfl (Nat.le_of_ble_eq_true rfl) dX8_init_51 (fun E13 g1_E13 g2_E13 => ?_)
  have hE13 : E13 k = .inr (8, [.ref (b0 + (k + 1)), .ref (b0 + (k + 2)), .ref (b0 + (k + 4)), .ref (b0 + (k + 10)), .ref (b0 + (k + 156)), .null, .null, .int 0, .int 0]) := g1_E13
  have hE13_94 : E13 (k + 1) = .inl (cR, 8, .inr (.inr (.inr (.inr (fun _ => none))))) := (g2_E13 _ (by omega)).trans hE12_87
  have hE13_95 : E13 (k + 156) = .inl (cH, 2, .inr (.inr (.inr (.inr (fun _ => none))))) := (g2_E13 _ (by omega)).trans hE12
  have rE13_96 : ∀ j, (k + 2) ≤ j → j < (k + 2) + 2 → E13 j = F j := fun j z1 z2 => (g2_E13 j (by omega)).trans (rE12_88 j z1 z2)
  have rE13_97 : ∀ j, (k + 4) ≤ j → j < (k + 4) + 6 → E13 j = F j := fun j z1 z2 => (g2_E13 j (by omega)).trans (rE12_89 j z1 z2)
  have rE13_98 : ∀ j, (k + 10) ≤ j → j < (k + 10) + 146 → E13 j = F j := fun j z1 z2 => (g2_E13 j (by omega)).trans (rE12_90 j z1 z2)
  have oE13_99 : ∀ j, j < k → E13 j = E0 j := fun j z => (g2_E13 j (by omega)).trans (oE12_91 j z)
  refine fk_aload_n (pc := 54) C 0 dX8_init_54 rfl rfl ?_
  refine fk_new (pc := 55) C (ci := 2) (n := (k + 157)) (fs := [.null, .null, .null]) kiX8_X2 tyX2 tyX2_ok kwX8_40 rfl hb_Fore ⟨Nat.le_of_ble_eq_true rfl, Nat.le_of_ble_eq_true rfl⟩ dX8_init_55 (fun E14 g1_E14 g2_E14 => ?_)
  have hE14 : E14 (k + 157) = .inr (2, [.null, .null, .null]) := g1_E14
  have hE14_103 : E14 k = .inr (8, [.ref (b0 + (k + 1)), .ref (b0 + (k + 2)), .ref (b0 + (k + 4)), .ref (b0 + (k + 10)), .ref (b0 + (k + 156)), .null, .null, .int 0, .int 0]) := (g2_E14 _ (by omega)).trans hE13
  have hE14_104 : E14 (k + 1) = .inl (cR, 8, .inr (.inr (.inr (.inr (fun _ => none))))) := (g2_E14 _ (by omega)).trans hE13_94
  have hE14_105 : E14 (k + 156) = .inl (cH, 2, .inr (.inr (.inr (.inr (fun _ => none))))) := (g2_E14 _ (by omega)).trans hE13_95
  have rE14_106 : ∀ j, (k + 2) ≤ j → j < (k + 2) + 2 → E14 j = F j := fun j z1 z2 => (g2_E14 j (by omega)).trans (rE13_96 j z1 z2)
  have rE14_107 : ∀ j, (k + 4) ≤ j → j < (k + 4) + 6 → E14 j = F j := fun j z1 z2 => (g2_E14 j (by omega)).trans (rE13_97 j z1 z2)
  have rE14_108 : ∀ j, (k + 10) ≤ j → j < (k + 10) + 146 → E14 j = F j := fun j z1 z2 => (g2_E14 j (by omega)).trans (rE13_98 j z1 z2)
  have oE14_109 : ∀ j, j < k → E14 j = E0 j := fun j z => (g2_E14 j (by omega)).trans (oE13_99 j z)
  refine fk_dup (pc := 58) C dX8_init_58 rfl ?_
  refine fk_callIN (pc := 59) C (ck_Fore (F := F) (E0 := E14) hF.2.2.2.2.2.2.1 hE14) ⟨va_cnB 0 C.2.2.2.2.1 gX8_init_X2_init_n42 rfl rfl rfl (C.2.2.2.2.2.2.1.1 (RX8, 42, yX2_init, "YieldDoors") (by decide +kernel)) (C.2.2.2.2.1 _ kvX8_Fore_42.1) hd_iFore ⟨Nat.le_of_ble_eq_true rfl, Nat.le_of_ble_eq_true rfl⟩, rfl, C.2.2.2.2.1 _ kvX8_Fore_42.2⟩ (Nat.le_of_ble_eq_true rfl) dX8_init_59 ⟨Nat.le_of_ble_eq_true rfl, Nat.le_of_ble_eq_true rfl⟩ ?_
  obtain ⟨E15, eE15⟩ : ∃ z, z = fk_fill F E14 (k + 157) 12 := ⟨_, rfl⟩
  rw [← eE15]
  have g2_E15 : ∀ j, ¬ ((k + 157) ≤ j ∧ j < (k + 157) + 12) → E15 j = E14 j := fun j z => by rw [eE15]; exact if_neg z
  have g1_E15 : ∀ j, (k + 157) ≤ j → j < (k + 157) + 12 → E15 j = F j := fun j z1 z2 => by rw [eE15]; exact if_pos ⟨z1, z2⟩
  have hE15_116 : E15 k = .inr (8, [.ref (b0 + (k + 1)), .ref (b0 + (k + 2)), .ref (b0 + (k + 4)), .ref (b0 + (k + 10)), .ref (b0 + (k + 156)), .null, .null, .int 0, .int 0]) := (g2_E15 _ (by omega)).trans hE14_103
  have hE15_117 : E15 (k + 1) = .inl (cR, 8, .inr (.inr (.inr (.inr (fun _ => none))))) := (g2_E15 _ (by omega)).trans hE14_104
  have hE15_118 : E15 (k + 156) = .inl (cH, 2, .inr (.inr (.inr (.inr (fun _ => none))))) := (g2_E15 _ (by omega)).trans hE14_105
  have rE15_119 : ∀ j, (k + 2) ≤ j → j < (k + 2) + 2 → E15 j = F j := fun j z1 z2 => (g2_E15 j (by omega)).trans (rE14_106 j z1 z2)
  have rE15_120 : ∀ j, (k + 4) ≤ j → j < (k + 4) + 6 → E15 j = F j := fun j z1 z2 => (g2_E15 j (by omega)).trans (rE14_107 j z1 z2)
  have rE15_121 : ∀ j, (k + 10) ≤ j → j < (k + 10) + 146 → E15 j = F j := fun j z1 z2 => (g2_E15 j (by omega)).trans (rE14_108 j z1 z2)
  have oE15_122 : ∀ j, j < k → E15 j = E0 j := fun j z => (g2_E15 j (by omega)).trans (oE14_109 j z)
  refine fk_putF (pc := 62) C hin (by omega) hE15_116 rfl qiX8_43_5 tyX8 tyX8_ok nmX8 rfl rfl rfl rfl rfl (Nat.le_of_ble_eq_true rfl) dX8_init_62 (fun E16 g1_E16 g2_E16 => ?_)
  have hE16 : E16 k = .inr (8, [.ref (b0 + (k + 1)), .ref (b0 + (k + 2)), .ref (b0 + (k + 4)), .ref (b0 + (k + 10)), .ref (b0 + (k + 156)), .ref (b0 + (k + 157)), .null, .int 0, .int 0]) := g1_E16
  have hE16_125 : E16 (k + 1) = .inl (cR, 8, .inr (.inr (.inr (.inr (fun _ => none))))) := (g2_E16 _ (by omega)).trans hE15_117
  have hE16_126 : E16 (k + 156) = .inl (cH, 2, .inr (.inr (.inr (.inr (fun _ => none))))) := (g2_E16 _ (by omega)).trans hE15_118
  have rE16_127 : ∀ j, (k + 2) ≤ j → j < (k + 2) + 2 → E16 j = F j := fun j z1 z2 => (g2_E16 j (by omega)).trans (rE15_119 j z1 z2)
  have rE16_128 : ∀ j, (k + 4) ≤ j → j < (k + 4) + 6 → E16 j = F j := fun j z1 z2 => (g2_E16 j (by omega)).trans (rE15_120 j z1 z2)
  have rE16_129 : ∀ j, (k + 10) ≤ j → j < (k + 10) + 146 → E16 j = F j := fun j z1 z2 => (g2_E16 j (by omega)).trans (rE15_121 j z1 z2)
  have rE16_130 : ∀ j, (k + 157) ≤ j → j < (k + 157) + 12 → E16 j = F j := fun j z1 z2 => (g2_E16 j (by omega)).trans (g1_E15 j z1 z2)
  have oE16_131 : ∀ j, j < k → E16 j = E0 j := fun j z => (g2_E16 j (by omega)).trans (oE15_122 j z)
  refine fk_aload_n (pc := 65) C 0 dX8_init_65 rfl rfl ?_
  refine fk_new (pc := 66) C (ci := 1) (n := (k + 169)) (fs := [.null, .int 0]) kiX8_X1 tyX1 tyX1_ok kwX8_47 rfl hb_Asking ⟨Nat.le_of_ble_eq_true rfl, Nat.le_of_ble_eq_true rfl⟩ dX8_init_66 (fun E17 g1_E17 g2_E17 => ?_)
  have hE17 : E17 (k + 169) = .inr (1, [.null, .int 0]) := g1_E17
  have hE17_135 : E17 k = .inr (8, [.ref (b0 + (k + 1)), .ref (b0 + (k + 2)), .ref (b0 + (k + 4)), .ref (b0 + (k + 10)), .ref (b0 + (k + 156)), .ref (b0 + (k + 157)), .null, .int 0, .int 0]) := (g2_E17 _ (by omega)).trans hE16
  have hE17_136 : E17 (k + 1) = .inl (cR, 8, .inr (.inr (.inr (.inr (fun _ => none))))) := (g2_E17 _ (by omega)).trans hE16_125
  have hE17_137 : E17 (k + 156) = .inl (cH, 2, .inr (.inr (.inr (.inr (fun _ => none))))) := (g2_E17 _ (by omega)).trans hE16_126
  have rE17_138 : ∀ j, (k + 2) ≤ j → j < (k + 2) + 2 → E17 j = F j := fun j z1 z2 => (g2_E17 j (by omega)).trans (rE16_127 j z1 z2)
  have rE17_139 : ∀ j, (k + 4) ≤ j → j < (k + 4) + 6 → E17 j = F j := fun j z1 z2 => (g2_E17 j (by omega)).trans (rE16_128 j z1 z2)
  have rE17_140 : ∀ j, (k + 10) ≤ j → j < (k + 10) + 146 → E17 j = F j := fun j z1 z2 => (g2_E17 j (by omega)).trans (rE16_129 j z1 z2)
  have rE17_141 : ∀ j, (k + 157) ≤ j → j < (k + 157) + 12 → E17 j = F j := fun j z1 z2 => (g2_E17 j (by omega)).trans (rE16_130 j z1 z2)
  have oE17_142 : ∀ j, j < k → E17 j = E0 j := fun j z => (g2_E17 j (by omega)).trans (oE16_131 j z)
  refine fk_dup (pc := 69) C dX8_init_69 rfl ?_
  refine fk_callIN (pc := 70) C (ck_Asking (F := F) (E0 := E17) hF.2.2.2.2.2.2.2.1 hE17) ⟨va_cnB 0 C.2.2.2.2.1 gX8_init_X1_init_n49 rfl rfl rfl (C.2.2.2.2.2.2.1.1 (RX8, 49, yX1_init, "YieldDoors") (by decide +kernel)) (C.2.2.2.2.1 _ kvX8_Asking_49.1) hd_iAsking ⟨Nat.le_of_ble_eq_true rfl, Nat.le_of_ble_eq_true rfl⟩, rfl, C.2.2.2.2.1 _ kvX8_Asking_49.2⟩ (Nat.le_of_ble_eq_true rfl) dX8_init_70 ⟨Nat.le_of_ble_eq_true rfl, Nat.le_of_ble_eq_true rfl⟩ ?_
  obtain ⟨E18, eE18⟩ : ∃ z, z = fk_fill F E17 (k + 169) 2 := ⟨_, rfl⟩
  rw [← eE18]
  have g2_E18 : ∀ j, ¬ ((k + 169) ≤ j ∧ j < (k + 169) + 2) → E18 j = E17 j := fun j z => by rw [eE18]; exact if_neg z
  have g1_E18 : ∀ j, (k + 169) ≤ j → j < (k + 169) + 2 → E18 j = F j := fun j z1 z2 => by rw [eE18]; exact if_pos ⟨z1, z2⟩
  have hE18_149 : E18 k = .inr (8, [.ref (b0 + (k + 1)), .ref (b0 + (k + 2)), .ref (b0 + (k + 4)), .ref (b0 + (k + 10)), .ref (b0 + (k + 156)), .ref (b0 + (k + 157)), .null, .int 0, .int 0]) := (g2_E18 _ (by omega)).trans hE17_135
  have hE18_150 : E18 (k + 1) = .inl (cR, 8, .inr (.inr (.inr (.inr (fun _ => none))))) := (g2_E18 _ (by omega)).trans hE17_136
  have hE18_151 : E18 (k + 156) = .inl (cH, 2, .inr (.inr (.inr (.inr (fun _ => none))))) := (g2_E18 _ (by omega)).trans hE17_137
  have rE18_152 : ∀ j, (k + 2) ≤ j → j < (k + 2) + 2 → E18 j = F j := fun j z1 z2 => (g2_E18 j (by omega)).trans (rE17_138 j z1 z2)
  have rE18_153 : ∀ j, (k + 4) ≤ j → j < (k + 4) + 6 → E18 j = F j := fun j z1 z2 => (g2_E18 j (by omega)).trans (rE17_139 j z1 z2)
  have rE18_154 : ∀ j, (k + 10) ≤ j → j < (k + 10) + 146 → E18 j = F j := fun j z1 z2 => (g2_E18 j (by omega)).trans (rE17_140 j z1 z2)
  have rE18_155 : ∀ j, (k + 157) ≤ j → j < (k + 157) + 12 → E18 j = F j := fun j z1 z2 => (g2_E18 j (by omega)).trans (rE17_141 j z1 z2)
  have oE18_156 : ∀ j, j < k → E18 j = E0 j := fun j z => (g2_E18 j (by omega)).trans (oE17_142 j z)
  refine fk_putF (pc := 73) C hin (by omega) hE18_149 rfl qiX8_50_6 tyX8 tyX8_ok nmX8 rfl rfl rfl rfl rfl (Nat.le_of_ble_eq_true rfl) dX8_init_73 (fun E19 g1_E19 g2_E19 => ?_)
  have hE19 : E19 k = .inr (8, [.ref (b0 + (k + 1)), .ref (b0 + (k + 2)), .ref (b0 + (k + 4)), .ref (b0 + (k + 10)), .ref (b0 + (k + 156)), .ref (b0 + (k + 157)), .ref (b0 + (k + 169)), .int 0, .int 0]) := g1_E19
  have hE19_159 : E19 (k + 1) = .inl (cR, 8, .inr (.inr (.inr (.inr (fun _ => none))))) := (g2_E19 _ (by omega)).trans hE18_150
  have hE19_160 : E19 (k + 156) = .inl (cH, 2, .inr (.inr (.inr (.inr (fun _ => none))))) := (g2_E19 _ (by omega)).trans hE18_151
  have rE19_161 : ∀ j, (k + 2) ≤ j → j < (k + 2) + 2 → E19 j = F j := fun j z1 z2 => (g2_E19 j (by omega)).trans (rE18_152 j z1 z2)
  have rE19_162 : ∀ j, (k + 4) ≤ j → j < (k + 4) + 6 → E19 j = F j := fun j z1 z2 => (g2_E19 j (by omega)).trans (rE18_153 j z1 z2)
  have rE19_163 : ∀ j, (k + 10) ≤ j → j < (k + 10) + 146 → E19 j = F j := fun j z1 z2 => (g2_E19 j (by omega)).trans (rE18_154 j z1 z2)
  have rE19_164 : ∀ j, (k + 157) ≤ j → j < (k + 157) + 12 → E19 j = F j := fun j z1 z2 => (g2_E19 j (by omega)).trans (rE18_155 j z1 z2)
  have rE19_165 : ∀ j, (k + 169) ≤ j → j < (k + 169) + 2 → E19 j = F j := fun j z1 z2 => (g2_E19 j (by omega)).trans (g1_E18 j z1 z2)
  have oE19_166 : ∀ j, j < k → E19 j = E0 j := fun j z => (g2_E19 j (by omega)).trans (oE18_156 j z)
  refine fk_aload_n (pc := 76) C 0 dX8_init_76 rfl rfl ?_
  refine fk_iconst (pc := 77) C (v := 0) dX8_init_77 fk_iconst_0 ?_
  refine fk_put (pc := 78) C (by omega) hE19 rfl qiX8_54_7 tyX8 tyX8_ok nmX8 rfl rfl rfl rfl (Nat.le_of_ble_eq_true rfl) dX8_init_78 (fun E20 g1_E20 g2_E20 => ?_)
  have hE20 : E20 k = .inr (8, [.ref (b0 + (k + 1)), .ref (b0 + (k + 2)), .ref (b0 + (k + 4)), .ref (b0 + (k + 10)), .ref (b0 + (k + 156)), .ref (b0 + (k + 157)), .ref (b0 + (k + 169)), .int 0, .int 0]) := g1_E20
  have hE20_171 : E20 (k + 1) = .inl (cR, 8, .inr (.inr (.inr (.inr (fun _ => none))))) := (g2_E20 _ (by omega)).trans hE19_159
  have hE20_172 : E20 (k + 156) = .inl (cH, 2, .inr (.inr (.inr (.inr (fun _ => none))))) := (g2_E20 _ (by omega)).trans hE19_160
  have rE20_173 : ∀ j, (k + 2) ≤ j → j < (k + 2) + 2 → E20 j = F j := fun j z1 z2 => (g2_E20 j (by omega)).trans (rE19_161 j z1 z2)
  have rE20_174 : ∀ j, (k + 4) ≤ j → j < (k + 4) + 6 → E20 j = F j := fun j z1 z2 => (g2_E20 j (by omega)).trans (rE19_162 j z1 z2)
  have rE20_175 : ∀ j, (k + 10) ≤ j → j < (k + 10) + 146 → E20 j = F j := fun j z1 z2 => (g2_E20 j (by omega)).trans (rE19_163 j z1 z2)
  have rE20_176 : ∀ j, (k + 157) ≤ j → j < (k + 157) + 12 → E20 j = F j := fun j z1 z2 => (g2_E20 j (by omega)).trans (rE19_164 j z1 z2)
  have rE20_177 : ∀ j, (k + 169) ≤ j → j < (k + 169) + 2 → E20 j = F j := fun j z1 z2 => (g2_E20 j (by omega)).trans (rE19_165 j z1 z2)
  have oE20_178 : ∀ j, j < k → E20 j = E0 j := fun j z => (g2_E20 j (by omega)).trans (oE19_166 j z)
  refine fk_aload_n (pc := 81) C 0 dX8_init_81 rfl rfl ?_
  refine fk_iconst (pc := 82) C (v := 0) dX8_init_82 fk_iconst_0 ?_
  refine fk_put (pc := 83) C (by omega) hE20 rfl qiX8_58_8 tyX8 tyX8_ok nmX8 rfl rfl rfl rfl (Nat.le_of_ble_eq_true rfl) dX8_init_83 (fun E21 g1_E21 g2_E21 => ?_)
  have hE21 : E21 k = .inr (8, [.ref (b0 + (k + 1)), .ref (b0 + (k + 2)), .ref (b0 + (k + 4)), .ref (b0 + (k + 10)), .ref (b0 + (k + 156)), .ref (b0 + (k + 157)), .ref (b0 + (k + 169)), .int 0, .int 0]) := g1_E21
  have hE21_183 : E21 (k + 1) = .inl (cR, 8, .inr (.inr (.inr (.inr (fun _ => none))))) := (g2_E21 _ (by omega)).trans hE20_171
  have hE21_184 : E21 (k + 156) = .inl (cH, 2, .inr (.inr (.inr (.inr (fun _ => none))))) := (g2_E21 _ (by omega)).trans hE20_172
  have rE21_185 : ∀ j, (k + 2) ≤ j → j < (k + 2) + 2 → E21 j = F j := fun j z1 z2 => (g2_E21 j (by omega)).trans (rE20_173 j z1 z2)
  have rE21_186 : ∀ j, (k + 4) ≤ j → j < (k + 4) + 6 → E21 j = F j := fun j z1 z2 => (g2_E21 j (by omega)).trans (rE20_174 j z1 z2)
  have rE21_187 : ∀ j, (k + 10) ≤ j → j < (k + 10) + 146 → E21 j = F j := fun j z1 z2 => (g2_E21 j (by omega)).trans (rE20_175 j z1 z2)
  have rE21_188 : ∀ j, (k + 157) ≤ j → j < (k + 157) + 12 → E21 j = F j := fun j z1 z2 => (g2_E21 j (by omega)).trans (rE20_176 j z1 z2)
  have rE21_189 : ∀ j, (k + 169) ≤ j → j < (k + 169) + 2 → E21 j = F j := fun j z1 z2 => (g2_E21 j (by omega)).trans (rE20_177 j z1 z2)
  have oE21_190 : ∀ j, j < k → E21 j = E0 j := fun j z => (g2_E21 j (by omega)).trans (oE20_178 j z)
  refine fk_iconst (pc := 86) C (v := 0) dX8_init_86 fk_iconst_0 ?_
  refine fk_istore_n (pc := 87) C (L2 := [(0, .ref _), (1, .int _)]) [1, 0] dX8_init_87 rfl (by decide) rfl ?_
  refine fk_at (n2 := k + 171 + 2 * 0) (by omega) ?_
  refine fk_widen (k := 170 + 2 * 0) (n1 := 1332 + 43 * 0) (by decide) (by decide) ?_
  exact cl_Door1 C hin hr hF 8 0 E21 (fun _ => none) (by omega) hE21 hE21_183 (fun j z => absurd z (by omega)) (fun j z1 z2 => absurd z1 (by omega)) hE21_184 rE21_185 rE21_186 rE21_187 rE21_188 rE21_189 oE21_190
set_option maxRecDepth 100000 in
theorem ck_Door {l : Launch} {D : va_G} {cI cZ cH cR : ClassId} {b0 k : Nat} {F E0 : Nat → va_E} (hF : pk_Door F b0 cI cZ cH cR k) (hb : E0 k = .inr (8, [.null, .null, .null, .null, .null, .null, .null, .int 0, .int 0])) : fk_Met l yX8_init wsX8_init rk_Door D vwCl (fw_tys cI cZ cH cR) nw_k b0 [.ref (b0 + k)] (k + 1) E0 (k + 199) (fk_fill F E0 k 199) 198 1764 :=
  fk_intro (cc := cX8_init) (maxL := 2) (own := RX8) (by decide) rfl rfl rfl (Nat.le_of_ble_eq_true rfl) (fun p e s m args below meth c C hin hr => fk_sub [0] rfl (ci_Door C hin hr hF hb))
