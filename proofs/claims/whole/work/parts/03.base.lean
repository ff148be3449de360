noncomputable section
abbrev fw_tys (cI cZ cH cR : ClassId) : List (ClassId × FieldType) := [(cI, .int), (cZ, .boolean), (cH, .object "YieldDoors$Hall"), (cR, .object "YieldDoors$Row")]
abbrev fw_nw0 : fw_nw := [(RX3, 40, yX8_within, "YieldDoors"), (RX7, 74, yX8_within, "YieldDoors")]
theorem fk_bipush_7 : (Int8.ofInt (7)).toInt32 = 7 := by decide
theorem fk_bipush_8 : (Int8.ofInt (8)).toInt32 = 8 := by decide
theorem fk_bipush_9 : (Int8.ofInt (9)).toInt32 = 9 := by decide
theorem fk_bipush_10 : (Int8.ofInt (10)).toInt32 = 10 := by decide
theorem fk_bipush_11 : (Int8.ofInt (11)).toInt32 = 11 := by decide
theorem fk_bipush_12 : (Int8.ofInt (12)).toInt32 = 12 := by decide
theorem fk_bipush_13 : (Int8.ofInt (13)).toInt32 = 13 := by decide
theorem fk_bipush_14 : (Int8.ofInt (14)).toInt32 = 14 := by decide
theorem fk_bipush_16 : (Int8.ofInt (16)).toInt32 = 16 := by decide
theorem fk_bipush_20 : (Int8.ofInt (20)).toInt32 = 20 := by decide
theorem fk_bipush_21 : (Int8.ofInt (21)).toInt32 = 21 := by decide
theorem fk_bipush_22 : (Int8.ofInt (22)).toInt32 = 22 := by decide
theorem fk_bipush_23 : (Int8.ofInt (23)).toInt32 = 23 := by decide
theorem fk_bipush_24 : (Int8.ofInt (24)).toInt32 = 24 := by decide
theorem fk_bipush_39 : (Int8.ofInt (39)).toInt32 = 39 := by decide
theorem fk_bipush_40 : (Int8.ofInt (40)).toInt32 = 40 := by decide
theorem fk_bipush_44 : (Int8.ofInt (44)).toInt32 = 44 := by decide
theorem fk_bipush_48 : (Int8.ofInt (48)).toInt32 = 48 := by decide
theorem fk_bipush_57 : (Int8.ofInt (57)).toInt32 = 57 := by decide
theorem fk_bipush_59 : (Int8.ofInt (59)).toInt32 = 59 := by decide
theorem fk_bipush_60 : (Int8.ofInt (60)).toInt32 = 60 := by decide
theorem fk_bipush_61 : (Int8.ofInt (61)).toInt32 = 61 := by decide
theorem fk_bipush_63 : (Int8.ofInt (63)).toInt32 = 63 := by decide
theorem fk_bipush_98 : (Int8.ofInt (98)).toInt32 = 98 := by decide
theorem fk_bipush_99 : (Int8.ofInt (99)).toInt32 = 99 := by decide
theorem fk_bipush_100 : (Int8.ofInt (100)).toInt32 = 100 := by decide
theorem fk_bipush_103 : (Int8.ofInt (103)).toInt32 = 103 := by decide
theorem fk_bipush_106 : (Int8.ofInt (106)).toInt32 = 106 := by decide
theorem fk_bipush_109 : (Int8.ofInt (109)).toInt32 = 109 := by decide
theorem fk_bipush_115 : (Int8.ofInt (115)).toInt32 = 115 := by decide
theorem fk_iconst_m1 : Int32.ofInt (-1) = -1 := by decide
theorem fk_iconst_0 : Int32.ofInt (0) = 0 := by decide
theorem fk_iconst_1 : Int32.ofInt (1) = 1 := by decide
theorem fk_iconst_2 : Int32.ofInt (2) = 2 := by decide
theorem fk_iconst_3 : Int32.ofInt (3) = 3 := by decide
theorem fk_iconst_4 : Int32.ofInt (4) = 4 := by decide
theorem fk_iconst_5 : Int32.ofInt (5) = 5 := by decide
theorem fk_sipush_128 : (Int16.ofInt (128)).toInt32 = 128 := by decide
theorem fk_sipush_255 : (Int16.ofInt (255)).toInt32 = 255 := by decide
theorem fk_sipush_897 : (Int16.ofInt (897)).toInt32 = 897 := by decide
theorem fk_sipush_999 : (Int16.ofInt (999)).toInt32 = 999 := by decide
theorem fk_sipush_1000 : (Int16.ofInt (1000)).toInt32 = 1000 := by decide
theorem fk_lconst_0 : Int64.ofNat ((0 : Fin 2) : Nat) = 0 := by decide
theorem fk_lconst_1 : Int64.ofNat ((1 : Fin 2) : Nat) = 1 := by decide
def o_Hall (EE : fw_M → Nat → va_E) (ad : Nat → Nat) (N : Nat) (cI cZ cH cR : ClassId) (k : Nat) : Prop := fw_O EE N k 3 ∧ fw_F EE N k 3 0 ∧ fw_F EE N k 3 1 ∧ fw_F EE N k 3 2 ∧ fw_F EE N k 3 3 ∧ (fw_R EE ad N k 3 4 (k + 1) ∧ fw_I EE N cI (k + 1) 7) ∧ (fw_R EE ad N k 3 5 (k + 2) ∧ fw_I EE N cI (k + 2) 7) ∧ (fw_R EE ad N k 3 6 (k + 3) ∧ fw_I EE N cI (k + 3) 7) ∧ (fw_R EE ad N k 3 7 (k + 4) ∧ fw_I EE N cI (k + 4) 7) ∧ (fw_R EE ad N k 3 8 (k + 5) ∧ fw_I EE N cI (k + 5) 7)
def o_Row (EE : fw_M → Nat → va_E) (ad : Nat → Nat) (N : Nat) (cI cZ cH cR : ClassId) (k : Nat) : Prop := fw_O EE N k 6 ∧ (fw_R EE ad N k 6 0 (k + 1) ∧ fw_I EE N cI (k + 1) 40) ∧ fw_F EE N k 6 1 ∧ fw_F EE N k 6 2
def o_Tape (EE : fw_M → Nat → va_E) (ad : Nat → Nat) (N : Nat) (cI cZ cH cR : ClassId) (k : Nat) : Prop := fw_O EE N k 7 ∧ (fw_R EE ad N k 7 0 (k + 1) ∧ fw_I EE N cI (k + 1) 100) ∧ fw_F EE N k 7 1 ∧ fw_F EE N k 7 2 ∧ fw_F EE N k 7 3
def o_Law (EE : fw_M → Nat → va_E) (ad : Nat → Nat) (N : Nat) (cI cZ cH cR : ClassId) (k : Nat) : Prop := fw_O EE N k 4 ∧ (fw_R EE ad N k 4 0 (k + 1) ∧ fw_I EE N cI (k + 1) 7)
def o_Line (EE : fw_M → Nat → va_E) (ad : Nat → Nat) (N : Nat) (cI cZ cH cR : ClassId) (k : Nat) : Prop := fw_O EE N k 5 ∧ (fw_R EE ad N k 5 0 (k + 1) ∧ fw_I EE N cI (k + 1) 7) ∧ (fw_R EE ad N k 5 1 (k + 2) ∧ fw_I EE N cI (k + 2) 7) ∧ fw_F EE N k 5 2 ∧ fw_F EE N k 5 3
def o_Asking (EE : fw_M → Nat → va_E) (ad : Nat → Nat) (N : Nat) (cI cZ cH cR : ClassId) (k : Nat) : Prop := fw_O EE N k 1 ∧ (fw_R EE ad N k 1 0 (k + 1) ∧ fw_I EE N cI (k + 1) 16) ∧ fw_F EE N k 1 1
def o_Acts (EE : fw_M → Nat → va_E) (ad : Nat → Nat) (N : Nat) (cI cZ cH cR : ClassId) (k : Nat) : Prop := fw_O EE N k 0 ∧ (fw_R EE ad N k 0 0 (k + 1) ∧ fw_Q EE ad N cH (k + 1) 24 (fun i => k + 2 + 6 * i) ∧ ∀ i, i < 24 → o_Hall EE ad N cI cZ cH cR (k + 2 + 6 * i)) ∧ fw_F EE N k 0 1 ∧ fw_F EE N k 0 2
def o_Fore (EE : fw_M → Nat → va_E) (ad : Nat → Nat) (N : Nat) (cI cZ cH cR : ClassId) (k : Nat) : Prop := fw_O EE N k 2 ∧ (fw_R EE ad N k 2 0 (k + 1) ∧ o_Hall EE ad N cI cZ cH cR (k + 1)) ∧ (fw_R EE ad N k 2 1 (k + 7) ∧ o_Law EE ad N cI cZ cH cR (k + 7)) ∧ (fw_R EE ad N k 2 2 (k + 9) ∧ o_Line EE ad N cI cZ cH cR (k + 9))
def o_Door (EE : fw_M → Nat → va_E) (ad : Nat → Nat) (N : Nat) (cI cZ cH cR : ClassId) (k : Nat) : Prop := fw_O EE N k 8 ∧ (fw_R EE ad N k 8 0 (k + 1) ∧ fw_Q EE ad N cR (k + 1) 8 (fun i => k + 171 + 2 * i) ∧ ∀ i, i < 8 → o_Row EE ad N cI cZ cH cR (k + 171 + 2 * i)) ∧ (fw_R EE ad N k 8 1 (k + 2) ∧ o_Tape EE ad N cI cZ cH cR (k + 2)) ∧ (fw_R EE ad N k 8 2 (k + 4) ∧ o_Hall EE ad N cI cZ cH cR (k + 4)) ∧ (fw_R EE ad N k 8 3 (k + 10) ∧ o_Acts EE ad N cI cZ cH cR (k + 10)) ∧ (fw_R EE ad N k 8 4 (k + 156) ∧ fw_Q EE ad N cH (k + 156) 2 (fun i => k + 187 + 6 * i) ∧ ∀ i, i < 2 → o_Hall EE ad N cI cZ cH cR (k + 187 + 6 * i)) ∧ (fw_R EE ad N k 8 5 (k + 157) ∧ o_Fore EE ad N cI cZ cH cR (k + 157)) ∧ (fw_R EE ad N k 8 6 (k + 169) ∧ o_Asking EE ad N cI cZ cH cR (k + 169)) ∧ fw_F EE N k 8 7 ∧ fw_F EE N k 8 8
def o_Mod (EE : fw_M → Nat → va_E) (ad : Nat → Nat) (N : Nat) (cI cZ cH cR : ClassId) (k : Nat) : Prop := fw_O EE N k 9 ∧ fw_F EE N k 9 0 ∧ fw_F EE N k 9 1 ∧ (fw_R EE ad N k 9 2 (k + 1) ∧ fw_I EE N cI (k + 1) 8) ∧ (fw_R EE ad N k 9 3 (k + 2) ∧ fw_I EE N cI (k + 2) 8) ∧ (fw_R EE ad N k 9 4 (k + 3) ∧ fw_I EE N cI (k + 3) 320) ∧ (fw_R EE ad N k 9 5 (k + 4) ∧ fw_I EE N cI (k + 4) 39) ∧ (fw_R EE ad N k 9 6 (k + 5) ∧ fw_I EE N cI (k + 5) 39) ∧ (fw_R EE ad N k 9 7 (k + 6) ∧ fw_I EE N cI (k + 6) 39) ∧ (fw_R EE ad N k 9 8 (k + 7) ∧ fw_I EE N cI (k + 7) 936) ∧ fw_F EE N k 9 9 ∧ (fw_R EE ad N k 9 10 (k + 8) ∧ fw_I EE N cI (k + 8) 100) ∧ fw_F EE N k 9 11 ∧ fw_F EE N k 9 12 ∧ fw_F EE N k 9 13 ∧ fw_F EE N k 9 14 ∧ fw_F EE N k 9 15 ∧ fw_F EE N k 9 16 ∧ fw_F EE N k 9 17 ∧ fw_F EE N k 9 18 ∧ (fw_R EE ad N k 9 19 (k + 9) ∧ fw_I EE N cI (k + 9) 4) ∧ (fw_R EE ad N k 9 20 (k + 10) ∧ fw_I EE N cZ (k + 10) 2) ∧ (fw_R EE ad N k 9 21 (k + 11) ∧ fw_I EE N cI (k + 11) 78) ∧ (fw_R EE ad N k 9 22 (k + 12) ∧ fw_I EE N cI (k + 12) 16) ∧ fw_F EE N k 9 23
end
