/-! THE CELLS OF THE SYSTEM: 0 .. 198 the class', 199 .. 211 the reference's -/
def wk_L : List Nat := [8, 21, 7, 1100, 3, 1007, 1007, 1007, 1007, 1007, 0, 22, 3, 1007, 1007, 1007, 1007, 1007, 3, 1007, 1007, 1007, 1007, 1007, 3, 1007, 1007, 1007, 1007, 1007, 3, 1007, 1007, 1007, 1007, 1007, 3, 1007, 1007, 1007, 1007, 1007, 3, 1007, 1007, 1007, 1007, 1007, 3, 1007, 1007, 1007, 1007, 1007, 3, 1007, 1007, 1007, 1007, 1007, 3, 1007, 1007, 1007, 1007, 1007, 3, 1007, 1007, 1007, 1007, 1007, 3, 1007, 1007, 1007, 1007, 1007, 3, 1007, 1007, 1007, 1007, 1007, 3, 1007, 1007, 1007, 1007, 1007, 3, 1007, 1007, 1007, 1007, 1007, 3, 1007, 1007, 1007, 1007, 1007, 3, 1007, 1007, 1007, 1007, 1007, 3, 1007, 1007, 1007, 1007, 1007, 3, 1007, 1007, 1007, 1007, 1007, 3, 1007, 1007, 1007, 1007, 1007, 3, 1007, 1007, 1007, 1007, 1007, 3, 1007, 1007, 1007, 1007, 1007, 3, 1007, 1007, 1007, 1007, 1007, 3, 1007, 1007, 1007, 1007, 1007, 3, 1007, 1007, 1007, 1007, 1007, 23, 2, 3, 1007, 1007, 1007, 1007, 1007, 4, 1007, 5, 1007, 1007, 1, 1016, 6, 1040, 6, 1040, 6, 1040, 6, 1040, 6, 1040, 6, 1040, 6, 1040, 6, 1040, 3, 1007, 1007, 1007, 1007, 1007, 3, 1007, 1007, 1007, 1007, 1007, 9, 1008, 1008, 1320, 1039, 1039, 1039, 1936, 1100, 1004, 30, 1078, 1016]
def wk_t (k : Nat) : Nat := wk_L.getD k 99
def wk_G (b0 : Nat) (cI cZ cH cR : ClassId) (k : Nat) (m : Nat → Int32) : va_E :=
  if wk_t k = 3 then .inr (3, [.int (m 0), .int (m 1), .int (m 2), .int (m 3), .ref (b0 + (k + 1)), .ref (b0 + (k + 2)), .ref (b0 + (k + 3)), .ref (b0 + (k + 4)), .ref (b0 + (k + 5))])
  else if wk_t k = 6 then .inr (6, [.ref (b0 + (k + 1)), .int (m 1), .int (m 2)])
  else if wk_t k = 7 then .inr (7, [.ref (b0 + (k + 1)), .int (m 1), .int (m 2), .int (m 3)])
  else if wk_t k = 4 then .inr (4, [.ref (b0 + (k + 1))])
  else if wk_t k = 5 then .inr (5, [.ref (b0 + (k + 1)), .ref (b0 + (k + 2)), .int (m 2), .int (m 3)])
  else if wk_t k = 1 then .inr (1, [.ref (b0 + (k + 1)), .int (m 1)])
  else if wk_t k = 0 then .inr (0, [.ref (b0 + (k + 1)), .int (m 1), .int (m 2)])
  else if wk_t k = 2 then .inr (2, [.ref (b0 + (k + 1)), .ref (b0 + (k + 7)), .ref (b0 + (k + 9))])
  else if wk_t k = 8 then .inr (8, [.ref (b0 + (k + 1)), .ref (b0 + (k + 2)), .ref (b0 + (k + 4)), .ref (b0 + (k + 10)), .ref (b0 + (k + 156)), .ref (b0 + (k + 157)), .ref (b0 + (k + 169)), .int (m 7), .int (m 8)])
  else if wk_t k = 9 then .inr (9, [.int (m 0), .int (m 1), .ref (b0 + (k + 1)), .ref (b0 + (k + 2)), .ref (b0 + (k + 3)), .ref (b0 + (k + 4)), .ref (b0 + (k + 5)), .ref (b0 + (k + 6)), .ref (b0 + (k + 7)), .int (m 9), .ref (b0 + (k + 8)), .int (m 11), .int (m 12), .int (m 13), .int (m 14), .int (m 15), .int (m 16), .int (m 17), .int (m 18), .ref (b0 + (k + 9)), .ref (b0 + (k + 10)), .ref (b0 + (k + 11)), .ref (b0 + (k + 12)), .int (m 23)])
  else if wk_t k = 21 then .inl (cR, 8, .inr (.inr (.inr (.inr (fun i => some (b0 + (0 + 171 + 2 * i)))))))
  else if wk_t k = 22 then .inl (cH, 24, .inr (.inr (.inr (.inr (fun i => some (b0 + (10 + 2 + 6 * i)))))))
  else if wk_t k = 23 then .inl (cH, 2, .inr (.inr (.inr (.inr (fun i => some (b0 + (0 + 187 + 6 * i)))))))
  else if wk_t k = 30 then .inl (cZ, 2, .inl m)
  else .inl (cI, wk_t k - 1000, .inl m)
def wk_E (b0 : Nat) (cI cZ cH cR : ClassId) (Mc Mr : fw_M) : Nat → va_E := fun k => wk_G b0 cI cZ cH cR k (if k < 199 then Mc k else Mr k)
abbrev wk_c (b0 : Nat) (cI cZ cH cR : ClassId) (Mr : fw_M) : fw_M → Nat → va_E := fun Mc => wk_E b0 cI cZ cH cR Mc Mr
abbrev wk_r (b0 : Nat) (cI cZ cH cR : ClassId) (Mc : fw_M) : fw_M → Nat → va_E := fun Mr => wk_E b0 cI cZ cH cR Mc Mr
section WK
variable {b0 : Nat} {cI cZ cH cR : ClassId}
theorem wk_cm {Mr Mc : fw_M} {k : Nat} {f : Nat → Int32} (hk : k < 199) (e : va_E) (h : e = wk_G b0 cI cZ cH cR k f) : (fun i => if i = k then e else wk_c b0 cI cZ cH cR Mr Mc i) = wk_c b0 cI cZ cH cR Mr (fw_put Mc k f) := by
  funext i
  by_cases hi : i = k
  · subst hi
    simp only [if_pos, h, wk_c, wk_E, if_pos hk, fw_put]
  · simp only [if_neg hi, wk_c, wk_E, fw_put]
theorem wk_rm {Mr Mc : fw_M} {k : Nat} {f : Nat → Int32} (hk : ¬ k < 199) (e : va_E) (h : e = wk_G b0 cI cZ cH cR k f) : (fun i => if i = k then e else wk_r b0 cI cZ cH cR Mc Mr i) = wk_r b0 cI cZ cH cR Mc (fw_put Mr k f) := by
  funext i
  by_cases hi : i = k
  · subst hi
    simp only [if_pos, h, wk_r, wk_E, if_neg hk, fw_put]
  · simp only [if_neg hi, wk_r, wk_E, fw_put]
/-- an array of ints of the class -/
theorem wk_cI (Mr : fw_M) {k n : Nat} (hk : k < 199) (ht : wk_t k = 1000 + n) : fw_I (wk_c b0 cI cZ cH cR Mr) 212 cI k n := by
  have hg : ∀ m : Nat → Int32, wk_G b0 cI cZ cH cR k m = .inl (cI, n, .inl m) := by
    intro m
    unfold wk_G
    rw [ht]
    repeat rw [if_neg (by omega)]
    rw [show 1000 + n - 1000 = n by omega]
  refine ⟨by omega, fun M => ?_, fun M f => wk_cm hk _ (hg f).symm⟩
  show wk_G b0 cI cZ cH cR k (if k < 199 then M k else Mr k) = _
  rw [hg, if_pos hk]
theorem wk_rI (Mc : fw_M) {k n : Nat} (hk : ¬ k < 199) (hk2 : k < 212) (ht : wk_t k = 1000 + n) : fw_I (wk_r b0 cI cZ cH cR Mc) 212 cI k n := by
  have hg : ∀ m : Nat → Int32, wk_G b0 cI cZ cH cR k m = .inl (cI, n, .inl m) := by
    intro m
    unfold wk_G
    rw [ht]
    repeat rw [if_neg (by omega)]
    rw [show 1000 + n - 1000 = n by omega]
  refine ⟨hk2, fun M => ?_, fun M f => wk_rm hk _ (hg f).symm⟩
  show wk_G b0 cI cZ cH cR k (if k < 199 then Mc k else M k) = _
  rw [hg, if_neg hk]
theorem wk_rZ (Mc : fw_M) : fw_I (wk_r b0 cI cZ cH cR Mc) 212 cZ 209 2 := by
  have ht : wk_t 209 = 30 := by decide
  have hg : ∀ m : Nat → Int32, wk_G b0 cI cZ cH cR 209 m = .inl (cZ, 2, .inl m) := by
    intro m
    unfold wk_G
    rw [ht]
    simp
  refine ⟨by omega, fun M => ?_, fun M f => wk_rm (by omega) _ (hg f).symm⟩
  show wk_G b0 cI cZ cH cR 209 (if 209 < 199 then Mc 209 else M 209) = _
  rw [hg, if_neg (by omega)]
theorem wk_gHall (k : Nat) (m : Nat → Int32) (ht : wk_t k = 3) : wk_G b0 cI cZ cH cR k m = .inr (3, [.int (m 0), .int (m 1), .int (m 2), .int (m 3), .ref (b0 + (k + 1)), .ref (b0 + (k + 2)), .ref (b0 + (k + 3)), .ref (b0 + (k + 4)), .ref (b0 + (k + 5))]) := by
  unfold wk_G
  rw [ht]
  simp
theorem wk_oHall (Mr : fw_M) {k : Nat} (hk : k < 199) (ht : wk_t k = 3) : fw_O (wk_c b0 cI cZ cH cR Mr) 212 k 3 := ⟨by omega, fun M => ⟨_, wk_gHall k _ ht⟩⟩
theorem wk_fHall_0 (Mr : fw_M) {k : Nat} (hk : k < 199) (ht : wk_t k = 3) : fw_F (wk_c b0 cI cZ cH cR Mr) 212 k 3 0 := by
  refine ⟨by omega, fun M => ⟨_, wk_gHall k _ ht, ?_, fun v => wk_cm hk _ ?_⟩⟩
  · simp [if_pos hk]
  · rw [wk_gHall k _ ht, if_pos hk]
    simp [upd]
theorem wk_fHall_1 (Mr : fw_M) {k : Nat} (hk : k < 199) (ht : wk_t k = 3) : fw_F (wk_c b0 cI cZ cH cR Mr) 212 k 3 1 := by
  refine ⟨by omega, fun M => ⟨_, wk_gHall k _ ht, ?_, fun v => wk_cm hk _ ?_⟩⟩
  · simp [if_pos hk]
  · rw [wk_gHall k _ ht, if_pos hk]
    simp [upd]
theorem wk_fHall_2 (Mr : fw_M) {k : Nat} (hk : k < 199) (ht : wk_t k = 3) : fw_F (wk_c b0 cI cZ cH cR Mr) 212 k 3 2 := by
  refine ⟨by omega, fun M => ⟨_, wk_gHall k _ ht, ?_, fun v => wk_cm hk _ ?_⟩⟩
  · simp [if_pos hk]
  · rw [wk_gHall k _ ht, if_pos hk]
    simp [upd]
theorem wk_fHall_3 (Mr : fw_M) {k : Nat} (hk : k < 199) (ht : wk_t k = 3) : fw_F (wk_c b0 cI cZ cH cR Mr) 212 k 3 3 := by
  refine ⟨by omega, fun M => ⟨_, wk_gHall k _ ht, ?_, fun v => wk_cm hk _ ?_⟩⟩
  · simp [if_pos hk]
  · rw [wk_gHall k _ ht, if_pos hk]
    simp [upd]
theorem wk_rHall_4 (Mr : fw_M) {k : Nat} (hk : k < 199) (ht : wk_t k = 3) : fw_R (wk_c b0 cI cZ cH cR Mr) (fk_ad b0) 212 k 3 4 (k + 1) := ⟨by omega, fun M => ⟨_, wk_gHall k _ ht, rfl⟩⟩
theorem wk_rHall_5 (Mr : fw_M) {k : Nat} (hk : k < 199) (ht : wk_t k = 3) : fw_R (wk_c b0 cI cZ cH cR Mr) (fk_ad b0) 212 k 3 5 (k + 2) := ⟨by omega, fun M => ⟨_, wk_gHall k _ ht, rfl⟩⟩
theorem wk_rHall_6 (Mr : fw_M) {k : Nat} (hk : k < 199) (ht : wk_t k = 3) : fw_R (wk_c b0 cI cZ cH cR Mr) (fk_ad b0) 212 k 3 6 (k + 3) := ⟨by omega, fun M => ⟨_, wk_gHall k _ ht, rfl⟩⟩
theorem wk_rHall_7 (Mr : fw_M) {k : Nat} (hk : k < 199) (ht : wk_t k = 3) : fw_R (wk_c b0 cI cZ cH cR Mr) (fk_ad b0) 212 k 3 7 (k + 4) := ⟨by omega, fun M => ⟨_, wk_gHall k _ ht, rfl⟩⟩
theorem wk_rHall_8 (Mr : fw_M) {k : Nat} (hk : k < 199) (ht : wk_t k = 3) : fw_R (wk_c b0 cI cZ cH cR Mr) (fk_ad b0) 212 k 3 8 (k + 5) := ⟨by omega, fun M => ⟨_, wk_gHall k _ ht, rfl⟩⟩
theorem wk_gRow (k : Nat) (m : Nat → Int32) (ht : wk_t k = 6) : wk_G b0 cI cZ cH cR k m = .inr (6, [.ref (b0 + (k + 1)), .int (m 1), .int (m 2)]) := by
  unfold wk_G
  rw [ht]
  simp
theorem wk_oRow (Mr : fw_M) {k : Nat} (hk : k < 199) (ht : wk_t k = 6) : fw_O (wk_c b0 cI cZ cH cR Mr) 212 k 6 := ⟨by omega, fun M => ⟨_, wk_gRow k _ ht⟩⟩
theorem wk_rRow_0 (Mr : fw_M) {k : Nat} (hk : k < 199) (ht : wk_t k = 6) : fw_R (wk_c b0 cI cZ cH cR Mr) (fk_ad b0) 212 k 6 0 (k + 1) := ⟨by omega, fun M => ⟨_, wk_gRow k _ ht, rfl⟩⟩
theorem wk_fRow_1 (Mr : fw_M) {k : Nat} (hk : k < 199) (ht : wk_t k = 6) : fw_F (wk_c b0 cI cZ cH cR Mr) 212 k 6 1 := by
  refine ⟨by omega, fun M => ⟨_, wk_gRow k _ ht, ?_, fun v => wk_cm hk _ ?_⟩⟩
  · simp [if_pos hk]
  · rw [wk_gRow k _ ht, if_pos hk]
    simp [upd]
theorem wk_fRow_2 (Mr : fw_M) {k : Nat} (hk : k < 199) (ht : wk_t k = 6) : fw_F (wk_c b0 cI cZ cH cR Mr) 212 k 6 2 := by
  refine ⟨by omega, fun M => ⟨_, wk_gRow k _ ht, ?_, fun v => wk_cm hk _ ?_⟩⟩
  · simp [if_pos hk]
  · rw [wk_gRow k _ ht, if_pos hk]
    simp [upd]
theorem wk_gTape (k : Nat) (m : Nat → Int32) (ht : wk_t k = 7) : wk_G b0 cI cZ cH cR k m = .inr (7, [.ref (b0 + (k + 1)), .int (m 1), .int (m 2), .int (m 3)]) := by
  unfold wk_G
  rw [ht]
  simp
theorem wk_oTape (Mr : fw_M) {k : Nat} (hk : k < 199) (ht : wk_t k = 7) : fw_O (wk_c b0 cI cZ cH cR Mr) 212 k 7 := ⟨by omega, fun M => ⟨_, wk_gTape k _ ht⟩⟩
theorem wk_rTape_0 (Mr : fw_M) {k : Nat} (hk : k < 199) (ht : wk_t k = 7) : fw_R (wk_c b0 cI cZ cH cR Mr) (fk_ad b0) 212 k 7 0 (k + 1) := ⟨by omega, fun M => ⟨_, wk_gTape k _ ht, rfl⟩⟩
theorem wk_fTape_1 (Mr : fw_M) {k : Nat} (hk : k < 199) (ht : wk_t k = 7) : fw_F (wk_c b0 cI cZ cH cR Mr) 212 k 7 1 := by
  refine ⟨by omega, fun M => ⟨_, wk_gTape k _ ht, ?_, fun v => wk_cm hk _ ?_⟩⟩
  · simp [if_pos hk]
  · rw [wk_gTape k _ ht, if_pos hk]
    simp [upd]
theorem wk_fTape_2 (Mr : fw_M) {k : Nat} (hk : k < 199) (ht : wk_t k = 7) : fw_F (wk_c b0 cI cZ cH cR Mr) 212 k 7 2 := by
  refine ⟨by omega, fun M => ⟨_, wk_gTape k _ ht, ?_, fun v => wk_cm hk _ ?_⟩⟩
  · simp [if_pos hk]
  · rw [wk_gTape k _ ht, if_pos hk]
    simp [upd]
theorem wk_fTape_3 (Mr : fw_M) {k : Nat} (hk : k < 199) (ht : wk_t k = 7) : fw_F (wk_c b0 cI cZ cH cR Mr) 212 k 7 3 := by
  refine ⟨by omega, fun M => ⟨_, wk_gTape k _ ht, ?_, fun v => wk_cm hk _ ?_⟩⟩
  · simp [if_pos hk]
  · rw [wk_gTape k _ ht, if_pos hk]
    simp [upd]
theorem wk_gLaw (k : Nat) (m : Nat → Int32) (ht : wk_t k = 4) : wk_G b0 cI cZ cH cR k m = .inr (4, [.ref (b0 + (k + 1))]) := by
  unfold wk_G
  rw [ht]
  simp
theorem wk_oLaw (Mr : fw_M) {k : Nat} (hk : k < 199) (ht : wk_t k = 4) : fw_O (wk_c b0 cI cZ cH cR Mr) 212 k 4 := ⟨by omega, fun M => ⟨_, wk_gLaw k _ ht⟩⟩
theorem wk_rLaw_0 (Mr : fw_M) {k : Nat} (hk : k < 199) (ht : wk_t k = 4) : fw_R (wk_c b0 cI cZ cH cR Mr) (fk_ad b0) 212 k 4 0 (k + 1) := ⟨by omega, fun M => ⟨_, wk_gLaw k _ ht, rfl⟩⟩
theorem wk_gLine (k : Nat) (m : Nat → Int32) (ht : wk_t k = 5) : wk_G b0 cI cZ cH cR k m = .inr (5, [.ref (b0 + (k + 1)), .ref (b0 + (k + 2)), .int (m 2), .int (m 3)]) := by
  unfold wk_G
  rw [ht]
  simp
theorem wk_oLine (Mr : fw_M) {k : Nat} (hk : k < 199) (ht : wk_t k = 5) : fw_O (wk_c b0 cI cZ cH cR Mr) 212 k 5 := ⟨by omega, fun M => ⟨_, wk_gLine k _ ht⟩⟩
theorem wk_rLine_0 (Mr : fw_M) {k : Nat} (hk : k < 199) (ht : wk_t k = 5) : fw_R (wk_c b0 cI cZ cH cR Mr) (fk_ad b0) 212 k 5 0 (k + 1) := ⟨by omega, fun M => ⟨_, wk_gLine k _ ht, rfl⟩⟩
theorem wk_rLine_1 (Mr : fw_M) {k : Nat} (hk : k < 199) (ht : wk_t k = 5) : fw_R (wk_c b0 cI cZ cH cR Mr) (fk_ad b0) 212 k 5 1 (k + 2) := ⟨by omega, fun M => ⟨_, wk_gLine k _ ht, rfl⟩⟩
theorem wk_fLine_2 (Mr : fw_M) {k : Nat} (hk : k < 199) (ht : wk_t k = 5) : fw_F (wk_c b0 cI cZ cH cR Mr) 212 k 5 2 := by
  refine ⟨by omega, fun M => ⟨_, wk_gLine k _ ht, ?_, fun v => wk_cm hk _ ?_⟩⟩
  · simp [if_pos hk]
  · rw [wk_gLine k _ ht, if_pos hk]
    simp [upd]
theorem wk_fLine_3 (Mr : fw_M) {k : Nat} (hk : k < 199) (ht : wk_t k = 5) : fw_F (wk_c b0 cI cZ cH cR Mr) 212 k 5 3 := by
  refine ⟨by omega, fun M => ⟨_, wk_gLine k _ ht, ?_, fun v => wk_cm hk _ ?_⟩⟩
  · simp [if_pos hk]
  · rw [wk_gLine k _ ht, if_pos hk]
    simp [upd]
theorem wk_gAsking (k : Nat) (m : Nat → Int32) (ht : wk_t k = 1) : wk_G b0 cI cZ cH cR k m = .inr (1, [.ref (b0 + (k + 1)), .int (m 1)]) := by
  unfold wk_G
  rw [ht]
  simp
theorem wk_oAsking (Mr : fw_M) {k : Nat} (hk : k < 199) (ht : wk_t k = 1) : fw_O (wk_c b0 cI cZ cH cR Mr) 212 k 1 := ⟨by omega, fun M => ⟨_, wk_gAsking k _ ht⟩⟩
theorem wk_rAsking_0 (Mr : fw_M) {k : Nat} (hk : k < 199) (ht : wk_t k = 1) : fw_R (wk_c b0 cI cZ cH cR Mr) (fk_ad b0) 212 k 1 0 (k + 1) := ⟨by omega, fun M => ⟨_, wk_gAsking k _ ht, rfl⟩⟩
theorem wk_fAsking_1 (Mr : fw_M) {k : Nat} (hk : k < 199) (ht : wk_t k = 1) : fw_F (wk_c b0 cI cZ cH cR Mr) 212 k 1 1 := by
  refine ⟨by omega, fun M => ⟨_, wk_gAsking k _ ht, ?_, fun v => wk_cm hk _ ?_⟩⟩
  · simp [if_pos hk]
  · rw [wk_gAsking k _ ht, if_pos hk]
    simp [upd]
theorem wk_gActs (k : Nat) (m : Nat → Int32) (ht : wk_t k = 0) : wk_G b0 cI cZ cH cR k m = .inr (0, [.ref (b0 + (k + 1)), .int (m 1), .int (m 2)]) := by
  unfold wk_G
  rw [ht]
  simp
theorem wk_oActs (Mr : fw_M) {k : Nat} (hk : k < 199) (ht : wk_t k = 0) : fw_O (wk_c b0 cI cZ cH cR Mr) 212 k 0 := ⟨by omega, fun M => ⟨_, wk_gActs k _ ht⟩⟩
theorem wk_rActs_0 (Mr : fw_M) {k : Nat} (hk : k < 199) (ht : wk_t k = 0) : fw_R (wk_c b0 cI cZ cH cR Mr) (fk_ad b0) 212 k 0 0 (k + 1) := ⟨by omega, fun M => ⟨_, wk_gActs k _ ht, rfl⟩⟩
theorem wk_fActs_1 (Mr : fw_M) {k : Nat} (hk : k < 199) (ht : wk_t k = 0) : fw_F (wk_c b0 cI cZ cH cR Mr) 212 k 0 1 := by
  refine ⟨by omega, fun M => ⟨_, wk_gActs k _ ht, ?_, fun v => wk_cm hk _ ?_⟩⟩
  · simp [if_pos hk]
  · rw [wk_gActs k _ ht, if_pos hk]
    simp [upd]
theorem wk_fActs_2 (Mr : fw_M) {k : Nat} (hk : k < 199) (ht : wk_t k = 0) : fw_F (wk_c b0 cI cZ cH cR Mr) 212 k 0 2 := by
  refine ⟨by omega, fun M => ⟨_, wk_gActs k _ ht, ?_, fun v => wk_cm hk _ ?_⟩⟩
  · simp [if_pos hk]
  · rw [wk_gActs k _ ht, if_pos hk]
    simp [upd]
theorem wk_gFore (k : Nat) (m : Nat → Int32) (ht : wk_t k = 2) : wk_G b0 cI cZ cH cR k m = .inr (2, [.ref (b0 + (k + 1)), .ref (b0 + (k + 7)), .ref (b0 + (k + 9))]) := by
  unfold wk_G
  rw [ht]
  simp
theorem wk_oFore (Mr : fw_M) {k : Nat} (hk : k < 199) (ht : wk_t k = 2) : fw_O (wk_c b0 cI cZ cH cR Mr) 212 k 2 := ⟨by omega, fun M => ⟨_, wk_gFore k _ ht⟩⟩
theorem wk_rFore_0 (Mr : fw_M) {k : Nat} (hk : k < 199) (ht : wk_t k = 2) : fw_R (wk_c b0 cI cZ cH cR Mr) (fk_ad b0) 212 k 2 0 (k + 1) := ⟨by omega, fun M => ⟨_, wk_gFore k _ ht, rfl⟩⟩
theorem wk_rFore_1 (Mr : fw_M) {k : Nat} (hk : k < 199) (ht : wk_t k = 2) : fw_R (wk_c b0 cI cZ cH cR Mr) (fk_ad b0) 212 k 2 1 (k + 7) := ⟨by omega, fun M => ⟨_, wk_gFore k _ ht, rfl⟩⟩
theorem wk_rFore_2 (Mr : fw_M) {k : Nat} (hk : k < 199) (ht : wk_t k = 2) : fw_R (wk_c b0 cI cZ cH cR Mr) (fk_ad b0) 212 k 2 2 (k + 9) := ⟨by omega, fun M => ⟨_, wk_gFore k _ ht, rfl⟩⟩
theorem wk_gDoor (k : Nat) (m : Nat → Int32) (ht : wk_t k = 8) : wk_G b0 cI cZ cH cR k m = .inr (8, [.ref (b0 + (k + 1)), .ref (b0 + (k + 2)), .ref (b0 + (k + 4)), .ref (b0 + (k + 10)), .ref (b0 + (k + 156)), .ref (b0 + (k + 157)), .ref (b0 + (k + 169)), .int (m 7), .int (m 8)]) := by
  unfold wk_G
  rw [ht]
  simp
theorem wk_oDoor (Mr : fw_M) {k : Nat} (hk : k < 199) (ht : wk_t k = 8) : fw_O (wk_c b0 cI cZ cH cR Mr) 212 k 8 := ⟨by omega, fun M => ⟨_, wk_gDoor k _ ht⟩⟩
theorem wk_rDoor_0 (Mr : fw_M) {k : Nat} (hk : k < 199) (ht : wk_t k = 8) : fw_R (wk_c b0 cI cZ cH cR Mr) (fk_ad b0) 212 k 8 0 (k + 1) := ⟨by omega, fun M => ⟨_, wk_gDoor k _ ht, rfl⟩⟩
theorem wk_rDoor_1 (Mr : fw_M) {k : Nat} (hk : k < 199) (ht : wk_t k = 8) : fw_R (wk_c b0 cI cZ cH cR Mr) (fk_ad b0) 212 k 8 1 (k + 2) := ⟨by omega, fun M => ⟨_, wk_gDoor k _ ht, rfl⟩⟩
theorem wk_rDoor_2 (Mr : fw_M) {k : Nat} (hk : k < 199) (ht : wk_t k = 8) : fw_R (wk_c b0 cI cZ cH cR Mr) (fk_ad b0) 212 k 8 2 (k + 4) := ⟨by omega, fun M => ⟨_, wk_gDoor k _ ht, rfl⟩⟩
theorem wk_rDoor_3 (Mr : fw_M) {k : Nat} (hk : k < 199) (ht : wk_t k = 8) : fw_R (wk_c b0 cI cZ cH cR Mr) (fk_ad b0) 212 k 8 3 (k + 10) := ⟨by omega, fun M => ⟨_, wk_gDoor k _ ht, rfl⟩⟩
theorem wk_rDoor_4 (Mr : fw_M) {k : Nat} (hk : k < 199) (ht : wk_t k = 8) : fw_R (wk_c b0 cI cZ cH cR Mr) (fk_ad b0) 212 k 8 4 (k + 156) := ⟨by omega, fun M => ⟨_, wk_gDoor k _ ht, rfl⟩⟩
theorem wk_rDoor_5 (Mr : fw_M) {k : Nat} (hk : k < 199) (ht : wk_t k = 8) : fw_R (wk_c b0 cI cZ cH cR Mr) (fk_ad b0) 212 k 8 5 (k + 157) := ⟨by omega, fun M => ⟨_, wk_gDoor k _ ht, rfl⟩⟩
theorem wk_rDoor_6 (Mr : fw_M) {k : Nat} (hk : k < 199) (ht : wk_t k = 8) : fw_R (wk_c b0 cI cZ cH cR Mr) (fk_ad b0) 212 k 8 6 (k + 169) := ⟨by omega, fun M => ⟨_, wk_gDoor k _ ht, rfl⟩⟩
theorem wk_fDoor_7 (Mr : fw_M) {k : Nat} (hk : k < 199) (ht : wk_t k = 8) : fw_F (wk_c b0 cI cZ cH cR Mr) 212 k 8 7 := by
  refine ⟨by omega, fun M => ⟨_, wk_gDoor k _ ht, ?_, fun v => wk_cm hk _ ?_⟩⟩
  · simp [if_pos hk]
  · rw [wk_gDoor k _ ht, if_pos hk]
    simp [upd]
theorem wk_fDoor_8 (Mr : fw_M) {k : Nat} (hk : k < 199) (ht : wk_t k = 8) : fw_F (wk_c b0 cI cZ cH cR Mr) 212 k 8 8 := by
  refine ⟨by omega, fun M => ⟨_, wk_gDoor k _ ht, ?_, fun v => wk_cm hk _ ?_⟩⟩
  · simp [if_pos hk]
  · rw [wk_gDoor k _ ht, if_pos hk]
    simp [upd]
theorem wk_gMod (k : Nat) (m : Nat → Int32) (ht : wk_t k = 9) : wk_G b0 cI cZ cH cR k m = .inr (9, [.int (m 0), .int (m 1), .ref (b0 + (k + 1)), .ref (b0 + (k + 2)), .ref (b0 + (k + 3)), .ref (b0 + (k + 4)), .ref (b0 + (k + 5)), .ref (b0 + (k + 6)), .ref (b0 + (k + 7)), .int (m 9), .ref (b0 + (k + 8)), .int (m 11), .int (m 12), .int (m 13), .int (m 14), .int (m 15), .int (m 16), .int (m 17), .int (m 18), .ref (b0 + (k + 9)), .ref (b0 + (k + 10)), .ref (b0 + (k + 11)), .ref (b0 + (k + 12)), .int (m 23)]) := by
  unfold wk_G
  rw [ht]
  simp
theorem wk_oMod (Mc : fw_M) {k : Nat} (hk : ¬ k < 199) (hk2 : k < 212) (ht : wk_t k = 9) : fw_O (wk_r b0 cI cZ cH cR Mc) 212 k 9 := ⟨hk2, fun M => ⟨_, wk_gMod k _ ht⟩⟩
theorem wk_fMod_0 (Mc : fw_M) {k : Nat} (hk : ¬ k < 199) (hk2 : k < 212) (ht : wk_t k = 9) : fw_F (wk_r b0 cI cZ cH cR Mc) 212 k 9 0 := by
  refine ⟨hk2, fun M => ⟨_, wk_gMod k _ ht, ?_, fun v => wk_rm hk _ ?_⟩⟩
  · simp [if_neg hk]
  · rw [wk_gMod k _ ht, if_neg hk]
    simp [upd]
theorem wk_fMod_1 (Mc : fw_M) {k : Nat} (hk : ¬ k < 199) (hk2 : k < 212) (ht : wk_t k = 9) : fw_F (wk_r b0 cI cZ cH cR Mc) 212 k 9 1 := by
  refine ⟨hk2, fun M => ⟨_, wk_gMod k _ ht, ?_, fun v => wk_rm hk _ ?_⟩⟩
  · simp [if_neg hk]
  · rw [wk_gMod k _ ht, if_neg hk]
    simp [upd]
theorem wk_rMod_2 (Mc : fw_M) {k : Nat} (hk : ¬ k < 199) (hk2 : k < 212) (ht : wk_t k = 9) : fw_R (wk_r b0 cI cZ cH cR Mc) (fk_ad b0) 212 k 9 2 (k + 1) := ⟨hk2, fun M => ⟨_, wk_gMod k _ ht, rfl⟩⟩
theorem wk_rMod_3 (Mc : fw_M) {k : Nat} (hk : ¬ k < 199) (hk2 : k < 212) (ht : wk_t k = 9) : fw_R (wk_r b0 cI cZ cH cR Mc) (fk_ad b0) 212 k 9 3 (k + 2) := ⟨hk2, fun M => ⟨_, wk_gMod k _ ht, rfl⟩⟩
theorem wk_rMod_4 (Mc : fw_M) {k : Nat} (hk : ¬ k < 199) (hk2 : k < 212) (ht : wk_t k = 9) : fw_R (wk_r b0 cI cZ cH cR Mc) (fk_ad b0) 212 k 9 4 (k + 3) := ⟨hk2, fun M => ⟨_, wk_gMod k _ ht, rfl⟩⟩
theorem wk_rMod_5 (Mc : fw_M) {k : Nat} (hk : ¬ k < 199) (hk2 : k < 212) (ht : wk_t k = 9) : fw_R (wk_r b0 cI cZ cH cR Mc) (fk_ad b0) 212 k 9 5 (k + 4) := ⟨hk2, fun M => ⟨_, wk_gMod k _ ht, rfl⟩⟩
theorem wk_rMod_6 (Mc : fw_M) {k : Nat} (hk : ¬ k < 199) (hk2 : k < 212) (ht : wk_t k = 9) : fw_R (wk_r b0 cI cZ cH cR Mc) (fk_ad b0) 212 k 9 6 (k + 5) := ⟨hk2, fun M => ⟨_, wk_gMod k _ ht, rfl⟩⟩
theorem wk_rMod_7 (Mc : fw_M) {k : Nat} (hk : ¬ k < 199) (hk2 : k < 212) (ht : wk_t k = 9) : fw_R (wk_r b0 cI cZ cH cR Mc) (fk_ad b0) 212 k 9 7 (k + 6) := ⟨hk2, fun M => ⟨_, wk_gMod k _ ht, rfl⟩⟩
theorem wk_rMod_8 (Mc : fw_M) {k : Nat} (hk : ¬ k < 199) (hk2 : k < 212) (ht : wk_t k = 9) : fw_R (wk_r b0 cI cZ cH cR Mc) (fk_ad b0) 212 k 9 8 (k + 7) := ⟨hk2, fun M => ⟨_, wk_gMod k _ ht, rfl⟩⟩
theorem wk_fMod_9 (Mc : fw_M) {k : Nat} (hk : ¬ k < 199) (hk2 : k < 212) (ht : wk_t k = 9) : fw_F (wk_r b0 cI cZ cH cR Mc) 212 k 9 9 := by
  refine ⟨hk2, fun M => ⟨_, wk_gMod k _ ht, ?_, fun v => wk_rm hk _ ?_⟩⟩
  · simp [if_neg hk]
  · rw [wk_gMod k _ ht, if_neg hk]
    simp [upd]
theorem wk_rMod_10 (Mc : fw_M) {k : Nat} (hk : ¬ k < 199) (hk2 : k < 212) (ht : wk_t k = 9) : fw_R (wk_r b0 cI cZ cH cR Mc) (fk_ad b0) 212 k 9 10 (k + 8) := ⟨hk2, fun M => ⟨_, wk_gMod k _ ht, rfl⟩⟩
theorem wk_fMod_11 (Mc : fw_M) {k : Nat} (hk : ¬ k < 199) (hk2 : k < 212) (ht : wk_t k = 9) : fw_F (wk_r b0 cI cZ cH cR Mc) 212 k 9 11 := by
  refine ⟨hk2, fun M => ⟨_, wk_gMod k _ ht, ?_, fun v => wk_rm hk _ ?_⟩⟩
  · simp [if_neg hk]
  · rw [wk_gMod k _ ht, if_neg hk]
    simp [upd]
theorem wk_fMod_12 (Mc : fw_M) {k : Nat} (hk : ¬ k < 199) (hk2 : k < 212) (ht : wk_t k = 9) : fw_F (wk_r b0 cI cZ cH cR Mc) 212 k 9 12 := by
  refine ⟨hk2, fun M => ⟨_, wk_gMod k _ ht, ?_, fun v => wk_rm hk _ ?_⟩⟩
  · simp [if_neg hk]
  · rw [wk_gMod k _ ht, if_neg hk]
    simp [upd]
theorem wk_fMod_13 (Mc : fw_M) {k : Nat} (hk : ¬ k < 199) (hk2 : k < 212) (ht : wk_t k = 9) : fw_F (wk_r b0 cI cZ cH cR Mc) 212 k 9 13 := by
  refine ⟨hk2, fun M => ⟨_, wk_gMod k _ ht, ?_, fun v => wk_rm hk _ ?_⟩⟩
  · simp [if_neg hk]
  · rw [wk_gMod k _ ht, if_neg hk]
    simp [upd]
theorem wk_fMod_14 (Mc : fw_M) {k : Nat} (hk : ¬ k < 199) (hk2 : k < 212) (ht : wk_t k = 9) : fw_F (wk_r b0 cI cZ cH cR Mc) 212 k 9 14 := by
  refine ⟨hk2, fun M => ⟨_, wk_gMod k _ ht, ?_, fun v => wk_rm hk _ ?_⟩⟩
  · simp [if_neg hk]
  · rw [wk_gMod k _ ht, if_neg hk]
    simp [upd]
theorem wk_fMod_15 (Mc : fw_M) {k : Nat} (hk : ¬ k < 199) (hk2 : k < 212) (ht : wk_t k = 9) : fw_F (wk_r b0 cI cZ cH cR Mc) 212 k 9 15 := by
  refine ⟨hk2, fun M => ⟨_, wk_gMod k _ ht, ?_, fun v => wk_rm hk _ ?_⟩⟩
  · simp [if_neg hk]
  · rw [wk_gMod k _ ht, if_neg hk]
    simp [upd]
theorem wk_fMod_16 (Mc : fw_M) {k : Nat} (hk : ¬ k < 199) (hk2 : k < 212) (ht : wk_t k = 9) : fw_F (wk_r b0 cI cZ cH cR Mc) 212 k 9 16 := by
  refine ⟨hk2, fun M => ⟨_, wk_gMod k _ ht, ?_, fun v => wk_rm hk _ ?_⟩⟩
  · simp [if_neg hk]
  · rw [wk_gMod k _ ht, if_neg hk]
    simp [upd]
theorem wk_fMod_17 (Mc : fw_M) {k : Nat} (hk : ¬ k < 199) (hk2 : k < 212) (ht : wk_t k = 9) : fw_F (wk_r b0 cI cZ cH cR Mc) 212 k 9 17 := by
  refine ⟨hk2, fun M => ⟨_, wk_gMod k _ ht, ?_, fun v => wk_rm hk _ ?_⟩⟩
  · simp [if_neg hk]
  · rw [wk_gMod k _ ht, if_neg hk]
    simp [upd]
theorem wk_fMod_18 (Mc : fw_M) {k : Nat} (hk : ¬ k < 199) (hk2 : k < 212) (ht : wk_t k = 9) : fw_F (wk_r b0 cI cZ cH cR Mc) 212 k 9 18 := by
  refine ⟨hk2, fun M => ⟨_, wk_gMod k _ ht, ?_, fun v => wk_rm hk _ ?_⟩⟩
  · simp [if_neg hk]
  · rw [wk_gMod k _ ht, if_neg hk]
    simp [upd]
theorem wk_rMod_19 (Mc : fw_M) {k : Nat} (hk : ¬ k < 199) (hk2 : k < 212) (ht : wk_t k = 9) : fw_R (wk_r b0 cI cZ cH cR Mc) (fk_ad b0) 212 k 9 19 (k + 9) := ⟨hk2, fun M => ⟨_, wk_gMod k _ ht, rfl⟩⟩
theorem wk_rMod_20 (Mc : fw_M) {k : Nat} (hk : ¬ k < 199) (hk2 : k < 212) (ht : wk_t k = 9) : fw_R (wk_r b0 cI cZ cH cR Mc) (fk_ad b0) 212 k 9 20 (k + 10) := ⟨hk2, fun M => ⟨_, wk_gMod k _ ht, rfl⟩⟩
theorem wk_rMod_21 (Mc : fw_M) {k : Nat} (hk : ¬ k < 199) (hk2 : k < 212) (ht : wk_t k = 9) : fw_R (wk_r b0 cI cZ cH cR Mc) (fk_ad b0) 212 k 9 21 (k + 11) := ⟨hk2, fun M => ⟨_, wk_gMod k _ ht, rfl⟩⟩
theorem wk_rMod_22 (Mc : fw_M) {k : Nat} (hk : ¬ k < 199) (hk2 : k < 212) (ht : wk_t k = 9) : fw_R (wk_r b0 cI cZ cH cR Mc) (fk_ad b0) 212 k 9 22 (k + 12) := ⟨hk2, fun M => ⟨_, wk_gMod k _ ht, rfl⟩⟩
theorem wk_fMod_23 (Mc : fw_M) {k : Nat} (hk : ¬ k < 199) (hk2 : k < 212) (ht : wk_t k = 9) : fw_F (wk_r b0 cI cZ cH cR Mc) 212 k 9 23 := by
  refine ⟨hk2, fun M => ⟨_, wk_gMod k _ ht, ?_, fun v => wk_rm hk _ ?_⟩⟩
  · simp [if_neg hk]
  · rw [wk_gMod k _ ht, if_neg hk]
    simp [upd]
theorem wk_q21 (Mr : fw_M) : fw_Q (wk_c b0 cI cZ cH cR Mr) (fk_ad b0) 212 cR (0 + 1) 8 (fun i => 0 + 171 + 2 * i) := ⟨by omega, fun M => by
  show wk_G b0 cI cZ cH cR 1 _ = _
  unfold wk_G
  rw [show wk_t 1 = 21 by decide]
  simp⟩
theorem wk_q22 (Mr : fw_M) : fw_Q (wk_c b0 cI cZ cH cR Mr) (fk_ad b0) 212 cH (0 + 10 + 1) 24 (fun i => 0 + 10 + 2 + 6 * i) := ⟨by omega, fun M => by
  show wk_G b0 cI cZ cH cR 11 _ = _
  unfold wk_G
  rw [show wk_t 11 = 22 by decide]
  simp⟩
theorem wk_q23 (Mr : fw_M) : fw_Q (wk_c b0 cI cZ cH cR Mr) (fk_ad b0) 212 cH (0 + 156) 2 (fun i => 0 + 187 + 6 * i) := ⟨by omega, fun M => by
  show wk_G b0 cI cZ cH cR 156 _ = _
  unfold wk_G
  rw [show wk_t 156 = 23 by decide]
  simp⟩
theorem wk_Hall (Mr : fw_M) {k : Nat} (hk : k + 5 < 199) (h : wk_t k = 3 ∧ wk_t (k + 1) = 1007 ∧ wk_t (k + 2) = 1007 ∧ wk_t (k + 3) = 1007 ∧ wk_t (k + 4) = 1007 ∧ wk_t (k + 5) = 1007) : o_Hall (wk_c b0 cI cZ cH cR Mr) (fk_ad b0) 212 cI cZ cH cR k := by
  obtain ⟨h0, h1, h2, h3, h4, h5⟩ := h
  have hk0 : k < 199 := by omega
  exact ⟨wk_oHall Mr hk0 h0, wk_fHall_0 Mr hk0 h0, wk_fHall_1 Mr hk0 h0, wk_fHall_2 Mr hk0 h0, wk_fHall_3 Mr hk0 h0, ⟨wk_rHall_4 Mr hk0 h0, wk_cI Mr (by omega) h1⟩, ⟨wk_rHall_5 Mr hk0 h0, wk_cI Mr (by omega) h2⟩, ⟨wk_rHall_6 Mr hk0 h0, wk_cI Mr (by omega) h3⟩, ⟨wk_rHall_7 Mr hk0 h0, wk_cI Mr (by omega) h4⟩, ⟨wk_rHall_8 Mr hk0 h0, wk_cI Mr (by omega) h5⟩⟩
theorem wk_Row (Mr : fw_M) {k : Nat} (hk : k + 1 < 199) (h : wk_t k = 6 ∧ wk_t (k + 1) = 1040) : o_Row (wk_c b0 cI cZ cH cR Mr) (fk_ad b0) 212 cI cZ cH cR k := by
  have hk0 : k < 199 := by omega
  exact ⟨wk_oRow Mr hk0 h.1, ⟨wk_rRow_0 Mr hk0 h.1, wk_cI Mr hk h.2⟩, wk_fRow_1 Mr hk0 h.1, wk_fRow_2 Mr hk0 h.1⟩
theorem wk_Tape (Mr : fw_M) {k : Nat} (hk : k + 1 < 199) (h : wk_t k = 7 ∧ wk_t (k + 1) = 1100) : o_Tape (wk_c b0 cI cZ cH cR Mr) (fk_ad b0) 212 cI cZ cH cR k := by
  have hk0 : k < 199 := by omega
  exact ⟨wk_oTape Mr hk0 h.1, ⟨wk_rTape_0 Mr hk0 h.1, wk_cI Mr hk h.2⟩, wk_fTape_1 Mr hk0 h.1, wk_fTape_2 Mr hk0 h.1, wk_fTape_3 Mr hk0 h.1⟩
theorem wk_Law (Mr : fw_M) {k : Nat} (hk : k + 1 < 199) (h : wk_t k = 4 ∧ wk_t (k + 1) = 1007) : o_Law (wk_c b0 cI cZ cH cR Mr) (fk_ad b0) 212 cI cZ cH cR k := by
  have hk0 : k < 199 := by omega
  exact ⟨wk_oLaw Mr hk0 h.1, ⟨wk_rLaw_0 Mr hk0 h.1, wk_cI Mr hk h.2⟩⟩
theorem wk_Line (Mr : fw_M) {k : Nat} (hk : k + 2 < 199) (h : wk_t k = 5 ∧ wk_t (k + 1) = 1007 ∧ wk_t (k + 2) = 1007) : o_Line (wk_c b0 cI cZ cH cR Mr) (fk_ad b0) 212 cI cZ cH cR k := by
  have hk0 : k < 199 := by omega
  exact ⟨wk_oLine Mr hk0 h.1, ⟨wk_rLine_0 Mr hk0 h.1, wk_cI Mr (by omega) h.2.1⟩, ⟨wk_rLine_1 Mr hk0 h.1, wk_cI Mr (by omega) h.2.2⟩, wk_fLine_2 Mr hk0 h.1, wk_fLine_3 Mr hk0 h.1⟩
theorem wk_Asking (Mr : fw_M) {k : Nat} (hk : k + 1 < 199) (h : wk_t k = 1 ∧ wk_t (k + 1) = 1016) : o_Asking (wk_c b0 cI cZ cH cR Mr) (fk_ad b0) 212 cI cZ cH cR k := by
  have hk0 : k < 199 := by omega
  exact ⟨wk_oAsking Mr hk0 h.1, ⟨wk_rAsking_0 Mr hk0 h.1, wk_cI Mr hk h.2⟩, wk_fAsking_1 Mr hk0 h.1⟩
theorem wk_halls : ∀ i, i < 24 → wk_t (0 + 10 + 2 + 6 * i) = 3 ∧ wk_t (0 + 10 + 2 + 6 * i + 1) = 1007 ∧ wk_t (0 + 10 + 2 + 6 * i + 2) = 1007 ∧ wk_t (0 + 10 + 2 + 6 * i + 3) = 1007 ∧ wk_t (0 + 10 + 2 + 6 * i + 4) = 1007 ∧ wk_t (0 + 10 + 2 + 6 * i + 5) = 1007 := by decide
theorem wk_imgs : ∀ i, i < 2 → wk_t (0 + 187 + 6 * i) = 3 ∧ wk_t (0 + 187 + 6 * i + 1) = 1007 ∧ wk_t (0 + 187 + 6 * i + 2) = 1007 ∧ wk_t (0 + 187 + 6 * i + 3) = 1007 ∧ wk_t (0 + 187 + 6 * i + 4) = 1007 ∧ wk_t (0 + 187 + 6 * i + 5) = 1007 := by decide
theorem wk_rows : ∀ i, i < 8 → wk_t (0 + 171 + 2 * i) = 6 ∧ wk_t (0 + 171 + 2 * i + 1) = 1040 := by decide
theorem wk_Acts (Mr : fw_M) : o_Acts (wk_c b0 cI cZ cH cR Mr) (fk_ad b0) 212 cI cZ cH cR (0 + 10) := by
  have h : wk_t (0 + 10) = 0 := by decide
  exact ⟨wk_oActs Mr (by omega) h, ⟨wk_rActs_0 Mr (by omega) h, wk_q22 Mr, fun i hi => wk_Hall Mr (by omega) (wk_halls i hi)⟩, wk_fActs_1 Mr (by omega) h, wk_fActs_2 Mr (by omega) h⟩
theorem wk_Fore (Mr : fw_M) : o_Fore (wk_c b0 cI cZ cH cR Mr) (fk_ad b0) 212 cI cZ cH cR (0 + 157) := by
  have h : wk_t (0 + 157) = 2 := by decide
  exact ⟨wk_oFore Mr (by omega) h, ⟨wk_rFore_0 Mr (by omega) h, wk_Hall Mr (by omega) (by decide)⟩, ⟨wk_rFore_1 Mr (by omega) h, wk_Law Mr (by omega) (by decide)⟩, ⟨wk_rFore_2 Mr (by omega) h, wk_Line Mr (by omega) (by decide)⟩⟩
theorem wk_Door (Mr : fw_M) : o_Door (wk_c b0 cI cZ cH cR Mr) (fk_ad b0) 212 cI cZ cH cR 0 := by
  have h : wk_t 0 = 8 := by decide
  exact ⟨wk_oDoor Mr (by omega) h, ⟨wk_rDoor_0 Mr (by omega) h, wk_q21 Mr, fun i hi => wk_Row Mr (by omega) (wk_rows i hi)⟩, ⟨wk_rDoor_1 Mr (by omega) h, wk_Tape Mr (by omega) (by decide)⟩, ⟨wk_rDoor_2 Mr (by omega) h, wk_Hall Mr (by omega) (by decide)⟩, ⟨wk_rDoor_3 Mr (by omega) h, wk_Acts Mr⟩, ⟨wk_rDoor_4 Mr (by omega) h, wk_q23 Mr, fun i hi => wk_Hall Mr (by omega) (wk_imgs i hi)⟩, ⟨wk_rDoor_5 Mr (by omega) h, wk_Fore Mr⟩, ⟨wk_rDoor_6 Mr (by omega) h, wk_Asking Mr (by omega) (by decide)⟩, wk_fDoor_7 Mr (by omega) h, wk_fDoor_8 Mr (by omega) h⟩
theorem wk_Mod (Mc : fw_M) : o_Mod (wk_r b0 cI cZ cH cR Mc) (fk_ad b0) 212 cI cZ cH cR 199 := by
  have h : wk_t 199 = 9 := by decide
  exact ⟨wk_oMod Mc (by omega) (by omega) h, wk_fMod_0 Mc (by omega) (by omega) h, wk_fMod_1 Mc (by omega) (by omega) h, ⟨wk_rMod_2 Mc (by omega) (by omega) h, wk_rI Mc (by omega) (by omega) (by decide)⟩, ⟨wk_rMod_3 Mc (by omega) (by omega) h, wk_rI Mc (by omega) (by omega) (by decide)⟩, ⟨wk_rMod_4 Mc (by omega) (by omega) h, wk_rI Mc (by omega) (by omega) (by decide)⟩, ⟨wk_rMod_5 Mc (by omega) (by omega) h, wk_rI Mc (by omega) (by omega) (by decide)⟩, ⟨wk_rMod_6 Mc (by omega) (by omega) h, wk_rI Mc (by omega) (by omega) (by decide)⟩, ⟨wk_rMod_7 Mc (by omega) (by omega) h, wk_rI Mc (by omega) (by omega) (by decide)⟩, ⟨wk_rMod_8 Mc (by omega) (by omega) h, wk_rI Mc (by omega) (by omega) (by decide)⟩, wk_fMod_9 Mc (by omega) (by omega) h, ⟨wk_rMod_10 Mc (by omega) (by omega) h, wk_rI Mc (by omega) (by omega) (by decide)⟩, wk_fMod_11 Mc (by omega) (by omega) h, wk_fMod_12 Mc (by omega) (by omega) h, wk_fMod_13 Mc (by omega) (by omega) h, wk_fMod_14 Mc (by omega) (by omega) h, wk_fMod_15 Mc (by omega) (by omega) h, wk_fMod_16 Mc (by omega) (by omega) h, wk_fMod_17 Mc (by omega) (by omega) h, wk_fMod_18 Mc (by omega) (by omega) h, ⟨wk_rMod_19 Mc (by omega) (by omega) h, wk_rI Mc (by omega) (by omega) (by decide)⟩, ⟨wk_rMod_20 Mc (by omega) (by omega) h, wk_rZ Mc⟩, ⟨wk_rMod_21 Mc (by omega) (by omega) h, wk_rI Mc (by omega) (by omega) (by decide)⟩, ⟨wk_rMod_22 Mc (by omega) (by omega) h, wk_rI Mc (by omega) (by omega) (by decide)⟩, wk_fMod_23 Mc (by omega) (by omega) h⟩
/-- the memory at the start -/
def wk_M0 : fw_M := fun k j => if k = 200 then (if j < 8 then -1 else 0) else if 171 ≤ k ∧ k < 187 ∧ k % 2 = 1 ∧ j = 2 then -1 else 0
def wk_F (b0 : Nat) (cI cZ cH cR : ClassId) : Nat → va_E := wk_E b0 cI cZ cH cR wk_M0 wk_M0
theorem wk_F_G (k : Nat) : wk_F b0 cI cZ cH cR k = wk_G b0 cI cZ cH cR k (wk_M0 k) := by
  show wk_G b0 cI cZ cH cR k (if k < 199 then wk_M0 k else wk_M0 k) = _
  rw [ite_self]
theorem wk_M00 {k : Nat} (h : ¬ k = 200) (h2 : ¬ (171 ≤ k ∧ k < 187 ∧ k % 2 = 1)) (j : Nat) : wk_M0 k j = 0 := by
  unfold wk_M0
  rw [if_neg h, if_neg (fun z => h2 ⟨z.1, z.2.1, z.2.2.1⟩)]
theorem wk_FI {k n : Nat} (ht : wk_t k = 1000 + n) (h : ¬ k = 200) (h2 : ¬ (171 ≤ k ∧ k < 187 ∧ k % 2 = 1)) : wk_F b0 cI cZ cH cR k = .inl (cI, n, .inl (fun _ => 0)) := by
  have e : wk_M0 k = fun _ => 0 := funext (wk_M00 h h2)
  rw [wk_F_G, e]
  unfold wk_G
  rw [ht]
  repeat rw [if_neg (by omega)]
  rw [show 1000 + n - 1000 = n by omega]
theorem wk_pHall {k : Nat} (h : wk_t k = 3 ∧ wk_t (k + 1) = 1007 ∧ wk_t (k + 2) = 1007 ∧ wk_t (k + 3) = 1007 ∧ wk_t (k + 4) = 1007 ∧ wk_t (k + 5) = 1007) (h2 : k + 5 < 171 ∨ (187 ≤ k ∧ k + 5 < 199)) : pk_Hall (wk_F b0 cI cZ cH cR) b0 cI cZ cH cR k := by
  obtain ⟨a0, a1, a2, a3, a4, a5⟩ := h
  refine ⟨?_, wk_FI a1 (by omega) (by omega), wk_FI a2 (by omega) (by omega), wk_FI a3 (by omega) (by omega), wk_FI a4 (by omega) (by omega), wk_FI a5 (by omega) (by omega)⟩
  rw [wk_F_G, wk_gHall k _ a0]
  simp only [wk_M00 (show ¬ k = 200 by omega) (show ¬ (171 ≤ k ∧ k < 187 ∧ k % 2 = 1) by omega)]
theorem wk_pRow {i : Nat} (hi : i < 8) : pk_Row (wk_F b0 cI cZ cH cR) b0 cI cZ cH cR (0 + 171 + 2 * i) := by
  obtain ⟨a0, a1⟩ := wk_rows i hi
  refine ⟨?_, wk_FI a1 (by omega) (by omega)⟩
  rw [wk_F_G, wk_gRow _ _ a0]
  have e2 : wk_M0 (0 + 171 + 2 * i) 2 = -1 := by
    unfold wk_M0
    rw [if_neg (by omega), if_pos (by omega)]
  have e1 : wk_M0 (0 + 171 + 2 * i) 1 = 0 := by
    unfold wk_M0
    rw [if_neg (by omega), if_neg (by omega)]
  rw [e1, e2]
theorem wk_pActs : pk_Acts (wk_F b0 cI cZ cH cR) b0 cI cZ cH cR (0 + 10) := by
  refine ⟨?_, ?_, fun i hi => wk_pHall (wk_halls i hi) (by omega)⟩
  · rw [wk_F_G, wk_gActs _ _ (by decide)]
    rfl
  · rw [wk_F_G]
    unfold wk_G
    rw [show wk_t (0 + 10 + 1) = 22 by decide]
    simp
theorem wk_pFore : pk_Fore (wk_F b0 cI cZ cH cR) b0 cI cZ cH cR (0 + 157) := by
  refine ⟨?_, wk_pHall (by decide) (by omega), ⟨?_, wk_FI (by decide) (by omega) (by omega)⟩, ⟨?_, wk_FI (by decide) (by omega) (by omega), wk_FI (by decide) (by omega) (by omega)⟩⟩
  · rw [wk_F_G, wk_gFore _ _ (by decide)]
  · rw [wk_F_G, wk_gLaw _ _ (by decide)]
  · rw [wk_F_G, wk_gLine _ _ (by decide)]
    rfl
theorem wk_pDoor : pk_Door (wk_F b0 cI cZ cH cR) b0 cI cZ cH cR 0 := by
  refine ⟨?_, ?_, ⟨?_, wk_FI (by decide) (by omega) (by omega)⟩, wk_pHall (by decide) (by omega), wk_pActs, ?_, wk_pFore, ⟨?_, wk_FI (by decide) (by omega) (by omega)⟩, fun i hi => wk_pRow hi, fun i hi => wk_pHall (wk_imgs i hi) (by omega)⟩
  · rw [wk_F_G, wk_gDoor _ _ (by decide)]
    rfl
  · rw [wk_F_G]
    unfold wk_G
    rw [show wk_t (0 + 1) = 21 by decide]
    simp
  · rw [wk_F_G, wk_gTape _ _ (by decide)]
    rfl
  · rw [wk_F_G]
    unfold wk_G
    rw [show wk_t (0 + 156) = 23 by decide]
    simp
  · rw [wk_F_G, wk_gAsking _ _ (by decide)]
    rfl
theorem wk_pMod : pk_Mod (wk_F b0 cI cZ cH cR) b0 cI cZ cH cR 199 := by
  refine ⟨?_, ?_, wk_FI (by decide) (by omega) (by omega), wk_FI (by decide) (by omega) (by omega), wk_FI (by decide) (by omega) (by omega), wk_FI (by decide) (by omega) (by omega), wk_FI (by decide) (by omega) (by omega), wk_FI (by decide) (by omega) (by omega), wk_FI (by decide) (by omega) (by omega), wk_FI (by decide) (by omega) (by omega), ?_, wk_FI (by decide) (by omega) (by omega), wk_FI (by decide) (by omega) (by omega)⟩
  · rw [wk_F_G, wk_gMod _ _ (by decide)]
    rfl
  · rw [wk_F_G]
    unfold wk_G
    rw [show wk_t (199 + 1) = 1008 by decide]
    rfl
  · rw [wk_F_G, show wk_M0 (199 + 10) = (fun _ => 0) from funext (wk_M00 (by omega) (by omega))]
    unfold wk_G
    rw [show wk_t (199 + 10) = 30 by decide]
    simp
end WK
