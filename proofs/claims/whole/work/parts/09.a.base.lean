/-! PURE ROWS: numbers, memories, what the small methods answer -/
def b1 (p : Prop) [Decidable p] : Int32 := if p then 1 else 0
theorem b1_t {p : Prop} [Decidable p] (h : p) : b1 p = 1 := if_pos h
theorem b1_f {p : Prop} [Decidable p] (h : ¬ p) : b1 p = 0 := if_neg h
theorem b1_0 {p : Prop} [Decidable p] : b1 p = 0 ↔ ¬ p := by
  by_cases h : p
  · simp [b1, h]
  · simp [b1, h]
theorem b1_zr {p : Prop} [Decidable p] : fw_zr (b1 p) = some (b1 p) := by
  by_cases h : p
  · simp [b1, h, fw_zr]
  · simp [b1, h, fw_zr]
theorem zr_0 : fw_zr 0 = some 0 := rfl
theorem zr_1 : fw_zr 1 = some 1 := rfl
theorem b1_c {p q : Prop} [Decidable p] [Decidable q] (h : p ↔ q) : b1 p = b1 q := by
  by_cases a : p
  · rw [b1_t a, b1_t (h.mp a)]
  · rw [b1_f a, b1_f (fun z => a (h.mpr z))]
theorem pl_e {α β : Type} (x : α) (k : α → β) : fw_pl x k = k x := rfl
theorem bs_e {α β : Type} (x : α) (k : α → Option β) : (some x).bind k = k x := rfl
theorem st_e (M : fw_M) (a i : Nat) (v : Int32) : fw_set M a i v a = upd (M a) i v := by simp [fw_set, fw_put]
theorem st_n {M : fw_M} {a i b : Nat} {v : Int32} (h : b ≠ a) : fw_set M a i v b = M b := by simp [fw_set, fw_put, h]
theorem pt_e (M : fw_M) (a : Nat) (f : Nat → Int32) : fw_put M a f a = f := by simp [fw_put]
theorem pt_n {M : fw_M} {a b : Nat} {f : Nat → Int32} (h : b ≠ a) : fw_put M a f b = M b := by simp [fw_put, h]
theorem up_e (f : Nat → Int32) (i : Nat) (v : Int32) : upd f i v i = v := if_pos rfl
theorem up_n {f : Nat → Int32} {i j : Nat} {v : Int32} (h : j ≠ i) : upd f i v j = f j := if_neg h
theorem tI {n : Nat} (h : n < 1000000) : (nI n).toInt = (n : Int) := nI_toInt (by omega)
theorem tC {n : Nat} (h : n < 1000000) : (nI n).toNatClampNeg = n := nI_clamp (by omega)
theorem eq_nI {x : Int32} {n : Nat} (h : x.toInt = (n : Int)) : x = nI n := by
  have h2 := x.toInt_lt
  rw [← Int32.toInt_inj, nI_toInt (by omega), h]
theorem nI_inj {a b : Nat} (ha : a < 1000000) (hb : b < 1000000) : nI a = nI b ↔ a = b := nI_eq (by omega) (by omega)
/-- an Int32 is one of 0 .. n - 1, or is not -/
theorem ix_c (x : Int32) (n : Nat) : (∃ i : Nat, i < n ∧ x = nI i) ∨ ¬ (0 ≤ x.toInt ∧ x.toInt < (n : Int)) := by
  by_cases h : 0 ≤ x.toInt ∧ x.toInt < (n : Int)
  · exact Or.inl ⟨x.toInt.toNat, by omega, eq_nI (by omega)⟩
  · exact Or.inr h
theorem ald_n {M : fw_M} {a n j : Nat} (h : j < n) (hn : n ≤ 1000) : fw_ald M a n (nI j) = some (M a j) := by
  unfold fw_ald
  rw [tI (by omega), tC (by omega), if_pos (by omega)]
theorem ast_n {M : fw_M} {a n j : Nat} {v : Int32} (h : j < n) (hn : n ≤ 1000) : fw_ast M a n (nI j) v = some (fw_set M a j v) := by
  unfold fw_ast
  rw [tI (by omega), tC (by omega), if_pos (by omega)]
theorem aix_n {n j : Nat} (h : j < n) (hn : n ≤ 1000) : fw_aix n (nI j) = some j := by
  unfold fw_aix
  rw [tI (by omega), tC (by omega), if_pos (by omega)]
theorem ald_x {M : fw_M} {a n j : Nat} {x : Int32} (hx : x = nI j) (h : j < n) (hn : n ≤ 1000) : fw_ald M a n x = some (M a j) := by
  rw [hx]; exact ald_n h hn
theorem ast_x {M : fw_M} {a n j : Nat} {x v : Int32} (hx : x = nI j) (h : j < n) (hn : n ≤ 1000) : fw_ast M a n x v = some (fw_set M a j v) := by
  rw [hx]; exact ast_n h hn
theorem nI_s (a : Nat) : nI a + (1 : Int32) = nI (a + 1) := nI_1 a
theorem nI_a (a b : Nat) : nI a + nI b = nI (a + b) := nI_add a b
theorem nI_p {P : Nat} (h : P < 1000000) : (nI P - 1).toInt = (P : Int) - 1 := by
  have h2 := pk_sub_toInt (a := P) (b := 1) (by omega) (by decide)
  rw [show (1 : Int32) = nI 1 from rfl]
  omega
/-! the small methods -/
theorem p_within (M : fw_M) (x a b : Int32) : P_Door_within M x a b = some (b1 (a.toInt ≤ x.toInt ∧ x.toInt ≤ b.toInt)) := by
  unfold P_Door_within P_Door_within_b0 P_Door_within_b14 P_Door_within_b15
  simp only [Int32.lt_iff_toInt_lt, zr_0, zr_1, bs_e]
  by_cases h1 : x.toInt < a.toInt
  · rw [if_pos h1, b1_f (by omega)]
  · rw [if_neg h1]
    by_cases h2 : b.toInt < x.toInt
    · rw [if_pos h2, b1_f (by omega)]
    · rw [if_neg h2, b1_t (by omega)]
theorem p_in (M : fw_M) (x a b : Int64) : P_Mod_in M x a b = some (b1 (a.toInt ≤ x.toInt ∧ x.toInt ≤ b.toInt)) := by
  unfold P_Mod_in P_Mod_in_b0 P_Mod_in_b17 P_Mod_in_b18
  simp only [lg_cmp_lt, lg_cmp_gt, Int64.lt_iff_toInt_lt, zr_0, zr_1, bs_e]
  by_cases h1 : x.toInt < a.toInt
  · rw [if_pos h1, b1_f (by omega)]
  · rw [if_neg h1]
    by_cases h2 : b.toInt < x.toInt
    · rw [if_pos h2, b1_f (by omega)]
    · rw [if_neg h2, b1_t (by omega)]
theorem p_in0 (M : fw_M) (x : Int32) {hi : Int64} {n : Int} (h : hi.toInt = n) : P_Mod_in M (Int32.toInt64 x) (0 : Int64) hi = some (b1 (0 ≤ x.toInt ∧ x.toInt ≤ n)) := by
  rw [p_in, Int32.toInt_toInt64, h]
  rfl
theorem p_w0 (M : fw_M) (x : Int32) {hi : Int32} {n : Int} (h : hi.toInt = n) : P_Door_within M x (0 : Int32) hi = some (b1 (0 ≤ x.toInt ∧ x.toInt ≤ n)) := by
  rw [p_within, h]
  rfl
theorem p_isRow (M : fw_M) (x : Int32) : P_Door_isRow M x = some (b1 (0 ≤ x.toInt ∧ x.toInt ≤ 7)) := by
  unfold P_Door_isRow P_Door_isRow_b0
  rw [p_w0 M x (hi := 7) (n := 7) rfl]
  simp only [bs_e, b1_zr]
theorem m_isRow (M : fw_M) (x : Int32) : P_Mod_isRow M x = some (b1 (0 ≤ x.toInt ∧ x.toInt ≤ 7)) := by
  unfold P_Mod_isRow P_Mod_isRow_b0
  rw [p_in0 M x (hi := 7) (n := 7) rfl]
  simp only [bs_e, b1_zr]
theorem p_orNone (M : fw_M) (x : Int32) : P_Door_orNone M x = some (if x.toInt < 0 then -1000000 else x) := by
  unfold P_Door_orNone P_Door_orNone_b0 P_Door_orNone_b11
  simp only [Int32.le_iff_toInt_le, show (0 : Int32).toInt = 0 from rfl]
  by_cases h : x.toInt < 0
  · rw [if_neg (by omega), if_pos h]
  · rw [if_pos (by omega), if_neg h]
theorem p_found (o : Nat) (M : fw_M) (x : Int32) : P_Door_found o M x = some (-1000010 - x, fw_set M o 8 x) := rfl
theorem p_fine (o : Nat) (M : fw_M) (x : Int32) : P_Door_fine o M x = some (x, fw_set M o 8 0) := rfl
theorem m_finding (o : Nat) (M : fw_M) (x : Int32) : P_Mod_finding o M x = some (-1000010 - x, fw_set M o 1 x) := rfl
theorem p_isMissing (o : Nat) (M : fw_M) : P_Row_isMissing o M = some (b1 (M o 2 = -1)) := by
  unfold P_Row_isMissing P_Row_isMissing_b0 P_Row_isMissing_b13
  by_cases h : M o 2 = -1
  · rw [if_pos h, b1_t h]; rfl
  · rw [if_neg h, b1_f h]; rfl
/-! the relation under writes that it does not see, or of one part -/
theorem rl_thrown {Mc Mr : fw_M} (h : rl Mc Mr) (v : Int32) : rl Mc (fw_set Mr 199 0 v) := by
  simpa [rl, rl_row, rl_tape, rl_hall, rl_acts, rl_img, rl_trace, fw_set, fw_put, upd] using h
theorem rl_status {Mc Mr : fw_M} (h : rl Mc Mr) (v : Int32) : rl (fw_set Mc 0 8 v) (fw_set Mr 199 1 v) := by
  obtain ⟨-, h2, h3, h4, h5, h6, h7, h8⟩ := h
  refine ⟨by simp [fw_set, fw_put, upd], by simpa [fw_set, fw_put, upd] using h2, ?_, ?_, ?_, ?_, ?_, ?_⟩
  · intro i hi
    have := h3 i hi
    simpa [rl_row, fw_set, fw_put, upd] using this
  · simpa [rl_tape, fw_set, fw_put, upd] using h4
  · simpa [rl_hall, rl_none, rl_eq, fw_set, fw_put, upd] using h5
  · simpa [rl_acts, rl_eq, fw_set, fw_put, upd] using h6
  · intro k hk
    have := h7 k hk
    simpa [rl_img, rl_eq, fw_set, fw_put, upd] using this
  · simpa [rl_trace, fw_set, fw_put, upd] using h8
theorem ow_fault {Mc Mr : fw_M} (hR : rl Mc Mr) : ∃ (r : Int32) (Mr2 : fw_M), P_Door_fault 0 Mc = some r ∧ P_Mod_fault 199 Mr = some (r, Mr2) ∧ rl Mc Mr2 := by
  refine ⟨Mc 0 7, fw_set Mr 199 0 0, rfl, ?_, rl_thrown hR 0⟩
  unfold P_Mod_fault P_Mod_fault_b0
  simp only [pl_e]
  rw [hR.2.1]
  simp [fw_set, fw_put, upd]
theorem ow_status {Mc Mr : fw_M} (hR : rl Mc Mr) : ∃ (r : Int32) (Mr2 : fw_M), P_Door_status 0 Mc = some r ∧ P_Mod_status 199 Mr = some (r, Mr2) ∧ rl Mc Mr2 := by
  refine ⟨Mc 0 8, fw_set Mr 199 0 0, rfl, ?_, rl_thrown hR 0⟩
  unfold P_Mod_status P_Mod_status_b0
  simp only [pl_e]
  rw [hR.1]
  simp [fw_set, fw_put, upd]
theorem st_st (M : fw_M) (a i : Nat) (v w : Int32) : fw_set (fw_set M a i v) a i w = fw_set M a i w := by
  funext b j
  unfold fw_set fw_put upd
  by_cases hb : b = a
  · subst hb
    simp only [if_true]
    by_cases hj : j = i
    · rw [if_pos hj, if_pos hj]
    · rw [if_neg hj, if_neg hj, if_neg hj]
  · rw [if_neg hb, if_neg hb, if_neg hb]
theorem st_c {M : fw_M} {a b i j : Nat} {v w : Int32} (h : a ≠ b) : fw_set (fw_set M a i v) b j w = fw_set (fw_set M b j w) a i v := by
  funext x y
  unfold fw_set fw_put
  by_cases h1 : x = a
  · subst h1
    simp [h]
  · by_cases h2 : x = b
    · subst h2
      simp [h1, Ne.symm h]
    · simp [h1, h2]
