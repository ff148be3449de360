/-! copy -/
theorem nI_sub {a b : Nat} (h : b ≤ a) : nI a - nI b = nI (a - b) := by
  have e : nI a = nI (a - b) + nI b := by rw [nI_a]; congr 1; omega
  rw [e, Int32.add_sub_cancel]
theorem cp_e {i s t : Nat} : (((40 : Int32) * nI i) + nI s) + nI t = nI (40 * i + s + t) := by rw [nI_40, nI_a]
theorem m_cpA {i k s d n : Nat} (hi : i < 8) (hk : k < 8) (hs : s + n ≤ 40) (hd : d + n ≤ 40) {x6 : Int32} (hx : ¬ x6 = 0) (hA : ∀ t u, u < t → t < n → 40 * i + s + t ≠ 40 * k + d + u) : ∀ (r j f : Nat) (M : fw_M), j + r = n → r < f → ∃ M2, P_Mod_copy_h143 199 f M (nI i) (nI s) (nI k) (nI d) (nI n) x6 (nI j) = some (nI n, M2) ∧ (∀ q, M2 202 q = if 40 * k + d + j ≤ q ∧ q < 40 * k + d + n then M 202 (40 * i + s + (q - (40 * k + d))) else M 202 q) ∧ ∀ b, b ≠ 202 → M2 b = M b := by
  intro r
  induction r with
  | zero =>
    intro j f M hj hf
    obtain ⟨f, rfl⟩ : ∃ g, f = g + 1 := ⟨f - 1, by omega⟩
    refine ⟨M, ?_, fun q => by rw [if_neg (by omega)], fun b _ => rfl⟩
    show P_Mod_copy_b143 199 _ M _ _ _ _ _ _ _ = _
    unfold P_Mod_copy_b143
    rw [if_pos ((nI_le2 (by omega) (by omega)).mpr (by omega))]
  | succ r ih =>
    intro j f M hj hf
    obtain ⟨f, rfl⟩ : ∃ g, f = g + 1 := ⟨f - 1, by omega⟩
    obtain ⟨M2, q1, q2, q3⟩ := ih (j + 1) f (fw_set M 202 (40 * k + d + j) (M 202 (40 * i + s + j))) (by omega) (by omega)
    refine ⟨M2, ?_, fun q => ?_, fun b b1 => by rw [q3 b b1, st_n b1]⟩
    · show P_Mod_copy_b143 199 _ M _ _ _ _ _ _ _ = _
      unfold P_Mod_copy_b143 P_Mod_copy_b167
      rw [if_neg (fun z => by have := (nI_le2 (a := n) (b := j) (by omega) (by omega)).mp z; omega), if_neg hx, cp_e, cp_e, show fw_ald M (199 + 3) 320 (nI (40 * i + s + j)) = some (M 202 (40 * i + s + j)) from ald_n (by omega) (by omega), bs_e, show fw_ast M (199 + 3) 320 (nI (40 * k + d + j)) (M 202 (40 * i + s + j)) = some (fw_set M 202 (40 * k + d + j) (M 202 (40 * i + s + j))) from ast_n (by omega) (by omega), bs_e, nI_s]
      exact q1
    · rw [q2 q, st_e]
      by_cases hq : 40 * k + d + (j + 1) ≤ q ∧ q < 40 * k + d + n
      · rw [if_pos hq, if_pos (by omega), up_n]
        exact hA (q - (40 * k + d)) j (by omega) (by omega)
      · rw [if_neg hq]
        by_cases hq2 : q = 40 * k + d + j
        · rw [if_pos (by omega), hq2, up_e]
          exact congrArg (M 202) (by omega)
        · rw [up_n hq2, if_neg (by omega)]
theorem m_cpD {i k s d n : Nat} (hi : i < 8) (hk : k < 8) (hs : s + n ≤ 40) (hd : d + n ≤ 40) (hA : ∀ t u, t < u → u < n → 40 * i + s + t ≠ 40 * k + d + u) : ∀ (r j f : Nat) (M : fw_M), j + r = n → r < f → ∃ M2, P_Mod_copy_h143 199 f M (nI i) (nI s) (nI k) (nI d) (nI n) 0 (nI j) = some (nI n, M2) ∧ (∀ q, M2 202 q = if 40 * k + d ≤ q ∧ q < 40 * k + d + (n - j) then M 202 (40 * i + s + (q - (40 * k + d))) else M 202 q) ∧ ∀ b, b ≠ 202 → M2 b = M b := by
  intro r
  induction r with
  | zero =>
    intro j f M hj hf
    obtain ⟨f, rfl⟩ : ∃ g, f = g + 1 := ⟨f - 1, by omega⟩
    refine ⟨M, ?_, fun q => by rw [if_neg (by omega)], fun b _ => rfl⟩
    show P_Mod_copy_b143 199 _ M _ _ _ _ _ _ _ = _
    unfold P_Mod_copy_b143
    rw [if_pos ((nI_le2 (by omega) (by omega)).mpr (by omega))]
  | succ r ih =>
    intro j f M hj hf
    obtain ⟨f, rfl⟩ : ∃ g, f = g + 1 := ⟨f - 1, by omega⟩
    obtain ⟨M2, q1, q2, q3⟩ := ih (j + 1) f (fw_set M 202 (40 * k + d + (n - 1 - j)) (M 202 (40 * i + s + (n - 1 - j)))) (by omega) (by omega)
    refine ⟨M2, ?_, fun q => ?_, fun b b1 => by rw [q3 b b1, st_n b1]⟩
    · show P_Mod_copy_b143 199 _ M _ _ _ _ _ _ _ = _
      unfold P_Mod_copy_b143 P_Mod_copy_b167
      rw [if_neg (fun z => by have := (nI_le2 (a := n) (b := j) (by omega) (by omega)).mp z; omega), if_pos rfl, nI_s1 (by omega), nI_sub (by omega), cp_e, cp_e, show fw_ald M (199 + 3) 320 (nI (40 * i + s + (n - 1 - j))) = some (M 202 (40 * i + s + (n - 1 - j))) from ald_n (by omega) (by omega), bs_e, show fw_ast M (199 + 3) 320 (nI (40 * k + d + (n - 1 - j))) (M 202 (40 * i + s + (n - 1 - j))) = some (fw_set M 202 (40 * k + d + (n - 1 - j)) (M 202 (40 * i + s + (n - 1 - j)))) from ast_n (by omega) (by omega), bs_e, nI_s]
      exact q1
    · rw [q2 q, st_e]
      by_cases hq : 40 * k + d ≤ q ∧ q < 40 * k + d + (n - (j + 1))
      · rw [if_pos hq, if_pos (by omega), up_n]
        exact hA (q - (40 * k + d)) (n - 1 - j) (by omega) (by omega)
      · rw [if_neg hq]
        by_cases hq2 : q = 40 * k + d + (n - 1 - j)
        · rw [if_pos (by omega), hq2, up_e]
          exact congrArg (M 202) (by omega)
        · rw [up_n hq2, if_neg (by omega)]
theorem i64_add {x y : Int32} : (Int32.toInt64 x + Int32.toInt64 y).toInt = x.toInt + y.toInt := by
  have h1 := x.toInt_lt
  have h2 := y.toInt_lt
  have h3 := x.le_toInt
  have h4 := y.le_toInt
  rw [Int64.toInt_add, Int32.toInt_toInt64, Int32.toInt_toInt64]
  exact Int.bmod_eq_of_le (by omega) (by omega)
theorem lg_le {x y : Int64} : lg_cmp x y ≤ 0 ↔ x.toInt ≤ y.toInt := by
  have h : lg_cmp x y ≤ 0 ↔ ¬ (0 < lg_cmp x y) := by
    rw [Int32.le_iff_toInt_le, Int32.lt_iff_toInt_lt]
    omega
  rw [h, lg_cmp_gt, Int64.lt_iff_toInt_lt]
  omega
