/-! copy -/
theorem nI_sub {a b : Nat} (h : b ≤ a) : nI a - nI b = nI (a - b) := by
  have e : nI a = nI (a - b) + nI b := by rw [nI_a]; congr 1; omega
  rw [e, Int32.add_sub_cancel]
theorem cp_e {i s t : Nat} : (((40 : Int32) * nI i) + nI s) + nI t = nI (40 * i + s + t) := by rw [nI_40, nI_a]
theorem m_cpA {i k s d n : Nat} (hi : i < 8) (hk : k < 8) (hs : s + n ≤ 40) (hd : d + n ≤ 40) {x6 : Int32} (hx : ¬ x6 = 0) (hA : ∀ t u, u < t → t < n → 40 * i + s + t ≠ 40 * k + d + u) : ∀ (r j f : Nat) (M : fw_M), j + r = n → r < f → ∃ M2, P_Mod_copy_h143 199 f M (nI i) (nI s) (nI k) (nI d) (nI n) x6 (nI j) = some (nI n, M2) ∧ (∀ q, M2 202 q = if 40 * k + d + j ≤ q ∧ q < 40 * k + d + n then M 202 (40 * i + s + (q - (40 * k + d))) else M 202 q) ∧ ∀ b, b ≠ 202 → M2 b = M b := by
  intro r
  induction r with
  | zero =>
    intro j f M hj hf
    obtain ⟨f, rfl⟩ : ∃ g, f = g + 1 := ⟨f - 1, by omega⟩
    refine ⟨M, ?_, fun q => by rw [if_neg (by omega)], fun b _ => rfl⟩
    show P_Mod_copy_b143 199 _ M _ _ _ _ _ _ _ = _
    unfold P_Mod_copy_b143
    rw [if_pos ((nI_le2 (by omega) (by omega)).mpr (by omega))]
  | succ r ih =>
    intro j f M hj hf
    obtain ⟨f, rfl⟩ : ∃ g, f = g + 1 := ⟨f - 1, by omega⟩
    obtain ⟨M2, q1, q2, q3⟩ := ih (j + 1) f (fw_set M 202 (40 * k + d + j) (M 202 (40 * i + s + j))) (by omega) (by omega)
    refine ⟨M2, ?_, fun q => ?_, fun b b1 => by rw [q3 b b1, st_n b1]⟩
    · show P_Mod_copy_b143 199 _ M _ _ _ _ _ _ _ = _
      unfold P_Mod_copy_b143 P_Mod_copy_b167
      rw [if_neg (fun z => by have := (nI_le2 (a := n) (b := j) (by omega) (by omega)).mp z; omega), if_neg hx, cp_e, cp_e, show fw_ald M (199 + 3) 320 (nI (40 * i + s + j)) = some (M 202 (40 * i + s + j)) from ald_n (by omega) (by omega), bs_e, show fw_ast M (199 + 3) 320 (nI (40 * k + d + j)) (M 202 (40 * i + s + j)) = some (fw_set M 202 (40 * k + d + j) (M 202 (40 * i + s + j))) from ast_n (by omega) (by omega), bs_e, nI_s]
      exact q1
    · rw [q2 q, st_e]
      by_cases hq : 40 * k + d + (j + 1) ≤ q ∧ q < 40 * k + d + n
      · rw [if_pos hq, if_pos (by omega), up_n]
        exact hA (q - (40 * k + d)) j (by omega) (by omega)
      · rw [if_neg hq]
        by_cases hq2 : q = 40 * k + d + j
        · rw [if_pos (by omega), hq2, up_e]
          exact congrArg (M 202) (by omega)
        · rw [up_n hq2, if_neg (by omega)]
theorem m_cpD {i k s d n : Nat} (hi : i < 8) (hk : k < 8) (hs : s + n ≤ 40) (hd : d + n ≤ 40) (hA : ∀ t u, t < u → u < n → 40 * i + s + t ≠ 40 * k + d + u) : ∀ (r j f : Nat) (M : fw_M), j + r = n → r < f → ∃ M2, P_Mod_copy_h143 199 f M (nI i) (nI s) (nI k) (nI d) (nI n) 0 (nI j) = some (nI n, M2) ∧ (∀ q, M2 202 q = if 40 * k + d ≤ q ∧ q < 40 * k + d + (n - j) then M 202 (40 * i + s + (q - (40 * k + d))) else M 202 q) ∧ ∀ b, b ≠ 202 → M2 b = M b := by
  intro r
  induction r with
  | zero =>
    intro j f M hj hf
    obtain ⟨f, rfl⟩ : ∃ g, f = g + 1 := ⟨f - 1, by omega⟩
    refine ⟨M, ?_, fun q => by rw [if_neg (by omega)], fun b _ => rfl⟩
    show P_Mod_copy_b143 199 _ M _ _ _ _ _ _ _ = _
    unfold P_Mod_copy_b143
    rw [if_pos ((nI_le2 (by omega) (by omega)).mpr (by omega))]
  | succ r ih =>
    intro j f M hj hf
    obtain ⟨f, rfl⟩ : ∃ g, f = g + 1 := ⟨f - 1, by omega⟩
    obtain ⟨M2, q1, q2, q3⟩ := ih (j + 1) f (fw_set M 202 (40 * k + d + (n - 1 - j)) (M 202 (40 * i + s + (n - 1 - j)))) (by omega) (by omega)
    refine ⟨M2, ?_, fun q => ?_, fun b b1 => by rw [q3 b b1, st_n b1]⟩
    · show P_Mod_copy_b143 199 _ M _ _ _ _ _ _ _ = _
      unfold P_Mod_copy_b143 P_Mod_copy_b167
      rw [if_neg (fun z => by have := (nI_le2 (a := n) (b := j) (by omega) (by omega)).mp z; omega), if_pos rfl, nI_s1 (by omega), nI_sub (by omega), cp_e, cp_e, show fw_ald M (199 + 3) 320 (nI (40 * i + s + (n - 1 - j))) = some (M 202 (40 * i + s + (n - 1 - j))) from ald_n (by omega) (by omega), bs_e, show fw_ast M (199 + 3) 320 (nI (40 * k + d + (n - 1 - j))) (M 202 (40 * i + s + (n - 1 - j))) = some (fw_set M 202 (40 * k + d + (n - 1 - j)) (M 202 (40 * i + s + (n - 1 - j)))) from ast_n (by omega) (by omega), bs_e, nI_s]
      exact q1
    · rw [q2 q, st_e]
      by_cases hq : 40 * k + d ≤ q ∧ q < 40 * k + d + (n - (j + 1))
      · rw [if_pos hq, if_pos (by omega), up_n]
        exact hA (q - (40 * k + d)) (n - 1 - j) (by omega) (by omega)
      · rw [if_neg hq]
        by_cases hq2 : q = 40 * k + d + (n - 1 - j)
        · rw [if_pos (by omega), hq2, up_e]
          exact congrArg (M 202) (by omega)
        · rw [up_n hq2, if_neg (by omega)]
theorem i64_add {x y : Int32} : (Int32.toInt64 x + Int32.toInt64 y).toInt = x.toInt + y.toInt := by
  have h1 := x.toInt_lt
  have h2 := y.toInt_lt
  have h3 := x.le_toInt
  have h4 := y.le_toInt
  rw [Int64.toInt_add, Int32.toInt_toInt64, Int32.toInt_toInt64]
  exact Int.bmod_eq_of_le (by omega) (by omega)
theorem lg_le {x y : Int64} : lg_cmp x y ≤ 0 ↔ x.toInt ≤ y.toInt := by
  have h : lg_cmp x y ≤ 0 ↔ ¬ (0 < lg_cmp x y) := by
    rw [Int32.le_iff_toInt_le, Int32.lt_iff_toInt_lt]
    omega
  rw [h, lg_cmp_gt, Int64.lt_iff_toInt_lt]
  omega
theorem m_cp {i k s d n : Nat} (hi : i < 8) (hk : k < 8) (hs : s + n ≤ 40) (hd : d + n ≤ 40) (M : fw_M) : ∃ M2, (if nI s < nI d then P_Mod_copy_b138 199 M (nI i) (nI s) (nI k) (nI d) (nI n) (0 : Int32) else P_Mod_copy_b138 199 M (nI i) (nI s) (nI k) (nI d) (nI n) (1 : Int32)) = some (nI n, M2) ∧ (∀ q, M2 202 q = if 40 * k + d ≤ q ∧ q < 40 * k + d + n then M 202 (40 * i + s + (q - (40 * k + d))) else M 202 q) ∧ ∀ b, b ≠ 202 → M2 b = M b := by
  have hfu := fw_fu_ge
  by_cases h : nI s < nI d
  · rw [if_pos h]
    have h2 := (nI_lt2 (by omega) (by omega)).mp h
    obtain ⟨M2, q1, q2, q3⟩ := m_cpD hi hk hs hd (fun t u _ _ => by omega) n 0 fw_fu M (by omega) (by omega)
    exact ⟨M2, q1, q2, q3⟩
  · rw [if_neg h]
    have h2 : ¬ s < d := fun z => h ((nI_lt2 (by omega) (by omega)).mpr z)
    obtain ⟨M2, q1, q2, q3⟩ := m_cpA (x6 := 1) hi hk hs hd (by decide) (fun t u _ _ => by omega) n 0 fw_fu M (by omega) (by omega)
    exact ⟨M2, q1, q2, q3⟩
theorem cpy40 (M : fw_M) {a b s d n : Nat} (hs : s + n ≤ 40) (hd : d + n ≤ 40) : fw_cpy M a 40 (nI s) b 40 (nI d) (nI n) = some (fw_put M b (fun q => if d ≤ q ∧ q < d + n then M a (s + (q - d)) else M b q)) := by
  unfold fw_cpy
  rw [tC (show s < 1000000 by omega), tC (show d < 1000000 by omega), tC (show n < 1000000 by omega)]
  simp only [nI_z3 (show s < 1000000 by omega), nI_z3 (show d < 1000000 by omega), nI_z3 (show n < 1000000 by omega)]
  rw [if_pos ⟨id, id, id, hs, hd⟩]
  rfl
theorem st_pt {M : fw_M} {a b i : Nat} {v : Int32} {f : Nat → Int32} (h : b ≠ a) : fw_set (fw_put M a f) b i v = fw_put (fw_set M b i v) a f := by
  funext c
  by_cases hc : c = a
  · subst hc; rw [st_n (Ne.symm h), pt_e, pt_e]
  · rw [pt_n hc]
    by_cases hb : c = b
    · subst hb; rw [st_e, st_e, pt_n hc]
    · rw [st_n hb, st_n hb, pt_n hc]
theorem ow_copy {Mc Mr : fw_M} (hR : rl Mc Mr) (a0 : Int32) (a1 : Int32) (a2 : Int32) (a3 : Int32) (a4 : Int32) : ∃ (r : Int32) (Mc2 Mr2 : fw_M), P_Door_copy 0 Mc a0 a1 a2 a3 a4 = some (r, Mc2) ∧ P_Mod_copy 199 Mr a0 a1 a2 a3 a4 = some (r, Mr2) ∧ rl Mc2 Mr2 := by
  unfold P_Door_copy P_Door_copy_b0 P_Door_copy_b14 P_Door_copy_b41 P_Door_copy_b105 P_Mod_copy P_Mod_copy_b0 P_Mod_copy_b19 P_Mod_copy_b45 P_Mod_copy_b121
  simp only [pl_e, p_isRow, m_isRow, bs_e, b1_0, p_found, m_finding, p_fine, p_isMissing]
  by_cases h0 : 0 ≤ a0.toInt ∧ a0.toInt ≤ 7
  · obtain ⟨i, hi, rfl⟩ : ∃ i : Nat, i < 8 ∧ a0 = nI i := ⟨a0.toInt.toNat, by omega, eq_nI (by omega)⟩
    simp only [h0, and_self, not_true, if_false]
    by_cases h2 : 0 ≤ a2.toInt ∧ a2.toInt ≤ 7
    · obtain ⟨k, hk, rfl⟩ : ∃ k : Nat, k < 8 ∧ a2 = nI k := ⟨a2.toInt.toNat, by omega, eq_nI (by omega)⟩
      have hM1 : ∀ b, b ≠ 199 → fw_set (fw_set Mr 199 0 0) 199 1 0 b = Mr b := fun b hb => by rw [st_n hb, st_n hb]
      simp only [h2, and_self, not_true, if_false, aix_n hi (show 8 ≤ 1000 by omega), aix_n hk (show 8 ≤ 1000 by omega), ald_n hi (show 8 ≤ 1000 by omega), ald_n hk (show 8 ≤ 1000 by omega), bs_e]
      simp only [Nat.zero_add, Nat.reduceAdd, hM1 200 (by omega), hM1 201 (by omega)]
      rcases row_c hR hi with ⟨z1, z2⟩ | ⟨n, l, hn, hl, z1, z2, z3, z4, z5⟩
      · rw [z1, z2]
        rw [if_neg (by simp), if_pos (by decide)]
        exact ⟨_, _, _, rfl, rfl, rl_st0 hR 1⟩
      · rw [z1, z2, z4, if_pos (nI_m1 (by omega)), if_neg (show ¬ nI l < 0 by rw [nI_z3 (by omega)]; exact id), p_holds z1 hn]
        rcases row_c hR hk with ⟨y1, y2⟩ | ⟨n2, l2, hn2, hl2, y1, y2, y3, y4, y5⟩
        · rw [y1, y2]
          rw [if_neg (by simp), if_neg (by decide)]
          exact ⟨_, _, _, rfl, rfl, rl_st0 hR 1⟩
        · rw [y1, y2, y3, y4, z3, if_pos (nI_m1 (by omega)), if_pos (nI_nn (by omega)), p_holds y1 hn2]
          by_cases hl3 : nI l = nI l2
          · rw [if_pos hl3, if_pos hl3]
            simp only [bs_e, b1_0, lg_cmp_gt, lg_le, Int64.lt_iff_toInt_lt, i64_add, Int32.toInt_toInt64]
            simp only [Int32.lt_iff_toInt_lt, Int32.reduceToInt, tI (show n < 1000000 by omega), tI (show n2 < 1000000 by omega)]
            by_cases c1 : 0 ≤ a1.toInt ∧ 0 ≤ a4.toInt ∧ a1.toInt + a4.toInt ≤ n
            · by_cases c2 : 0 ≤ a3.toInt ∧ 0 ≤ a4.toInt ∧ a3.toInt + a4.toInt ≤ n2
              · obtain ⟨s, hs, rfl⟩ : ∃ s : Nat, s ≤ 40 ∧ a1 = nI s := ⟨a1.toInt.toNat, by omega, eq_nI (by omega)⟩
                obtain ⟨d, hd, rfl⟩ : ∃ d : Nat, d ≤ 40 ∧ a3 = nI d := ⟨a3.toInt.toNat, by omega, eq_nI (by omega)⟩
                obtain ⟨m, hm, rfl⟩ : ∃ m : Nat, m ≤ 40 ∧ a4 = nI m := ⟨a4.toInt.toNat, by omega, eq_nI (by omega)⟩
                have ts := tI (show s < 1000000 by omega)
                have td := tI (show d < 1000000 by omega)
                have tm := tI (show m < 1000000 by omega)
                obtain ⟨M2, q1, q2, q3⟩ := m_cp hi hk (show s + m ≤ 40 by omega) (show d + m ≤ 40 by omega) (fw_set (fw_set Mr 199 0 0) 199 1 0)
                simp only [Int32.lt_iff_toInt_lt] at q1
                rw [if_neg (fun z => z c1), if_neg (fun z => z c2), if_neg (by omega), if_neg (by omega), if_neg (by omega), if_neg (by omega), if_pos (by omega), q1, cpy40 Mc (show s + m ≤ 40 by omega) (show d + m ≤ 40 by omega)]
                refine ⟨_, _, _, rfl, rfl, ?_⟩
                have hM2 : M2 = fw_put (fw_set (fw_set Mr 199 0 0) 199 1 0) 202 (M2 202) := by
                  funext b
                  by_cases hb : b = 202
                  · subst hb; rw [pt_e]
                  · rw [pt_n hb]; exact q3 b hb
                rw [hM2, st_pt (by omega)]
                refine rl_items (rl_status (rl_thrown hR 0) 0) hk (fun x hx => ?_) (fun i2 x hi2 hne hx => ?_)
                · rw [q2, hM1 202 (by omega)]
                  by_cases hc : d ≤ x ∧ x < d + m
                  · rw [if_pos hc, if_pos (by omega), z5 _ (by omega)]
                    exact congrArg (Mr 202) (by omega)
                  · rw [if_neg hc, if_neg (by omega), y5 _ hx]
                · rw [q2, if_neg (by omega)]
              · rw [if_neg (fun z => z c1), if_pos c2]
                refine ⟨_, _, fw_set (fw_set (fw_set Mr 199 0 0) 199 1 0) 199 1 2, rfl, ?_, rl_st0 hR 2⟩
                repeat' split
                all_goals first | rfl | (exfalso; omega)
            · rw [if_pos c1]
              refine ⟨_, _, fw_set (fw_set (fw_set Mr 199 0 0) 199 1 0) 199 1 2, rfl, ?_, rl_st0 hR 2⟩
              repeat' split
              all_goals first | rfl | (exfalso; omega)
          · rw [if_neg hl3, if_neg hl3]
            exact ⟨_, _, _, rfl, rfl, rl_st0 hR 5⟩
    · simp only [h2, not_false_iff, if_true]
      exact ⟨_, _, _, rfl, rfl, rl_thrown hR 0⟩
  · simp only [h0, not_false_iff, if_true]
    exact ⟨_, _, _, rfl, rfl, rl_thrown hR 0⟩
