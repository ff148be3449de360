/-! frames of the relation's parts -/
theorem fr_rows {Mc Mr Mc2 Mr2 : fw_M} (h : ∀ i, i < 8 → rl_row Mc Mr i) (hc : ∀ k, 171 ≤ k → k < 187 → Mc2 k = Mc k) (h1 : Mr2 200 = Mr 200) (h2 : Mr2 201 = Mr 201) (h3 : Mr2 202 = Mr 202) : ∀ i, i < 8 → rl_row Mc2 Mr2 i := by
  intro i hi
  have := h i hi
  unfold rl_row at this ⊢
  rw [h1, h2, h3, hc (171 + 2 * i) (by omega) (by omega), hc (171 + 2 * i + 1) (by omega) (by omega)]
  exact this
theorem fr_tape {Mc Mr Mc2 Mr2 : fw_M} (h : rl_tape Mc Mr) (h1 : Mc2 2 1 = Mc 2 1) (h2 : Mc2 3 = Mc 3) (h3 : Mr2 199 11 = Mr 199 11) (h4 : Mr2 207 = Mr 207) : rl_tape Mc2 Mr2 := by
  unfold rl_tape at h ⊢
  rw [h1, h2, h3, h4]
  exact h
theorem eq_cong {M M2 : fw_M} {o : Nat} {g : Nat → Int32} (h : rl_eq M o g) (hc : ∀ k, o ≤ k → k < o + 6 → M2 k = M k) : rl_eq M2 o g := by
  unfold rl_eq at h ⊢
  rw [hc o (by omega) (by omega), hc (o + 1) (by omega) (by omega), hc (o + 2) (by omega) (by omega), hc (o + 3) (by omega) (by omega), hc (o + 4) (by omega) (by omega), hc (o + 5) (by omega) (by omega)]
  exact h
theorem fr_hall {Mc Mc2 : fw_M} {g g2 : Nat → Int32} (h : rl_hall Mc 4 g) (hc : ∀ k, 4 ≤ k → k < 10 → Mc2 k = Mc k) (hg : g2 = g) : rl_hall Mc2 4 g2 := by
  subst hg
  rcases h with ⟨h1, h2⟩ | ⟨h1, h2⟩
  · exact Or.inl ⟨by rw [hc 4 (by omega) (by omega)]; exact h1, h2⟩
  · exact Or.inr ⟨eq_cong h1 (fun k a b => hc k a (by omega)), h2⟩
theorem fr_acts {Mc Mr Mc2 Mr2 : fw_M} (h : rl_acts Mc Mr) (hc : ∀ k, 10 ≤ k → k < 156 → Mc2 k = Mc k) (h1 : Mr2 199 9 = Mr 199 9) (h2 : Mr2 206 = Mr 206) : rl_acts Mc2 Mr2 := by
  obtain ⟨a, t, ha, ht, e1, e2, e3, e4⟩ := h
  refine ⟨a, t, ha, ht, by rw [hc 10 (by omega) (by omega)]; exact e1, by rw [h1]; exact e2, by rw [hc 10 (by omega) (by omega)]; exact e3, fun j hj => ?_⟩
  rw [h2]
  have hm : (t + 24 - a + j) % 24 < 24 := Nat.mod_lt _ (by omega)
  exact ⟨eq_cong (e4 j hj).1 (fun k a b => hc k (by omega) (by omega)), (e4 j hj).2⟩
theorem fr_imgs {Mc Mr Mc2 Mr2 : fw_M} (h : ∀ k, k < 2 → rl_img Mc Mr k) (hc : ∀ k, 187 ≤ k → k < 199 → Mc2 k = Mc k) (h1 : Mr2 209 = Mr 209) (h2 : Mr2 210 = Mr 210) : ∀ k, k < 2 → rl_img Mc2 Mr2 k := by
  intro k hk
  rcases h k hk with ⟨a, b⟩ | ⟨a, b, c⟩
  · exact Or.inl ⟨by rw [hc (187 + 6 * k) (by omega) (by omega)]; exact a, by rw [h1]; exact b⟩
  · refine Or.inr ⟨by rw [h1]; exact a, ?_, by rw [h2]; exact c⟩
    rw [h2]
    exact eq_cong b (fun k a b => hc k (by omega) (by omega))
theorem fr_trace {Mc Mr Mc2 Mr2 : fw_M} (h : rl_trace Mc Mr) (h1 : Mc2 169 1 = Mc 169 1) (h2 : Mc2 170 = Mc 170) (h3 : Mr2 199 23 = Mr 199 23) (h4 : Mr2 211 = Mr 211) : rl_trace Mc2 Mr2 := by
  unfold rl_trace at h ⊢
  rw [h1, h2, h3, h4]
  exact h
/-! rows -/
theorem p_lay_h (o : Nat) : ∀ (r j : Nat) (M : fw_M) (f : Nat) (x : Int32), x = nI j → j + r = 40 → r < f → P_Row_lay_h12 o f M x = some (fw_put M (o + 1) (fun k => if j ≤ k ∧ k < 40 then 0 else M (o + 1) k)) := by
  intro r
  induction r with
  | zero =>
    intro j M f x hx hj hf
    subst hx
    obtain ⟨f, rfl⟩ : ∃ g, f = g + 1 := ⟨f - 1, by omega⟩
    show P_Row_lay_b12 o _ M _ = _
    unfold P_Row_lay_b12
    rw [if_pos (by rw [Int32.le_iff_toInt_le, tI (by omega)]; simp; omega)]
    refine congrArg some (funext fun b => ?_)
    unfold fw_put
    split
    · next hb =>
      subst hb
      funext k
      rw [if_neg (by omega)]
    · rfl
  | succ r ih =>
    intro j M f x hx hj hf
    subst hx
    obtain ⟨f, rfl⟩ : ∃ g, f = g + 1 := ⟨f - 1, by omega⟩
    show P_Row_lay_b12 o _ M _ = _
    unfold P_Row_lay_b12
    rw [if_neg (by rw [Int32.le_iff_toInt_le, tI (by omega)]; simp; omega), ast_n (by omega) (by omega), bs_e, nI_s, ih (j + 1) _ f _ rfl (by omega) (by omega)]
    refine congrArg some (funext fun b => ?_)
    unfold fw_put fw_set fw_put
    split
    · next hb =>
      subst hb
      funext k
      simp only [if_pos, upd]
      by_cases hk : k = j
      · subst hk
        rw [if_neg (by omega), if_pos rfl, if_pos (by omega)]
      · by_cases h2 : j ≤ k ∧ k < 40
        · rw [if_pos (by omega), if_pos h2]
        · rw [if_neg (by omega), if_neg hk, if_neg h2]
    · rfl
theorem p_lay (o : Nat) (M : fw_M) (l n : Int32) : P_Row_lay o M l n = some (fw_put (fw_set (fw_set M o 1 l) o 2 n) (o + 1) (fun k => if 0 ≤ k ∧ k < 40 then 0 else M (o + 1) k)) := by
  unfold P_Row_lay P_Row_lay_b0
  simp only [pl_e]
  rw [p_lay_h o 40 0 _ fw_fu 0 rfl (by omega) (by have := fw_fu_ge; omega)]
  rw [st_n (by omega), st_n (by omega)]
theorem nI_40 (i j : Nat) : (40 : Int32) * nI i + nI j = nI (40 * i + j) := by
  rw [show (40 : Int32) = nI 40 from rfl, pk_mul, nI_add]
theorem m_row_h (x3 : Int32) {i : Nat} (hi : i < 8) : ∀ (r j : Nat) (M : fw_M) (f : Nat) (x : Int32), x = nI j → j + r = 40 → r < f → P_Mod_row_h65 199 f M (nI i) x3 x = some (x3, fw_put M 202 (fun k => if 40 * i + j ≤ k ∧ k < 40 * i + 40 then 0 else M 202 k)) := by
  intro r
  induction r with
  | zero =>
    intro j M f x hx hj hf
    subst hx
    obtain ⟨f, rfl⟩ : ∃ g, f = g + 1 := ⟨f - 1, by omega⟩
    show P_Mod_row_b65 199 _ M _ _ _ = _
    unfold P_Mod_row_b65
    rw [if_pos (by rw [Int32.le_iff_toInt_le, tI (by omega)]; simp; omega)]
    refine congrArg (fun z => some (x3, z)) (funext fun b => ?_)
    unfold fw_put
    split
    · next hb =>
      subst hb
      funext k
      rw [if_neg (by omega)]
    · rfl
  | succ r ih =>
    intro j M f x hx hj hf
    subst hx
    obtain ⟨f, rfl⟩ : ∃ g, f = g + 1 := ⟨f - 1, by omega⟩
    show P_Mod_row_b65 199 _ M _ _ _ = _
    unfold P_Mod_row_b65
    rw [if_neg (by rw [Int32.le_iff_toInt_le, tI (by omega)]; simp; omega), nI_40, ast_n (by omega) (by omega), bs_e, nI_s, ih (j + 1) _ f _ rfl (by omega) (by omega)]
    refine congrArg (fun z => some (x3, z)) (funext fun b => ?_)
    unfold fw_put fw_set fw_put
    split
    · next hb =>
      subst hb
      funext k
      simp only [if_pos, upd]
      by_cases hk : k = 40 * i + j
      · subst hk
        rw [if_neg (by omega), if_pos rfl, if_pos (by omega)]
      · by_cases h2 : 40 * i + j ≤ k ∧ k < 40 * i + 40
        · rw [if_pos (by omega), if_pos h2]
        · rw [if_neg (by omega), if_neg hk, if_neg h2]
    · rfl
theorem st_n2 {M : fw_M} {a i b j : Nat} {v : Int32} (h : j ≠ i) : fw_set M a i v b j = M b j := by
  unfold fw_set fw_put
  split
  · next hb => subst hb; exact up_n h
  · rfl
theorem rl_newrow {Mc Mr Mc2 Mr2 : fw_M} (hR : rl Mc Mr) {i n l : Nat} (hi : i < 8) (hn : n ≤ 40) (hl : l ≤ 2)
    (c1 : Mc2 (171 + 2 * i) 1 = nI l) (c2 : Mc2 (171 + 2 * i) 2 = nI n) (c3 : ∀ j, j < 40 → Mc2 (171 + 2 * i + 1) j = 0) (c4 : ∀ k, k ≠ 171 + 2 * i → k ≠ 171 + 2 * i + 1 → Mc2 k = Mc k)
    (r1 : Mr2 200 = upd (Mr 200) i (nI l)) (r2 : Mr2 201 = upd (Mr 201) i (nI n)) (r3 : ∀ j, j < 40 → Mr2 202 (40 * i + j) = 0) (r4 : ∀ i2 j, i2 ≠ i → j < 40 → Mr2 202 (40 * i2 + j) = Mr 202 (40 * i2 + j)) (r5 : ∀ k, k ≠ 200 → k ≠ 201 → k ≠ 202 → Mr2 k = Mr k) : rl Mc2 Mr2 := by
  obtain ⟨s1, s2, s3, s4, s5, s6, s7, s8⟩ := hR
  refine ⟨by rw [c4 0 (by omega) (by omega), r5 199 (by omega) (by omega) (by omega)]; exact s1, by rw [c4 0 (by omega) (by omega), r5 199 (by omega) (by omega) (by omega)]; exact s2, fun i2 hi2 => ?_, fr_tape s4 (by rw [c4 2 (by omega) (by omega)]) (c4 3 (by omega) (by omega)) (by rw [r5 199 (by omega) (by omega) (by omega)]) (r5 207 (by omega) (by omega) (by omega)), fr_hall s5 (fun k a b => c4 k (by omega) (by omega)) (r5 203 (by omega) (by omega) (by omega)), fr_acts s6 (fun k a b => c4 k (by omega) (by omega)) (by rw [r5 199 (by omega) (by omega) (by omega)]) (r5 206 (by omega) (by omega) (by omega)), fr_imgs s7 (fun k a b => c4 k (by omega) (by omega)) (r5 209 (by omega) (by omega) (by omega)) (r5 210 (by omega) (by omega) (by omega)), fr_trace s8 (by rw [c4 169 (by omega) (by omega)]) (c4 170 (by omega) (by omega)) (by rw [r5 199 (by omega) (by omega) (by omega)]) (r5 211 (by omega) (by omega) (by omega))⟩
  by_cases hii : i2 = i
  · subst hii
    exact Or.inr ⟨n, l, hn, hl, c2, by rw [r2, up_e], c1, by rw [r1, up_e], fun j hj => by rw [c3 j hj, r3 j hj]⟩
  · have h := s3 i2 hi2
    unfold rl_row at h ⊢
    rw [c4 _ (by omega) (by omega), c4 (171 + 2 * i2 + 1) (by omega) (by omega), r1, r2, up_n hii, up_n hii]
    rcases h with z | ⟨n2, l2, z1, z2, z3, z4, z5, z6, z7⟩
    · exact Or.inl z
    · exact Or.inr ⟨n2, l2, z1, z2, z3, z4, z5, z6, fun j hj => by rw [r4 i2 j hii hj]; exact z7 j hj⟩
theorem ow_row {Mc Mr : fw_M} (hR : rl Mc Mr) (a0 : Int32) (a1 : Int32) (a2 : Int32) : ∃ (r : Int32) (Mc2 Mr2 : fw_M), P_Door_row 0 Mc a0 a1 a2 = some (r, Mc2) ∧ P_Mod_row 199 Mr a0 a1 a2 = some (r, Mr2) ∧ rl Mc2 Mr2 := by
  unfold P_Door_row P_Door_row_b0 P_Door_row_b22 P_Mod_row P_Mod_row_b0 P_Mod_row_b30
  simp only [pl_e, p_isRow, m_isRow, bs_e, b1_0, p_within, p_in, Int32.toInt_toInt64, Int32.reduceToInt, Int64.reduceToInt, p_found, m_finding, p_fine, p_lay]
  have hT := rl_thrown hR 0
  by_cases h0 : 0 ≤ a0.toInt ∧ a0.toInt ≤ 7
  · obtain ⟨i, hi, rfl⟩ : ∃ i : Nat, i < 8 ∧ a0 = nI i := ⟨a0.toInt.toNat, by omega, eq_nI (by omega)⟩
    simp only [h0, not_true, if_false]
    by_cases h1 : 0 ≤ a1.toInt ∧ a1.toInt ≤ 2
    · obtain ⟨la, hla, rfl⟩ : ∃ la : Nat, la < 3 ∧ a1 = nI la := ⟨a1.toInt.toNat, by omega, eq_nI (by omega)⟩
      simp only [h1, not_true, if_false]
      by_cases h2 : a2 ≤ 40
      · simp only [h2, if_true]
        by_cases h3 : (0 : Int32) ≤ a2
        · simp only [h3, if_true]
          obtain ⟨n, hn, rfl⟩ : ∃ n : Nat, n ≤ 40 ∧ a2 = nI n := by
            rw [Int32.le_iff_toInt_le] at h2 h3
            simp at h2 h3
            exact ⟨a2.toInt.toNat, by omega, eq_nI (by omega)⟩
          rw [aix_n hi (by omega), bs_e, ast_n hi (by omega), bs_e, ast_n hi (by omega), bs_e]
          rw [m_row_h (nI n) hi 40 0 _ fw_fu 0 rfl (by omega) (by have := fw_fu_ge; omega)]
          refine ⟨_, _, _, rfl, rfl, ?_⟩
          have hs := rl_status hT 0
          refine rl_newrow hs hi hn (show la ≤ 2 by omega) ?_ ?_ (fun j hj => ?_) (fun k h1 h2 => ?_) ?_ ?_ (fun j hj => ?_) (fun i2 j hne hj => ?_) (fun k h1 h2 h3 => ?_)
          · rw [st_n (by omega), pt_n (by omega), st_n2 (by omega), Nat.zero_add, st_e, up_e]
          · rw [st_n (by omega), pt_n (by omega), Nat.zero_add, st_e, up_e]
          · rw [st_n (by omega), Nat.zero_add, pt_e, if_pos (by omega)]
          · by_cases hk : k = 0
            · subst hk
              rw [st_e, pt_n (by omega), st_n (by omega), st_n (by omega), st_e]
            · rw [st_n hk, pt_n (by omega), st_n (by omega), st_n (by omega), st_n hk]
          · rw [pt_n (by omega), st_n (by omega), st_e]
          · rw [pt_n (by omega), st_e, st_n (by omega)]
          · rw [pt_e, if_pos (by omega)]
          · rw [pt_e, if_neg (by omega), st_n (by omega), st_n (by omega)]
          · rw [pt_n (by omega), st_n (by omega), st_n (by omega)]
        · simp only [h3, if_false]
          refine ⟨_, _, _, rfl, rfl, ?_⟩
          rw [st_st]
          exact rl_status hT 4
      · simp only [h2, if_false]
        exact ⟨_, _, _, rfl, rfl, hT⟩
    · simp only [h1, not_false_iff, if_true]
      exact ⟨_, _, _, rfl, rfl, hT⟩
  · simp only [h0, not_false_iff, if_true]
    exact ⟨_, _, _, rfl, rfl, hT⟩
