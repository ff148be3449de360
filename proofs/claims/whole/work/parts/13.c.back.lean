/-! revise, image, restore, undo -/
theorem ow_revise {Mc Mr : fw_M} (hR : rl Mc Mr) (a0 : Int32) (a1 : Int32) (a2 : Int32) : ∃ (r : Int32) (Mc2 Mr2 : fw_M), P_Door_revise 0 Mc a0 a1 a2 = some (r, Mc2) ∧ P_Mod_revise 199 Mr a0 a1 a2 = some (r, Mr2) ∧ rl Mc2 Mr2 := by
  unfold P_Door_revise P_Door_revise_b0 P_Door_revise_b27 P_Mod_revise P_Mod_revise_b0 P_Mod_revise_b35
  have hR2 := rl_thrown hR 0
  have hG : fw_set Mr 199 0 0 203 = Mr 203 := st_n (by omega)
  obtain ⟨e1, e2, e3, e4, h7, hd4, hPD, e5⟩ := hall_P hR
  simp only [pl_e]
  rw [p_isPerson (o := 0) e1 (by omega), m_isPerson (o := 199) (by rw [hG]; exact e2) (by omega), p_w0 Mc a1 (hi := 1) (n := 1) rfl, p_in0 _ a1 (hi := 1) (n := 1) rfl, p_w0 Mc a2 (hi := 9) (n := 9) rfl, p_in0 _ a2 (hi := 9) (n := 9) rfl]
  simp only [bs_e, b1_0]
  by_cases h0 : 0 ≤ a0.toInt ∧ a0.toInt < (gP (Mr 203) : Int)
  · obtain ⟨p, hp, rfl⟩ := per_x h0
    simp only [h0, and_self, not_true, if_false]
    by_cases h1 : 0 ≤ a1.toInt ∧ a1.toInt ≤ 1
    · simp only [h1, and_self, not_true, if_false]
      by_cases h2 : 0 ≤ a2.toInt ∧ a2.toInt ≤ 9
      · simp only [h2, and_self, not_true, if_false]
        obtain ⟨v, hv, rfl⟩ : ∃ v : Nat, v ≤ 9 ∧ a2 = nI v := ⟨a2.toInt.toNat, by omega, eq_nI (by omega)⟩
        obtain ⟨M2, M3, k1, k2, k3, k4, -⟩ := keep_e hR2 (by rw [hG]; omega)
        rw [hG] at k4
        have k5 : P_Acts_keep (0 + 10) (0 + 4) Mc = some M2 := k1
        rw [k5, k2]
        simp only [bs_e]
        unfold P_Door_revise_b62
        by_cases hx : a1 = 0
        · have hcell := rl_cell (p := p) (c := 1) (v := nI v) k3 (by rw [k4]; exact hp) (by omega) ⟨v, hv, rfl⟩
          have c1 := ce_r k3 k4 hp
          have c2 : fw_ald M2 (0 + 4 + 2) 7 (nI p) = _ := c1.1
          have c3 : P_Mod_of (199 + 4) M3 (nI p) (1 + 0) = _ := c1.2
          rw [if_pos hx, hx, c2, c3, show fw_ast M2 (0 + 4 + 2) 7 (nI p) (nI v) = some (fw_set M2 (5 + 1) p (nI v)) from ast_n (by omega) (by omega), show (((4 : Int32) + ((5 : Int32) * nI p)) + (1 : Int32)) + (0 : Int32) = nI (4 + 5 * p + 1) from (Int32.add_zero _).trans (ix_y (c := 1) rfl), show fw_ast M3 (199 + 4) 39 (nI (4 + 5 * p + 1)) (nI v) = some (fw_set M3 203 (4 + 5 * p + 1) (nI v)) from ast_n (by omega) (by omega)]
          exact ⟨_, _, _, rfl, rfl, hcell⟩
        · have hx1 : a1 = 1 := by
            have : a1.toInt ≠ 0 := fun z => hx (toInt_eq.mpr z)
            exact toInt_eq.mpr (show a1.toInt = 1 by omega)
          have hcell := rl_cell (p := p) (c := 2) (v := nI v) k3 (by rw [k4]; exact hp) (by omega) ⟨v, hv, rfl⟩
          have c1 := ce_h k3 k4 hp
          have c2 : fw_ald M2 (0 + 4 + 3) 7 (nI p) = _ := c1.1
          have c3 : P_Mod_of (199 + 4) M3 (nI p) (1 + 1) = _ := c1.2
          have c4 : (((4 : Int32) + ((5 : Int32) * nI p)) + (1 : Int32)) + (1 : Int32) = nI (4 + 5 * p + 2) := by
            rw [show ((4 : Int32) + ((5 : Int32) * nI p)) + (1 : Int32) = nI (4 + 5 * p + 1) from ix_y (c := 1) rfl, nI_s]
          rw [if_neg hx, hx1, c2, c3, show fw_ast M2 (0 + 4 + 3) 7 (nI p) (nI v) = some (fw_set M2 (5 + 2) p (nI v)) from ast_n (by omega) (by omega), c4, show fw_ast M3 (199 + 4) 39 (nI (4 + 5 * p + 2)) (nI v) = some (fw_set M3 203 (4 + 5 * p + 2) (nI v)) from ast_n (by omega) (by omega)]
          exact ⟨_, _, _, rfl, rfl, hcell⟩
      · simp only [h2, not_false_iff, if_true]
        exact ⟨_, _, _, rfl, rfl, hR2⟩
    · simp only [h1, not_false_iff, if_true]
      exact ⟨_, _, _, rfl, rfl, hR2⟩
  · simp only [h0, not_false_iff, if_true]
    exact ⟨_, _, _, rfl, rfl, hR2⟩
theorem ix_39 (k j : Nat) : ((39 : Int32) * nI k) + nI j = nI (39 * k + j) := by
  rw [show (39 : Int32) = nI 39 from rfl, pk_mul, nI_a]
theorem m_image {n : Nat} (hn : n < 2) : ∀ (r j f : Nat) (M : fw_M), j + r = 39 → r < f → ∃ M2, P_Mod_image_h30 199 f M (nI n) (nI j) = some (1, M2) ∧ (∀ k, M2 210 k = if 39 * n + j ≤ k ∧ k < 39 * n + 39 then M 203 (k - 39 * n) else M 210 k) ∧ M2 209 = upd (M 209) n 1 ∧ ∀ b, b ≠ 209 → b ≠ 210 → M2 b = M b := by
  intro r
  induction r with
  | zero =>
    intro j f M hj hf
    obtain ⟨f, rfl⟩ : ∃ g, f = g + 1 := ⟨f - 1, by omega⟩
    refine ⟨fw_set M 209 n 1, ?_, fun k => ?_, st_e _ _ _ _, fun b b1 b2 => st_n b1⟩
    · show P_Mod_image_b30 199 _ M _ _ = _
      unfold P_Mod_image_b30
      rw [if_pos ((nI_g39 (by omega)).mpr (by omega)), show fw_ast M (199 + 10) 2 (nI n) (vp_nar .boolean (1 : Int32)) = some (fw_set M 209 n 1) from ast_n (by omega) (by omega)]
      rfl
    · rw [st_n (by omega), if_neg (by omega)]
  | succ r ih =>
    intro j f M hj hf
    obtain ⟨f, rfl⟩ : ∃ g, f = g + 1 := ⟨f - 1, by omega⟩
    obtain ⟨M2, q1, q2, q3, q4⟩ := ih (j + 1) f (fw_set M 210 (39 * n + j) (M 203 j)) (by omega) (by omega)
    refine ⟨M2, ?_, fun k => ?_, by rw [q3, st_n (by omega)], fun b b1 b2 => by rw [q4 b b1 b2, st_n b2]⟩
    · show P_Mod_image_b30 199 _ M _ _ = _
      unfold P_Mod_image_b30
      rw [if_neg (fun z => by have := (nI_g39 (show j < 1000000 by omega)).mp z; omega), show fw_ald M (199 + 4) 39 (nI j) = some (M 203 j) from ald_n (by omega) (by omega), bs_e, ix_39, show fw_ast M (199 + 11) 78 (nI (39 * n + j)) (M 203 j) = some (fw_set M 210 (39 * n + j) (M 203 j)) from ast_n (by omega) (by omega), bs_e, nI_s]
      exact q1
    · rw [q2 k, st_n (show (203 : Nat) ≠ 210 by omega)]
      by_cases hk : 39 * n + (j + 1) ≤ k ∧ k < 39 * n + 39
      · rw [if_pos hk, if_pos (by omega)]
      · rw [if_neg hk, st_e]
        by_cases hk2 : k = 39 * n + j
        · subst hk2
          rw [up_e, if_pos (by omega)]
          exact congrArg (M 203) (by omega)
        · rw [up_n hk2, if_neg (by omega)]
theorem ow_image {Mc Mr : fw_M} (hR : rl Mc Mr) (a0 : Int32) : ∃ (r : Int32) (Mc2 Mr2 : fw_M), P_Door_image 0 Mc a0 = some (r, Mc2) ∧ P_Mod_image 199 Mr a0 = some (r, Mr2) ∧ rl Mc2 Mr2 := by
  have hfu := fw_fu_ge
  unfold P_Door_image P_Door_image_b0 P_Mod_image P_Mod_image_b0
  have hR2 := rl_thrown hR 0
  have hG : fw_set Mr 199 0 0 203 = Mr 203 := st_n (by omega)
  obtain ⟨e1, e2, e3, e4, h7, hd4, hPD, e5⟩ := hall_P hR
  simp only [pl_e]
  rw [p_w0 Mc a0 (hi := 1) (n := 1) rfl, p_in0 _ a0 (hi := 1) (n := 1) rfl, m_isThere (o := 199) (by rw [hG]; exact e4) (by omega), show Mc (0 + 4) 2 = _ from e1]
  simp only [bs_e, b1_0, nI_e0 (show gP (Mr 203) < 1000000 by omega)]
  by_cases h1 : 0 ≤ a0.toInt ∧ a0.toInt ≤ 1
  · simp only [h1, and_self, not_true, if_false]
    obtain ⟨n, hn, rfl⟩ : ∃ n : Nat, n < 2 ∧ a0 = nI n := ⟨a0.toInt.toNat, by omega, eq_nI (by omega)⟩
    by_cases hP : gP (Mr 203) = 0
    · rw [if_pos hP, if_pos (by omega)]
      exact ⟨_, _, _, rfl, rfl, hR2⟩
    · rw [if_neg hP, if_neg (by omega), aix_n hn (by omega), bs_e]
      obtain ⟨he, hW, hs1, hs2⟩ := hall_E hR (by omega)
      obtain ⟨M3, r1, r2, r3, r4⟩ := m_image hn 39 0 fw_fu (fw_set Mr 199 0 0) (by omega) (by omega)
      obtain ⟨M2, q1, q2, q3⟩ := become_eq (o := 187 + 6 * n) (r := 4) (M := Mc) (g := Mr 203) (g2 := fun i => M3 210 (39 * n + i)) (by omega) he h7 (fun i hi => by
        show M3 210 (39 * n + i) = _
        rw [r2, if_pos (by omega), hG]
        exact congrArg (Mr 203) (by omega))
      have q4 : P_Hall_become (0 + 187 + 6 * n) (0 + 4) Mc = some M2 := q1
      have r5 : P_Mod_image_h30 199 fw_fu (fw_set Mr 199 0 0) (nI n) 0 = _ := r1
      rw [q4, r5]
      refine ⟨_, _, _, rfl, rfl, ?_⟩
      obtain ⟨a1, a2, a3, a4, a5, a6, a7, a8⟩ := hR2
      refine ⟨by rw [q3 0 (by omega), r4 199 (by omega) (by omega)]; exact a1, by rw [q3 0 (by omega), r4 199 (by omega) (by omega)]; exact a2, ?_, ?_, ?_, ?_, ?_, ?_⟩
      · exact fr_rows a3 (fun k _ _ => q3 k (by omega)) (r4 _ (by omega) (by omega)) (r4 _ (by omega) (by omega)) (r4 _ (by omega) (by omega))
      · exact fr_tape a4 (by rw [q3 2 (by omega)]) (q3 3 (by omega)) (by rw [r4 199 (by omega) (by omega)]) (r4 _ (by omega) (by omega))
      · exact fr_hall a5 (fun k _ _ => q3 k (by omega)) (r4 _ (by omega) (by omega))
      · exact fr_acts a6 (fun k _ _ => q3 k (by omega)) (by rw [r4 199 (by omega) (by omega)]) (r4 _ (by omega) (by omega))
      · intro k hk
        by_cases hkn : k = n
        · subst hkn
          refine Or.inr ⟨by rw [r3, up_e], q2, wf_39 (fun i hi => ?_) (wf_to hW hs1 hs2)⟩
          show M3 210 (39 * k + i) = _
          rw [r2, if_pos (by omega), hG]
          exact congrArg (Mr 203) (by omega)
        · have h39 : ∀ i, i < 39 → M3 210 (39 * k + i) = fw_set Mr 199 0 0 210 (39 * k + i) := fun i hi => by rw [r2, if_neg (by omega)]
          have h209 : M3 209 k = fw_set Mr 199 0 0 209 k := by rw [r3, up_n hkn]
          rcases a7 k hk with ⟨b1, b2⟩ | ⟨b1, b2, b3⟩
          · exact Or.inl ⟨by rw [q3 _ (by omega)]; exact b1, by rw [h209]; exact b2⟩
          · have hPs := (wf_of b3).1.2.2.1.2.1
            exact Or.inr ⟨by rw [h209]; exact b1, eq_39 h39 hPs (fun i _ => by rw [q3 _ (by omega)]) (fun c hc p _ => by rw [q3 _ (by omega)]) b2, wf_39 h39 b3⟩
      · exact fr_trace a8 (by rw [q3 169 (by omega)]) (q3 170 (by omega)) (by rw [r4 199 (by omega) (by omega)]) (r4 _ (by omega) (by omega))
  · simp only [h1, not_false_iff, if_true]
    exact ⟨_, _, _, rfl, rfl, hR2⟩
