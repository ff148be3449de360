theorem m_restore {n : Nat} (hn : n < 2) : ∀ (r j f : Nat) (M : fw_M), j + r = 39 → r < f → ∃ M2, P_Mod_restore_h32 199 f M (nI n) (nI j) = some (1, M2) ∧ (∀ k, M2 203 k = if j ≤ k ∧ k < 39 then M 210 (39 * n + k) else M 203 k) ∧ M2 199 9 = 0 ∧ (∀ i, i ≠ 9 → M2 199 i = M 199 i) ∧ ∀ b, b ≠ 199 → b ≠ 203 → M2 b = M b := by
  intro r
  induction r with
  | zero =>
    intro j f M hj hf
    obtain ⟨f, rfl⟩ : ∃ g, f = g + 1 := ⟨f - 1, by omega⟩
    refine ⟨fw_set M 199 9 0, ?_, fun k => ?_, by rw [st_e, up_e], fun i hi => st_n2 hi, fun b b1 b2 => st_n b1⟩
    · show P_Mod_restore_b32 199 _ M _ _ = _
      unfold P_Mod_restore_b32
      rw [if_pos ((nI_g39 (by omega)).mpr (by omega))]
      rfl
    · rw [st_n (by omega), if_neg (by omega)]
  | succ r ih =>
    intro j f M hj hf
    obtain ⟨f, rfl⟩ : ∃ g, f = g + 1 := ⟨f - 1, by omega⟩
    obtain ⟨M2, q1, q2, q3, q4, q5⟩ := ih (j + 1) f (fw_set M 203 j (M 210 (39 * n + j))) (by omega) (by omega)
    refine ⟨M2, ?_, fun k => ?_, q3, fun i hi => by rw [q4 i hi, st_n (by omega)], fun b b1 b2 => by rw [q5 b b1 b2, st_n b2]⟩
    · show P_Mod_restore_b32 199 _ M _ _ = _
      unfold P_Mod_restore_b32
      rw [if_neg (fun z => by have := (nI_g39 (show j < 1000000 by omega)).mp z; omega), ix_39, show fw_ald M (199 + 11) 78 (nI (39 * n + j)) = some (M 210 (39 * n + j)) from ald_n (by omega) (by omega), bs_e, show fw_ast M (199 + 4) 39 (nI j) (M 210 (39 * n + j)) = some (fw_set M 203 j (M 210 (39 * n + j))) from ast_n (by omega) (by omega), bs_e, nI_s]
      exact q1
    · rw [q2 k, st_n (show (210 : Nat) ≠ 203 by omega)]
      by_cases hk : j + 1 ≤ k ∧ k < 39
      · rw [if_pos hk, if_pos (by omega)]
      · rw [if_neg hk, st_e]
        by_cases hk2 : k = j
        · subst hk2
          rw [up_e, if_pos (by omega)]
        · rw [up_n hk2, if_neg (by omega)]
theorem ow_restore {Mc Mr : fw_M} (hR : rl Mc Mr) (a0 : Int32) : ∃ (r : Int32) (Mc2 Mr2 : fw_M), P_Door_restore 0 Mc a0 = some (r, Mc2) ∧ P_Mod_restore 199 Mr a0 = some (r, Mr2) ∧ rl Mc2 Mr2 := by
  have hfu := fw_fu_ge
  unfold P_Door_restore P_Door_restore_b0 P_Mod_restore P_Mod_restore_b0
  have hR2 := rl_thrown hR 0
  simp only [pl_e]
  rw [p_w0 Mc a0 (hi := 1) (n := 1) rfl, p_in0 _ a0 (hi := 1) (n := 1) rfl]
  simp only [bs_e, b1_0]
  by_cases h1 : 0 ≤ a0.toInt ∧ a0.toInt ≤ 1
  · simp only [h1, and_self, not_true, if_false]
    obtain ⟨n, hn, rfl⟩ : ∃ n : Nat, n < 2 ∧ a0 = nI n := ⟨a0.toInt.toNat, by omega, eq_nI (by omega)⟩
    rw [aix_n hn (by omega), show fw_ald (fw_set Mr 199 0 0) (199 + 10) 2 (nI n) = some (fw_set Mr 199 0 0 209 n) from ald_n (by omega) (by omega)]
    simp only [bs_e]
    rcases hR2.2.2.2.2.2.2.1 n hn with ⟨b1, b2⟩ | ⟨b1, b2, b3⟩
    · rw [if_pos (show Mc (0 + 187 + 6 * n) 2 = 0 from b1), if_pos b2]
      exact ⟨_, _, _, rfl, rfl, hR2⟩
    · obtain ⟨hW, -, -⟩ := wf_of b3
      have hPs := hW.2.2.1
      have hn2 : ¬ Mc (0 + 187 + 6 * n) 2 = 0 := by
        rw [show Mc (0 + 187 + 6 * n) 2 = _ from b2.1 2 (by omega), hPs.2.2, nI_e0 (by omega)]
        omega
      rw [if_neg hn2, if_neg (show ¬ fw_set Mr 199 0 0 209 n = 0 by rw [b1]; decide)]
      obtain ⟨M3, r1, r2, r3, r4, r5⟩ := m_restore hn 39 0 fw_fu (fw_set Mr 199 0 0) (by omega) (by omega)
      have h39 : ∀ i, i < 39 → M3 203 i = (fun i => fw_set Mr 199 0 0 210 (39 * n + i)) i := fun i hi => by rw [r2, if_pos (by omega)]
      obtain ⟨M2, q1, q2, q3⟩ := become_eq (o := 4) (r := 187 + 6 * n) (M := Mc) (g := fun i => fw_set Mr 199 0 0 210 (39 * n + i)) (g2 := M3 203) (by omega) b2 hPs.2.1 h39
      have q4 : P_Hall_become (0 + 4) (0 + 187 + 6 * n) Mc = some M2 := q1
      have r6 : P_Mod_restore_h32 199 fw_fu (fw_set Mr 199 0 0) (nI n) 0 = _ := r1
      rw [q4, r6]
      refine ⟨_, fw_set M2 10 2 0, _, rfl, rfl, ?_⟩
      obtain ⟨a1, a2, a3, a4, a5, ⟨a, t, -, ht, -, -, e3, -⟩, a7, a8⟩ := hR2
      have hN : ∀ b, b ≠ 10 → (b < 4 ∨ 10 ≤ b) → fw_set M2 10 2 0 b = Mc b := fun b b1 b2 => by rw [st_n b1, q3 b (by omega)]
      refine ⟨by rw [hN 0 (by omega) (by omega), r4 1 (by omega)]; exact a1, by rw [hN 0 (by omega) (by omega), r4 18 (by omega)]; exact a2, ?_, ?_, ?_, ?_, ?_, ?_⟩
      · exact fr_rows a3 (fun k _ _ => hN k (by omega) (by omega)) (r5 _ (by omega) (by omega)) (r5 _ (by omega) (by omega)) (r5 _ (by omega) (by omega))
      · exact fr_tape a4 (by rw [hN 2 (by omega) (by omega)]) (hN 3 (by omega) (by omega)) (r4 11 (by omega)) (r5 _ (by omega) (by omega))
      · exact Or.inr ⟨eq_cong q2 fun k _ _ => st_n (by omega), wf_39 h39 b3⟩
      · exact ⟨0, t, by omega, ht, by rw [st_e, up_e]; rfl, r3, by rw [st_n2 (by omega), q3 10 (by omega)]; exact e3, fun j hj => by omega⟩
      · exact fr_imgs a7 (fun k _ _ => hN k (by omega) (by omega)) (r5 _ (by omega) (by omega)) (r5 _ (by omega) (by omega))
      · exact fr_trace a8 (by rw [hN 169 (by omega) (by omega)]) (hN 170 (by omega) (by omega)) (r4 23 (by omega)) (r5 _ (by omega) (by omega))
  · simp only [h1, not_false_iff, if_true]
    exact ⟨_, _, _, rfl, rfl, hR2⟩
theorem m_undo {n : Nat} (hn : n < 24) : ∀ (r j f : Nat) (M : fw_M), j + r = 39 → r < f → M 199 9 = nI n → ∃ M2, P_Mod_undo_h27 199 f M (nI j) = some (nI n, M2) ∧ (∀ k, M2 203 k = if j ≤ k ∧ k < 39 then M 206 (39 * n + k) else M 203 k) ∧ ∀ b, b ≠ 203 → M2 b = M b := by
  intro r
  induction r with
  | zero =>
    intro j f M hj hf h9
    obtain ⟨f, rfl⟩ : ∃ g, f = g + 1 := ⟨f - 1, by omega⟩
    refine ⟨M, ?_, fun k => ?_, fun b b1 => rfl⟩
    · show P_Mod_undo_b27 199 _ M _ = _
      unfold P_Mod_undo_b27
      rw [if_pos ((nI_g39 (by omega)).mpr (by omega)), h9]
    · rw [if_neg (by omega)]
  | succ r ih =>
    intro j f M hj hf h9
    obtain ⟨f, rfl⟩ : ∃ g, f = g + 1 := ⟨f - 1, by omega⟩
    obtain ⟨M2, q1, q2, q3⟩ := ih (j + 1) f (fw_set M 203 j (M 206 (39 * n + j))) (by omega) (by omega) (by rw [st_n (by omega)]; exact h9)
    refine ⟨M2, ?_, fun k => ?_, fun b b1 => by rw [q3 b b1, st_n b1]⟩
    · show P_Mod_undo_b27 199 _ M _ = _
      unfold P_Mod_undo_b27
      rw [if_neg (fun z => by have := (nI_g39 (show j < 1000000 by omega)).mp z; omega), h9, ix_39, show fw_ald M (199 + 7) 936 (nI (39 * n + j)) = some (M 206 (39 * n + j)) from ald_n (by omega) (by omega), bs_e, show fw_ast M (199 + 4) 39 (nI j) (M 206 (39 * n + j)) = some (fw_set M 203 j (M 206 (39 * n + j))) from ast_n (by omega) (by omega), bs_e, nI_s]
      exact q1
    · rw [q2 k, st_n (show (206 : Nat) ≠ 203 by omega)]
      by_cases hk : j + 1 ≤ k ∧ k < 39
      · rw [if_pos hk, if_pos (by omega)]
      · rw [if_neg hk, st_e]
        by_cases hk2 : k = j
        · subst hk2
          rw [up_e, if_pos (by omega)]
        · rw [up_n hk2, if_neg (by omega)]
theorem ow_undo {Mc Mr : fw_M} (hR : rl Mc Mr) : ∃ (r : Int32) (Mc2 Mr2 : fw_M), P_Door_undo 0 Mc = some (r, Mc2) ∧ P_Mod_undo 199 Mr = some (r, Mr2) ∧ rl Mc2 Mr2 := by
  have hfu := fw_fu_ge
  unfold P_Door_undo P_Door_undo_b0 P_Mod_undo P_Mod_undo_b0
  have hR2 := rl_thrown hR 0
  obtain ⟨a1, a2, a3, a4, a5, ⟨a, t, ha, ht, e1, e2, e3, e4⟩, a7, a8⟩ := hR2
  simp only [pl_e]
  rw [show Mc (0 + 10) 2 = _ from e1, e2]
  simp only [nI_e0 (show a < 1000000 by omega)]
  by_cases h0 : a = 0
  · rw [if_pos h0, if_pos h0]
    exact ⟨_, _, _, rfl, rfl, rl_thrown hR 0⟩
  · rw [if_neg h0, if_neg h0, nI_s1 (by omega)]
    obtain ⟨M3, r1, r2, r3⟩ := m_undo (n := a - 1) (by omega) 39 0 fw_fu (fw_set (fw_set Mr 199 0 0) 199 9 (nI (a - 1))) (by omega) (by omega) (by rw [st_e, up_e])
    have r4 : ∀ b, b ≠ 203 → b ≠ 199 → M3 b = fw_set Mr 199 0 0 b := fun b b1 b2 => by rw [r3 b b1, st_n b2]
    have r5 : ∀ i, i ≠ 9 → M3 199 i = fw_set Mr 199 0 0 199 i := fun i hi => by rw [r3 199 (by omega), st_n2 hi]
    have hst : (t + 24 - a + (a - 1)) % 24 = (t + 23) % 24 := by omega
    have ht2 : (t + 23) % 24 < 24 := by omega
    obtain ⟨f1, f2⟩ := e4 (a - 1) (by omega)
    rw [hst] at f1
    have hPs := (wf_of f2).1.2.2.1.2.1
    have h39 : ∀ i, i < 39 → M3 203 i = (fun i => fw_set Mr 199 0 0 206 (39 * (a - 1) + i)) i := fun i hi => by
      rw [r2, if_pos (by omega), st_n (by omega)]
    have hN : ∀ v w b, b ≠ 10 → fw_set (fw_set Mc 10 1 v) 10 2 w b = Mc b := fun v w b hb => by rw [st_n hb, st_n hb]
    obtain ⟨M2, q1, q2, q3⟩ := become_eq (o := 4) (r := 12 + 6 * ((t + 23) % 24)) (M := fw_set (fw_set Mc 10 1 (nI ((t + 23) % 24))) 10 2 (nI (a - 1))) (g := fun i => fw_set Mr 199 0 0 206 (39 * (a - 1) + i)) (g2 := M3 203) (by omega) (eq_cong f1 fun k _ _ => hN _ _ k (by omega)) hPs h39
    have hM2 : ∀ b, b ≠ 10 → (b < 4 ∨ 10 ≤ b) → M2 b = Mc b := fun b b1 b2 => by rw [q3 b (by omega), hN _ _ b b1]
    have hA : M2 10 2 = nI (a - 1) := by rw [q3 10 (by omega), st_e, up_e]
    have hT : M2 10 1 = nI ((t + 23) % 24) := by rw [q3 10 (by omega), st_n2 (by omega), st_e, up_e]
    have r6 : P_Mod_undo_h27 199 fw_fu (fw_set (fw_set Mr 199 0 0) 199 9 (nI (a - 1))) 0 = _ := r1
    have k1 : P_Acts_takeBack (0 + 10) (0 + 4) Mc = some M2 := by
      show P_Acts_takeBack_b0 10 4 Mc = _
      unfold P_Acts_takeBack_b0
      simp only [e1, nI_e0 (show a < 1000000 by omega), e3, pl_e]
      rw [if_neg h0, (rem24 t ht).2, bs_e, show fw_set Mc 10 1 (nI ((t + 23) % 24)) 10 2 = nI a from by rw [st_n2 (by omega)]; exact e1, nI_s1 (by omega), show fw_set (fw_set Mc 10 1 (nI ((t + 23) % 24))) 10 2 (nI (a - 1)) 10 1 = nI ((t + 23) % 24) from by rw [st_n2 (by omega), st_e, up_e], aix_n ht2 (by omega), bs_e, show 10 + 2 + 6 * ((t + 23) % 24) = 12 + 6 * ((t + 23) % 24) by omega, q1]
      rfl
    rw [k1, r6]
    refine ⟨nI (a - 1), M2, M3, congrArg some (Prod.ext hA rfl), rfl, ?_⟩
    refine ⟨by rw [hM2 0 (by omega) (by omega), r5 1 (by omega)]; exact a1, by rw [hM2 0 (by omega) (by omega), r5 18 (by omega)]; exact a2, ?_, ?_, ?_, ?_, ?_, ?_⟩
    · exact fr_rows a3 (fun k _ _ => hM2 k (by omega) (by omega)) (r4 _ (by omega) (by omega)) (r4 _ (by omega) (by omega)) (r4 _ (by omega) (by omega))
    · exact fr_tape a4 (by rw [hM2 2 (by omega) (by omega)]) (hM2 3 (by omega) (by omega)) (r5 11 (by omega)) (r4 _ (by omega) (by omega))
    · exact Or.inr ⟨q2, wf_39 h39 f2⟩
    · refine ⟨a - 1, (t + 23) % 24, by omega, ht2, hA, ?_, hT, fun j hj => ?_⟩
      · rw [r3 199 (by omega), st_e, up_e]
      · obtain ⟨f3, f4⟩ := e4 j (by omega)
        rw [show ((t + 23) % 24 + 24 - (a - 1) + j) % 24 = (t + 24 - a + j) % 24 by omega, r4 206 (by omega) (by omega)]
        exact ⟨eq_cong f3 fun k _ _ => hM2 k (by omega) (by omega), f4⟩
    · exact fr_imgs a7 (fun k _ _ => hM2 k (by omega) (by omega)) (r4 _ (by omega) (by omega)) (r4 _ (by omega) (by omega))
    · exact fr_trace a8 (by rw [hM2 169 (by omega) (by omega)]) (hM2 170 (by omega) (by omega)) (r5 23 (by omega)) (r4 _ (by omega) (by omega))
