/-! come, bow, revise: an act of which the hall before is kept -/
theorem p_bits (M : fw_M) {m : Nat} (hm : m < 128) : P_Mod_bits M (nI m) = some (nI (pc m 7)) := by
  have hfu := fw_fu_ge
  have key : ∀ (r j f : Nat), j + r = 7 → r < f → P_Mod_bits_h4 M f (nI m) (nI (pc m j)) (nI j) = some (nI (pc m 7)) := by
    intro r
    induction r with
    | zero =>
      intro j f hj hf
      obtain ⟨f, rfl⟩ : ∃ g, f = g + 1 := ⟨f - 1, by omega⟩
      show P_Mod_bits_b4 M _ _ _ _ = _
      unfold P_Mod_bits_b4
      rw [if_pos ((nI_g7 (by omega)).mpr (by omega)), show j = 7 by omega]
    | succ r ih =>
      intro j f hj hf
      obtain ⟨f, rfl⟩ : ∃ g, f = g + 1 := ⟨f - 1, by omega⟩
      show P_Mod_bits_b4 M _ _ _ _ = _
      unfold P_Mod_bits_b4
      rw [if_neg (fun z => by have := (nI_g7 (show j < 1000000 by omega)).mp z; omega), nI_s]
      simp only [pl_e]
      have h := ih (j + 1) f (by omega) (by omega)
      have e : nI (pc m j) + ((nI m >>> (nI j &&& 31)) &&& (1 : Int32)) = nI (pc m (j + 1)) := by
        cases hb : m.testBit j with
        | false =>
          rw [(bt_0 (by omega) (by omega)).mpr hb]
          simp [pc, hb]
        | true =>
          rw [(bt_1 (by omega) (by omega)).mpr hb, nI_s]
          simp [pc, hb]
      rw [e]
      exact h
  exact key 7 0 fw_fu (by omega) (by omega)
theorem j_bits {m : Nat} (hm : m < 128) : P_J6_bitCount (nI m) = some (nI (pc m 7)) := by
  have key : ∀ m, m < 128 → P_J6_bitCount (nI m) = some (nI (pc m 7)) := by decide +kernel
  exact key m hm
/-- one cell of one person -/
theorem rl_cell {Mc Mr : fw_M} (hR : rl Mc Mr) {p c : Nat} {v : Int32} (hp : p < gP (Mr 203)) (hc : c < 5) (hv : cw (gD (Mr 203)) c v) : rl (fw_set Mc (5 + c) p v) (fw_set Mr 203 (4 + 5 * p + c) v) := by
  obtain ⟨he, hW, hs1, hs2⟩ := hall_E hR (by omega)
  have hwf : rl_wf (Mr 203) := wf_to hW hs1 hs2
  have hP7 := hW.2.2.1.2.1
  have hix : ∀ q d, q < 7 → d < 5 → (4 + 5 * q + d = 4 + 5 * p + c ↔ q = p ∧ d = c) := fun q d hq hd => by omega
  obtain ⟨a1, a2, a3, a4, a5, a6, a7, a8⟩ := hR
  refine ⟨by rw [st_n (by omega), st_n (by omega)]; exact a1, by rw [st_n (by omega), st_n (by omega)]; exact a2, ?_, ?_, ?_, ?_, ?_, ?_⟩
  · exact fr_rows a3 (fun k _ _ => st_n (by omega)) (st_n (by omega)) (st_n (by omega)) (st_n (by omega))
  · exact fr_tape a4 (by rw [st_n (by omega)]) (st_n (by omega)) (by rw [st_n (by omega)]) (st_n (by omega))
  · refine Or.inr ⟨?_, ?_⟩
    · rw [eq_iff] at he ⊢
      rw [st_e]
      have eP : gP (upd (Mr 203) (4 + 5 * p + c) v) = gP (Mr 203) := by unfold gP; rw [up_n (by omega)]
      rw [eP]
      refine ⟨fun i hi => by rw [st_n (by omega), up_n (by omega)]; exact he.1 i hi, fun q hq d hd => ?_⟩
      by_cases h : q = p ∧ d = c
      · obtain ⟨rfl, rfl⟩ := h
        rw [up_e, show 4 + 1 + d = 5 + d by omega, st_e, up_e]
      · rw [up_n (fun z => h ((hix q d (by omega) hd).mp z))]
        by_cases hd2 : d = c
        · rw [show 4 + 1 + d = 5 + c by omega, st_e, up_n (fun z => h ⟨z, hd2⟩), show 5 + c = 4 + 1 + d by omega]
          exact he.2 q hq d hd
        · rw [st_n (by omega)]
          exact he.2 q hq d hd
    · rw [st_e]
      obtain ⟨D, Y, P, S, h1, ⟨g0, g1, g2, g3⟩, h2⟩ := wf_iff.mp hwf
      have hD : gD (Mr 203) = D := by unfold gD; rw [g0]; exact tC (by omega)
      refine wf_iff.mpr ⟨D, Y, P, S, h1, ⟨by rw [up_n (by omega)]; exact g0, by rw [up_n (by omega)]; exact g1, by rw [up_n (by omega)]; exact g2, by rw [up_n (by omega)]; exact g3⟩, fun q hq d hd => ?_⟩
      by_cases h : 4 + 5 * q + d = 4 + 5 * p + c
      · obtain ⟨rfl, rfl⟩ := (hix q d (by omega) hd).mp h
        rw [up_e, ← hD]
        exact hv
      · rw [up_n h]
        exact h2 q hq d hd
  · exact fr_acts a6 (fun k _ _ => st_n (by omega)) (by rw [st_n (by omega)]) (st_n (by omega))
  · exact fr_imgs a7 (fun k _ _ => st_n (by omega)) (st_n (by omega)) (st_n (by omega))
  · exact fr_trace a8 (by rw [st_n (by omega)]) (st_n (by omega)) (by rw [st_n (by omega)]) (st_n (by omega))
theorem orN_d (M : fw_M) {g : Nat → Int32} {p : Nat} : P_Door_orNone M (g (7 + 5 * p)) = some (if 0 ≤ gd g p then g (7 + 5 * p) else -1000000) := by
  rw [p_orNone]
  by_cases h : 0 ≤ gd g p
  · rw [if_pos h, if_neg (show ¬ (g (7 + 5 * p)).toInt < 0 from fun z => by unfold gd at h; omega)]
  · rw [if_neg h, if_pos (show (g (7 + 5 * p)).toInt < 0 by unfold gd at h; omega)]
theorem ow_come {Mc Mr : fw_M} (hR : rl Mc Mr) (a0 : Int32) (a1 : Int32) : ∃ (r : Int32) (Mc2 Mr2 : fw_M), P_Door_come 0 Mc a0 a1 = some (r, Mc2) ∧ P_Mod_come 199 Mr a0 a1 = some (r, Mr2) ∧ rl Mc2 Mr2 := by
  unfold P_Door_come P_Door_come_b0 P_Door_come_b16 P_Mod_come P_Mod_come_b0 P_Mod_come_b21 P_Mod_come_b69
  have hR2 := rl_thrown hR 0
  have hG : fw_set Mr 199 0 0 203 = Mr 203 := st_n (by omega)
  obtain ⟨e1, e2, e3, e4, h7, hd4, hPD, e5⟩ := hall_P hR
  simp only [pl_e]
  rw [p_isPerson (o := 0) e1 (by omega), m_isPerson (o := 199) (by rw [hG]; exact e2) (by omega), p_isDoor (o := 0) e3 (by omega), m_isDoor (o := 199) (by rw [hG]; exact e4) (by omega)]
  simp only [bs_e, b1_0]
  by_cases h0 : 0 ≤ a0.toInt ∧ a0.toInt < (gP (Mr 203) : Int)
  · obtain ⟨p, hp, rfl⟩ := per_x h0
    simp only [h0, and_self, not_true, if_false]
    by_cases h1 : 0 ≤ a1.toInt ∧ a1.toInt < (gD (Mr 203) : Int)
    · obtain ⟨d, hd, rfl⟩ := per_x h1
      simp only [h1, and_self, not_true, if_false]
      have cd := ce_d hR2 hG hp
      have cd1 : fw_ald Mc (0 + 4 + 4) 7 (nI p) = _ := cd.1
      have cd2 : P_Mod_of (199 + 4) (fw_set Mr 199 0 0) (nI p) 3 = _ := cd.2
      rw [cd1, cd2]
      simp only [bs_e]
      by_cases hc : Mr 203 (7 + 5 * p) = nI d
      · rw [if_pos hc, if_pos hc]
        exact ⟨_, _, _, rfl, rfl, hR2⟩
      · rw [if_neg hc, if_neg hc]
        obtain ⟨M2, M3, k1, k2, k3, k4, -⟩ := keep_e hR2 (by rw [hG]; omega)
        rw [hG] at k4
        have hcell := rl_cell (p := p) (c := 3) (v := nI d) k3 (by rw [k4]; exact hp) (by omega) (by rw [k4]; exact Or.inr ⟨d, hd, rfl⟩)
        have k5 : P_Acts_keep (0 + 10) (0 + 4) Mc = some M2 := k1
        rw [k5, k2]
        simp only [bs_e]
        rw [show fw_ast M2 (0 + 4 + 4) 7 (nI p) (nI d) = some (fw_set M2 8 p (nI d)) from ast_n (by omega) (by omega), show ((4 : Int32) + ((5 : Int32) * nI p)) + (3 : Int32) = nI (4 + 5 * p + 3) from ix_y (c := 3) rfl, show fw_ast M3 (199 + 4) 39 (nI (4 + 5 * p + 3)) (nI d) = some (fw_set M3 203 (4 + 5 * p + 3) (nI d)) from ast_n (by omega) (by omega)]
        simp only [bs_e, orN_d, gd_0]
        by_cases hg : 0 ≤ gd (Mr 203) p
        · rw [if_pos hg, if_pos hg]
          exact ⟨_, _, _, rfl, rfl, hcell⟩
        · rw [if_neg hg, if_neg hg]
          exact ⟨_, _, _, rfl, rfl, hcell⟩
    · simp only [h1, not_false_iff, if_true]
      exact ⟨_, _, _, rfl, rfl, hR2⟩
  · simp only [h0, not_false_iff, if_true]
    exact ⟨_, _, _, rfl, rfl, hR2⟩
theorem ow_bow {Mc Mr : fw_M} (hR : rl Mc Mr) (a0 : Int32) : ∃ (r : Int32) (Mc2 Mr2 : fw_M), P_Door_bow 0 Mc a0 = some (r, Mc2) ∧ P_Mod_bow 199 Mr a0 = some (r, Mr2) ∧ rl Mc2 Mr2 := by
  unfold P_Door_bow P_Door_bow_b0 P_Mod_bow P_Mod_bow_b0
  have hR2 := rl_thrown hR 0
  have hG : fw_set Mr 199 0 0 203 = Mr 203 := st_n (by omega)
  obtain ⟨e1, e2, e3, e4, h7, hd4, hPD, e5⟩ := hall_P hR
  simp only [pl_e]
  rw [p_isPerson (o := 0) e1 (by omega), m_isPerson (o := 199) (by rw [hG]; exact e2) (by omega)]
  simp only [bs_e, b1_0]
  by_cases h0 : 0 ≤ a0.toInt ∧ a0.toInt < (gP (Mr 203) : Int)
  · obtain ⟨p, hp, rfl⟩ := per_x h0
    simp only [h0, and_self, not_true, if_false]
    obtain ⟨he, hW, -⟩ := hall_E hR (by omega)
    have hwd := (hW.2.2.2 p hp).2.2.2.1
    have cd := ce_d hR2 hG hp
    have cd1 : fw_ald Mc (0 + 4 + 4) 7 (nI p) = _ := cd.1
    have cd2 : P_Mod_of (199 + 4) (fw_set Mr 199 0 0) (nI p) 3 = _ := cd.2
    rw [cd1, cd2]
    simp only [bs_e, gd_m, gd_0]
    by_cases hc : gd (Mr 203) p = -1
    · rw [if_pos hc, if_neg (by omega)]
      exact ⟨_, _, _, rfl, rfl, hR2⟩
    · rw [if_neg hc, if_pos (by omega)]
      obtain ⟨M2, M3, k1, k2, k3, k4, -⟩ := keep_e hR2 (by rw [hG]; omega)
      rw [hG] at k4
      obtain ⟨⟨y1, y2, y3⟩, -⟩ := hW.2
      have hcell := rl_cell (p := p) (c := 4) (v := nI (gY (Mr 203))) k3 (by rw [k4]; exact hp) (by omega) (by rw [k4]; exact ⟨gY (Mr 203), y2, rfl⟩)
      have hE := hall_E k3 (by rw [k4]; omega)
      have hY1 : M2 (0 + 4) 1 = nI (gY (Mr 203)) := by
        have := (he_x hE.1 hE.2.1).2.1
        rw [k4] at this
        exact this
      have k5 : P_Acts_keep (0 + 10) (0 + 4) Mc = some M2 := k1
      rw [k5, k2]
      simp only [bs_e]
      have hn2 : 4 + 5 * p + 4 ≠ 2 := by omega
      have hG3 : gP (fw_set M3 203 (4 + 5 * p + 4) (nI (gY (Mr 203))) 203) = gP (Mr 203) := by
        rw [st_e]; unfold gP; rw [up_n (by omega), k4]
      have hE4 := hall_E hcell (by rw [hG3]; omega)
      rw [hY1, show fw_ast M2 (0 + 4 + 5) 7 (nI p) (nI (gY (Mr 203))) = some (fw_set M2 (5 + 4) p (nI (gY (Mr 203)))) from ast_n (by omega) (by omega), show fw_ald M3 (199 + 4) 39 (1 : Int32) = some (M3 203 1) from ald_n (j := 1) (by omega) (by omega), bs_e, bs_e, k4, y3, show ((4 : Int32) + ((5 : Int32) * nI p)) + (4 : Int32) = nI (4 + 5 * p + 4) from ix_y (c := 4) rfl, show fw_ast M3 (199 + 4) 39 (nI (4 + 5 * p + 4)) (nI (gY (Mr 203))) = some (fw_set M3 203 (4 + 5 * p + 4) (nI (gY (Mr 203)))) from ast_n (by omega) (by omega)]
      simp only [bs_e]
      have q1 : P_Hall_nobodies (0 + 4) (fw_set M2 (5 + 4) p (nI (gY (Mr 203)))) = _ := p_nobodies hE4.1 hE4.2.1
      have q2 : P_Mod_nobodies (199 + 4) (fw_set M3 203 (4 + 5 * p + 4) (nI (gY (Mr 203)))) = _ := m_nobodies (a := 203) hE4.2.1
      rw [q1, q2]
      simp only [bs_e]
      rw [j_bits (nm_128 hE4.2.1), p_bits _ (nm_128 hE4.2.1)]
      exact ⟨_, _, _, rfl, rfl, hcell⟩
  · simp only [h0, not_false_iff, if_true]
    exact ⟨_, _, _, rfl, rfl, hR2⟩
