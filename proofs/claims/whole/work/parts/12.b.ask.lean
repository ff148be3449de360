/-! count, person, door -/
theorem rows_n {Mc Mr : fw_M} (hR : ∀ i, i < 8 → rl_row Mc Mr i) : ∀ (r j f f2 : Nat) (x : Int32), j + r = 8 → r < f → r < f2 → ∃ v, P_Door_rowsThere_h4 0 Mc f x (nI j) = some v ∧ P_Mod_count_h58 199 f2 Mr x (nI j) = some (v, Mr) := by
  intro r
  induction r with
  | zero =>
    intro j f f2 x hj hf hf2
    obtain ⟨f, rfl⟩ : ∃ g, f = g + 1 := ⟨f - 1, by omega⟩
    obtain ⟨f2, rfl⟩ : ∃ g, f2 = g + 1 := ⟨f2 - 1, by omega⟩
    have h8 : (8 : Int32) ≤ nI j := (nI_le2 (by omega) (by omega) : nI 8 ≤ nI j ↔ 8 ≤ j).mpr (by omega)
    refine ⟨x, ?_, ?_⟩
    · show P_Door_rowsThere_b4 0 Mc _ _ _ = _
      unfold P_Door_rowsThere_b4
      rw [if_pos h8]
    · show P_Mod_count_b58 199 _ Mr _ _ = _
      unfold P_Mod_count_b58
      rw [if_pos h8]
  | succ r ih =>
    intro j f f2 x hj hf hf2
    obtain ⟨f, rfl⟩ : ∃ g, f = g + 1 := ⟨f - 1, by omega⟩
    obtain ⟨f2, rfl⟩ : ∃ g, f2 = g + 1 := ⟨f2 - 1, by omega⟩
    have h8 : ¬ (8 : Int32) ≤ nI j := fun h => by
      have := (nI_le2 (by omega) (by omega) : nI 8 ≤ nI j ↔ 8 ≤ j).mp h
      omega
    have e1 : ∀ x, P_Door_rowsThere_h4 0 Mc (f + 1) x (nI j) = P_Door_rowsThere_h4 0 Mc f (if Mc (171 + 2 * j) 2 = -1 then x else x + 1) (nI (j + 1)) := by
      intro x
      show P_Door_rowsThere_b4 0 Mc _ _ _ = _
      unfold P_Door_rowsThere_b4 P_Door_rowsThere_b25
      rw [if_neg h8, aix_n (by omega) (by omega), bs_e, p_isMissing, bs_e, Nat.zero_add, nI_s]
      simp only [b1_0]
      by_cases h : Mc (171 + 2 * j) 2 = -1
      · rw [if_neg (fun z => z h), if_pos h]
      · rw [if_pos h, if_neg h]
    have e2 : ∀ x, P_Mod_count_h58 199 (f2 + 1) Mr x (nI j) = P_Mod_count_h58 199 f2 Mr (if Mr 200 j < 0 then x else x + 1) (nI (j + 1)) := by
      intro x
      show P_Mod_count_b58 199 _ Mr _ _ = _
      unfold P_Mod_count_b58 P_Mod_count_b79
      rw [if_neg h8, show fw_ald Mr (199 + 1) 8 (nI j) = some (Mr 200 j) from ald_n (by omega) (by omega), bs_e, nI_s]
      simp only [pl_e]
      by_cases h : Mr 200 j < 0
      · rw [if_pos h, if_pos h, Int32.add_zero]
      · rw [if_neg h, if_neg h]
    rw [e1, e2]
    rcases hR j (by omega) with ⟨a1, a2⟩ | ⟨n, l, hn, hl, a1, -, -, a2, -⟩
    · rw [if_pos a1, if_pos (by rw [a2]; decide)]
      exact ih (j + 1) f f2 x (by omega) (by omega) (by omega)
    · rw [if_neg (by rw [a1]; exact nI_m1 (by omega)), if_neg (by rw [a2, nI_z3 (by omega)]; exact id)]
      exact ih (j + 1) f f2 (x + 1) (by omega) (by omega) (by omega)
theorem gd_0 {g : Nat → Int32} {p : Nat} : (0 : Int32) ≤ g (7 + 5 * p) ↔ 0 ≤ gd g p := by
  rw [Int32.le_iff_toInt_le]; rfl
theorem gd_m {g : Nat → Int32} {p : Nat} : g (7 + 5 * p) = -1 ↔ gd g p = -1 := by
  rw [toInt_eq]; rfl
theorem m_out {M : fw_M} (hw : WF (M 203)) : ∀ (r j f : Nat), j + r = gP (M 203) → r < f → P_Mod_count_h112 199 f M (nI (mk (fun p => decide (gd (M 203) p = -1)) j)) (nI j) = some (nI (wm (M 203) (-1)), M) := by
  have h7 := hw.2.2.1.2.1
  have hP : fw_ald M (199 + 4) 39 (2 : Int32) = _ := m_P hw
  intro r
  induction r with
  | zero =>
    intro j f hj hf
    obtain ⟨f, rfl⟩ : ∃ g, f = g + 1 := ⟨f - 1, by omega⟩
    show P_Mod_count_b112 199 _ M _ _ = _
    unfold P_Mod_count_b112
    rw [hP]
    simp only [bs_e, nI_le2 (show gP (M 203) < 1000000 by omega) (show j < 1000000 by omega)]
    rw [if_pos (by omega), show j = gP (M 203) by omega]
    rfl
  | succ r ih =>
    intro j f hj hf
    obtain ⟨f, rfl⟩ : ∃ g, f = g + 1 := ⟨f - 1, by omega⟩
    have h := ih (j + 1) f (by omega) (by omega)
    have hd := (hw.2.2.2 j (by omega)).2.2.2.1
    show P_Mod_count_b112 199 _ M _ _ = _
    unfold P_Mod_count_b112 P_Mod_count_b142
    rw [hP, show P_Mod_of (199 + 4) M (nI j) 3 = _ from m_of3 (by omega)]
    simp only [bs_e, nI_le2 (show gP (M 203) < 1000000 by omega) (show j < 1000000 by omega), gd_0, pl_e, or_0, nI_s]
    rw [if_neg (by omega)]
    by_cases hc : 0 ≤ gd (M 203) j
    · rw [if_pos hc]
      rw [mk_z _ (by simp; omega)] at h
      exact h
    · rw [if_neg hc, mk_s _ (by omega) (by simp; omega)]
      exact h
theorem ow_count {Mc Mr : fw_M} (hR : rl Mc Mr) (a0 : Int32) : ∃ (r : Int32) (Mr2 : fw_M), P_Door_count 0 Mc a0 = some r ∧ P_Mod_count 199 Mr a0 = some (r, Mr2) ∧ rl Mc Mr2 := by
  have hfu := fw_fu_ge
  have hR2 := rl_thrown hR 0
  have hG : fw_set Mr 199 0 0 203 = Mr 203 := st_n (by omega)
  obtain ⟨e1, e2, e3, e4, h7, hd4, h0, e5⟩ := hall_P hR
  unfold P_Door_count P_Door_count_b0 P_Mod_count P_Mod_count_b0
  simp only [pl_e]
  by_cases c0 : a0 = 0
  · rw [if_pos c0, if_pos c0]
    obtain ⟨v, q1, q2⟩ := rows_n hR2.2.2.1 8 0 fw_fu fw_fu 0 (by omega) (by omega) (by omega)
    have q3 : P_Door_rowsThere 0 Mc = some v := q1
    rw [q3, bs_e]
    exact ⟨_, _, rfl, q2, hR2⟩
  rw [if_neg c0, if_neg c0]
  by_cases c1 : a0 = 1
  · rw [if_pos c1, if_pos c1, show fw_ald (fw_set Mr 199 0 0) (199 + 4) 39 (0 : Int32) = some (fw_set Mr 199 0 0 203 0) from ald_n (j := 0) (by omega) (by omega), bs_e, hG, e4]
    exact ⟨_, _, congrArg some e3, rfl, hR2⟩
  rw [if_neg c1, if_neg c1]
  by_cases c2 : a0 = 2
  · rw [if_pos c2, if_pos c2, show fw_ald (fw_set Mr 199 0 0) (199 + 4) 39 (2 : Int32) = some (fw_set Mr 199 0 0 203 2) from ald_n (j := 2) (by omega) (by omega), bs_e, hG, e2]
    exact ⟨_, _, congrArg some e1, rfl, hR2⟩
  rw [if_neg c2, if_neg c2]
  by_cases c3 : a0 = 3
  · rw [if_pos c3, if_pos c3, show fw_ald (fw_set Mr 199 0 0) (199 + 4) 39 (3 : Int32) = some (fw_set Mr 199 0 0 203 3) from ald_n (j := 3) (by omega) (by omega), bs_e, hG]
    exact ⟨_, _, congrArg some e5, rfl, hR2⟩
  rw [if_neg c3, if_neg c3]
  by_cases c4 : a0 = 4
  · rw [if_pos c4, if_pos c4]
    by_cases hP : gP (Mr 203) = 0
    · obtain ⟨f, hf⟩ : ∃ g, fw_fu = g + 1 := ⟨fw_fu - 1, by omega⟩
      have q1 : P_Hall_waitingAt (0 + 4) Mc (-1) = some 0 := by
        unfold P_Hall_waitingAt P_Hall_waitingAt_b0
        rw [hf]
        show P_Hall_waitingAt_b4 4 Mc _ _ _ _ = _
        unfold P_Hall_waitingAt_b4
        rw [e1, hP, if_pos (by decide)]
      have q2 : P_Mod_count_h112 199 fw_fu (fw_set Mr 199 0 0) 0 0 = some (0, fw_set Mr 199 0 0) := by
        rw [hf]
        show P_Mod_count_b112 199 _ _ _ _ = _
        unfold P_Mod_count_b112
        rw [show fw_ald (fw_set Mr 199 0 0) (199 + 4) 39 (2 : Int32) = some (fw_set Mr 199 0 0 203 2) from ald_n (j := 2) (by omega) (by omega), bs_e, hG, e2, hP, if_pos (by decide)]
      rw [q1, q2]
      exact ⟨_, _, rfl, rfl, hR2⟩
    · obtain ⟨he, hw, -⟩ := hall_E hR (by omega)
      have q1 : P_Hall_waitingAt (0 + 4) Mc (-1) = some (nI (wm (Mr 203) (-1))) := p_waitingAt he hw (-1)
      have q2 : P_Mod_count_h112 199 fw_fu (fw_set Mr 199 0 0) 0 0 = _ := m_out (M := fw_set Mr 199 0 0) (by rw [hG]; exact hw) (gP (Mr 203)) 0 fw_fu (by rw [hG]; omega) (by omega)
      rw [q1, q2, hG]
      exact ⟨_, _, rfl, rfl, hR2⟩
  rw [if_neg c4, if_neg c4]
  by_cases c5 : a0 = 5
  · rw [if_pos c5, if_pos c5]
    by_cases hP : gP (Mr 203) = 0
    · obtain ⟨f, hf⟩ : ∃ g, fw_fu = g + 1 := ⟨fw_fu - 1, by omega⟩
      have q1 : P_Hall_nobodies (0 + 4) Mc = some 0 := by
        unfold P_Hall_nobodies P_Hall_nobodies_b0
        rw [hf]
        show P_Hall_nobodies_b4 4 Mc _ _ _ = _
        unfold P_Hall_nobodies_b4
        rw [e1, hP, if_pos (by decide)]
      have q2 : P_Mod_nobodies (199 + 4) (fw_set Mr 199 0 0) = some 0 := by
        unfold P_Mod_nobodies P_Mod_nobodies_b0
        rw [hf]
        show P_Mod_nobodies_b4 203 _ _ _ _ = _
        unfold P_Mod_nobodies_b4
        rw [show fw_ald (fw_set Mr 199 0 0) 203 39 (2 : Int32) = some (fw_set Mr 199 0 0 203 2) from ald_n (j := 2) (by omega) (by omega), bs_e, hG, e2, hP, if_pos (by decide)]
      rw [q1, q2]
      exact ⟨_, _, rfl, rfl, hR2⟩
    · obtain ⟨he, hw, -⟩ := hall_E hR (by omega)
      have q1 : P_Hall_nobodies (0 + 4) Mc = some (nI (nm (Mr 203))) := p_nobodies he hw
      have q2 : P_Mod_nobodies (199 + 4) (fw_set Mr 199 0 0) = _ := m_nobodies (a := 203) (M := fw_set Mr 199 0 0) (by rw [hG]; exact hw)
      rw [q1, q2, hG]
      exact ⟨_, _, rfl, rfl, hR2⟩
  rw [if_neg c5, if_neg c5]
  by_cases c6 : a0 = 6
  · rw [if_pos c6, if_pos c6]
    obtain ⟨a, t, -, -, q1, q2, -⟩ := hR2.2.2.2.2.2.1
    rw [q2]
    exact ⟨_, _, congrArg some q1, rfl, hR2⟩
  rw [if_neg c6, if_neg c6]
  by_cases c7 : a0 = 7
  · rw [if_pos c7, if_pos c7]
    obtain ⟨n, -, q1, q2, -⟩ := hR2.2.2.2.1
    rw [q2]
    exact ⟨_, _, congrArg some q1, rfl, hR2⟩
  rw [if_neg c7, if_neg c7]
  exact ⟨_, _, rfl, rfl, hR2⟩
/-- the law of the hall, in the scratch -/
theorem lawOf_e {Mc Mr : fw_M} (hR : rl Mc Mr) (h : 0 < gP (Mr 203)) : ∃ M2, P_Fore_lawOf 157 4 Mc = some M2 ∧ LR M2 164 (ymk (Mr 203)) ∧ rl M2 Mr ∧ ∀ b, b ≠ 165 → M2 b = Mc b := by
  obtain ⟨he, hw, -⟩ := hall_E hR h
  obtain ⟨M2, q1, q2, q3⟩ := p_law (k := 164) he hw (by omega)
  refine ⟨M2, ?_, q2, rl_sc hR (fun k hk => q3 k (by omega)), q3⟩
  show (P_Law_read 164 4 Mc).bind _ = _
  rw [q1]
  rfl
theorem sd_yto {g : Nat → Int32} (hw : WF g) {p : Nat} (hp : p < gP g) (hd : 0 ≤ gd g p) : sd (ymk g p &&& wm g (gd g p)) (nm g) = yto g p := by
  have h7 := hw.2.2.1.2.1
  refine bx7 (sd_128 _ _) (yto_128 hw p) fun i hi => ?_
  rw [sd_b hi, Nat.testBit_and]
  unfold ymk wm nm yto
  rw [if_pos hp, mk_b, mk_b, mk_b, mk_b]
  by_cases hiP : i < gP g
  · simp only [hiP, decide_true, Bool.true_and, hd]
    by_cases h1 : i = p
    · simp [h1]
    · by_cases h2 : gd g i = gd g p
      · by_cases h3 : gb g i = 0
        · simp [h1, h2, h3]
        · simp [h1, h2, h3, show 0 < gb g i by omega]
      · simp [h2]
  · simp [hiP]
theorem orN (M : fw_M) {x : Option Nat} (hx : ∀ p, x = some p → p < 7) : P_Door_orNone M (oN x) = some (oM x) := by
  rw [p_orNone]
  cases x with
  | none => rfl
  | some p =>
    have h7 := hx p rfl
    have e : (oN (some p)).toInt = (p : Int) := tI (by omega)
    rw [if_neg (by rw [e]; omega)]
    rfl
theorem ow_door {Mc Mr : fw_M} (hR : rl Mc Mr) (a0 : Int32) (a1 : Int32) : ∃ (r : Int32) (Mc2 Mr2 : fw_M), P_Door_door 0 Mc a0 a1 = some (r, Mc2) ∧ P_Mod_door 199 Mr a0 a1 = some (r, Mr2) ∧ rl Mc2 Mr2 := by
  unfold P_Door_door P_Door_door_b0 P_Door_door_b22 P_Door_door_b23 P_Door_door_b78 P_Mod_door P_Mod_door_b0 P_Mod_door_b33 P_Mod_door_b59
  have hR2 := rl_thrown hR 0
  have hG : fw_set Mr 199 0 0 203 = Mr 203 := st_n (by omega)
  obtain ⟨e1, e2, e3, e4, h7, hd4, hPD, e5⟩ := hall_P hR
  simp only [pl_e]
  rw [p_isDoor (o := 0) e3 (by omega), m_isThere (o := 199) (by rw [hG]; exact e4) (by omega), m_isDoor (o := 199) (by rw [hG]; exact e4) (by omega), p_w0 Mc a1 (hi := 1) (n := 1) rfl, p_in0 _ a1 (hi := 1) (n := 1) rfl, p_refusal (o := 0) e1 (by omega), p_refusal (o := 0) e1 (by omega)]
  simp only [bs_e, b1_0]
  by_cases hP : gP (Mr 203) = 0
  · have hD := hPD.mp hP
    rw [if_pos (show ¬ (0 ≤ a0.toInt ∧ a0.toInt < (gD (Mr 203) : Int)) by omega), if_pos hP, if_pos (show ¬ 0 < gD (Mr 203) by omega), if_neg (by decide)]
    exact ⟨_, _, _, rfl, rfl, hR2⟩
  · obtain ⟨he, hw, -⟩ := hall_E hR (by omega)
    rw [if_neg (show ¬ ¬ 0 < gD (Mr 203) by omega), if_neg hP, if_neg hP]
    by_cases h0 : 0 ≤ a0.toInt ∧ a0.toInt < (gD (Mr 203) : Int)
    · simp only [h0, and_self, not_true, if_false]
      by_cases h1 : 0 ≤ a1.toInt ∧ a1.toInt ≤ 1
      · simp only [h1, and_self, not_true, if_false, if_neg (show ¬ (1 : Int32) = 0 by decide), if_true]
        have q1 : P_Hall_waitingAt (0 + 4) Mc a0 = some (nI (wm (Mr 203) a0.toInt)) := p_waitingAt he hw a0
        have q2 : P_Mod_waiting (199 + 4) (fw_set Mr 199 0 0) a0 = _ := m_waiting (a := 203) (M := fw_set Mr 199 0 0) (by rw [hG]; exact hw) a0
        have q3 : P_Mod_goesAt (199 + 4) (fw_set Mr 199 0 0) a0 = _ := m_goesAt (a := 203) (M := fw_set Mr 199 0 0) (by rw [hG]; exact hw) h0.1
        rw [q1, q2, q3, hG]
        simp only [bs_e]
        by_cases hx : a1 = 0
        · rw [if_pos hx, if_pos hx]
          exact ⟨_, _, _, rfl, rfl, hR2⟩
        · rw [if_neg hx, if_neg hx]
          obtain ⟨M2, l1, l2, l3, l4⟩ := lawOf_e hR2 (by rw [hG]; omega)
          rw [hG] at l2
          have he2 : rl_eq M2 4 (Mr 203) := eq_cong he fun k _ _ => l4 k (by omega)
          have q4 : P_Hall_nobodies (0 + 4) M2 = some (nI (nm (Mr 203))) := p_nobodies he2 hw
          have q5 : P_Law_first (0 + 157 + 7) M2 (nI (wm (Mr 203) a0.toInt)) (nI (nm (Mr 203))) = _ := p_first l2 (wm_128 hw _) (nm_128 hw)
          rw [show P_Fore_lawOf (0 + 157) (0 + 4) Mc = _ from l1, bs_e, q4, bs_e, q5, bs_e, show ff (okc (ymk (Mr 203)) (wm (Mr 203) a0.toInt) (nm (Mr 203))) 7 0 = go (Mr 203) a0.toInt from rfl, orN M2 go_7, bs_e]
          exact ⟨_, _, _, rfl, rfl, l3⟩
      · simp only [h1, not_false_iff, if_true, if_neg (show ¬ (-1000001 : Int32) = 0 by decide)]
        exact ⟨_, _, _, rfl, rfl, hR2⟩
    · simp only [h0, not_false_iff, if_true, if_neg (show ¬ (-1000001 : Int32) = 0 by decide)]
      exact ⟨_, _, _, rfl, rfl, hR2⟩
theorem ow_person {Mc Mr : fw_M} (hR : rl Mc Mr) (a0 : Int32) (a1 : Int32) : ∃ (r : Int32) (Mc2 Mr2 : fw_M), P_Door_person 0 Mc a0 a1 = some (r, Mc2) ∧ P_Mod_person 199 Mr a0 a1 = some (r, Mr2) ∧ rl Mc2 Mr2 := by
  unfold P_Door_person P_Door_person_b0 P_Door_person_b137 P_Door_person_b138 P_Door_person_b178 P_Mod_person P_Mod_person_b0 P_Mod_person_b102 P_Mod_person_b129
  have hR2 := rl_thrown hR 0
  have hG : fw_set Mr 199 0 0 203 = Mr 203 := st_n (by omega)
  obtain ⟨e1, e2, e3, e4, h7, hd4, hPD, e5⟩ := hall_P hR
  simp only [pl_e]
  rw [p_isPerson (o := 0) e1 (by omega), m_isPerson (o := 199) (by rw [hG]; exact e2) (by omega)]
  simp only [bs_e, b1_0]
  by_cases h0 : 0 ≤ a0.toInt ∧ a0.toInt < (gP (Mr 203) : Int)
  · obtain ⟨p, hp, rfl⟩ := per_x h0
    simp only [h0, and_self, not_true, if_false]
    obtain ⟨he, hw, -⟩ := hall_E hR (by omega)
    have hwp := hw.2.2.2 p hp
    have cr := ce_r hR2 hG hp
    have ch := ce_h hR2 hG hp
    have cd := ce_d hR2 hG hp
    have cb := ce_b hR2 hG hp
    have cr1 : fw_ald Mc (0 + 4 + 2) 7 (nI p) = _ := cr.1
    have ch1 : fw_ald Mc (0 + 4 + 3) 7 (nI p) = _ := ch.1
    have cd1 : fw_ald Mc (0 + 4 + 4) 7 (nI p) = _ := cd.1
    have cb1 : fw_ald Mc (0 + 4 + 5) 7 (nI p) = _ := cb.1
    have cr2 : P_Mod_of (199 + 4) (fw_set Mr 199 0 0) (nI p) 1 = _ := cr.2
    have ch2 : P_Mod_of (199 + 4) (fw_set Mr 199 0 0) (nI p) 2 = _ := ch.2
    have cd2 : P_Mod_of (199 + 4) (fw_set Mr 199 0 0) (nI p) 3 = _ := cd.2
    have cb2 : P_Mod_of (199 + 4) (fw_set Mr 199 0 0) (nI p) 4 = _ := cb.2
    have cm : P_Mod_may (199 + 4) (fw_set Mr 199 0 0) (nI p) = _ := m_may (a := 203) (M := fw_set Mr 199 0 0) (by rw [hG]; exact hw) (by rw [hG]; exact hp)
    have cy : P_Mod_yieldsTo (199 + 4) (fw_set Mr 199 0 0) (nI p) = _ := m_yieldsTo (a := 203) (M := fw_set Mr 199 0 0) (by rw [hG]; exact hw) (by rw [hG]; exact hp)
    rw [cr1, ch1, cd1, cb1, cr2, ch2, cd2, cb2, cm, cy, hG]
    simp only [bs_e, p_orNone, gd_0, gd_m, b1_0]
    obtain ⟨M2, l1, l2, l3, l4⟩ := lawOf_e hR2 (by rw [hG]; omega)
    rw [hG] at l2
    have he2 : rl_eq M2 4 (Mr 203) := eq_cong he fun k _ _ => l4 k (by omega)
    have l5 : P_Fore_lawOf (0 + 157) (0 + 4) Mc = some M2 := l1
    have q4 : P_Hall_nobodies (0 + 4) M2 = some (nI (nm (Mr 203))) := p_nobodies he2 hw
    have q5 : P_Hall_waitingAt (0 + 4) M2 (Mr 203 (7 + 5 * p)) = some (nI (wm (Mr 203) (gd (Mr 203) p))) := p_waitingAt he2 hw _
    have q6 : P_Law_lets (0 + 157 + 7) M2 (nI p) (nI (wm (Mr 203) (gd (Mr 203) p))) (nI (nm (Mr 203))) = _ := p_lets l2 (by omega) (nm_128 hw)
    rw [l5]
    simp only [bs_e]
    rw [q4, q5]
    simp only [bs_e]
    rw [q6]
    simp only [bs_e, b1_0]
    by_cases c0 : a1 = 0
    · rw [if_pos c0, if_pos c0]; exact ⟨_, _, _, rfl, rfl, hR2⟩
    rw [if_neg c0, if_neg c0]
    by_cases c1 : a1 = 1
    · rw [if_pos c1, if_pos c1]; exact ⟨_, _, _, rfl, rfl, hR2⟩
    rw [if_neg c1, if_neg c1]
    by_cases c2 : a1 = 2
    · rw [if_pos c2, if_pos c2]
      refine ⟨_, _, _, rfl, ?_, hR2⟩
      by_cases hd : 0 ≤ gd (Mr 203) p
      · rw [if_pos hd, if_neg (show ¬ (Mr 203 (7 + 5 * p)).toInt < 0 from fun z => by unfold gd at hd; omega)]
      · rw [if_neg hd, if_pos (show (Mr 203 (7 + 5 * p)).toInt < 0 by unfold gd at hd; omega)]
    rw [if_neg c2, if_neg c2]
    by_cases c3 : a1 = 3
    · rw [if_pos c3, if_pos c3]; exact ⟨_, _, _, rfl, rfl, hR2⟩
    rw [if_neg c3, if_neg c3]
    by_cases c4 : a1 = 4
    · rw [if_pos c4, if_pos c4]
      by_cases hd : gd (Mr 203) p = -1
      · rw [if_pos hd, if_pos (show ¬ (0 ≤ gd (Mr 203) p ∧ (0 < gb (Mr 203) p ∨ yto (Mr 203) p = 0)) by omega)]
        exact ⟨_, _, _, rfl, rfl, hR2⟩
      · have hd0 : 0 ≤ gd (Mr 203) p := by omega
        rw [if_neg hd, sd_yto hw hp hd0]
        have hnb : (nm (Mr 203)).testBit p = true ↔ 0 < gb (Mr 203) p := by unfold nm; rw [mk_b]; simp [hp]
        simp only [hnb]
        by_cases hm : 0 < gb (Mr 203) p ∨ yto (Mr 203) p = 0
        · rw [if_neg (fun z => z hm), if_neg (fun z => z ⟨hd0, hm⟩)]
          exact ⟨_, _, _, rfl, rfl, l3⟩
        · rw [if_pos hm, if_pos (fun z => hm z.2)]
          exact ⟨_, _, _, rfl, rfl, l3⟩
    rw [if_neg c4, if_neg c4]
    by_cases c5 : a1 = 5
    · rw [if_pos c5, if_pos c5]
      by_cases hd : gd (Mr 203) p = -1
      · rw [if_pos hd]
        have : yto (Mr 203) p = 0 := by
          refine bx7 (yto_128 hw p) (by omega) fun i hi => ?_
          unfold yto
          rw [mk_b, Nat.zero_testBit]
          simp [hd]
        rw [this]
        exact ⟨_, _, _, rfl, rfl, hR2⟩
      · have hd0 : 0 ≤ gd (Mr 203) p := by omega
        rw [if_neg hd]
        unfold P_Law_yielded P_Law_yielded_b0
        obtain ⟨lp1, lp2⟩ := l2 p (by omega)
        rw [show fw_ald M2 (0 + 157 + 7 + 1) 7 (nI p) = some (M2 165 p) from ald_n (by omega) (by omega), bs_e, show M2 165 p = _ from lp1, fa_and, sd_n (and_128 lp2), sd_yto hw hp hd0]
        exact ⟨_, _, _, rfl, rfl, l3⟩
    rw [if_neg c5, if_neg c5]
    exact ⟨_, _, _, rfl, rfl, hR2⟩
  · simp only [h0, not_false_iff, if_true]
    exact ⟨_, _, _, rfl, rfl, hR2⟩
