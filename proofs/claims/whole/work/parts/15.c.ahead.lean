/-! the reference's steps in its own row 205, by the line of the hall before -/
theorem e39_wf {g g2 : Nat → Int32} (h : ∀ i, i < 39 → g2 i = g i) (hw : WF g) : WF g2 ∧ gP g2 = gP g ∧ gD g2 = gD g ∧ (∀ d, wm g2 d = wm g d) ∧ ymk g2 = ymk g ∧ (∀ p, p < gP g → gb g2 p = gb g p) ∧ ∀ p, p < gP g → gd g2 p = gd g p := by
  have h7 := hw.2.2.1.2.1
  have eP : gP g2 = gP g := by unfold gP; rw [h 2 (by omega)]
  have eD : gD g2 = gD g := by unfold gD; rw [h 0 (by omega)]
  have eY : gY g2 = gY g := by unfold gY; rw [h 1 (by omega)]
  have ek : ∀ p, p < gP g → gk g2 p = gk g p := fun p hp => by unfold gk; rw [h _ (by omega)]
  have er : ∀ p, p < gP g → gr g2 p = gr g p := fun p hp => by unfold gr; rw [h _ (by omega)]
  have eh : ∀ p, p < gP g → gh g2 p = gh g p := fun p hp => by unfold gh; rw [h _ (by omega)]
  have ed : ∀ p, p < gP g → gd g2 p = gd g p := fun p hp => by unfold gd; rw [h _ (by omega)]
  have eb : ∀ p, p < gP g → gb g2 p = gb g p := fun p hp => by unfold gb; rw [h _ (by omega)]
  refine ⟨?_, eP, eD, fun d => ?_, ?_, eb, ed⟩
  · obtain ⟨⟨a1, a2, a3⟩, ⟨b1, b2, b3⟩, ⟨c1, c2, c3⟩, hp⟩ := hw
    refine ⟨⟨by omega, by omega, by rw [h 0 (by omega), eD]; exact a3⟩, ⟨by omega, by omega, by rw [h 1 (by omega), eY]; exact b3⟩, ⟨by omega, by omega, by rw [h 2 (by omega), eP]; exact c3⟩, fun p hpP => ?_⟩
    rw [eP] at hpP
    rw [ek p hpP, er p hpP, eh p hpP, ed p hpP, eb p hpP, eD, h _ (by omega), h _ (by omega), h _ (by omega), h _ (by omega)]
    exact hp p hpP
  · unfold wm
    rw [eP]
    refine bx fun i => ?_
    rw [mk_b, mk_b]
    by_cases hi : i < gP g
    · simp [hi, ed i hi]
    · simp [hi]
  · funext p
    unfold ymk
    rw [eP]
    by_cases hp : p < gP g
    · rw [if_pos hp, if_pos hp]
      refine bx fun i => ?_
      rw [mk_b, mk_b]
      by_cases hi : i < gP g
      · have : yl g2 p i = yl g p i := by
          unfold yl
          rw [ek p hp, er p hp, er i hi, eh p hp, eh i hi]
        simp [hi, this]
      · simp [hi]
    · rw [if_neg hp, if_neg hp]
theorem wm_in {g : Nat → Int32} {d : Int} {i : Nat} (h : (wm g d).testBit i = true) : i < gP g ∧ gd g i = d := by
  unfold wm at h
  rw [mk_b] at h
  simpa using h
/-- n steps of the reference's copy -/
theorem then_e {M : fw_M} (hW : WF (M 203)) {n : Nat} (hn : n ≤ 100) {x : Int32} (hx : x = nI n) : ∃ (M1 M2 : fw_M) (v : Int32), P_Mod_layThen 199 M = some M1 ∧ P_Mod_stepsOf 199 205 M1 x = some (v, M2) ∧ WF (M2 205) ∧ gP (M2 205) = gP (M 203) ∧ gD (M2 205) = gD (M 203) ∧ (∀ d, 0 ≤ d → wm (M2 205) d = ln (ymk (M 203)) (gb (M 203)) (wm (M 203) d) n) ∧ ∀ b, b ≠ 205 → b ≠ 208 → M2 b = M b := by
  obtain ⟨M1, q1, q2, q3⟩ := m_layThen (o := 199) M
  have h39 : ∀ i, i < 39 → M1 205 i = M 203 i := q2
  obtain ⟨w1, w2, w3, w4, w5, w6, w7⟩ := e39_wf h39 hW
  obtain ⟨v, M2, s1, s2, s3⟩ := m_stepsOf (o := 199) (a := 205) (by omega) hn hx (M := M1) w1
  obtain ⟨t1, t2, t3⟩ := sn_wf w1 s2
  refine ⟨M1, M2, v, q1, s1, t1, t2.trans w2, t3.trans w3, fun d hd => ?_, fun b b1 b2 => by rw [s3 b b1 b2, q3 b b1]⟩
  rw [(sn_line w1 hd s2).1, w4, w5]
  refine (ln_c (fun p hp hb => ?_) n).1
  exact w6 p (wm_in hb).1
theorem lineAt_e {Mc Mr : fw_M} (hR : rl Mc Mr) (h : 0 < gP (Mr 203)) (x : Int32) : ∃ M2, P_Fore_lineAt 157 4 Mc x = some M2 ∧ FT M2 (ymk (Mr 203)) (gb (Mr 203)) (wm (Mr 203) x.toInt) ∧ LR M2 164 (ymk (Mr 203)) ∧ rl M2 Mr ∧ ∀ b, (b < 157 ∨ 168 < b) → M2 b = Mc b := by
  obtain ⟨he, hW, -⟩ := hall_E hR h
  obtain ⟨M2, q1, q2⟩ := lineOf_e hR h (w := wm (Mr 203) x.toInt) (fun i hi => (wm_in hi).1)
  refine ⟨M2, ?_, q2⟩
  show (P_Hall_waitingAt 4 Mc x).bind _ = _
  rw [p_waitingAt he hW, bs_e, q1]
  rfl
theorem ow_waitAhead {Mc Mr : fw_M} (hR : rl Mc Mr) (a0 : Int32) (a1 : Int32) : ∃ (r : Int32) (Mc2 Mr2 : fw_M), P_Door_waitAhead 0 Mc a0 a1 = some (r, Mc2) ∧ P_Mod_waitAhead 199 Mr a0 a1 = some (r, Mr2) ∧ rl Mc2 Mr2 := by
  unfold P_Door_waitAhead P_Door_waitAhead_b0 P_Door_waitAhead_b23 P_Door_waitAhead_b24 P_Mod_waitAhead P_Mod_waitAhead_b0 P_Mod_waitAhead_b35
  have hR2 := rl_thrown hR 0
  have hG : fw_set Mr 199 0 0 203 = Mr 203 := st_n (by omega)
  obtain ⟨e1, e2, e3, e4, h7, hd4, hPD, e5⟩ := hall_P hR
  simp only [pl_e]
  rw [p_isDoor (o := 0) e3 (by omega), m_isThere (o := 199) (by rw [hG]; exact e4) (by omega), m_isDoor (o := 199) (by rw [hG]; exact e4) (by omega), p_w0 Mc a1 (hi := 60) (n := 60) rfl, p_in0 _ a1 (hi := 60) (n := 60) rfl, p_refusal (o := 0) e1 (by omega), p_refusal (o := 0) e1 (by omega)]
  simp only [bs_e, b1_0]
  by_cases hP : gP (Mr 203) = 0
  · have hD := hPD.mp hP
    rw [if_pos (show ¬ (0 ≤ a0.toInt ∧ a0.toInt < (gD (Mr 203) : Int)) by omega), if_pos hP, if_pos (show ¬ 0 < gD (Mr 203) by omega), if_neg (by decide)]
    exact ⟨_, _, _, rfl, rfl, hR2⟩
  · obtain ⟨he, hW, -⟩ := hall_E hR (by omega)
    rw [if_neg (show ¬ ¬ 0 < gD (Mr 203) by omega), if_neg hP, if_neg hP]
    by_cases h0 : 0 ≤ a0.toInt ∧ a0.toInt < (gD (Mr 203) : Int)
    · simp only [h0, and_self, not_true, if_false]
      by_cases h1 : 0 ≤ a1.toInt ∧ a1.toInt ≤ 60
      · simp only [h1, and_self, not_true, if_false, if_neg (show ¬ (1 : Int32) = 0 by decide), if_true]
        obtain ⟨n, hn, rfl⟩ : ∃ n : Nat, n ≤ 60 ∧ a1 = nI n := ⟨a1.toInt.toNat, by omega, eq_nI (by omega)⟩
        obtain ⟨M2, l1, ⟨f1, f2, f3⟩, l3, l4, l5⟩ := lineAt_e hR2 (by rw [hG]; omega) a0
        rw [hG] at f1
        have he2 : rl_eq M2 4 (Mr 203) := eq_cong he fun k _ _ => l5 k (by omega)
        obtain ⟨N1, N2, v, t1, t2, t3, t4, t5, t6, t7⟩ := then_e (M := fw_set Mr 199 0 0) (by rw [hG]; exact hW) (n := n) (by omega) rfl
        rw [hG] at t6
        have k1 : P_Fore_lineAt (0 + 157) (0 + 4) Mc a0 = some M2 := l1
        have k2 : P_Hall_waitingAt (0 + 4) M2 a0 = _ := p_waitingAt he2 hW a0
        have k3 : P_Mod_stepsOf 199 (199 + 6) N1 (nI n) = _ := t2
        have k4 : P_Mod_waiting (199 + 6) N2 a0 = _ := m_waiting (a := 205) t3 a0
        rw [k1, bs_e, k2, bs_e, j_bits (wm_128 hW _), bs_e, t1, bs_e, k3, bs_e, k4, bs_e, t6 _ h0.1, p_bits _ (ln_128 (wm_128 hW _) _), bs_e, show M2 (0 + 157 + 9) 2 = _ from f1]
        refine ⟨_, M2, N2, rfl, ?_, rl_scr l4 (fun _ _ => rfl) (fun k k1 k2 k3 k4 => t7 k k3 k4) (fun i hi => by rw [t7 199 (by omega) (by omega)])⟩
        have hc := ln_n (ymk (Mr 203)) (gb (Mr 203)) (wm (Mr 203) a0.toInt) n
        have hG7 := lG_7 (ymk (Mr 203)) (gb (Mr 203)) (wm (Mr 203) a0.toInt)
        refine congrArg some (Prod.ext ?_ rfl)
        show _ = nI (pc (wm (Mr 203) a0.toInt) 7) - _
        simp only [nI_lt2 (show lG (ymk (Mr 203)) (gb (Mr 203)) (wm (Mr 203) a0.toInt) < 1000000 by omega) (show n < 1000000 by omega)]
        by_cases hlt : lG (ymk (Mr 203)) (gb (Mr 203)) (wm (Mr 203) a0.toInt) < n
        · rw [if_pos hlt, nI_sub (by omega)]
          congr 1
          omega
        · rw [if_neg hlt, nI_sub (by omega)]
          congr 1
          omega
      · simp only [h1, not_false_iff, if_true, if_neg (show ¬ (-1000001 : Int32) = 0 by decide)]
        exact ⟨_, _, _, rfl, rfl, hR2⟩
    · simp only [h0, not_false_iff, if_true, if_neg (show ¬ (-1000001 : Int32) = 0 by decide)]
      exact ⟨_, _, _, rfl, rfl, hR2⟩
