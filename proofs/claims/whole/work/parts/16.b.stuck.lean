/-! STUCK, PRECEDENCE -/
def stk (G : Nat → Int32) (j : Nat) : Nat := mk (fun p => decide (0 ≤ gd G p) && (decide (gd G p < (j : Int)) && (ln (ymk G) (gb G) (wm G (gd G p)) 7).testBit p)) (gP G)
theorem stk_128 {G : Nat → Int32} (hW : WF G) (j : Nat) : stk G j < 128 := mk_128 hW.2.2.1.2.1
theorem stk_s {G : Nat → Int32} (hW : WF G) (j : Nat) : stk G j ||| ln (ymk G) (gb G) (wm G (j : Int)) 7 = stk G (j + 1) := by
  have h7 := hW.2.2.1.2.1
  refine bx7 (Nat.or_lt_two_pow (n := 7) (stk_128 hW j) (ln_128 (wm_128 hW _) 7)) (stk_128 hW (j + 1)) fun i hi => ?_
  rw [Nat.testBit_or]
  unfold stk
  rw [mk_b, mk_b]
  cases hb : (ln (ymk G) (gb G) (wm G (j : Int)) 7).testBit i with
  | true =>
    obtain ⟨a1, a2⟩ := wm_in (ln_in hi hb)
    rw [a2]
    simp [a1, hb]
    omega
  | false =>
    rw [Bool.or_false]
    by_cases e : gd G i = (j : Int)
    · rw [e, hb]
      simp
    · have : (gd G i < (j : Int)) ↔ (gd G i < ((j + 1 : Nat) : Int)) := by omega
      rw [decide_eq_decide.mpr this]
theorem stk_0 {G : Nat → Int32} (hW : WF G) : stk G 0 = 0 := by
  refine bx7 (stk_128 hW 0) (by omega) fun i hi => ?_
  unfold stk
  rw [mk_b, Nat.zero_testBit]
  by_cases h : 0 ≤ gd G i
  · simp
    intro _ h1 h2
    omega
  · simp [h]
theorem c_stuck {Mr : fw_M} (hP : 0 < gP (Mr 203)) (hW : WF (Mr 203)) : ∀ (r j f : Nat) (M : fw_M), j + r = gD (Mr 203) → r < f → rl M Mr → ∃ M2, P_Door_stuck_h17 0 f M (nI (stk (Mr 203) j)) (nI j) = some (nI (stk (Mr 203) (gD (Mr 203))), M2) ∧ rl M2 Mr := by
  have hD4 := hW.1.2.1
  intro r
  induction r with
  | zero =>
    intro j f M hj hf hR
    obtain ⟨f, rfl⟩ : ∃ g, f = g + 1 := ⟨f - 1, by omega⟩
    have e := (hall_P hR).2.2.1
    refine ⟨M, ?_, hR⟩
    show P_Door_stuck_b17 0 _ M _ _ = _
    unfold P_Door_stuck_b17
    rw [show M (0 + 4) 0 = nI (gD (Mr 203)) from e, if_pos ((nI_le2 (by omega) (by omega)).mpr (by omega)), show j = gD (Mr 203) by omega]
  | succ r ih =>
    intro j f M hj hf hR
    obtain ⟨f, rfl⟩ : ∃ g, f = g + 1 := ⟨f - 1, by omega⟩
    have e := (hall_P hR).2.2.1
    obtain ⟨M1, q1, ⟨-, q2, -⟩, -, q3, -⟩ := lineAt_e hR hP (nI j)
    rw [tI (by omega)] at q2
    obtain ⟨M2, p1, p2⟩ := ih (j + 1) f M1 (by omega) (by omega) q3
    refine ⟨M2, ?_, p2⟩
    show P_Door_stuck_b17 0 _ M _ _ = _
    unfold P_Door_stuck_b17
    rw [show M (0 + 4) 0 = nI (gD (Mr 203)) from e, if_neg (fun z => by have := (nI_le2 (show gD (Mr 203) < 1000000 by omega) (show j < 1000000 by omega)).mp z; omega), show P_Fore_lineAt (0 + 157) (0 + 4) M (nI j) = some M1 from q1, bs_e, pl_e, show M1 (0 + 157 + 9) 3 = _ from q2, fa_or, stk_s hW, nI_s]
    exact p1
theorem m_stuck {N : fw_M} (hw : WF (N 205)) : ∀ (r j f : Nat), j + r = gP (N 205) → r < f → P_Mod_stuck_h34 199 f N (nI (mk (fun p => decide (0 ≤ gd (N 205) p)) j)) (nI j) = some (nI (mk (fun p => decide (0 ≤ gd (N 205) p)) (gP (N 205))), N) := by
  have h7 := hw.2.2.1.2.1
  have e2 : fw_ald N (199 + 6) 39 (2 : Int32) = some (nI (gP (N 205))) := m_P (a := 205) hw
  intro r
  induction r with
  | zero =>
    intro j f hj hf
    obtain ⟨f, rfl⟩ : ∃ g, f = g + 1 := ⟨f - 1, by omega⟩
    show P_Mod_stuck_b34 199 _ N _ _ = _
    unfold P_Mod_stuck_b34
    rw [e2, bs_e, if_pos ((nI_le2 (by omega) (by omega)).mpr (by omega)), show j = gP (N 205) by omega]
  | succ r ih =>
    intro j f hj hf
    obtain ⟨f, rfl⟩ : ∃ g, f = g + 1 := ⟨f - 1, by omega⟩
    have hi := ih (j + 1) f (by omega) (by omega)
    show P_Mod_stuck_b34 199 _ N _ _ = _
    unfold P_Mod_stuck_b34 P_Mod_stuck_b64
    rw [e2, bs_e, if_neg (fun z => by have := (nI_le2 (show gP (N 205) < 1000000 by omega) (show j < 1000000 by omega)).mp z; omega), show P_Mod_of (199 + 6) N (nI j) 3 = some (N 205 (7 + 5 * j)) from m_of3 (a := 205) (by omega), bs_e]
    simp only [gd_0, pl_e, or_0, nI_s]
    by_cases hd : 0 ≤ gd (N 205) j
    · rw [if_pos hd, mk_s _ (by omega) (by simp [hd])]
      exact hi
    · rw [if_neg hd]
      rw [mk_z _ (by simp [hd])] at hi
      exact hi
theorem stk_e {G g x : Nat → Int32} (h39 : ∀ i, i < 39 → g i = G i) (hW : WF G) (hs : SN 60 g x) : mk (fun p => decide (0 ≤ gd x p)) (gP x) = stk G (gD G) := by
  obtain ⟨w1, w2, w3, w4, w5, w6, w7⟩ := e39_wf h39 hW
  have h7 := hW.2.2.1.2.1
  obtain ⟨t1, t2, t3⟩ := sn_wf w1 hs
  have hP : gP x = gP G := t2.trans w2
  refine bx fun i => ?_
  unfold stk
  rw [mk_b, mk_b, hP]
  by_cases hi : i < gP G
  · have hgd := sn_gd w1 (show i < gP g by omega) hs
    rw [w7 i hi] at hgd
    have hD := (hW.2.2.2 i hi).2.2.2.1
    simp only [hi, decide_true, Bool.true_and]
    by_cases h0 : 0 ≤ gd G i
    · have e := (go_sn h39 hW hs h0).2.1
      rw [ln_60] at e
      rw [← e]
      have hb : (wm x (gd G i)).testBit i = decide (gd x i = gd G i) := by
        unfold wm
        rw [mk_b]
        simp [show i < gP x by omega]
      rw [hb]
      rcases hgd with z | z
      · simp [z, h0]
        omega
      · rw [z]
        have : ¬ (-1 : Int) = gd G i := by omega
        simp [this]
    · have : ¬ 0 ≤ gd x i := by omega
      simp [this, h0]
  · simp [hi]
theorem ow_stuck {Mc Mr : fw_M} (hR : rl Mc Mr) : ∃ (r : Int32) (Mc2 Mr2 : fw_M), P_Door_stuck 0 Mc = some (r, Mc2) ∧ P_Mod_stuck 199 Mr = some (r, Mr2) ∧ rl Mc2 Mr2 := by
  have hfu := fw_fu_ge
  unfold P_Door_stuck P_Door_stuck_b0 P_Mod_stuck P_Mod_stuck_b0
  have hR2 := rl_thrown hR 0
  have hG : fw_set Mr 199 0 0 203 = Mr 203 := st_n (by omega)
  obtain ⟨e1, e2, e3, e4, h7, hd4, hPD, e5⟩ := hall_P hR
  simp only [pl_e]
  rw [m_isThere (o := 199) (by rw [hG]; exact e4) (by omega), show Mc (0 + 4) 2 = _ from e1]
  simp only [bs_e, b1_0, nI_e0 (show gP (Mr 203) < 1000000 by omega)]
  by_cases hP : gP (Mr 203) = 0
  · have hD := hPD.mp hP
    rw [if_pos hP, if_pos (show ¬ 0 < gD (Mr 203) by omega)]
    exact ⟨_, _, _, rfl, rfl, hR2⟩
  · obtain ⟨he, hW, -⟩ := hall_E hR (by omega)
    rw [if_neg hP, if_neg (show ¬ ¬ 0 < gD (Mr 203) by omega)]
    obtain ⟨M2, q1, q2⟩ := c_stuck (Mr := Mr) (by omega) hW (gD (Mr 203)) 0 fw_fu Mc (by omega) (by omega) hR
    rw [stk_0 hW] at q1
    obtain ⟨M1, s1, s2, s3⟩ := m_layThen (o := 199) (fw_set Mr 199 0 0)
    have h39 : ∀ i, i < 39 → M1 205 i = Mr 203 i := fun i hi => by rw [s2 i hi, hG]
    obtain ⟨w1, w2, -⟩ := e39_wf h39 hW
    obtain ⟨v, N2, t1, t2, t3⟩ := m_stepsOf (o := 199) (a := 205) (by omega) (show 60 ≤ 100 by omega) rfl (M := M1) w1
    have hwN := (sn_wf w1 t2).1
    have hm := m_stuck hwN (gP (N2 205)) 0 fw_fu (by omega) (by have := hwN.2.2.1.2.1; omega)
    rw [stk_e h39 hW t2] at hm
    have k2 : P_Mod_stepsOf 199 (199 + 6) M1 60 = _ := t1
    rw [s1, bs_e, k2, bs_e]
    refine ⟨_, M2, N2, q1, hm, ?_⟩
    exact rl_scr (rl_thrown q2 0) (fun _ _ => rfl) (fun k _ _ z1 z2 => by rw [t3 k z1 z2, s3 k z1]) (fun i hi => by rw [t3 199 (by omega) (by omega), s3 199 (by omega)])
theorem m_prec {M : fw_M} {G g : Nat → Int32} (h39 : ∀ i, i < 39 → g i = G i) (hW : WF G) {x y : Int32} (hx : 0 ≤ x.toInt) (hy : 0 ≤ y.toInt) : ∀ (r n f : Nat) (N : fw_M), n + r = 60 → r < f → SN n g (N 205) → (∀ b, b ≠ 205 → b ≠ 208 → N b = M b) → (∀ j, j < n → lg (ymk G) (gb G) (wm G x.toInt) j = none ∨ j ≠ y.toInt.toNat) → ∃ M2, P_Mod_precedence_h39 199 f N x y (nI (min n (lG (ymk G) (gb G) (wm G x.toInt)))) (nI n) = some (oM (lg (ymk G) (gb G) (wm G x.toInt) y.toInt.toNat), M2) ∧ ∀ b, b ≠ 205 → b ≠ 208 → M2 b = M b := by
  have hG7 := lG_7 (ymk G) (gb G) (wm G x.toInt)
  intro r
  induction r with
  | zero =>
    intro n f N hj hf hs hfr hn
    obtain ⟨f, rfl⟩ : ∃ g, f = g + 1 := ⟨f - 1, by omega⟩
    have e : lg (ymk G) (gb G) (wm G x.toInt) y.toInt.toNat = none := by
      cases hl : lg (ymk G) (gb G) (wm G x.toInt) y.toInt.toNat with
      | none => rfl
      | some p =>
        have a := lG_lt.mpr (show lg (ymk G) (gb G) (wm G x.toInt) y.toInt.toNat ≠ none by rw [hl]; simp)
        rcases hn y.toInt.toNat (by omega) with z | z
        · rw [hl] at z; cases z
        · exact absurd rfl z
    refine ⟨N, ?_, hfr⟩
    show P_Mod_precedence_b39 199 _ N _ _ _ _ = _
    unfold P_Mod_precedence_b39
    rw [if_pos ((nI_g60 (by omega)).mpr (by omega)), e]
    rfl
  | succ r ih =>
    intro n f N hj hf hs hfr hn
    obtain ⟨f, rfl⟩ : ∃ g, f = g + 1 := ⟨f - 1, by omega⟩
    obtain ⟨a1, a2, a3, -⟩ := go_sn h39 hW hs hx
    have hgo : P_Mod_goesAt (199 + 6) N x = some (oM (lg (ymk G) (gb G) (wm G x.toInt) n)) := by
      have := m_goesAt (a := 205) (M := N) a3 hx
      rw [a1] at this
      exact this
    obtain ⟨N2, q1, q2, q3⟩ := m_step (o := 199) (a := 205) (M := N) a3 (by omega)
    have k1 : P_Mod_step 199 (199 + 6) N = _ := q1
    show ∃ M2, P_Mod_precedence_b39 199 _ N _ _ _ _ = _ ∧ _
    unfold P_Mod_precedence_b39 P_Mod_precedence_b71 P_Mod_precedence_b84
    rw [if_neg (fun z => by have := (nI_g60 (show n < 1000000 by omega)).mp z; omega), hgo, bs_e]
    simp only [k1, bs_e, pl_e, nI_s]
    have nxt := fun hn2 => ih (n + 1) f N2 (by omega) (by omega) ⟨_, hs, q2⟩ (fun b b1 b2 => by rw [q3 b b1 b2, hfr b b1 b2]) hn2
    cases hl : lg (ymk G) (gb G) (wm G x.toInt) n with
    | none =>
      rw [if_pos (show oM none = -1000000 from rfl), if_pos (show oM none = -1000000 from rfl)]
      have hnG : ¬ n < lG (ymk G) (gb G) (wm G x.toInt) := fun z => lG_lt.mp z hl
      rw [show nI (min n (lG (ymk G) (gb G) (wm G x.toInt))) + (0 : Int32) = nI (min (n + 1) (lG (ymk G) (gb G) (wm G x.toInt))) by
        rw [Int32.add_zero]; congr 1; omega]
      refine nxt fun j hj2 => ?_
      by_cases e : j = n
      · subst e; exact Or.inl hl
      · exact hn j (by omega)
    | some p =>
      have hp7 := (lg_in hl).1
      have hne : ¬ oM (some p) = -1000000 := by
        intro z
        have := (oM_ne (x := some p) (fun q hq => by have := Option.some.inj hq; omega)).mp z
        cases this
      have hnG : n < lG (ymk G) (gb G) (wm G x.toInt) := lG_lt.mpr (by rw [hl]; simp)
      rw [if_neg hne, if_neg hne, Nat.min_eq_left (by omega)]
      have hiff : nI n = y ↔ n = y.toInt.toNat := by
        rw [toInt_eq, tI (by omega)]
        omega
      by_cases e : n = y.toInt.toNat
      · rw [if_pos (hiff.mpr e), ← e, hl]
        exact ⟨N, rfl, hfr⟩
      · rw [if_neg (fun z => e (hiff.mp z))]
        have h2 := nxt (fun j hj2 => by
          by_cases e2 : j = n
          · subst e2; exact Or.inr e
          · exact hn j (by omega))
        rw [show min (n + 1) (lG (ymk G) (gb G) (wm G x.toInt)) = n + 1 by omega] at h2
        exact h2
theorem ow_precedence {Mc Mr : fw_M} (hR : rl Mc Mr) (a0 : Int32) (a1 : Int32) : ∃ (r : Int32) (Mc2 Mr2 : fw_M), P_Door_precedence 0 Mc a0 a1 = some (r, Mc2) ∧ P_Mod_precedence 199 Mr a0 a1 = some (r, Mr2) ∧ rl Mc2 Mr2 := by
  have hfu := fw_fu_ge
  unfold P_Door_precedence P_Door_precedence_b0 P_Door_precedence_b17 P_Door_precedence_b18 P_Door_precedence_b49 P_Mod_precedence P_Mod_precedence_b0 P_Mod_precedence_b27
  have hR2 := rl_thrown hR 0
  have hG : fw_set Mr 199 0 0 203 = Mr 203 := st_n (by omega)
  obtain ⟨e1, e2, e3, e4, h7, hd4, hPD, e5⟩ := hall_P hR
  simp only [pl_e]
  rw [p_isDoor (o := 0) e3 (by omega), m_isThere (o := 199) (by rw [hG]; exact e4) (by omega), m_isDoor (o := 199) (by rw [hG]; exact e4) (by omega)]
  simp only [p_refusal (o := 0) e1 (show gP (Mr 203) < 1000 by omega), bs_e, b1_0]
  by_cases hP : gP (Mr 203) = 0
  · have hD := hPD.mp hP
    rw [if_pos (show ¬ (0 ≤ a0.toInt ∧ a0.toInt < (gD (Mr 203) : Int)) by omega), if_pos hP, if_pos (show ¬ 0 < gD (Mr 203) by omega), if_neg (by decide)]
    exact ⟨_, _, _, rfl, rfl, hR2⟩
  · obtain ⟨he, hW, -⟩ := hall_E hR (by omega)
    rw [if_neg (show ¬ ¬ 0 < gD (Mr 203) by omega)]
    simp only [if_neg hP, if_true, if_neg (show ¬ (1 : Int32) = 0 by decide), if_neg (show ¬ (-1000001 : Int32) = 0 by decide), Int32.lt_iff_toInt_lt, Int32.le_iff_toInt_le, Int32.toInt_zero]
    by_cases h0 : 0 ≤ a0.toInt ∧ a0.toInt < (gD (Mr 203) : Int)
    · simp only [h0, and_self, not_true, if_false]
      by_cases h1 : a1.toInt < 0
      · rw [if_pos h1, if_neg (by omega)]
        exact ⟨_, _, _, rfl, rfl, hR2⟩
      · rw [if_neg h1, if_pos (by omega)]
        obtain ⟨M2, l1, l2, l3, l4, l5⟩ := lineAt_e hR2 (by rw [hG]; omega) a0
        rw [hG] at l2
        obtain ⟨M1, s1, s2, s3⟩ := m_layThen (o := 199) (fw_set Mr 199 0 0)
        have h39 : ∀ i, i < 39 → M1 205 i = Mr 203 i := fun i hi => by rw [s2 i hi, hG]
        obtain ⟨N2, t1, t2⟩ := m_prec (M := M1) h39 hW h0.1 (show 0 ≤ a1.toInt by omega) 60 0 fw_fu M1 (by omega) (by omega) rfl (fun _ _ _ => rfl) (fun j hj => absurd hj (by omega))
        rw [Nat.zero_min] at t1
        have k1 : P_Fore_lineAt (0 + 157) (0 + 4) Mc a0 = some M2 := l1
        have k2 : P_Line_goingIn (0 + 157 + 9) M2 a1 = _ := l_goingIn l2 a1
        rw [k1, bs_e, k2, bs_e, if_pos (show 0 ≤ a1.toInt by omega), orN M2 (fun p hp => (lg_in hp).1), bs_e, s1, bs_e]
        exact ⟨_, M2, N2, rfl, t1, rl_scr l4 (fun _ _ => rfl) (fun k _ _ z1 z2 => by rw [t2 k z1 z2, s3 k z1]) (fun i hi => by rw [t2 199 (by omega) (by omega), s3 199 (by omega)])⟩
    · simp only [h0, not_false_iff, if_true]
      exact ⟨_, _, _, rfl, rfl, hR2⟩
