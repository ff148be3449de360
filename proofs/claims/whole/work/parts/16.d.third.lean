/-! WHOM TO SEND AS A THIRD -/
def lwA (G : Nat → Int32) (d p : Nat) : Nat := pc (ln (ymk G) (gb G) (wm G (d : Int) ||| 2 ^ p) 7) 7
/-- how many would wait, were p to come; none: he is there -/
def wt3 (G : Nat → Int32) (d p : Nat) : Option Nat := if gd G p = (d : Int) then none else some (lwA G d p)
theorem wt3_7 {G : Nat → Int32} {d p m : Nat} (e : wt3 G d p = some m) : m ≤ 7 ∧ m = lwA G d p := by
  unfold wt3 at e
  by_cases h : gd G p = (d : Int)
  · rw [if_pos h] at e; cases e
  · rw [if_neg h] at e
    have h2 : lwA G d p = m := Option.some.inj e
    refine ⟨?_, h2.symm⟩
    rw [← h2]
    exact pc_le _ _
theorem or_128 {G : Nat → Int32} (hW : WF G) {p : Nat} (hp : p < gP G) (d : Int) : wm G d ||| 2 ^ p < 128 := by
  have h7 := hW.2.2.1.2.1
  refine Nat.or_lt_two_pow (n := 7) (wm_128 hW d) ?_
  exact Nat.pow_lt_pow_right (by decide) (by omega)
theorem leftWith_e {Mc Mr : fw_M} (hR : rl Mc Mr) {p d : Nat} (hp : p < gP (Mr 203)) (hd : d < gD (Mr 203)) : ∃ M2, P_Fore_leftWith 157 4 Mc (nI d) (nI p) = some (nI (lwA (Mr 203) d p), M2) ∧ rl M2 Mr ∧ ∀ b, (b < 157 ∨ 168 < b) → M2 b = Mc b := by
  obtain ⟨he, hW, -⟩ := hall_E hR (by omega)
  have h7 := hW.2.2.1.2.1
  have hD4 := hW.1.2.1
  obtain ⟨M2, q1, ⟨-, q2, -⟩, q3, q4⟩ := lineOf_g he hW (by omega) (or_in (d := (d : Int)) hp)
  refine ⟨M2, ?_, rl_sc hR (fun k hk => q4 k (by omega)), fun b hb => q4 b (by omega)⟩
  unfold P_Fore_leftWith P_Fore_leftWith_b0 P_Fore_leftWith_b28
  rw [if_pos (nI_nn (by omega)), p_waitingAt he hW, bs_e, tI (by omega), sh_1 p (by omega), fa_or, q1, bs_e, show M2 (157 + 9) 3 = _ from q2, j_bits (ln_128 (or_128 hW hp _) 7), bs_e]
  rfl
theorem c_third {Mr : fw_M} {d : Nat} (hd : d < gD (Mr 203)) (hP : 0 < gP (Mr 203)) (hW : WF (Mr 203)) : ∀ (r j f : Nat) (M : fw_M), j + r = gP (Mr 203) → r < f → rl M Mr → ∃ M2, P_Fore_bestThird_h9 157 4 f M (nI d) (oN (bF (bd (wt3 (Mr 203) d) j))) (oK 8 (bS (bd (wt3 (Mr 203) d) j))) (nI j) = some (oN (bF (bd (wt3 (Mr 203) d) (gP (Mr 203)))), M2) ∧ rl M2 Mr := by
  have hD4 := hW.1.2.1
  have h7 := hW.2.2.1.2.1
  intro r
  induction r with
  | zero =>
    intro j f M hj hf hR
    obtain ⟨f, rfl⟩ : ∃ g, f = g + 1 := ⟨f - 1, by omega⟩
    have e := (hall_P hR).1
    refine ⟨M, ?_, hR⟩
    show P_Fore_bestThird_b9 157 4 _ M _ _ _ _ = _
    unfold P_Fore_bestThird_b9
    rw [e, if_pos ((nI_le2 (by omega) (by omega)).mpr (by omega)), show j = gP (Mr 203) by omega]
  | succ r ih =>
    intro j f M hj hf hR
    obtain ⟨f, rfl⟩ : ∃ g, f = g + 1 := ⟨f - 1, by omega⟩
    have e := (hall_P hR).1
    have cd : fw_ald M (4 + 4) 7 (nI j) = _ := (ce_d hR rfl (show j < gP (Mr 203) by omega)).1
    have hdd : Mr 203 (7 + 5 * j) = nI d ↔ gd (Mr 203) j = (d : Int) := by
      rw [toInt_eq, tI (by omega)]
      rfl
    show ∃ M2, P_Fore_bestThird_b9 157 4 _ M _ _ _ _ = _ ∧ _
    unfold P_Fore_bestThird_b9 P_Fore_bestThird_b53
    rw [e, if_neg (fun z => by have := (nI_le2 (show gP (Mr 203) < 1000000 by omega) (show j < 1000000 by omega)).mp z; omega), cd, bs_e, nI_s]
    simp only [hdd]
    rw [show bd (wt3 (Mr 203) d) (gP (Mr 203)) = bd (wt3 (Mr 203) d) (gP (Mr 203)) from rfl]
    by_cases hc : gd (Mr 203) j = (d : Int)
    · rw [if_pos hc]
      obtain ⟨M2, p1, p2⟩ := ih (j + 1) f M (by omega) (by omega) hR
      rw [show bd (wt3 (Mr 203) d) (j + 1) = bd (wt3 (Mr 203) d) j by
        show bst _ _ _ = _
        unfold wt3
        rw [if_pos hc]
        rfl] at p1
      exact ⟨M2, p1, p2⟩
    · rw [if_neg hc]
      obtain ⟨M1, q1, q2, -⟩ := leftWith_e hR (show j < gP (Mr 203) by omega) hd
      obtain ⟨M2, p1, p2⟩ := ih (j + 1) f M1 (by omega) (by omega) q2
      refine ⟨M2, ?_, p2⟩
      have hm7 : lwA (Mr 203) d j ≤ 7 := pc_le _ _
      rw [show bd (wt3 (Mr 203) d) (j + 1) = bst (bd (wt3 (Mr 203) d) j) j (some (lwA (Mr 203) d j)) by
        show bst _ _ _ = _
        congr 1
        unfold wt3
        rw [if_neg hc]] at p1
      rw [q1, bs_e]
      unfold bst at p1
      simp only at p1 ⊢
      cases hb : bd (wt3 (Mr 203) d) j with
      | none =>
        rw [hb] at p1
        rw [if_neg (show ¬ oK 8 (bS none) ≤ nI (lwA (Mr 203) d j) from fun z => by have := (nI_le2 (a := 8) (b := lwA (Mr 203) d j) (by omega) (by omega)).mp z; omega)]
        exact p1
      | some z =>
        have hz := bd_x hb
        have hz7 := (wt3_7 hz.2).1
        rw [hb] at p1
        simp only at p1
        by_cases h : lwA (Mr 203) d j < z.2
        · rw [if_pos h] at p1
          rw [if_neg (show ¬ oK 8 (bS (some z)) ≤ nI (lwA (Mr 203) d j) from fun y => by have := (nI_le2 (a := z.2) (b := lwA (Mr 203) d j) (by omega) (by omega)).mp y; omega)]
          exact p1
        · rw [if_neg h] at p1
          rw [if_pos (show oK 8 (bS (some z)) ≤ nI (lwA (Mr 203) d j) from (nI_le2 (a := z.2) (b := lwA (Mr 203) d j) (by omega) (by omega)).mpr (by omega))]
          exact p1
theorem m_third {M : fw_M} {d : Nat} (hd : d < gD (M 203)) (hW : WF (M 203)) {y : Int32} : ∀ (r j f : Nat) (N : fw_M), j + r = gP (M 203) → r < f → (∀ b, b ≠ 205 → b ≠ 208 → N b = M b) → ∃ M2, P_Mod_third_h46 199 f N (nI d) y (oM (bF (bd (wt3 (M 203) d) j))) (oM (bS (bd (wt3 (M 203) d) j))) (nI j) = some (if y = 0 then oM (bF (bd (wt3 (M 203) d) (gP (M 203)))) else oM (bS (bd (wt3 (M 203) d) (gP (M 203)))), M2) ∧ ∀ b, b ≠ 205 → b ≠ 208 → M2 b = M b := by
  have hfu := fw_fu_ge
  have hD4 := hW.1.2.1
  have h7 := hW.2.2.1.2.1
  intro r
  induction r with
  | zero =>
    intro j f N hj hf hfr
    obtain ⟨f, rfl⟩ : ∃ g, f = g + 1 := ⟨f - 1, by omega⟩
    refine ⟨N, ?_, hfr⟩
    show P_Mod_third_b46 199 _ N _ _ _ _ _ = _
    unfold P_Mod_third_b46 P_Mod_third_b157
    have e0 : fw_ald N (199 + 4) 39 (2 : Int32) = some (nI (gP (M 203))) := by rw [show (2 : Int32) = nI 2 from rfl, ald_n (by omega) (by omega), hfr 203 (by omega) (by omega), hW.2.2.1.2.2]
    rw [e0, bs_e, if_pos ((nI_le2 (by omega) (by omega)).mpr (by omega)), show j = gP (M 203) by omega]
    by_cases hy : y = 0
    · rw [if_pos hy, if_pos hy]
    · rw [if_neg hy, if_neg hy]
  | succ r ih =>
    intro j f N hj hf hfr
    obtain ⟨f, rfl⟩ : ∃ g, f = g + 1 := ⟨f - 1, by omega⟩
    have e0 : fw_ald N (199 + 4) 39 (2 : Int32) = some (nI (gP (M 203))) := by rw [show (2 : Int32) = nI 2 from rfl, ald_n (by omega) (by omega), hfr 203 (by omega) (by omega), hW.2.2.1.2.2]
    have hN203 : N 203 = M 203 := hfr 203 (by omega) (by omega)
    have kw : P_Mod_waits (199 + 4) N (nI j) (nI d) = some (b1 (gd (M 203) j = (d : Int))) := by
      have := m_waits (a := 203) (M := N) (p := j) (by omega) (nI d)
      rw [hN203, tI (by omega)] at this
      exact this
    show ∃ M2, P_Mod_third_b46 199 _ N _ _ _ _ _ = _ ∧ _
    unfold P_Mod_third_b46 P_Mod_third_b108 P_Mod_third_b113 P_Mod_third_b126 P_Mod_third_b139 P_Mod_third_b141
    rw [e0, bs_e, if_neg (fun z => by have := (nI_le2 (show gP (M 203) < 1000000 by omega) (show j < 1000000 by omega)).mp z; omega), kw, bs_e]
    simp only [b1_0, if_true, if_neg (show ¬ (1 : Int32) = 0 by decide), nI_s]
    by_cases hc : gd (M 203) j = (d : Int)
    · rw [if_neg (fun z => z hc)]
      obtain ⟨M2, p1, p2⟩ := ih (j + 1) f N (by omega) (by omega) hfr
      rw [show bd (wt3 (M 203) d) (j + 1) = bd (wt3 (M 203) d) j by
        show bst _ _ _ = _
        unfold wt3
        rw [if_pos hc]
        rfl] at p1
      exact ⟨M2, p1, p2⟩
    · rw [if_pos hc]
      obtain ⟨M1, l1, l2, l3, -, l5⟩ := lay_up N
      obtain ⟨u1, u2, u3, u4, u5, u6, u7⟩ := up_door hW (show j < gP (M 203) by omega) hd
      have h39 : ∀ i, i < 39 → fw_set M1 205 (4 + 5 * j + 3) (nI d) 205 i = upd (M 203) (4 + 5 * j + 3) (nI d) i := fun i hi => by rw [l3 j 3 (nI d) (by omega) (by omega) i hi, hN203]
      obtain ⟨N2, t1, t2⟩ := left_g (M := fw_set M1 205 (4 + 5 * j + 3) (nI d)) h39 u1 (x := nI d) (by rw [tI (by omega)]; omega)
      rw [u4, u5, tI (by omega), u7] at t1
      have k1 : P_Mod_leftAt 199 (fw_set M1 205 (4 + 5 * j + 3) (nI d)) (nI d) = some (nI (lwA (M 203) d j), N2) := t1
      have k2 : fw_ast M1 (199 + 6) 39 (nI (4 + 5 * j + 3)) (nI d) = _ := l2 j 3 (nI d) (by omega) (by omega)
      have hfr2 : ∀ b, b ≠ 205 → b ≠ 208 → N2 b = M b := fun b b1 b2 => by rw [t2 b b1 b2, st_n b1, l5 b b1, hfr b b1 b2]
      obtain ⟨M2, p1, p2⟩ := ih (j + 1) f N2 (by omega) (by omega) hfr2
      refine ⟨M2, ?_, p2⟩
      have hm7 : lwA (M 203) d j ≤ 7 := pc_le _ _
      rw [show bd (wt3 (M 203) d) (j + 1) = bst (bd (wt3 (M 203) d) j) j (some (lwA (M 203) d j)) by
        show bst _ _ _ = _
        congr 1
        unfold wt3
        rw [if_neg hc]] at p1
      rw [l1, bs_e, ix_y (x := 3) (c := 3) rfl, k2, bs_e, k1, bs_e]
      unfold bst at p1
      simp only at p1 ⊢
      cases hb : bd (wt3 (M 203) d) j with
      | none =>
        rw [hb] at p1
        rw [if_pos (show oM (bF none) = -1000000 from rfl)]
        exact p1
      | some z =>
        have hz := bd_x hb
        have hz7 := (wt3_7 hz.2).1
        rw [hb] at p1
        simp only at p1
        rw [if_neg (show ¬ oM (bF (some z)) = -1000000 from fun y => by have := congrArg Int32.toInt y; rw [show (oM (bF (some z))).toInt = (z.1 : Int) from tI (show z.1 < 1000000 by omega), show (-1000000 : Int32).toInt = -1000000 from rfl] at this; omega)]
        by_cases h : lwA (M 203) d j < z.2
        · rw [if_pos h] at p1
          rw [if_neg (show ¬ oM (bS (some z)) ≤ nI (lwA (M 203) d j) from fun y => by have := (nI_le2 (a := z.2) (b := lwA (M 203) d j) (by omega) (by omega)).mp y; omega)]
          exact p1
        · rw [if_neg h] at p1
          rw [if_pos (show oM (bS (some z)) ≤ nI (lwA (M 203) d j) from (nI_le2 (a := z.2) (b := lwA (M 203) d j) (by omega) (by omega)).mpr (by omega))]
          exact p1
theorem ow_third {Mc Mr : fw_M} (hR : rl Mc Mr) (a0 : Int32) (a1 : Int32) : ∃ (r : Int32) (Mc2 Mr2 : fw_M), P_Door_third 0 Mc a0 a1 = some (r, Mc2) ∧ P_Mod_third 199 Mr a0 a1 = some (r, Mr2) ∧ rl Mc2 Mr2 := by
  have hfu := fw_fu_ge
  unfold P_Door_third P_Door_third_b0 P_Door_third_b22 P_Door_third_b23 P_Door_third_b76 P_Mod_third P_Mod_third_b0 P_Mod_third_b33
  have hR2 := rl_thrown hR 0
  have hG : fw_set Mr 199 0 0 203 = Mr 203 := st_n (by omega)
  obtain ⟨e1, e2, e3, e4, h7, hd4, hPD, e5⟩ := hall_P hR
  simp only [pl_e]
  rw [p_isDoor (o := 0) e3 (by omega), m_isThere (o := 199) (by rw [hG]; exact e4) (by omega), m_isDoor (o := 199) (by rw [hG]; exact e4) (by omega), p_w0 Mc a1 (hi := 1) (n := 1) rfl, p_in0 _ a1 (hi := 1) (n := 1) rfl]
  simp only [p_refusal (o := 0) e1 (show gP (Mr 203) < 1000 by omega), bs_e, b1_0]
  by_cases hP : gP (Mr 203) = 0
  · have hD := hPD.mp hP
    rw [if_pos (show ¬ (0 ≤ a0.toInt ∧ a0.toInt < (gD (Mr 203) : Int)) by omega), if_pos hP, if_pos (show ¬ 0 < gD (Mr 203) by omega), if_neg (by decide)]
    exact ⟨_, _, _, rfl, rfl, hR2⟩
  · obtain ⟨he, hW, -⟩ := hall_E hR (by omega)
    rw [if_neg (show ¬ ¬ 0 < gD (Mr 203) by omega)]
    simp only [if_neg hP, if_true, if_neg (show ¬ (1 : Int32) = 0 by decide), if_neg (show ¬ (-1000001 : Int32) = 0 by decide)]
    by_cases h0 : 0 ≤ a0.toInt ∧ a0.toInt < (gD (Mr 203) : Int)
    · simp only [h0, and_self, not_true, if_false]
      by_cases h1 : 0 ≤ a1.toInt ∧ a1.toInt ≤ 1
      · simp only [h1, and_self, not_true, if_false]
        obtain ⟨d, hd, rfl⟩ := per_x h0
        obtain ⟨M1, q1, q2⟩ := c_third (Mr := fw_set Mr 199 0 0) (d := d) (by rw [hG]; exact hd) (by rw [hG]; omega) (by rw [hG]; exact hW) (gP (Mr 203)) 0 fw_fu Mc (by rw [hG]; omega) (by omega) hR2
        obtain ⟨N1, t1, t2⟩ := m_third (M := fw_set Mr 199 0 0) (d := d) (by rw [hG]; exact hd) (by rw [hG]; exact hW) (y := a1) (gP (Mr 203)) 0 fw_fu _ (by rw [hG]; omega) (by omega) (fun _ _ _ => rfl)
        rw [hG] at q1 t1
        have k3 : P_Fore_bestThird (0 + 157) (0 + 4) Mc (nI d) = _ := q1
        have k4 : P_Mod_third_h46 199 fw_fu (fw_set Mr 199 0 0) (nI d) a1 (-1000000) (-1000000) 0 = _ := t1
        have hfr : ∀ M, rl M (fw_set Mr 199 0 0) → rl M N1 := fun M hM => rl_scr hM (fun _ _ => rfl) (fun k _ _ z1 z2 => t2 k z1 z2) (fun i hi => by rw [t2 199 (by omega) (by omega)])
        rw [k3, bs_e, k4]
        cases hb : bd (wt3 (Mr 203) d) (gP (Mr 203)) with
        | none =>
          by_cases hy : a1 = 0
          · rw [if_pos hy, if_pos hy]
            exact ⟨_, M1, N1, rfl, rfl, hfr M1 q2⟩
          · rw [if_neg hy, if_neg hy]
            exact ⟨_, M1, N1, rfl, rfl, hfr M1 q2⟩
        | some z =>
          obtain ⟨z1, z2⟩ := bd_x hb
          obtain ⟨hz7, hzl⟩ := wt3_7 z2
          by_cases hy : a1 = 0
          · rw [if_pos hy, if_pos hy]
            simp only
            rw [orN2 M1 (x := bF (some z)) (fun m hm => by have : z.1 = m := Option.some.inj hm; omega)]
            exact ⟨_, M1, N1, rfl, rfl, hfr M1 q2⟩
          · rw [if_neg hy, if_neg hy]
            simp only
            obtain ⟨M2, s1, s2, -⟩ := leftWith_e q2 (p := z.1) (d := d) (by rw [hG]; exact z1) (by rw [hG]; exact hd)
            rw [hG, ← hzl] at s1
            have k5 : P_Fore_leftWith (0 + 157) (0 + 4) M1 (nI d) (oN (bF (some z))) = _ := s1
            rw [k5, bs_e]
            simp only
            rw [show P_Door_orNone M2 (nI z.2) = some (oM (some z.2)) from orN2 M2 (x := some z.2) (fun m hm => by have : z.2 = m := Option.some.inj hm; omega)]
            exact ⟨_, M2, N1, rfl, rfl, hfr M2 s2⟩
      · simp only [h1, not_false_iff, if_true]
        exact ⟨_, _, _, rfl, rfl, hR2⟩
    · simp only [h0, not_false_iff, if_true]
      exact ⟨_, _, _, rfl, rfl, hR2⟩
