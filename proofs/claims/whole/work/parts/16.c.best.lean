/-! THE BEST OF SEVERAL: the first with the least number -/
def bst (s : Option (Nat × Nat)) (d : Nat) (m : Option Nat) : Option (Nat × Nat) := match m with
  | none => s
  | some m => match s with
    | none => some (d, m)
    | some z => if m < z.2 then some (d, m) else some z
def bd (wa : Nat → Option Nat) : Nat → Option (Nat × Nat)
  | 0 => none
  | d + 1 => bst (bd wa d) d (wa d)
def bF (s : Option (Nat × Nat)) : Option Nat := s.map (fun z => z.1)
def bS (s : Option (Nat × Nat)) : Option Nat := s.map (fun z => z.2)
def oK (k : Int32) : Option Nat → Int32
  | none => k
  | some m => nI m
theorem bd_x {wa : Nat → Option Nat} : ∀ {j : Nat} {z : Nat × Nat}, bd wa j = some z → z.1 < j ∧ wa z.1 = some z.2
  | 0, z, e => by cases e
  | j + 1, z, e => by
    unfold bd bst at e
    cases hw : wa j with
    | none =>
      rw [hw] at e
      have := bd_x e
      exact ⟨by omega, this.2⟩
    | some m =>
      rw [hw] at e
      cases hb : bd wa j with
      | none =>
        rw [hb] at e
        have := Option.some.inj e
        subst this
        exact ⟨by simp, hw⟩
      | some y =>
        rw [hb] at e
        simp only at e
        by_cases h : m < y.2
        · rw [if_pos h] at e
          have := Option.some.inj e
          subst this
          exact ⟨by simp, hw⟩
        · rw [if_neg h] at e
          have := Option.some.inj e
          subst this
          have := bd_x hb
          exact ⟨by omega, this.2⟩
/-- when one is through, were he at the door d -/
def wtA (G : Nat → Int32) (p d : Nat) : Option Nat := wtn (upd G (4 + 5 * p + 3) (nI d)) p
theorem wtA_7 {G : Nat → Int32} {p d m : Nat} (e : wtA G p d = some m) : m ≤ 7 := wtn_7 e
theorem wtA_e {G : Nat → Int32} (hW : WF G) {p d : Nat} (hp : p < gP G) (hd : d < gD G) : wtA G p d = match ff (fun i => decide (lg (ymk G) (gb G) (wm G (d : Int) ||| 2 ^ p) i = some p)) 7 0 with | some i => some (i + 1) | none => none := by
  obtain ⟨a1, a2, a3, a4, a5, a6, a7⟩ := up_door hW hp hd
  unfold wtA wtn
  rw [a6, if_neg (by omega), a4, a5, a7]
  rfl
theorem or_in {G : Nat → Int32} {p : Nat} (hp : p < gP G) {d : Int} : ∀ i, (wm G d ||| 2 ^ p).testBit i = true → i < gP G := by
  intro i hi
  rw [Nat.testBit_or, Nat.testBit_two_pow, Bool.or_eq_true] at hi
  rcases hi with z | z
  · exact (wm_in z).1
  · simp only [decide_eq_true_eq] at z
    omega
theorem whenAt_e {Mc Mr : fw_M} (hR : rl Mc Mr) {p d : Nat} (hp : p < gP (Mr 203)) (hd : d < gD (Mr 203)) : ∃ M2, P_Fore_whenAt 157 4 Mc (nI p) (nI d) = some (oN (wtA (Mr 203) p d), M2) ∧ rl M2 Mr ∧ ∀ b, (b < 157 ∨ 168 < b) → M2 b = Mc b := by
  obtain ⟨he, hW, -⟩ := hall_E hR (by omega)
  have h7 := hW.2.2.1.2.1
  have hD4 := hW.1.2.1
  obtain ⟨M2, q1, q2, q3, q4⟩ := lineOf_g he hW (by omega) (or_in (d := (d : Int)) hp)
  refine ⟨M2, ?_, rl_sc hR (fun k hk => q4 k (by omega)), fun b hb => q4 b (by omega)⟩
  unfold P_Fore_whenAt P_Fore_whenAt_b0 P_Fore_whenAt_b26
  rw [if_pos (nI_nn (by omega)), p_waitingAt he hW, bs_e, tI (by omega), sh_1 p (by omega), fa_or, q1, bs_e, show P_Line_whenGone (157 + 9) M2 (nI p) = _ from l_when q2 (by omega), bs_e, wtA_e hW hp hd]
  rfl
theorem c_soon {Mr : fw_M} {p : Nat} (hp : p < gP (Mr 203)) (hW : WF (Mr 203)) : ∀ (r j f : Nat) (M : fw_M), j + r = gD (Mr 203) → r < f → rl M Mr → ∃ M2, P_Fore_soonestDoor_h9 157 4 f M (nI p) (oN (bF (bd (wtA (Mr 203) p) j))) (oK 61 (bS (bd (wtA (Mr 203) p) j))) (nI j) = some (oN (bF (bd (wtA (Mr 203) p) (gD (Mr 203)))), M2) ∧ rl M2 Mr := by
  have hD4 := hW.1.2.1
  intro r
  induction r with
  | zero =>
    intro j f M hj hf hR
    obtain ⟨f, rfl⟩ : ∃ g, f = g + 1 := ⟨f - 1, by omega⟩
    have e := (hall_P hR).2.2.1
    refine ⟨M, ?_, hR⟩
    show P_Fore_soonestDoor_b9 157 4 _ M _ _ _ _ = _
    unfold P_Fore_soonestDoor_b9
    rw [e, if_pos ((nI_le2 (by omega) (by omega)).mpr (by omega)), show j = gD (Mr 203) by omega]
  | succ r ih =>
    intro j f M hj hf hR
    obtain ⟨f, rfl⟩ : ∃ g, f = g + 1 := ⟨f - 1, by omega⟩
    have e := (hall_P hR).2.2.1
    obtain ⟨M1, q1, q2, -⟩ := whenAt_e hR hp (show j < gD (Mr 203) by omega)
    obtain ⟨M2, p1, p2⟩ := ih (j + 1) f M1 (by omega) (by omega) q2
    refine ⟨M2, ?_, p2⟩
    show P_Fore_soonestDoor_b9 157 4 _ M _ _ _ _ = _
    unfold P_Fore_soonestDoor_b9 P_Fore_soonestDoor_b47
    rw [e, if_neg (fun z => by have := (nI_le2 (show gD (Mr 203) < 1000000 by omega) (show j < 1000000 by omega)).mp z; omega), q1, bs_e, nI_s]
    simp only
    rw [show bd (wtA (Mr 203) p) (j + 1) = bst (bd (wtA (Mr 203) p) j) j (wtA (Mr 203) p j) from rfl] at p1
    unfold bst at p1
    cases hw : wtA (Mr 203) p j with
    | none =>
      rw [hw] at p1
      rw [if_pos (show oN none < 0 by decide)]
      exact p1
    | some m =>
      have hm7 := wtA_7 hw
      rw [hw] at p1
      rw [if_neg (show ¬ oN (some m) < 0 from fun z => (nI_z3 (show m < 1000000 by omega)).mp z)]
      cases hb : bd (wtA (Mr 203) p) j with
      | none =>
        rw [hb] at p1
        rw [if_neg (show ¬ oK 61 (bS none) ≤ oN (some m) from fun z => by have := (nI_le2 (a := 61) (b := m) (by omega) (by omega)).mp z; omega)]
        exact p1
      | some z =>
        have hz := bd_x hb
        have hz7 := wtA_7 hz.2
        rw [hb] at p1
        simp only at p1
        by_cases h : m < z.2
        · rw [if_pos h] at p1
          rw [if_neg (show ¬ oK 61 (bS (some z)) ≤ oN (some m) from fun y => by have := (nI_le2 (a := z.2) (b := m) (by omega) (by omega)).mp y; omega)]
          exact p1
        · rw [if_neg h] at p1
          rw [if_pos (show oK 61 (bS (some z)) ≤ oN (some m) from (nI_le2 (a := z.2) (b := m) (by omega) (by omega)).mpr (by omega))]
          exact p1
theorem m_soon {M : fw_M} {p : Nat} (hp : p < gP (M 203)) (hW : WF (M 203)) {y : Int32} : ∀ (r j f : Nat) (N : fw_M), j + r = gD (M 203) → r < f → (∀ b, b ≠ 205 → b ≠ 208 → N b = M b) → ∃ M2, P_Mod_bestDoor_h51 199 f N (nI p) y (oM (bF (bd (wtA (M 203) p) j))) (oM (bS (bd (wtA (M 203) p) j))) (nI j) = some (if y = 0 then oM (bF (bd (wtA (M 203) p) (gD (M 203)))) else oM (bS (bd (wtA (M 203) p) (gD (M 203)))), M2) ∧ ∀ b, b ≠ 205 → b ≠ 208 → M2 b = M b := by
  have hfu := fw_fu_ge
  have hD4 := hW.1.2.1
  have h7 := hW.2.2.1.2.1
  intro r
  induction r with
  | zero =>
    intro j f N hj hf hfr
    obtain ⟨f, rfl⟩ : ∃ g, f = g + 1 := ⟨f - 1, by omega⟩
    refine ⟨N, ?_, hfr⟩
    show P_Mod_bestDoor_b51 199 _ N _ _ _ _ _ = _
    unfold P_Mod_bestDoor_b51 P_Mod_bestDoor_b156
    have e0 : fw_ald N (199 + 4) 39 (0 : Int32) = some (nI (gD (M 203))) := by rw [show (0 : Int32) = nI 0 from rfl, ald_n (by omega) (by omega), hfr 203 (by omega) (by omega), hW.1.2.2]
    rw [e0, bs_e, if_pos ((nI_le2 (by omega) (by omega)).mpr (by omega)), show j = gD (M 203) by omega]
    by_cases hy : y = 0
    · rw [if_pos hy, if_pos hy]
    · rw [if_neg hy, if_neg hy]
  | succ r ih =>
    intro j f N hj hf hfr
    obtain ⟨f, rfl⟩ : ∃ g, f = g + 1 := ⟨f - 1, by omega⟩
    have e0 : fw_ald N (199 + 4) 39 (0 : Int32) = some (nI (gD (M 203))) := by rw [show (0 : Int32) = nI 0 from rfl, ald_n (by omega) (by omega), hfr 203 (by omega) (by omega), hW.1.2.2]
    obtain ⟨M1, l1, l2, l3, -, l5⟩ := lay_up N
    have hN203 : N 203 = M 203 := hfr 203 (by omega) (by omega)
    obtain ⟨u1, u2, -⟩ := up_door hW hp (show j < gD (M 203) by omega)
    have h39 : ∀ i, i < 39 → fw_set M1 205 (4 + 5 * p + 3) (nI j) 205 i = upd (M 203) (4 + 5 * p + 3) (nI j) i := fun i hi => by rw [l3 p 3 (nI j) (by omega) (by omega) i hi, hN203]
    obtain ⟨N2, t1, t2⟩ := m_through (M := fw_set M1 205 (4 + 5 * p + 3) (nI j)) h39 u1 (p := p) (by rw [u2]; exact hp) 61 0 fw_fu _ (by omega) (by omega) rfl (fun _ _ _ => rfl) (fun _ _ => by omega)
    have k1 : P_Mod_throughBy 199 (fw_set M1 205 (4 + 5 * p + 3) (nI j)) (nI p) = some (oM (wtA (M 203) p j), N2) := t1
    have k2 : fw_ast M1 (199 + 6) 39 (nI (4 + 5 * p + 3)) (nI j) = _ := l2 p 3 (nI j) (by omega) (by omega)
    have hfr2 : ∀ b, b ≠ 205 → b ≠ 208 → N2 b = M b := fun b b1 b2 => by rw [t2 b b1 b2, st_n b1, l5 b b1, hfr b b1 b2]
    obtain ⟨M2, p1, p2⟩ := ih (j + 1) f N2 (by omega) (by omega) hfr2
    refine ⟨M2, ?_, p2⟩
    show P_Mod_bestDoor_b51 199 _ N _ _ _ _ _ = _
    unfold P_Mod_bestDoor_b51 P_Mod_bestDoor_b111 P_Mod_bestDoor_b107 P_Mod_bestDoor_b112 P_Mod_bestDoor_b125 P_Mod_bestDoor_b138
    rw [e0, bs_e, if_neg (fun z => by have := (nI_le2 (show gD (M 203) < 1000000 by omega) (show j < 1000000 by omega)).mp z; omega), l1, bs_e, ix_y (x := 3) (c := 3) rfl, k2, bs_e, k1, bs_e]
    simp only [if_true, if_neg (show ¬ (1 : Int32) = 0 by decide), nI_s]
    rw [show bd (wtA (M 203) p) (j + 1) = bst (bd (wtA (M 203) p) j) j (wtA (M 203) p j) from rfl] at p1
    unfold bst at p1
    cases hw : wtA (M 203) p j with
    | none =>
      rw [hw] at p1
      rw [if_pos (show oM none = -1000000 from rfl)]
      exact p1
    | some m =>
      have hm7 := wtA_7 hw
      rw [hw] at p1
      rw [if_neg (show ¬ oM (some m) = -1000000 from fun z => by have := congrArg Int32.toInt z; rw [show (oM (some m)).toInt = (m : Int) from tI (by omega), show (-1000000 : Int32).toInt = -1000000 from rfl] at this; omega)]
      cases hb : bd (wtA (M 203) p) j with
      | none =>
        rw [hb] at p1
        rw [if_pos (show oM (bF none) = -1000000 from rfl)]
        exact p1
      | some z =>
        have hz := bd_x hb
        have hz7 := wtA_7 hz.2
        rw [hb] at p1
        simp only at p1
        rw [if_neg (show ¬ oM (bF (some z)) = -1000000 from fun y => by have := congrArg Int32.toInt y; rw [show (oM (bF (some z))).toInt = (z.1 : Int) from tI (show z.1 < 1000000 by omega), show (-1000000 : Int32).toInt = -1000000 from rfl] at this; omega)]
        by_cases h : m < z.2
        · rw [if_pos h] at p1
          rw [if_neg (show ¬ oM (bS (some z)) ≤ oM (some m) from fun y => by have := (nI_le2 (a := z.2) (b := m) (by omega) (by omega)).mp y; omega)]
          exact p1
        · rw [if_neg h] at p1
          rw [if_pos (show oM (bS (some z)) ≤ oM (some m) from (nI_le2 (a := z.2) (b := m) (by omega) (by omega)).mpr (by omega))]
          exact p1
theorem ow_bestDoor {Mc Mr : fw_M} (hR : rl Mc Mr) (a0 : Int32) (a1 : Int32) : ∃ (r : Int32) (Mc2 Mr2 : fw_M), P_Door_bestDoor 0 Mc a0 a1 = some (r, Mc2) ∧ P_Mod_bestDoor 199 Mr a0 a1 = some (r, Mr2) ∧ rl Mc2 Mr2 := by
  have hfu := fw_fu_ge
  unfold P_Door_bestDoor P_Door_bestDoor_b0 P_Door_bestDoor_b17 P_Door_bestDoor_b76 P_Mod_bestDoor P_Mod_bestDoor_b0 P_Mod_bestDoor_b23
  have hR2 := rl_thrown hR 0
  have hG : fw_set Mr 199 0 0 203 = Mr 203 := st_n (by omega)
  obtain ⟨e1, e2, e3, e4, h7, hd4, hPD, e5⟩ := hall_P hR
  simp only [pl_e]
  rw [p_isPerson (o := 0) e1 (by omega), m_isPerson (o := 199) (by rw [hG]; exact e2) (by omega), p_w0 Mc a1 (hi := 1) (n := 1) rfl, p_in0 _ a1 (hi := 1) (n := 1) rfl]
  simp only [bs_e, b1_0]
  by_cases h0 : 0 ≤ a0.toInt ∧ a0.toInt < (gP (Mr 203) : Int)
  · obtain ⟨p, hp, rfl⟩ := per_x h0
    simp only [h0, and_self, not_true, if_false]
    by_cases h1 : 0 ≤ a1.toInt ∧ a1.toInt ≤ 1
    · simp only [h1, and_self, not_true, if_false]
      obtain ⟨he, hW, -⟩ := hall_E hR (by omega)
      have k1 : fw_ald Mc (0 + 4 + 4) 7 (nI p) = _ := (ce_d hR rfl hp).1
      have k2 : P_Mod_of (199 + 4) (fw_set Mr 199 0 0) (nI p) 3 = _ := (ce_d hR2 hG hp).2
      rw [k1, bs_e, k2, bs_e]
      simp only [gd_m, gd_0]
      have hgd := (hW.2.2.2 p hp).2.2.2.1.1
      by_cases hd : gd (Mr 203) p = -1
      · rw [if_pos hd, if_neg (by omega)]
        exact ⟨_, _, _, rfl, rfl, hR2⟩
      · rw [if_neg hd, if_pos (by omega)]
        obtain ⟨M1, q1, q2⟩ := c_soon (Mr := fw_set Mr 199 0 0) (p := p) (by rw [hG]; exact hp) (by rw [hG]; exact hW) (gD (Mr 203)) 0 fw_fu Mc (by rw [hG]; omega) (by omega) hR2
        obtain ⟨N1, t1, t2⟩ := m_soon (M := fw_set Mr 199 0 0) (p := p) (by rw [hG]; exact hp) (by rw [hG]; exact hW) (y := a1) (gD (Mr 203)) 0 fw_fu _ (by rw [hG]; omega) (by omega) (fun _ _ _ => rfl)
        rw [hG] at q1 t1
        have k3 : P_Fore_soonestDoor (0 + 157) (0 + 4) Mc (nI p) = _ := q1
        have k4 : P_Mod_bestDoor_h51 199 fw_fu (fw_set Mr 199 0 0) (nI p) a1 (-1000000) (-1000000) 0 = _ := t1
        have hfr : ∀ M, rl M (fw_set Mr 199 0 0) → rl M N1 := fun M hM => rl_scr hM (fun _ _ => rfl) (fun k _ _ z1 z2 => t2 k z1 z2) (fun i hi => by rw [t2 199 (by omega) (by omega)])
        rw [k3, bs_e, k4]
        cases hb : bd (wtA (Mr 203) p) (gD (Mr 203)) with
        | none =>
          by_cases hy : a1 = 0
          · rw [if_pos hy, if_pos hy]
            exact ⟨_, M1, N1, rfl, rfl, hfr M1 q2⟩
          · rw [if_neg hy, if_neg hy]
            exact ⟨_, M1, N1, rfl, rfl, hfr M1 q2⟩
        | some z =>
          obtain ⟨z1, z2⟩ := bd_x hb
          have hz7 := wtA_7 z2
          by_cases hy : a1 = 0
          · rw [if_pos hy, if_pos hy]
            simp only
            rw [orN2 M1 (x := bF (some z)) (fun m hm => by have : z.1 = m := Option.some.inj hm; omega)]
            exact ⟨_, M1, N1, rfl, rfl, hfr M1 q2⟩
          · rw [if_neg hy, if_neg hy]
            simp only
            obtain ⟨M2, s1, s2, -⟩ := whenAt_e q2 (p := p) (d := z.1) (by rw [hG]; exact hp) (by rw [hG]; exact z1)
            rw [hG, z2] at s1
            have k5 : P_Fore_whenAt (0 + 157) (0 + 4) M1 (nI p) (oN (bF (some z))) = _ := s1
            rw [k5, bs_e]
            simp only
            rw [orN2 M2 (x := some z.2) (fun m hm => by have : z.2 = m := Option.some.inj hm; omega)]
            exact ⟨_, M2, N1, rfl, rfl, hfr M2 s2⟩
    · simp only [h1, not_false_iff, if_true]
      exact ⟨_, _, _, rfl, rfl, hR2⟩
  · simp only [h0, not_false_iff, if_true]
    exact ⟨_, _, _, rfl, rfl, hR2⟩
