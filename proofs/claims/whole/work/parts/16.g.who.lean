def sn_who (G : Nat → Int32) (p : Nat) (d : Int) (it : Nat → Int32) (n r : Nat) : Bool := sqn (upd G (4 + 5 * p + 0) (nI r)) d it n
theorem c_who {M0 : fw_M} {G : Nat → Int32} (hW : WF G) {p d r1 L s n : Nat} (hp : p < gP G) (hd : d < 1000) (h1 : 169 ≤ r1) (hL : M0 r1 2 = nI L) (hl : L ≤ 40) (hs : s + n ≤ L) : ∀ (r j f : Nat) (M : fw_M) (v : Int32), j + r = 5 → r < f → rl_eq M 158 (upd G (4 + 5 * p + 0) v) → (∀ b, (b < 157 ∨ 168 < b) → M b = M0 b) → ∃ M2, P_Fore_kindsSeen_h14 157 4 r1 f M (nI d) (nI p) (nI s) (nI n) (acI (sn_who G p (d : Int) (fun k => M0 (r1 + 1) (s + k)) n) 1 j) (nI (1 + j)) = some (acI (sn_who G p (d : Int) (fun k => M0 (r1 + 1) (s + k)) n) 1 5, M2) ∧ ∀ b, (b < 157 ∨ 168 < b) → M2 b = M0 b := by
  have h7 := hW.2.2.1.2.1
  intro r
  induction r with
  | zero =>
    intro j f M v hj hf he hfr
    obtain ⟨f, rfl⟩ : ∃ g, f = g + 1 := ⟨f - 1, by omega⟩
    have e : j = 5 := by omega
    subst e
    refine ⟨M, ?_, hfr⟩
    show P_Fore_kindsSeen_b14 157 4 r1 _ M _ _ _ _ _ _ = _
    unfold P_Fore_kindsSeen_b14
    rw [if_pos (show (5 : Int32) < nI (1 + 5) by decide)]
  | succ r ih =>
    intro j f M v hj hf he hfr
    obtain ⟨f, rfl⟩ : ∃ g, f = g + 1 := ⟨f - 1, by omega⟩
    have he2 := eq_up he (p := p) (c := 0) (by omega) (nI (1 + j))
    rw [up_up] at he2
    have hw2 := (wf_up hW (c := 0) (v := nI (1 + j)) hp (by omega) ⟨1 + j, by omega, by omega, rfl⟩).1
    obtain ⟨M1, q1, q2⟩ := isSeen_e he2 hw2 (d := d) hd h1 (L := L) (s := s) (n := n) (by rw [st_n (by omega), hfr r1 (by omega)]; exact hL) hl hs
    rw [st_n (show r1 + 1 ≠ 158 + 1 + 0 by omega), hfr (r1 + 1) (by omega)] at q1
    obtain ⟨M2, p1, p2⟩ := ih (j + 1) f M1 (nI (1 + j)) (by omega) (by omega) (eq_cong he2 fun k _ _ => q2 k (by omega)) (fun b hb => by rw [q2 b (by omega), st_n (by omega), hfr b hb])
    refine ⟨M2, ?_, p2⟩
    show P_Fore_kindsSeen_b14 157 4 r1 _ M _ _ _ _ _ _ = _
    unfold P_Fore_kindsSeen_b14 P_Fore_kindsSeen_b54
    rw [if_neg (show ¬ (5 : Int32) < nI (1 + j) from fun z => by have := (nI_lt2 (a := 5) (b := 1 + j) (by omega) (by omega)).mp z; omega), show fw_ast M (157 + 1 + 1) 7 (nI p) (nI (1 + j)) = some (fw_set M (158 + 1 + 0) p (nI (1 + j))) from ast_n (by omega) (by omega), bs_e, q1, bs_e]
    simp only [b1_0, pl_e, nI_s]
    have hcc : sqn (upd G (4 + 5 * p + 0) (nI (1 + j))) (d : Int) (fun k => M0 (r1 + 1) (s + k)) n = sn_who G p (d : Int) (fun k => M0 (r1 + 1) (s + k)) n (1 + j) := rfl
    rw [hcc]
    rw [show acI (sn_who G p (d : Int) (fun k => M0 (r1 + 1) (s + k)) n) 1 (j + 1) = if sn_who G p (d : Int) (fun k => M0 (r1 + 1) (s + k)) n (1 + j) = true then acI (sn_who G p (d : Int) (fun k => M0 (r1 + 1) (s + k)) n) 1 j ||| ((1 : Int32) <<< (nI (1 + j) &&& 31)) else acI (sn_who G p (d : Int) (fun k => M0 (r1 + 1) (s + k)) n) 1 j from rfl] at p1
    by_cases hq : sn_who G p (d : Int) (fun k => M0 (r1 + 1) (s + k)) n (1 + j) = true
    · rw [if_pos hq] at p1
      rw [if_neg (fun z => z hq)]
      exact p1
    · rw [if_neg hq] at p1
      rw [if_pos hq]
      exact p1
theorem m_who {M : fw_M} (hW : WF (M 203)) {p d i s n : Nat} (hp : p < gP (M 203)) (hd : d < 1000) (hi : i < 8) (hs : s + n ≤ 40) : ∀ (r j f : Nat) (N : fw_M), j + r = 5 → r < f → (∀ b, b ≠ 205 → b ≠ 208 → N b = M b) → ∃ M2, P_Mod_who_h99 199 f N (nI d) (nI p) (nI i) (nI s) (nI n) (acI (sn_who (M 203) p (d : Int) (fun k => M 202 (40 * i + s + k)) n) 1 j) (nI (1 + j)) = some (acI (sn_who (M 203) p (d : Int) (fun k => M 202 (40 * i + s + k)) n) 1 5, M2) ∧ ∀ b, b ≠ 205 → b ≠ 208 → M2 b = M b := by
  have h7 := hW.2.2.1.2.1
  intro r
  induction r with
  | zero =>
    intro j f N hj hf hfr
    obtain ⟨f, rfl⟩ : ∃ g, f = g + 1 := ⟨f - 1, by omega⟩
    have e : j = 5 := by omega
    subst e
    refine ⟨N, ?_, hfr⟩
    show P_Mod_who_b99 199 _ N _ _ _ _ _ _ _ = _
    unfold P_Mod_who_b99
    rw [if_pos (show (5 : Int32) < nI (1 + 5) by decide)]
  | succ r ih =>
    intro j f N hj hf hfr
    obtain ⟨f, rfl⟩ : ∃ g, f = g + 1 := ⟨f - 1, by omega⟩
    have hN203 : N 203 = M 203 := hfr 203 (by omega) (by omega)
    obtain ⟨M1, l1, l2, l3, -, l5⟩ := lay_up N
    have hw2 := (wf_up hW (c := 0) (v := nI (1 + j)) hp (by omega) ⟨1 + j, by omega, by omega, rfl⟩).1
    have h39 : ∀ i, i < 39 → fw_set M1 205 (4 + 5 * p + 0) (nI (1 + j)) 205 i = upd (M 203) (4 + 5 * p + 0) (nI (1 + j)) i := fun i hi => by rw [l3 p 0 (nI (1 + j)) (by omega) (by omega) i hi, hN203]
    obtain ⟨N2, t1, t2⟩ := goSo_e (M := fw_set M1 205 (4 + 5 * p + 0) (nI (1 + j))) h39 hw2 (x := nI d) (by rw [tI (by omega)]; omega) (t := 40 * i + s) (n := n) (by omega)
    rw [tI (by omega), st_n (show (202 : Nat) ≠ 205 by omega), l5 202 (by omega), hfr 202 (by omega) (by omega)] at t1
    have k2 : fw_ast M1 (199 + 6) 39 (nI (4 + 5 * p + 0)) (nI (1 + j)) = _ := l2 p 0 (nI (1 + j)) (by omega) (by omega)
    obtain ⟨M2, p1, p2⟩ := ih (j + 1) f N2 (by omega) (by omega) (fun b b1 b2 => by rw [t2 b b1 b2, st_n b1, l5 b b1, hfr b b1 b2])
    refine ⟨M2, ?_, p2⟩
    show P_Mod_who_b99 199 _ N _ _ _ _ _ _ _ = _
    unfold P_Mod_who_b99 P_Mod_who_b150
    rw [if_neg (show ¬ (5 : Int32) < nI (1 + j) from fun z => by have := (nI_lt2 (a := 5) (b := 1 + j) (by omega) (by omega)).mp z; omega), l1, bs_e, ix_y (x := 0) (c := 0) rfl, k2, bs_e, nI_40, t1, bs_e]
    simp only [b1_0, pl_e, nI_s]
    have hcc : sqn (upd (M 203) (4 + 5 * p + 0) (nI (1 + j))) (d : Int) (fun k => M 202 (40 * i + s + k)) n = sn_who (M 203) p (d : Int) (fun k => M 202 (40 * i + s + k)) n (1 + j) := rfl
    rw [hcc]
    rw [show acI (sn_who (M 203) p (d : Int) (fun k => M 202 (40 * i + s + k)) n) 1 (j + 1) = if sn_who (M 203) p (d : Int) (fun k => M 202 (40 * i + s + k)) n (1 + j) = true then acI (sn_who (M 203) p (d : Int) (fun k => M 202 (40 * i + s + k)) n) 1 j ||| ((1 : Int32) <<< (nI (1 + j) &&& 31)) else acI (sn_who (M 203) p (d : Int) (fun k => M 202 (40 * i + s + k)) n) 1 j from rfl] at p1
    by_cases hq : sn_who (M 203) p (d : Int) (fun k => M 202 (40 * i + s + k)) n (1 + j) = true
    · rw [if_pos hq] at p1
      rw [if_neg (fun z => z hq)]
      exact p1
    · rw [if_neg hq] at p1
      rw [if_pos hq, i_or0]
      exact p1
theorem ow_who {Mc Mr : fw_M} (hR : rl Mc Mr) (a0 : Int32) (a1 : Int32) (a2 : Int32) (a3 : Int32) (a4 : Int32) : ∃ (r : Int32) (Mc2 Mr2 : fw_M), P_Door_who 0 Mc a0 a1 a2 a3 a4 = some (r, Mc2) ∧ P_Mod_who 199 Mr a0 a1 a2 a3 a4 = some (r, Mr2) ∧ rl Mc2 Mr2 := by
  have hfu := fw_fu_ge
  unfold P_Door_who P_Door_who_b0 P_Door_who_b50 P_Door_seenTrouble P_Door_seenTrouble_b0 P_Door_seenTrouble_b34 P_Door_seenTrouble_b80 P_Mod_who P_Mod_who_b0 P_Mod_who_b41 P_Mod_who_b82
  have hR2 := rl_thrown hR 0
  have hG : fw_set Mr 199 0 0 203 = Mr 203 := st_n (by omega)
  obtain ⟨e1, e2, e3, e4, h7, hd4, hPD, e5⟩ := hall_P hR
  simp only [pl_e]
  rw [p_isDoor (o := 0) e3 (by omega), m_isDoor (o := 199) (by rw [hG]; exact e4) (by omega), p_isPerson (o := 0) e1 (by omega), m_isPerson (o := 199) (by rw [hG]; exact e2) (by omega), p_isRow, m_isRow, p_within, p_in, Int32.toInt_toInt64]
  simp only [bs_e, b1_0, Int32.reduceToInt, Int64.reduceToInt]
  by_cases h0 : 0 ≤ a0.toInt ∧ a0.toInt < (gD (Mr 203) : Int)
  · simp only [h0, and_self, not_true, if_false]
    by_cases h1 : 0 ≤ a1.toInt ∧ a1.toInt < (gP (Mr 203) : Int)
    · simp only [h1, and_self, not_true, if_false]
      by_cases h2 : 0 ≤ a2.toInt ∧ a2.toInt ≤ 7
      · simp only [h2, and_self, not_true, if_false]
        by_cases h3 : 1 ≤ a4.toInt ∧ a4.toInt ≤ 12
        · simp only [h3, and_self, not_true, if_false]
          obtain ⟨d, hd, rfl⟩ := per_x h0
          obtain ⟨p, hp, rfl⟩ := per_x h1
          obtain ⟨i, hi, rfl⟩ : ∃ i : Nat, i < 8 ∧ a2 = nI i := ⟨a2.toInt.toNat, by omega, eq_nI (by omega)⟩
          obtain ⟨n, hn1, hn2, rfl⟩ : ∃ n : Nat, 1 ≤ n ∧ n ≤ 12 ∧ a4 = nI n := ⟨a4.toInt.toNat, by omega, by omega, eq_nI (by omega)⟩
          obtain ⟨he, hW, -⟩ := hall_E hR (by omega)
          have q200 : fw_ald (fw_set Mr 199 0 0) (199 + 1) 8 (nI i) = some (Mr 200 i) := by rw [ald_n hi (by omega), st_n (by omega)]
          have q201 : fw_ald (fw_set Mr 199 0 0) (199 + 2) 8 (nI i) = some (Mr 201 i) := by rw [ald_n hi (by omega), st_n (by omega)]
          rw [aix_n hi (by omega), bs_e, p_isMissing, bs_e, q200, bs_e, show 0 + 171 + 2 * i = 171 + 2 * i by omega]
          rcases row_c hR hi with ⟨z1, z2⟩ | ⟨L, la, hL, hla, z1, z2, z3, z4, z5⟩
          · rw [z1, z2, b1_t rfl, if_neg (show ¬ (1 : Int32) = 0 by decide), bs_e, if_neg (show ¬ (0 : Int32) ≤ -1 by decide), p_found, m_finding]
            simp only [bs_e]
            rw [if_neg (show ¬ (-1000010 : Int32) - 1 = 0 by decide)]
            exact ⟨_, _, _, rfl, rfl, rl_status hR2 1⟩
          · rw [b1_f (by rw [z1]; exact nI_m1 (by omega)), if_pos rfl, z4, bs_e, if_pos (nI_nn (show la < 1000000 by omega)), p_holds z1 hL, bs_e, q201, bs_e, z2]
            simp only [b1_0, Int32.lt_iff_toInt_lt, Int32.toInt_zero, lg_le, i64_add, Int32.toInt_toInt64, tI (show L < 1000000 by omega), tI (show n < 1000000 by omega)]
            have hbad : ∀ c : Prop, [Decidable c] → ¬ c → True := fun _ _ _ => trivial
            by_cases g1 : a3.toInt < 0
            · rw [if_pos (show ¬ (0 ≤ a3.toInt ∧ (0 : Int) ≤ (n : Int) ∧ a3.toInt + (n : Int) ≤ (L : Int)) by omega), if_pos g1, p_found, m_finding]
              simp only [bs_e]
              rw [if_neg (show ¬ (-1000010 : Int32) - 2 = 0 by decide)]
              exact ⟨_, _, _, rfl, rfl, rl_status hR2 2⟩
            · rw [if_neg g1]
              by_cases g2 : a3.toInt + (n : Int) ≤ (L : Int)
              · rw [if_neg (show ¬ ¬ (0 ≤ a3.toInt ∧ (0 : Int) ≤ (n : Int) ∧ a3.toInt + (n : Int) ≤ (L : Int)) by omega), if_pos g2]
                obtain ⟨s, hs, rfl⟩ : ∃ s : Nat, s + n ≤ L ∧ a3 = nI s := ⟨a3.toInt.toNat, by omega, eq_nI (by omega)⟩
                simp only [bs_e, if_true]
                obtain ⟨B, b1, b2, b3⟩ := become_eq (o := 158) (r := 4) (M := Mc) (g := Mr 203) (g2 := Mr 203) (by omega) he (by omega) (fun _ _ => rfl)
                obtain ⟨M2, p1, p2⟩ := c_who (M0 := Mc) hW (p := p) (d := d) (r1 := 171 + 2 * i) (L := L) (s := s) (n := n) hp (by omega) (by omega) z1 hL hs 5 0 fw_fu B (Mr 203 (4 + 5 * p + 0)) (by omega) (by omega) (by rw [up_id]; exact b2) (fun b hb => b3 b (by omega))
                have hR3 := rl_status hR2 0
                obtain ⟨N2, t1, t2⟩ := m_who (M := fw_set (fw_set Mr 199 0 0) 199 1 0) (p := p) (d := d) (i := i) (s := s) (n := n) (by rw [st_n (by omega), hG]; exact hW) (by rw [st_n (by omega), hG]; exact hp) (by omega) hi (by omega) 5 0 fw_fu _ (by omega) (by omega) (fun _ _ _ => rfl)
                rw [show fw_set (fw_set Mr 199 0 0) 199 1 0 203 = Mr 203 by rw [st_n (by omega), hG], show fw_set (fw_set Mr 199 0 0) 199 1 0 202 = Mr 202 by rw [st_n (by omega), st_n (by omega)]] at t1
                have hit : sn_who (Mr 203) p (d : Int) (fun k => Mc (171 + 2 * i + 1) (s + k)) n = sn_who (Mr 203) p (d : Int) (fun k => Mr 202 (40 * i + s + k)) n := by
                  funext v
                  unfold sn_who sqn
                  refine decide_eq_decide.mpr ⟨fun z k hk => ?_, fun z k hk => ?_⟩
                  · have e : Mc (171 + 2 * i + 1) (s + k) = _ := z k hk
                    show Mr 202 (40 * i + s + k) = _
                    rw [z5 (s + k) (by omega)] at e
                    rw [show 40 * i + s + k = 40 * i + (s + k) by omega]
                    exact e
                  · have e : Mr 202 (40 * i + s + k) = _ := z k hk
                    show Mc (171 + 2 * i + 1) (s + k) = _
                    rw [show 40 * i + s + k = 40 * i + (s + k) by omega] at e
                    rw [z5 (s + k) (by omega)]
                    exact e
                rw [hit] at p1
                have k1 : P_Fore_kindsSeen (0 + 157) (0 + 4) (171 + 2 * i) Mc (nI d) (nI p) (nI s) (nI n) = some (acI (sn_who (Mr 203) p (d : Int) (fun k => Mr 202 (40 * i + s + k)) n) 1 5, M2) := by
                  unfold P_Fore_kindsSeen P_Fore_kindsSeen_b0
                  rw [show P_Hall_become (0 + 157 + 1) (0 + 4) Mc = some B from b1, bs_e]
                  exact p1
                rw [k1, bs_e, p_fine, bs_e]
                refine ⟨_, fw_set M2 0 8 0, N2, rfl, t1, ?_⟩
                refine rl_scr hR3 (fun k hk => ?_) (fun k _ _ z1 z2 => t2 k z1 z2) (fun i hi => by rw [t2 199 (by omega) (by omega)])
                by_cases hk0 : k = 0
                · subst hk0
                  rw [st_e, st_e, p2 0 (by omega)]
                · rw [st_n hk0, st_n hk0, p2 k hk]
              · rw [if_pos (show ¬ (0 ≤ a3.toInt ∧ (0 : Int) ≤ (n : Int) ∧ a3.toInt + (n : Int) ≤ (L : Int)) by omega), if_neg g2, p_found, m_finding]
                simp only [bs_e]
                rw [if_neg (show ¬ (-1000010 : Int32) - 2 = 0 by decide)]
                exact ⟨_, _, _, rfl, rfl, rl_status hR2 2⟩
        · simp only [h3, not_false_iff, if_true, if_neg (show ¬ (-1000001 : Int32) = 0 by decide)]
          exact ⟨_, _, _, rfl, rfl, hR2⟩
      · simp only [h2, not_false_iff, if_true, if_neg (show ¬ (-1000001 : Int32) = 0 by decide)]
        exact ⟨_, _, _, rfl, rfl, hR2⟩
    · simp only [h1, not_false_iff, if_true, if_neg (show ¬ (-1000001 : Int32) = 0 by decide)]
      exact ⟨_, _, _, rfl, rfl, hR2⟩
  · simp only [h0, not_false_iff, if_true, if_neg (show ¬ (-1000001 : Int32) = 0 by decide)]
    exact ⟨_, _, _, rfl, rfl, hR2⟩
