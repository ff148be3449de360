theorem orN2 (M : fw_M) {x : Option Nat} (hx : ∀ p, x = some p → p < 1000) : P_Door_orNone M (oN x) = some (oM x) := by
  rw [p_orNone]
  cases x with
  | none => rfl
  | some p =>
    have h7 := hx p rfl
    have e : (oN (some p)).toInt = (p : Int) := tI (by omega)
    rw [if_neg (by rw [e]; omega)]
    rfl
theorem wtn_7 {g : Nat → Int32} {p m : Nat} (h : wtn g p = some m) : m ≤ 7 := by
  unfold wtn at h
  by_cases h1 : gd g p = -1
  · rw [if_pos h1] at h
    have := Option.some.inj h
    omega
  · rw [if_neg h1] at h
    cases hf : ff (fun i => decide (lg (ymk g) (gb g) (wm g (gd g p)) i = some p)) 7 0 with
    | none => rw [hf] at h; cases h
    | some j =>
      rw [hf] at h
      have := (ff_some.mp hf).2.1
      have := Option.some.inj h
      omega
theorem ow_ahead {Mc Mr : fw_M} (hR : rl Mc Mr) (a0 : Int32) (a1 : Int32) : ∃ (r : Int32) (Mc2 Mr2 : fw_M), P_Door_ahead 0 Mc a0 a1 = some (r, Mc2) ∧ P_Mod_ahead 199 Mr a0 a1 = some (r, Mr2) ∧ rl Mc2 Mr2 := by
  unfold P_Door_ahead P_Door_ahead_b0 P_Door_ahead_b18 P_Door_ahead_b47 P_Door_ahead_b48 P_Mod_ahead P_Mod_ahead_b0 P_Mod_ahead_b25 P_Mod_ahead_b59
  have hR2 := rl_thrown hR 0
  have hG : fw_set Mr 199 0 0 203 = Mr 203 := st_n (by omega)
  obtain ⟨e1, e2, e3, e4, h7, hd4, hPD, e5⟩ := hall_P hR
  simp only [pl_e]
  rw [p_isPerson (o := 0) e1 (by omega), m_isPerson (o := 199) (by rw [hG]; exact e2) (by omega), p_w0 Mc a1 (hi := 60) (n := 60) rfl, p_in0 _ a1 (hi := 60) (n := 60) rfl]
  simp only [bs_e, b1_0]
  by_cases h0 : 0 ≤ a0.toInt ∧ a0.toInt < (gP (Mr 203) : Int)
  · obtain ⟨p, hp, rfl⟩ := per_x h0
    simp only [h0, and_self, not_true, if_false]
    by_cases h1 : 0 ≤ a1.toInt ∧ a1.toInt ≤ 60
    · simp only [h1, and_self, not_true, if_false]
      obtain ⟨n, hn, rfl⟩ : ∃ n : Nat, n ≤ 60 ∧ a1 = nI n := ⟨a1.toInt.toNat, by omega, eq_nI (by omega)⟩
      obtain ⟨he, hW, -⟩ := hall_E hR (by omega)
      obtain ⟨M2, q1, q2, q3⟩ := when_e hR2 (by rw [hG]; exact hp)
      rw [hG] at q1
      obtain ⟨M1, s1, s2, s3⟩ := m_layThen (o := 199) (fw_set Mr 199 0 0)
      have h39 : ∀ i, i < 39 → M1 205 i = Mr 203 i := fun i hi => by rw [s2 i hi, hG]
      obtain ⟨w1, w2, -⟩ := e39_wf h39 hW
      obtain ⟨v, N2, t1, t2, t3⟩ := m_stepsOf (o := 199) (a := 205) (by omega) (show n ≤ 100 by omega) rfl (M := M1) w1
      have ht := sn_through h39 hW t2 hp
      have k1 : P_Fore_whenThrough (0 + 157) (0 + 4) Mc (nI p) = _ := q1
      have k2 : P_Mod_stepsOf 199 (199 + 6) M1 (nI n) = _ := t1
      have k3 : P_Mod_of (199 + 6) N2 (nI p) 3 = some (N2 205 (7 + 5 * p)) := m_of3 (a := 205) (by omega)
      have hfr : rl M2 N2 := rl_scr q2 (fun _ _ => rfl) (fun k _ _ z1 z2 => by rw [t3 k z1 z2, s3 k z1]) (fun i hi => by rw [t3 199 (by omega) (by omega), s3 199 (by omega)])
      rw [k1, s1]
      simp only [bs_e]
      rw [k2]
      simp only [bs_e]
      rw [k3]
      simp only [bs_e, gd_0]
      cases hw : wtn (Mr 203) p with
      | none =>
        rw [hw] at ht
        rw [if_pos (show oN none < 0 by decide), if_pos (by
          have : ¬ gd (N2 205) p < 0 := fun z => by obtain ⟨m, hm, -⟩ := ht.mp z; cases hm
          omega)]
        exact ⟨_, _, _, rfl, rfl, hfr⟩
      | some m =>
        have hm7 := wtn_7 hw
        rw [hw] at ht
        rw [if_neg (show ¬ oN (some m) < 0 from fun z => (nI_z3 (show m < 1000000 by omega)).mp z)]
        by_cases hmn : m ≤ n
        · have := ht.mpr ⟨m, rfl, hmn⟩
          rw [if_neg (show ¬ nI n < oN (some m) from fun z => by have := (nI_lt2 (a := n) (b := m) (by omega) (by omega)).mp z; omega), if_neg (by omega)]
          exact ⟨_, _, _, rfl, rfl, hfr⟩
        · have : ¬ gd (N2 205) p < 0 := fun z => by
            obtain ⟨m2, e, hm2⟩ := ht.mp z
            have := Option.some.inj e
            omega
          rw [if_pos (show nI n < oN (some m) from (nI_lt2 (a := n) (b := m) (by omega) (by omega)).mpr (by omega)), if_pos (by omega)]
          exact ⟨_, _, _, rfl, rfl, hfr⟩
    · simp only [h1, not_false_iff, if_true]
      exact ⟨_, _, _, rfl, rfl, hR2⟩
  · simp only [h0, not_false_iff, if_true]
    exact ⟨_, _, _, rfl, rfl, hR2⟩
theorem m_through {M : fw_M} {G : Nat → Int32} {g : Nat → Int32} (h39 : ∀ i, i < 39 → g i = G i) (hW : WF G) {p : Nat} (hp : p < gP G) : ∀ (r j f : Nat) (N : fw_M), j + r = 61 → r < f → SN j g (N 205) → (∀ b, b ≠ 205 → b ≠ 208 → N b = M b) → (∀ m, wtn G p = some m → j ≤ m) → ∃ M2, P_Mod_throughBy_h2 199 f N (nI p) (nI j) = some (oM (wtn G p), M2) ∧ ∀ b, b ≠ 205 → b ≠ 208 → M2 b = M b := by
  have h7 := hW.2.2.1.2.1
  obtain ⟨w1, -⟩ := e39_wf h39 hW
  intro r
  induction r with
  | zero =>
    intro j f N hj hf hs hfr hm
    obtain ⟨f, rfl⟩ : ∃ g, f = g + 1 := ⟨f - 1, by omega⟩
    have hn : wtn G p = none := by
      cases hw : wtn G p with
      | none => rfl
      | some m =>
        have := hm m hw
        have := wtn_7 hw
        omega
    refine ⟨N, ?_, hfr⟩
    show P_Mod_throughBy_b2 199 _ N _ _ = _
    unfold P_Mod_throughBy_b2
    rw [if_pos (show (60 : Int32) < nI j from (nI_lt2 (a := 60) (by omega) (by omega)).mpr (by omega)), hn]
    rfl
  | succ r ih =>
    intro j f N hj hf hs hfr hm
    obtain ⟨f, rfl⟩ : ∃ g, f = g + 1 := ⟨f - 1, by omega⟩
    have ht := sn_through h39 hW hs hp
    show ∃ M2, P_Mod_throughBy_b2 199 _ N _ _ = _ ∧ _
    unfold P_Mod_throughBy_b2
    rw [if_neg (show ¬ (60 : Int32) < nI j from fun z => by have := (nI_lt2 (a := 60) (b := j) (by omega) (by omega)).mp z; omega), show P_Mod_of (199 + 6) N (nI p) 3 = some (N 205 (7 + 5 * p)) from m_of3 (a := 205) (by omega), bs_e]
    simp only [gd_0]
    by_cases hd : 0 ≤ gd (N 205) p
    · rw [if_pos hd]
      obtain ⟨N2, q1, q2, q3⟩ := m_step (o := 199) (a := 205) (M := N) (sn_wf w1 hs).1 (by omega)
      rw [show P_Mod_step 199 (199 + 6) N = _ from q1, bs_e, nI_s]
      refine ih (j + 1) f N2 (by omega) (by omega) ⟨_, hs, q2⟩ (fun b b1 b2 => by rw [q3 b b1 b2, hfr b b1 b2]) fun m hw => ?_
      have a := hm m hw
      by_cases e : m = j
      · have := ht.mpr ⟨m, hw, by omega⟩
        omega
      · omega
    · rw [if_neg hd]
      obtain ⟨m, hw, hmj⟩ := ht.mp (by omega)
      have := hm m hw
      have e : m = j := by omega
      subst e
      exact ⟨N, by rw [hw]; rfl, hfr⟩
theorem ow_goes {Mc Mr : fw_M} (hR : rl Mc Mr) (a0 : Int32) : ∃ (r : Int32) (Mc2 Mr2 : fw_M), P_Door_goes 0 Mc a0 = some (r, Mc2) ∧ P_Mod_goes 199 Mr a0 = some (r, Mr2) ∧ rl Mc2 Mr2 := by
  have hfu := fw_fu_ge
  unfold P_Door_goes P_Door_goes_b0 P_Door_goes_b28 P_Mod_goes P_Mod_goes_b0
  have hR2 := rl_thrown hR 0
  have hG : fw_set Mr 199 0 0 203 = Mr 203 := st_n (by omega)
  obtain ⟨e1, e2, e3, e4, h7, hd4, hPD, e5⟩ := hall_P hR
  simp only [pl_e]
  rw [p_isPerson (o := 0) e1 (by omega), m_isPerson (o := 199) (by rw [hG]; exact e2) (by omega)]
  simp only [bs_e, b1_0]
  by_cases h0 : 0 ≤ a0.toInt ∧ a0.toInt < (gP (Mr 203) : Int)
  · obtain ⟨p, hp, rfl⟩ := per_x h0
    simp only [h0, and_self, not_true, if_false]
    obtain ⟨he, hW, -⟩ := hall_E hR (by omega)
    obtain ⟨M2, q1, q2, q3⟩ := when_e hR2 (by rw [hG]; exact hp)
    rw [hG] at q1
    obtain ⟨M1, s1, s2, s3⟩ := m_layThen (o := 199) (fw_set Mr 199 0 0)
    have h39 : ∀ i, i < 39 → M1 205 i = Mr 203 i := fun i hi => by rw [s2 i hi, hG]
    obtain ⟨N2, t1, t2⟩ := m_through (M := M1) h39 hW hp 61 0 fw_fu M1 (by omega) (by omega) rfl (fun _ _ _ => rfl) (fun _ _ => by omega)
    have k1 : P_Fore_whenThrough (0 + 157) (0 + 4) Mc (nI p) = _ := q1
    have k2 : P_Mod_throughBy 199 M1 (nI p) = _ := t1
    rw [k1, s1]
    simp only [bs_e]
    rw [k2, orN2 M2 (x := wtn (Mr 203) p) (fun m hm => by have := wtn_7 hm; omega)]
    exact ⟨_, M2, N2, rfl, rfl, rl_scr q2 (fun _ _ => rfl) (fun k _ _ z1 z2 => by rw [t2 k z1 z2, s3 k z1]) (fun i hi => by rw [t2 199 (by omega) (by omega), s3 199 (by omega)])⟩
  · simp only [h0, not_false_iff, if_true]
    exact ⟨_, _, _, rfl, rfl, hR2⟩
