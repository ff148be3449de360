/-! DAYS BY DRAWS -/
theorem lrem_e {x y : Int64} {a b : Nat} (hx : x.toInt = (a : Int)) (hy : y.toInt = (b : Int)) (h0 : 0 < b) (ha : a < 2 ^ 62) (hb : b < 2 ^ 62) : ∃ v, fw_lremP x y = some v ∧ v.toInt = ((a % b : Nat) : Int) := by
  have hne : ¬ y = 0 := by
    intro z
    rw [z, show (0 : Int64).toInt = 0 from rfl] at hy
    omega
  have hq : (x / y).toInt = ((a / b : Nat) : Int) := by
    have hle := Nat.div_le_self a b
    rw [Int64.toInt_div, hx, hy, ← Int.ofNat_tdiv]
    generalize a / b = q at hle ⊢
    exact Int.bmod_eq_of_le (by omega) (by omega)
  unfold fw_lremP
  rw [if_neg hne]
  refine ⟨_, rfl, ?_⟩
  have h1 : a / b * b ≤ a := Nat.div_mul_le_self a b
  have h2 : ((a / b : Nat) : Int) * (b : Int) = ((a / b * b : Nat) : Int) := rfl
  have h3 : b * (a / b) + a % b = a := Nat.div_add_mod a b
  rw [Nat.mul_comm] at h3
  rw [Int64.toInt_sub, Int64.toInt_mul, hq, hx, hy, h2]
  generalize a / b * b = q at h1 h3
  generalize a % b = m at h3
  have e1 : Int.bmod (q : Int) (2 ^ 64) = (q : Int) := Int.bmod_eq_of_le (by omega) (by omega)
  have e2 : Int.bmod ((a : Int) - (q : Int)) (2 ^ 64) = (a : Int) - (q : Int) := Int.bmod_eq_of_le (by omega) (by omega)
  rw [e1, e2]
  omega
theorem i32_e {v : Int64} {n : Nat} (h : v.toInt = (n : Int)) (hn : n < 1000000) : Int64.toInt32 v = nI n := by
  refine eq_nI ?_
  rw [Int64.toInt_toInt32, h]
  exact Int.bmod_eq_of_le (by omega) (by omega)
theorem next_e {x : Int64} {a : Nat} (hx : x.toInt = (a : Int)) (ha : a < 2147483647) : ∃ v, fw_lremP (x * 16807) 2147483647 = some v ∧ v.toInt = ((a * 16807 % 2147483647 : Nat) : Int) := by
  refine lrem_e (a := a * 16807) (b := 2147483647) ?_ rfl (by omega) (by omega) (by omega)
  rw [Int64.toInt_mul, hx, show (16807 : Int64).toInt = 16807 from rfl]
  exact (Int.bmod_eq_of_le (by omega) (by omega)).trans (by omega)
theorem l64 {n : Nat} (hn : n < 1000000) : (Int32.toInt64 (nI n)).toInt = (n : Int) := by rw [Int32.toInt_toInt64, tI hn]
theorem c_draw {N : fw_M} {g : Nat → Int32} (he : rl_eq N 158 g) (hW : WF g) {x : Int64} {a : Nat} (hx : x.toInt = (a : Int)) (ha : a < 2147483647) : P_Fore_draw 157 N x = some (if gd g (a % gP g) = -1 then fw_set N 162 (a % gP g) (nI (a % gD g)) else fw_set N 163 (a % gP g) (nI (gY g))) := by
  have hP1 := hW.2.2.1.1
  have h7 := hW.2.2.1.2.1
  have hD1 := hW.1.1
  have hD4 := hW.1.2.1
  obtain ⟨x0, x1, x2, x3, x4⟩ := he_x he hW
  obtain ⟨v3, r1, r2⟩ := lrem_e hx (l64 (show gP g < 1000000 by omega)) (by omega) (by omega) (by omega)
  obtain ⟨v4, r3, r4⟩ := lrem_e hx (l64 (show gD g < 1000000 by omega)) (by omega) (by omega) (by omega)
  have hp : a % gP g < gP g := Nat.mod_lt _ (by omega)
  have hd : a % gD g < gD g := Nat.mod_lt _ (by omega)
  have e7 : N 162 (a % gP g) = g (7 + 5 * (a % gP g)) := (he.2 _ hp).2.2.2.1
  unfold P_Fore_draw P_Fore_draw_b0 P_Fore_draw_b45 P_Fore_draw_b98
  rw [show N (157 + 1) 2 = _ from x2, show N (157 + 1) 0 = _ from x0, show N (157 + 1) 1 = _ from x1]
  rw [if_neg (show ¬ nI (gP g) < 1 from fun z => by have := (nI_lt2 (a := gP g) (b := 1) (by omega) (by omega)).mp z; omega), if_pos (show (1 : Int32) ≤ nI (gD g) from (nI_le2 (a := 1) (b := gD g) (by omega) (by omega)).mpr (by omega)), r1, bs_e, pl_e, i32_e r2 (by omega), if_neg (fun z => (nI_z3 (show a % gP g < 1000000 by omega)).mp z), if_pos (show nI (a % gP g) < 7 from (nI_lt2 (a := a % gP g) (b := 7) (by omega) (by omega)).mpr (by omega)), show fw_ald N (157 + 1 + 4) 7 (nI (a % gP g)) = some (N 162 (a % gP g)) from ald_n (by omega) (by omega), bs_e, e7]
  simp only [gd_m]
  by_cases hz : gd g (a % gP g) = -1
  · rw [if_pos hz, if_pos hz, r3, bs_e, i32_e r4 (by omega), show fw_ast N (157 + 1 + 4) 7 (nI (a % gP g)) (nI (a % gD g)) = some (fw_set N 162 (a % gP g) (nI (a % gD g))) from ast_n (by omega) (by omega), bs_e]
  · rw [if_neg hz, if_neg hz, show fw_ast N (157 + 1 + 5) 7 (nI (a % gP g)) (nI (gY g)) = some (fw_set N 163 (a % gP g) (nI (gY g))) from ast_n (by omega) (by omega), bs_e]
theorem up_ymk {g : Nat → Int32} {p c : Nat} {v : Int32} (hc : c = 3 ∨ c = 4) : ymk (upd g (4 + 5 * p + c) v) = ymk g := by
  have ek : ∀ q, gk (upd g (4 + 5 * p + c) v) q = gk g q := fun q => by unfold gk; rw [up_n (by omega)]
  have er : ∀ q, gr (upd g (4 + 5 * p + c) v) q = gr g q := fun q => by unfold gr; rw [up_n (by omega)]
  have eo : ∀ q, gh (upd g (4 + 5 * p + c) v) q = gh g q := fun q => by unfold gh; rw [up_n (by omega)]
  exact ymk_c (gP_up g (by omega) v) fun x y _ _ => by unfold yl; rw [ek, er, er, eo, eo]
theorem d_loop {Mc Mr : fw_M} {n : Nat} (hn : n ≤ 60) {y : Int32} : ∀ (r j f : Nat) (w : Int32) (x : Int64) (a : Nat) (N Nr : fw_M), j + r = n → r < f → x.toInt = (a : Int) → a < 2147483647 → rl_eq N 158 (Nr 205) → WF (Nr 205) → LR N 164 (ymk (Nr 205)) → (∀ b, (b < 157 ∨ 168 < b) → N b = Mc b) → (∀ b, b ≠ 205 → b ≠ 208 → Nr b = Mr b) → ∃ (v : Int32) (N2 Nr2 : fw_M), P_Fore_daysByDraws_h29 157 4 f N (nI n) x w (nI j) = some (v, N2) ∧ P_Mod_drawn_h66 199 f Nr (nI n) y x w (nI j) = P_Mod_drawn_h176 199 fw_fu Nr2 y v 0 0 ∧ rl_eq N2 158 (Nr2 205) ∧ WF (Nr2 205) ∧ (∀ b, (b < 157 ∨ 168 < b) → N2 b = Mc b) ∧ ∀ b, b ≠ 205 → b ≠ 208 → Nr2 b = Mr b := by
  intro r
  induction r with
  | zero =>
    intro j f w x a N Nr hj hf hx ha he hW hL hfc hfr
    obtain ⟨f, rfl⟩ : ∃ g, f = g + 1 := ⟨f - 1, by omega⟩
    refine ⟨w, N, Nr, ?_, ?_, he, hW, hfc, hfr⟩
    · show P_Fore_daysByDraws_b29 157 4 _ N _ _ _ _ = _
      unfold P_Fore_daysByDraws_b29
      rw [if_pos ((nI_le2 (by omega) (by omega)).mpr (by omega))]
    · show P_Mod_drawn_b66 199 _ Nr _ _ _ _ _ = _
      unfold P_Mod_drawn_b66
      rw [if_pos ((nI_le2 (by omega) (by omega)).mpr (by omega))]
  | succ r ih =>
    intro j f w x a N Nr hj hf hx ha he hW hL hfc hfr
    obtain ⟨f, rfl⟩ : ∃ g, f = g + 1 := ⟨f - 1, by omega⟩
    have hP1 := hW.2.2.1.1
    have h7 := hW.2.2.1.2.1
    have hD1 := hW.1.1
    have hD4 := hW.1.2.1
    obtain ⟨v2, n1, n2⟩ := next_e hx ha
    have ha2 : a * 16807 % 2147483647 < 2147483647 := Nat.mod_lt _ (by omega)
    generalize a * 16807 % 2147483647 = b at n2 ha2
    obtain ⟨v3, r1, r2⟩ := lrem_e n2 (l64 (show gP (Nr 205) < 1000000 by omega)) (by omega) (by omega) (by omega)
    obtain ⟨v4, r3, r4⟩ := lrem_e n2 (l64 (show gD (Nr 205) < 1000000 by omega)) (by omega) (by omega) (by omega)
    have hp : b % gP (Nr 205) < gP (Nr 205) := Nat.mod_lt _ (by omega)
    have hd : b % gD (Nr 205) < gD (Nr 205) := Nat.mod_lt _ (by omega)
    have hcd := c_draw he hW n2 ha2
    have hnext : ∀ (c : Nat) (v : Int32), (c = 3 ∨ c = 4) → cw (gD (Nr 205)) c v → ∃ (vv : Int32) (N2 Nr2 : fw_M), ((P_Hall_pass (157 + 1) (157 + 7) (fw_set N (158 + 1 + c) (b % gP (Nr 205)) v)).bind fun q4 => P_Fore_daysByDraws_h29 157 4 f q4.2 (nI n) v2 (w + q4.1) (nI (j + 1))) = some (vv, N2) ∧ P_Mod_drawn_b151 199 (P_Mod_drawn_h66 199 f) (fw_set Nr 205 (4 + 5 * (b % gP (Nr 205)) + c) v) (nI n) y v2 w (nI j) = P_Mod_drawn_h176 199 fw_fu Nr2 y vv 0 0 ∧ rl_eq N2 158 (Nr2 205) ∧ WF (Nr2 205) ∧ (∀ b, (b < 157 ∨ 168 < b) → N2 b = Mc b) ∧ ∀ b, b ≠ 205 → b ≠ 208 → Nr2 b = Mr b := by
      intro c v hc hv
      have h5 : fw_set Nr 205 (4 + 5 * (b % gP (Nr 205)) + c) v 205 = upd (Nr 205) (4 + 5 * (b % gP (Nr 205)) + c) v := st_e _ _ _ _
      obtain ⟨w1, w2, w3, -⟩ := wf_up hW (c := c) hp (by omega) hv
      have hW1 : WF (fw_set Nr 205 (4 + 5 * (b % gP (Nr 205)) + c) v 205) := by rw [h5]; exact w1
      obtain ⟨M4, s1, s2, s3⟩ := m_step (o := 199) (a := 205) (M := fw_set Nr 205 (4 + 5 * (b % gP (Nr 205)) + c) v) hW1 (by omega)
      have he1 : rl_eq (fw_set N (158 + 1 + c) (b % gP (Nr 205)) v) 158 (fw_set Nr 205 (4 + 5 * (b % gP (Nr 205)) + c) v 205) := by
        rw [h5]
        exact eq_up he (by omega) v
      have hL1 : LR (fw_set N (158 + 1 + c) (b % gP (Nr 205)) v) 164 (ymk (fw_set Nr 205 (4 + 5 * (b % gP (Nr 205)) + c) v 205)) := fun i hi => by
        rw [h5, up_ymk hc, st_n (by omega)]
        exact hL i hi
      obtain ⟨N4, p1, p2, p3⟩ := p_pass (o := 158) (k := 164) he1 hW1 (by omega) hL1 s2
      obtain ⟨vv, N5, M5, t1, t2, t3⟩ := ih (j + 1) f (w + nI (wcn (fw_set Nr 205 (4 + 5 * (b % gP (Nr 205)) + c) v 205) (gD (fw_set Nr 205 (4 + 5 * (b % gP (Nr 205)) + c) v 205)))) v2 b N4 M4 (by omega) (by omega) n2 ha2 p2 (st_wf hW1 s2) (fun i hi => by
        rw [st_ymk s2, p3 165 (by omega)]
        exact hL1 i hi) (fun k hk => by rw [p3 k (by omega), st_n (by omega)]; exact hfc k hk) (fun k k1 k2 => by rw [s3 k k1 k2, st_n k1]; exact hfr k k1 k2)
      refine ⟨vv, N5, M5, ?_, ?_, t3⟩
      · rw [show P_Hall_pass (157 + 1) (157 + 7) (fw_set N (158 + 1 + c) (b % gP (Nr 205)) v) = _ from p1, bs_e]
        exact t1
      · unfold P_Mod_drawn_b151
        rw [show P_Mod_step 199 (199 + 6) (fw_set Nr 205 (4 + 5 * (b % gP (Nr 205)) + c) v) = _ from s1, bs_e, pl_e, nI_s]
        exact t2
    have k2 : fw_ald Nr (199 + 6) 39 (2 : Int32) = some (nI (gP (Nr 205))) := m_P (a := 205) hW
    have k0 : fw_ald Nr (199 + 6) 39 (0 : Int32) = some (nI (gD (Nr 205))) := by rw [show (0 : Int32) = nI 0 from rfl, ald_n (by omega) (by omega)]; exact congrArg some hW.1.2.2
    have k1 : fw_ald Nr (199 + 6) 39 (1 : Int32) = some (nI (gY (Nr 205))) := by rw [show (1 : Int32) = nI 1 from rfl, ald_n (by omega) (by omega)]; exact congrArg some hW.2.1.2.2
    have k3 : fw_ald Nr (199 + 6) 39 (nI (4 + 5 * (b % gP (Nr 205)) + 3)) = some (Nr 205 (7 + 5 * (b % gP (Nr 205)))) := by rw [ald_n (by omega) (by omega), show 4 + 5 * (b % gP (Nr 205)) + 3 = 7 + 5 * (b % gP (Nr 205)) by omega]
    have k4 : ∀ c v, c < 5 → fw_ast Nr (199 + 6) 39 (nI (4 + 5 * (b % gP (Nr 205)) + c)) v = some (fw_set Nr 205 (4 + 5 * (b % gP (Nr 205)) + c) v) := fun c v hc => ast_n (by omega) (by omega)
    have hgd := (hW.2.2.2 _ hp).2.2.2.1.1
    by_cases hz : gd (Nr 205) (b % gP (Nr 205)) = -1
    · rw [if_pos hz] at hcd
      obtain ⟨vv, N2, Nr2, t1, t2, t3⟩ := hnext 3 (nI (b % gD (Nr 205))) (Or.inl rfl) (Or.inr ⟨_, hd, rfl⟩)
      refine ⟨vv, N2, Nr2, ?_, ?_, t3⟩
      · show P_Fore_daysByDraws_b29 157 4 _ N _ _ _ _ = _
        unfold P_Fore_daysByDraws_b29
        rw [if_neg (fun z => by have := (nI_le2 (show n < 1000000 by omega) (show j < 1000000 by omega)).mp z; omega), n1, bs_e, hcd, bs_e, nI_s]
        exact t1
      · show P_Mod_drawn_b66 199 _ Nr _ _ _ _ _ = _
        unfold P_Mod_drawn_b66
        rw [if_neg (fun z => by have := (nI_le2 (show n < 1000000 by omega) (show j < 1000000 by omega)).mp z; omega), n1, bs_e, k2, bs_e, r1, bs_e, pl_e, i32_e r2 (by omega), ix_y (x := 3) (c := 3) rfl, ix_y (x := 4) (c := 4) rfl, k3, bs_e, if_neg (fun z => by have := gd_0.mp z; omega), k0, bs_e, r3, bs_e, i32_e r4 (by omega), k4 3 _ (by omega), bs_e]
        exact t2
    · rw [if_neg hz] at hcd
      obtain ⟨vv, N2, Nr2, t1, t2, t3⟩ := hnext 4 (nI (gY (Nr 205))) (Or.inr rfl) ⟨_, hW.2.1.2.1, rfl⟩
      refine ⟨vv, N2, Nr2, ?_, ?_, t3⟩
      · show P_Fore_daysByDraws_b29 157 4 _ N _ _ _ _ = _
        unfold P_Fore_daysByDraws_b29
        rw [if_neg (fun z => by have := (nI_le2 (show n < 1000000 by omega) (show j < 1000000 by omega)).mp z; omega), n1, bs_e, hcd, bs_e, nI_s]
        exact t1
      · show P_Mod_drawn_b66 199 _ Nr _ _ _ _ _ = _
        unfold P_Mod_drawn_b66
        rw [if_neg (fun z => by have := (nI_le2 (show n < 1000000 by omega) (show j < 1000000 by omega)).mp z; omega), n1, bs_e, k2, bs_e, r1, bs_e, pl_e, i32_e r2 (by omega), ix_y (x := 3) (c := 3) rfl, ix_y (x := 4) (c := 4) rfl, k3, bs_e, if_pos (gd_0.mpr (by omega)), k1, bs_e, k4 4 _ (by omega), bs_e]
        exact t2
def cn (g : Nat → Int32) : Nat → Nat
  | 0 => 0
  | j + 1 => cn g j + (if 0 ≤ gd g j then 1 else 0)
theorem cn_le (g : Nat → Int32) : ∀ j, cn g j ≤ j
  | 0 => Nat.le_refl 0
  | j + 1 => by
    have := cn_le g j
    simp only [cn]
    split <;> omega
theorem pc_stop {w a : Nat} (h : ∀ i, a ≤ i → w.testBit i = false) : ∀ k, pc w (a + k) = pc w a
  | 0 => rfl
  | k + 1 => by
    show pc w (a + k) + (if w.testBit (a + k) then 1 else 0) = pc w a
    rw [h (a + k) (by omega), pc_stop h k]
    rfl
theorem cn_pc {g : Nat → Int32} (hW : WF g) : cn g (gP g) + pc (wm g (-1)) 7 = gP g := by
  have h7 := hW.2.2.1.2.1
  have hs := pc_stop (w := wm g (-1)) (a := gP g) (fun i hi => by
    unfold wm
    rw [mk_b]
    simp
    omega) (7 - gP g)
  rw [show gP g + (7 - gP g) = 7 by omega] at hs
  rw [hs]
  have key : ∀ n, n ≤ gP g → cn g n + pc (wm g (-1)) n = n := by
    intro n
    induction n with
    | zero => intro _; rfl
    | succ n ih =>
      intro hn
      have hi := ih (by omega)
      have hd := (hW.2.2.2 n (by omega)).2.2.2.1.1
      have hb : (wm g (-1)).testBit n = decide (gd g n = -1) := by
        unfold wm
        rw [mk_b]
        simp [show n < gP g by omega]
      simp only [cn, pc]
      rw [hb]
      by_cases hz : gd g n = -1
      · rw [if_neg (show ¬ 0 ≤ gd g n by omega), if_pos (decide_eq_true hz)]
        omega
      · rw [if_pos (show 0 ≤ gd g n by omega), if_neg (by simp [hz])]
        omega
  exact key _ (Nat.le_refl _)
theorem m_drawn {N : fw_M} (hW : WF (N 205)) {y w : Int32} : ∀ (r j f : Nat), j + r = gP (N 205) → r < f → P_Mod_drawn_h176 199 f N y w (nI (cn (N 205) j)) (nI j) = some (if y = 0 then w else nI (cn (N 205) (gP (N 205))), N) := by
  have h7 := hW.2.2.1.2.1
  have k2 : fw_ald N (199 + 6) 39 (2 : Int32) = some (nI (gP (N 205))) := m_P (a := 205) hW
  intro r
  induction r with
  | zero =>
    intro j f hj hf
    obtain ⟨f, rfl⟩ : ∃ g, f = g + 1 := ⟨f - 1, by omega⟩
    show P_Mod_drawn_b176 199 _ N _ _ _ _ = _
    unfold P_Mod_drawn_b176 P_Mod_drawn_b227
    rw [k2, bs_e, if_pos ((nI_le2 (by omega) (by omega)).mpr (by omega)), show j = gP (N 205) by omega]
    by_cases hy : y = 0
    · rw [if_pos hy, if_pos hy]
    · rw [if_neg hy, if_neg hy]
  | succ r ih =>
    intro j f hj hf
    obtain ⟨f, rfl⟩ : ∃ g, f = g + 1 := ⟨f - 1, by omega⟩
    have hi := ih (j + 1) f (by omega) (by omega)
    have hc : cn (N 205) (j + 1) = cn (N 205) j + (if 0 ≤ gd (N 205) j then 1 else 0) := rfl
    show P_Mod_drawn_b176 199 _ N _ _ _ _ = _
    unfold P_Mod_drawn_b176 P_Mod_drawn_b207
    rw [k2, bs_e, if_neg (fun z => by have := (nI_le2 (show gP (N 205) < 1000000 by omega) (show j < 1000000 by omega)).mp z; omega), show P_Mod_of (199 + 6) N (nI j) 3 = some (N 205 (7 + 5 * j)) from m_of3 (a := 205) (by omega), bs_e]
    simp only [gd_0, pl_e, nI_s, Int32.add_zero]
    by_cases hd : 0 ≤ gd (N 205) j
    · rw [if_pos hd] at hc
      rw [if_pos hd, ← hc]
      exact hi
    · rw [if_neg hd] at hc
      rw [if_neg hd]
      rw [hc] at hi
      exact hi
theorem ow_drawn {Mc Mr : fw_M} (hR : rl Mc Mr) (a0 : Int32) (a1 : Int32) (a2 : Int32) : ∃ (r : Int32) (Mc2 Mr2 : fw_M), P_Door_drawn 0 Mc a0 a1 a2 = some (r, Mc2) ∧ P_Mod_drawn 199 Mr a0 a1 a2 = some (r, Mr2) ∧ rl Mc2 Mr2 := by
  have hfu := fw_fu_ge
  unfold P_Door_drawn P_Door_drawn_b0 P_Door_drawn_b35 P_Door_drawn_b36 P_Door_drawn_b98 P_Mod_drawn P_Mod_drawn_b0 P_Mod_drawn_b49
  have hR2 := rl_thrown hR 0
  have hG : fw_set Mr 199 0 0 203 = Mr 203 := st_n (by omega)
  obtain ⟨e1, e2, e3, e4, h7, hd4, hPD, e5⟩ := hall_P hR
  simp only [pl_e]
  rw [p_w0 Mc a0 (hi := 60) (n := 60) rfl, p_wn Mc a1 (lo := 1) (hi := 999999) (m := 1) (n := 999999) rfl rfl, p_w0 Mc a2 (hi := 1) (n := 1) rfl, m_isThere (o := 199) (by rw [hG]; exact e4) (by omega), p_in0 _ a0 (hi := 60) (n := 60) rfl, p_inn _ a1 (lo := 1) (hi := 999999) (m := 1) (n := 999999) rfl rfl, p_in0 _ a2 (hi := 1) (n := 1) rfl]
  simp only [p_refusal (o := 0) e1 (show gP (Mr 203) < 1000 by omega), bs_e, b1_0]
  by_cases hP : gP (Mr 203) = 0
  · have hD := hPD.mp hP
    simp only [if_pos hP, if_pos (show ¬ 0 < gD (Mr 203) by omega), if_neg (show ¬ (-1000002 : Int32) = 0 by decide), ite_self]
    exact ⟨_, _, _, rfl, rfl, hR2⟩
  · obtain ⟨he, hW, -⟩ := hall_E hR (by omega)
    rw [if_neg (show ¬ ¬ 0 < gD (Mr 203) by omega)]
    simp only [if_neg hP, if_true, if_neg (show ¬ (1 : Int32) = 0 by decide), if_neg (show ¬ (-1000001 : Int32) = 0 by decide)]
    by_cases h0 : 0 ≤ a0.toInt ∧ a0.toInt ≤ 60
    · simp only [h0, and_self, not_true, if_false]
      by_cases h1 : 1 ≤ a1.toInt ∧ a1.toInt ≤ 999999
      · simp only [h1, and_self, not_true, if_false]
        by_cases h2 : 0 ≤ a2.toInt ∧ a2.toInt ≤ 1
        · simp only [h2, and_self, not_true, if_false]
          obtain ⟨n, hn, rfl⟩ : ∃ n : Nat, n ≤ 60 ∧ a0 = nI n := ⟨a0.toInt.toNat, by omega, eq_nI (by omega)⟩
          obtain ⟨M1, s1, s2, s3⟩ := m_layThen (o := 199) (fw_set Mr 199 0 0)
          have h39 : ∀ i, i < 39 → M1 205 i = Mr 203 i := fun i hi => by rw [s2 i hi, hG]
          obtain ⟨w1, w2, -⟩ := e39_wf h39 hW
          obtain ⟨N1, q1, q2, q3⟩ := become_eq (o := 158) (r := 4) (M := Mc) (g := Mr 203) (g2 := M1 205) (fun i hi j hj => by omega) he h7 h39
          obtain ⟨N2, l1, l2, l3⟩ := p_law (k := 164) (o := 158) q2 w1 (by omega)
          have he2 : rl_eq N2 158 (M1 205) := eq_cong q2 fun k _ _ => l3 k (by omega)
          obtain ⟨v, N3, M3, t1, t2, t3, t4, t5, t6⟩ := d_loop (Mc := Mc) (Mr := fw_set Mr 199 0 0) hn (y := a2) n 0 fw_fu 0 (Int32.toInt64 a1) a1.toInt.toNat N2 M1 (by omega) (by omega) (by rw [Int32.toInt_toInt64]; omega) (by omega) he2 w1 l2 (fun b hb => by rw [l3 b (by omega)]; exact q3 b (by omega)) (fun b b1 _ => s3 b b1)
          have hm := m_drawn t4 (y := a2) (w := v) (gP (M3 205)) 0 fw_fu (by omega) (by have := t4.2.2.1.2.1; omega)
          have k1 : P_Fore_daysByDraws (0 + 157) (0 + 4) Mc (nI n) a1 = some (v, N3) := by
            unfold P_Fore_daysByDraws P_Fore_daysByDraws_b0
            rw [show P_Hall_become (0 + 157 + 1) (0 + 4) Mc = some N1 from q1, bs_e, show P_Law_read (0 + 157 + 7) (0 + 157 + 1) N1 = some N2 from l1, bs_e, pl_e]
            exact t1
          have hfin : rl N3 M3 := rl_scr hR2 (fun k hk => t5 k hk) (fun k _ _ z1 z2 => t6 k z1 z2) (fun i hi => by rw [t6 199 (by omega) (by omega)])
          have k2 : P_Hall_waitingAt (0 + 157 + 1) N3 (-1) = some (nI (wm (M3 205) (-1))) := p_waitingAt t3 t4 (-1)
          have k3 : N3 (0 + 157 + 1) 2 = nI (gP (M3 205)) := (he_x t3 t4).2.2.1
          have hcn := cn_pc t4
          rw [k1, s1]
          simp only [bs_e]
          rw [k2, bs_e, j_bits (wm_128 t4 _), bs_e, k3, nI_sub (by omega), show gP (M3 205) - pc (wm (M3 205) (-1)) 7 = cn (M3 205) (gP (M3 205)) by omega]
          have k4 : P_Mod_drawn_h66 199 fw_fu M1 (nI n) a2 (Int32.toInt64 a1) 0 0 = _ := t2.trans hm
          rw [k4]
          by_cases hy : a2 = 0
          · rw [if_pos hy, if_pos hy]
            exact ⟨_, _, _, rfl, rfl, hfin⟩
          · rw [if_neg hy, if_neg hy]
            exact ⟨_, _, _, rfl, rfl, hfin⟩
        · simp only [h2, not_false_iff, if_true]
          exact ⟨_, _, _, rfl, rfl, hR2⟩
      · simp only [h1, not_false_iff, if_true]
        exact ⟨_, _, _, rfl, rfl, hR2⟩
    · simp only [h0, not_false_iff, if_true]
      exact ⟨_, _, _, rfl, rfl, hR2⟩
