/-! FAINTING -/
def gFo (G : Nat → Int32) (m : Nat) : Bool := (lg (ymk G) (gb G) m 0).isSome
theorem first_lg {G : Nat → Int32} {m : Nat} (h : ∀ i, i < 7 → m.testBit i = true → i < gP G) : ff (okc (ymk G) m (nm G)) 7 0 = lg (ymk G) (gb G) m 0 := by
  unfold lg
  refine ff_cong fun i _ hi => okc_c (fun j hj hwj => ?_) (by omega)
  have hjP := h j hj hwj
  rw [nbm_b hj]
  unfold nm
  rw [mk_b]
  simp [hjP]
theorem gFo_0 (G : Nat → Int32) : gFo G 0 = false := by
  unfold gFo
  cases h : lg (ymk G) (gb G) 0 0 with
  | none => rfl
  | some p =>
    have := (lg_in h).2
    rw [show ln (ymk G) (gb G) 0 0 = 0 from rfl, Nat.zero_testBit] at this
    cases this
def faC (G : Nat → Int32) (x W m : Nat) : Nat := if gFo G m = true then prd (10 - x) x W m 7 else 0
def faA (G : Nat → Int32) (x W c : Nat) : Nat := if gFo G (sd W c) = true then prd x (10 - x) W c 7 else 0
theorem prd_7 {a b W c : Nat} (ha : a ≤ 10) (hb : b ≤ 10) {n : Nat} (hn : n ≤ 7) : prd a b W c n ≤ 10000000 := by
  have h1 := prd_b (W := W) (c := c) ha hb n
  have h2 : 10 ^ n ≤ 10 ^ 7 := Nat.pow_le_pow_right (by decide) hn
  have h3 : 10 ^ 7 = 10000000 := rfl
  omega
theorem faC_b {G : Nat → Int32} {x W : Nat} (hx : x ≤ 10) (m : Nat) : faC G x W m ≤ 10000000 := by
  unfold faC
  split
  · exact prd_7 (by omega) hx (Nat.le_refl 7)
  · omega
theorem faA_b {G : Nat → Int32} {x W : Nat} (hx : x ≤ 10) (m : Nat) : faA G x W m ≤ 10000000 := by
  unfold faA
  split
  · exact prd_7 hx (by omega) (Nat.le_refl 7)
  · omega
theorem fa_eq {G : Nat → Int32} {x W : Nat} (hW : W < 128) : sS W (faA G x W) (W + 1) = sS W (faC G x W) 128 := by
  rw [← sS_128 hW, ← sS_flip W (faC G x W)]
  refine sS_c fun c _ _ => ?_
  unfold faA faC
  rw [prd_sd (a := x) (b := 10 - x) (Nat.le_refl 7)]
theorem fb_eq {x W : Nat} (hx : x ≤ 10) (hW : W < 128) : sS W (fun c => prd x (10 - x) W c 7) (W + 1) = 10 ^ pc W 7 := by
  have h := sS_rS (W := W) (n := 7) (Nat.le_refl 7) (fun c => prd x (10 - x) W c 7)
  rw [show (2 : Nat) ^ 7 = 128 from rfl, sS_128 hW, prd_S (by omega)] at h
  exact h
theorem c_cof (M : fw_M) {W m x : Nat} (hW : W < 128) (hm : m < 128) (hx : x ≤ 10) : ∃ v : Int64, P_Fore_casesOf M (nI W) (nI m) (nI x) = some v ∧ v.toInt = ((prd (10 - x) x W m 7 : Nat) : Int) := by
  have hfu := fw_fu_ge
  have key : ∀ (r j f : Nat) (t : Int64), j + r = 7 → r < f → t.toInt = ((prd (10 - x) x W m j : Nat) : Int) → ∃ v : Int64, P_Fore_casesOf_h5 M f (nI W) (nI m) (nI x) t (nI j) = some v ∧ v.toInt = ((prd (10 - x) x W m 7 : Nat) : Int) := by
    intro r
    induction r with
    | zero =>
      intro j f t hj hf ht
      obtain ⟨f, rfl⟩ : ∃ g, f = g + 1 := ⟨f - 1, by omega⟩
      have e : j = 7 := by omega
      subst e
      refine ⟨t, ?_, ht⟩
      show P_Fore_casesOf_b5 M _ _ _ _ _ _ = _
      unfold P_Fore_casesOf_b5
      rw [if_pos ((nI_g7 (by omega)).mpr (by omega))]
    | succ r ih =>
      intro j f t hj hf ht
      obtain ⟨f, rfl⟩ : ∃ g, f = g + 1 := ⟨f - 1, by omega⟩
      have hb7 := prd_7 (a := 10 - x) (b := x) (W := W) (c := m) (by omega) hx (n := j) (by omega)
      have hpr : prd (10 - x) x W m (j + 1) = prd (10 - x) x W m j * (if W.testBit j = true then (if m.testBit j = true then 10 - x else x) else 1) := rfl
      show ∃ v : Int64, P_Fore_casesOf_b5 M _ _ _ _ _ _ = _ ∧ _
      unfold P_Fore_casesOf_b5 P_Fore_casesOf_b41 P_Fore_casesOf_b43
      rw [if_neg (fun z => by have := (nI_g7 (show j < 1000000 by omega)).mp z; omega)]
      simp only [bt_0 (show W < 2 ^ 31 by omega) (show j < 31 by omega), bt_0 (show m < 2 ^ 31 by omega) (show j < 31 by omega), pl_e, nI_s]
      by_cases h1 : W.testBit j = false
      · rw [if_pos h1]
        exact ih (j + 1) f t (by omega) (by omega) (by rw [hpr, h1, if_neg (by simp), Nat.mul_one]; exact ht)
      · rw [if_neg h1]
        have h1t : W.testBit j = true := by simpa using h1
        rw [if_pos h1t] at hpr
        by_cases h2 : m.testBit j = false
        · rw [if_pos h2]
          rw [if_neg (by rw [h2]; simp)] at hpr
          exact ih (j + 1) f _ (by omega) (by omega) (by
            rw [hpr]
            refine L_mul ht (l64 (by omega)) ?_
            have := Nat.mul_le_mul hb7 hx
            omega)
        · have h2t : m.testBit j = true := by simpa using h2
          rw [if_neg h2]
          rw [if_pos h2t] at hpr
          exact ih (j + 1) f _ (by omega) (by omega) (by
            rw [hpr]
            refine L_mul ht (y := Int32.toInt64 (10 - nI x)) ?_ ?_
            · rw [show (10 : Int32) = nI 10 from rfl, nI_sub hx]
              exact l64 (by omega)
            · have := Nat.mul_le_mul hb7 (show 10 - x ≤ 10 by omega)
              omega)
  unfold P_Fore_casesOf P_Fore_casesOf_b0
  exact key 7 0 fw_fu 1 (by omega) (by omega) rfl
theorem c_cases {N : fw_M} {G : Nat → Int32} (hW : WF G) (hL : LR N 164 (ymk G)) {W x : Nat} (hW7 : W < 128) (hP : ∀ i, i < 7 → W.testBit i = true → i < gP G) (hx : x ≤ 10) : ∀ (r m f : Nat) (t : Int64), m + r = 128 → r < f → t.toInt = ((sS W (faC G x W) m : Nat) : Int) → ∃ v : Int64, P_Fore_casesOfGoing_h27 157 4 f N (nI x) (nI W) (nI (nm G)) t (nI m) = some (v, N) ∧ v.toInt = ((sS W (faC G x W) 128 : Nat) : Int) := by
  intro r
  induction r with
  | zero =>
    intro m f t hj hf ht
    obtain ⟨f, rfl⟩ : ∃ g, f = g + 1 := ⟨f - 1, by omega⟩
    have e : m = 128 := by omega
    subst e
    refine ⟨t, ?_, ht⟩
    show P_Fore_casesOfGoing_b27 157 4 _ N _ _ _ _ _ = _
    unfold P_Fore_casesOfGoing_b27
    rw [if_pos ((nI_g128 (by omega)).mpr (by omega))]
  | succ r ih =>
    intro m f t hj hf ht
    obtain ⟨f, rfl⟩ : ∃ g, f = g + 1 := ⟨f - 1, by omega⟩
    have hs : sS W (faC G x W) (m + 1) = sS W (faC G x W) m + (if sd m W = 0 then faC G x W m else 0) := rfl
    have hb := sS_b (W := W) (faC_b (G := G) (W := W) hx) m
    have h128 := sd_128 m W
    show ∃ v : Int64, P_Fore_casesOfGoing_b27 157 4 _ N _ _ _ _ _ = _ ∧ _
    unfold P_Fore_casesOfGoing_b27 P_Fore_casesOfGoing_b73
    rw [if_neg (fun z => by have := (nI_g128 (show m < 1000000 by omega)).mp z; omega), sd_n (show m < 128 by omega)]
    simp only [nI_e0 (show sd m W < 1000000 by omega), nI_s]
    by_cases h1 : sd m W = 0
    · rw [if_pos h1]
      rw [if_pos h1] at hs
      rw [show P_Law_first (157 + 7) N (nI m) (nI (nm G)) = _ from p_first (k := 164) hL (show m < 128 by omega) (nm_128 hW), bs_e, first_lg (fun i hi hbi => hP i hi (sd_0.mp h1 i hi hbi))]
      cases hl : lg (ymk G) (gb G) m 0 with
      | none =>
        rw [if_pos (show oN none = -1 from rfl)]
        refine ih (m + 1) f t (by omega) (by omega) ?_
        rw [hs, show faC G x W m = 0 from if_neg (by unfold gFo; rw [hl]; simp), Nat.add_zero]
        exact ht
      | some p =>
        have hp7 := (lg_in hl).1
        rw [if_neg (show ¬ oN (some p) = -1 from nI_m1 (by omega))]
        obtain ⟨v, q1, q2⟩ := c_cof N hW7 (show m < 128 by omega) hx
        rw [q1, bs_e, pl_e]
        refine ih (m + 1) f _ (by omega) (by omega) ?_
        rw [hs, show faC G x W m = prd (10 - x) x W m 7 from if_pos (by unfold gFo; rw [hl]; rfl)]
        have h7 := prd_7 (a := 10 - x) (b := x) (W := W) (c := m) (by omega) hx (Nat.le_refl 7)
        exact L_add ht q2 (by omega) (by omega)
    · rw [if_neg h1]
      rw [if_neg h1] at hs
      refine ih (m + 1) f t (by omega) (by omega) ?_
      rw [hs, Nat.add_zero]
      exact ht
theorem cases_e {Mc Mr : fw_M} (hR : rl Mc Mr) (h : 0 < gP (Mr 203)) {x : Nat} (hx : x ≤ 10) (d : Int32) : ∃ (v : Int64) (M2 : fw_M), P_Fore_casesOfGoing 157 4 Mc d (nI x) = some (v, M2) ∧ v.toInt = ((sS (wm (Mr 203) d.toInt) (faC (Mr 203) x (wm (Mr 203) d.toInt)) 128 : Nat) : Int) ∧ rl M2 Mr ∧ ∀ b, b ≠ 165 → M2 b = Mc b := by
  have hfu := fw_fu_ge
  obtain ⟨he, hW, -⟩ := hall_E hR h
  obtain ⟨M1, q1, q2, q3⟩ := p_law (k := 164) he hW (by omega)
  have he1 : rl_eq M1 4 (Mr 203) := eq_cong he fun k _ _ => q3 k (by omega)
  obtain ⟨v, p1, p2⟩ := c_cases (N := M1) hW q2 (wm_128 hW d.toInt) (fun i _ hb => (wm_in hb).1) hx 127 1 fw_fu 0 (by omega) (by omega) (by
    show (0 : Int) = ((0 + (if sd 0 (wm (Mr 203) d.toInt) = 0 then faC (Mr 203) x (wm (Mr 203) d.toInt) 0 else 0) : Nat) : Int)
    rw [show faC (Mr 203) x (wm (Mr 203) d.toInt) 0 = 0 from if_neg (by rw [gFo_0]; simp), ite_self]
    rfl)
  refine ⟨v, M1, ?_, p2, rl_sc hR fun k hk => q3 k (by omega), q3⟩
  unfold P_Fore_casesOfGoing P_Fore_casesOfGoing_b0
  rw [show P_Law_read (157 + 7) 4 Mc = _ from q1, bs_e, p_waitingAt he1 hW, bs_e, p_nobodies he1 hW, bs_e]
  exact p1
/-! the reference's row, with those carried out -/
def gFj (G : Nat → Int32) (c j : Nat) : Nat → Int32 := fun i => if 4 ≤ i ∧ (i - 4) % 5 = 3 ∧ (i - 4) / 5 < j ∧ c.testBit ((i - 4) / 5) = true then -1 else G i
theorem gF_n {G : Nat → Int32} {c j p k : Nat} (hk : k < 5) (h3 : k ≠ 3) : gFj G c j (4 + 5 * p + k) = G (4 + 5 * p + k) := if_neg (fun z => by have := z.2.1; omega)
theorem gF_3 {G : Nat → Int32} {c j p : Nat} (hp : p < j) : gFj G c j (7 + 5 * p) = if c.testBit p = true then -1 else G (7 + 5 * p) := by
  unfold gFj
  have e : (7 + 5 * p - 4) / 5 = p := by omega
  rw [e]
  by_cases h : c.testBit p = true
  · rw [if_pos ⟨by omega, by omega, hp, h⟩, if_pos h]
  · rw [if_neg (fun z => h z.2.2.2), if_neg h]
theorem gF_wf {G : Nat → Int32} (hW : WF G) (c : Nat) : WF (gFj G c (gP G)) ∧ gP (gFj G c (gP G)) = gP G ∧ gD (gFj G c (gP G)) = gD G ∧ ymk (gFj G c (gP G)) = ymk G ∧ (∀ d, 0 ≤ d → wm (gFj G c (gP G)) d = sd (wm G d) c) ∧ gb (gFj G c (gP G)) = gb G := by
  have h7 := hW.2.2.1.2.1
  have e0 : ∀ i, i < 4 → gFj G c (gP G) i = G i := fun i hi => if_neg (fun z => by omega)
  obtain ⟨a1, a2, a3, a4⟩ := wf_ch (h := gFj G c (gP G)) hW (fun i hi => e0 i (by omega)) fun p hp k hk => by
    by_cases h3 : k = 3
    · subst h3
      have e : 4 + 5 * p + 3 = 7 + 5 * p := by omega
      rw [e, gF_3 hp]
      by_cases h : c.testBit p = true
      · rw [if_pos h]
        exact Or.inl rfl
      · rw [if_neg h, ← e]
        exact cw_of hW hp hk
    · rw [gF_n hk h3]
      exact cw_of hW hp hk
  have ek : ∀ q, gk (gFj G c (gP G)) q = gk G q := fun q => by unfold gk; rw [show 4 + 5 * q = 4 + 5 * q + 0 by omega, gF_n (by omega) (by omega)]
  have er : ∀ q, gr (gFj G c (gP G)) q = gr G q := fun q => by unfold gr; rw [show 5 + 5 * q = 4 + 5 * q + 1 by omega, gF_n (by omega) (by omega)]
  have eo : ∀ q, gh (gFj G c (gP G)) q = gh G q := fun q => by unfold gh; rw [show 6 + 5 * q = 4 + 5 * q + 2 by omega, gF_n (by omega) (by omega)]
  have eb : ∀ q, gb (gFj G c (gP G)) q = gb G q := fun q => by unfold gb; rw [show 8 + 5 * q = 4 + 5 * q + 4 by omega, gF_n (by omega) (by omega)]
  refine ⟨a1, a2, a3, ymk_c a2 fun x y _ _ => by unfold yl; rw [ek, er, er, eo, eo], fun d hd => ?_, funext eb⟩
  refine bx7 (wm_128 a1 d) (sd_128 _ _) fun i hi => ?_
  rw [sd_b hi]
  unfold wm
  rw [a2, mk_b, mk_b]
  by_cases hiP : i < gP G
  · have ed : gd (gFj G c (gP G)) i = if c.testBit i = true then -1 else gd G i := by
      unfold gd
      rw [gF_3 hiP]
      split <;> rfl
    rw [ed]
    cases hb : c.testBit i with
    | false => simp
    | true =>
      have : ¬ (-1 : Int) = d := by omega
      simp [this]
  · simp [hiP]
theorem m_fin {M : fw_M} {G : Nat → Int32} (hW : WF G) {X y : Int32} (hX : 0 ≤ X.toInt) {x c A B : Nat} (hx : x ≤ 10) (hc : c < 128) {s5 s7 : Int64} (h5 : s5.toInt = (A : Int)) (h7 : s7.toInt = (B : Int)) (hA : A < 2 ^ 40) (hB : B < 2 ^ 40) (hcW : sd c (wm G X.toInt) = 0) {K : fw_M → Int32 → Int32 → Int32 → Int32 → Int64 → Int64 → Int32 → Option (Int64 × fw_M)} : ∀ (r j f : Nat) (N : fw_M) (t : Int64), j + r = gP G → r < f → N 203 = G → (∀ i, i < 39 → N 205 i = gFj G c j i) → (∀ b, b ≠ 205 → b ≠ 208 → N b = M b) → t.toInt = ((prd x (10 - x) (wm G X.toInt) c j : Nat) : Int) → ∃ (M2 : fw_M) (ab be : Int64), P_Mod_faint_h96 199 K f N X (nI x) y (nI (wm G X.toInt)) s5 s7 (nI c) t (nI j) = K M2 X (nI x) y (nI (wm G X.toInt)) ab be (nI (c + 1)) ∧ ab.toInt = ((A + faA G x (wm G X.toInt) c : Nat) : Int) ∧ be.toInt = ((B + prd x (10 - x) (wm G X.toInt) c 7 : Nat) : Int) ∧ ∀ b, b ≠ 205 → b ≠ 208 → M2 b = M b := by
  have hP7 := hW.2.2.1.2.1
  have hw128 := wm_128 hW X.toInt
  obtain ⟨g1, g2, g3, g4, g5, g6⟩ := gF_wf hW c
  intro r
  induction r with
  | zero =>
    intro j f N t hj hf h203 h39 hfr ht
    obtain ⟨f, rfl⟩ : ∃ g, f = g + 1 := ⟨f - 1, by omega⟩
    have hjP : j = gP G := by omega
    subst hjP
    have hstop := prd_stop (a := x) (b := 10 - x) (W := wm G X.toInt) (c := c) (k := gP G) (fun i hi => by
      cases hb : (wm G X.toInt).testBit i with
      | false => rfl
      | true => have := (wm_in hb).1; omega) (7 - gP G)
    rw [show gP G + (7 - gP G) = 7 by omega] at hstop
    rw [← hstop] at ht
    have h7b := prd_7 (a := x) (b := 10 - x) (W := wm G X.toInt) (c := c) hx (by omega) (Nat.le_refl 7)
    have hgo := (go_sn (g := N 205) (h := N 205) (k := 0) h39 g1 rfl hX).1
    rw [g4, g5 _ hX, g6] at hgo
    obtain ⟨w1, -⟩ := e39_wf h39 g1
    have hga : P_Mod_goesAt (199 + 6) N X = some (oM (lg (ymk G) (gb G) (sd (wm G X.toInt) c) 0)) := by
      rw [show P_Mod_goesAt (199 + 6) N X = _ from m_goesAt (a := 205) w1 hX, hgo]
    have hbe := L_add h7 ht (by omega) (by omega)
    show ∃ (M2 : fw_M) (ab be : Int64), P_Mod_faint_b96 199 K _ N _ _ _ _ _ _ _ _ _ = _ ∧ _
    unfold P_Mod_faint_b96 P_Mod_faint_b220 P_Mod_faint_b223
    rw [show fw_ald N (199 + 4) 39 (2 : Int32) = some (nI (gP G)) by
      rw [show (2 : Int32) = nI 2 from rfl, ald_n (by omega) (by omega), show N (199 + 4) = G from h203, hW.2.2.1.2.2], bs_e, if_pos ((nI_le2 (by omega) (by omega)).mpr (by omega)), pl_e, hga, bs_e]
    simp only [pl_e, nI_s]
    cases hl : lg (ymk G) (gb G) (sd (wm G X.toInt) c) 0 with
    | none =>
      rw [if_pos (show oM none = -1000000 from rfl)]
      refine ⟨N, _, _, rfl, ?_, hbe, hfr⟩
      rw [show faA G x (wm G X.toInt) c = 0 from if_neg (by unfold gFo; rw [hl]; simp)]
      exact L_add h5 (y := 0) (b := 0) rfl (by omega) (by omega)
    | some p =>
      have hp7 := (lg_in hl).1
      rw [if_neg (oM_n rfl (by omega))]
      refine ⟨N, _, _, rfl, ?_, hbe, hfr⟩
      rw [show faA G x (wm G X.toInt) c = prd x (10 - x) (wm G X.toInt) c 7 from if_pos (by unfold gFo; rw [hl]; rfl)]
      exact L_add h5 ht (by omega) (by omega)
  | succ r ih =>
    intro j f N t hj hf h203 h39 hfr ht
    obtain ⟨f, rfl⟩ : ∃ g, f = g + 1 := ⟨f - 1, by omega⟩
    have hb7 := prd_7 (a := x) (b := 10 - x) (W := wm G X.toInt) (c := c) hx (by omega) (n := j) (by omega)
    have hpr : prd x (10 - x) (wm G X.toInt) c (j + 1) = prd x (10 - x) (wm G X.toInt) c j * (if (wm G X.toInt).testBit j = true then (if c.testBit j = true then x else 10 - x) else 1) := rfl
    have k3 : P_Mod_of (199 + 4) N (nI j) 3 = some (G (7 + 5 * j)) := by
      have := m_of3 (a := 203) (M := N) (p := j) (by omega)
      rwa [h203] at this
    have hst : ∀ v, fw_ast N (199 + 6) 39 (nI (4 + 5 * j + 3)) v = some (fw_set N 205 (4 + 5 * j + 3) v) := fun v => ast_n (by omega) (by omega)
    have hn : ∀ v, v = (if c.testBit j = true then -1 else G (7 + 5 * j)) → ∀ i, i < 39 → fw_set N 205 (4 + 5 * j + 3) v 205 i = gFj G c (j + 1) i := by
      intro v hv i hi
      rw [st_e]
      by_cases e : i = 4 + 5 * j + 3
      · subst e
        rw [up_e, show 4 + 5 * j + 3 = 7 + 5 * j by omega, gF_3 (by omega), hv]
      · rw [up_n e, h39 i hi]
        unfold gFj
        by_cases c1 : 4 ≤ i ∧ (i - 4) % 5 = 3
        · simp only [c1.1, c1.2, true_and, show (i - 4) / 5 < j + 1 ↔ (i - 4) / 5 < j by omega]
        · rw [if_neg (fun z => c1 ⟨z.1, z.2.1⟩), if_neg (fun z => c1 ⟨z.1, z.2.1⟩)]
    have h145 : ∀ (t1 : Int64), (t * t1).toInt = ((prd x (10 - x) (wm G X.toInt) c (j + 1) : Nat) : Int) → ∃ (M2 : fw_M) (ab be : Int64), P_Mod_faint_b145 199 K (P_Mod_faint_h96 199 K f) N X (nI x) y (nI (wm G X.toInt)) s5 s7 (nI c) (nI j) t t1 = K M2 X (nI x) y (nI (wm G X.toInt)) ab be (nI (c + 1)) ∧ ab.toInt = ((A + faA G x (wm G X.toInt) c : Nat) : Int) ∧ be.toInt = ((B + prd x (10 - x) (wm G X.toInt) c 7 : Nat) : Int) ∧ ∀ b, b ≠ 205 → b ≠ 208 → M2 b = M b := by
      intro t1 ht1
      unfold P_Mod_faint_b145 P_Mod_faint_b185
      rw [pl_e, k3, ix_y (x := 3) (c := 3) rfl]
      simp only [bs_e, hst, bt_1 (show c < 2 ^ 31 by omega) (show j < 31 by omega), nI_s]
      by_cases hb : c.testBit j = true
      · rw [if_pos hb]
        exact ih (j + 1) f _ _ (by omega) (by omega) (by rw [st_n (by omega)]; exact h203) (hn _ (by rw [if_pos hb])) (fun b b1 b2 => by rw [st_n b1]; exact hfr b b1 b2) ht1
      · rw [if_neg hb]
        exact ih (j + 1) f _ _ (by omega) (by omega) (by rw [st_n (by omega)]; exact h203) (hn _ (by rw [if_neg hb])) (fun b b1 b2 => by rw [st_n b1]; exact hfr b b1 b2) ht1
    show ∃ (M2 : fw_M) (ab be : Int64), P_Mod_faint_b96 199 K _ N _ _ _ _ _ _ _ _ _ = _ ∧ _
    unfold P_Mod_faint_b96
    rw [show fw_ald N (199 + 4) 39 (2 : Int32) = some (nI (gP G)) by
      rw [show (2 : Int32) = nI 2 from rfl, ald_n (by omega) (by omega), show N (199 + 4) = G from h203, hW.2.2.1.2.2], bs_e, if_neg (fun z => by have := (nI_le2 (show gP G < 1000000 by omega) (show j < 1000000 by omega)).mp z; omega)]
    simp only [bt_0 (show wm G X.toInt < 2 ^ 31 by omega) (show j < 31 by omega), bt_1 (show c < 2 ^ 31 by omega) (show j < 31 by omega)]
    by_cases h1 : (wm G X.toInt).testBit j = false
    · rw [if_pos h1]
      refine h145 1 ?_
      rw [hpr, h1, if_neg (by simp)]
      exact L_mul ht (y := 1) rfl (by omega)
    · rw [if_neg h1]
      have h1t : (wm G X.toInt).testBit j = true := by simpa using h1
      rw [if_pos h1t] at hpr
      by_cases h2 : c.testBit j = true
      · rw [if_pos h2]
        rw [if_pos h2] at hpr
        refine h145 _ ?_
        rw [hpr]
        refine L_mul ht (l64 (by omega)) ?_
        have := Nat.mul_le_mul hb7 hx
        omega
      · rw [if_neg h2]
        rw [if_neg h2] at hpr
        refine h145 _ ?_
        rw [hpr]
        refine L_mul ht (y := 10 - Int32.toInt64 (nI x)) ?_ ?_
        · rw [Int64.toInt_sub, l64 (by omega), show (10 : Int64).toInt = 10 from rfl]
          exact (Int.bmod_eq_of_le (by omega) (by omega)).trans (by omega)
        · have := Nat.mul_le_mul hb7 (show 10 - x ≤ 10 by omega)
          omega
theorem m_fout {M : fw_M} {G : Nat → Int32} (hG : M 203 = G) (hW : WF G) {X y : Int32} (hX : 0 ≤ X.toInt) {x : Nat} (hx : x ≤ 10) : ∀ (r c f : Nat) (N : fw_M) (s5 s7 : Int64), c + r = wm G X.toInt + 1 → r < f → (∀ b, b ≠ 205 → b ≠ 208 → N b = M b) → s5.toInt = ((sS (wm G X.toInt) (faA G x (wm G X.toInt)) c : Nat) : Int) → s7.toInt = ((sS (wm G X.toInt) (fun c => prd x (10 - x) (wm G X.toInt) c 7) c : Nat) : Int) → ∃ (M2 : fw_M) (ab be : Int64), P_Mod_faint_h69 199 f N X (nI x) y (nI (wm G X.toInt)) s5 s7 (nI c) = P_Mod_faint_h237 199 fw_fu M2 y ab be ab be ∧ ab.toInt = ((sS (wm G X.toInt) (faA G x (wm G X.toInt)) (wm G X.toInt + 1) : Nat) : Int) ∧ be.toInt = ((sS (wm G X.toInt) (fun c => prd x (10 - x) (wm G X.toInt) c 7) (wm G X.toInt + 1) : Nat) : Int) ∧ ∀ b, b ≠ 205 → b ≠ 208 → M2 b = M b := by
  have hfu := fw_fu_ge
  have hP7 := hW.2.2.1.2.1
  have hw128 := wm_128 hW X.toInt
  intro r
  induction r with
  | zero =>
    intro c f N s5 s7 hj hf hfr h5 h7
    obtain ⟨f, rfl⟩ : ∃ g, f = g + 1 := ⟨f - 1, by omega⟩
    have hc : c = wm G X.toInt + 1 := by omega
    subst hc
    refine ⟨N, s5, s7, ?_, h5, h7, hfr⟩
    show P_Mod_faint_b69 199 _ N _ _ _ _ _ _ _ = _
    unfold P_Mod_faint_b69
    rw [if_pos ((nI_lt2 (by omega) (by omega)).mpr (by omega))]
  | succ r ih =>
    intro c f N s5 s7 hj hf hfr h5 h7
    obtain ⟨f, rfl⟩ : ∃ g, f = g + 1 := ⟨f - 1, by omega⟩
    have h128 := sd_128 c (wm G X.toInt)
    have hA : sS (wm G X.toInt) (faA G x (wm G X.toInt)) (c + 1) = sS (wm G X.toInt) (faA G x (wm G X.toInt)) c + (if sd c (wm G X.toInt) = 0 then faA G x (wm G X.toInt) c else 0) := rfl
    have hB : sS (wm G X.toInt) (fun c => prd x (10 - x) (wm G X.toInt) c 7) (c + 1) = sS (wm G X.toInt) (fun c => prd x (10 - x) (wm G X.toInt) c 7) c + (if sd c (wm G X.toInt) = 0 then prd x (10 - x) (wm G X.toInt) c 7 else 0) := rfl
    have bA := sS_b (W := wm G X.toInt) (faA_b (G := G) (W := wm G X.toInt) hx) c
    have bB := sS_b (W := wm G X.toInt) (F := fun c => prd x (10 - x) (wm G X.toInt) c 7) (B := 10000000) (fun c => prd_7 (W := wm G X.toInt) (c := c) hx (by omega) (Nat.le_refl 7)) c
    show ∃ (M2 : fw_M) (ab be : Int64), P_Mod_faint_b69 199 _ N _ _ _ _ _ _ _ = _ ∧ _
    unfold P_Mod_faint_b69 P_Mod_faint_b223
    rw [if_neg (fun z => by have := (nI_lt2 (show wm G X.toInt < 1000000 by omega) (show c < 1000000 by omega)).mp z; omega), sd_n (show c < 128 by omega)]
    simp only [nI_e0 (show sd c (wm G X.toInt) < 1000000 by omega), nI_s]
    by_cases h1 : sd c (wm G X.toInt) = 0
    · rw [if_pos h1]
      rw [if_pos h1] at hA hB
      obtain ⟨N1, s1, s2, s3⟩ := m_layThen (o := 199) N
      have hN203 : N 203 = G := by rw [hfr 203 (by omega) (by omega), hG]
      obtain ⟨N2, ab, be, t1, t2, t3, t4⟩ := m_fin (M := N1) hW (X := X) (y := y) hX hx (show c < 128 by omega) h5 h7 (by omega) (by omega) h1 (K := P_Mod_faint_h69 199 f) (gP G) 0 fw_fu N1 1 (by omega) (by omega) (by rw [s3 203 (by omega)]; exact hN203) (fun i hi => by
        have := s2 i hi
        rw [show N (199 + 4) = G from hN203] at this
        show N1 (199 + 6) i = _
        rw [this]
        exact (if_neg (fun z => by have := z.2.2.1; omega)).symm) (fun _ _ _ => rfl) rfl
      rw [← hA] at t2
      rw [← hB] at t3
      obtain ⟨M2, ab2, be2, u1, u2⟩ := ih (c + 1) f N2 ab be (by omega) (by omega) (fun b b1 b2 => by rw [t4 b b1 b2, s3 b b1, hfr b b1 b2]) t2 t3
      rw [s1, bs_e]
      exact ⟨M2, ab2, be2, t1.trans u1, u2⟩
    · rw [if_neg h1]
      rw [if_neg h1, Nat.add_zero] at hA hB
      exact ih (c + 1) f N s5 s7 (by omega) (by omega) hfr (by rw [hA]; exact h5) (by rw [hB]; exact h7)
theorem m_gd (M : fw_M) {a b : Nat} {y : Int32} {x5 x7 : Int64} (h5 : x5.toInt = (a : Int)) (h7 : x7.toInt = (b : Int)) (h0 : 0 < b) (ha : a < 2 ^ 40) (hb : b < 2 ^ 30) : ∃ v : Int64, P_Mod_faint_h237 199 fw_fu M y x5 x7 x5 x7 = (if y = 0 then P_Mod_faint_b273 199 M v x5 else P_Mod_faint_b273 199 M v x7) ∧ v.toInt = ((Nat.gcd a b : Nat) : Int) := by
  have hfu := fw_fu_ge
  obtain ⟨f, hf⟩ : ∃ g, fw_fu = g + 1 := ⟨fw_fu - 1, by omega⟩
  obtain ⟨v3, r1, r2⟩ := lrem_e h5 h7 h0 (by omega) (by omega)
  have hlt := Nat.mod_lt a h0
  obtain ⟨v, q1, q2⟩ := m_gcd M (x3 := y) (x5 := x5) (x7 := x7) 30 b (a % b) f x7 v3 h7 r2 (by omega) hb (by omega) (by omega)
  rw [← gcd_st] at q2
  refine ⟨v, ?_, q2⟩
  rw [← q1, hf]
  show P_Mod_faint_b237 199 _ M _ _ _ _ _ = _
  unfold P_Mod_faint_b237
  rw [if_neg (show ¬ lg_cmp x7 0 = 0 from fun z => by have := lg_0.mp z; rw [h7, show (0 : Int64).toInt = 0 from rfl] at this; omega), r1, bs_e]
theorem c_ten {N : fw_M} {y : Int32} {x5 : Int64} {k : Nat} (hk : k ≤ 7) : ∀ (r i f : Nat) (t : Int64), i + r = k → r < f → t.toInt = ((10 ^ i : Nat) : Int) → ∃ al : Int64, al.toInt = ((10 ^ k : Nat) : Int) ∧ P_Door_faint_h81 0 f N y x5 t (nI k) (nI i) = ((P_Door_greatestDivisor N al x5).bind fun v2 => (if y = 0 then P_Door_faint_b122 0 N v2 x5 else P_Door_faint_b122 0 N v2 al)) := by
  intro r
  induction r with
  | zero =>
    intro i f t hj hf ht
    obtain ⟨f, rfl⟩ : ∃ g, f = g + 1 := ⟨f - 1, by omega⟩
    have e : i = k := by omega
    subst e
    refine ⟨t, ht, ?_⟩
    show P_Door_faint_b81 0 _ N _ _ _ _ _ = _
    unfold P_Door_faint_b81
    rw [if_pos ((nI_le2 (by omega) (by omega)).mpr (Nat.le_refl _))]
  | succ r ih =>
    intro i f t hj hf ht
    obtain ⟨f, rfl⟩ : ∃ g, f = g + 1 := ⟨f - 1, by omega⟩
    have h1 : 10 ^ i ≤ 10 ^ 7 := Nat.pow_le_pow_right (by decide) (by omega)
    have h2 : (10 : Nat) ^ 7 = 10000000 := rfl
    have hm := L_mul (y := 10) (b := 10) ht rfl (by omega)
    rw [← Nat.pow_succ] at hm
    obtain ⟨al, q1, q2⟩ := ih (i + 1) f _ (by omega) (by omega) hm
    refine ⟨al, q1, ?_⟩
    show P_Door_faint_b81 0 _ N _ _ _ _ _ = _
    unfold P_Door_faint_b81
    rw [if_neg (fun z => by have := (nI_le2 (show k < 1000000 by omega) (show i < 1000000 by omega)).mp z; omega), pl_e, nI_s]
    exact q2
theorem ow_faint {Mc Mr : fw_M} (hR : rl Mc Mr) (a0 : Int32) (a1 : Int32) (a2 : Int32) : ∃ (r : Int64) (Mc2 Mr2 : fw_M), P_Door_faint 0 Mc a0 a1 a2 = some (r, Mc2) ∧ P_Mod_faint 199 Mr a0 a1 a2 = some (r, Mr2) ∧ rl Mc2 Mr2 := by
  have hfu := fw_fu_ge
  unfold P_Door_faint P_Door_faint_b0 P_Door_faint_b32 P_Door_faint_b33 P_Mod_faint P_Mod_faint_b0 P_Mod_faint_b46
  have hR2 := rl_thrown hR 0
  have hG : fw_set Mr 199 0 0 203 = Mr 203 := st_n (by omega)
  obtain ⟨e1, e2, e3, e4, h7, hd4, hPD, e5⟩ := hall_P hR
  simp only [pl_e]
  rw [p_isDoor (o := 0) e3 (by omega), p_w0 Mc a1 (hi := 10) (n := 10) rfl, p_w0 Mc a2 (hi := 1) (n := 1) rfl, m_isThere (o := 199) (by rw [hG]; exact e4) (by omega), m_isDoor (o := 199) (by rw [hG]; exact e4) (by omega), p_in0 _ a1 (hi := 10) (n := 10) rfl, p_in0 _ a2 (hi := 1) (n := 1) rfl]
  simp only [p_refusal (o := 0) e1 (show gP (Mr 203) < 1000 by omega), bs_e, b1_0]
  by_cases hP : gP (Mr 203) = 0
  · have hD := hPD.mp hP
    simp only [if_pos hP, if_pos (show ¬ 0 < gD (Mr 203) by omega), if_neg (show ¬ (-1000002 : Int32) = 0 by decide), ite_self]
    exact ⟨_, _, _, rfl, congrArg some (Prod.ext (show (-1000002 : Int64) = Int32.toInt64 (-1000002) by decide) rfl), hR2⟩
  · obtain ⟨he, hW, -⟩ := hall_E hR (by omega)
    rw [if_neg (show ¬ ¬ 0 < gD (Mr 203) by omega)]
    have hbad : (-1000001 : Int64) = Int32.toInt64 (-1000001) := by decide
    simp only [if_neg hP, if_true, if_neg (show ¬ (1 : Int32) = 0 by decide), if_neg (show ¬ (-1000001 : Int32) = 0 by decide)]
    by_cases h0 : 0 ≤ a0.toInt ∧ a0.toInt < (gD (Mr 203) : Int)
    · simp only [h0, and_self, not_true, if_false]
      by_cases h1 : 0 ≤ a1.toInt ∧ a1.toInt ≤ 10
      · simp only [h1, and_self, not_true, if_false]
        by_cases h2 : 0 ≤ a2.toInt ∧ a2.toInt ≤ 1
        · simp only [h2, and_self, not_true, if_false]
          obtain ⟨x, hx, rfl⟩ : ∃ x : Nat, x ≤ 10 ∧ a1 = nI x := ⟨a1.toInt.toNat, by omega, eq_nI (by omega)⟩
          have hw128 := wm_128 hW a0.toInt
          obtain ⟨cv, M2, q1, q2, q3, q4⟩ := cases_e hR2 (by rw [hG]; omega) hx a0
          rw [hG] at q2
          have he2 : rl_eq M2 4 (Mr 203) := eq_cong he fun k _ _ => q4 k (by omega)
          have k1 : P_Fore_casesOfGoing (0 + 157) (0 + 4) Mc a0 (nI x) = _ := q1
          have k2 : P_Hall_waitingAt (0 + 4) M2 a0 = _ := p_waitingAt he2 hW a0
          have k3 : P_Mod_waiting (199 + 4) (fw_set Mr 199 0 0) a0 = some (nI (wm (Mr 203) a0.toInt)) := by
            have := m_waiting (a := 203) (M := fw_set Mr 199 0 0) (by rw [hG]; exact hW) a0
            rwa [hG] at this
          obtain ⟨N2, ab, be, t1, t2, t3, t4⟩ := m_fout (M := fw_set Mr 199 0 0) hG hW (X := a0) (y := a2) h0.1 hx (wm (Mr 203) a0.toInt + 1) 0 fw_fu _ 0 0 (by omega) (by omega) (fun _ _ _ => rfl) rfl rfl
          rw [fa_eq hw128] at t2
          rw [fb_eq hx hw128] at t3
          have hpc := pc_le (wm (Mr 203) a0.toInt) 7
          obtain ⟨al, u1, u2⟩ := c_ten (N := M2) (y := a2) (x5 := cv) hpc (pc (wm (Mr 203) a0.toInt) 7) 0 fw_fu 1 (by omega) (by omega) rfl
          have hS := sS_b (W := wm (Mr 203) a0.toInt) (faC_b (G := Mr 203) (W := wm (Mr 203) a0.toInt) hx) 128
          have ht1 : 0 < 10 ^ pc (wm (Mr 203) a0.toInt) 7 := Nat.pow_pos (by decide)
          have ht2 : 10 ^ pc (wm (Mr 203) a0.toInt) 7 ≤ 10 ^ 7 := Nat.pow_le_pow_right (by decide) hpc
          have ht3 : (10 : Nat) ^ 7 = 10000000 := rfl
          generalize 10 ^ pc (wm (Mr 203) a0.toInt) 7 = T at t3 u1 ht1 ht2
          generalize sS (wm (Mr 203) a0.toInt) (faC (Mr 203) x (wm (Mr 203) a0.toInt)) 128 = A at t2 q2 hS
          have hA30 : A < 2 ^ 40 := by omega
          obtain ⟨g1, v1, v2⟩ := m_gd N2 (y := a2) t2 t3 ht1 hA30 (by omega)
          have hgp : 0 < Nat.gcd A T := Nat.gcd_pos_of_pos_right A ht1
          obtain ⟨g2, w1, w2⟩ := c_gd M2 u1 q2 ht1 (by omega) (by omega)
          rw [Nat.gcd_comm] at w2
          have hfin : rl M2 N2 := rl_scr q3 (fun _ _ => rfl) (fun k _ _ z1 z2 => t4 k z1 z2) (fun i hi => by rw [t4 199 (by omega) (by omega)])
          have k4 : P_Mod_faint_h69 199 fw_fu (fw_set Mr 199 0 0) a0 (nI x) a2 (nI (wm (Mr 203) a0.toInt)) 0 0 0 = _ := t1.trans v1
          have k5 : P_Door_faint_h81 0 fw_fu M2 a2 cv 1 (nI (pc (wm (Mr 203) a0.toInt) 7)) 0 = _ := u2
          rw [k1, bs_e, k2, bs_e, j_bits hw128, bs_e, k5, w1, bs_e, k3, bs_e, k4]
          unfold P_Door_faint_b122 P_Mod_faint_b273
          by_cases hy : a2 = 0
          · rw [if_pos hy, if_pos hy]
            obtain ⟨r1, r2, r3⟩ := L_div q2 w2 hgp (by omega)
            obtain ⟨r4, r5, r6⟩ := L_div t2 v2 hgp (by omega)
            rw [r2, r5, show r4 = r1 from Int64.toInt_inj.mp (by rw [r3, r6])]
            exact ⟨_, _, _, rfl, rfl, hfin⟩
          · rw [if_neg hy, if_neg hy]
            obtain ⟨r1, r2, r3⟩ := L_div u1 w2 hgp (by omega)
            obtain ⟨r4, r5, r6⟩ := L_div t3 v2 hgp (by omega)
            rw [r2, r5, show r4 = r1 from Int64.toInt_inj.mp (by rw [r3, r6])]
            exact ⟨_, _, _, rfl, rfl, hfin⟩
        · simp only [h2, not_false_iff, if_true, hbad]
          exact ⟨_, _, _, rfl, rfl, hR2⟩
      · simp only [h1, not_false_iff, if_true, hbad]
        exact ⟨_, _, _, rfl, rfl, hR2⟩
    · simp only [h0, not_false_iff, if_true, hbad]
      exact ⟨_, _, _, rfl, rfl, hR2⟩
