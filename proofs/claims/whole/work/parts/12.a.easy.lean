/-! THE HALL ON BOTH SIDES; questions that only read it -/
theorem hall_E {Mc Mr : fw_M} (hR : rl Mc Mr) (h : 0 < gP (Mr 203)) : rl_eq Mc 4 (Mr 203) ∧ WF (Mr 203) ∧ gS (Mr 203) ≤ 999 ∧ Mr 203 3 = nI (gS (Mr 203)) := by
  obtain ⟨-, -, -, -, hh, -⟩ := hR
  rcases hh with ⟨-, h2⟩ | ⟨h1, h2⟩
  · have e : gP (Mr 203) = 0 := by unfold gP; rw [h2 2 (by omega)]; rfl
    omega
  · exact ⟨h1, wf_of h2⟩
theorem hall_P {Mc Mr : fw_M} (hR : rl Mc Mr) : Mc 4 2 = nI (gP (Mr 203)) ∧ Mr 203 2 = nI (gP (Mr 203)) ∧ Mc 4 0 = nI (gD (Mr 203)) ∧ Mr 203 0 = nI (gD (Mr 203)) ∧ gP (Mr 203) ≤ 7 ∧ gD (Mr 203) ≤ 4 ∧ (gP (Mr 203) = 0 ↔ gD (Mr 203) = 0) ∧ Mc 4 3 = Mr 203 3 := by
  obtain ⟨-, -, -, -, hh, -⟩ := hR
  rcases hh with ⟨h1, h2⟩ | ⟨h1, h2⟩
  · have e : gP (Mr 203) = 0 := by unfold gP; rw [h2 2 (by omega)]; rfl
    have e2 : gD (Mr 203) = 0 := by unfold gD; rw [h2 0 (by omega)]; rfl
    rw [e, e2, h1 2 (by omega), h2 2 (by omega), h1 0 (by omega), h2 0 (by omega), h1 3 (by omega), h2 3 (by omega)]
    exact ⟨rfl, rfl, rfl, rfl, by omega, by omega, by omega, rfl⟩
  · obtain ⟨hw, -⟩ := wf_of h2
    obtain ⟨e1, -, e2, e3, -⟩ := he_x h1 hw
    obtain ⟨⟨d1, d2, d3⟩, -, ⟨p1, p2, p3⟩, -⟩ := hw
    exact ⟨e2, p3, e1, d3, p2, d2, by omega, e3⟩
/-- memory that differs in what the relation does not see -/
theorem rl_scr {Mc Mr Mc2 Mr2 : fw_M} (hR : rl Mc Mr) (hc : ∀ k, (k < 157 ∨ 168 < k) → Mc2 k = Mc k) (hr : ∀ k, k ≠ 199 → k ≠ 204 → k ≠ 205 → k ≠ 208 → Mr2 k = Mr k) (h9 : ∀ i, (i = 1 ∨ i = 9 ∨ i = 11 ∨ i = 18 ∨ i = 23) → Mr2 199 i = Mr 199 i) : rl Mc2 Mr2 := by
  obtain ⟨a1, a2, a3, a4, a5, a6, a7, a8⟩ := hR
  refine ⟨by rw [hc 0 (by omega), h9 1 (by omega)]; exact a1, by rw [hc 0 (by omega), h9 18 (by omega)]; exact a2, ?_, ?_, ?_, ?_, ?_, ?_⟩
  · exact fr_rows a3 (fun k _ _ => hc k (by omega)) (hr _ (by omega) (by omega) (by omega) (by omega)) (hr _ (by omega) (by omega) (by omega) (by omega)) (hr _ (by omega) (by omega) (by omega) (by omega))
  · exact fr_tape a4 (by rw [hc 2 (by omega)]) (hc 3 (by omega)) (h9 11 (by omega)) (hr _ (by omega) (by omega) (by omega) (by omega))
  · exact fr_hall a5 (fun k _ _ => hc k (by omega)) (hr _ (by omega) (by omega) (by omega) (by omega))
  · exact fr_acts a6 (fun k _ _ => hc k (by omega)) (h9 9 (by omega)) (hr _ (by omega) (by omega) (by omega) (by omega))
  · exact fr_imgs a7 (fun k _ _ => hc k (by omega)) (hr _ (by omega) (by omega) (by omega) (by omega)) (hr _ (by omega) (by omega) (by omega) (by omega))
  · exact fr_trace a8 (by rw [hc 169 (by omega)]) (hc 170 (by omega)) (h9 23 (by omega)) (hr _ (by omega) (by omega) (by omega) (by omega))
/-- only the class' scratch -/
theorem rl_sc {Mc Mr Mc2 : fw_M} (hR : rl Mc Mr) (hc : ∀ k, (k < 157 ∨ 168 < k) → Mc2 k = Mc k) : rl Mc2 Mr := rl_scr hR hc (fun _ _ _ _ _ => rfl) (fun _ _ => rfl)
theorem p_isPerson {o P : Nat} {M : fw_M} (h : M (o + 4) 2 = nI P) (hP : P < 1000) (x : Int32) : P_Door_isPerson o M x = some (b1 (0 ≤ x.toInt ∧ x.toInt < (P : Int))) := by
  unfold P_Door_isPerson P_Door_isPerson_b0
  rw [h, p_w0 M x (nI_p (show P < 1000000 by omega)), bs_e, b1_zr, bs_e]
  exact congrArg some (b1_c (by omega))
theorem p_isDoor {o P : Nat} {M : fw_M} (h : M (o + 4) 0 = nI P) (hP : P < 1000) (x : Int32) : P_Door_isDoor o M x = some (b1 (0 ≤ x.toInt ∧ x.toInt < (P : Int))) := by
  unfold P_Door_isDoor P_Door_isDoor_b0
  rw [h, p_w0 M x (nI_p (show P < 1000000 by omega)), bs_e, b1_zr, bs_e]
  exact congrArg some (b1_c (by omega))
theorem m_isPerson {o P : Nat} {M : fw_M} (h : M (o + 4) 2 = nI P) (hP : P < 1000) (x : Int32) : P_Mod_isPerson o M x = some (b1 (0 ≤ x.toInt ∧ x.toInt < (P : Int))) := by
  unfold P_Mod_isPerson P_Mod_isPerson_b0
  rw [show fw_ald M (o + 4) 39 (2 : Int32) = some (M (o + 4) 2) from ald_n (j := 2) (by omega) (by omega), bs_e, h, p_in0 M x (show (Int32.toInt64 (nI P - 1)).toInt = (P : Int) - 1 by rw [Int32.toInt_toInt64]; exact nI_p (by omega)), bs_e, b1_zr, bs_e]
  exact congrArg some (b1_c (by omega))
theorem m_isDoor {o P : Nat} {M : fw_M} (h : M (o + 4) 0 = nI P) (hP : P < 1000) (x : Int32) : P_Mod_isDoor o M x = some (b1 (0 ≤ x.toInt ∧ x.toInt < (P : Int))) := by
  unfold P_Mod_isDoor P_Mod_isDoor_b0
  rw [show fw_ald M (o + 4) 39 (0 : Int32) = some (M (o + 4) 0) from ald_n (j := 0) (by omega) (by omega), bs_e, h, p_in0 M x (show (Int32.toInt64 (nI P - 1)).toInt = (P : Int) - 1 by rw [Int32.toInt_toInt64]; exact nI_p (by omega)), bs_e, b1_zr, bs_e]
  exact congrArg some (b1_c (by omega))
theorem m_isThere {o P : Nat} {M : fw_M} (h : M (o + 4) 0 = nI P) (hP : P < 1000) : P_Mod_isThere o M = some (b1 (0 < P)) := by
  unfold P_Mod_isThere P_Mod_isThere_b0 P_Mod_isThere_b14
  rw [show fw_ald M (o + 4) 39 (0 : Int32) = some (M (o + 4) 0) from ald_n (j := 0) (by omega) (by omega), bs_e, h]
  simp only [nI_z1 (show P < 1000000 by omega)]
  by_cases h0 : P = 0
  · rw [if_pos h0, b1_f (by omega)]; rfl
  · rw [if_neg h0, b1_t (by omega)]; rfl
theorem p_refusal {o P : Nat} {M : fw_M} (h : M (o + 4) 2 = nI P) (hP : P < 1000) (x : Int32) : P_Door_refusal o M x = some (if P = 0 then -1000002 else if x = 0 then -1000001 else 0) := by
  unfold P_Door_refusal P_Door_refusal_b0 P_Door_refusal_b23
  simp only [h, nI_e0 (show P < 1000000 by omega)]
  by_cases h0 : P = 0
  · rw [if_pos h0, if_pos h0]
  · rw [if_neg h0, if_neg h0]
    by_cases h1 : x = 0
    · rw [if_pos h1, if_pos h1]
    · rw [if_neg h1, if_neg h1]
/-- a person's cells -/
theorem ce_k {Mc Mr : fw_M} (hR : rl Mc Mr) {G : Nat → Int32} (hG : Mr 203 = G) {p : Nat} (hp : p < gP G) : fw_ald Mc 5 7 (nI p) = some (nI (gk G p)) ∧ P_Mod_of 203 Mr (nI p) 0 = some (nI (gk G p)) := by
  subst hG
  obtain ⟨he, hw, -⟩ := hall_E hR (by omega)
  have h7 := hw.2.2.1.2.1
  have hx := (he_x he hw).2.2.2.2 p hp
  exact ⟨(ald_n (by omega) (by omega)).trans (congrArg some hx.1), m_of0 hw hp⟩
theorem ce_r {Mc Mr : fw_M} (hR : rl Mc Mr) {G : Nat → Int32} (hG : Mr 203 = G) {p : Nat} (hp : p < gP G) : fw_ald Mc 6 7 (nI p) = some (nI (gr G p)) ∧ P_Mod_of 203 Mr (nI p) 1 = some (nI (gr G p)) := by
  subst hG
  obtain ⟨he, hw, -⟩ := hall_E hR (by omega)
  have h7 := hw.2.2.1.2.1
  have hx := (he_x he hw).2.2.2.2 p hp
  exact ⟨(ald_n (by omega) (by omega)).trans (congrArg some hx.2.1), m_of1 hw hp⟩
theorem ce_h {Mc Mr : fw_M} (hR : rl Mc Mr) {G : Nat → Int32} (hG : Mr 203 = G) {p : Nat} (hp : p < gP G) : fw_ald Mc 7 7 (nI p) = some (nI (gh G p)) ∧ P_Mod_of 203 Mr (nI p) 2 = some (nI (gh G p)) := by
  subst hG
  obtain ⟨he, hw, -⟩ := hall_E hR (by omega)
  have h7 := hw.2.2.1.2.1
  have hx := (he_x he hw).2.2.2.2 p hp
  exact ⟨(ald_n (by omega) (by omega)).trans (congrArg some hx.2.2.1), m_of2 hw hp⟩
theorem ce_d {Mc Mr : fw_M} (hR : rl Mc Mr) {G : Nat → Int32} (hG : Mr 203 = G) {p : Nat} (hp : p < gP G) : fw_ald Mc 8 7 (nI p) = some (G (7 + 5 * p)) ∧ P_Mod_of 203 Mr (nI p) 3 = some (G (7 + 5 * p)) := by
  subst hG
  obtain ⟨he, hw, -⟩ := hall_E hR (by omega)
  have h7 := hw.2.2.1.2.1
  have hx := (he_x he hw).2.2.2.2 p hp
  refine ⟨(ald_n (by omega) (by omega)).trans (congrArg some (toInt_eq.mpr hx.2.2.2.1)), m_of3 (by omega)⟩
theorem ce_b {Mc Mr : fw_M} (hR : rl Mc Mr) {G : Nat → Int32} (hG : Mr 203 = G) {p : Nat} (hp : p < gP G) : fw_ald Mc 9 7 (nI p) = some (nI (gb G p)) ∧ P_Mod_of 203 Mr (nI p) 4 = some (nI (gb G p)) := by
  subst hG
  obtain ⟨he, hw, -⟩ := hall_E hR (by omega)
  have h7 := hw.2.2.1.2.1
  have hx := (he_x he hw).2.2.2.2 p hp
  exact ⟨(ald_n (by omega) (by omega)).trans (congrArg some hx.2.2.2.2), m_of4 hw hp⟩
/-- a number that is a person's -/
theorem per_x {x : Int32} {P : Nat} (h : 0 ≤ x.toInt ∧ x.toInt < (P : Int)) : ∃ p, p < P ∧ x = nI p := ⟨x.toInt.toNat, by omega, eq_nI (by omega)⟩
theorem ow_kind {Mc Mr : fw_M} (hR : rl Mc Mr) (a0 : Int32) : ∃ (r : Int32) (Mr2 : fw_M), P_Door_kind 0 Mc a0 = some r ∧ P_Mod_kind 199 Mr a0 = some (r, Mr2) ∧ rl Mc Mr2 := by
  unfold P_Door_kind P_Door_kind_b0 P_Door_kind_b22 P_Mod_kind P_Mod_kind_b0 P_Mod_kind_b27
  have hR2 := rl_thrown hR 0
  have hG : fw_set Mr 199 0 0 203 = Mr 203 := st_n (by omega)
  obtain ⟨e1, e2, -, -, h7, -⟩ := hall_P hR
  simp only [pl_e]
  rw [p_isPerson (o := 0) e1 (by omega), m_isPerson (o := 199) (by rw [hG]; exact e2) (by omega)]
  simp only [bs_e, b1_0]
  by_cases h0 : 0 ≤ a0.toInt ∧ a0.toInt < (gP (Mr 203) : Int)
  · obtain ⟨p, hp, rfl⟩ := per_x h0
    simp only [h0, and_self, not_true, if_false]
    have hk := ce_k hR2 hG hp
    have k1 : fw_ald Mc (0 + 4 + 1) 7 (nI p) = _ := hk.1
    have k2 : P_Mod_of (199 + 4) (fw_set Mr 199 0 0) (nI p) 0 = _ := hk.2
    rw [k1, k2]
    exact ⟨_, _, rfl, rfl, hR2⟩
  · simp only [h0, not_false_iff, if_true]
    exact ⟨_, _, rfl, rfl, hR2⟩
theorem isOneOf_e (M M2 : fw_M) {k x : Nat} (h1 : 1 ≤ k) (hk : k ≤ 5) (hx : x ≤ 5) : P_Hall_isOneOf M (nI k) (nI x) = P_Mod_isOf M2 (nI k) (nI x) ∧ P_Mod_isOf M2 (nI k) (nI x) = some (b1 (x = 0 ∨ k = x ∨ (x = 1 ∧ k < 4) ∨ (x = 4 ∧ k = 5))) := by
  have key : ∀ k, k < 6 → ∀ x, x < 6 → 1 ≤ k → P_Hall_isOneOf wk_M0 (nI k) (nI x) = some (b1 (x = 0 ∨ k = x ∨ (x = 1 ∧ k < 4) ∨ (x = 4 ∧ k = 5))) ∧ P_Mod_isOf wk_M0 (nI k) (nI x) = some (b1 (x = 0 ∨ k = x ∨ (x = 1 ∧ k < 4) ∨ (x = 4 ∧ k = 5))) := by decide +kernel
  obtain ⟨a1, a2⟩ := key k (by omega) x (by omega) h1
  exact ⟨(show P_Hall_isOneOf M (nI k) (nI x) = _ from a1).trans (show _ = P_Mod_isOf M2 (nI k) (nI x) from a2.symm), a2⟩
theorem ow_as {Mc Mr : fw_M} (hR : rl Mc Mr) (a0 : Int32) (a1 : Int32) : ∃ (r : Int32) (Mc2 Mr2 : fw_M), P_Door_as 0 Mc a0 a1 = some (r, Mc2) ∧ P_Mod_as 199 Mr a0 a1 = some (r, Mr2) ∧ rl Mc2 Mr2 := by
  unfold P_Door_as P_Door_as_b0 P_Door_as_b17 P_Door_as_b49 P_Mod_as P_Mod_as_b0 P_Mod_as_b25 P_Mod_as_b58
  have hR2 := rl_thrown hR 0
  have hG : fw_set Mr 199 0 0 203 = Mr 203 := st_n (by omega)
  obtain ⟨e1, e2, -, -, h7, -⟩ := hall_P hR
  simp only [pl_e]
  rw [p_isPerson (o := 0) e1 (by omega), m_isPerson (o := 199) (by rw [hG]; exact e2) (by omega)]
  simp only [bs_e, b1_0]
  by_cases h0 : 0 ≤ a0.toInt ∧ a0.toInt < (gP (Mr 203) : Int)
  · simp only [h0, and_self, not_true, if_false]
    rw [p_w0 Mc a1 (hi := 5) (n := 5) rfl, p_in0 _ a1 (hi := 5) (n := 5) rfl]
    simp only [bs_e, b1_0]
    by_cases h1 : 0 ≤ a1.toInt ∧ a1.toInt ≤ 5
    · simp only [h1, and_self, not_true, if_false]
      obtain ⟨p, hp, rfl⟩ := per_x h0
      obtain ⟨x, hx, rfl⟩ : ∃ x : Nat, x ≤ 5 ∧ a1 = nI x := ⟨a1.toInt.toNat, by omega, eq_nI (by omega)⟩
      have hR3 : rl (fw_set Mc 0 8 0) (fw_set (fw_set Mr 199 0 0) 199 1 0) := rl_status hR2 0
      have hG3 : fw_set (fw_set Mr 199 0 0) 199 1 0 203 = Mr 203 := (st_n (by omega)).trans hG
      have k1 : fw_ald Mc (0 + 4 + 1) 7 (nI p) = _ := (ce_k hR rfl hp).1
      have k2 : P_Mod_of (199 + 4) (fw_set (fw_set Mr 199 0 0) 199 1 0) (nI p) 0 = _ := (ce_k hR3 hG3 hp).2
      have hw := (hall_E hR (by omega)).2.1
      have hk5 := ((hw.2.2.2 p hp).1).2.1
      have hk1 := ((hw.2.2.2 p hp).1).1
      obtain ⟨i1, i2⟩ := isOneOf_e Mc (fw_set (fw_set Mr 199 0 0) 199 1 0) hk1 hk5 hx
      simp only [k1, k2, bs_e, i1, i2, b1_0]
      by_cases hc : (x = 0 ∨ gk (Mr 203) p = x ∨ (x = 1 ∧ gk (Mr 203) p < 4) ∨ (x = 4 ∧ gk (Mr 203) p = 5))
      · simp only [hc, not_true, if_false, p_fine, bs_e]
        exact ⟨_, _, _, rfl, rfl, hR3⟩
      · simp only [hc, not_false_iff, if_true, p_found, m_finding, bs_e]
        exact ⟨_, _, _, rfl, rfl, rl_st0 hR 3⟩
    · simp only [h1, not_false_iff, if_true]
      exact ⟨_, _, _, rfl, rfl, hR2⟩
  · simp only [h0, not_false_iff, if_true]
    exact ⟨_, _, _, rfl, rfl, hR2⟩
/-! the asking: a number for each method that begins -/
def RM (G : Nat → Int32) (x y : Option fw_M) : Prop := ∃ M1 M2, x = some M1 ∧ y = some M2 ∧ rl M1 M2 ∧ M2 203 = G
def RR (G : Nat → Int32) (x y : Option (Int32 × fw_M)) : Prop := ∃ r M1 M2, x = some (r, M1) ∧ y = some (r, M2) ∧ rl M1 M2 ∧ M2 203 = G
theorem rm_rr {G : Nat → Int32} {x y : Option fw_M} {k k2 : fw_M → Option (Int32 × fw_M)} (h : RM G x y) (hk : ∀ M1 M2, rl M1 M2 → M2 203 = G → RR G (k M1) (k2 M2)) : RR G (x.bind k) (y.bind k2) := by
  obtain ⟨M1, M2, rfl, rfl, h1, h2⟩ := h
  exact hk M1 M2 h1 h2
theorem rr_rr {G : Nat → Int32} {x y : Option (Int32 × fw_M)} {k k2 : Int32 × fw_M → Option (Int32 × fw_M)} (h : RR G x y) (hk : ∀ r M1 M2, rl M1 M2 → M2 203 = G → RR G (k (r, M1)) (k2 (r, M2))) : RR G (x.bind k) (y.bind k2) := by
  obtain ⟨r, M1, M2, rfl, rfl, h1, h2⟩ := h
  exact hk r M1 M2 h1 h2
theorem rr_v {G : Nat → Int32} {r r2 : Int32} {M1 M2 : fw_M} (h1 : rl M1 M2) (h2 : M2 203 = G) (h : r = r2) : RR G (some (r, M1)) (some (r2, M2)) := by
  subst h
  exact ⟨r, M1, M2, rfl, rfl, h1, h2⟩
theorem rr_a {G : Nat → Int32} {x y : Option Int32} {v : Int32} {k k2 : Int32 → Option (Int32 × fw_M)} (h : x = some v ∧ y = some v) (hk : RR G (k v) (k2 v)) : RR G (x.bind k) (y.bind k2) := by
  obtain ⟨rfl, rfl⟩ := h
  exact hk
theorem leave_e {M1 M2 : fw_M} {G : Nat → Int32} (hR : rl M1 M2) (hG : M2 203 = G) (x : Int32) : RM G (P_Asking_leave 169 M1 x) (P_Mod_began 199 M2 x) := by
  unfold P_Asking_leave P_Asking_leave_b0 P_Asking_leave_b29 P_Mod_began P_Mod_began_b0 P_Mod_began_b29
  obtain ⟨a1, a2, a3, a4, a5, a6, a7, n, hn, e1, e2, e3⟩ := hR
  rw [e1, e2]
  by_cases h : (16 : Int32) ≤ nI n
  · rw [if_pos h, if_pos h]
    exact ⟨_, _, rfl, rfl, ⟨a1, a2, a3, a4, a5, a6, a7, n, hn, e1, e2, e3⟩, hG⟩
  · have hn2 : n < 16 := by
      have : ¬ (nI 16 ≤ nI n) := h
      rw [nI_le2 (by omega) (by omega)] at this
      omega
    rw [if_neg h, if_neg h, ast_n (by omega) (by omega), ast_n (by omega) (by omega)]
    simp only [bs_e, pl_e, st_n (show (169 : Nat) ≠ 170 by omega), st_n (show (199 : Nat) ≠ 211 by omega), Nat.reduceAdd, e1, e2, nI_s]
    refine ⟨_, _, rfl, rfl, ⟨?_, ?_, ?_, ?_, ?_, ?_, ?_, n + 1, by omega, ?_, ?_, ?_⟩, ?_⟩
    · rw [st_n (by omega), st_n (by omega), st_n2 (by omega), st_n (by omega)]; exact a1
    · rw [st_n (by omega), st_n (by omega), st_n2 (by omega), st_n (by omega)]; exact a2
    · exact fr_rows a3 (fun k _ _ => by rw [st_n (by omega), st_n (by omega)]) (by rw [st_n (by omega), st_n (by omega)]) (by rw [st_n (by omega), st_n (by omega)]) (by rw [st_n (by omega), st_n (by omega)])
    · exact fr_tape a4 (by rw [st_n (by omega), st_n (by omega)]) (by rw [st_n (by omega), st_n (by omega)]) (by rw [st_n2 (by omega), st_n (by omega)]) (by rw [st_n (by omega), st_n (by omega)])
    · exact fr_hall a5 (fun k _ _ => by rw [st_n (by omega), st_n (by omega)]) (by rw [st_n (by omega), st_n (by omega)])
    · exact fr_acts a6 (fun k _ _ => by rw [st_n (by omega), st_n (by omega)]) (by rw [st_n2 (by omega), st_n (by omega)]) (by rw [st_n (by omega), st_n (by omega)])
    · exact fr_imgs a7 (fun k _ _ => by rw [st_n (by omega), st_n (by omega)]) (by rw [st_n (by omega), st_n (by omega)]) (by rw [st_n (by omega), st_n (by omega)])
    · rw [st_e, up_e]
    · rw [st_e, up_e]
    · intro j hj
      have q1 : fw_set (fw_set M1 170 n x) 169 1 (nI (n + 1)) 170 = upd (M1 170) n x := (st_n (by omega)).trans (st_e _ _ _ _)
      have q2 : fw_set (fw_set M2 211 n x) 199 23 (nI (n + 1)) 211 = upd (M2 211) n x := (st_n (by omega)).trans (st_e _ _ _ _)
      rw [q1, q2]
      by_cases hjn : j = n
      · subst hjn; rw [up_e, up_e]
      · rw [up_n hjn, up_n hjn]; exact e3 j (by omega)
    · rw [st_n (by omega), st_n (by omega)]; exact hG
theorem plain_e {M1 M2 : fw_M} {G : Nat → Int32} (hR : rl M1 M2) (hG : M2 203 = G) {p : Nat} (hp : p < gP G) : RR G (P_Asking_size10 169 4 M1 (nI p)) (P_Mod_plainSize 199 M2 (nI p)) := by
  unfold P_Asking_size10 P_Asking_size10_b0 P_Mod_plainSize P_Mod_plainSize_b0
  refine rm_rr (leave_e hR hG 10) fun M1 M2 hR hG => ?_
  exact rr_a (ce_r hR hG hp) (rr_v hR hG rfl)
theorem mul2 (x : Int32) : x * 2 = 2 * x := Int32.mul_comm _ _
theorem guest_e {M1 M2 : fw_M} {G : Nat → Int32} (hR : rl M1 M2) (hG : M2 203 = G) {p : Nat} (hp : p < gP G) : RR G (P_Asking_guestSize 169 4 M1 (nI p)) (P_Mod_guestSize 199 M2 (nI p)) := by
  unfold P_Asking_guestSize P_Asking_guestSize_b0 P_Mod_guestSize P_Mod_guestSize_b0 P_Mod_guestSize_b18 P_Mod_guestSize_b29 P_Mod_guestSize_b55 P_Asking_size13 P_Asking_size13_b0
  refine rr_a (ce_k hR hG hp) ?_
  by_cases h : nI (gk G p) = 5
  · simp only [if_pos h, if_neg (show ¬ (1 : Int32) = 0 by decide), pl_e]
    refine rm_rr (leave_e hR hG 14) fun M1 M2 hR hG => ?_
    simp only [Option.bind_assoc]
    refine rm_rr (leave_e hR hG 13) fun M1 M2 hR hG => ?_
    refine rr_rr (plain_e hR hG hp) fun r M1 M2 hR hG => ?_
    exact rr_v hR hG (mul2 _)
  · simp only [if_neg h, if_true, pl_e]
    simp only [Option.bind_assoc]
    refine rm_rr (leave_e hR hG 13) fun M1 M2 hR hG => ?_
    refine rr_rr (plain_e hR hG hp) fun r M1 M2 hR hG => ?_
    exact rr_v hR hG rfl
theorem m21_e {M1 M2 : fw_M} {G : Nat → Int32} (hR : rl M1 M2) (hG : M2 203 = G) {p : Nat} (hp : p < gP G) {k : Int32 × fw_M → Option (Int32 × fw_M)} {k3 : Int32 → fw_M → Option (Int32 × fw_M)} (hk : ∀ v M1 M2, rl M1 M2 → M2 203 = G → RR G (k (nI p + v, M1)) (k3 v M2)) : RR G ((P_Asking_mark21 169 4 M1 (nI p)).bind k) ((P_Mod_began 199 M2 (21 : Int32)).bind fun q1 => (P_Mod_began 199 q1 (20 : Int32)).bind fun q2 => (P_Mod_of 203 q2 (nI p) (2 : Int32)).bind fun v3 => k3 v3 q2) := by
  unfold P_Asking_mark21 P_Asking_mark21_b0 P_Asking_mark20 P_Asking_mark20_b0
  simp only [Option.bind_assoc]
  refine rm_rr (leave_e hR hG 21) fun M1 M2 hR hG => ?_
  refine rm_rr (leave_e hR hG 20) fun M1 M2 hR hG => ?_
  simp only [bs_e]
  exact rr_a (ce_h hR hG hp) (hk _ _ _ hR hG)
theorem clerk_e {M1 M2 : fw_M} {G : Nat → Int32} (hR : rl M1 M2) (hG : M2 203 = G) {p : Nat} (hp : p < gP G) (h : gk G p < 4) : RR G (P_Asking_clerkMark 169 4 M1 (nI p)) (P_Mod_markOf 199 M2 (nI p)) := by
  have hP : 0 < gP (M2 203) := by rw [hG]; omega
  have hw := (hall_E hR hP).2.1
  rw [hG] at hw
  obtain ⟨k1, k5, -⟩ := (hw.2.2.2 p hp).1
  unfold P_Asking_clerkMark P_Asking_clerkMark_b0 P_Mod_markOf P_Mod_markOf_b0
  refine rr_a (ce_k hR hG hp) ?_
  have h4 : nI (gk G p) < 4 ↔ gk G p < 4 := (nI_lt2 (by omega) (by omega) : nI (gk G p) < nI 4 ↔ gk G p < 4)
  simp only [h4, h, if_true]
  unfold P_Mod_markOf_b53 P_Mod_markOf_b56 P_Mod_markOf_b105
  simp only [nI_e1 (show gk G p < 1000000 by omega), nI_e2 (show gk G p < 1000000 by omega), nI_e3 (show gk G p < 1000000 by omega)]
  by_cases h1 : gk G p = 1
  · rw [if_neg (show ¬ gk G p = 2 by omega), if_neg (show ¬ gk G p = 3 by omega), if_pos h1]
    simp only [if_pos h1]
    exact m21_e hR hG hp fun v M1 M2 hR hG => rr_v hR hG rfl
  · by_cases h2 : gk G p = 2
    · rw [if_pos h2, if_neg h1, if_neg (show ¬ gk G p = 3 by omega)]
      refine rm_rr (leave_e hR hG 24) fun M1 M2 hR hG => ?_
      simp only [if_neg h1, if_neg (show ¬ gk G p = 3 by omega)]
      exact m21_e hR hG hp fun v M1 M2 hR hG => rr_v hR hG (mul2 _)
    · have h3 : gk G p = 3 := by omega
      rw [if_neg h2, if_pos h3, if_neg h1, if_pos h3]
      refine rm_rr (leave_e hR hG 22) fun M1 M2 hR hG => ?_
      simp only [if_neg h1, if_pos h3]
      exact m21_e hR hG hp fun v M1 M2 hR hG => rr_v hR hG rfl
theorem mark_e {M1 M2 : fw_M} {G : Nat → Int32} (hR : rl M1 M2) (hG : M2 203 = G) {p : Nat} (hp : p < gP G) : RR G (P_Asking_markOf 169 4 M1 (nI p)) (P_Mod_markOf 199 M2 (nI p)) := by
  have hP : 0 < gP (M2 203) := by rw [hG]; omega
  have hw := (hall_E hR hP).2.1
  rw [hG] at hw
  obtain ⟨k1, k5, -⟩ := (hw.2.2.2 p hp).1
  unfold P_Asking_markOf P_Asking_markOf_b0 P_Asking_markOf_b28
  rw [show fw_ald M1 (4 + 1) 7 (nI p) = _ from (ce_k hR hG hp).1, bs_e]
  have i1 := isOneOf_e M1 M2 (k := gk G p) (x := 1) k1 k5 (by omega)
  have i2 : P_Hall_isOneOf M1 (nI (gk G p)) 1 = _ := i1.1.trans i1.2
  rw [i2, bs_e]
  simp only [b1_0]
  by_cases h : gk G p < 4
  · rw [if_neg (fun z => z (Or.inr (Or.inr (Or.inl ⟨trivial, h⟩))))]
    have := clerk_e hR hG hp h
    obtain ⟨r, N1, N2, e1, e2, h1, h2⟩ := this
    rw [e1, e2]
    exact rr_v h1 h2 rfl
  · rw [if_pos (show ¬ ((1 : Nat) = 0 ∨ gk G p = 1 ∨ (True ∧ gk G p < 4) ∨ ((1 : Nat) = 4 ∧ gk G p = 5)) by omega)]
    unfold P_Mod_markOf P_Mod_markOf_b0
    rw [show P_Mod_of (199 + 4) M2 (nI p) 0 = _ from (ce_k hR hG hp).2, bs_e]
    have h4 : nI (gk G p) < 4 ↔ gk G p < 4 := (nI_lt2 (by omega) (by omega) : nI (gk G p) < nI 4 ↔ gk G p < 4)
    simp only [h4, h, if_false]
    unfold P_Asking_mark23 P_Asking_mark23_b0 P_Asking_mark20 P_Asking_mark20_b0
    simp only [Option.bind_assoc]
    refine rm_rr (leave_e hR hG 23) fun M1 M2 hR hG => ?_
    refine rm_rr (leave_e hR hG 20) fun M1 M2 hR hG => ?_
    simp only [bs_e]
    refine rr_rr (guest_e hR hG hp) fun r M1 M2 hR hG => ?_
    exact rr_v hR hG rfl
theorem size11_e {M1 M2 : fw_M} {G : Nat → Int32} (hR : rl M1 M2) (hG : M2 203 = G) {p : Nat} (hp : p < gP G) (h : gk G p < 4) {k : Int32 × fw_M → Option (Int32 × fw_M)} {k3 : Int32 → fw_M → Option (Int32 × fw_M)} (hk : ∀ v M1 M2, rl M1 M2 → M2 203 = G → RR G (k (v, M1)) (k3 v M2)) : RR G ((P_Asking_size11 169 4 M1 (nI p)).bind k) ((P_Mod_began 199 M2 (11 : Int32)).bind fun q1 => (P_Mod_plainSize 199 q1 (nI p)).bind fun q2 => (P_Mod_markOf 199 q2.2 (nI p)).bind fun q3 => k3 (q2.1 + q3.1) q3.2) := by
  unfold P_Asking_size11 P_Asking_size11_b0
  simp only [Option.bind_assoc]
  refine rm_rr (leave_e hR hG 11) fun M1 M2 hR hG => ?_
  refine rr_rr (plain_e hR hG hp) fun r M1 M2 hR hG => ?_
  refine rr_rr (clerk_e hR hG hp h) fun r2 M1 M2 hR hG => ?_
  exact hk _ _ _ hR hG
theorem size_e {M1 M2 : fw_M} {G : Nat → Int32} (hR : rl M1 M2) (hG : M2 203 = G) {p : Nat} (hp : p < gP G) : RR G (P_Asking_sizeOf 169 4 M1 (nI p)) (P_Mod_sizeOf 199 M2 (nI p)) := by
  have hP : 0 < gP (M2 203) := by rw [hG]; omega
  have hw := (hall_E hR hP).2.1
  rw [hG] at hw
  obtain ⟨k1, k5, -⟩ := (hw.2.2.2 p hp).1
  unfold P_Asking_sizeOf P_Asking_sizeOf_b0 P_Mod_sizeOf P_Mod_sizeOf_b0
  refine rr_a (ce_k hR hG hp) ?_
  have h4 : nI (gk G p) < 4 ↔ gk G p < 4 := (nI_lt2 (by omega) (by omega) : nI (gk G p) < nI 4 ↔ gk G p < 4)
  unfold P_Mod_sizeOf_b32 P_Mod_sizeOf_b63
  simp only [h4, nI_e1 (show gk G p < 1000000 by omega), nI_e2 (show gk G p < 1000000 by omega), nI_e3 (show gk G p < 1000000 by omega)]
  by_cases h1 : gk G p = 1
  · rw [if_pos h1, if_pos (show gk G p < 4 by omega), if_neg (show ¬ gk G p = 2 by omega)]
    simp only [if_neg (show ¬ gk G p = 2 by omega)]
    exact size11_e hR hG hp (by omega) fun v M1 M2 hR hG => rr_v hR hG rfl
  · by_cases h2 : gk G p = 2
    · rw [if_neg h1, if_pos h2, if_pos (show gk G p < 4 by omega), if_pos h2]
      simp only [if_pos h2]
      refine rm_rr (leave_e hR hG 12) fun M1 M2 hR hG => ?_
      exact size11_e (k := fun q => some (0 - q.1, q.2)) (k3 := fun y m => some (-y, m)) hR hG hp (by omega) fun v M1 M2 hR hG => rr_v hR hG (Int32.zero_sub _)
    · by_cases h3 : gk G p = 3
      · rw [if_neg h1, if_neg h2, if_pos h3, if_pos (show gk G p < 4 by omega), if_neg h2]
        simp only [if_neg h2]
        exact size11_e hR hG hp (by omega) fun v M1 M2 hR hG => rr_v hR hG rfl
      · rw [if_neg h1, if_neg h2, if_neg h3, if_neg (show ¬ gk G p < 4 by omega)]
        refine rr_rr (guest_e hR hG hp) fun r M1 M2 hR hG => ?_
        exact rr_v hR hG rfl
theorem ow_ask {Mc Mr : fw_M} (hR : rl Mc Mr) (a0 : Int32) (a1 : Int32) : ∃ (r : Int32) (Mc2 Mr2 : fw_M), P_Door_ask 0 Mc a0 a1 = some (r, Mc2) ∧ P_Mod_ask 199 Mr a0 a1 = some (r, Mr2) ∧ rl Mc2 Mr2 := by
  unfold P_Door_ask P_Door_ask_b0 P_Door_ask_b17 P_Door_ask_b58 P_Mod_ask P_Mod_ask_b0 P_Mod_ask_b23 P_Mod_ask_b48
  have hR2 := rl_thrown hR 0
  have hG : fw_set Mr 199 0 0 203 = Mr 203 := st_n (by omega)
  obtain ⟨e1, e2, -, -, h7, -⟩ := hall_P hR
  simp only [pl_e]
  rw [p_isPerson (o := 0) e1 (by omega), m_isPerson (o := 199) (by rw [hG]; exact e2) (by omega)]
  simp only [bs_e, b1_0]
  by_cases h0 : 0 ≤ a0.toInt ∧ a0.toInt < (gP (Mr 203) : Int)
  · simp only [h0, and_self, not_true, if_false]
    rw [p_w0 Mc a1 (hi := 1) (n := 1) rfl, p_in0 _ a1 (hi := 1) (n := 1) rfl]
    simp only [bs_e, b1_0]
    by_cases h1 : 0 ≤ a1.toInt ∧ a1.toInt ≤ 1
    · simp only [h1, and_self, not_true, if_false]
      obtain ⟨p, hp, rfl⟩ := per_x h0
      have hR3 : rl (fw_set Mc 169 1 0) (fw_set (fw_set Mr 199 0 0) 199 23 0) := by
        obtain ⟨a1, a2, a3, a4, a5, a6, a7, n, hn, e1, e2, e3⟩ := hR2
        refine ⟨?_, ?_, ?_, ?_, ?_, ?_, ?_, 0, by omega, ?_, ?_, fun j hj => by omega⟩
        · rw [st_n (by omega), st_n2 (by omega)]; exact a1
        · rw [st_n (by omega), st_n2 (by omega)]; exact a2
        · exact fr_rows a3 (fun k _ _ => st_n (by omega)) (st_n (by omega)) (st_n (by omega)) (st_n (by omega))
        · exact fr_tape a4 (by rw [st_n (by omega)]) (st_n (by omega)) (st_n2 (by omega)) (st_n (by omega))
        · exact fr_hall a5 (fun k _ _ => st_n (by omega)) (st_n (by omega))
        · exact fr_acts a6 (fun k _ _ => st_n (by omega)) (st_n2 (by omega)) (st_n (by omega))
        · exact fr_imgs a7 (fun k _ _ => st_n (by omega)) (st_n (by omega)) (st_n (by omega))
        · rw [st_e, up_e]; rfl
        · rw [st_e, up_e]; rfl
      have hG3 : fw_set (fw_set Mr 199 0 0) 199 23 0 203 = Mr 203 := (st_n (by omega)).trans hG
      rw [show P_Asking_begin (0 + 169) Mc = some (fw_set Mc 169 1 0) from rfl, bs_e]
      by_cases hx : a1 = 0
      · rw [if_pos hx, if_pos hx]
        obtain ⟨r, N1, N2, q1, q2, q3, q4⟩ := size_e hR3 hG3 hp
        rw [show P_Asking_sizeOf (0 + 169) (0 + 4) (fw_set Mc 169 1 0) (nI p) = _ from q1, q2]
        exact ⟨_, _, _, rfl, rfl, q3⟩
      · rw [if_neg hx, if_neg hx]
        obtain ⟨r, N1, N2, q1, q2, q3, q4⟩ := mark_e hR3 hG3 hp
        rw [show P_Asking_markOf (0 + 169) (0 + 4) (fw_set Mc 169 1 0) (nI p) = _ from q1, q2]
        exact ⟨_, _, _, rfl, rfl, q3⟩
    · simp only [h1, not_false_iff, if_true]
      exact ⟨_, _, _, rfl, rfl, hR2⟩
  · simp only [h0, not_false_iff, if_true]
    exact ⟨_, _, _, rfl, rfl, hR2⟩
