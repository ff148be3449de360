/-! A STEP -/
/-- p goes through in this step -/
def gone (g : Nat → Int32) (p : Nat) : Bool := decide (0 ≤ gd g p) && decide (go g (gd g p) = some p)
def wcn (g : Nat → Int32) : Nat → Nat
  | 0 => 0
  | j + 1 => wcn g j + (if (go g (j : Int)).isSome then 1 else 0)
theorem wcn_le (g : Nat → Int32) : ∀ j, wcn g j ≤ j
  | 0 => Nat.le_refl 0
  | j + 1 => by
    have := wcn_le g j
    simp only [wcn]
    split <;> omega
/-- a hall behind a step -/
def ST (g h : Nat → Int32) : Prop := (∀ i, i < 3 → h i = g i) ∧ h 3 = g 3 + 1 ∧ ∀ p, p < gP g → h (4 + 5 * p) = g (4 + 5 * p) ∧ h (5 + 5 * p) = g (5 + 5 * p) ∧ h (6 + 5 * p) = g (6 + 5 * p) ∧ h (7 + 5 * p) = (if gone g p = true then -1 else g (7 + 5 * p)) ∧ h (8 + 5 * p) = nI (if gone g p = true then 0 else gb g p - 1)
theorem go_d {g : Nat → Int32} {d : Int} {p : Nat} (h : go g d = some p) : p < gP g ∧ gd g p = d := by
  unfold go at h
  rw [ff_some] at h
  have h3 := h.2.2.1
  unfold okc wm at h3
  rw [mk_b] at h3
  simp only [Bool.and_eq_true, decide_eq_true_eq] at h3
  exact h3.1
theorem st_P {g h : Nat → Int32} (hs : ST g h) : gP h = gP g := by unfold gP; rw [hs.1 2 (by omega)]
theorem st_D {g h : Nat → Int32} (hs : ST g h) : gD h = gD g := by unfold gD; rw [hs.1 0 (by omega)]
theorem st_gd {g h : Nat → Int32} (hs : ST g h) {p : Nat} (hp : p < gP g) : gd h p = if gone g p = true then -1 else gd g p := by
  unfold gd
  rw [(hs.2.2 p hp).2.2.2.1]
  split <;> rfl
theorem st_gb {g h : Nat → Int32} (hw : WF g) (hs : ST g h) {p : Nat} (hp : p < gP g) : gb h p = if gone g p = true then 0 else gb g p - 1 := by
  have hb := (hw.2.2.2 p hp).2.2.2.2.1
  unfold gb
  rw [(hs.2.2 p hp).2.2.2.2, tC (by unfold gb at hb; unfold gb; split <;> omega)]
  rfl
theorem st_wf {g h : Nat → Int32} (hw : WF g) (hs : ST g h) : WF h := by
  obtain ⟨a, b, c, d⟩ := id hw
  have hP := st_P hs
  have hD := st_D hs
  have hY : gY h = gY g := by unfold gY; rw [hs.1 1 (by omega)]
  refine ⟨by rw [hD, hs.1 0 (by omega)]; exact a, by rw [hY, hs.1 1 (by omega)]; exact b, by rw [hP, hs.1 2 (by omega)]; exact c, fun p hp => ?_⟩
  rw [hP] at hp
  obtain ⟨k, r, o, dd, bb⟩ := d p hp
  obtain ⟨s1, s2, s3, s4, s5⟩ := hs.2.2 p hp
  refine ⟨by unfold gk; rw [s1]; exact k, by unfold gr; rw [s2]; exact r, by unfold gh; rw [s3]; exact o, ?_, ?_⟩
  · rw [st_gd hs hp, hD]
    split <;> omega
  · rw [st_gb hw hs hp]
    refine ⟨by split <;> omega, s5⟩
theorem st_yl {g h : Nat → Int32} (hs : ST g h) {p q : Nat} (hp : p < gP g) (hq : q < gP g) : yl h p q = yl g p q := by
  obtain ⟨a1, a2, a3, -, -⟩ := hs.2.2 p hp
  obtain ⟨-, b2, b3, -, -⟩ := hs.2.2 q hq
  unfold yl gk gr gh
  rw [a1, a2, a3, b2, b3]
/-! the reference's step -/
/-- behind the first j doors -/
def gj (g : Nat → Int32) (j p : Nat) : Bool := gone g p && decide (gd g p < (j : Int))
theorem ix_y {p c : Nat} {x : Int32} (hx : x = nI c) : ((4 : Int32) + ((5 : Int32) * nI p)) + x = nI (4 + 5 * p + c) := by rw [hx]; exact ix_5 p c
theorem nI_s1 {a : Nat} (h : 1 ≤ a) : nI a - 1 = nI (a - 1) := by
  obtain ⟨b, rfl⟩ : ∃ b, a = b + 1 := ⟨a - 1, by omega⟩
  exact nI_pred b
theorem nI_s0 (a : Nat) : nI a - 0 = nI a := Int32.sub_zero _
theorem m_step3 {o a : Nat} {g : Nat → Int32} (hw : WF g) (ha : a ≠ o + 9) (wv : Int32) : ∀ (r j f : Nat) (M : fw_M), j + r = gP g → r < f → (∀ i, i < 4 → M a i = g i) → (∀ p, p < gP g → M a (4 + 5 * p) = g (4 + 5 * p) ∧ M a (5 + 5 * p) = g (5 + 5 * p) ∧ M a (6 + 5 * p) = g (6 + 5 * p) ∧ M a (7 + 5 * p) = (if gone g p = true then -1 else g (7 + 5 * p)) ∧ M a (8 + 5 * p) = nI (if gone g p = true then 0 else if p < j then gb g p - 1 else gb g p)) → ∃ M2, P_Mod_step_h85 o a f M wv (nI j) = some (wv, M2) ∧ ST g (M2 a) ∧ ∀ b, b ≠ a → M2 b = M b := by
  have h7 := hw.2.2.1.2.1
  intro r
  induction r with
  | zero =>
    intro j f M hj hf h0 hp
    obtain ⟨f, rfl⟩ : ∃ g, f = g + 1 := ⟨f - 1, by omega⟩
    show ∃ M2, P_Mod_step_b85 o a _ M _ _ = _ ∧ _
    unfold P_Mod_step_b85
    have e2 : fw_ald M a 39 (2 : Int32) = some (nI (gP g)) := by rw [show (2 : Int32) = nI 2 from rfl, ald_n (by omega) (by omega), h0 2 (by omega), hw.2.2.1.2.2]
    have e3 : fw_ald M a 39 (3 : Int32) = some (g 3) := by rw [show (3 : Int32) = nI 3 from rfl, ald_n (by omega) (by omega), h0 3 (by omega)]
    have e4 : ∀ v, fw_ast M a 39 (3 : Int32) v = some (fw_set M a 3 v) := fun v => by rw [show (3 : Int32) = nI 3 from rfl, ast_n (by omega) (by omega)]
    simp only [e2, e3, e4, bs_e, nI_le2 (show gP g < 1000000 by omega) (show j < 1000000 by omega)]
    rw [if_pos (by omega)]
    refine ⟨_, rfl, ⟨fun i hi => ?_, ?_, fun p hpp => ?_⟩, fun b hb => st_n hb⟩
    · rw [st_e, up_n (by omega), h0 i (by omega)]
    · rw [st_e, up_e]
    · obtain ⟨s1, s2, s3, s4, s5⟩ := hp p hpp
      rw [st_e, up_n (by omega), up_n (by omega), up_n (by omega), up_n (by omega), up_n (by omega)]
      refine ⟨s1, s2, s3, s4, ?_⟩
      rw [s5, if_pos (show p < j by omega)]
  | succ r ih =>
    intro j f M hj hf h0 hp
    obtain ⟨f, rfl⟩ : ∃ g, f = g + 1 := ⟨f - 1, by omega⟩
    show ∃ M2, P_Mod_step_b85 o a _ M _ _ = _ ∧ _
    unfold P_Mod_step_b85 P_Mod_step_b116
    have e2 : fw_ald M a 39 (2 : Int32) = some (nI (gP g)) := by rw [show (2 : Int32) = nI 2 from rfl, ald_n (by omega) (by omega), h0 2 (by omega), hw.2.2.1.2.2]
    obtain ⟨-, -, -, -, s5⟩ := hp j (by omega)
    rw [if_neg (show ¬ j < j by omega)] at s5
    have hb := (hw.2.2.2 j (by omega)).2.2.2.2.1
    have e5 : P_Mod_of a M (nI j) 4 = some (nI (if gone g j = true then 0 else gb g j)) := by rw [m_of (x := 4) (c := 4) rfl (by omega) (by omega), show 4 + 5 * j + 4 = 8 + 5 * j by omega, s5]
    have e6 : fw_ald M a 39 (nI (4 + 5 * j + 4)) = some (nI (if gone g j = true then 0 else gb g j)) := by rw [ald_n (by omega) (by omega), show 4 + 5 * j + 4 = 8 + 5 * j by omega, s5]
    have hlt : (if gone g j = true then 0 else gb g j) < 1000000 := by split <;> omega
    simp only [e2, bs_e, nI_le2 (show gP g < 1000000 by omega) (show j < 1000000 by omega), ix_y (x := 4) (c := 4) rfl, e5, e6, nI_z1 hlt, ast_n (show 4 + 5 * j + 4 < 39 by omega) (show 39 ≤ 1000 by omega), nI_s]
    rw [if_neg (by omega)]
    have key : ∀ v : Int32, v = nI (if gone g j = true then 0 else gb g j - 1) → ∃ M2, P_Mod_step_h85 o a f (fw_set M a (4 + 5 * j + 4) v) wv (nI (j + 1)) = some (wv, M2) ∧ ST g (M2 a) ∧ ∀ b, b ≠ a → M2 b = M b := by
      intro v hv
      obtain ⟨M2, a1, a2, a3⟩ := ih (j + 1) f (fw_set M a (4 + 5 * j + 4) v) (by omega) (by omega) (fun i hi => by rw [st_e, up_n (by omega), h0 i hi]) (fun p hpp => by
        obtain ⟨t1, t2, t3, t4, t5⟩ := hp p hpp
        rw [st_e, up_n (by omega), up_n (by omega), up_n (by omega), up_n (by omega)]
        refine ⟨t1, t2, t3, t4, ?_⟩
        by_cases hpj : p = j
        · subst hpj
          rw [show 4 + 5 * p + 4 = 8 + 5 * p by omega, up_e, hv, if_pos (show p < p + 1 by omega)]
        · rw [up_n (by omega), t5]
          refine congrArg nI ?_
          split
          · rfl
          · by_cases hlt : p < j
            · rw [if_pos hlt, if_pos (by omega)]
            · rw [if_neg hlt, if_neg (by omega)])
      exact ⟨M2, a1, a2, fun b hb => by rw [a3 b hb, st_n hb]⟩
    by_cases hg : gone g j = true
    · rw [if_pos hg, if_pos rfl]
      exact key _ (by rw [nI_s0, if_pos hg])
    · rw [if_neg hg]
      by_cases hz : gb g j = 0
      · rw [if_pos hz]
        exact key _ (by rw [nI_s0, if_neg hg, hz])
      · rw [if_neg hz]
        exact key _ (by rw [nI_s1 (by omega), if_neg hg])
theorem gj_s {g : Nat → Int32} {j p : Nat} : gj g (j + 1) p = (gj g j p || decide (go g (j : Int) = some p)) := by
  unfold gj gone
  by_cases h : go g (j : Int) = some p
  · have := (go_d h).2
    simp [h, this]
    omega
  · by_cases h2 : gd g p = (j : Int)
    · simp [h2, h]
    · have : (gd g p < ((j + 1 : Nat) : Int)) ↔ gd g p < (j : Int) := by omega
      rw [decide_eq_decide.mpr this, decide_eq_false h, Bool.or_false]
theorem gj_0 {g : Nat → Int32} {p : Nat} : gj g 0 p = false := by
  unfold gj gone
  by_cases h : 0 ≤ gd g p
  · simp; omega
  · simp [h]
theorem gj_D {g : Nat → Int32} (hw : WF g) {p : Nat} (hp : p < gP g) : gj g (gD g) p = gone g p := by
  unfold gj
  have := (hw.2.2.2 p hp).2.2.2.1.2
  simp [this]
theorem oM_ne {x : Option Nat} (hx : ∀ p, x = some p → p < 7) : oM x = -1000000 ↔ x = none := by
  cases x with
  | none => simp [oM]
  | some p =>
    have hp := hx p rfl
    simp only [oM, reduceCtorEq, iff_false]
    intro h
    have h2 := congrArg Int32.toInt h
    rw [tI (by omega), show (-1000000 : Int32).toInt = -1000000 from rfl] at h2
    omega
theorem go_7 {g : Nat → Int32} {d : Int} : ∀ p, go g d = some p → p < 7 := by
  intro p h
  unfold go at h
  rw [ff_some] at h
  omega
/-- the second loop: who goes, goes -/
theorem m_step2 {o a : Nat} {g : Nat → Int32} (hw : WF g) (ha : a ≠ o + 9) : ∀ (r j f : Nat) (M : fw_M), j + r = gD g → r < f → (∀ d, d < gD g → M (o + 9) d = oM (go g (d : Int))) → (∀ i, i < 4 → M a i = g i) → (∀ p, p < gP g → M a (4 + 5 * p) = g (4 + 5 * p) ∧ M a (5 + 5 * p) = g (5 + 5 * p) ∧ M a (6 + 5 * p) = g (6 + 5 * p) ∧ M a (7 + 5 * p) = (if gj g j p = true then -1 else g (7 + 5 * p)) ∧ M a (8 + 5 * p) = nI (if gj g j p = true then 0 else gb g p)) → ∃ M2, P_Mod_step_h30 o a f M (nI (wcn g j)) (nI j) = some (nI (wcn g (gD g)), M2) ∧ ST g (M2 a) ∧ ∀ b, b ≠ a → M2 b = M b := by
  have h7 := hw.2.2.1.2.1
  have hD := hw.1.2.1
  intro r
  induction r with
  | zero =>
    intro j f M hj hf hgo h0 hp
    obtain ⟨f, rfl⟩ : ∃ g, f = g + 1 := ⟨f - 1, by omega⟩
    have hjD : j = gD g := by omega
    subst hjD
    show ∃ M2, P_Mod_step_b30 o a _ M _ _ = _ ∧ _
    unfold P_Mod_step_b30
    have e0 : fw_ald M a 39 (0 : Int32) = some (nI (gD g)) := by rw [show (0 : Int32) = nI 0 from rfl, ald_n (by omega) (by omega), h0 0 (by omega), hw.1.2.2]
    simp only [e0, bs_e, nI_le2 (show gD g < 1000000 by omega) (show gD g < 1000000 by omega)]
    rw [if_pos (Nat.le_refl _)]
    have hfu := fw_fu_ge
    have h := m_step3 (o := o) hw ha (nI (wcn g (gD g))) (gP g) 0 fw_fu M (by omega) (by omega) h0 (fun p hpp => by
      obtain ⟨s1, s2, s3, s4, s5⟩ := hp p hpp
      rw [gj_D hw hpp] at s4 s5
      exact ⟨s1, s2, s3, s4, by rw [s5, if_neg (show ¬ p < 0 by omega)]⟩)
    exact h
  | succ r ih =>
    intro j f M hj hf hgo h0 hp
    obtain ⟨f, rfl⟩ : ∃ g, f = g + 1 := ⟨f - 1, by omega⟩
    show ∃ M2, P_Mod_step_b30 o a _ M _ _ = _ ∧ _
    unfold P_Mod_step_b30 P_Mod_step_b77
    have e0 : fw_ald M a 39 (0 : Int32) = some (nI (gD g)) := by rw [show (0 : Int32) = nI 0 from rfl, ald_n (by omega) (by omega), h0 0 (by omega), hw.1.2.2]
    simp only [e0, bs_e, nI_le2 (show gD g < 1000000 by omega) (show j < 1000000 by omega), ald_n (show j < 4 by omega) (show 4 ≤ 1000 by omega), hgo j (by omega), pl_e, nI_s, oM_ne (go_7 (g := g) (d := (j : Int)))]
    rw [if_neg (by omega)]
    cases hg : go g (j : Int) with
    | none =>
      rw [if_pos rfl]
      have hwc : wcn g (j + 1) = wcn g j := by simp [wcn, hg]
      have h := ih (j + 1) f M (by omega) (by omega) hgo h0 (fun p hpp => by
        have hgj : gj g (j + 1) p = gj g j p := by rw [gj_s, hg]; simp
        rw [hgj]
        exact hp p hpp)
      rw [hwc] at h
      exact h
    | some q =>
      rw [if_neg (by simp)]
      obtain ⟨hq, hqd⟩ := go_d hg
      simp only [oM]
      rw [show ((4 : Int32) + ((5 : Int32) * nI q)) + (3 : Int32) = nI (4 + 5 * q + 3) from ix_y rfl, show ((4 : Int32) + ((5 : Int32) * nI q)) + (4 : Int32) = nI (4 + 5 * q + 4) from ix_y rfl, ast_n (by omega) (by omega), bs_e, ast_n (by omega) (by omega), bs_e]
      have hwc : wcn g (j + 1) = wcn g j + 1 := by simp [wcn, hg]
      obtain ⟨M2, a1, a2, a3⟩ := ih (j + 1) f (fw_set (fw_set M a (4 + 5 * q + 3) (-1)) a (4 + 5 * q + 4) 0) (by omega) (by omega) (fun d hd => by rw [st_n (Ne.symm ha), st_n (Ne.symm ha)]; exact hgo d hd) (fun i hi => by rw [st_e, up_n (by omega), st_e, up_n (by omega), h0 i hi]) (fun p hpp => by
        obtain ⟨s1, s2, s3, s4, s5⟩ := hp p hpp
        have e : ∀ i, i ≠ 4 + 5 * q + 3 → i ≠ 4 + 5 * q + 4 → fw_set (fw_set M a (4 + 5 * q + 3) (-1)) a (4 + 5 * q + 4) 0 a i = M a i := fun i h1 h2 => by rw [st_e, up_n h2, st_e, up_n h1]
        rw [e _ (by omega) (by omega), e _ (by omega) (by omega), e _ (by omega) (by omega)]
        refine ⟨s1, s2, s3, ?_⟩
        by_cases hpq : p = q
        · subst hpq
          have hgj : gj g (j + 1) p = true := by rw [gj_s, hg]; simp
          rw [hgj, if_pos rfl, if_pos rfl]
          exact ⟨by rw [st_e, up_n (by omega), st_e, show 4 + 5 * p + 3 = 7 + 5 * p by omega, up_e], by rw [st_e, show 4 + 5 * p + 4 = 8 + 5 * p by omega, up_e]; rfl⟩
        · have hgj : gj g (j + 1) p = gj g j p := by
            rw [gj_s, hg]
            simp [Ne.symm hpq]
          rw [hgj, e _ (by omega) (by omega), e _ (by omega) (by omega)]
          exact ⟨s4, s5⟩)
      rw [hwc] at a1
      exact ⟨M2, a1, a2, fun b hb => by rw [a3 b hb, st_n hb, st_n hb]⟩
/-- the first loop: who goes at each door -/
theorem m_step1 {o a : Nat} {g : Nat → Int32} (hw : WF g) (ha : a ≠ o + 9) : ∀ (r j f : Nat) (M : fw_M), j + r = gD g → r < f → M a = g → (∀ d, d < j → M (o + 9) d = oM (go g (d : Int))) → ∃ M2, P_Mod_step_h4 o a f M (nI 0) (nI j) = some (nI (wcn g (gD g)), M2) ∧ ST g (M2 a) ∧ ∀ b, b ≠ a → b ≠ o + 9 → M2 b = M b := by
  have hD := hw.1.2.1
  intro r
  induction r with
  | zero =>
    intro j f M hj hf hM hgo
    obtain ⟨f, rfl⟩ : ∃ g, f = g + 1 := ⟨f - 1, by omega⟩
    have hjD : j = gD g := by omega
    subst hjD
    show ∃ M2, P_Mod_step_b4 o a _ M _ _ = _ ∧ _
    unfold P_Mod_step_b4
    have e0 : fw_ald M a 39 (0 : Int32) = some (nI (gD g)) := by rw [show (0 : Int32) = nI 0 from rfl, ald_n (by omega) (by omega), hM, hw.1.2.2]
    simp only [e0, bs_e, nI_le2 (show gD g < 1000000 by omega) (show gD g < 1000000 by omega)]
    rw [if_pos (Nat.le_refl _)]
    have hfu := fw_fu_ge
    obtain ⟨M2, a1, a2, a3⟩ := m_step2 (o := o) hw ha (gD g) 0 fw_fu M (by omega) (by omega) hgo (fun i hi => by rw [hM]) (fun p hpp => by
      rw [gj_0, hM, if_neg (by simp), if_neg (by simp)]
      exact ⟨rfl, rfl, rfl, rfl, (hw.2.2.2 p hpp).2.2.2.2.2⟩)
    exact ⟨M2, a1, a2, fun b h1 _ => a3 b h1⟩
  | succ r ih =>
    intro j f M hj hf hM hgo
    obtain ⟨f, rfl⟩ : ∃ g, f = g + 1 := ⟨f - 1, by omega⟩
    show ∃ M2, P_Mod_step_b4 o a _ M _ _ = _ ∧ _
    unfold P_Mod_step_b4
    have hwM : WF (M a) := by rw [hM]; exact hw
    have e0 : fw_ald M a 39 (0 : Int32) = some (nI (gD g)) := by rw [show (0 : Int32) = nI 0 from rfl, ald_n (by omega) (by omega), hM, hw.1.2.2]
    have e1 : P_Mod_goesAt a M (nI j) = some (oM (go g (j : Int))) := by
      rw [m_goesAt hwM (by rw [tI (by omega)]; omega), hM, tI (by omega)]
    simp only [e0, bs_e, nI_le2 (show gD g < 1000000 by omega) (show j < 1000000 by omega), e1, ast_n (show j < 4 by omega) (show 4 ≤ 1000 by omega), nI_s]
    rw [if_neg (by omega)]
    obtain ⟨M2, a1, a2, a3⟩ := ih (j + 1) f (fw_set M (o + 9) j (oM (go g (j : Int)))) (by omega) (by omega) (by rw [st_n ha]; exact hM) (fun d hd => by
      rw [st_e]
      by_cases hdj : d = j
      · subst hdj; rw [up_e]
      · rw [up_n hdj]; exact hgo d (by omega))
    exact ⟨M2, a1, a2, fun b h1 h2 => by rw [a3 b h1 h2, st_n h2]⟩
theorem m_step {o a : Nat} {M : fw_M} (hw : WF (M a)) (ha : a ≠ o + 9) : ∃ M2, P_Mod_step o a M = some (nI (wcn (M a) (gD (M a))), M2) ∧ ST (M a) (M2 a) ∧ ∀ b, b ≠ a → b ≠ o + 9 → M2 b = M b := by
  have hfu := fw_fu_ge
  have hD := hw.1.2.1
  exact m_step1 (o := o) hw ha (gD (M a)) 0 fw_fu M (by omega) (by omega) rfl (fun d hd => absurd hd (by omega))
/-- k steps, one behind another -/
def SN : Nat → (Nat → Int32) → (Nat → Int32) → Prop
  | 0, g, h => h = g
  | k + 1, g, h => ∃ m, SN k g m ∧ ST m h
theorem sn_wf : ∀ {k : Nat} {g h : Nat → Int32}, WF g → SN k g h → WF h ∧ gP h = gP g ∧ gD h = gD g
  | 0, g, h, hw, hs => by
    cases hs
    exact ⟨hw, rfl, rfl⟩
  | k + 1, g, h, hw, hs => by
    obtain ⟨m, h1, h2⟩ := hs
    obtain ⟨a, b, c⟩ := sn_wf hw h1
    exact ⟨st_wf a h2, (st_P h2).trans b, (st_D h2).trans c⟩
theorem m_stepsOf {o a : Nat} (ha : a ≠ o + 9) {n : Nat} (hn : n ≤ 100) {x : Int32} (hx : x = nI n) {M : fw_M} (hw : WF (M a)) : ∃ (w : Int32) (M2 : fw_M), P_Mod_stepsOf o a M x = some (w, M2) ∧ SN n (M a) (M2 a) ∧ ∀ b, b ≠ a → b ≠ o + 9 → M2 b = M b := by
  subst hx
  have key : ∀ (r j f : Nat) (N : fw_M) (w0 : Int32), j + r = n → r < f → WF (N a) → SN j (M a) (N a) → (∀ b, b ≠ a → b ≠ o + 9 → N b = M b) → ∃ (w : Int32) (M2 : fw_M), P_Mod_stepsOf_h5 o a f N (nI n) w0 (nI j) = some (w, M2) ∧ SN n (M a) (M2 a) ∧ ∀ b, b ≠ a → b ≠ o + 9 → M2 b = M b := by
    intro r
    induction r with
    | zero =>
      intro j f N w0 hj hf hwN hs hfr
      obtain ⟨f, rfl⟩ : ∃ g, f = g + 1 := ⟨f - 1, by omega⟩
      show ∃ (w : Int32) (M2 : fw_M), P_Mod_stepsOf_b5 o a _ N _ _ _ = _ ∧ _
      unfold P_Mod_stepsOf_b5
      simp only [nI_le2 (show n < 1000000 by omega) (show j < 1000000 by omega)]
      rw [if_pos (by omega)]
      have : j = n := by omega
      subst this
      exact ⟨_, _, rfl, hs, hfr⟩
    | succ r ih =>
      intro j f N w0 hj hf hwN hs hfr
      obtain ⟨f, rfl⟩ : ∃ g, f = g + 1 := ⟨f - 1, by omega⟩
      show ∃ (w : Int32) (M2 : fw_M), P_Mod_stepsOf_b5 o a _ N _ _ _ = _ ∧ _
      unfold P_Mod_stepsOf_b5
      obtain ⟨M2, e, hst, hf2⟩ := m_step (o := o) hwN ha
      simp only [nI_le2 (show n < 1000000 by omega) (show j < 1000000 by omega), e, bs_e, pl_e, nI_s]
      rw [if_neg (by omega)]
      exact ih (j + 1) f M2 _ (by omega) (by omega) (st_wf hwN hst) ⟨_, hs, hst⟩ (fun b h1 h2 => by rw [hf2 b h1 h2, hfr b h1 h2])
  unfold P_Mod_stepsOf P_Mod_stepsOf_b0
  have hfu := fw_fu_ge
  exact key n 0 fw_fu M 0 (by omega) (by omega) hw rfl (fun _ _ _ => rfl)
theorem m_layThen {o : Nat} (M : fw_M) : ∃ M2, P_Mod_layThen o M = some M2 ∧ (∀ i, i < 39 → M2 (o + 6) i = M (o + 4) i) ∧ ∀ b, b ≠ o + 6 → M2 b = M b := by
  have key : ∀ (r j f : Nat) (N : fw_M), j + r = 39 → r < f → (∀ i, i < j → N (o + 6) i = M (o + 4) i) → (∀ b, b ≠ o + 6 → N b = M b) → ∃ M2, P_Mod_layThen_h2 o f N (nI j) = some M2 ∧ (∀ i, i < 39 → M2 (o + 6) i = M (o + 4) i) ∧ ∀ b, b ≠ o + 6 → M2 b = M b := by
    intro r
    induction r with
    | zero =>
      intro j f N hj hf h1 h2
      obtain ⟨f, rfl⟩ : ∃ g, f = g + 1 := ⟨f - 1, by omega⟩
      show ∃ M2, P_Mod_layThen_b2 o _ N _ = _ ∧ _
      unfold P_Mod_layThen_b2
      simp only [nI_g39 (show j < 1000000 by omega)]
      rw [if_pos (by omega)]
      exact ⟨N, rfl, fun i hi => h1 i (by omega), h2⟩
    | succ r ih =>
      intro j f N hj hf h1 h2
      obtain ⟨f, rfl⟩ : ∃ g, f = g + 1 := ⟨f - 1, by omega⟩
      show ∃ M2, P_Mod_layThen_b2 o _ N _ = _ ∧ _
      unfold P_Mod_layThen_b2
      simp only [nI_g39 (show j < 1000000 by omega), ald_n (show j < 39 by omega) (show 39 ≤ 1000 by omega), ast_n (show j < 39 by omega) (show 39 ≤ 1000 by omega), bs_e, nI_s]
      rw [if_neg (by omega)]
      refine ih (j + 1) f _ (by omega) (by omega) (fun i hi => ?_) (fun b hb => by rw [st_n hb, h2 b hb])
      rw [st_e]
      by_cases hij : i = j
      · subst hij; rw [up_e, h2 _ (by omega)]
      · rw [up_n hij]; exact h1 i (by omega)
  unfold P_Mod_layThen P_Mod_layThen_b0
  have hfu := fw_fu_ge
  exact key 39 0 fw_fu M (by omega) (by omega) (fun i hi => absurd hi (by omega)) (fun _ _ => rfl)
