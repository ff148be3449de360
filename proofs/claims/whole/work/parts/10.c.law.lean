theorem st_id {M : fw_M} {a i : Nat} {v : Int32} (h : M a i = v) : fw_set M a i v = M := by
  funext b j
  unfold fw_set fw_put upd
  by_cases hb : b = a
  · subst hb
    rw [if_pos rfl]
    by_cases hj : j = i
    · subst hj; rw [if_pos rfl, h]
    · rw [if_neg hj]
  · rw [if_neg hb]
theorem nI_sne {a b : Nat} (ha : a < 1000000) (hb : b < 1000000) (h : a ≠ b) : ¬ nI a = nI b := fun z => h ((nI_inj ha hb).mp z)
/-- the inner loop of the law's reading: one person's row -/
theorem p_lawrow {k o : Nat} {g : Nat → Int32} {K : fw_M → Int32 → Option fw_M} (hw : WF g) (hk : ∀ i, i < 6 → o + i ≠ k + 1) {p : Nat} (hp : p < gP g) : ∀ (r j f : Nat) (M : fw_M), rl_eq M o g → j + r = gP g → r < f → M (k + 1) p = nI (mk (fun q => decide (q ≠ p) && yl g p q) j) → P_Law_read_h17 k o K f M (nI p) (nI j) = K (fw_set M (k + 1) p (nI (mk (fun q => decide (q ≠ p) && yl g p q) (gP g)))) (nI (p + 1)) := by
  have h7 := hw.2.2.1.2.1
  intro r
  induction r with
  | zero =>
    intro j f M he hj hf hm
    obtain ⟨f, rfl⟩ : ∃ g, f = g + 1 := ⟨f - 1, by omega⟩
    obtain ⟨-, -, hP, -, -⟩ := he_x he hw
    show P_Law_read_b17 k o K _ M _ _ = _
    unfold P_Law_read_b17 P_Law_read_b65
    simp only [hP, nI_le2 (show gP g < 1000000 by omega) (show p < 1000000 by omega), nI_le2 (show gP g < 1000000 by omega) (show j < 1000000 by omega), nI_s]
    rw [if_neg (by omega), if_pos (by omega)]
    rw [show j = gP g by omega] at hm
    rw [st_id hm]
  | succ r ih =>
    intro j f M he hj hf hm
    obtain ⟨f, rfl⟩ : ∃ g, f = g + 1 := ⟨f - 1, by omega⟩
    obtain ⟨-, -, hP, -, -⟩ := he_x he hw
    show P_Law_read_b17 k o K _ M _ _ = _
    unfold P_Law_read_b17 P_Law_read_b59
    simp only [hP, nI_le2 (show gP g < 1000000 by omega) (show p < 1000000 by omega), nI_le2 (show gP g < 1000000 by omega) (show j < 1000000 by omega), nI_inj (show p < 1000000 by omega) (show j < 1000000 by omega), nI_s, p_yields he hw hp (show j < gP g by omega), bs_e, b1_0, ald_n (show p < 7 by omega) (show 7 ≤ 1000 by omega), ast_n (show p < 7 by omega) (show 7 ≤ 1000 by omega)]
    rw [if_neg (by omega), if_neg (by omega)]
    by_cases hpj : p = j
    · rw [if_pos hpj]
      exact ih (j + 1) f M he (by omega) (by omega) (by rw [mk_z _ (by simp [hpj])]; exact hm)
    · rw [if_neg hpj]
      by_cases hy : yl g p j = true
      · rw [if_neg (fun z => z hy), hm, mk_s _ (by omega) (by simp [hy, Ne.symm hpj])]
        have he2 : rl_eq (fw_set M (k + 1) p (nI (mk (fun q => decide (q ≠ p) && yl g p q) (j + 1)))) o g := eq_cong he (fun i a b => st_n (by have := hk (i - o) (by omega); omega))
        rw [ih (j + 1) f _ he2 (by omega) (by omega) (by rw [st_e, up_e]), st_st]
      · rw [if_pos hy]
        exact ih (j + 1) f M he (by omega) (by omega) (by rw [mk_z _ (by simp [hy])]; exact hm)
theorem p_law {k o : Nat} {M : fw_M} {g : Nat → Int32} (he : rl_eq M o g) (hw : WF g) (hk : ∀ i, i < 6 → o + i ≠ k + 1) : ∃ M2, P_Law_read k o M = some M2 ∧ LR M2 k (ymk g) ∧ ∀ b, b ≠ k + 1 → M2 b = M b := by
  have h7 := hw.2.2.1.2.1
  have key : ∀ (r j f : Nat) (M : fw_M), rl_eq M o g → j + r = 7 → r < f → (∀ p, p < j → M (k + 1) p = nI (ymk g p)) → ∃ M2, P_Law_read_h2 k o f M (nI j) = some M2 ∧ LR M2 k (ymk g) ∧ ∀ b, b ≠ k + 1 → M2 b = M b := by
    intro r
    induction r with
    | zero =>
      intro j f M he hj hf hm
      obtain ⟨f, rfl⟩ : ∃ g, f = g + 1 := ⟨f - 1, by omega⟩
      refine ⟨M, ?_, fun p hp => ⟨hm p (by omega), ymk_128 hw p⟩, fun _ _ => rfl⟩
      show P_Law_read_b2 k o _ M _ = _
      unfold P_Law_read_b2
      simp only [nI_g7 (show j < 1000000 by omega)]
      rw [if_pos (by omega)]
    | succ r ih =>
      intro j f M he hj hf hm
      obtain ⟨f, rfl⟩ : ∃ g, f = g + 1 := ⟨f - 1, by omega⟩
      have he1 : rl_eq (fw_set M (k + 1) j 0) o g := eq_cong he (fun i a b => st_n (by have := hk (i - o) (by omega); omega))
      have hfu := fw_fu_ge
      show ∃ M2, P_Law_read_b2 k o _ M _ = some M2 ∧ _
      unfold P_Law_read_b2
      simp only [nI_g7 (show j < 1000000 by omega), ast_n (show j < 7 by omega) (show 7 ≤ 1000 by omega), bs_e]
      rw [if_neg (by omega)]
      by_cases hp : j < gP g
      · have e : P_Law_read_h17 k o (P_Law_read_h2 k o f) fw_fu (fw_set M (k + 1) j 0) (nI j) 0 = _ := p_lawrow hw hk hp (gP g) 0 fw_fu _ he1 (by omega) (by omega) (by rw [st_e, up_e]; rfl)
        rw [e, st_st]
        obtain ⟨M2, a, b, c⟩ := ih (j + 1) f (fw_set M (k + 1) j (nI (mk (fun q => decide (q ≠ j) && yl g j q) (gP g)))) (eq_cong he (fun i a b => st_n (by have := hk (i - o) (by omega); omega))) (by omega) (by omega) (fun p hp2 => by
          rw [st_e]
          by_cases hpj : p = j
          · subst hpj
            rw [up_e]
            unfold ymk
            rw [if_pos hp]
          · rw [up_n hpj]
            exact hm p (by omega))
        exact ⟨M2, a, b, fun x hx => by rw [c x hx, st_n hx]⟩
      · obtain ⟨f2, hf2⟩ : ∃ g, fw_fu = g + 1 := ⟨fw_fu - 1, by omega⟩
        rw [hf2]
        obtain ⟨M2, a, b, c⟩ := ih (j + 1) f (fw_set M (k + 1) j 0) he1 (by omega) (by omega) (fun p hp2 => by
          rw [st_e]
          by_cases hpj : p = j
          · subst hpj
            rw [up_e]
            unfold ymk
            rw [if_neg hp]
            rfl
          · rw [up_n hpj]
            exact hm p (by omega))
        refine ⟨M2, ?_, b, fun x hx => by rw [c x hx, st_n hx]⟩
        show P_Law_read_b17 k o _ _ _ _ _ = _
        unfold P_Law_read_b17 P_Law_read_b65
        obtain ⟨-, -, hP, -, -⟩ := he_x he1 hw
        simp only [hP, nI_le2 (show gP g < 1000000 by omega) (show j < 1000000 by omega), nI_s]
        rw [if_pos (by omega)]
        exact a
  unfold P_Law_read P_Law_read_b0
  have hfu := fw_fu_ge
  exact key 7 0 fw_fu M he (by omega) (by omega) (fun p hp => absurd hp (by omega))
/-! the reference's row a -/
theorem ix_5 (p c : Nat) : (((4 : Int32) + ((5 : Int32) * nI p)) + nI c) = nI (4 + 5 * p + c) := by
  rw [show (4 : Int32) = nI 4 from rfl, show (5 : Int32) = nI 5 from rfl, pk_mul, nI_add, nI_add]
theorem m_of {a : Nat} {M : fw_M} {p c : Nat} {x : Int32} (hx : x = nI c) (hp : p < 7) (hc : c < 5) : P_Mod_of a M (nI p) x = some (M a (4 + 5 * p + c)) := by
  subst hx
  unfold P_Mod_of P_Mod_of_b0
  rw [ix_5, ald_n (by omega) (by omega), bs_e]
theorem m_of0 {a : Nat} {M : fw_M} (hw : WF (M a)) {p : Nat} (hp : p < gP (M a)) : P_Mod_of a M (nI p) 0 = some (nI (gk (M a) p)) := by
  have h7 := hw.2.2.1.2.1
  rw [m_of (x := 0) (c := 0) rfl (by omega) (by omega), ← (hw.2.2.2 p hp).1.2.2, Nat.add_zero]
theorem m_of1 {a : Nat} {M : fw_M} (hw : WF (M a)) {p : Nat} (hp : p < gP (M a)) : P_Mod_of a M (nI p) 1 = some (nI (gr (M a) p)) := by
  have h7 := hw.2.2.1.2.1
  rw [m_of (x := 1) (c := 1) rfl (by omega) (by omega), ← (hw.2.2.2 p hp).2.1.2, show 4 + 5 * p + 1 = 5 + 5 * p by omega]
theorem m_of2 {a : Nat} {M : fw_M} (hw : WF (M a)) {p : Nat} (hp : p < gP (M a)) : P_Mod_of a M (nI p) 2 = some (nI (gh (M a) p)) := by
  have h7 := hw.2.2.1.2.1
  rw [m_of (x := 2) (c := 2) rfl (by omega) (by omega), ← (hw.2.2.2 p hp).2.2.1.2, show 4 + 5 * p + 2 = 6 + 5 * p by omega]
theorem m_of3 {a : Nat} {M : fw_M} {p : Nat} (hp : p < 7) : P_Mod_of a M (nI p) 3 = some (M a (7 + 5 * p)) := by
  rw [m_of (x := 3) (c := 3) rfl hp (by omega), show 4 + 5 * p + 3 = 7 + 5 * p by omega]
theorem m_of4 {a : Nat} {M : fw_M} (hw : WF (M a)) {p : Nat} (hp : p < gP (M a)) : P_Mod_of a M (nI p) 4 = some (nI (gb (M a) p)) := by
  have h7 := hw.2.2.1.2.1
  rw [m_of (x := 4) (c := 4) rfl (by omega) (by omega), ← (hw.2.2.2 p hp).2.2.2.2.2, show 4 + 5 * p + 4 = 8 + 5 * p by omega]
theorem m_waits {a : Nat} {M : fw_M} {p : Nat} (hp : p < 7) (x : Int32) : P_Mod_waits a M (nI p) x = some (b1 (gd (M a) p = x.toInt)) := by
  unfold P_Mod_waits P_Mod_waits_b0 P_Mod_waits_b15
  rw [m_of3 hp, bs_e]
  simp only [zr_0, zr_1, bs_e, toInt_eq (x := M a (7 + 5 * p))]
  show (if gd (M a) p = x.toInt then _ else _) = _
  by_cases h : gd (M a) p = x.toInt
  · rw [if_pos h, b1_t h]
  · rw [if_neg h, b1_f h]
theorem m_P {a : Nat} {M : fw_M} (hw : WF (M a)) : fw_ald M a 39 (2 : Int32) = some (nI (gP (M a))) := by
  rw [show (2 : Int32) = nI 2 from rfl, ald_n (by omega) (by omega), hw.2.2.1.2.2]
theorem m_yields {a : Nat} {M : fw_M} (hw : WF (M a)) {p q : Nat} (hp : p < gP (M a)) (hq : q < gP (M a)) : P_Mod_yields a M (nI p) (nI q) = some (b1 (yl (M a) p q = true)) := by
  obtain ⟨k1, r1, o1, -, -⟩ := hw.2.2.2 p hp
  obtain ⟨k2, r2, o2, -, -⟩ := hw.2.2.2 q hq
  unfold P_Mod_yields P_Mod_yields_b0 P_Mod_yields_b56 P_Mod_yields_b77 P_Mod_yields_b102 yl
  simp only [m_of0 hw hp, m_of1 hw hp, m_of2 hw hp, m_of1 hw hq, m_of2 hw hq, bs_e, nI_e1 (show gk (M a) p < 1000000 by omega), nI_e2 (show gk (M a) p < 1000000 by omega), nI_e3 (show gk (M a) p < 1000000 by omega), nI_e4 (show gk (M a) p < 1000000 by omega), nI_le2 (show gr (M a) q < 1000000 by omega) (show gr (M a) p < 1000000 by omega), nI_lt2 (show gr (M a) q < 1000000 by omega) (show gr (M a) p < 1000000 by omega), nI_le2 (show gh (M a) q < 1000000 by omega) (show gh (M a) p < 1000000 by omega), zr_0, zr_1]
  by_cases q1 : gk (M a) p = 1
  · rw [if_pos q1, if_pos q1]
    by_cases h : gr (M a) q ≤ gr (M a) p
    · rw [if_pos h, b1_f (by simpa using h)]
    · rw [if_neg h, b1_t (by simpa using h)]
  · rw [if_neg q1, if_neg q1]
    by_cases q2 : gk (M a) p = 2
    · rw [if_pos q2, if_pos q2]
      by_cases h : gr (M a) q < gr (M a) p
      · rw [if_pos h, b1_f (by simpa using h)]
      · rw [if_neg h, b1_t (by simpa using h)]
    · rw [if_neg q2, if_neg q2]
      by_cases q3 : gk (M a) p = 3
      · rw [if_pos q3, if_pos q3, b1_t rfl]
      · rw [if_neg q3, if_neg q3]
        by_cases q4 : gk (M a) p = 4
        · rw [if_pos q4, if_pos q4, b1_f (by simp)]
        · rw [if_neg q4, if_neg q4]
          by_cases h : gh (M a) q ≤ gh (M a) p
          · rw [if_pos h, b1_f (by simpa using h)]
          · rw [if_neg h, b1_t (by simpa using h)]
theorem or_0 (m : Nat) : nI m ||| (0 : Int32) = nI m := by
  rw [show (0 : Int32) = nI 0 from rfl, fa_or, Nat.or_zero]
theorem m_waiting {a : Nat} {M : fw_M} (hw : WF (M a)) (x : Int32) : P_Mod_waiting a M x = some (nI (wm (M a) x.toInt)) := by
  have h7 := hw.2.2.1.2.1
  have key : ∀ (r j f : Nat), j + r = gP (M a) → r < f → P_Mod_waiting_h4 a M f x (nI (mk (fun p => decide (gd (M a) p = x.toInt)) j)) (nI j) = some (nI (wm (M a) x.toInt)) := by
    intro r
    induction r with
    | zero =>
      intro j f hj hf
      obtain ⟨f, rfl⟩ : ∃ g, f = g + 1 := ⟨f - 1, by omega⟩
      show P_Mod_waiting_b4 a M _ _ _ _ = _
      unfold P_Mod_waiting_b4
      simp only [m_P hw, bs_e, nI_le2 (show gP (M a) < 1000000 by omega) (show j < 1000000 by omega)]
      rw [if_pos (by omega), show j = gP (M a) by omega]
      rfl
    | succ r ih =>
      intro j f hj hf
      obtain ⟨f, rfl⟩ : ∃ g, f = g + 1 := ⟨f - 1, by omega⟩
      have h := ih (j + 1) f (by omega) (by omega)
      show P_Mod_waiting_b4 a M _ _ _ _ = _
      unfold P_Mod_waiting_b4 P_Mod_waiting_b28
      simp only [m_P hw, bs_e, nI_le2 (show gP (M a) < 1000000 by omega) (show j < 1000000 by omega), m_waits (show j < 7 by omega), b1_0, pl_e, or_0, nI_s]
      rw [if_neg (by omega)]
      by_cases hc : gd (M a) j = x.toInt
      · rw [if_neg (fun z => z hc), mk_s _ (by omega) (by simp [hc])]
        exact h
      · rw [if_pos hc]
        rw [mk_z _ (by simp [hc])] at h
        exact h
  unfold P_Mod_waiting P_Mod_waiting_b0
  have hfu := fw_fu_ge
  exact key (gP (M a)) 0 fw_fu (by omega) (by omega)
theorem m_nobodies {a : Nat} {M : fw_M} (hw : WF (M a)) : P_Mod_nobodies a M = some (nI (nm (M a))) := by
  have h7 := hw.2.2.1.2.1
  have key : ∀ (r j f : Nat), j + r = gP (M a) → r < f → P_Mod_nobodies_h4 a M f (nI (mk (fun p => decide (0 < gb (M a) p)) j)) (nI j) = some (nI (nm (M a))) := by
    intro r
    induction r with
    | zero =>
      intro j f hj hf
      obtain ⟨f, rfl⟩ : ∃ g, f = g + 1 := ⟨f - 1, by omega⟩
      show P_Mod_nobodies_b4 a M _ _ _ = _
      unfold P_Mod_nobodies_b4
      simp only [m_P hw, bs_e, nI_le2 (show gP (M a) < 1000000 by omega) (show j < 1000000 by omega)]
      rw [if_pos (by omega), show j = gP (M a) by omega]
      rfl
    | succ r ih =>
      intro j f hj hf
      obtain ⟨f, rfl⟩ : ∃ g, f = g + 1 := ⟨f - 1, by omega⟩
      have h := ih (j + 1) f (by omega) (by omega)
      have hb := (hw.2.2.2 j (by omega)).2.2.2.2.1
      show P_Mod_nobodies_b4 a M _ _ _ = _
      unfold P_Mod_nobodies_b4 P_Mod_nobodies_b28
      simp only [m_P hw, bs_e, nI_le2 (show gP (M a) < 1000000 by omega) (show j < 1000000 by omega), m_of4 hw (show j < gP (M a) by omega), nI_z1 (show gb (M a) j < 1000000 by omega), pl_e, or_0, nI_s]
      rw [if_neg (by omega)]
      by_cases hc : gb (M a) j = 0
      · rw [if_pos hc]
        rw [mk_z _ (by simp; omega)] at h
        exact h
      · rw [if_neg hc, mk_s _ (by omega) (by simp; omega)]
        exact h
  unfold P_Mod_nobodies P_Mod_nobodies_b0
  have hfu := fw_fu_ge
  exact key (gP (M a)) 0 fw_fu (by omega) (by omega)
theorem m_yieldsTo {a : Nat} {M : fw_M} (hw : WF (M a)) {p : Nat} (hp : p < gP (M a)) : P_Mod_yieldsTo a M (nI p) = some (nI (yto (M a) p)) := by
  have h7 := hw.2.2.1.2.1
  have key : ∀ (r j f : Nat), j + r = gP (M a) → r < f → P_Mod_yieldsTo_h4 a M f (nI p) (nI (mk (fun q => decide (q ≠ p) && (decide (0 ≤ gd (M a) p) && (decide (gd (M a) q = gd (M a) p) && (decide (gb (M a) q = 0) && yl (M a) p q)))) j)) (nI j) = some (nI (yto (M a) p)) := by
    intro r
    induction r with
    | zero =>
      intro j f hj hf
      obtain ⟨f, rfl⟩ : ∃ g, f = g + 1 := ⟨f - 1, by omega⟩
      show P_Mod_yieldsTo_b4 a M _ _ _ _ = _
      unfold P_Mod_yieldsTo_b4
      simp only [m_P hw, bs_e, nI_le2 (show gP (M a) < 1000000 by omega) (show j < 1000000 by omega)]
      rw [if_pos (by omega), show j = gP (M a) by omega]
      rfl
    | succ r ih =>
      intro j f hj hf
      obtain ⟨f, rfl⟩ : ∃ g, f = g + 1 := ⟨f - 1, by omega⟩
      have h := ih (j + 1) f (by omega) (by omega)
      have hb := (hw.2.2.2 j (by omega)).2.2.2.2.1
      show P_Mod_yieldsTo_b4 a M _ _ _ _ = _
      unfold P_Mod_yieldsTo_b4 P_Mod_yieldsTo_b52 P_Mod_yieldsTo_b53 P_Mod_yieldsTo_b76 P_Mod_yieldsTo_b77
      simp only [m_P hw, bs_e, nI_le2 (show gP (M a) < 1000000 by omega) (show j < 1000000 by omega), m_of3 (show p < 7 by omega), m_waits (show j < 7 by omega), m_of4 hw (show j < gP (M a) by omega), m_yields hw hp (show j < gP (M a) by omega), b1_0, pl_e, or_0, nI_s, nI_inj (show j < 1000000 by omega) (show p < 1000000 by omega), nI_e0 (show gb (M a) j < 1000000 by omega), if_true, if_neg (show ¬ (1 : Int32) = 0 by decide), Int32.lt_iff_toInt_lt, Int32.toInt_zero]
      rw [if_neg (by omega)]
      show (if j = p then _ else if gd (M a) p < 0 then _ else if ¬ gd (M a) j = gd (M a) p then _ else _) = _
      by_cases c1 : j = p
      · rw [if_pos c1]
        rw [mk_z _ (by simp [c1])] at h
        exact h
      · rw [if_neg c1]
        by_cases c2 : gd (M a) p < 0
        · rw [if_pos c2]
          rw [mk_z _ (by simp; omega)] at h
          exact h
        · rw [if_neg c2]
          by_cases c3 : gd (M a) j = gd (M a) p
          · rw [if_neg (fun z => z c3)]
            by_cases c4 : gb (M a) j = 0
            · rw [if_pos c4]
              by_cases c5 : yl (M a) p j = true
              · rw [if_neg (fun z => z c5), mk_s _ (by omega) (by simp [c1, c3, c4, c5]; omega)]
                exact h
              · rw [if_pos c5]
                rw [mk_z _ (by simp [c5])] at h
                exact h
            · rw [if_neg c4]
              rw [mk_z _ (by simp [c4])] at h
              exact h
          · rw [if_pos c3]
            rw [mk_z _ (by simp [c3])] at h
            exact h
  unfold P_Mod_yieldsTo P_Mod_yieldsTo_b0
  have hfu := fw_fu_ge
  exact key (gP (M a)) 0 fw_fu (by omega) (by omega)
theorem yto_128 {g : Nat → Int32} (h : WF g) (p : Nat) : yto g p < 128 := mk_128 h.2.2.1.2.1
theorem m_may {a : Nat} {M : fw_M} (hw : WF (M a)) {p : Nat} (hp : p < gP (M a)) : P_Mod_may a M (nI p) = some (b1 (0 ≤ gd (M a) p ∧ (0 < gb (M a) p ∨ yto (M a) p = 0))) := by
  have h7 := hw.2.2.1.2.1
  have hb := (hw.2.2.2 p hp).2.2.2.2.1
  have hy := yto_128 hw p
  unfold P_Mod_may P_Mod_may_b0 P_Mod_may_b30 P_Mod_may_b26 P_Mod_may_b31
  simp only [m_of3 (show p < 7 by omega), m_of4 hw hp, m_yieldsTo hw hp, bs_e, zr_0, zr_1, Int32.lt_iff_toInt_lt, Int32.toInt_zero, tI (show gb (M a) p < 1000000 by omega), nI_e0 (show yto (M a) p < 1000000 by omega)]
  show (if gd (M a) p < 0 then _ else if (0 : Int) < gb (M a) p then _ else _) = _
  by_cases c1 : gd (M a) p < 0
  · rw [if_pos c1, b1_f (by omega)]
  · rw [if_neg c1]
    by_cases c2 : (0 : Int) < gb (M a) p
    · rw [if_pos c2, b1_t ⟨by omega, Or.inl (by omega)⟩]
    · rw [if_neg c2]
      by_cases c3 : yto (M a) p = 0
      · rw [if_pos c3, b1_t ⟨by omega, Or.inr c3⟩]
      · rw [if_neg c3, b1_f (by omega)]
/-- who goes at a door: both sides' words for it -/
theorem may_okc {g : Nat → Int32} (hw : WF g) {d : Int} (hd : 0 ≤ d) {p : Nat} (hp : p < gP g) : (decide (gd g p = d) && decide (0 ≤ gd g p ∧ (0 < gb g p ∨ yto g p = 0))) = okc (ymk g) (wm g d) (nm g) p := by
  have h7 := hw.2.2.1.2.1
  unfold okc wm nm
  rw [mk_b, mk_b]
  simp only [hp, decide_true, Bool.true_and]
  by_cases c1 : gd g p = d
  · simp only [c1, decide_true, Bool.true_and, hd, true_and]
    by_cases c2 : 0 < gb g p
    · simp [c2]
    · simp only [c2, false_or, decide_false, Bool.false_or]
      refine decide_eq_decide.mpr ?_
      rw [sd_0]
      constructor
      · intro h i hi hb
        rw [mk_b]
        have hz : (yto g p).testBit i = false := by rw [h]; exact Nat.zero_testBit i
        unfold yto at hz
        rw [mk_b] at hz
        rw [Nat.testBit_and] at hb
        unfold ymk at hb
        rw [if_pos hp, mk_b, mk_b] at hb
        simp only [Bool.and_eq_true, decide_eq_true_eq] at hb
        obtain ⟨⟨a1, a2, a3⟩, a4, a5⟩ := hb
        simp only [a1, a2, a3, a5, c1, hd, decide_true, Bool.true_and, Bool.and_true, decide_eq_false_iff_not, ne_eq, not_false_eq_true] at hz
        simp only [a1, decide_true, Bool.true_and, decide_eq_true_eq]
        omega
      · intro h
        refine bx7 (yto_128 hw p) (by omega) fun i hi => ?_
        rw [Nat.zero_testBit]
        unfold yto
        rw [mk_b]
        cases hz : (decide (i < gP g) && (decide (i ≠ p) && (decide (0 ≤ gd g p) && (decide (gd g i = gd g p) && (decide (gb g i = 0) && yl g p i)))))
        · rfl
        · simp only [Bool.and_eq_true, decide_eq_true_eq] at hz
          obtain ⟨a1, a2, a3, a4, a5, a6⟩ := hz
          have h2 := h i hi (by
            rw [Nat.testBit_and]
            unfold ymk
            rw [if_pos hp, mk_b, mk_b]
            simp [a1, a2, a4, a6, c1])
          rw [mk_b] at h2
          simp only [Bool.and_eq_true, decide_eq_true_eq] at h2
          omega
  · simp [c1]
/-- who goes at the door d in a hall: the first of those who may -/
def go (g : Nat → Int32) (d : Int) : Option Nat := ff (okc (ymk g) (wm g d) (nm g)) 7 0
theorem m_goesAt {a : Nat} {M : fw_M} (hw : WF (M a)) {x : Int32} (hx : 0 ≤ x.toInt) : P_Mod_goesAt a M x = some (oM (go (M a) x.toInt)) := by
  have h7 := hw.2.2.1.2.1
  have hgo : go (M a) x.toInt = ff (okc (ymk (M a)) (wm (M a) x.toInt) (nm (M a))) (gP (M a)) 0 := by
    refine ff_less h7 (fun i h1 h2 => ?_)
    unfold okc wm
    rw [mk_b]
    simp [show ¬ i < gP (M a) by omega]
  have key : ∀ (j f : Nat), j ≤ gP (M a) → j < f → P_Mod_goesAt_h9 a M f x (oM (ff (okc (ymk (M a)) (wm (M a) x.toInt) (nm (M a))) (gP (M a) - j) j)) (nI j - 1) = some (oM (go (M a) x.toInt)) := by
    intro j
    induction j with
    | zero =>
      intro f hj hf
      obtain ⟨f, rfl⟩ : ∃ g, f = g + 1 := ⟨f - 1, by omega⟩
      show P_Mod_goesAt_b9 a M _ _ _ _ = _
      unfold P_Mod_goesAt_b9
      rw [if_pos (by decide), hgo]
      rfl
    | succ j ih =>
      intro f hj hf
      obtain ⟨f, rfl⟩ : ∃ g, f = g + 1 := ⟨f - 1, by omega⟩
      have h := ih f (by omega) (by omega)
      show P_Mod_goesAt_b9 a M _ _ _ _ = _
      unfold P_Mod_goesAt_b9 P_Mod_goesAt_b34 P_Mod_goesAt_b35
      simp only [nI_pred, nI_z3 (show j < 1000000 by omega), if_false, m_waits (show j < 7 by omega), m_may hw (show j < gP (M a) by omega), bs_e, b1_0]
      rw [show gP (M a) - j = (gP (M a) - (j + 1)) + 1 by omega] at h
      rw [show nI j + (-1 : Int32) = nI j - 1 by rw [Int32.sub_eq_add_neg]]
      have hc := may_okc hw hx (show j < gP (M a) by omega)
      simp only [ff] at h
      by_cases c1 : gd (M a) j = x.toInt
      · rw [if_neg (fun z => z c1)]
        by_cases c2 : 0 ≤ gd (M a) j ∧ (0 < gb (M a) j ∨ yto (M a) j = 0)
        · rw [if_neg (fun z => z c2)]
          rw [← hc, if_pos (by rw [Bool.and_eq_true, decide_eq_true_eq, decide_eq_true_eq]; exact ⟨c1, c2⟩)] at h
          exact h
        · rw [if_pos c2]
          rw [← hc, if_neg (by rw [Bool.and_eq_true, decide_eq_true_eq, decide_eq_true_eq]; exact fun z => c2 z.2)] at h
          exact h
      · rw [if_pos c1]
        rw [← hc, if_neg (by simp [c1])] at h
        exact h
  unfold P_Mod_goesAt P_Mod_goesAt_b0
  simp only [m_P hw, bs_e, pl_e]
  have hfu := fw_fu_ge
  have h := key (gP (M a)) fw_fu (by omega) (by omega)
  rw [Nat.sub_self] at h
  exact h
