/-! A HALL TAKES ANOTHER'S PLACE; the acts that may be taken back -/
def cw (D c : Nat) (v : Int32) : Prop := match c with
  | 0 => ∃ k, 1 ≤ k ∧ k ≤ 5 ∧ v = nI k
  | 1 => ∃ r, r ≤ 9 ∧ v = nI r
  | 2 => ∃ r, r ≤ 9 ∧ v = nI r
  | 3 => v = -1 ∨ ∃ d, d < D ∧ v = nI d
  | _ => ∃ b, b ≤ 9 ∧ v = nI b
theorem c_5 {c : Nat} (h : c < 5) : c = 0 ∨ c = 1 ∨ c = 2 ∨ c = 3 ∨ c = 4 := by omega
theorem wf_iff {g : Nat → Int32} : rl_wf g ↔ ∃ D Y P S : Nat, (1 ≤ D ∧ D ≤ 4 ∧ 1 ≤ Y ∧ Y ≤ 9 ∧ 1 ≤ P ∧ P ≤ 7 ∧ S ≤ 999) ∧ (g 0 = nI D ∧ g 1 = nI Y ∧ g 2 = nI P ∧ g 3 = nI S) ∧ ∀ p, p < P → ∀ c, c < 5 → cw D c (g (4 + 5 * p + c)) := by
  have e1 : ∀ p, 4 + 5 * p + 1 = 5 + 5 * p := fun p => by omega
  have e2 : ∀ p, 4 + 5 * p + 2 = 6 + 5 * p := fun p => by omega
  have e3 : ∀ p, 4 + 5 * p + 3 = 7 + 5 * p := fun p => by omega
  have e4 : ∀ p, 4 + 5 * p + 4 = 8 + 5 * p := fun p => by omega
  constructor
  · rintro ⟨D, Y, P, S, a1, a2, a3, a4, a5, a6, a7, b0, b1, b2, b3, hp⟩
    refine ⟨D, Y, P, S, ⟨a1, a2, a3, a4, a5, a6, a7⟩, ⟨b0, b1, b2, b3⟩, fun p hpP c hc => ?_⟩
    obtain ⟨q0, q1, q2, q3, q4⟩ := hp p hpP
    rcases c_5 hc with rfl | rfl | rfl | rfl | rfl
    · exact q0
    · rw [e1]; exact q1
    · rw [e2]; exact q2
    · rw [e3]; exact q3
    · rw [e4]; exact q4
  · rintro ⟨D, Y, P, S, ⟨a1, a2, a3, a4, a5, a6, a7⟩, ⟨b0, b1, b2, b3⟩, hp⟩
    refine ⟨D, Y, P, S, a1, a2, a3, a4, a5, a6, a7, b0, b1, b2, b3, fun p hpP => ?_⟩
    have q0 := hp p hpP 0 (by omega)
    have q1 := hp p hpP 1 (by omega)
    have q2 := hp p hpP 2 (by omega)
    have q3 := hp p hpP 3 (by omega)
    have q4 := hp p hpP 4 (by omega)
    rw [e1] at q1
    rw [e2] at q2
    rw [e3] at q3
    rw [e4] at q4
    exact ⟨q0, q1, q2, q3, q4⟩
theorem eq_iff {M : fw_M} {o : Nat} {g : Nat → Int32} : rl_eq M o g ↔ (∀ i, i < 4 → M o i = g i) ∧ ∀ p, p < gP g → ∀ c, c < 5 → M (o + 1 + c) p = g (4 + 5 * p + c) := by
  have e1 : ∀ p, 4 + 5 * p + 1 = 5 + 5 * p := fun p => by omega
  have e2 : ∀ p, 4 + 5 * p + 2 = 6 + 5 * p := fun p => by omega
  have e3 : ∀ p, 4 + 5 * p + 3 = 7 + 5 * p := fun p => by omega
  have e4 : ∀ p, 4 + 5 * p + 4 = 8 + 5 * p := fun p => by omega
  constructor
  · rintro ⟨h1, h2⟩
    refine ⟨h1, fun p hp c hc => ?_⟩
    obtain ⟨q0, q1, q2, q3, q4⟩ := h2 p hp
    rcases c_5 hc with rfl | rfl | rfl | rfl | rfl
    · exact q0
    · rw [e1]; exact q1
    · rw [e2]; exact q2
    · rw [e3]; exact q3
    · rw [e4]; exact q4
  · rintro ⟨h1, h2⟩
    refine ⟨h1, fun p hp => ?_⟩
    have q0 := h2 p hp 0 (by omega)
    have q1 := h2 p hp 1 (by omega)
    have q2 := h2 p hp 2 (by omega)
    have q3 := h2 p hp 3 (by omega)
    have q4 := h2 p hp 4 (by omega)
    rw [e1] at q1
    rw [e2] at q2
    rw [e3] at q3
    rw [e4] at q4
    exact ⟨q0, q1, q2, q3, q4⟩
theorem wf_39 {g g2 : Nat → Int32} (h : ∀ i, i < 39 → g2 i = g i) (hw : rl_wf g) : rl_wf g2 := by
  rw [wf_iff] at hw ⊢
  obtain ⟨D, Y, P, S, a, ⟨b0, b1, b2, b3⟩, c⟩ := hw
  refine ⟨D, Y, P, S, a, ⟨by rw [h 0 (by omega)]; exact b0, by rw [h 1 (by omega)]; exact b1, by rw [h 2 (by omega)]; exact b2, by rw [h 3 (by omega)]; exact b3⟩, fun p hp k hk => ?_⟩
  rw [h _ (by omega)]
  exact c p hp k hk
theorem eq_39 {M M2 : fw_M} {o o2 : Nat} {g g2 : Nat → Int32} (h : ∀ i, i < 39 → g2 i = g i) (hP : gP g ≤ 7) (h0 : ∀ i, i < 4 → M2 o2 i = M o i) (hc : ∀ c, c < 5 → ∀ p, p < 7 → M2 (o2 + 1 + c) p = M (o + 1 + c) p) (he : rl_eq M o g) : rl_eq M2 o2 g2 := by
  rw [eq_iff] at he ⊢
  have eP : gP g2 = gP g := by unfold gP; rw [h 2 (by omega)]
  refine ⟨fun i hi => by rw [h0 i hi, he.1 i hi, h i (by omega)], fun p hp c hc5 => ?_⟩
  rw [eP] at hp
  rw [hc c hc5 p (by omega), he.2 p hp c hc5, h _ (by omega)]
theorem cpy7 (M : fw_M) (a b : Nat) : fw_cpy M a 7 0 b 7 0 7 = some (fw_put M b (fun k => if k < 7 then M a k else M b k)) := by
  unfold fw_cpy
  rw [if_pos (by decide)]
  refine congrArg some (congrArg (fw_put M b) ?_)
  funext k
  show (if 0 ≤ k ∧ k < 0 + 7 then M a (0 + (k - 0)) else M b k) = _
  by_cases h : k < 7
  · rw [if_pos ⟨by omega, by omega⟩, if_pos h, Nat.zero_add, Nat.sub_zero]
  · rw [if_neg (by omega), if_neg h]
theorem p_become {o r : Nat} {M : fw_M} (hd : ∀ i, i < 6 → ∀ j, j < 6 → o + i ≠ r + j) : ∃ M2, P_Hall_become o r M = some M2 ∧ (∀ i, i < 4 → M2 o i = M r i) ∧ (∀ i, 4 ≤ i → M2 o i = M o i) ∧ (∀ c, c < 5 → ∀ k, M2 (o + 1 + c) k = if k < 7 then M (r + 1 + c) k else M (o + 1 + c) k) ∧ ∀ b, (b < o ∨ o + 6 ≤ b) → M2 b = M b := by
  have d0 : ∀ j, j < 6 → r + j ≠ o := fun j hj q => hd 0 (by omega) j hj (by omega)
  unfold P_Hall_become P_Hall_become_b0
  simp only [pl_e, cpy7, bs_e]
  refine ⟨_, rfl, ?_, ?_, ?_, ?_⟩
  · intro i hi
    have r0 : r ≠ o := d0 0 (by omega)
    rw [pt_n (by omega), pt_n (by omega), pt_n (by omega), pt_n (by omega), pt_n (by omega)]
    rcases (show i = 0 ∨ i = 1 ∨ i = 2 ∨ i = 3 by omega) with rfl | rfl | rfl | rfl <;> simp [fw_set, fw_put, upd, r0]
  · intro i hi
    rw [pt_n (by omega), pt_n (by omega), pt_n (by omega), pt_n (by omega), pt_n (by omega), st_n2 (by omega), st_n2 (by omega), st_n2 (by omega), st_n2 (by omega)]
  · intro c hc k
    have d1 := d0 1 (by omega)
    have d2 := d0 2 (by omega)
    have d3 := d0 3 (by omega)
    have d4 := d0 4 (by omega)
    have d5 := d0 5 (by omega)
    have n1 : ∀ j, j < 6 → r + j ≠ o + 1 := fun j hj q => hd 1 (by omega) j hj q.symm
    have n2 : ∀ j, j < 6 → r + j ≠ o + 2 := fun j hj q => hd 2 (by omega) j hj q.symm
    have n3 : ∀ j, j < 6 → r + j ≠ o + 3 := fun j hj q => hd 3 (by omega) j hj q.symm
    have n4 : ∀ j, j < 6 → r + j ≠ o + 4 := fun j hj q => hd 4 (by omega) j hj q.symm
    rcases c_5 hc with rfl | rfl | rfl | rfl | rfl <;> simp [fw_set, fw_put, d1, d2, d3, d4, d5, n1, n2, n3, n4]
  · intro b hb
    rw [pt_n (by omega), pt_n (by omega), pt_n (by omega), pt_n (by omega), pt_n (by omega), st_n (by omega), st_n (by omega), st_n (by omega), st_n (by omega)]
theorem become_eq {o r : Nat} {M : fw_M} {g g2 : Nat → Int32} (hd : ∀ i, i < 6 → ∀ j, j < 6 → o + i ≠ r + j) (he : rl_eq M r g) (hP : gP g ≤ 7) (h : ∀ i, i < 39 → g2 i = g i) : ∃ M2, P_Hall_become o r M = some M2 ∧ rl_eq M2 o g2 ∧ (∀ b, (b < o ∨ o + 6 ≤ b) → M2 b = M b) := by
  obtain ⟨M2, q1, q2, -, q3, q4⟩ := p_become hd
  refine ⟨M2, q1, eq_39 h hP q2 (fun c hc p hp => ?_) he, q4⟩
  rw [q3 c hc p, if_pos hp]
/-- the reference's rows of 39, copied -/
theorem m_keep1 {M0 : fw_M} {n : Nat} (hn : n < 24) : ∀ (r j f : Nat) (M : fw_M), j + r = 39 → r < f → M 199 9 = nI n → M 203 = M0 203 → ∃ M2, P_Mod_keep_h51 199 f M (nI j) = some M2 ∧ (∀ k, M2 206 k = if 39 * n + j ≤ k ∧ k < 39 * n + 39 then M0 203 (k - 39 * n) else M 206 k) ∧ M2 199 9 = nI (n + 1) ∧ (∀ i, i ≠ 9 → M2 199 i = M 199 i) ∧ ∀ b, b ≠ 199 → b ≠ 206 → M2 b = M b := by
  intro r
  induction r with
  | zero =>
    intro j f M hj hf h9 h3
    obtain ⟨f, rfl⟩ : ∃ g, f = g + 1 := ⟨f - 1, by omega⟩
    refine ⟨fw_set M 199 9 (nI (n + 1)), ?_, fun k => ?_, by rw [st_e, up_e], fun i hi => st_n2 hi, fun b b1 b2 => st_n b1⟩
    · show P_Mod_keep_b51 199 _ M _ = _
      unfold P_Mod_keep_b51
      rw [if_pos ((nI_g39 (by omega)).mpr (by omega)), h9, nI_s]
      rfl
    · rw [st_n (by omega), if_neg (by omega)]
  | succ r ih =>
    intro j f M hj hf h9 h3
    obtain ⟨f, rfl⟩ : ∃ g, f = g + 1 := ⟨f - 1, by omega⟩
    have e1 : ((39 : Int32) * nI n) + nI j = nI (39 * n + j) := by
      rw [show (39 : Int32) = nI 39 from rfl, pk_mul, nI_a]
    obtain ⟨M2, q1, q2, q3, q4, q5⟩ := ih (j + 1) f (fw_set M 206 (39 * n + j) (M 203 j)) (by omega) (by omega) (by rw [st_n (by omega)]; exact h9) (by rw [st_n (by omega)]; exact h3)
    refine ⟨M2, ?_, fun k => ?_, q3, fun i hi => by rw [q4 i hi, st_n (by omega)], fun b b1 b2 => by rw [q5 b b1 b2, st_n b2]⟩
    · show P_Mod_keep_b51 199 _ M _ = _
      unfold P_Mod_keep_b51
      rw [if_neg (fun z => by have := (nI_g39 (show j < 1000000 by omega)).mp z; omega), show fw_ald M (199 + 4) 39 (nI j) = some (M 203 j) from ald_n (by omega) (by omega), bs_e, h9, e1, show fw_ast M (199 + 7) 936 (nI (39 * n + j)) (M 203 j) = some (fw_set M 206 (39 * n + j) (M 203 j)) from ast_n (by omega) (by omega), bs_e, nI_s]
      exact q1
    · rw [q2 k]
      by_cases hk : 39 * n + j + 1 ≤ k ∧ k < 39 * n + 39
      · rw [if_pos (by omega), if_pos (by omega)]
      · rw [if_neg (by omega), st_e]
        by_cases hk2 : k = 39 * n + j
        · subst hk2
          rw [up_e, if_pos (by omega), h3]
          congr 1
          omega
        · rw [up_n hk2, if_neg (by omega)]
theorem m_keep0 : ∀ (r j f : Nat) (M : fw_M), j + r = 897 → r < f → M 199 9 = nI 24 → ∃ M2, P_Mod_keep_h11 199 f M (nI j) = P_Mod_keep_b49 199 M2 ∧ (∀ k, M2 206 k = if j ≤ k ∧ k < 897 then M 206 (k + 39) else M 206 k) ∧ M2 199 9 = nI 23 ∧ (∀ i, i ≠ 9 → M2 199 i = M 199 i) ∧ ∀ b, b ≠ 199 → b ≠ 206 → M2 b = M b := by
  intro r
  induction r with
  | zero =>
    intro j f M hj hf h9
    obtain ⟨f, rfl⟩ : ∃ g, f = g + 1 := ⟨f - 1, by omega⟩
    refine ⟨fw_set M 199 9 (nI 23), ?_, fun k => ?_, by rw [st_e, up_e], fun i hi => st_n2 hi, fun b b1 b2 => st_n b1⟩
    · show P_Mod_keep_b11 199 _ M _ = _
      unfold P_Mod_keep_b11
      rw [if_pos (show (897 : Int32) ≤ nI j from (nI_le2 (a := 897) (by omega) (by omega)).mpr (by omega)), h9]
      rfl
    · rw [st_n (by omega), if_neg (by omega)]
  | succ r ih =>
    intro j f M hj hf h9
    obtain ⟨f, rfl⟩ : ∃ g, f = g + 1 := ⟨f - 1, by omega⟩
    obtain ⟨M2, q1, q2, q3, q4, q5⟩ := ih (j + 1) f (fw_set M 206 j (M 206 (j + 39))) (by omega) (by omega) (by rw [st_n (by omega)]; exact h9)
    refine ⟨M2, ?_, fun k => ?_, q3, fun i hi => by rw [q4 i hi, st_n (by omega)], fun b b1 b2 => by rw [q5 b b1 b2, st_n b2]⟩
    · show P_Mod_keep_b11 199 _ M _ = _
      unfold P_Mod_keep_b11
      rw [if_neg (fun z => by have := (nI_le2 (a := 897) (b := j) (by omega) (by omega)).mp z; omega), show nI j + (39 : Int32) = nI (j + 39) from nI_a j 39, show fw_ald M (199 + 7) 936 (nI (j + 39)) = some (M 206 (j + 39)) from ald_n (by omega) (by omega), bs_e, show fw_ast M (199 + 7) 936 (nI j) (M 206 (j + 39)) = some (fw_set M 206 j (M 206 (j + 39))) from ast_n (by omega) (by omega), bs_e, nI_s]
      exact q1
    · rw [q2 k]
      by_cases hk : j + 1 ≤ k ∧ k < 897
      · rw [if_pos hk, if_pos (by omega), st_e, up_n (by omega)]
      · rw [if_neg hk, st_e]
        by_cases hk2 : k = j
        · subst hk2
          rw [up_e, if_pos (by omega)]
        · rw [up_n hk2, if_neg (by omega)]
theorem m_keep {M : fw_M} {a : Nat} (ha : a ≤ 24) (h9 : M 199 9 = nI a) : ∃ M2, P_Mod_keep 199 M = some M2 ∧ M2 199 9 = nI (min (a + 1) 24) ∧ (∀ j, j < min (a + 1) 24 → ∀ i, i < 39 → M2 206 (39 * j + i) = if j + 1 = min (a + 1) 24 then M 203 i else M 206 (39 * (if a = 24 then j + 1 else j) + i)) ∧ (∀ i, i ≠ 9 → M2 199 i = M 199 i) ∧ ∀ b, b ≠ 199 → b ≠ 206 → M2 b = M b := by
  have hfu := fw_fu_ge
  unfold P_Mod_keep P_Mod_keep_b0
  rw [h9]
  by_cases h : a = 24
  · subst h
    obtain ⟨M1, p1, p2, p3, p4, p5⟩ := m_keep0 897 0 fw_fu M (by omega) (by omega) h9
    obtain ⟨M2, q1, q2, q3, q4, q5⟩ := m_keep1 (M0 := M1) (n := 23) (by omega) 39 0 fw_fu M1 (by omega) (by omega) p3 rfl
    refine ⟨M2, ?_, q3, fun j hj i hi => ?_, fun i hi => by rw [q4 i hi, p4 i hi], fun b b1 b2 => by rw [q5 b b1 b2, p5 b b1 b2]⟩
    · rw [if_pos (show nI 24 = 24 from rfl)]
      exact p1.trans q1
    · rw [q2, if_pos rfl]
      by_cases hj2 : j = 23
      · subst hj2
        rw [if_pos (by omega), if_pos (by omega), p5 203 (by omega) (by omega)]
        exact congrArg (M 203) (by omega)
      · rw [if_neg (by omega), if_neg (by omega), p2, if_pos (by omega)]
        exact congrArg (M 206) (by omega)
  · rw [if_neg (show ¬ nI a = 24 from fun z => h ((nI_inj (b := 24) (by omega) (by omega)).mp z))]
    obtain ⟨M2, q1, q2, q3, q4, q5⟩ := m_keep1 (M0 := M) (n := a) (by omega) 39 0 fw_fu M (by omega) (by omega) h9 rfl
    refine ⟨M2, q1, by rw [Nat.min_eq_left (by omega)]; exact q3, fun j hj i hi => ?_, q4, q5⟩
    rw [q2, if_neg h]
    by_cases hj2 : j = a
    · subst hj2
      rw [if_pos (by omega), if_pos (by omega)]
      congr 1
      omega
    · rw [if_neg (by omega), if_neg (by omega)]
theorem rem24 : ∀ t, t < 24 → fw_remP (nI t + 1) 24 = some (nI ((t + 1) % 24)) ∧ fw_remP (nI t + 24 - 1) 24 = some (nI ((t + 23) % 24)) := by decide
theorem keep_e {Mc Mr : fw_M} (hR : rl Mc Mr) (h : 0 < gP (Mr 203)) : ∃ M2 M3, P_Acts_keep 10 4 Mc = some M2 ∧ P_Mod_keep 199 Mr = some M3 ∧ rl M2 M3 ∧ M3 203 = Mr 203 ∧ (∀ i, i ≠ 9 → M3 199 i = Mr 199 i) ∧ ∀ b, b ≠ 10 → (b < 12 ∨ 156 ≤ b) → M2 b = Mc b := by
  obtain ⟨he, hW, hs1, hs2⟩ := hall_E hR h
  have hwf : rl_wf (Mr 203) := wf_to hW hs1 hs2
  have hP7 := hW.2.2.1.2.1
  obtain ⟨a1, a2, a3, a4, a5, ⟨a, t, ha, ht, e1, e2, e3, e4⟩, a7, a8⟩ := hR
  obtain ⟨M2, q1, q2, q3, q4, q5⟩ := p_become (o := 12 + 6 * t) (r := 4) (M := Mc) (by omega)
  obtain ⟨M3, r1, r2, r3, r4, r5⟩ := m_keep ha e2
  have hM10 : M2 10 = Mc 10 := q5 10 (by omega)
  have hN : ∀ v w b, b ≠ 10 → fw_set (fw_set M2 10 1 v) 10 2 w b = M2 b := fun v w b hb => by rw [st_n hb, st_n hb]
  have hN2 : ∀ v w b, b ≠ 10 → (b < 12 + 6 * t ∨ 12 + 6 * t + 6 ≤ b) → fw_set (fw_set M2 10 1 v) 10 2 w b = Mc b := fun v w b hb hb2 => by rw [hN v w b hb, q5 b hb2]
  refine ⟨fw_set (fw_set M2 10 1 (nI ((t + 1) % 24))) 10 2 (nI (min (a + 1) 24)), M3, ?_, r1, ?_, r5 203 (by omega) (by omega), r4, fun b b1 b2 => hN2 _ _ b b1 (by omega)⟩
  · unfold P_Acts_keep P_Acts_keep_b0
    rw [e3, aix_n ht (by omega), bs_e, show 10 + 2 + 6 * t = 12 + 6 * t by omega, q1, bs_e, hM10, e3, (rem24 t ht).1, bs_e]
    simp only [pl_e]
    have e5 : fw_set M2 10 1 (nI ((t + 1) % 24)) 10 2 = nI a := by rw [st_n2 (by omega), hM10]; exact e1
    rw [e5, nI_s]
    refine congrArg some (congrArg (fw_set _ 10 2) ?_)
    by_cases hc : a + 1 < 24
    · rw [if_pos (show nI (a + 1) < 24 from (nI_lt2 (b := 24) (by omega) (by omega)).mpr hc), Nat.min_eq_left (by omega)]
    · rw [if_neg (show ¬ nI (a + 1) < 24 from fun z => hc ((nI_lt2 (a := a + 1) (b := 24) (by omega) (by omega)).mp z)), Nat.min_eq_right (by omega)]
      rfl
  · refine ⟨by rw [hN2 _ _ 0 (by omega) (by omega), r4 1 (by omega)]; exact a1, by rw [hN2 _ _ 0 (by omega) (by omega), r4 18 (by omega)]; exact a2, ?_, ?_, ?_, ?_, ?_, ?_⟩
    · exact fr_rows a3 (fun k _ _ => hN2 _ _ k (by omega) (by omega)) (r5 _ (by omega) (by omega)) (r5 _ (by omega) (by omega)) (r5 _ (by omega) (by omega))
    · exact fr_tape a4 (by rw [hN2 _ _ 2 (by omega) (by omega)]) (hN2 _ _ 3 (by omega) (by omega)) (r4 11 (by omega)) (r5 _ (by omega) (by omega))
    · exact fr_hall a5 (fun k _ _ => hN2 _ _ k (by omega) (by omega)) (r5 _ (by omega) (by omega))
    · refine ⟨min (a + 1) 24, (t + 1) % 24, by omega, by omega, by rw [st_e, up_e], r2, by rw [st_n2 (by omega), st_e, up_e], fun j hj => ?_⟩
      by_cases hj2 : j + 1 = min (a + 1) 24
      · have hs : ((t + 1) % 24 + 24 - min (a + 1) 24 + j) % 24 = t := by omega
        have hg : ∀ i, i < 39 → (fun i => M3 206 (39 * j + i)) i = Mr 203 i := fun i hi => by
          show M3 206 (39 * j + i) = _
          rw [r3 j hj i hi, if_pos hj2]
        rw [hs]
        refine ⟨eq_39 hg hP7 (fun i hi => by rw [hN _ _ _ (by omega)]; exact q2 i hi) (fun c hc p hp => ?_) he, wf_39 hg hwf⟩
        rw [hN _ _ _ (by omega), q4 c hc p, if_pos hp]
      · obtain ⟨s, hs1, hs2⟩ : ∃ s, s = (if a = 24 then j + 1 else j) ∧ s < a := by
          by_cases h24 : a = 24
          · exact ⟨j + 1, by rw [if_pos h24], by omega⟩
          · exact ⟨j, by rw [if_neg h24], by omega⟩
        have hg : ∀ i, i < 39 → (fun i => M3 206 (39 * j + i)) i = (fun i => Mr 206 (39 * s + i)) i := fun i hi => by
          show M3 206 (39 * j + i) = Mr 206 (39 * s + i)
          rw [r3 j hj i hi, if_neg hj2, ← hs1]
        have hsl : ((t + 1) % 24 + 24 - min (a + 1) 24 + j) % 24 = (t + 24 - a + s) % 24 := by
          by_cases h24 : a = 24
          · rw [if_pos h24] at hs1; omega
          · rw [if_neg h24] at hs1; omega
        have hst : (t + 24 - a + s) % 24 ≠ t := by
          by_cases h24 : a = 24
          · rw [if_pos h24] at hs1; omega
          · rw [if_neg h24] at hs1; omega
        have hs24 : (t + 24 - a + s) % 24 < 24 := by omega
        obtain ⟨f1, f2⟩ := e4 s hs2
        rw [hsl]
        have hPs : gP (fun i => Mr 206 (39 * s + i)) ≤ 7 := (wf_of f2).1.2.2.1.2.1
        refine ⟨eq_39 hg hPs (fun i hi => by rw [hN2 _ _ _ (by omega) (by omega)]) (fun c hc p hp => by rw [hN2 _ _ _ (by omega) (by omega)]) f1, wf_39 hg f2⟩
    · exact fr_imgs a7 (fun k _ _ => hN2 _ _ k (by omega) (by omega)) (r5 _ (by omega) (by omega)) (r5 _ (by omega) (by omega))
    · exact fr_trace a8 (by rw [hN2 _ _ 169 (by omega) (by omega)]) (hN2 _ _ 170 (by omega) (by omega)) (r4 23 (by omega)) (r5 _ (by omega) (by omega))
