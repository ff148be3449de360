/-! the class' line (scratch 166: nobodies 167, going 168, gone 2, left 3) -/
theorem l_nobodies {M : fw_M} {nb : Nat → Nat} (h : ∀ p, p < 7 → (M 167 p).toInt.toNat = nb p) {k : Nat} (hk : k < 1000) : P_Line_nobodiesIn 166 M (nI k) = some (nI (nbm nb k)) := by
  have hfu := fw_fu_ge
  have key : ∀ (r j f : Nat), j + r = 7 → r < f → P_Line_nobodiesIn_h4 166 M f (nI k) (nI (mk (fun p => decide (k < nb p)) j)) (nI j) = some (nI (nbm nb k)) := by
    intro r
    induction r with
    | zero =>
      intro j f hj hf
      obtain ⟨f, rfl⟩ : ∃ g, f = g + 1 := ⟨f - 1, by omega⟩
      show P_Line_nobodiesIn_b4 166 M _ _ _ _ = _
      unfold P_Line_nobodiesIn_b4
      rw [if_pos ((nI_g7 (by omega)).mpr (by omega)), show j = 7 by omega]
      rfl
    | succ r ih =>
      intro j f hj hf
      obtain ⟨f, rfl⟩ : ∃ g, f = g + 1 := ⟨f - 1, by omega⟩
      have hi := ih (j + 1) f (by omega) (by omega)
      have e1 := h j (by omega)
      show P_Line_nobodiesIn_b4 166 M _ _ _ _ = _
      unfold P_Line_nobodiesIn_b4 P_Line_nobodiesIn_b26
      rw [if_neg (fun z => by have := (nI_g7 (show j < 1000000 by omega)).mp z; omega), show fw_ald M (166 + 1) 7 (nI j) = some (M 167 j) from ald_n (by omega) (by omega), bs_e, nI_s]
      simp only [Int32.le_iff_toInt_le, tI (show k < 1000000 by omega), show ((M 167 j).toInt ≤ (k : Int)) ↔ nb j ≤ k by omega, pl_e]
      by_cases hc : nb j ≤ k
      · rw [if_pos hc]
        rw [mk_z _ (by simp; omega)] at hi
        exact hi
      · rw [if_neg hc, mk_s _ (by omega) (by simp; omega)]
        exact hi
  exact key 7 0 fw_fu (by omega) (by omega)
theorem rm_n {w p : Nat} (hw : w < 128) (hp : p < 7) : nI w &&& (((1 : Int32) <<< (nI p &&& 31)) ^^^ (-1 : Int32)) = nI (rm w p) := by
  rw [sh_1 p (by omega), sd_n hw]
  congr 1
  refine bx7 (sd_128 _ _) (rm_128 _ _) fun i hi => ?_
  rw [sd_b hi, rm_b hi, Nat.testBit_two_pow]
  by_cases h : i = p
  · simp [h]
  · simp [h, Ne.symm h]
/-- what the line foretells -/
def FT (M : fw_M) (ym nb : Nat → Nat) (w : Nat) : Prop := M 166 2 = nI (lG ym nb w) ∧ M 166 3 = nI (ln ym nb w 7) ∧ ∀ i, i < lG ym nb w → M 168 i = oN (lg ym nb w i)
theorem l_foretell {M : fw_M} {ym nb : Nat → Nat} (hL : LR M 164 ym) (h : ∀ p, p < 7 → (M 167 p).toInt.toNat = nb p) {w : Nat} (hw : w < 128) : ∃ M2, P_Line_foretell 166 164 M (nI w) = some M2 ∧ FT M2 ym nb w ∧ ∀ b, b ≠ 166 → b ≠ 168 → M2 b = M b := by
  have hfu := fw_fu_ge
  have key : ∀ (r k f : Nat) (M : fw_M), k + r = 7 → r < f → LR M 164 ym → (∀ p, p < 7 → (M 167 p).toInt.toNat = nb p) → M 166 3 = nI (ln ym nb w k) → M 166 2 = nI k → k ≤ lG ym nb w → (∀ i, i < k → M 168 i = oN (lg ym nb w i)) → ∃ M2, P_Line_foretell_h12 166 164 f M (nI k) = some M2 ∧ FT M2 ym nb w ∧ ∀ b, b ≠ 166 → b ≠ 168 → M2 b = M b := by
    intro r
    induction r with
    | zero =>
      intro k f M hj hf hL h h3 h2 hk hi
      obtain ⟨f, rfl⟩ : ∃ g, f = g + 1 := ⟨f - 1, by omega⟩
      have hG7 := lG_7 ym nb w
      have hk7 : k = 7 := by omega
      refine ⟨M, ?_, ⟨by rw [h2]; congr 1; omega, by rw [h3, hk7], fun i hi2 => hi i (by omega)⟩, fun b _ _ => rfl⟩
      show P_Line_foretell_b12 166 164 _ M _ = _
      unfold P_Line_foretell_b12
      rw [if_pos ((nI_g7 (by omega)).mpr (by omega))]
    | succ r ih =>
      intro k f M hj hf hL h h3 h2 hk hi
      obtain ⟨f, rfl⟩ : ∃ g, f = g + 1 := ⟨f - 1, by omega⟩
      have q1 : P_Law_first 164 M (nI (ln ym nb w k)) (nI (nbm nb k)) = some (oN (lg ym nb w k)) := p_first hL (ln_128 hw k) (nbm_128 nb k)
      cases hg : lg ym nb w k with
      | none =>
        have hkG : ¬ k < lG ym nb w := fun z => (lG_lt.mp z) hg
        refine ⟨M, ?_, ⟨by rw [h2]; congr 1; omega, ?_, fun i hi2 => hi i (by omega)⟩, fun b _ _ => rfl⟩
        · show P_Line_foretell_b12 166 164 _ M _ = _
          unfold P_Line_foretell_b12
          rw [if_neg (fun z => by have := (nI_g7 (show k < 1000000 by omega)).mp z; omega), l_nobodies h (by omega), bs_e, h3, q1, bs_e, hg, if_pos (show oN none = -1 from rfl)]
        · rw [h3, (lg_stops hg 7 (by omega)).2]
      | some p =>
        obtain ⟨hp7, -⟩ := lg_in hg
        have hkG : k < lG ym nb w := lG_lt.mpr (by rw [hg]; simp)
        obtain ⟨M2, p1, p2, p3⟩ := ih (k + 1) f (fw_set (fw_set (fw_set M 168 k (nI p)) 166 2 (nI (k + 1))) 166 3 (nI (ln ym nb w (k + 1)))) (by omega) (by omega) (fun i hi => by rw [st_n (by omega), st_n (by omega), st_n (by omega)]; exact hL i hi) (fun i hi => by rw [st_n (by omega), st_n (by omega), st_n (by omega)]; exact h i hi) (by rw [st_e, up_e]) (by rw [st_n2 (by omega), st_e, up_e]) (by omega) (fun i hi2 => by
          rw [st_n (by omega), st_n (by omega), st_e]
          by_cases hik : i = k
          · subst hik; rw [up_e, hg]; rfl
          · rw [up_n hik]; exact hi i (by omega))
        refine ⟨M2, ?_, p2, fun b b1 b2 => by rw [p3 b b1 b2, st_n b1, st_n b1, st_n b2]⟩
        show P_Line_foretell_b12 166 164 _ M _ = _
        unfold P_Line_foretell_b12
        have e2 : fw_set M 168 k (nI p) 166 2 = nI k := by rw [st_n (by omega)]; exact h2
        have e3 : fw_set (fw_set M 168 k (nI p)) 166 2 (nI (k + 1)) 166 3 = nI (ln ym nb w k) := by rw [st_n2 (by omega), st_n (by omega)]; exact h3
        have e4 : ln ym nb w (k + 1) = rm (ln ym nb w k) p := by rw [ln_s, hg]
        rw [if_neg (fun z => by have := (nI_g7 (show k < 1000000 by omega)).mp z; omega), l_nobodies h (by omega), bs_e, h3, q1, bs_e, hg, if_neg (show ¬ oN (some p) = -1 from nI_m1 (by omega)), show fw_ast M (166 + 2) 7 (nI k) (oN (some p)) = some (fw_set M 168 k (nI p)) from ast_n (by omega) (by omega), bs_e]
        simp only [pl_e, e2, nI_s, e3]
        rw [show oN (some p) = nI p from rfl, rm_n (ln_128 hw k) hp7, ← e4]
        exact p1
  unfold P_Line_foretell P_Line_foretell_b0
  simp only [pl_e]
  obtain ⟨M2, p1, p2, p3⟩ := key 7 0 fw_fu (fw_set (fw_set M 166 3 (nI w)) 166 2 0) (by omega) (by omega) (fun i hi => by rw [st_n (by omega), st_n (by omega)]; exact hL i hi) (fun i hi => by rw [st_n (by omega), st_n (by omega)]; exact h i hi) (by rw [st_n2 (by omega), st_e, up_e]; rfl) (by rw [st_e, up_e]; rfl) (by omega) (fun i hi => by omega)
  exact ⟨M2, p1, p2, fun b b1 b2 => by rw [p3 b b1 b2, st_n b1, st_n b1]⟩
theorem ln_in {ym nb : Nat → Nat} {w p : Nat} (hp : p < 7) {k : Nat} (h : (ln ym nb w k).testBit p = true) : w.testBit p = true := by
  rw [ln_out hp, Bool.and_eq_true] at h
  exact h.1
theorem ln_c {ym nb nb2 : Nat → Nat} {w : Nat} (h : ∀ p, p < 7 → w.testBit p = true → nb p = nb2 p) : ∀ k, ln ym nb w k = ln ym nb2 w k ∧ lg ym nb w k = lg ym nb2 w k := by
  have key : ∀ k, ln ym nb w k = ln ym nb2 w k → lg ym nb w k = lg ym nb2 w k := by
    intro k e
    unfold lg
    rw [← e]
    refine ff_cong fun i _ hi => okc_c (fun j hj hwj => ?_) (by omega)
    rw [nbm_b hj, nbm_b hj, h j hj (ln_in hj hwj)]
  intro k
  induction k with
  | zero => exact ⟨rfl, key 0 rfl⟩
  | succ k ih =>
    have e : ln ym nb w (k + 1) = ln ym nb2 w (k + 1) := by rw [ln_s, ln_s, ih.1, ih.2]
    exact ⟨e, key _ e⟩
