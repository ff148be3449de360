/-! the foresight's line of a hall -/
theorem FT_c {M : fw_M} {ym nb nb2 : Nat → Nat} {w : Nat} (h : ∀ p, p < 7 → w.testBit p = true → nb p = nb2 p) (hF : FT M ym nb w) : FT M ym nb2 w := by
  obtain ⟨h1, h2, h3⟩ := hF
  have e := ln_c (ym := ym) h
  have eG : lG ym nb w = lG ym nb2 w := by
    have le : ∀ nb nb2 : Nat → Nat, (∀ k, lg ym nb w k = lg ym nb2 w k) → lG ym nb w ≤ lG ym nb2 w := by
      intro nb nb2 q
      by_cases z : lG ym nb w ≤ lG ym nb2 w
      · exact z
      · have a := (lG_lt (ym := ym) (nb := nb) (w := w) (k := lG ym nb2 w)).mp (by omega)
        rw [q] at a
        have := lG_lt.mpr a
        omega
    exact Nat.le_antisymm (le _ _ fun k => (e k).2) (le _ _ fun k => ((e k).2).symm)
  refine ⟨by rw [h1, eG], by rw [h2, (e 7).1], fun i hi => by rw [h3 i (by omega), (e i).2]⟩
theorem lineOf_e {Mc Mr : fw_M} (hR : rl Mc Mr) (h : 0 < gP (Mr 203)) {w : Nat} (hw : ∀ i, w.testBit i = true → i < gP (Mr 203)) : ∃ M2, P_Fore_lineOf 157 4 Mc (nI w) = some M2 ∧ FT M2 (ymk (Mr 203)) (gb (Mr 203)) w ∧ LR M2 164 (ymk (Mr 203)) ∧ rl M2 Mr ∧ ∀ b, (b < 157 ∨ 168 < b) → M2 b = Mc b := by
  obtain ⟨he, hW, -⟩ := hall_E hR h
  have h7 := hW.2.2.1.2.1
  have hw128 : w < 128 := by
    refine (Nat.lt_pow_two_of_testBit (n := 7) w fun i hi => ?_ : w < 2 ^ 7)
    cases hb : w.testBit i with
    | false => rfl
    | true => have := hw i hb; omega
  obtain ⟨M1, q1, q2, q3⟩ := p_law (k := 164) he hW (by omega)
  have he1 : rl_eq M1 4 (Mr 203) := eq_cong he fun k _ _ => q3 k (by omega)
  have r1 : P_Line_readNobodies 166 4 M1 = some (fw_put M1 167 (fun k => if k < 7 then M1 9 k else M1 167 k)) := by
    unfold P_Line_readNobodies P_Line_readNobodies_b0
    rw [cpy7]
    rfl
  obtain ⟨M2, p1, p2, p3⟩ := l_foretell (M := fw_put M1 167 (fun k => if k < 7 then M1 9 k else M1 167 k)) (ym := ymk (Mr 203)) (nb := fun p => (M1 9 p).toInt.toNat) (fun i hi => by rw [pt_n (by omega)]; exact q2 i hi) (fun p hp => by rw [pt_e, if_pos hp]) hw128
  have hnb : ∀ p, p < 7 → w.testBit p = true → (fun p => (M1 9 p).toInt.toNat) p = gb (Mr 203) p := by
    intro p hp hb
    have hpP := hw p hb
    have e := ((he_x he1 hW).2.2.2.2 p hpP).2.2.2.2
    have e9 : M1 9 p = nI (gb (Mr 203) p) := e
    have b9 := ((hW.2.2.2 p hpP).2.2.2.2).1
    show (M1 9 p).toInt.toNat = _
    rw [e9, tI (by omega)]
    rfl
  have hM : ∀ b, (b < 157 ∨ 168 < b) → M2 b = Mc b := fun b hb => by rw [p3 b (by omega) (by omega), pt_n (by omega), q3 b (by omega)]
  refine ⟨M2, ?_, FT_c hnb p2, fun i hi => by rw [p3 _ (by omega) (by omega), pt_n (by omega)]; exact q2 i hi, rl_sc hR hM, hM⟩
  show (P_Law_read 164 4 Mc).bind _ = _
  rw [q1, bs_e]
  show (P_Line_readNobodies 166 4 M1).bind _ = _
  rw [r1, bs_e]
  show (P_Line_foretell 166 164 _ (nI w)).bind _ = _
  rw [p1]
  rfl
theorem l_goingIn {M : fw_M} {ym nb : Nat → Nat} {w : Nat} (hF : FT M ym nb w) (x : Int32) : P_Line_goingIn 166 M x = some (if 0 ≤ x.toInt then oN (lg ym nb w x.toInt.toNat) else -1) := by
  obtain ⟨h1, -, h3⟩ := hF
  have hG := lG_7 ym nb w
  unfold P_Line_goingIn P_Line_goingIn_b0 P_Line_goingIn_b27 P_Line_goingIn_b28
  rw [h1]
  simp only [Int32.le_iff_toInt_le, Int32.lt_iff_toInt_lt, Int32.reduceToInt, tI (show lG ym nb w < 1000000 by omega)]
  by_cases h0 : x.toInt < 0
  · rw [if_pos h0, if_neg (by omega)]
  · rw [if_neg h0, if_pos (show 0 ≤ x.toInt by omega)]
    by_cases hg : (lG ym nb w : Int) ≤ x.toInt
    · rw [if_pos hg]
      have : lg ym nb w x.toInt.toNat = none := by
        cases hl : lg ym nb w x.toInt.toNat with
        | none => rfl
        | some p =>
          have := lG_lt.mpr (show lg ym nb w x.toInt.toNat ≠ none by rw [hl]; simp)
          omega
      rw [this]
      rfl
    · rw [if_neg hg, if_neg (by omega), ald_x (j := x.toInt.toNat) (eq_nI (by omega)) (by omega) (by omega), bs_e, h3 _ (by omega)]
