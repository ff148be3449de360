theorem p_holds {o L : Nat} {M : fw_M} (hL : M o 2 = nI L) (hl : L ≤ 40) (x n : Int32) : P_Row_holds o M x n = some (b1 (0 ≤ x.toInt ∧ 0 ≤ n.toInt ∧ x.toInt + n.toInt ≤ L)) := by
  unfold P_Row_holds P_Row_holds_b0 P_Row_holds_b22 P_Row_holds_b23
  rw [hL]
  have hx := x.toInt_lt
  have hs : 0 ≤ x.toInt → (nI L - x).toInt = (L : Int) - x.toInt := by
    intro h
    rw [Int32.toInt_sub, tI (by omega)]
    exact Int.bmod_eq_of_le (by omega) (by omega)
  simp only [Int32.lt_iff_toInt_lt, Int32.reduceToInt, zr_0, zr_1, bs_e]
  by_cases h1 : x.toInt < 0
  · rw [if_pos h1, b1_f (by omega)]
  · rw [if_neg h1]
    by_cases h2 : n.toInt < 0
    · rw [if_pos h2, b1_f (by omega)]
    · rw [if_neg h2, hs (by omega)]
      by_cases h3 : (L : Int) - x.toInt < n.toInt
      · rw [if_pos h3, b1_f (by omega)]
      · rw [if_neg h3, b1_t (by omega)]
def nr (l : Nat) (v : Int32) : Int32 := if l = 0 then Int8.toInt32 (Int32.toInt8 v) else if l = 1 then Int16.toInt32 (Int32.toInt16 v) else v
theorem p_put {o l j : Nat} {M : fw_M} (hl : M o 1 = nI l) (hl2 : l ≤ 2) (hj : j < 40) (v : Int32) : P_Row_put o M (nI j) v = some (nr l v, fw_set M (o + 1) j (nr l v)) := by
  unfold P_Row_put P_Row_put_b0 P_Row_put_b31
  rw [hl]
  have e : ∀ w : Int32, (fw_ast M (o + 1) 40 (nI j) w).bind (fun M1 => (fw_ald M1 (o + 1) 40 (nI j)).bind fun v2 => some (v2, M1)) = some (w, fw_set M (o + 1) j w) := by
    intro w
    rw [ast_n hj (by omega), bs_e, ald_n hj (by omega), bs_e, st_e, up_e]
  simp only [e, show (0 : Int32) = nI 0 from rfl, show (1 : Int32) = nI 1 from rfl, nI_inj (show l < 1000000 by omega) (show 0 < 1000000 by omega), nI_inj (show l < 1000000 by omega) (show 1 < 1000000 by omega)]
  unfold nr
  by_cases h0 : l = 0
  · rw [if_pos h0, if_pos h0]
  · rw [if_neg h0, if_neg h0]
    by_cases h1 : l = 1
    · rw [if_pos h1, if_pos h1]
    · rw [if_neg h1, if_neg h1]
theorem rl_items {Mc Mr : fw_M} (hR : rl Mc Mr) {b : Nat} (hb : b < 8) {f g : Nat → Int32} (hf : ∀ k, k < 40 → f k = g (40 * b + k)) (hg : ∀ i k, i < 8 → i ≠ b → k < 40 → g (40 * i + k) = Mr 202 (40 * i + k)) : rl (fw_put Mc (171 + 2 * b + 1) f) (fw_put Mr 202 g) := by
  obtain ⟨s1, s2, s3, s4, s5, s6, s7, s8⟩ := hR
  have hc : ∀ k, k ≠ 171 + 2 * b + 1 → fw_put Mc (171 + 2 * b + 1) f k = Mc k := fun k h => pt_n h
  have hr : ∀ k, k ≠ 202 → fw_put Mr 202 g k = Mr k := fun k h => pt_n h
  refine ⟨by rw [hc 0 (by omega), hr 199 (by omega)]; exact s1, by rw [hc 0 (by omega), hr 199 (by omega)]; exact s2, fun i hi => ?_, fr_tape s4 (by rw [hc 2 (by omega)]) (hc 3 (by omega)) (by rw [hr 199 (by omega)]) (hr 207 (by omega)), fr_hall s5 (fun k a c => hc k (by omega)) (hr 203 (by omega)), fr_acts s6 (fun k a c => hc k (by omega)) (by rw [hr 199 (by omega)]) (hr 206 (by omega)), fr_imgs s7 (fun k a c => hc k (by omega)) (hr 209 (by omega)) (hr 210 (by omega)), fr_trace s8 (by rw [hc 169 (by omega)]) (hc 170 (by omega)) (by rw [hr 199 (by omega)]) (hr 211 (by omega))⟩
  have h := s3 i hi
  unfold rl_row at h ⊢
  rw [hc (171 + 2 * i) (by omega), hr 200 (by omega), hr 201 (by omega), pt_e]
  rcases h with z | ⟨n2, l2, z1, z2, z3, z4, z5, z6, z7⟩
  · exact Or.inl z
  · refine Or.inr ⟨n2, l2, z1, z2, z3, z4, z5, z6, fun j hj => ?_⟩
    by_cases hib : i = b
    · subst hib
      rw [pt_e]
      exact hf j hj
    · rw [hc _ (by omega), hg i j hi hib hj]
      exact z7 j hj
/-- a row that is there, or missing, on both sides -/
theorem row_c {Mc Mr : fw_M} (hR : rl Mc Mr) {i : Nat} (hi : i < 8) : (Mc (171 + 2 * i) 2 = -1 ∧ Mr 200 i = -1) ∨ ∃ n l : Nat, n ≤ 40 ∧ l ≤ 2 ∧ Mc (171 + 2 * i) 2 = nI n ∧ Mr 201 i = nI n ∧ Mc (171 + 2 * i) 1 = nI l ∧ Mr 200 i = nI l ∧ ∀ j, j < 40 → Mc (171 + 2 * i + 1) j = Mr 202 (40 * i + j) := hR.2.2.1 i hi
theorem nI_m1 {n : Nat} (h : n < 1000000) : ¬ nI n = -1 := by
  rw [← Int32.toInt_inj, tI h, show (-1 : Int32).toInt = -1 from rfl]
  omega
theorem nI_nn {n : Nat} (h : n < 1000000) : (0 : Int32) ≤ nI n := by
  rw [Int32.le_iff_toInt_le, tI h, Int32.toInt_zero]
  omega
theorem rl_st0 {Mc Mr : fw_M} (hR : rl Mc Mr) (v : Int32) : rl (fw_set Mc 0 8 v) (fw_set (fw_set (fw_set Mr 199 0 0) 199 1 0) 199 1 v) := by
  rw [st_st]
  exact rl_status (rl_thrown hR 0) v
theorem ow_set {Mc Mr : fw_M} (hR : rl Mc Mr) (a0 : Int32) (a1 : Int32) (a2 : Int32) : ∃ (r : Int32) (Mc2 Mr2 : fw_M), P_Door_set 0 Mc a0 a1 a2 = some (r, Mc2) ∧ P_Mod_set 199 Mr a0 a1 a2 = some (r, Mr2) ∧ rl Mc2 Mr2 := by
  unfold P_Door_set P_Door_set_b0 P_Mod_set P_Mod_set_b0 P_Mod_set_b99
  simp only [pl_e, p_isRow, m_isRow, bs_e, b1_0, p_found, m_finding, p_fine, p_isMissing]
  by_cases h0 : 0 ≤ a0.toInt ∧ a0.toInt ≤ 7
  · obtain ⟨i, hi, rfl⟩ : ∃ i : Nat, i < 8 ∧ a0 = nI i := ⟨a0.toInt.toNat, by omega, eq_nI (by omega)⟩
    simp only [h0, and_self, not_true, if_false, aix_n hi (show 8 ≤ 1000 by omega), ald_n hi (show 8 ≤ 1000 by omega), bs_e]
    rw [st_n (show 199 + 1 ≠ 199 by omega), st_n (show 199 + 1 ≠ 199 by omega), st_n (show 199 + 2 ≠ 199 by omega), st_n (show 199 + 2 ≠ 199 by omega)]
    simp only [Nat.zero_add, Nat.reduceAdd]
    rcases row_c hR hi with ⟨z1, z2⟩ | ⟨n, l, hn, hl, z1, z2, z3, z4, z5⟩
    · rw [z1, z2]
      rw [if_neg (by simp), if_neg (by decide)]
      exact ⟨_, _, _, rfl, rfl, rl_st0 hR 1⟩
    · rw [z1, z2, z4, if_pos (nI_m1 (by omega)), if_pos (nI_nn (by omega)), p_holds z1 hn]
      simp only [p_in, Int32.toInt_toInt64, Int64.reduceToInt, nI_p (show n < 1000000 by omega), bs_e, b1_0, Int32.reduceToInt]
      by_cases h1 : 0 ≤ a1.toInt ∧ a1.toInt < n
      · obtain ⟨j, hj, rfl⟩ : ∃ j : Nat, j < n ∧ a1 = nI j := ⟨a1.toInt.toNat, by omega, eq_nI (by omega)⟩
        rw [if_neg (by omega), if_neg (by omega), p_put z3 hl (by omega)]
        simp only [bs_e, show (0 : Int32) = nI 0 from rfl, show (1 : Int32) = nI 1 from rfl, nI_inj (show l < 1000000 by omega) (show 0 < 1000000 by omega), nI_inj (show l < 1000000 by omega) (show 1 < 1000000 by omega), show (40 : Int32) = nI 40 from rfl, pk_mul, nI_add]
        have e : ∀ (M : fw_M) (w : Int32), (fw_ast M 202 320 (nI (40 * i + j)) w).bind (fun M1 => (fw_ald M1 202 320 (nI (40 * i + j))).bind fun v2 => some (v2, M1)) = some (w, fw_set M 202 (40 * i + j) w) := by
          intro M w
          rw [ast_n (by omega) (by omega), bs_e, ald_n (by omega) (by omega), bs_e, st_e, up_e]
        simp only [e]
        have hnr : (if l = 0 then some (Int8.toInt32 (Int32.toInt8 a2), fw_set (fw_set (fw_set Mr 199 0 (nI 0)) 199 1 (nI 0)) 202 (40 * i + j) (Int8.toInt32 (Int32.toInt8 a2))) else if l = 1 then some (Int16.toInt32 (Int32.toInt16 a2), fw_set (fw_set (fw_set Mr 199 0 (nI 0)) 199 1 (nI 0)) 202 (40 * i + j) (Int16.toInt32 (Int32.toInt16 a2))) else some (a2, fw_set (fw_set (fw_set Mr 199 0 (nI 0)) 199 1 (nI 0)) 202 (40 * i + j) a2)) = some (nr l a2, fw_set (fw_set (fw_set Mr 199 0 (nI 0)) 199 1 (nI 0)) 202 (40 * i + j) (nr l a2)) := by
          unfold nr
          by_cases q0 : l = 0
          · rw [if_pos q0, if_pos q0]
          · rw [if_neg q0, if_neg q0]
            by_cases q1 : l = 1
            · rw [if_pos q1, if_pos q1]
            · rw [if_neg q1, if_neg q1]
        rw [hnr]
        refine ⟨_, _, _, rfl, rfl, ?_⟩
        rw [st_c (by omega)]
        refine rl_items (rl_status (rl_thrown hR 0) 0) hi (fun k hk => ?_) (fun i2 k hi2 hne hk => ?_)
        · by_cases hkj : k = j
          · subst hkj
            rw [up_e, up_e]
          · rw [up_n hkj, up_n (by omega), st_n (by omega), st_n (by omega), st_n (by omega)]
            exact z5 k hk
        · rw [up_n (by omega), st_n (by omega), st_n (by omega), st_n (by omega), st_n (by omega)]
      · rw [if_pos (by omega), if_pos (by omega)]
        exact ⟨_, _, _, rfl, rfl, rl_st0 hR 2⟩
  · simp only [h0, not_false_iff, if_true]
    exact ⟨_, _, _, rfl, rfl, rl_thrown hR 0⟩
theorem rl_gone {Mc Mr Mc2 Mr2 : fw_M} (hR : rl Mc Mr) {i : Nat} (hi : i < 8) (c2 : Mc2 (171 + 2 * i) 2 = -1) (c4 : ∀ k, k ≠ 171 + 2 * i → Mc2 k = Mc k) (r1 : Mr2 200 = upd (Mr 200) i (-1)) (r5 : ∀ k, k ≠ 200 → Mr2 k = Mr k) : rl Mc2 Mr2 := by
  obtain ⟨s1, s2, s3, s4, s5, s6, s7, s8⟩ := hR
  refine ⟨by rw [c4 0 (by omega), r5 199 (by omega)]; exact s1, by rw [c4 0 (by omega), r5 199 (by omega)]; exact s2, fun i2 hi2 => ?_, fr_tape s4 (by rw [c4 2 (by omega)]) (c4 3 (by omega)) (by rw [r5 199 (by omega)]) (r5 207 (by omega)), fr_hall s5 (fun k a b => c4 k (by omega)) (r5 203 (by omega)), fr_acts s6 (fun k a b => c4 k (by omega)) (by rw [r5 199 (by omega)]) (r5 206 (by omega)), fr_imgs s7 (fun k a b => c4 k (by omega)) (r5 209 (by omega)) (r5 210 (by omega)), fr_trace s8 (by rw [c4 169 (by omega)]) (c4 170 (by omega)) (by rw [r5 199 (by omega)]) (r5 211 (by omega))⟩
  by_cases hii : i2 = i
  · subst hii
    exact Or.inl ⟨c2, by rw [r1, up_e]⟩
  · have h := s3 i2 hi2
    unfold rl_row at h ⊢
    rw [c4 _ (by omega), c4 (171 + 2 * i2 + 1) (by omega), r1, r5 201 (by omega), r5 202 (by omega), up_n hii]
    exact h
theorem ow_drop {Mc Mr : fw_M} (hR : rl Mc Mr) (a0 : Int32) : ∃ (r : Int32) (Mc2 Mr2 : fw_M), P_Door_drop 0 Mc a0 = some (r, Mc2) ∧ P_Mod_drop 199 Mr a0 = some (r, Mr2) ∧ rl Mc2 Mr2 := by
  unfold P_Door_drop P_Door_drop_b0 P_Mod_drop P_Mod_drop_b0 P_Row_clear P_Row_clear_b0
  simp only [pl_e, p_isRow, m_isRow, bs_e, b1_0, p_found, m_finding, p_fine, p_isMissing]
  by_cases h0 : 0 ≤ a0.toInt ∧ a0.toInt ≤ 7
  · obtain ⟨i, hi, rfl⟩ : ∃ i : Nat, i < 8 ∧ a0 = nI i := ⟨a0.toInt.toNat, by omega, eq_nI (by omega)⟩
    simp only [h0, and_self, not_true, if_false, aix_n hi (show 8 ≤ 1000 by omega), ald_n hi (show 8 ≤ 1000 by omega), ast_n hi (show 8 ≤ 1000 by omega), bs_e]
    rw [st_n (show 199 + 1 ≠ 199 by omega), st_n (show 199 + 1 ≠ 199 by omega), st_n (show 199 + 2 ≠ 199 + 1 by omega), st_n (show 199 + 2 ≠ 199 by omega), st_n (show 199 + 2 ≠ 199 by omega)]
    simp only [Nat.zero_add, Nat.reduceAdd]
    rcases row_c hR hi with ⟨z1, z2⟩ | ⟨n, l, hn, hl, z1, z2, z3, z4, z5⟩
    · rw [z1, z2]
      rw [if_neg (by simp), if_neg (by decide)]
      exact ⟨_, _, _, rfl, rfl, rl_st0 hR 1⟩
    · rw [z1, z2, z4, if_pos (nI_m1 (by omega)), if_pos (nI_nn (by omega))]
      refine ⟨_, _, _, rfl, rfl, ?_⟩
      refine rl_gone (rl_status (rl_thrown hR 0) 0) hi ?_ (fun k h1 => ?_) ?_ (fun k h1 => ?_)
      · rw [st_n (by omega), st_e, up_e]
      · by_cases hk : k = 0
        · subst hk
          rw [st_e, st_n (by omega), st_e]
        · rw [st_n hk, st_n h1, st_n hk]
      · rw [st_e]
      · rw [st_n h1]
  · simp only [h0, not_false_iff, if_true]
    exact ⟨_, _, _, rfl, rfl, rl_thrown hR 0⟩
theorem ow_feed {Mc Mr : fw_M} (hR : rl Mc Mr) (a0 : Int32) : ∃ (r : Int32) (Mc2 Mr2 : fw_M), P_Door_feed 0 Mc a0 = some (r, Mc2) ∧ P_Mod_feed 199 Mr a0 = some (r, Mr2) ∧ rl Mc2 Mr2 := by
  unfold P_Door_feed P_Door_feed_b0 P_Door_feed_b37 P_Mod_feed P_Mod_feed_b0 P_Tape_add P_Tape_add_b0
  simp only [pl_e, bs_e, b1_0, p_within, p_in, Int32.toInt_toInt64, Int32.reduceToInt, Int64.reduceToInt]
  have hT := rl_thrown hR 0
  obtain ⟨n, hn, e1, e2, e3⟩ := hR.2.2.2.1
  by_cases h0 : 0 ≤ a0.toInt ∧ a0.toInt ≤ 255
  · simp only [h0, and_self, not_true, if_false]
    obtain ⟨b, hb, rfl⟩ : ∃ b : Nat, b < 256 ∧ a0 = nI b := ⟨a0.toInt.toNat, by omega, eq_nI (by omega)⟩
    have er : fw_set Mr 199 0 0 199 11 = nI n := by rw [st_n2 (by omega)]; exact e2
    rw [er, show (0 + 2) = 2 from rfl, e1]
    simp only [Int32.lt_iff_toInt_lt, tI (show n < 1000000 by omega), Int32.reduceToInt, show (100 : Int32) = nI 100 from rfl, nI_inj (show n < 1000000 by omega) (show 100 < 1000000 by omega), tI (show 100 < 1000000 by omega)]
    by_cases h1 : n < 100
    · rw [if_pos (by omega), if_neg (by omega), ast_n h1 (by omega), ast_n h1 (by omega)]
      simp only [bs_e]
      rw [st_n (show (2 : Nat) ≠ 2 + 1 by omega), st_n (show (199 : Nat) ≠ 199 + 8 by omega), e1, er]
      rw [if_neg (by decide), st_e, st_e, up_e, up_e, nI_s]
      refine ⟨_, _, _, rfl, rfl, ?_⟩
      obtain ⟨s1, s2, s3, s4, s5, s6, s7, s8⟩ := hT
      have hc : ∀ k, k ≠ 2 → k ≠ 3 → fw_set (fw_set Mc (2 + 1) n (nI b)) 2 1 (nI (n + 1)) k = Mc k := fun k a c => by rw [st_n a, st_n (by omega)]
      have hr : ∀ k, k ≠ 199 → k ≠ 207 → fw_set (fw_set (fw_set Mr 199 0 0) (199 + 8) n (nI b)) 199 11 (nI (n + 1)) k = fw_set Mr 199 0 0 k := fun k a c => by rw [st_n a, st_n (by omega)]
      have hr2 : ∀ j, j ≠ 11 → fw_set (fw_set (fw_set Mr 199 0 0) (199 + 8) n (nI b)) 199 11 (nI (n + 1)) 199 j = fw_set Mr 199 0 0 199 j := fun j a => by rw [st_n2 a, st_n (by omega)]
      refine ⟨by rw [hc 0 (by omega) (by omega), hr2 1 (by omega)]; exact s1, by rw [hc 0 (by omega) (by omega), hr2 18 (by omega)]; exact s2, fr_rows s3 (fun k a c => hc k (by omega) (by omega)) (hr _ (by omega) (by omega)) (hr _ (by omega) (by omega)) (hr _ (by omega) (by omega)), ⟨n + 1, by omega, ?_, ?_, fun j hj => ?_⟩, fr_hall s5 (fun k a c => hc k (by omega) (by omega)) (hr _ (by omega) (by omega)), fr_acts s6 (fun k a c => hc k (by omega) (by omega)) (hr2 9 (by omega)) (hr _ (by omega) (by omega)), fr_imgs s7 (fun k a c => hc k (by omega) (by omega)) (hr _ (by omega) (by omega)) (hr _ (by omega) (by omega)), fr_trace s8 (by rw [hc 169 (by omega) (by omega)]) (hc _ (by omega) (by omega)) (hr2 23 (by omega)) (hr _ (by omega) (by omega))⟩
      · rw [st_e, up_e]
      · rw [st_e, up_e]
      · rw [st_n (by omega), st_n (show (207 : Nat) ≠ 199 by omega), st_e, show 199 + 8 = 207 from rfl, st_e, st_n (show (207 : Nat) ≠ 199 by omega)]
        by_cases hjn : j = n
        · subst hjn
          exact ⟨b, hb, by rw [up_e], by rw [up_e]⟩
        · rw [up_n hjn, up_n hjn]
          exact e3 j (by omega)
    · rw [if_neg (by omega), if_pos (by omega)]
      simp only [bs_e, if_true]
      exact ⟨_, _, _, rfl, rfl, hT⟩
  · simp only [h0, not_false_iff, if_true]
    exact ⟨_, _, _, rfl, rfl, hT⟩
theorem ow_trace {Mc Mr : fw_M} (hR : rl Mc Mr) (a0 : Int32) : ∃ (r : Int32) (Mr2 : fw_M), P_Door_trace 0 Mc a0 = some r ∧ P_Mod_trace 199 Mr a0 = some (r, Mr2) ∧ rl Mc Mr2 := by
  unfold P_Door_trace P_Door_trace_b0 P_Door_trace_b32 P_Mod_trace P_Mod_trace_b0 P_Mod_trace_b32
  obtain ⟨n, hn, e1, e2, e3⟩ := hR.2.2.2.2.2.2.2
  have er : fw_set Mr 199 0 0 199 23 = nI n := by rw [st_n2 (by omega)]; exact e2
  simp only [pl_e, bs_e, b1_0, p_within, p_in, Int32.toInt_toInt64, Int32.reduceToInt, Int64.reduceToInt, er, Nat.zero_add, e1, nI_p (show n < 1000000 by omega)]
  by_cases h0 : 0 ≤ a0.toInt ∧ a0.toInt ≤ (n : Int) - 1
  · obtain ⟨j, hj, rfl⟩ : ∃ j : Nat, j < n ∧ a0 = nI j := ⟨a0.toInt.toNat, by omega, eq_nI (by omega)⟩
    simp only [h0, and_self, not_true, if_false]
    rw [ald_n (by omega) (by omega), ald_n (by omega) (by omega), bs_e, bs_e, st_n (by omega), e3 j hj]
    exact ⟨_, _, rfl, rfl, rl_thrown hR 0⟩
  · simp only [h0, not_false_iff, if_true]
    exact ⟨_, _, rfl, rfl, rl_thrown hR 0⟩
