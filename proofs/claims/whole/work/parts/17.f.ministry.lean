/-! A MINISTRY read -/
theorem r_failB {M0 M : fw_M} {f q : Nat} (h : BDs M0 M f q) (hf : 0 < f) (hf2 : f < 10) : P_Mod_failed 199 M = some (1, fw_set (fw_set M 199 11 0) 199 18 (nI f)) := by
  have hz : ¬ nI f ≤ 0 := fun z => by have := (nI_z1 (show f < 1000000 by omega)).mp z; omega
  unfold P_Mod_failed P_Mod_failed_b0
  rw [if_neg (bd_16 h hf hf2)]
  unfold P_Mod_failed_b20 P_Mod_failed_b44 P_Mod_failed_b59
  rw [pl_e, show fw_set M 199 11 0 199 16 = nI f from h.2.1, if_neg hz, pl_e, show fw_set (fw_set M 199 11 0) 199 18 (nI f) 199 16 = nI f from h.2.1, if_neg hz]
  rfl
theorem tk1 {t : Nat → Nat} {L p : Nat} : tkK t L p = 1 ↔ L ≤ p := by
  unfold tkK
  by_cases hc : L ≤ p
  · rw [if_pos hc]
    omega
  · rw [if_neg hc]
    constructor
    · intro z
      split at z
      · omega
      · split at z
        · split at z <;> omega
        · split at z <;> omega
    · intro z
      omega
theorem r_fin {M0 M : fw_M} {f q : Nat} (h : BDs M0 M f q) (hf : 0 < f) (hf2 : f < 10) (g : Nat) : P_Mod_ministry_h89 199 (g + 1) M = some (-1000100 - nI q, fw_set (fw_set M 199 11 0) 199 18 (nI f)) := by
  show P_Mod_ministry_b89 199 _ M = _
  unfold P_Mod_ministry_b89
  rw [r_isSortB h hf hf2, bs_e, if_pos rfl, r_failB h hf hf2, bs_e]
  simp only
  rw [if_neg (show ¬ (1 : Int32) = 0 by decide), show fw_set (fw_set M 199 11 0) 199 18 (nI f) 199 17 = nI q from h.2.2]
theorem r_endL {t : Nat → Nat} {L : Nat} {M0 M : fw_M} (hT : TP t L M0) (h : OKs t L M0 M L) (g : Nat) : P_Mod_ministry_h89 199 (g + 1) M = P_Mod_ministry_h125 199 fw_fu (fw_set (fw_set (fw_set M 199 11 0) 199 18 (M 199 18)) 199 9 0) 0 := by
  have hs : srp t L L = 0 := if_neg (by omega)
  have h14 : M 199 14 = 1 := by
    rw [h.2.2.1.2.1, tk1.mpr (Nat.le_refl L)]
    rfl
  have e : P_Mod_failed 199 M = some (0, fw_set (fw_set M 199 11 0) 199 18 (M 199 18)) := by
    unfold P_Mod_failed P_Mod_failed_b0
    rw [if_pos h.2.1, if_pos h14]
    unfold P_Mod_failed_b20 P_Mod_failed_b44 P_Mod_failed_b59
    rw [pl_e, show fw_set M 199 11 0 199 16 = 0 from h.2.1, if_pos (show (0 : Int32) ≤ 0 by decide), pl_e, show fw_set (fw_set M 199 11 0) 199 18 (fw_set M 199 11 0 199 18) 199 16 = 0 from h.2.1, if_pos (show (0 : Int32) ≤ 0 by decide)]
    rfl
  show P_Mod_ministry_b89 199 _ M = _
  unfold P_Mod_ministry_b89
  rw [r_isSort hT h, hs, b1_f (by omega), bs_e, if_pos rfl, e, bs_e]
  rfl
theorem r_endM {t : Nat → Nat} {L : Nat} {M0 M : fw_M} {q : Nat} (hT : TP t L M0) (h : OKs t L M0 M q) (hq : q < L) (hs : srp t L q = 0) (g : Nat) : ∃ M2, BDs M0 M2 1 q ∧ P_Mod_ministry_h89 199 (g + 1) M = some (-1000100 - nI q, fw_set (fw_set M2 199 11 0) 199 18 (nI 1)) := by
  have h14 : ¬ M 199 14 = 1 := by
    rw [h.2.2.1.2.1]
    intro z
    have := tk1.mp ((nI_e1 (by have := tk_lt (t := t) (L := L) (p := q); omega)).mp z)
    omega
  obtain ⟨M2, q1, q2, q3⟩ := r_bad h (x := 1) (f := 1) rfl
  have hB := r_failB q2 (by omega) (by omega)
  have e : P_Mod_failed 199 M = P_Mod_failed 199 M2 := by
    rw [show P_Mod_failed 199 M2 = P_Mod_failed_b20 199 M2 by
      unfold P_Mod_failed P_Mod_failed_b0
      rw [if_neg (bd_16 q2 (by omega) (by omega))]]
    unfold P_Mod_failed P_Mod_failed_b0
    rw [if_pos h.2.1, if_neg h14, q1, bs_e]
  refine ⟨M2, q2, ?_⟩
  show P_Mod_ministry_b89 199 _ M = _
  unfold P_Mod_ministry_b89
  rw [r_isSort hT h, hs, b1_f (by omega), bs_e, if_pos rfl, e, hB, bs_e]
  simp only
  rw [if_neg (show ¬ (1 : Int32) = 0 by decide), show fw_set (fw_set M2 199 11 0) 199 18 (nI 1) 199 17 = nI q from q2.2.2]
theorem c_per0 {t : Nat → Nat} {L : Nat} {Mc N : fw_M} {p : Nat} (hC : TPc t L Mc) (hF : CFb Mc N) (hp : N 2 2 = nI p) (hpL : p ≤ L) (hs : srp t L p = 0) : P_Tape_readPerson 2 158 N = some (0, fw_set N 2 3 1) := by
  unfold P_Tape_readPerson P_Tape_readPerson_b0
  rw [c_here hC hF hp hpL, bs_e, c_kind N (fun h => (hC.2.2 p h).2), hs, bs_e, if_pos (show nI 0 = 0 from rfl)]
  rfl
theorem pp {t : Nat → Nat} {L : Nat} {Mc M0 : fw_M} {D : Nat} (hC : TPc t L Mc) (hT : TP t L M0) : ∀ (r P f ff p : Nat) (N M : fw_M), P + r = 7 → r + 1 < f → r + 2 < ff → CFb Mc N → N 2 2 = nI p → OKs t L M0 M p → INV N (M 204) D P → 0 < srp t L p → (∃ (f2 q : Nat) (N2 M2 : fw_M), 0 < f2 ∧ f2 < 10 ∧ P_Tape_readPeople_h2 2 158 f N (nI P) = some (0, N2) ∧ CFb Mc N2 ∧ N2 2 2 = nI q ∧ N2 2 3 = nI f2 ∧ P_Mod_ministry_h89 199 ff M = some (-1000100 - nI q, fw_set (fw_set M2 199 11 0) 199 18 (nI f2)) ∧ BDs M0 M2 f2 q) ∨ ∃ (P2 : Nat) (N2 M2 : fw_M), P_Tape_readPeople_h2 2 158 f N (nI P) = some (1, N2) ∧ CFb Mc N2 ∧ P_Mod_ministry_h89 199 ff M = P_Mod_ministry_h125 199 fw_fu (fw_set (fw_set (fw_set M2 199 11 0) 199 18 (M2 199 18)) 199 9 0) 0 ∧ OKs t L M0 M2 L ∧ INV N2 (M2 204) D P2 ∧ 1 ≤ P2 := by
  have hL := hC.1
  have stepM : ∀ (g p : Nat) (M M2 : fw_M), OKs t L M0 M p → 0 < srp t L p → P_Mod_readPerson 199 M = some M2 → P_Mod_ministry_h89 199 (g + 1) M = P_Mod_ministry_h89 199 g M2 := by
    intro g p M M2 hO hs hr
    show P_Mod_ministry_b89 199 _ M = _
    unfold P_Mod_ministry_b89
    rw [r_isSort hT hO, b1_t hs, bs_e, if_neg (show ¬ (1 : Int32) = 0 by decide), hr, bs_e]
  have stepC : ∀ (g P : Nat) (N : fw_M), P ≤ 7 → P_Tape_readPeople_h2 2 158 (g + 1) N (nI P) = ((P_Tape_readPerson 2 158 N).bind fun q2 => (if q2.1 = (0 : Int32) then some ((0 : Int32), q2.2) else (if (q2.2 2 2) < (q2.2 2 1) then P_Tape_readPeople_h2 2 158 g q2.2 (nI P + (1 : Int32)) else some ((1 : Int32), q2.2)))) := by
    intro g P N hP
    show P_Tape_readPeople_b2 2 158 _ N _ = _
    unfold P_Tape_readPeople_b2
    rw [if_neg (show ¬ (7 : Int32) < nI P from fun z => by have := (nI_lt2 (a := 7) (b := P) (by omega) (by omega)).mp z; omega)]
  intro r
  induction r with
  | zero =>
    intro P f ff p N M hP hf hff hF hp hO hI hs
    obtain ⟨f, rfl⟩ : ∃ g, f = g + 2 := ⟨f - 2, by omega⟩
    obtain ⟨ff, rfl⟩ : ∃ g, ff = g + 3 := ⟨ff - 3, by omega⟩
    rcases per_e hC hT hF hp hO hI hs with ⟨f2, q, N2, M2, hf1, hf2, c1, c2, c3, c4, m1, m2⟩ | ⟨q, N2, M2, c1, c2, c3, m1, m2, m3, m4⟩
    · refine Or.inl ⟨f2, q, N2, M2, hf1, hf2, ?_, c2, c3, c4, ?_, m2⟩
      · rw [stepC (f + 1) P N (by omega), c1, bs_e, if_pos rfl]
      · rw [stepM (ff + 2) p M M2 hO hs m1]
        exact r_fin m2 hf1 hf2 (ff + 1)
    · omega
  | succ r ih =>
    intro P f ff p N M hP hf hff hF hp hO hI hs
    obtain ⟨f, rfl⟩ : ∃ g, f = g + 2 := ⟨f - 2, by omega⟩
    obtain ⟨ff, rfl⟩ : ∃ g, ff = g + 3 := ⟨ff - 3, by omega⟩
    rcases per_e hC hT hF hp hO hI hs with ⟨f2, q, N2, M2, hf1, hf2, c1, c2, c3, c4, m1, m2⟩ | ⟨q, N2, M2, c1, c2, c3, m1, m2, m3, m4⟩
    · refine Or.inl ⟨f2, q, N2, M2, hf1, hf2, ?_, c2, c3, c4, ?_, m2⟩
      · rw [stepC (f + 1) P N (by omega), c1, bs_e, if_pos rfl]
      · rw [stepM (ff + 2) p M M2 hO hs m1]
        exact r_fin m2 hf1 hf2 (ff + 1)
    · have hqL := m2.2.2.2
      have hcl : P_Tape_readPeople_h2 2 158 (f + 2) N (nI P) = if q < L then P_Tape_readPeople_h2 2 158 (f + 1) N2 (nI (P + 1)) else some (1, N2) := by
        rw [stepC (f + 1) P N (by omega), c1, bs_e]
        simp only
        rw [if_neg (show ¬ (1 : Int32) = 0 by decide), c3, c2.2, hC.2.1, nI_s]
        by_cases hq : q < L
        · rw [if_pos ((nI_lt2 (by omega) (by omega)).mpr hq), if_pos hq]
        · rw [if_neg (fun z => hq ((nI_lt2 (show q < 1000000 by omega) (show L < 1000000 by omega)).mp z)), if_neg hq]
      rw [hcl, stepM (ff + 2) p M M2 hO hs m1]
      by_cases hq : q < L
      · rw [if_pos hq]
        by_cases hs2 : 0 < srp t L q
        · exact ih (P + 1) (f + 1) (ff + 2) q N2 M2 (by omega) (by omega) (by omega) c2 c3 m2 m3 hs2
        · have hs0 : srp t L q = 0 := by omega
          obtain ⟨M3, e1, e2⟩ := r_endM hT m2 hq hs0 (ff + 1)
          refine Or.inl ⟨1, q, fw_set N2 2 3 1, M3, by omega, by omega, ?_, cf_2 c2 (by omega) _, by rw [st_n2 (by omega)]; exact c3, by rw [st_e, up_e]; rfl, e2, e1⟩
          rw [stepC f (P + 1) N2 (by omega), c_per0 hC c2 c3 hqL hs0, bs_e, if_pos rfl]
      · have hqe : q = L := by omega
        subst hqe
        rw [if_neg hq]
        exact Or.inr ⟨P + 1, N2, M2, rfl, c2, r_endL hT m2 (ff + 1), m2, m3, by omega⟩
theorem m_copy : ∀ (r j f : Nat) (M : fw_M), j + r = 39 → r < f → ∃ M2, P_Mod_ministry_h125 199 f M (nI j) = some (M2 203 2, M2) ∧ (∀ k, M2 203 k = if j ≤ k ∧ k < 39 then M 204 k else M 203 k) ∧ ∀ b, b ≠ 203 → M2 b = M b := by
  intro r
  induction r with
  | zero =>
    intro j f M hj hf
    obtain ⟨f, rfl⟩ : ∃ g, f = g + 1 := ⟨f - 1, by omega⟩
    refine ⟨M, ?_, fun k => by rw [if_neg (by omega)], fun b _ => rfl⟩
    show P_Mod_ministry_b125 199 _ M _ = _
    unfold P_Mod_ministry_b125
    rw [if_pos ((nI_g39 (by omega)).mpr (by omega)), show fw_ald M (199 + 4) 39 (2 : Int32) = some (M 203 2) from ald_n (j := 2) (by omega) (by omega), bs_e]
  | succ r ih =>
    intro j f M hj hf
    obtain ⟨f, rfl⟩ : ∃ g, f = g + 1 := ⟨f - 1, by omega⟩
    obtain ⟨M2, q1, q2, q3⟩ := ih (j + 1) f (fw_set M 203 j (M 204 j)) (by omega) (by omega)
    refine ⟨M2, ?_, fun k => ?_, fun b hb => by rw [q3 b hb, st_n hb]⟩
    · show P_Mod_ministry_b125 199 _ M _ = _
      unfold P_Mod_ministry_b125
      rw [if_neg (fun z => by have := (nI_g39 (show j < 1000000 by omega)).mp z; omega), show fw_ald M (199 + 5) 39 (nI j) = some (M 204 j) from ald_n (by omega) (by omega), bs_e, show fw_ast M (199 + 4) 39 (nI j) (M 204 j) = some (fw_set M 203 j (M 204 j)) from ast_n (by omega) (by omega), bs_e, nI_s]
      exact q1
    · rw [q2 k, st_n (show (204 : Nat) ≠ 203 by omega)]
      by_cases hk : j + 1 ≤ k ∧ k < 39
      · rw [if_pos hk, if_pos (by omega)]
      · rw [if_neg hk, st_e]
        by_cases hk2 : k = j
        · subst hk2
          rw [up_e, if_pos (by omega)]
        · rw [up_n hk2, if_neg (by omega)]
theorem r_zero : ∀ (r j f : Nat) (M : fw_M), j + r = 39 → r < f → (∀ i, i < j → M 204 i = 0) → ∃ M2, P_Mod_ministry_h11 199 f M (nI j) = rLaw M2 ∧ SM M M2 ∧ ∀ i, i < 39 → M2 204 i = 0 := by
  intro r
  induction r with
  | zero =>
    intro j f M hj hf h0
    obtain ⟨f, rfl⟩ : ∃ g, f = g + 1 := ⟨f - 1, by omega⟩
    refine ⟨M, ?_, sm_r M, fun i hi => h0 i (by omega)⟩
    show P_Mod_ministry_b11 199 _ M _ = _
    unfold P_Mod_ministry_b11
    rw [if_pos ((nI_g39 (by omega)).mpr (by omega))]
    rfl
  | succ r ih =>
    intro j f M hj hf h0
    obtain ⟨f, rfl⟩ : ∃ g, f = g + 1 := ⟨f - 1, by omega⟩
    obtain ⟨M2, q1, q2, q3⟩ := ih (j + 1) f (fw_set M 204 j 0) (by omega) (by omega) (fun i hi => by
      rw [st_e]
      by_cases e : i = j
      · subst e
        rw [up_e]
      · rw [up_n e]
        exact h0 i (by omega))
    refine ⟨M2, ?_, sm_t (sm_s _ _ _) q2, q3⟩
    show P_Mod_ministry_b11 199 _ M _ = _
    unfold P_Mod_ministry_b11
    rw [if_neg (fun z => by have := (nI_g39 (show j < 1000000 by omega)).mp z; omega), show fw_ast M (199 + 5) 39 (nI j) 0 = some (fw_set M 204 j 0) from ast_n (by omega) (by omega), bs_e, nI_s]
    exact q1
theorem rl_bad {Mc M0 N M : fw_M} {f q : Nat} (hR : rl Mc M0) (hF : CFb Mc N) (h3 : N 2 3 = nI f) (hB : BDs M0 M f q) : rl (fw_set (fw_set N 2 1 0) 0 7 (nI f)) (fw_set (fw_set M 199 11 0) 199 18 (nI f)) := by
  obtain ⟨a1, a2, a3, a4, a5, a6, a7, a8⟩ := hR
  have hc : ∀ b, b ≠ 0 → b ≠ 2 → (b < 158 ∨ 163 < b) → fw_set (fw_set N 2 1 0) 0 7 (nI f) b = Mc b := fun b b1 b2 b3 => by rw [st_n b1, st_n b2]; exact hF.1 b b2 b3
  have hr : ∀ b, b ≠ 199 → b ≠ 204 → fw_set (fw_set M 199 11 0) 199 18 (nI f) b = M0 b := fun b b1 b2 => by rw [st_n b1, st_n b1]; exact hB.1.1 b b1 b2
  have h9 : ∀ i, (i < 12 ∨ 17 < i) → i ≠ 11 → i ≠ 18 → fw_set (fw_set M 199 11 0) 199 18 (nI f) 199 i = M0 199 i := fun i hi i1 i2 => by rw [st_n2 i2, st_n2 i1]; exact hB.1.2 i hi
  refine ⟨?_, ?_, ?_, ?_, ?_, ?_, ?_, ?_⟩
  · rw [st_n2 (by omega), st_n (by omega), hF.1 0 (by omega) (by omega), h9 1 (by omega) (by omega) (by omega)]
    exact a1
  · rw [st_e, up_e, st_e, up_e]
  · exact fr_rows a3 (fun k _ _ => hc k (by omega) (by omega) (by omega)) (hr _ (by omega) (by omega)) (hr _ (by omega) (by omega)) (hr _ (by omega) (by omega))
  · exact ⟨0, by omega, by rw [st_n (by omega), st_e, up_e]; rfl, by rw [st_n2 (by omega), st_e, up_e]; rfl, fun j hj => by omega⟩
  · exact fr_hall a5 (fun k _ _ => hc k (by omega) (by omega) (by omega)) (hr _ (by omega) (by omega))
  · exact fr_acts a6 (fun k _ _ => hc k (by omega) (by omega) (by omega)) (h9 9 (by omega) (by omega) (by omega)) (hr _ (by omega) (by omega))
  · exact fr_imgs a7 (fun k _ _ => hc k (by omega) (by omega) (by omega)) (hr _ (by omega) (by omega)) (hr _ (by omega) (by omega))
  · exact fr_trace a8 (by rw [hc 169 (by omega) (by omega) (by omega)]) (hc 170 (by omega) (by omega) (by omega)) (h9 23 (by omega) (by omega) (by omega)) (hr _ (by omega) (by omega))
theorem ow_ministry {Mc Mr : fw_M} (hR : rl Mc Mr) : ∃ (r : Int32) (Mc2 Mr2 : fw_M), P_Door_ministry 0 Mc = some (r, Mc2) ∧ P_Mod_ministry 199 Mr = some (r, Mr2) ∧ rl Mc2 Mr2 := by
  have hfu := fw_fu_ge
  obtain ⟨fu, hfe⟩ : ∃ g, fw_fu = g + 1 := ⟨fw_fu - 1, by omega⟩
  have hR2 := rl_thrown hR 0
  obtain ⟨L, hL, u1, u2, u3⟩ := hR2.2.2.2.1
  have hC : TPc (fun j => (Mc 3 j).toNatClampNeg) L Mc := ⟨hL, u1, fun j hj => by
    obtain ⟨b, b1, b2, b3⟩ := u3 j hj
    have e : (Mc 3 j).toNatClampNeg = b := by rw [b2, tC (by omega)]
    exact ⟨by show Mc 3 j = nI (Mc 3 j).toNatClampNeg; rw [e]; exact b2, by show (Mc 3 j).toNatClampNeg < 256; rw [e]; exact b1⟩⟩
  have hT : TP (fun j => (Mc 3 j).toNatClampNeg) L (fw_set Mr 199 0 0) := ⟨hL, u2, fun j hj => by
    obtain ⟨b, b1, b2, b3⟩ := u3 j hj
    have e : (Mc 3 j).toNatClampNeg = b := by rw [b2, tC (by omega)]
    exact ⟨by show _ = nI (Mc 3 j).toNatClampNeg; rw [e]; exact b3, by show (Mc 3 j).toNatClampNeg < 256; rw [e]; exact b1⟩⟩
  generalize (fun j => (Mc 3 j).toNatClampNeg) = t at hC hT
  -- the start
  obtain ⟨M1, s1, s2, s3⟩ := r_next (t := t) (L := L) (M0 := fw_set Mr 199 0 0) (M := fw_set (fw_set (fw_set Mr 199 0 0) 199 12 0) 199 16 0) (p := 0) hT ⟨fun b b1 _ => by rw [st_n b1, st_n b1], fun i hi => by rw [st_n2 (by omega), st_n2 (by omega)]⟩ rfl rfl (by omega)
  obtain ⟨M2, z1, z2, z3⟩ := r_zero 39 0 fw_fu M1 (by omega) (by omega) (fun i hi => by omega)
  have hO := ok_sm s2 z2
  have hF0 : CFb Mc (fw_set Mc 2 2 0) := ⟨fun b b1 _ => st_n b1, st_n2 (by omega)⟩
  have kr : P_Mod_ministry 199 Mr = rLaw M2 := by
    unfold P_Mod_ministry P_Mod_ministry_b0 P_Mod_begin P_Mod_begin_b0
    simp only [pl_e]
    rw [s1]
    simp only [bs_e]
    exact z1
  have badc : ∀ (f q : Nat) (N M3 : fw_M), 0 < f → f < 10 → P_Tape_readInto 2 158 Mc = some (0, N) → CFb Mc N → N 2 2 = nI q → N 2 3 = nI f → rLaw M2 = some (-1000100 - nI q, fw_set (fw_set M3 199 11 0) 199 18 (nI f)) → BDs (fw_set Mr 199 0 0) M3 f q → ∃ (r : Int32) (Mc2 Mr2 : fw_M), P_Door_ministry 0 Mc = some (r, Mc2) ∧ P_Mod_ministry 199 Mr = some (r, Mr2) ∧ rl Mc2 Mr2 := by
    intro f q N M3 hf hf2 h1 h2 h3 h4 h5 h6
    refine ⟨-1000100 - nI q, _, _, ?_, kr.trans h5, rl_bad hR2 h2 h4 h6⟩
    unfold P_Door_ministry P_Door_ministry_b0
    rw [show P_Tape_readInto (0 + 2) (0 + 157 + 1) Mc = _ from h1, bs_e]
    simp only [pl_e, if_true]
    rw [show fw_set N (0 + 2) 1 0 (0 + 2) 3 = nI f from h4, show fw_set (fw_set N (0 + 2) 1 0) 0 7 (nI f) (0 + 2) 2 = nI q from h3]
  have kc : ∀ (v : Int32) (N : fw_M), P_Tape_readLaw 2 158 (fw_set Mc 2 2 0) = some (v, N) → P_Tape_readInto 2 158 Mc = if v = 0 then P_Tape_readInto_b25 2 158 N else (P_Tape_readPeople 2 158 N).bind fun q4 => (if q4.1 = (0 : Int32) then P_Tape_readInto_b25 2 158 q4.2 else P_Tape_readInto_b26 2 158 q4.2 (1 : Int32)) := by
    intro v N h
    unfold P_Tape_readInto P_Tape_readInto_b0
    rw [pl_e, h, bs_e]
  have tailB : ∀ (f q : Nat) (M3 : fw_M), 0 < f → f < 10 → BDs (fw_set Mr 199 0 0) M3 f q → rTail M3 = some (-1000100 - nI q, fw_set (fw_set M3 199 11 0) 199 18 (nI f)) := by
    intro f q M3 hf hf2 h
    unfold rTail
    rw [r_isSortB h hf hf2, bs_e, if_pos rfl, r_badB h hf hf2, bs_e, hfe]
    exact r_fin h hf hf2 fu
  rcases law_e hC hT hF0 (by rw [st_e, up_e]; rfl) hO z3 with ⟨f, q, N3, M3, hf, hf2, c1, c2, c3, c4, m1, m2⟩ | ⟨q, D, N3, M3, c1, c2, c3, m1, m2, m3⟩
  · exact badc f q N3 M3 hf hf2 (by rw [kc 0 N3 c1, if_pos rfl]; rfl) c2 c3 c4 (m1.trans (tailB f q M3 hf hf2 m2)) m2
  · have hqL := m2.2.2.2
    have kc2 := kc 1 N3 c1
    rw [if_neg (show ¬ (1 : Int32) = 0 by decide)] at kc2
    by_cases hs : 0 < srp t L q
    · have kt : rTail M3 = P_Mod_ministry_h89 199 fw_fu M3 := by
        unfold rTail
        rw [r_isSort hT m2, b1_t hs, bs_e, if_neg (show ¬ (1 : Int32) = 0 by decide)]
      rcases pp hC hT 7 0 fw_fu fw_fu q N3 M3 (by omega) (by omega) (by omega) c2 c3 m2 m3 hs with ⟨f2, q2, N4, M4, hf1, hf2, d1, d2, d3, d4, e1, e2⟩ | ⟨P2, N4, M4, d1, d2, e1, e2, e3, e4⟩
      · refine badc f2 q2 N4 M4 hf1 hf2 ?_ d2 d3 d4 (m1.trans (kt.trans e1)) e2
        rw [kc2, show P_Tape_readPeople 2 158 N3 = some (0, N4) from d1, bs_e, if_pos rfl]
        rfl
      · obtain ⟨Y, ⟨h1, h2, h3, h4, h5⟩, ⟨i0, i1, i2, i3⟩, h7, h8, h9⟩ := e3
        have hP2 : gP (M4 204) = P2 := by unfold gP; rw [i2, tC (by omega)]
        have hwf : rl_wf (M4 204) := wf_iff.mpr ⟨D, Y, P2, 0, ⟨h1, h2, h3, h4, e4, h5, by omega⟩, ⟨i0, i1, i2, i3⟩, fun p hp c hc => (h8 p hp c hc).1⟩
        have heq : rl_eq (fw_set N4 2 1 0) 158 (M4 204) := eq_iff.mpr ⟨fun i hi => by rw [st_n (by omega)]; exact h7 i hi, fun p hp c hc => by rw [st_n (by omega)]; exact (h8 p (by omega) c hc).2⟩
        obtain ⟨M5, g1, g2, g3⟩ := m_copy 39 0 fw_fu (fw_set (fw_set (fw_set M4 199 11 0) 199 18 (M4 199 18)) 199 9 0) (by omega) (by omega)
        have h39 : ∀ i, i < 39 → M5 203 i = M4 204 i := fun i hi => by
          rw [g2, if_pos (by omega), st_n (by omega), st_n (by omega), st_n (by omega)]
        obtain ⟨N5, b1, b2, b3⟩ := become_eq (o := 4) (r := 158) (M := fw_set N4 2 1 0) (g := M4 204) (g2 := M5 203) (fun i hi j hj => by omega) heq (by omega) h39
        have hcl : P_Door_ministry 0 Mc = some (N5 4 2, fw_set N5 10 2 0) := by
          unfold P_Door_ministry P_Door_ministry_b0
          rw [show P_Tape_readInto (0 + 2) (0 + 157 + 1) Mc = some (1, N4) by
            rw [show P_Tape_readInto (0 + 2) (0 + 157 + 1) Mc = _ from kc2, show P_Tape_readPeople 2 158 N3 = some (1, N4) from d1, bs_e, if_neg (show ¬ (1 : Int32) = 0 by decide)]
            rfl, bs_e, pl_e, if_neg (show ¬ (1 : Int32) = 0 by decide), show P_Hall_become (0 + 4) (0 + 157 + 1) (fw_set N4 (0 + 2) 1 0) = some N5 from b1, bs_e]
          rfl
        have hrv : N5 4 2 = M5 203 2 := b2.1 2 (by omega)
        refine ⟨N5 4 2, fw_set N5 10 2 0, M5, hcl, ?_, ?_⟩
        · rw [kr, m1, kt, e1, hrv]
          exact g1
        · obtain ⟨a1, a2, a3, a4, a5, ⟨a, tt, -, ht, -, -, k3, -⟩, a7, a8⟩ := hR2
          have hN : ∀ b, b ≠ 2 → b ≠ 10 → (b < 4 ∨ 10 ≤ b) → (b < 158 ∨ 163 < b) → fw_set N5 10 2 0 b = Mc b := fun b n1 n2 n3 n4 => by rw [st_n n2, b3 b (by omega), st_n n1]; exact d2.1 b n1 n4
          have hM : ∀ b, b ≠ 199 → b ≠ 203 → b ≠ 204 → M5 b = fw_set Mr 199 0 0 b := fun b n1 n2 n3 => by rw [g3 b n2, st_n n1, st_n n1, st_n n1]; exact e2.1.1 b n1 n3
          have h199 : ∀ i, i ≠ 9 → i ≠ 11 → i ≠ 18 → (i < 12 ∨ 17 < i) → M5 199 i = fw_set Mr 199 0 0 199 i := fun i n1 n2 n3 n4 => by rw [g3 199 (by omega), st_n2 n1, st_n2 n3, st_n2 n2]; exact e2.1.2 i n4
          refine ⟨?_, ?_, ?_, ?_, ?_, ?_, ?_, ?_⟩
          · rw [hN 0 (by omega) (by omega) (by omega) (by omega), h199 1 (by omega) (by omega) (by omega) (by omega)]
            exact a1
          · rw [hN 0 (by omega) (by omega) (by omega) (by omega), g3 199 (by omega), st_n2 (by omega), st_e, up_e, e2.1.2 18 (by omega)]
            exact a2
          · exact fr_rows a3 (fun k _ _ => hN k (by omega) (by omega) (by omega) (by omega)) (hM _ (by omega) (by omega) (by omega)) (hM _ (by omega) (by omega) (by omega)) (hM _ (by omega) (by omega) (by omega))
          · exact ⟨0, by omega, by rw [st_n (by omega), b3 2 (by omega), st_e, up_e]; rfl, by rw [g3 199 (by omega), st_n2 (by omega), st_n2 (by omega), st_e, up_e]; rfl, fun j hj => by omega⟩
          · exact Or.inr ⟨eq_cong b2 fun k _ _ => st_n (by omega), wf_39 h39 hwf⟩
          · exact ⟨0, tt, by omega, ht, by rw [st_e, up_e]; rfl, by rw [g3 199 (by omega), st_e, up_e]; rfl, by rw [st_n2 (by omega), b3 10 (by omega), st_n (by omega), d2.1 10 (by omega) (by omega)]; exact k3, fun j hj => by omega⟩
          · exact fr_imgs a7 (fun k _ _ => hN k (by omega) (by omega) (by omega) (by omega)) (hM _ (by omega) (by omega) (by omega)) (hM _ (by omega) (by omega) (by omega))
          · exact fr_trace a8 (by rw [hN 169 (by omega) (by omega) (by omega) (by omega)]) (hN 170 (by omega) (by omega) (by omega) (by omega)) (h199 23 (by omega) (by omega) (by omega) (by omega)) (hM _ (by omega) (by omega) (by omega))
    · have hs0 : srp t L q = 0 := by omega
      obtain ⟨M4, e1, e2, e3⟩ := r_bad m2 (x := 1) (f := 1) rfl
      refine badc 1 q (fw_set N3 2 3 1) M4 (by omega) (by omega) ?_ (cf_2 c2 (by omega) _) (by rw [st_n2 (by omega)]; exact c3) (by rw [st_e, up_e]; rfl) (m1.trans ?_) e2
      · rw [kc2]
        unfold P_Tape_readPeople P_Tape_readPeople_b0
        rw [hfe]
        show (P_Tape_readPeople_b2 2 158 _ N3 0).bind _ = _
        unfold P_Tape_readPeople_b2
        rw [if_neg (show ¬ (7 : Int32) < 0 by decide), c_per0 hC c2 c3 hqL hs0, bs_e, if_pos rfl, bs_e, if_pos rfl]
        rfl
      · unfold rTail
        rw [r_isSort hT m2, hs0, b1_f (by omega), bs_e, if_pos rfl, e1, bs_e, hfe]
        exact r_fin e2 (by omega) (by omega) fu
