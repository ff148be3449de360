/-! THE LAW on both sides -/
def INV (N : fw_M) (g : Nat → Int32) (D P : Nat) : Prop := ∃ Y, (1 ≤ D ∧ D ≤ 4 ∧ 1 ≤ Y ∧ Y ≤ 9 ∧ P ≤ 7) ∧ (g 0 = nI D ∧ g 1 = nI Y ∧ g 2 = nI P ∧ g 3 = 0) ∧ (∀ i, i < 4 → N 158 i = g i) ∧ (∀ p, p < P → ∀ c, c < 5 → cw D c (g (4 + 5 * p + c)) ∧ N (159 + c) p = g (4 + 5 * p + c)) ∧ ∀ i, 4 + 5 * P ≤ i → i < 39 → g i = 0
theorem inv_c {N N2 : fw_M} {g : Nat → Int32} {D P : Nat} (h : INV N g D P) (hc : ∀ b, b ≠ 2 → N2 b = N b) : INV N2 g D P := by
  obtain ⟨Y, h1, h2, h3, h4, h5⟩ := h
  exact ⟨Y, h1, h2, fun i hi => by rw [hc 158 (by omega)]; exact h3 i hi, fun p hp c hc5 => by rw [hc (159 + c) (by omega)]; exact h4 p hp c hc5, h5⟩
noncomputable def rTail (M : fw_M) : Option (Int32 × fw_M) := (P_Mod_isSort 199 M).bind fun v10 => (if v10 = (0 : Int32) then (P_Mod_bad 199 M (1 : Int32)).bind fun q12 => P_Mod_ministry_h89 199 fw_fu q12 else P_Mod_ministry_h89 199 fw_fu M)
noncomputable def rLaw6 (q6 : fw_M) : Option (Int32 × fw_M) := (P_Mod_number 199 q6 (1 : Int32) (9 : Int32)).bind fun q7 => (fw_ast q7.2 (199 + 5) 39 (1 : Int32) q7.1).bind fun M8 => (P_Mod_mustSign 199 M8 (59 : Int32)).bind fun q9 => rTail q9
noncomputable def rLaw3 (q3 : fw_M) : Option (Int32 × fw_M) := (P_Mod_number 199 q3 (1 : Int32) (4 : Int32)).bind fun q4 => (fw_ast q4.2 (199 + 5) 39 (0 : Int32) q4.1).bind fun M5 => (P_Mod_mustSign 199 M5 (44 : Int32)).bind fun q6 => rLaw6 q6
noncomputable def rLaw (M : fw_M) : Option (Int32 × fw_M) := (P_Mod_isLetter 199 M (109 : Int32)).bind fun v2 => (P_Mod_must 199 M v2).bind fun q3 => rLaw3 q3
theorem ast_0 (M : fw_M) (v : Int32) : fw_ast M (199 + 5) 39 (0 : Int32) v = some (fw_set M 204 0 v) := ast_n (j := 0) (by omega) (by omega)
theorem ast_1 (M : fw_M) (v : Int32) : fw_ast M (199 + 5) 39 (1 : Int32) v = some (fw_set M 204 1 v) := ast_n (j := 1) (by omega) (by omega)
theorem rLaw6_B {M0 M : fw_M} {f q : Nat} (h : BDs M0 M f q) (hf : 0 < f) (hf2 : f < 10) : ∃ M2, rLaw6 M = rTail M2 ∧ BDs M0 M2 f q := by
  have h2 := bd_sm h (sm_s M 1 1)
  refine ⟨_, ?_, h2⟩
  unfold rLaw6
  rw [r_numB h hf hf2, bs_e]
  simp only
  rw [ast_1, bs_e, r_signB h2 hf hf2, bs_e]
theorem rLaw3_B {M0 M : fw_M} {f q : Nat} (h : BDs M0 M f q) (hf : 0 < f) (hf2 : f < 10) : ∃ M2, rLaw3 M = rTail M2 ∧ BDs M0 M2 f q := by
  have h2 := bd_sm h (sm_s M 0 1)
  obtain ⟨M2, q1, q2⟩ := rLaw6_B h2 hf hf2
  refine ⟨M2, ?_, q2⟩
  unfold rLaw3
  rw [r_numB h hf hf2, bs_e]
  simp only
  rw [ast_0, bs_e, r_signB h2 hf hf2, bs_e]
  exact q1
theorem tk2 {t : Nat → Nat} {L p c : Nat} (hc : 97 ≤ c ∧ c ≤ 122) (ht : p < L → t p < 256) : (tkK t L p = 2 ∧ tkV t L p = nI c) ↔ (p < L ∧ t p = c) := by
  unfold tkK tkV
  by_cases hL : L ≤ p
  · rw [if_pos hL, if_pos hL]
    constructor
    · intro z
      have := z.1
      omega
    · intro z
      omega
  · have h256 := ht (by omega)
    rw [if_neg hL, if_neg hL]
    by_cases hl : lett (t p) = true
    · have hl2 : 97 ≤ t p ∧ t p ≤ 122 := by unfold lett at hl; simpa using hl
      have hf : ¬ fig (t p) = true := fun z => fl_no z hl
      rw [if_pos hl, if_neg hf, nI_inj (by omega) (by omega)]
      omega
    · have hne : ¬ t p = c := fun z => hl (by unfold lett; rw [z]; simp; omega)
      rw [if_neg hl]
      constructor
      · intro z
        have := z.1
        split at this
        · split at this <;> omega
        · split at this <;> omega
      · intro z
        exact absurd z.2 hne
theorem r_letter {t : Nat → Nat} {L : Nat} {M0 M : fw_M} {p c : Nat} (hT : TP t L M0) (h : OKs t L M0 M p) (hc : 97 ≤ c ∧ c ≤ 122) {x : Int32} (hx : x = nI c) : P_Mod_isLetter 199 M x = some (b1 (p < L ∧ t p = c)) := by
  obtain ⟨a1, a2, a3, a4⟩ := h.2.2.1
  have h2 := tk2 (t := t) (L := L) (p := p) hc (fun hp => (hT.2.2 p hp).2)
  have e14 : M 199 14 = 2 ↔ tkK t L p = 2 := by
    rw [a2]
    exact nI_e2 (by have := tk_lt (t := t) (L := L) (p := p); omega)
  unfold P_Mod_isLetter P_Mod_isLetter_b0 P_Mod_isLetter_b27 P_Mod_isLetter_b28
  rw [if_pos h.2.1]
  by_cases hk : tkK t L p = 2
  · rw [if_pos (e14.mpr hk), a3, hx]
    by_cases hv : tkV t L p = nI c
    · rw [if_pos hv, b1_t (h2.mp ⟨hk, hv⟩)]
      rfl
    · rw [if_neg hv, b1_f (fun z => hv (h2.mpr z).2)]
      rfl
  · rw [if_neg (fun z => hk (e14.mp z)), b1_f (fun z => hk (h2.mpr z).1)]
    rfl
theorem law_e {t : Nat → Nat} {L : Nat} {Mc N M0 M : fw_M} (hC : TPc t L Mc) (hT : TP t L M0) (hF : CFb Mc N) (hp : N 2 2 = nI 0) (hO : OKs t L M0 M 0) (h0 : ∀ i, i < 39 → M 204 i = 0) : (∃ (f q : Nat) (N2 M2 : fw_M), 0 < f ∧ f < 10 ∧ P_Tape_readLaw 2 158 N = some (0, N2) ∧ CFb Mc N2 ∧ N2 2 2 = nI q ∧ N2 2 3 = nI f ∧ rLaw M = rTail M2 ∧ BDs M0 M2 f q) ∨ ∃ (q D : Nat) (N2 M2 : fw_M), P_Tape_readLaw 2 158 N = some (1, N2) ∧ CFb Mc N2 ∧ N2 2 2 = nI q ∧ rLaw M = rTail M2 ∧ OKs t L M0 M2 q ∧ INV N2 (M2 204) D 0 := by
  have hL := hC.1
  obtain ⟨k1, k2⟩ := c_takes hC hF hp (by omega) (x := 109) (c := 109) rfl (by omega)
  have hlet := r_letter hT hO (c := 109) (by omega) (x := 109) rfl
  unfold rLaw P_Tape_readLaw P_Tape_readLaw_b0
  rw [hlet, bs_e]
  by_cases hm : 0 < L ∧ t 0 = 109
  · rw [k1 hm, b1_t hm, bs_e]
    simp only
    rw [if_neg (show ¬ (1 : Int32) = 0 by decide)]
    obtain ⟨M3, s1, s2, s3⟩ := r_must1 hT hO (x := 1) (by decide)
    rw [show tkN t L 0 = 1 by
      unfold tkN
      rw [if_neg (by omega), if_neg (fun z => by have := fig_b z; omega)]] at s2
    rw [s1, bs_e]
    have hF1 : CFb Mc (fw_set N 2 2 (nI (0 + 1))) := cf_2 hF (by omega) _
    obtain ⟨d1, d2⟩ := c_nb hC hF1 (p := 1) (a := 1) (b := 4) (c := 44) (by rw [st_e, up_e]) (by omega) (lo := 1) (hi := 4) (x := 44) rfl rfl (by omega) (by omega) rfl (Or.inl rfl)
    obtain ⟨v, M4, n1, n2, n3, n4⟩ := r_ns hT s2 (a := 1) (b := 4) (c := 44) (lo := 1) (hi := 4) (x := 44) rfl rfl (by omega) (by omega) rfl (Or.inl rfl)
    unfold rLaw3
    rw [n1, bs_e]
    simp only
    rw [ast_0, bs_e]
    cases hn : nbS t L 1 4 44 1 with
    | error e =>
      obtain ⟨f, q⟩ := e
      obtain ⟨N2, c1, c2, c3, c4⟩ := d1 f q hn
      obtain ⟨hf, hf2, -, hM⟩ := n3 f q hn
      obtain ⟨M5, m1, m2⟩ := hM _ (sm_s M4 0 v)
      obtain ⟨M6, u1, u2⟩ := rLaw6_B m2 hf hf2
      rw [c1, bs_e, if_pos rfl, m1, bs_e, u1]
      exact Or.inl ⟨f, q, N2, M6, hf, hf2, rfl, c2, c3, c4, rfl, u2⟩
    | ok e =>
      obtain ⟨D, q⟩ := e
      obtain ⟨N2, c1, c2, c3, c4⟩ := d2 D q hn
      obtain ⟨hv, hD1, hD4, hq, hM⟩ := n4 D q hn
      obtain ⟨M5, m1, m2, m3⟩ := hM _ (sm_s M4 0 v)
      rw [c1, bs_e]
      simp only
      rw [if_neg (show ¬ nI D = -1 from nI_m1 (by omega)), m1, bs_e]
      obtain ⟨y1, y2⟩ := c_nb hC c2 (p := q) (a := 1) (b := 9) (c := 59) c3 hq (lo := 1) (hi := 9) (x := 59) rfl rfl (by omega) (by omega) rfl (Or.inr rfl)
      obtain ⟨v2, M6, o1, o2, o3, o4⟩ := r_ns hT m2 (a := 1) (b := 9) (c := 59) (lo := 1) (hi := 9) (x := 59) rfl rfl (by omega) (by omega) rfl (Or.inr rfl)
      unfold rLaw6
      rw [o1, bs_e]
      simp only
      rw [ast_1, bs_e]
      cases hn2 : nbS t L 1 9 59 q with
      | error e =>
        obtain ⟨f, q2⟩ := e
        obtain ⟨N3, e1, e2, e3, e4⟩ := y1 f q2 hn2
        obtain ⟨hf, hf2, -, hM2⟩ := o3 f q2 hn2
        obtain ⟨M7, m4, m5⟩ := hM2 _ (sm_s M6 1 v2)
        rw [e1, bs_e, if_pos rfl, m4, bs_e]
        exact Or.inl ⟨f, q2, N3, M7, hf, hf2, rfl, e2, e3, e4, rfl, m5⟩
      | ok e =>
        obtain ⟨Y, q2⟩ := e
        obtain ⟨N3, e1, e2, e3, e4⟩ := y2 Y q2 hn2
        obtain ⟨hv2, hY1, hY9, hq2, hM2⟩ := o4 Y q2 hn2
        obtain ⟨M7, m4, m5, m6⟩ := hM2 _ (sm_s M6 1 v2)
        rw [e1, bs_e]
        simp only
        rw [if_neg (show ¬ nI Y = -1 from nI_m1 (by omega)), m4, bs_e]
        unfold P_Hall_begin P_Hall_begin_b0
        simp only [pl_e, bs_e]
        refine Or.inr ⟨q2, D, _, M7, rfl, cf_d (cf_d (cf_d (cf_d e2 (by omega) (by omega) _) (by omega) (by omega) _) (by omega) (by omega) _) (by omega) (by omega) _, by rw [st_n (by omega), st_n (by omega), st_n (by omega), st_n (by omega)]; exact e3, rfl, m5, ?_⟩
        have hg : M7 204 = upd (upd (M 204) 0 (nI D)) 1 (nI Y) := by
          rw [m6, st_e, o2, m3, st_e, n2, s3, hv, hv2]
        rw [hg]
        refine ⟨Y, ⟨hD1, hD4, hY1, hY9, by omega⟩, ⟨by rw [up_n (by omega), up_e], by rw [up_e], by rw [up_n (by omega), up_n (by omega), h0 2 (by omega)]; rfl, by rw [up_n (by omega), up_n (by omega), h0 3 (by omega)]⟩, fun i hi => ?_, fun p hp => by omega, fun i hi hi2 => by rw [up_n (by omega), up_n (by omega), h0 i hi2]⟩
        have hi4 : i = 0 ∨ i = 1 ∨ i = 2 ∨ i = 3 := by omega
        rcases hi4 with rfl | rfl | rfl | rfl
        · rw [up_n (by omega), up_e]
          rfl
        · rw [up_e]
          rfl
        · rw [up_n (by omega), up_n (by omega), h0 2 (by omega)]
          rfl
        · rw [up_n (by omega), up_n (by omega), h0 3 (by omega)]
          rfl
  · rw [k2 hm, b1_f hm, bs_e]
    simp only [if_true]
    obtain ⟨M3, s1, s2, s3⟩ := r_must0 hO
    obtain ⟨M4, u1, u2⟩ := rLaw3_B s2 (by omega) (by omega)
    rw [s1, bs_e, u1]
    exact Or.inl ⟨1, 0, _, M4, by omega, by omega, rfl, cf_2 hF (by omega) _, by rw [st_n2 (by omega)]; exact hp, by rw [st_e, up_e]; rfl, rfl, u2⟩
