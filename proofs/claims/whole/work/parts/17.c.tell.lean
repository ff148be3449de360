/-! THE CLASS READS -/
def TPc (t : Nat → Nat) (L : Nat) (Mc : fw_M) : Prop := L ≤ 100 ∧ Mc 2 1 = nI L ∧ ∀ j, j < L → Mc 3 j = nI (t j) ∧ t j < 256
def CFb (Mc N : fw_M) : Prop := (∀ b, b ≠ 2 → (b < 158 ∨ 163 < b) → N b = Mc b) ∧ N 2 1 = Mc 2 1
theorem cf_2 {Mc N : fw_M} (h : CFb Mc N) {i : Nat} (hi : i ≠ 1) (v : Int32) : CFb Mc (fw_set N 2 i v) := ⟨fun b b1 b2 => by rw [st_n b1]; exact h.1 b b1 b2, by rw [st_n2 (Ne.symm hi)]; exact h.2⟩
theorem cf_d {Mc N : fw_M} (h : CFb Mc N) {a i : Nat} (h1 : 158 ≤ a) (h2 : a ≤ 163) (v : Int32) : CFb Mc (fw_set N a i v) := ⟨fun b b1 b2 => by rw [st_n (by omega)]; exact h.1 b b1 b2, by rw [st_n (by omega)]; exact h.2⟩
theorem c_here {t : Nat → Nat} {L : Nat} {Mc N : fw_M} {p : Nat} (hT : TPc t L Mc) (hF : CFb Mc N) (h2 : N 2 2 = nI p) (hp : p ≤ L) : P_Tape_here 2 N = some (if p < L then nI (t p) else -1) := by
  have hL := hT.1
  unfold P_Tape_here P_Tape_here_b0 P_Tape_here_b24
  rw [hF.2, hT.2.1, h2]
  by_cases hc : p < L
  · rw [if_neg (fun z => by have := (nI_le2 (show L < 1000000 by omega) (show p < 1000000 by omega)).mp z; omega), if_pos hc, show fw_ald N (2 + 1) 100 (nI p) = some (nI (t p)) by rw [ald_n (by omega) (by omega), hF.1 (2 + 1) (by omega) (by omega)]; exact congrArg some (hT.2.2 p hc).1, bs_e]
  · rw [if_pos ((nI_le2 (by omega) (by omega)).mpr (by omega)), if_neg hc]
theorem c_takes {t : Nat → Nat} {L : Nat} {Mc N : fw_M} {p c : Nat} (hT : TPc t L Mc) (hF : CFb Mc N) (h2 : N 2 2 = nI p) (hp : p ≤ L) {x : Int32} (hx : x = nI c) (hc : c < 256) : (p < L ∧ t p = c → P_Tape_takes 2 N x = some (1, fw_set N 2 2 (nI (p + 1)))) ∧ (¬ (p < L ∧ t p = c) → P_Tape_takes 2 N x = some (0, fw_set N 2 3 1)) := by
  have hL := hT.1
  have hh := c_here hT hF h2 hp
  unfold P_Tape_takes P_Tape_takes_b0
  rw [hh, bs_e, hx]
  constructor
  · rintro ⟨h1, h3⟩
    rw [if_pos h1, h3, if_pos rfl, h2, pl_e, nI_s]
  · intro hn
    have hne : ¬ (if p < L then nI (t p) else -1) = nI c := by
      by_cases h1 : p < L
      · rw [if_pos h1]
        intro z
        have := (nI_inj (by have := (hT.2.2 p h1).2; omega) (by omega)).mp z
        exact hn ⟨h1, this⟩
      · rw [if_neg h1]
        intro z
        exact nI_m1 (n := c) (by omega) z.symm
    rw [if_neg hne]
    rfl
theorem c_fig (N : fw_M) {c : Nat} (hc : c < 1000) : P_Tape_isFigure N (nI c) = some (b1 (fig c = true)) := by
  unfold P_Tape_isFigure P_Tape_isFigure_b0 P_Tape_isFigure_b16 P_Tape_isFigure_b17
  have e1 : (nI c < 48) ↔ c < 48 := nI_lt2 (b := 48) (by omega) (by omega)
  have e2 : (57 < nI c) ↔ 57 < c := nI_lt2 (a := 57) (by omega) (by omega)
  by_cases h1 : c < 48
  · rw [if_pos (e1.mpr h1), b1_f (fun z => by have := fig_b z; omega)]
    rfl
  · rw [if_neg (fun z => h1 (e1.mp z))]
    by_cases h2 : 57 < c
    · rw [if_pos (e2.mpr h2), b1_f (fun z => by have := fig_b z; omega)]
      rfl
    · rw [if_neg (fun z => h2 (e2.mp z)), b1_t (by unfold fig; simp; omega)]
      rfl
theorem c_stop {t : Nat → Nat} {L : Nat} {Mc N : fw_M} {q k f : Nat} {lo hi x v : Int32} (hT : TPc t L Mc) (hF : CFb Mc N) (h : ¬ (q < L ∧ fig (t q) = true) ∨ 3 ≤ k) (hk : k ≤ 3) (hq : q ≤ L) (hf : 0 < f) : P_Tape_numberBefore_h12 2 f N lo hi x (nI k) v (nI q) = P_Tape_numberBefore_b67 2 N lo hi x (nI k) v := by
  have hL := hT.1
  obtain ⟨f, rfl⟩ : ∃ g, f = g + 1 := ⟨f - 1, by omega⟩
  show P_Tape_numberBefore_b12 2 _ N _ _ _ _ _ _ = _
  unfold P_Tape_numberBefore_b12
  rw [hF.2, hT.2.1]
  by_cases hc : q < L
  · rw [if_neg (fun z => by have := (nI_le2 (show L < 1000000 by omega) (show q < 1000000 by omega)).mp z; omega)]
    by_cases h3 : 3 ≤ k
    · rw [if_pos (show (3 : Int32) ≤ nI k from (nI_le2 (a := 3) (b := k) (by omega) (by omega)).mpr h3)]
    · have hff : ¬ fig (t q) = true := by
        rcases h with h | h
        · exact fun z => h ⟨hc, z⟩
        · omega
      rw [if_neg (show ¬ (3 : Int32) ≤ nI k from fun z => h3 ((nI_le2 (a := 3) (b := k) (by omega) (by omega)).mp z)), show fw_ald N (2 + 1) 100 (nI q) = some (nI (t q)) by rw [ald_n (by omega) (by omega), hF.1 (2 + 1) (by omega) (by omega)]; exact congrArg some (hT.2.2 q hc).1, bs_e, c_fig N (by have := (hT.2.2 q hc).2; omega), bs_e, if_pos (b1_0.mpr hff)]
  · rw [if_pos ((nI_le2 (by omega) (by omega)).mpr (by omega))]
theorem c_go {t : Nat → Nat} {L : Nat} {Mc N : fw_M} {q k f v : Nat} {lo hi x : Int32} (hT : TPc t L Mc) (hF : CFb Mc N) (h : q < L ∧ fig (t q) = true) (hk : k < 3) : P_Tape_numberBefore_h12 2 (f + 1) N lo hi x (nI k) (nI v) (nI q) = P_Tape_numberBefore_h12 2 f N lo hi x (nI (k + 1)) (nI (10 * v + (t q - 48))) (nI (q + 1)) := by
  have hL := hT.1
  have hb := fig_b h.2
  show P_Tape_numberBefore_b12 2 _ N _ _ _ _ _ _ = _
  unfold P_Tape_numberBefore_b12
  rw [hF.2, hT.2.1, if_neg (fun z => by have := (nI_le2 (show L < 1000000 by omega) (show q < 1000000 by omega)).mp z; omega), if_neg (show ¬ (3 : Int32) ≤ nI k from fun z => by have := (nI_le2 (a := 3) (b := k) (by omega) (by omega)).mp z; omega), show fw_ald N (2 + 1) 100 (nI q) = some (nI (t q)) by rw [ald_n (by omega) (by omega), hF.1 (2 + 1) (by omega) (by omega)]; exact congrArg some (hT.2.2 q h.1).1, bs_e, c_fig N (by omega), bs_e, if_neg (fun z => (b1_0.mp z) h.2), bs_e, pl_e, nI_s, nI_s, show nI v * 10 + (nI (t q) - 48) = nI (10 * v + (t q - 48)) by
    rw [show (10 : Int32) = nI 10 from rfl, show (48 : Int32) = nI 48 from rfl, pk_mul, nI_sub (by omega), nI_add, Nat.mul_comm]]
theorem c_67b {N : fw_M} {k : Nat} {lo hi x v : Int32} (hk : k = 0 ∨ k = 3) : P_Tape_numberBefore_b67 2 N lo hi x (nI k) v = some (-1, fw_set N 2 3 1) := by
  unfold P_Tape_numberBefore_b67 P_Tape_numberBefore_b78
  rcases hk with rfl | rfl
  · rw [if_pos (show nI 0 = 0 from rfl)]
    rfl
  · rw [if_neg (show ¬ nI 3 = 0 by decide), if_neg (show ¬ nI 3 ≤ 2 by decide)]
    rfl
theorem c_67 {t : Nat → Nat} {L : Nat} {Mc N : fw_M} {p k a b c w : Nat} (hT : TPc t L Mc) (hF : CFb Mc N) (h2 : N 2 2 = nI p) (hk : k = 1 ∨ k = 2) (hp : p + k ≤ L) {lo hi x : Int32} (hlo : lo = nI a) (hhi : hi = nI b) (ha : a < 100) (hb : b < 100) (hw : w < 1000) (hx : x = nI c) (hc : c = 44 ∨ c = 59) : P_Tape_numberBefore_b67 2 N lo hi x (nI k) (nI w) = if ¬ (a ≤ w ∧ w ≤ b) then some (-1, fw_set N 2 3 2) else if p + k < L ∧ t (p + k) = c then some (nI w, fw_set (fw_set N 2 2 (nI (p + k))) 2 2 (nI (p + k + 1))) else some (-1, fw_set (fw_set N 2 2 (nI (p + k))) 2 3 1) := by
  have hL := hT.1
  unfold P_Tape_numberBefore_b67 P_Tape_numberBefore_b129
  rw [if_neg (fun z => by have := (nI_e0 (show k < 1000000 by omega)).mp z; omega), if_pos (show nI k ≤ 2 from (nI_le2 (a := k) (b := 2) (by omega) (by omega)).mpr (by omega)), p_wn N (nI w) (lo := lo) (hi := hi) (m := (a : Int)) (n := (b : Int)) (by rw [hlo, tI (by omega)]) (by rw [hhi, tI (by omega)]), bs_e, tI (by omega)]
  by_cases hn : a ≤ w ∧ w ≤ b
  · rw [b1_t (by omega), if_neg (show ¬ (1 : Int32) = 0 by decide), if_neg (fun z => z hn), h2, pl_e, nI_a]
    obtain ⟨s1, s2⟩ := c_takes (N := fw_set N 2 2 (nI (p + k))) (p := p + k) hT (cf_2 hF (by omega) _) (by rw [st_e, up_e]) (by omega) hx (by omega)
    by_cases hs : p + k < L ∧ t (p + k) = c
    · rw [s1 hs, if_pos hs, bs_e, if_neg (show ¬ (1 : Int32) = 0 by decide)]
    · rw [s2 hs, if_neg hs, bs_e, if_pos rfl]
  · rw [b1_f (by omega), if_pos rfl, if_pos hn]
    rfl
theorem c_nb {t : Nat → Nat} {L : Nat} {Mc N : fw_M} {p a b c : Nat} (hT : TPc t L Mc) (hF : CFb Mc N) (h2 : N 2 2 = nI p) (hp : p ≤ L) {lo hi x : Int32} (hlo : lo = nI a) (hhi : hi = nI b) (ha : a < 100) (hb : b < 100) (hx : x = nI c) (hc : c = 44 ∨ c = 59) : (∀ f q, nbS t L a b c p = .error (f, q) → ∃ N2, P_Tape_numberBefore 2 N lo hi x = some (-1, N2) ∧ CFb Mc N2 ∧ N2 2 2 = nI q ∧ N2 2 3 = nI f) ∧ ∀ w q, nbS t L a b c p = .ok (w, q) → ∃ N2, P_Tape_numberBefore 2 N lo hi x = some (nI w, N2) ∧ CFb Mc N2 ∧ N2 2 2 = nI q ∧ ∀ b, b ≠ 2 → N2 b = N b := by
  have hfu := fw_fu_ge
  have hL := hT.1
  obtain ⟨f0, hf0⟩ : ∃ g, fw_fu = g + 3 := ⟨fw_fu - 3, by omega⟩
  have hle := run_le (t := t) hp
  have e0 : P_Tape_numberBefore 2 N lo hi x = P_Tape_numberBefore_h12 2 fw_fu N lo hi x 0 0 (nI p) := by
    unfold P_Tape_numberBefore P_Tape_numberBefore_b0
    rw [h2, pl_e]
  have bad : ¬ (run t L p = 1 ∨ run t L p = 2) → P_Tape_numberBefore_h12 2 fw_fu N lo hi x 0 0 (nI p) = some (-1, fw_set N 2 3 1) := by
    intro hr
    by_cases h1 : p < L ∧ fig (t p) = true
    · have r1 := run_s h1
      have h3 := run_p (t := t) (L := L) (p := p + 1) (by omega)
      have r2 := run_s h3
      have h4 := run_p (t := t) (L := L) (p := p + 1 + 1) (by omega)
      have r3 := run_s h4
      have s1 := c_go (N := N) (q := p) (k := 0) (f := f0 + 2) (v := 0) (lo := lo) (hi := hi) (x := x) hT hF h1 (by omega)
      have s2 := c_go (N := N) (q := p + 1) (k := 0 + 1) (f := f0 + 1) (v := 10 * 0 + (t p - 48)) (lo := lo) (hi := hi) (x := x) hT hF h3 (by omega)
      have s3 := c_go (N := N) (q := p + 1 + 1) (k := 0 + 1 + 1) (f := f0) (v := 10 * (10 * 0 + (t p - 48)) + (t (p + 1) - 48)) (lo := lo) (hi := hi) (x := x) hT hF h4 (by omega)
      have e1 : P_Tape_numberBefore_h12 2 fw_fu N lo hi x 0 0 (nI p) = P_Tape_numberBefore_h12 2 (f0 + 2) N lo hi x (nI (0 + 1)) (nI (10 * 0 + (t p - 48))) (nI (p + 1)) := by
        rw [hf0]
        exact s1
      by_cases hf00 : f0 = 0
      · omega
      · rw [e1, s2, s3, c_stop (q := p + 1 + 1 + 1) (k := 0 + 1 + 1 + 1) hT hF (Or.inr (by omega)) (by omega) (by omega) (by omega), c_67b (k := 0 + 1 + 1 + 1) (Or.inr rfl)]
    · have s0 := c_stop (N := N) (q := p) (k := 0) (f := fw_fu) (lo := lo) (hi := hi) (x := x) (v := 0) hT hF (Or.inl h1) (by omega) hp (by omega)
      have s1 : P_Tape_numberBefore_h12 2 fw_fu N lo hi x 0 0 (nI p) = _ := s0
      rw [s1, c_67b (k := 0) (Or.inl rfl)]
  have good : run t L p = 1 ∨ run t L p = 2 → P_Tape_numberBefore_h12 2 fw_fu N lo hi x 0 0 (nI p) = P_Tape_numberBefore_b67 2 N lo hi x (nI (run t L p)) (nI (nval t L p)) := by
    intro hr
    have h1 := run_p (t := t) (L := L) (p := p) (by omega)
    have r1 := run_s h1
    have s1 := c_go (N := N) (q := p) (k := 0) (f := f0 + 2) (v := 0) (lo := lo) (hi := hi) (x := x) hT hF h1 (by omega)
    have e1 : P_Tape_numberBefore_h12 2 fw_fu N lo hi x 0 0 (nI p) = P_Tape_numberBefore_h12 2 (f0 + 2) N lo hi x (nI (0 + 1)) (nI (10 * 0 + (t p - 48))) (nI (p + 1)) := by
      rw [hf0]
      exact s1
    rw [e1]
    by_cases hr1 : run t L p = 1
    · have hn : ¬ (p + 1 < L ∧ fig (t (p + 1)) = true) := fun z => by have := run_s z; omega
      rw [c_stop (q := p + 1) (k := 0 + 1) hT hF (Or.inl hn) (by omega) (by omega) (by omega), hr1]
      unfold nval
      rw [if_pos hr1, show 10 * 0 + (t p - 48) = t p - 48 by omega]
    · have h3 := run_p (t := t) (L := L) (p := p + 1) (by omega)
      have r2 := run_s h3
      have hn : ¬ (p + 1 + 1 < L ∧ fig (t (p + 1 + 1)) = true) := fun z => by have := run_s z; omega
      have hr2 : run t L p = 2 := by omega
      rw [c_go (N := N) (q := p + 1) (k := 0 + 1) (f := f0 + 1) (v := 10 * 0 + (t p - 48)) hT hF h3 (by omega), c_stop (q := p + 1 + 1) (k := 0 + 1 + 1) hT hF (Or.inl hn) (by omega) (by omega) (by omega), hr2]
      unfold nval
      rw [if_neg hr1, show 10 * (10 * 0 + (t p - 48)) + (t (p + 1) - 48) = 10 * (t p - 48) + (t (p + 1) - 48) by omega]
  rw [e0]
  unfold nbS
  by_cases hr : run t L p = 1 ∨ run t L p = 2
  · have hv := nv_b hr
    rw [if_neg (fun z => z hr), good hr, c_67 hT hF h2 hr hle hlo hhi ha hb (by omega) hx hc]
    by_cases hn : a ≤ nval t L p ∧ nval t L p ≤ b
    · have hnn : ¬ ¬ (a ≤ nval t L p ∧ nval t L p ≤ b) := fun z => z hn
      simp only [if_neg hnn]
      by_cases hs : p + run t L p < L ∧ t (p + run t L p) = c
      · simp only [if_pos hs]
        refine ⟨fun f q e => (by cases e), fun w q e => ?_⟩
        cases e
        exact ⟨_, rfl, cf_2 (cf_2 hF (by omega) _) (by omega) _, by rw [st_e, up_e], fun b hb => by rw [st_n hb, st_n hb]⟩
      · simp only [if_neg hs]
        refine ⟨fun f q e => ?_, fun w q e => (by cases e)⟩
        cases e
        exact ⟨_, rfl, cf_2 (cf_2 hF (by omega) _) (by omega) _, by rw [st_n2 (by omega), st_e, up_e], by rw [st_e, up_e]; rfl⟩
    · simp only [if_pos hn]
      refine ⟨fun f q e => ?_, fun w q e => (by cases e)⟩
      cases e
      exact ⟨_, rfl, cf_2 hF (by omega) _, by rw [st_n2 (by omega)]; exact h2, by rw [st_e, up_e]; rfl⟩
  · rw [if_pos hr, bad hr]
    refine ⟨fun f q e => ?_, fun w q e => (by cases e)⟩
    cases e
    exact ⟨_, rfl, cf_2 hF (by omega) _, by rw [st_n2 (by omega)]; exact h2, by rw [st_e, up_e]; rfl⟩
theorem c_kind (N : fw_M) {t : Nat → Nat} {L p : Nat} (h : p < L → t p < 256) : P_Tape_kindTold N (if p < L then nI (t p) else -1) = some (nI (srp t L p)) := by
  unfold P_Tape_kindTold P_Tape_kindTold_b0 srp
  by_cases hc : p < L
  · have h256 := h hc
    rw [if_pos hc, if_pos hc]
    unfold srt
    simp only [show (nI (t p) = 99) ↔ t p = 99 from nI_inj (b := 99) (by omega) (by omega), show (nI (t p) = 115) ↔ t p = 115 from nI_inj (b := 115) (by omega) (by omega), show (nI (t p) = 106) ↔ t p = 106 from nI_inj (b := 106) (by omega) (by omega), show (nI (t p) = 103) ↔ t p = 103 from nI_inj (b := 103) (by omega) (by omega), show (nI (t p) = 98) ↔ t p = 98 from nI_inj (b := 98) (by omega) (by omega)]
    by_cases h1 : t p = 98
    · simp only [h1, if_true]; rfl
    · by_cases h2 : t p = 99
      · simp only [h2, if_true, if_false]; rfl
      · by_cases h3 : t p = 103
        · simp only [h3, if_true, if_false]; rfl
        · by_cases h4 : t p = 106
          · simp only [h4, if_true, if_false]; rfl
          · by_cases h5 : t p = 115
            · simp only [h5, if_true, if_false]; rfl
            · simp only [h1, h2, h3, h4, h5, if_true, if_false]; rfl
  · rw [if_neg hc, if_neg hc]
    rfl
