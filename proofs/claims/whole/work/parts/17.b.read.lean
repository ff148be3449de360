/-! THE REFERENCE READS: at a place, or behind a fault -/
def FRb (M0 M : fw_M) : Prop := (∀ b, b ≠ 199 → b ≠ 204 → M b = M0 b) ∧ ∀ i, (i < 12 ∨ 17 < i) → M 199 i = M0 199 i
def OKs (t : Nat → Nat) (L : Nat) (M0 M : fw_M) (p : Nat) : Prop := FRb M0 M ∧ M 199 16 = 0 ∧ AT t L M p ∧ p ≤ L
def BDs (M0 M : fw_M) (f q : Nat) : Prop := FRb M0 M ∧ M 199 16 = nI f ∧ M 199 17 = nI q
/-- the same but for the row -/
def SM (M M2 : fw_M) : Prop := ∀ b, b ≠ 204 → M2 b = M b
theorem sm_r (M : fw_M) : SM M M := fun _ _ => rfl
theorem sm_s (M : fw_M) (i : Nat) (v : Int32) : SM M (fw_set M 204 i v) := fun _ hb => st_n hb
theorem sm_t {A B C : fw_M} (h1 : SM A B) (h2 : SM B C) : SM A C := fun b hb => by rw [h2 b hb, h1 b hb]
theorem fr_sm {M0 M M2 : fw_M} (h : FRb M0 M) (hs : SM M M2) : FRb M0 M2 := ⟨fun b b1 b2 => by rw [hs b b2]; exact h.1 b b1 b2, fun i hi => by rw [hs 199 (by omega)]; exact h.2 i hi⟩
theorem ok_sm {t : Nat → Nat} {L : Nat} {M0 M M2 : fw_M} {p : Nat} (h : OKs t L M0 M p) (hs : SM M M2) : OKs t L M0 M2 p := by
  obtain ⟨h1, h2, h3, h4⟩ := h
  refine ⟨fr_sm h1 hs, by rw [hs 199 (by omega)]; exact h2, ?_, h4⟩
  unfold AT at h3 ⊢
  rw [hs 199 (by omega)]
  exact h3
theorem bd_sm {M0 M M2 : fw_M} {f q : Nat} (h : BDs M0 M f q) (hs : SM M M2) : BDs M0 M2 f q := ⟨fr_sm h.1 hs, by rw [hs 199 (by omega)]; exact h.2.1, by rw [hs 199 (by omega)]; exact h.2.2⟩
theorem tp_fr {t : Nat → Nat} {L : Nat} {M0 M : fw_M} (hT : TP t L M0) (h : FRb M0 M) : TP t L M := ⟨hT.1, by rw [h.2 11 (by omega)]; exact hT.2.1, fun j hj => by rw [h.1 207 (by omega) (by omega)]; exact hT.2.2 j hj⟩
theorem r_next {t : Nat → Nat} {L : Nat} {M0 M : fw_M} {p : Nat} (hT : TP t L M0) (hF : FRb M0 M) (h16 : M 199 16 = 0) (h12 : M 199 12 = nI p) (hp : p ≤ L) : ∃ M2, P_Mod_nextToken 199 M = some M2 ∧ OKs t L M0 M2 p ∧ M2 204 = M 204 := by
  obtain ⟨M2, q1, q2, q3, q4⟩ := m_next (tp_fr hT hF) h12 hp
  exact ⟨M2, q1, ⟨⟨fun b b1 b2 => by rw [q4 b b1]; exact hF.1 b b1 b2, fun i hi => by rw [q3 i (by omega) (by omega) (by omega) (by omega)]; exact hF.2 i hi⟩, by rw [q3 16 (by omega) (by omega) (by omega) (by omega)]; exact h16, q2, hp⟩, q4 204 (by omega)⟩
theorem r_bad {t : Nat → Nat} {L : Nat} {M0 M : fw_M} {p : Nat} (h : OKs t L M0 M p) {x : Int32} {f : Nat} (hx : x = nI f) : ∃ M2, P_Mod_bad 199 M x = some M2 ∧ BDs M0 M2 f p ∧ M2 204 = M 204 := by
  obtain ⟨h1, h2, ⟨h3, h4, h5, h6⟩, h7⟩ := h
  unfold P_Mod_bad P_Mod_bad_b0 P_Mod_bad_b20
  rw [if_pos h2, pl_e, show fw_set M 199 16 x 199 13 = nI p from h3, pl_e]
  exact ⟨_, rfl, ⟨⟨fun b b1 _ => by rw [st_n b1, st_n b1]; exact h1.1 b b1 (by assumption), fun i hi => by rw [st_n2 (by omega), st_n2 (by omega)]; exact h1.2 i hi⟩, hx, rfl⟩, rfl⟩
theorem r_badB {M0 M : fw_M} {f q : Nat} (h : BDs M0 M f q) (hf : 0 < f) (hf2 : f < 10) (x : Int32) : P_Mod_bad 199 M x = some M := by
  unfold P_Mod_bad P_Mod_bad_b0 P_Mod_bad_b20
  rw [h.2.1, if_neg (fun z => by have := (nI_e0 (show f < 1000000 by omega)).mp z; omega)]
theorem r_must1 {t : Nat → Nat} {L : Nat} {M0 M : fw_M} {p : Nat} (hT : TP t L M0) (h : OKs t L M0 M p) {x : Int32} (hx : ¬ x = 0) : ∃ M2, P_Mod_must 199 M x = some M2 ∧ OKs t L M0 M2 (tkN t L p) ∧ M2 204 = M 204 := by
  obtain ⟨M2, q1, q2⟩ := r_next hT h.1 h.2.1 h.2.2.1.2.2.2 (tkN_le h.2.2.2)
  refine ⟨M2, ?_, q2⟩
  unfold P_Mod_must P_Mod_must_b0 P_Mod_must_b9 P_Mod_must_b20
  rw [if_neg hx, if_pos h.2.1, q1, bs_e]
theorem r_mustB {M0 M : fw_M} {f q : Nat} (h : BDs M0 M f q) (hf : 0 < f) (hf2 : f < 10) (x : Int32) : P_Mod_must 199 M x = some M := by
  have h16 : ¬ M 199 16 = 0 := by
    rw [h.2.1]
    exact fun z => by have := (nI_e0 (show f < 1000000 by omega)).mp z; omega
  unfold P_Mod_must P_Mod_must_b0 P_Mod_must_b9 P_Mod_must_b20
  by_cases hx : x = 0
  · rw [if_pos hx, r_badB h hf hf2, bs_e, if_neg h16]
  · rw [if_neg hx, if_neg h16]
theorem r_must0 {t : Nat → Nat} {L : Nat} {M0 M : fw_M} {p : Nat} (h : OKs t L M0 M p) : ∃ M2, P_Mod_must 199 M 0 = some M2 ∧ BDs M0 M2 1 p ∧ M2 204 = M 204 := by
  obtain ⟨M2, q1, q2, q3⟩ := r_bad h (x := 1) (f := 1) rfl
  refine ⟨M2, ?_, q2, q3⟩
  unfold P_Mod_must P_Mod_must_b0 P_Mod_must_b9 P_Mod_must_b20
  rw [if_pos rfl, q1, bs_e, q2.2.1, if_neg (show ¬ nI 1 = 0 by decide)]
/-! kinds of tokens -/
theorem tk_lt {t : Nat → Nat} {L p : Nat} : tkK t L p < 10 := by
  unfold tkK
  split
  · omega
  · split
    · omega
    · split
      · split <;> omega
      · split <;> omega
theorem fl_no {c : Nat} (h : fig c = true) : ¬ lett c = true := by
  intro z
  unfold lett at z
  have z2 : 97 ≤ c ∧ c ≤ 122 := by simpa using z
  have := fig_b h
  omega
theorem tk3 {t : Nat → Nat} {L p : Nat} : tkK t L p = 3 ↔ run t L p = 1 ∨ run t L p = 2 := by
  unfold tkK
  by_cases hc : L ≤ p
  · rw [if_pos hc, run_0 (by omega)]
    omega
  · rw [if_neg hc]
    by_cases hf : fig (t p) = true
    · have hr := run_s (t := t) (L := L) (p := p) ⟨by omega, hf⟩
      rw [if_neg (fl_no hf), if_pos hf]
      by_cases h2 : run t L p ≤ 2
      · rw [if_pos h2]
        omega
      · rw [if_neg h2]
        omega
    · rw [if_neg hf, run_0 (fun z => hf z.2)]
      split
      · omega
      · split <;> omega
theorem tk_v {t : Nat → Nat} {L p : Nat} (h : 0 < run t L p) : tkV t L p = nI (nval t L p) ∧ tkN t L p = p + run t L p := by
  obtain ⟨h1, h2⟩ := run_p h
  unfold tkV tkN
  rw [if_neg (by omega), if_pos h2, if_neg (by omega), if_pos h2]
  exact ⟨rfl, rfl⟩
theorem nv_b {t : Nat → Nat} {L p : Nat} (h : run t L p = 1 ∨ run t L p = 2) : nval t L p < 100 := by
  obtain ⟨h1, h2⟩ := run_p (t := t) (L := L) (p := p) (by omega)
  have b1 := fig_b h2
  have hr := run_s (t := t) (L := L) (p := p) ⟨h1, h2⟩
  unfold nval
  by_cases e : run t L p = 1
  · rw [if_pos e]
    omega
  · rw [if_neg e]
    obtain ⟨h3, h4⟩ := run_p (t := t) (L := L) (p := p + 1) (by omega)
    have b2 := fig_b h4
    omega
theorem tk4 {t : Nat → Nat} {L p c : Nat} (hc : c = 44 ∨ c = 59) (ht : p < L → t p < 256) : (tkK t L p = 4 ∧ tkV t L p = nI c) ↔ (p < L ∧ t p = c) := by
  unfold tkK tkV
  by_cases hL : L ≤ p
  · rw [if_pos hL, if_pos hL]
    constructor
    · intro z
      have := z.1
      omega
    · intro z
      omega
  · have h256 := ht (by omega)
    rw [if_neg hL, if_neg hL]
    by_cases hl : lett (t p) = true
    · have hl2 : 97 ≤ t p ∧ t p ≤ 122 := by unfold lett at hl; simpa using hl
      rw [if_pos hl]
      constructor
      · intro z
        have := z.1
        omega
      · intro z
        omega
    · rw [if_neg hl]
      by_cases hf : fig (t p) = true
      · have b1 := fig_b hf
        rw [if_pos hf]
        constructor
        · intro z
          have := z.1
          split at this <;> omega
        · intro z
          omega
      · rw [if_neg hf, if_neg hf]
        by_cases hs : t p = 44 ∨ t p = 59
        · rw [if_pos hs, nI_inj (by omega) (by omega)]
          omega
        · rw [if_neg hs]
          constructor
          · intro z
            have := z.1
            omega
          · intro z
            omega
theorem r_sign {t : Nat → Nat} {L : Nat} {M0 M : fw_M} {p c : Nat} (hT : TP t L M0) (h : OKs t L M0 M p) {x : Int32} (hx : x = nI c) (hc : c = 44 ∨ c = 59) : (p < L ∧ t p = c → ∃ M2, P_Mod_mustSign 199 M x = some M2 ∧ OKs t L M0 M2 (p + 1) ∧ M2 204 = M 204) ∧ (¬ (p < L ∧ t p = c) → ∃ M2, P_Mod_mustSign 199 M x = some M2 ∧ BDs M0 M2 1 p ∧ M2 204 = M 204) := by
  have h4 := tk4 (t := t) (L := L) (p := p) hc (fun hp => (hT.2.2 p hp).2)
  obtain ⟨a1, a2, a3, a4⟩ := h.2.2.1
  have e14 : M 199 14 = 4 ↔ tkK t L p = 4 := by
    rw [a2]
    exact nI_e4 (by have := tk_lt (t := t) (L := L) (p := p); omega)
  unfold P_Mod_mustSign P_Mod_mustSign_b0 P_Mod_mustSign_b21 P_Mod_mustSign_b22
  constructor
  · intro hp
    obtain ⟨b1, b2⟩ := h4.mpr hp
    obtain ⟨M2, q1, q2, q3⟩ := r_must1 hT h (x := 1) (by decide)
    rw [show tkN t L p = p + 1 by
      unfold tkN
      rw [if_neg (by omega), if_neg (fun z => by have := fig_b z; omega)]] at q2
    refine ⟨M2, ?_, q2, q3⟩
    rw [if_pos (e14.mpr b1), if_pos (by rw [a3, b2, hx]), q1, bs_e]
  · intro hp
    obtain ⟨M2, q1, q2, q3⟩ := r_must0 h
    refine ⟨M2, ?_, q2, q3⟩
    by_cases b1 : tkK t L p = 4
    · rw [if_pos (e14.mpr b1), if_neg (fun z => hp (h4.mp ⟨b1, by rw [← a3, z, hx]⟩)), q1, bs_e]
    · rw [if_neg (fun z => b1 (e14.mp z)), q1, bs_e]
theorem r_signB {M0 M : fw_M} {f q : Nat} (h : BDs M0 M f q) (hf : 0 < f) (hf2 : f < 10) (x : Int32) : P_Mod_mustSign 199 M x = some M := by
  unfold P_Mod_mustSign P_Mod_mustSign_b0 P_Mod_mustSign_b21 P_Mod_mustSign_b22
  rw [r_mustB h hf hf2, r_mustB h hf hf2]
  simp only [bs_e, ite_self]
theorem r_num {t : Nat → Nat} {L : Nat} {M0 M : fw_M} {p a b : Nat} (hT : TP t L M0) (h : OKs t L M0 M p) {lo hi : Int32} (hlo : lo = nI a) (hhi : hi = nI b) (ha : a < 100) (hb : b < 100) : (¬ (run t L p = 1 ∨ run t L p = 2) → ∃ M2, P_Mod_number 199 M lo hi = some (lo, M2) ∧ BDs M0 M2 1 p ∧ M2 204 = M 204) ∧ (run t L p = 1 ∨ run t L p = 2 → ¬ (a ≤ nval t L p ∧ nval t L p ≤ b) → ∃ M2, P_Mod_number 199 M lo hi = some (lo, M2) ∧ BDs M0 M2 2 p ∧ M2 204 = M 204) ∧ (run t L p = 1 ∨ run t L p = 2 → (a ≤ nval t L p ∧ nval t L p ≤ b) → ∃ M2, P_Mod_number 199 M lo hi = some (nI (nval t L p), M2) ∧ OKs t L M0 M2 (p + run t L p) ∧ M2 204 = M 204) := by
  obtain ⟨a1, a2, a3, a4⟩ := h.2.2.1
  have e14 : M 199 14 = 3 ↔ tkK t L p = 3 := by
    rw [a2]
    exact nI_e3 (by have := tk_lt (t := t) (L := L) (p := p); omega)
  rw [tk3] at e14
  have no1 : ¬ nI 1 = 0 := by decide
  have no2 : ¬ nI 2 = 0 := by decide
  unfold P_Mod_number P_Mod_number_b0 P_Mod_number_b20 P_Mod_number_b47 P_Mod_number_b62
  refine ⟨fun hr => ?_, fun hr hn => ?_, fun hr hn => ?_⟩
  · obtain ⟨M2, q1, q2, q3⟩ := r_bad h (x := 1) (f := 1) rfl
    refine ⟨M2, ?_, q2, q3⟩
    rw [if_pos h.2.1, if_neg (fun z => hr (e14.mp z)), q1, bs_e, q2.2.1, if_neg no1, if_neg no1, r_mustB q2 (by omega) (by omega), bs_e]
  · have hv := nv_b hr
    obtain ⟨M2, q1, q2, q3⟩ := r_bad h (x := 2) (f := 2) rfl
    refine ⟨M2, ?_, q2, q3⟩
    rw [if_pos h.2.1, if_pos (e14.mpr hr), if_pos h.2.1, a3, (tk_v (t := t) (L := L) (p := p) (by omega)).1, in_n M (a := a) (b := b) (by rw [hlo]; exact l64 (by omega)) (by rw [hhi]; exact l64 (by omega)) (by omega), bs_e, if_pos (b1_0.mpr hn), q1, bs_e, q2.2.1, if_neg no2, r_mustB q2 (by omega) (by omega), bs_e]
  · have hv := nv_b hr
    obtain ⟨M2, q1, q2, q3⟩ := r_must1 hT h (x := 1) (by decide)
    have hk := tk_v (t := t) (L := L) (p := p) (by omega)
    rw [hk.2] at q2
    refine ⟨M2, ?_, q2, q3⟩
    rw [if_pos h.2.1, if_pos (e14.mpr hr), if_pos h.2.1, a3, hk.1, in_n M (a := a) (b := b) (by rw [hlo]; exact l64 (by omega)) (by rw [hhi]; exact l64 (by omega)) (by omega), bs_e, if_neg (fun z => (b1_0.mp z) hn), if_pos h.2.1, q1, bs_e]
theorem r_numB {M0 M : fw_M} {f q : Nat} (h : BDs M0 M f q) (hf : 0 < f) (hf2 : f < 10) (lo hi : Int32) : P_Mod_number 199 M lo hi = some (lo, M) := by
  have h16 : ¬ M 199 16 = 0 := by
    rw [h.2.1]
    exact fun z => by have := (nI_e0 (show f < 1000000 by omega)).mp z; omega
  unfold P_Mod_number P_Mod_number_b0 P_Mod_number_b20 P_Mod_number_b47 P_Mod_number_b62
  rw [if_neg h16, if_neg h16, if_neg h16, r_mustB h hf hf2, bs_e]
/-! a number and the sign behind it -/
def nbS (t : Nat → Nat) (L a b c p : Nat) : Except (Nat × Nat) (Nat × Nat) :=
  if ¬ (run t L p = 1 ∨ run t L p = 2) then .error (1, p) else if ¬ (a ≤ nval t L p ∧ nval t L p ≤ b) then .error (2, p) else if p + run t L p < L ∧ t (p + run t L p) = c then .ok (nval t L p, p + run t L p + 1) else .error (1, p + run t L p)
theorem r_ns {t : Nat → Nat} {L : Nat} {M0 M : fw_M} {p a b c : Nat} (hT : TP t L M0) (h : OKs t L M0 M p) {lo hi x : Int32} (hlo : lo = nI a) (hhi : hi = nI b) (ha : a < 100) (hb : b < 100) (hx : x = nI c) (hc : c = 44 ∨ c = 59) : ∃ (v : Int32) (M2 : fw_M), P_Mod_number 199 M lo hi = some (v, M2) ∧ M2 204 = M 204 ∧ (∀ f q, nbS t L a b c p = .error (f, q) → 0 < f ∧ f < 10 ∧ v < 1000 ∧ ∀ M3, SM M2 M3 → ∃ M4, P_Mod_mustSign 199 M3 x = some M4 ∧ BDs M0 M4 f q) ∧ ∀ w q, nbS t L a b c p = .ok (w, q) → v = nI w ∧ a ≤ w ∧ w ≤ b ∧ q ≤ L ∧ ∀ M3, SM M2 M3 → ∃ M4, P_Mod_mustSign 199 M3 x = some M4 ∧ OKs t L M0 M4 q ∧ M4 204 = M3 204 := by
  have hlo9 : lo < 1000 := by rw [hlo]; exact (nI_lt2 (a := a) (b := 1000) (by omega) (by omega)).mpr (by omega)
  obtain ⟨n1, n2, n3⟩ := r_num hT h hlo hhi ha hb
  unfold nbS
  by_cases hr : run t L p = 1 ∨ run t L p = 2
  · rw [if_neg (fun z => z hr)]
    by_cases hn : a ≤ nval t L p ∧ nval t L p ≤ b
    · rw [if_neg (fun z => z hn)]
      obtain ⟨M2, q1, q2, q3⟩ := n3 hr hn
      refine ⟨_, M2, q1, q3, ?_⟩
      by_cases hs : p + run t L p < L ∧ t (p + run t L p) = c
      · rw [if_pos hs]
        refine ⟨fun f q e => (by cases e), fun w q e => ?_⟩
        cases e
        refine ⟨rfl, hn.1, hn.2, by omega, fun M3 hM3 => ?_⟩
        obtain ⟨M4, s1, s2, s3⟩ := (r_sign hT (ok_sm q2 hM3) hx hc).1 hs
        exact ⟨M4, s1, s2, s3⟩
      · rw [if_neg hs]
        refine ⟨fun f q e => ?_, fun w q e => (by cases e)⟩
        cases e
        refine ⟨by omega, by omega, (nI_lt2 (a := nval t L p) (b := 1000) (by omega) (by omega)).mpr (by omega), fun M3 hM3 => ?_⟩
        obtain ⟨M4, s1, s2, s3⟩ := (r_sign hT (ok_sm q2 hM3) hx hc).2 hs
        exact ⟨M4, s1, s2⟩
    · rw [if_pos hn]
      obtain ⟨M2, q1, q2, q3⟩ := n2 hr hn
      refine ⟨_, M2, q1, q3, fun f q e => ?_, fun w q e => (by cases e)⟩
      cases e
      exact ⟨by omega, by omega, hlo9, fun M3 hM3 => ⟨M3, r_signB (bd_sm q2 hM3) (by omega) (by omega) x, bd_sm q2 hM3⟩⟩
  · rw [if_pos hr]
    obtain ⟨M2, q1, q2, q3⟩ := n1 hr
    refine ⟨_, M2, q1, q3, fun f q e => ?_, fun w q e => (by cases e)⟩
    cases e
    exact ⟨by omega, by omega, hlo9, fun M3 hM3 => ⟨M3, r_signB (bd_sm q2 hM3) (by omega) (by omega) x, bd_sm q2 hM3⟩⟩
/-! who comes next -/
def srt (c : Nat) : Nat := if c = 99 then 1 else if c = 115 then 2 else if c = 106 then 3 else if c = 103 then 4 else if c = 98 then 5 else 0
def srp (t : Nat → Nat) (L p : Nat) : Nat := if p < L then srt (t p) else 0
theorem srt_c {c : Nat} (h : 0 < srt c) : 97 ≤ c ∧ c ≤ 122 ∧ srt c ≤ 5 := by
  unfold srt at h ⊢
  by_cases h1 : c = 99
  · rw [if_pos h1]; omega
  · rw [if_neg h1] at h ⊢
    by_cases h2 : c = 115
    · rw [if_pos h2]; omega
    · rw [if_neg h2] at h ⊢
      by_cases h3 : c = 106
      · rw [if_pos h3]; omega
      · rw [if_neg h3] at h ⊢
        by_cases h4 : c = 103
        · rw [if_pos h4]; omega
        · rw [if_neg h4] at h ⊢
          by_cases h5 : c = 98
          · rw [if_pos h5]; omega
          · rw [if_neg h5] at h
            omega
theorem kindBy_e (M : fw_M) {c : Nat} (hc : c < 1000) : P_Mod_kindBy M (nI c) = some (if srt c = 0 then -1000000 else nI (srt c)) := by
  unfold P_Mod_kindBy P_Mod_kindBy_b0 P_Mod_kindBy_b52 srt
  simp only [show (nI c = 99) ↔ c = 99 from nI_inj (b := 99) (by omega) (by omega), show (nI c = 115) ↔ c = 115 from nI_inj (b := 115) (by omega) (by omega), show (nI c = 106) ↔ c = 106 from nI_inj (b := 106) (by omega) (by omega), show (nI c = 103) ↔ c = 103 from nI_inj (b := 103) (by omega) (by omega), show (nI c = 98) ↔ c = 98 from nI_inj (b := 98) (by omega) (by omega)]
  by_cases h1 : c = 99
  · simp only [h1, if_true]; rfl
  · by_cases h2 : c = 115
    · simp only [h2, if_true, if_false]; rfl
    · by_cases h3 : c = 106
      · simp only [h3, if_true, if_false]; rfl
      · by_cases h4 : c = 103
        · simp only [h4, if_true, if_false]; rfl
        · by_cases h5 : c = 98
          · simp only [h5, if_true, if_false]; rfl
          · simp only [h1, h2, h3, h4, h5, if_true, if_false]
theorem r_isSort {t : Nat → Nat} {L : Nat} {M0 M : fw_M} {p : Nat} (hT : TP t L M0) (h : OKs t L M0 M p) : P_Mod_isSort 199 M = some (b1 (0 < srp t L p)) := by
  obtain ⟨a1, a2, a3, a4⟩ := h.2.2.1
  have hL := hT.1
  unfold P_Mod_isSort P_Mod_isSort_b0 P_Mod_isSort_b31 P_Mod_isSort_b32
  rw [if_pos h.2.1, a2]
  simp only [nI_e2 (show tkK t L p < 1000000 by have := tk_lt (t := t) (L := L) (p := p); omega)]
  unfold tkK srp
  by_cases hc : L ≤ p
  · rw [if_pos hc, if_neg (by omega), b1_f (show ¬ 0 < (if p < L then srt (t p) else 0) by rw [if_neg (by omega)]; omega)]
    rfl
  · have h256 := (hT.2.2 p (by omega)).2
    simp only [if_neg hc, if_pos (show p < L by omega)]
    by_cases hl : lett (t p) = true
    · have hf : ¬ fig (t p) = true := fun z => fl_no z hl
      rw [if_pos hl, if_pos rfl, a3, show tkV t L p = nI (t p) by unfold tkV; rw [if_neg hc, if_neg hf], kindBy_e M (by omega), bs_e]
      by_cases hs : srt (t p) = 0
      · rw [if_pos hs, if_pos rfl, b1_f (by omega)]
        rfl
      · have hs5 := srt_c (c := t p) (by omega)
        rw [if_neg hs, if_neg (show ¬ nI (srt (t p)) = -1000000 from oM_n (s := some (srt (t p))) rfl (by omega)), b1_t (by omega)]
        rfl
    · have hs : ¬ 0 < srt (t p) := fun z => hl (by have := srt_c z; unfold lett; simp; omega)
      rw [if_neg hl, b1_f hs]
      by_cases hf : fig (t p) = true
      · rw [if_pos hf]
        by_cases h2 : run t L p ≤ 2
        · rw [if_pos h2, if_neg (by omega)]
          rfl
        · rw [if_neg h2, if_neg (by omega)]
          rfl
      · rw [if_neg hf]
        by_cases h4 : t p = 44 ∨ t p = 59
        · rw [if_pos h4, if_neg (by omega)]
          rfl
        · rw [if_neg h4, if_neg (by omega)]
          rfl
theorem r_isSortB {M0 M : fw_M} {f q : Nat} (h : BDs M0 M f q) (hf : 0 < f) (hf2 : f < 10) : P_Mod_isSort 199 M = some 0 := by
  have h16 : ¬ M 199 16 = 0 := by
    rw [h.2.1]
    exact fun z => by have := (nI_e0 (show f < 1000000 by omega)).mp z; omega
  unfold P_Mod_isSort P_Mod_isSort_b0 P_Mod_isSort_b31 P_Mod_isSort_b32
  rw [if_neg h16]
  rfl
