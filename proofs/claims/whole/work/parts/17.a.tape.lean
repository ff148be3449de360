/-! THE TAPE: figures, letters, tokens -/
def fig (c : Nat) : Bool := decide (48 ≤ c) && decide (c ≤ 57)
def lett (c : Nat) : Bool := decide (97 ≤ c) && decide (c ≤ 122)
def rn (t : Nat → Nat) (L : Nat) : Nat → Nat → Nat
  | 0, _ => 0
  | r + 1, p => if p < L ∧ fig (t p) = true then rn t L r (p + 1) + 1 else 0
def run (t : Nat → Nat) (L p : Nat) : Nat := rn t L (L - p) p
theorem run_0 {t : Nat → Nat} {L p : Nat} (h : ¬ (p < L ∧ fig (t p) = true)) : run t L p = 0 := by
  unfold run
  cases L - p with
  | zero => rfl
  | succ r => exact if_neg h
theorem run_s {t : Nat → Nat} {L p : Nat} (h : p < L ∧ fig (t p) = true) : run t L p = run t L (p + 1) + 1 := by
  unfold run
  rw [show L - p = (L - (p + 1)) + 1 by omega]
  exact if_pos h
theorem rn_le (t : Nat → Nat) (L : Nat) : ∀ r p, rn t L r p ≤ r
  | 0, _ => Nat.le_refl 0
  | r + 1, p => by
    have := rn_le t L r (p + 1)
    simp only [rn]
    split <;> omega
theorem run_le {t : Nat → Nat} {L p : Nat} (h : p ≤ L) : p + run t L p ≤ L := by
  have := rn_le t L (L - p) p
  unfold run
  omega
theorem run_p {t : Nat → Nat} {L p : Nat} (h : 0 < run t L p) : p < L ∧ fig (t p) = true := by
  by_cases z : p < L ∧ fig (t p) = true
  · exact z
  · rw [run_0 z] at h
    omega
theorem fig_b {c : Nat} (h : fig c = true) : 48 ≤ c ∧ c ≤ 57 := by
  unfold fig at h
  simpa using h
def nval (t : Nat → Nat) (L p : Nat) : Nat := if run t L p = 1 then t p - 48 else 10 * (t p - 48) + (t (p + 1) - 48)
def tkK (t : Nat → Nat) (L p : Nat) : Nat := if L ≤ p then 1 else if lett (t p) = true then 2 else if fig (t p) = true then (if run t L p ≤ 2 then 3 else 0) else if t p = 44 ∨ t p = 59 then 4 else 0
def tkV (t : Nat → Nat) (L p : Nat) : Int32 := if L ≤ p then -1000000 else if fig (t p) = true then nI (nval t L p) else nI (t p)
def tkN (t : Nat → Nat) (L p : Nat) : Nat := if L ≤ p then p else if fig (t p) = true then p + run t L p else p + 1
theorem tkN_le {t : Nat → Nat} {L p : Nat} (h : p ≤ L) : tkN t L p ≤ L := by
  have := run_le (t := t) h
  unfold tkN
  split
  · exact h
  · split <;> omega
def TP (t : Nat → Nat) (L : Nat) (M : fw_M) : Prop := L ≤ 100 ∧ M 199 11 = nI L ∧ ∀ j, j < L → M 207 j = nI (t j) ∧ t j < 256
theorem in_n (M : fw_M) {c a b : Nat} {lo hi : Int64} (h1 : lo.toInt = (a : Int)) (h2 : hi.toInt = (b : Int)) (hc : c < 1000000) : P_Mod_in M (Int32.toInt64 (nI c)) lo hi = some (b1 (a ≤ c ∧ c ≤ b)) := by
  rw [p_inn M (nI c) h1 h2]
  exact congrArg some (b1_c (by rw [tI hc]; omega))
theorem m_figs {t : Nat → Nat} {L p : Nat} : ∀ (r q v f : Nat) (N : fw_M), q + r = L → r < f → TP t L N → N 199 12 = nI q → N 199 13 = nI p → N 199 15 = nI v → p < q → (q = p + 1 → v < 10) → v < 1000 → ∃ M2, P_Mod_nextToken_h165 199 f N = some M2 ∧ M2 199 12 = nI (q + run t L q) ∧ M2 199 14 = nI (if q + run t L q - p ≤ 2 then 3 else 0) ∧ M2 199 15 = nI (if q = p + 1 ∧ 0 < run t L q then 10 * v + (t q - 48) else v) ∧ (∀ i, i ≠ 12 → i ≠ 14 → i ≠ 15 → M2 199 i = N 199 i) ∧ ∀ b, b ≠ 199 → M2 b = N b := by
  have fin : ∀ (q v : Nat) (N : fw_M), q ≤ L → TP t L N → run t L q = 0 → N 199 12 = nI q → N 199 13 = nI p → N 199 15 = nI v → p < q → ∃ M2, P_Mod_nextToken_b255 199 N = some M2 ∧ M2 199 12 = nI (q + run t L q) ∧ M2 199 14 = nI (if q + run t L q - p ≤ 2 then 3 else 0) ∧ M2 199 15 = nI (if q = p + 1 ∧ 0 < run t L q then 10 * v + (t q - 48) else v) ∧ (∀ i, i ≠ 12 → i ≠ 14 → i ≠ 15 → M2 199 i = N 199 i) ∧ ∀ b, b ≠ 199 → M2 b = N b := by
    intro q v N hq hT hr h12 h13 h15 hpq
    have hL := hT.1
    rw [hr, Nat.add_zero, if_neg (show ¬ (q = p + 1 ∧ 0 < 0) by omega)]
    unfold P_Mod_nextToken_b255 P_Mod_nextToken_b274 P_Mod_nextToken_b277
    rw [h12, h13, nI_sub (by omega)]
    by_cases hc : q - p ≤ 2
    · rw [if_pos (show nI (q - p) ≤ 2 from (nI_le2 (a := q - p) (b := 2) (by omega) (by omega)).mpr hc), if_pos hc, pl_e]
      exact ⟨_, rfl, h12, rfl, h15, fun i _ h14 _ => st_n2 h14, fun b hb => st_n hb⟩
    · rw [if_neg (show ¬ nI (q - p) ≤ 2 from fun z => hc ((nI_le2 (a := q - p) (b := 2) (by omega) (by omega)).mp z)), if_neg hc, pl_e]
      exact ⟨_, rfl, h12, rfl, h15, fun i _ h14 _ => st_n2 h14, fun b hb => st_n hb⟩
  intro r
  induction r with
  | zero =>
    intro q v f N hj hf hT h12 h13 h15 hpq hv1 hv
    obtain ⟨f, rfl⟩ : ∃ g, f = g + 1 := ⟨f - 1, by omega⟩
    have hL := hT.1
    obtain ⟨M2, q1, q2⟩ := fin q v N (by omega) hT (run_0 (by omega)) h12 h13 h15 hpq
    refine ⟨M2, ?_, q2⟩
    show P_Mod_nextToken_b165 199 _ N = _
    unfold P_Mod_nextToken_b165
    rw [hT.2.1, h12, if_pos ((nI_le2 (by omega) (by omega)).mpr (by omega))]
    exact q1
  | succ r ih =>
    intro q v f N hj hf hT h12 h13 h15 hpq hv1 hv
    obtain ⟨f, rfl⟩ : ∃ g, f = g + 1 := ⟨f - 1, by omega⟩
    have hL := hT.1
    obtain ⟨tq, t256⟩ := hT.2.2 q (by omega)
    have hald : fw_ald N (199 + 8) 100 (nI q) = some (nI (t q)) := by rw [ald_n (by omega) (by omega)]; exact congrArg some tq
    have hin : P_Mod_in N (Int32.toInt64 (nI (t q))) 48 57 = some (b1 (48 ≤ t q ∧ t q ≤ 57)) := in_n N rfl rfl (by omega)
    show ∃ M2, P_Mod_nextToken_b165 199 _ N = _ ∧ _
    unfold P_Mod_nextToken_b165 P_Mod_nextToken_b239
    rw [hT.2.1, h12, if_neg (fun z => by have := (nI_le2 (show L < 1000000 by omega) (show q < 1000000 by omega)).mp z; omega), hald, bs_e, hin, bs_e]
    simp only [b1_0]
    by_cases hfg : 48 ≤ t q ∧ t q ≤ 57
    · rw [if_neg (fun z => z hfg)]
      have hfig : fig (t q) = true := by unfold fig; simp [hfg]
      have hr := run_s (t := t) (L := L) (p := q) ⟨by omega, hfig⟩
      rw [h13, nI_sub (by omega), h15]
      by_cases h2 : 2 ≤ q - p
      · rw [if_pos (show (2 : Int32) ≤ nI (q - p) from (nI_le2 (a := 2) (b := q - p) (by omega) (by omega)).mpr h2), pl_e, show fw_set N 199 15 (nI v) 199 12 = nI q from h12, pl_e, nI_s]
        obtain ⟨M2, q1, q2, q3, q4, q5, q6⟩ := ih (q + 1) v f (fw_set (fw_set N 199 15 (nI v)) 199 12 (nI (q + 1))) (by omega) (by omega) ⟨hL, hT.2.1, hT.2.2⟩ rfl h13 rfl (by omega) (by omega) hv
        refine ⟨M2, q1, by rw [q2, hr]; congr 1; omega, by rw [q3, hr, show q + 1 + run t L (q + 1) = q + (run t L (q + 1) + 1) by omega], ?_, fun i h1 h2 h3 => by rw [q5 i h1 h2 h3, st_n2 h1, st_n2 h3], fun b hb => by rw [q6 b hb, st_n hb, st_n hb]⟩
        rw [q4, if_neg (by omega), if_neg (by omega)]
      · rw [if_neg (show ¬ (2 : Int32) ≤ nI (q - p) from fun z => h2 ((nI_le2 (a := 2) (b := q - p) (by omega) (by omega)).mp z)), bs_e, show (10 : Int32) * nI v + nI (t q) - 48 = nI (10 * v + (t q - 48)) by
          rw [show (10 : Int32) = nI 10 from rfl, show (48 : Int32) = nI 48 from rfl, pk_mul, nI_add, nI_sub (by omega)]
          congr 1
          omega, pl_e, show fw_set N 199 15 (nI (10 * v + (t q - 48))) 199 12 = nI q from h12, pl_e, nI_s]
        have hq1 : q = p + 1 := by omega
        have := hv1 hq1
        obtain ⟨M2, q1, q2, q3, q4, q5, q6⟩ := ih (q + 1) (10 * v + (t q - 48)) f (fw_set (fw_set N 199 15 (nI (10 * v + (t q - 48)))) 199 12 (nI (q + 1))) (by omega) (by omega) ⟨hL, hT.2.1, hT.2.2⟩ rfl h13 rfl (by omega) (by omega) (by omega)
        refine ⟨M2, q1, by rw [q2, hr]; congr 1; omega, by rw [q3, hr, show q + 1 + run t L (q + 1) = q + (run t L (q + 1) + 1) by omega], ?_, fun i h1 h2 h3 => by rw [q5 i h1 h2 h3, st_n2 h1, st_n2 h3], fun b hb => by rw [q6 b hb, st_n hb, st_n hb]⟩
        rw [q4, if_neg (by omega), if_pos ⟨hq1, by omega⟩]
    · rw [if_pos hfg]
      have hfig : ¬ fig (t q) = true := fun z => hfg (fig_b z)
      exact fin q v N (by omega) hT (run_0 (fun z => hfig z.2)) h12 h13 h15 hpq
def AT (t : Nat → Nat) (L : Nat) (M : fw_M) (p : Nat) : Prop := M 199 13 = nI p ∧ M 199 14 = nI (tkK t L p) ∧ M 199 15 = tkV t L p ∧ M 199 12 = nI (tkN t L p)
theorem nx_142 {N : fw_M} {a b : Int32} (h : ¬ N 199 14 = 3) : P_Mod_nextToken_b142 199 N a b = some (fw_set N 199 12 (a + b)) := by
  unfold P_Mod_nextToken_b142 P_Mod_nextToken_b277
  rw [pl_e, if_neg (show ¬ fw_set N 199 12 (a + b) 199 14 = 3 from h)]
theorem nx_118 {N : fw_M} {k : Int32} {q L : Nat} (h11 : N 199 11 = nI L) (h12 : N 199 12 = nI q) (hq : q ≤ L) (hL : L ≤ 100) (hk : ¬ k = 3) : P_Mod_nextToken_b118 199 N k = some (fw_set (fw_set N 199 14 k) 199 12 (nI (if L ≤ q then q else q + 1))) := by
  unfold P_Mod_nextToken_b118
  rw [pl_e, show fw_set N 199 14 k 199 11 = nI L from h11, show fw_set N 199 14 k 199 12 = nI q from h12]
  by_cases hc : L ≤ q
  · rw [if_pos ((nI_le2 (by omega) (by omega)).mpr hc), nx_142 (show ¬ fw_set N 199 14 k 199 14 = 3 from hk), if_pos hc, Int32.add_zero]
  · rw [if_neg (fun z => hc ((nI_le2 (show L < 1000000 by omega) (show q < 1000000 by omega)).mp z)), nx_142 (show ¬ fw_set N 199 14 k 199 14 = 3 from hk), if_neg hc, nI_s]
theorem nx_118f {N : fw_M} {q L : Nat} {v : Int32} (h11 : N 199 11 = nI L) (h12 : N 199 12 = nI q) (h15 : N 199 15 = v) (hq : q < L) (hL : L ≤ 100) : P_Mod_nextToken_b118 199 N 3 = P_Mod_nextToken_h165 199 fw_fu (fw_set (fw_set (fw_set N 199 14 3) 199 12 (nI (q + 1))) 199 15 (v - 48)) := by
  unfold P_Mod_nextToken_b118
  rw [pl_e, show fw_set N 199 14 3 199 11 = nI L from h11, show fw_set N 199 14 3 199 12 = nI q from h12, if_neg (fun z => by have := (nI_le2 (show L < 1000000 by omega) (show q < 1000000 by omega)).mp z; omega)]
  unfold P_Mod_nextToken_b142
  rw [pl_e, nI_s, if_pos (show fw_set (fw_set N 199 14 3) 199 12 (nI (q + 1)) 199 14 = 3 from rfl), pl_e, show fw_set (fw_set N 199 14 3) 199 12 (nI (q + 1)) 199 15 = v from h15]
theorem m_next {t : Nat → Nat} {L p : Nat} {M : fw_M} (hT : TP t L M) (h12 : M 199 12 = nI p) (hp : p ≤ L) : ∃ M2, P_Mod_nextToken 199 M = some M2 ∧ AT t L M2 p ∧ (∀ i, i ≠ 12 → i ≠ 13 → i ≠ 14 → i ≠ 15 → M2 199 i = M 199 i) ∧ ∀ b, b ≠ 199 → M2 b = M b := by
  have hfu := fw_fu_ge
  have hL := hT.1
  unfold P_Mod_nextToken P_Mod_nextToken_b0
  rw [h12, pl_e, show fw_set M 199 13 (nI p) 199 11 = nI L from hT.2.1, show fw_set M 199 13 (nI p) 199 12 = nI p from h12]
  by_cases hc : L ≤ p
  · have hpL : p = L := by omega
    rw [if_pos ((nI_le2 (by omega) (by omega)).mpr hc)]
    unfold P_Mod_nextToken_b34
    rw [pl_e, show fw_set (fw_set M 199 13 (nI p)) 199 15 (-1000000) 199 12 = nI p from h12, show fw_set (fw_set M 199 13 (nI p)) 199 15 (-1000000) 199 11 = nI L from hT.2.1, if_pos (show nI p = nI L by rw [hpL]), nx_118 (N := fw_set (fw_set M 199 13 (nI p)) 199 15 (-1000000)) (k := 1) hT.2.1 h12 hp hL (by decide)]
    refine ⟨_, rfl, ⟨rfl, ?_, ?_, ?_⟩, fun i h1 h2 h3 h4 => by rw [st_n2 h1, st_n2 h3, st_n2 h4, st_n2 h2], fun b hb => by rw [st_n hb, st_n hb, st_n hb, st_n hb]⟩
    · unfold tkK
      rw [if_pos hc, if_pos hc]
      rfl
    · unfold tkV
      rw [if_pos hc, if_pos hc]
      rfl
    · unfold tkN
      rw [if_pos hc, if_pos hc]
      rfl
  · obtain ⟨tp, t256⟩ := hT.2.2 p (by omega)
    rw [if_neg (fun z => hc ((nI_le2 (show L < 1000000 by omega) (show p < 1000000 by omega)).mp z)), show fw_ald (fw_set M 199 13 (nI p)) (199 + 8) 100 (nI p) = some (nI (t p)) by rw [ald_n (by omega) (by omega)]; exact congrArg some tp, bs_e]
    have fin : ∀ (k : Int32) (kn : Nat), k = nI kn → ¬ k = 3 → kn = tkK t L p → fig (t p) = false → ∃ M2, P_Mod_nextToken_b118 199 (fw_set (fw_set M 199 13 (nI p)) 199 15 (nI (t p))) k = some M2 ∧ AT t L M2 p ∧ (∀ i, i ≠ 12 → i ≠ 13 → i ≠ 14 → i ≠ 15 → M2 199 i = M 199 i) ∧ ∀ b, b ≠ 199 → M2 b = M b := by
      intro k kn hk h3 hkn hf
      rw [nx_118 (N := fw_set (fw_set M 199 13 (nI p)) 199 15 (nI (t p))) (k := k) hT.2.1 h12 hp hL h3]
      refine ⟨_, rfl, ⟨rfl, ?_, ?_, ?_⟩, fun i h1 h2 h3 h4 => by rw [st_n2 h1, st_n2 h3, st_n2 h4, st_n2 h2], fun b hb => by rw [st_n hb, st_n hb, st_n hb, st_n hb]⟩
      · rw [← hkn, ← hk]
        rfl
      · unfold tkV
        rw [if_neg hc, if_neg hc, hf, if_neg (by simp)]
        rfl
      · unfold tkN
        rw [if_neg hc, if_neg hc, hf, if_neg (by simp)]
        rfl
    unfold P_Mod_nextToken_b34 P_Mod_nextToken_b113
    rw [pl_e, show fw_set (fw_set M 199 13 (nI p)) 199 15 (nI (t p)) 199 12 = nI p from h12, show fw_set (fw_set M 199 13 (nI p)) 199 15 (nI (t p)) 199 11 = nI L from hT.2.1, show fw_set (fw_set M 199 13 (nI p)) 199 15 (nI (t p)) 199 15 = nI (t p) from rfl, if_neg (show ¬ nI p = nI L from fun z => hc (by have := (nI_inj (show p < 1000000 by omega) (show L < 1000000 by omega)).mp z; omega)), show P_Mod_in (fw_set (fw_set M 199 13 (nI p)) 199 15 (nI (t p))) (Int32.toInt64 (nI (t p))) 97 122 = some (b1 (97 ≤ t p ∧ t p ≤ 122)) from in_n _ rfl rfl (by omega), bs_e, show P_Mod_in (fw_set (fw_set M 199 13 (nI p)) 199 15 (nI (t p))) (Int32.toInt64 (nI (t p))) 48 57 = some (b1 (48 ≤ t p ∧ t p ≤ 57)) from in_n _ rfl rfl (by omega), bs_e]
    simp only [b1_0]
    by_cases hl : 97 ≤ t p ∧ t p ≤ 122
    · rw [if_neg (fun z => z hl)]
      have hlt : lett (t p) = true := by unfold lett; simp [hl]
      refine fin 2 2 rfl (by decide) ?_ ?_
      · unfold tkK
        rw [if_neg hc, if_pos hlt]
      · cases h : fig (t p) with
        | false => rfl
        | true => have := fig_b h; omega
    · rw [if_pos hl]
      have hlt : ¬ lett (t p) = true := fun z => hl (by unfold lett at z; simpa using z)
      by_cases hfg : 48 ≤ t p ∧ t p ≤ 57
      · rw [if_neg (fun z => z hfg)]
        have hfig : fig (t p) = true := by unfold fig; simp [hfg]
        have hr := run_s (t := t) (L := L) (p := p) ⟨by omega, hfig⟩
        rw [nx_118f (N := fw_set (fw_set M 199 13 (nI p)) 199 15 (nI (t p))) (q := p) (L := L) (v := nI (t p)) hT.2.1 h12 rfl (by omega) hL, show nI (t p) - 48 = nI (t p - 48) from nI_sub (b := 48) (by omega)]
        obtain ⟨M2, q1, q2, q3, q4, q5, q6⟩ := m_figs (t := t) (L := L) (p := p) (L - (p + 1)) (p + 1) (t p - 48) fw_fu (fw_set (fw_set (fw_set (fw_set (fw_set M 199 13 (nI p)) 199 15 (nI (t p))) 199 14 3) 199 12 (nI (p + 1))) 199 15 (nI (t p - 48))) (by omega) (by omega) ⟨hL, hT.2.1, hT.2.2⟩ rfl rfl rfl (by omega) (by omega) (by omega)
        refine ⟨M2, q1, ⟨q5 13 (by omega) (by omega) (by omega), ?_, ?_, ?_⟩, fun i h1 h2 h3 h4 => by rw [q5 i h1 h3 h4, st_n2 h4, st_n2 h1, st_n2 h3, st_n2 h4, st_n2 h2], fun b hb => by rw [q6 b hb, st_n hb, st_n hb, st_n hb, st_n hb, st_n hb]⟩
        · rw [q3]
          unfold tkK
          rw [if_neg hc, if_neg hlt, if_pos hfig, hr, show p + 1 + run t L (p + 1) - p = run t L (p + 1) + 1 by omega]
        · rw [q4]
          unfold tkV nval
          rw [if_neg hc, if_pos hfig, hr]
          by_cases hz : run t L (p + 1) = 0
          · rw [hz, if_neg (by omega), if_pos (by omega)]
          · rw [if_pos ⟨rfl, by omega⟩, if_neg (by omega)]
        · rw [q2]
          unfold tkN
          rw [if_neg hc, if_pos hfig, hr, show p + 1 + run t L (p + 1) = p + (run t L (p + 1) + 1) by omega]
      · rw [if_pos hfg]
        have hfig : fig (t p) = false := by
          cases h : fig (t p) with
          | false => rfl
          | true => exact absurd (fig_b h) hfg
        have hfn : ¬ fig (t p) = true := by rw [hfig]; simp
        simp only [show (nI (t p) = 44) ↔ t p = 44 from nI_inj (b := 44) (by omega) (by omega), show (nI (t p) = 59) ↔ t p = 59 from nI_inj (b := 59) (by omega) (by omega)]
        by_cases h44 : t p = 44
        · rw [if_pos h44]
          refine fin 4 4 rfl (by decide) ?_ hfig
          unfold tkK
          rw [if_neg hc, if_neg hlt, if_neg hfn, if_pos (Or.inl h44)]
        · rw [if_neg h44]
          by_cases h59 : t p = 59
          · rw [if_pos h59]
            refine fin 4 4 rfl (by decide) ?_ hfig
            unfold tkK
            rw [if_neg hc, if_neg hlt, if_neg hfn, if_pos (Or.inr h59)]
          · rw [if_neg h59]
            refine fin 0 0 rfl (by decide) ?_ hfig
            unfold tkK
            rw [if_neg hc, if_neg hlt, if_neg hfn, if_neg (fun z => by rcases z with z | z <;> omega)]
