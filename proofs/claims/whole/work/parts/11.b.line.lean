/-! A LINE: who goes at one door, step by step -/
def rm (w p : Nat) : Nat := mk (fun i => w.testBit i && decide (i ≠ p)) 7
def nbm (nb : Nat → Nat) (k : Nat) : Nat := mk (fun p => decide (k < nb p)) 7
def ln (ym nb : Nat → Nat) (w : Nat) : Nat → Nat
  | 0 => w
  | k + 1 => match ff (okc ym (ln ym nb w k) (nbm nb k)) 7 0 with
    | none => ln ym nb w k
    | some p => rm (ln ym nb w k) p
/-- who goes in step k -/
def lg (ym nb : Nat → Nat) (w k : Nat) : Option Nat := ff (okc ym (ln ym nb w k) (nbm nb k)) 7 0
theorem rm_128 (w p : Nat) : rm w p < 128 := mk_128 (Nat.le_refl 7)
theorem rm_b {w p i : Nat} (hi : i < 7) : (rm w p).testBit i = (w.testBit i && decide (i ≠ p)) := by simp [rm, mk_b, hi]
theorem nbm_128 (nb : Nat → Nat) (k : Nat) : nbm nb k < 128 := mk_128 (Nat.le_refl 7)
theorem nbm_b {nb : Nat → Nat} {k i : Nat} (hi : i < 7) : (nbm nb k).testBit i = decide (k < nb i) := by simp [nbm, mk_b, hi]
theorem ln_s (ym nb : Nat → Nat) (w k : Nat) : ln ym nb w (k + 1) = match lg ym nb w k with | none => ln ym nb w k | some p => rm (ln ym nb w k) p := rfl
theorem ln_128 {ym nb : Nat → Nat} {w : Nat} (hw : w < 128) : ∀ k, ln ym nb w k < 128
  | 0 => hw
  | k + 1 => by
    rw [ln_s]
    cases lg ym nb w k with
    | none => exact ln_128 hw k
    | some p => exact rm_128 _ _
theorem lg_in {ym nb : Nat → Nat} {w k p : Nat} (h : lg ym nb w k = some p) : p < 7 ∧ (ln ym nb w k).testBit p = true := by
  unfold lg at h
  rw [ff_some] at h
  obtain ⟨-, h2, h3, -⟩ := h
  unfold okc at h3
  simp only [Bool.and_eq_true] at h3
  exact ⟨by omega, h3.1⟩
theorem okc_c {ym : Nat → Nat} {w nb nb2 p : Nat} (h : ∀ i, i < 7 → w.testBit i = true → nb.testBit i = nb2.testBit i) (hp : p < 7) : okc ym w nb p = okc ym w nb2 p := by
  unfold okc
  cases hw : w.testBit p with
  | false => rfl
  | true =>
    rw [h p hp hw]
    have e : sd (ym p &&& w) nb = sd (ym p &&& w) nb2 := by
      refine bx7 (sd_128 _ _) (sd_128 _ _) fun i hi => ?_
      rw [sd_b hi, sd_b hi, Nat.testBit_and]
      cases hwi : w.testBit i with
      | false => simp
      | true => rw [h i hi hwi]
    rw [e]
/-- nobody goes: so it stays -/
theorem lg_stop {ym nb : Nat → Nat} {w k : Nat} (h : lg ym nb w k = none) : lg ym nb w (k + 1) = none := by
  have hl : ln ym nb w (k + 1) = ln ym nb w k := by rw [ln_s, h]
  unfold lg at h ⊢
  rw [hl]
  rw [ff_none] at h ⊢
  have hnb : ∀ i, i < 7 → (ln ym nb w k).testBit i = true → (nbm nb k).testBit i = false := by
    intro i hi hw
    have := h i (by omega) (by omega)
    unfold okc at this
    rw [hw, Bool.true_and, Bool.or_eq_false_iff] at this
    exact this.1
  intro i h1 h2
  rw [← h i h1 h2]
  refine okc_c (fun j hj hw => ?_) (by omega)
  rw [hnb j hj hw]
  have := hnb j hj hw
  rw [nbm_b hj] at this ⊢
  simp only [decide_eq_false_iff_not] at this ⊢
  omega
theorem lg_stops {ym nb : Nat → Nat} {w k : Nat} (h : lg ym nb w k = none) : ∀ j, k ≤ j → lg ym nb w j = none ∧ ln ym nb w j = ln ym nb w k := by
  intro j hj
  obtain ⟨i, rfl⟩ : ∃ i, j = k + i := ⟨j - k, by omega⟩
  clear hj
  induction i with
  | zero => exact ⟨h, rfl⟩
  | succ i ih =>
    refine ⟨lg_stop ih.1, ?_⟩
    show ln ym nb w (k + i + 1) = _
    rw [ln_s, ih.1]
    exact ih.2
/-- how many -/
def pc (w : Nat) : Nat → Nat
  | 0 => 0
  | n + 1 => pc w n + (if w.testBit n then 1 else 0)
theorem pc_le (w : Nat) : ∀ n, pc w n ≤ n
  | 0 => Nat.le_refl 0
  | n + 1 => by
    have := pc_le w n
    simp only [pc]
    split <;> omega
theorem pc_c {w v : Nat} : ∀ {n : Nat}, (∀ i, i < n → w.testBit i = v.testBit i) → pc w n = pc v n
  | 0, _ => rfl
  | n + 1, h => by
    simp only [pc]
    rw [pc_c (fun i hi => h i (by omega)), h n (by omega)]
theorem pc_rm {w p : Nat} (hp : p < 7) (hw : w.testBit p = true) : pc w 7 = pc (rm w p) 7 + 1 := by
  have key : ∀ n, n ≤ 7 → pc w n = pc (rm w p) n + (if p < n then 1 else 0) := by
    intro n
    induction n with
    | zero => intro _; simp [pc]
    | succ n ih =>
      intro hn
      simp only [pc]
      rw [ih (by omega), rm_b (show n < 7 by omega)]
      by_cases hnp : n = p
      · subst hnp
        simp [hw]
      · have e1 : decide (n ≠ p) = true := by simp [hnp]
        rw [e1, Bool.and_true]
        by_cases h : p < n
        · rw [if_pos h, if_pos (show p < n + 1 by omega)]; omega
        · rw [if_neg h, if_neg (show ¬ p < n + 1 by omega)]; omega
  rw [key 7 (Nat.le_refl 7), if_pos hp]
theorem pc_0 {w : Nat} (hw : w < 128) : pc w 7 = 0 ↔ w = 0 := by
  constructor
  · intro h
    have key : ∀ n, pc w n = 0 → ∀ i, i < n → w.testBit i = false := by
      intro n
      induction n with
      | zero => intro _ i hi; omega
      | succ n ih =>
        intro h i hi
        simp only [pc] at h
        by_cases hin : i = n
        · subst hin
          cases hb : w.testBit i with
          | false => rfl
          | true => rw [hb] at h; simp at h
        · exact ih (by omega) i (by omega)
    exact bx7 hw (by omega) fun i hi => by rw [key 7 h i hi, Nat.zero_testBit]
  · intro h
    subst h
    have : ∀ n, pc 0 n = 0 := by
      intro n
      induction n with
      | zero => rfl
      | succ n ih => simp [pc, ih]
    exact this 7
/-- as long as somebody goes, one fewer waits -/
theorem ln_pc {ym nb : Nat → Nat} {w : Nat} : ∀ k, (∀ j, j < k → lg ym nb w j ≠ none) → pc (ln ym nb w k) 7 + k = pc w 7
  | 0, _ => rfl
  | k + 1, h => by
    have ih := ln_pc k (fun j hj => h j (by omega))
    rw [ln_s]
    cases hg : lg ym nb w k with
    | none => exact absurd hg (h k (by omega))
    | some p =>
      obtain ⟨hp, hb⟩ := lg_in hg
      have := pc_rm hp hb
      simp only
      omega
theorem lg_7 (ym nb : Nat → Nat) (w : Nat) : lg ym nb w 7 = none := by
  cases hg : lg ym nb w 7 with
  | none => rfl
  | some p =>
    exfalso
    have h : ∀ j, j < 8 → lg ym nb w j ≠ none := by
      intro j hj hn
      have := (lg_stops hn 7 (by omega)).1
      rw [this] at hg
      cases hg
    have h1 := ln_pc (ym := ym) (nb := nb) (w := w) 8 h
    have h2 := pc_le w 7
    omega
/-- in how many steps somebody goes -/
def lc (ym nb : Nat → Nat) (w : Nat) : Nat → Nat
  | 0 => 0
  | k + 1 => lc ym nb w k + (if (lg ym nb w k).isSome then 1 else 0)
theorem lc_le (ym nb : Nat → Nat) (w : Nat) : ∀ k, lc ym nb w k ≤ k
  | 0 => Nat.le_refl 0
  | k + 1 => by
    have := lc_le ym nb w k
    simp only [lc]
    split <;> omega
theorem lc_run {ym nb : Nat → Nat} {w : Nat} : ∀ {k : Nat}, (∀ j, j < k → lg ym nb w j ≠ none) → lc ym nb w k = k
  | 0, _ => rfl
  | k + 1, h => by
    simp only [lc]
    rw [lc_run (fun j hj => h j (by omega))]
    cases hg : lg ym nb w k with
    | none => exact absurd hg (h k (by omega))
    | some p => rfl
theorem lc_stop {ym nb : Nat → Nat} {w k : Nat} (h : lg ym nb w k = none) : ∀ i, lc ym nb w (k + i) = lc ym nb w k
  | 0 => rfl
  | i + 1 => by
    show lc ym nb w (k + i) + (if (lg ym nb w (k + i)).isSome then 1 else 0) = _
    rw [(lg_stops h (k + i) (by omega)).1, lc_stop h i]
    rfl
/-- the line's length G: in the first G steps somebody goes, later nobody does -/
def lG (ym nb : Nat → Nat) (w : Nat) : Nat := lc ym nb w 7
theorem lG_lt {ym nb : Nat → Nat} {w k : Nat} : k < lG ym nb w ↔ lg ym nb w k ≠ none := by
  have stop : ∀ m, lg ym nb w m = none → m ≤ 7 → lG ym nb w ≤ m := by
    intro m hm h7
    have := lc_stop hm (7 - m)
    rw [show m + (7 - m) = 7 by omega] at this
    unfold lG
    rw [this]
    exact lc_le _ _ _ _
  constructor
  · intro h hn
    by_cases hk : k ≤ 7
    · have := stop k hn hk
      omega
    · have : lG ym nb w ≤ 7 := lc_le _ _ _ _
      omega
  · intro h
    have hk : k < 7 := by
      by_cases q : k < 7
      · exact q
      · exact absurd (lg_stops (lg_7 ym nb w) k (by omega)).1 h
    have hrun : ∀ j, j < k + 1 → lg ym nb w j ≠ none := by
      intro j hj hn
      exact h (lg_stops hn k (by omega)).1
    have h1 := lc_run hrun
    have hm : ∀ a b, lc ym nb w a ≤ lc ym nb w (a + b) := by
      intro a b
      induction b with
      | zero => exact Nat.le_refl _
      | succ b ih =>
        show _ ≤ lc ym nb w (a + b) + _
        omega
    have h2 := hm (k + 1) (7 - (k + 1))
    rw [show k + 1 + (7 - (k + 1)) = 7 by omega] at h2
    unfold lG
    omega
theorem lG_7 (ym nb : Nat → Nat) (w : Nat) : lG ym nb w ≤ 7 := lc_le _ _ _ _
/-- behind G steps all stays -/
theorem ln_G {ym nb : Nat → Nat} {w k : Nat} (h : lG ym nb w ≤ k) : ln ym nb w k = ln ym nb w (lG ym nb w) := by
  have hn : lg ym nb w (lG ym nb w) = none := by
    cases hg : lg ym nb w (lG ym nb w) with
    | none => rfl
    | some p =>
      have := (lG_lt (ym := ym) (nb := nb) (w := w) (k := lG ym nb w)).mpr (by rw [hg]; simp)
      omega
  exact (lg_stops hn k h).2
/-- how many wait behind n steps -/
theorem ln_n (ym nb : Nat → Nat) (w n : Nat) : pc (ln ym nb w n) 7 + min n (lG ym nb w) = pc w 7 := by
  by_cases h : n ≤ lG ym nb w
  · rw [Nat.min_eq_left h]
    exact ln_pc n (fun j hj => lG_lt.mp (by omega))
  · rw [ln_G (by omega), Nat.min_eq_right (by omega)]
    exact ln_pc _ (fun j hj => lG_lt.mp hj)
/-- who is in the line, and when he goes -/
theorem ln_out {ym nb : Nat → Nat} {w p : Nat} (hp : p < 7) : ∀ {k : Nat}, (ln ym nb w k).testBit p = (w.testBit p && decide (∀ j, j < k → lg ym nb w j ≠ some p))
  | 0 => by simp [ln]
  | k + 1 => by
    rw [ln_s]
    have ih := ln_out (ym := ym) (nb := nb) (w := w) hp (k := k)
    have e : (∀ j, j < k + 1 → lg ym nb w j ≠ some p) ↔ (∀ j, j < k → lg ym nb w j ≠ some p) ∧ lg ym nb w k ≠ some p := by
      constructor
      · intro h; exact ⟨fun j hj => h j (by omega), h k (by omega)⟩
      · intro h j hj
        by_cases hjk : j = k
        · subst hjk; exact h.2
        · exact h.1 j (by omega)
    simp only [e, Bool.decide_and]
    cases hg : lg ym nb w k with
    | none =>
      simp only
      rw [ih]
      simp
    | some q =>
      simp only
      rw [rm_b hp, ih]
      by_cases hpq : p = q
      · subst hpq; simp
      · simp [hpq, Ne.symm hpq]
/-- one goes once at most -/
theorem lg_once {ym nb : Nat → Nat} {w i j p : Nat} (hi : lg ym nb w i = some p) (hj : lg ym nb w j = some p) : i = j := by
  have key : ∀ a b, a < b → lg ym nb w a = some p → lg ym nb w b = some p → False := by
    intro a b hab ha hb
    obtain ⟨hp, h⟩ := lg_in hb
    rw [ln_out hp] at h
    simp only [Bool.and_eq_true, decide_eq_true_eq] at h
    exact h.2 a hab ha
  rcases Nat.lt_trichotomy i j with q | q | q
  · exact (key i j q hi hj).elim
  · exact q
  · exact (key j i q hj hi).elim
/-! a hall's steps, at one door, are its line -/
theorem go_c {g h : Nat → Int32} {d : Int} (hP : gP h = gP g) (h7 : gP g ≤ 7) (hy : ∀ p q, p < gP g → q < gP g → yl h p q = yl g p q) (hd : ∀ p, p < gP g → (gd h p = d ↔ gd g p = d)) (hb : ∀ p, p < gP g → gd g p = d → (0 < gb h p ↔ 0 < gb g p)) : go h d = go g d := by
  have e1 : wm h d = wm g d := by
    unfold wm
    rw [hP]
    refine bx fun i => ?_
    rw [mk_b, mk_b]
    by_cases hi : i < gP g
    · simp [hi, hd i hi]
    · simp [hi]
  have e2 : ∀ p, ymk h p = ymk g p := by
    intro p
    unfold ymk
    rw [hP]
    by_cases hp : p < gP g
    · rw [if_pos hp, if_pos hp]
      refine bx fun i => ?_
      rw [mk_b, mk_b]
      by_cases hi : i < gP g
      · simp [hi, hy p i hp hi]
      · simp [hi]
    · rw [if_neg hp, if_neg hp]
  unfold go
  rw [e1, show ymk h = ymk g from funext e2]
  refine ff_cong fun i _ hi => okc_c (fun j hj hwj => ?_) (by omega)
  unfold wm at hwj
  unfold nm
  rw [mk_b] at hwj
  simp only [Bool.and_eq_true, decide_eq_true_eq] at hwj
  rw [mk_b, mk_b, hP]
  simp [hwj.1, hb j hwj.1 hwj.2]
theorem sn_line {g : Nat → Int32} (hw : WF g) {d : Int} (hd : 0 ≤ d) : ∀ {k : Nat} {h : Nat → Int32}, SN k g h → wm h d = ln (ymk g) (gb g) (wm g d) k ∧ (∀ p, p < gP g → (ln (ymk g) (gb g) (wm g d) k).testBit p = true → gb h p = gb g p - k) ∧ (∀ p q, p < gP g → q < gP g → yl h p q = yl g p q) ∧ go h d = lg (ymk g) (gb g) (wm g d) k
  | 0, h, hs => by
    have e : h = g := hs
    rw [e]
    refine ⟨rfl, fun p _ _ => rfl, fun _ _ _ _ => rfl, ?_⟩
    unfold go lg
    refine ff_cong fun i _ hi => okc_c (fun j hj hwj => ?_) (by omega)
    show (nm g).testBit j = (nbm (gb g) 0).testBit j
    have hwj2 : (wm g d).testBit j = true := hwj
    unfold wm at hwj2
    rw [mk_b] at hwj2
    simp only [Bool.and_eq_true, decide_eq_true_eq] at hwj2
    rw [nbm_b hj]
    unfold nm
    rw [mk_b]
    simp [hwj2.1]
  | k + 1, h, hs => by
    obtain ⟨m, h1, h2⟩ := hs
    obtain ⟨a1, a2, a3, a4⟩ := sn_line hw hd h1
    obtain ⟨wm1, mP, mD⟩ := sn_wf hw h1
    have h7 := hw.2.2.1.2.1
    have hP : gP h = gP g := (st_P h2).trans mP
    have hyl : ∀ p q, p < gP g → q < gP g → yl h p q = yl g p q := fun p q hp hq => (st_yl h2 (by omega) (by omega)).trans (a3 p q hp hq)
    have hwm : wm h d = ln (ymk g) (gb g) (wm g d) (k + 1) := by
      refine bx7 (by unfold wm; rw [hP]; exact mk_128 h7) (ln_128 (wm_128 hw d) _) fun i hi => ?_
      have e1 : (wm h d).testBit i = (decide (i < gP g) && decide (gd h i = d)) := by unfold wm; rw [mk_b, hP]
      have e2 : (wm m d).testBit i = (decide (i < gP g) && decide (gd m i = d)) := by unfold wm; rw [mk_b, mP]
      rw [e1, ln_s, ← a4]
      by_cases hip : i < gP g
      · rw [st_gd h2 (by omega)]
        have hgone : gone m i = (decide (0 ≤ gd m i) && decide (go m (gd m i) = some i)) := rfl
        cases hgo : go m d with
        | none =>
          simp only
          rw [← a1, e2]
          by_cases hgd : gd m i = d
          · rw [hgone, hgd, hgo]; simp [hgd]
          · by_cases hg : gone m i = true
            · rw [if_pos hg]; simp [hgd]; omega
            · rw [if_neg hg]
        | some q =>
          simp only
          rw [rm_b hi, ← a1, e2]
          by_cases hgd : gd m i = d
          · rw [hgone, hgd, hgo]
            by_cases hiq : i = q
            · subst hiq; simp [hd]; omega
            · simp [hgd, hiq, Ne.symm hiq]
          · by_cases hg : gone m i = true
            · rw [if_pos hg]; simp [hgd]; omega
            · rw [if_neg hg]; simp [hgd]
      · have hb : (ln (ymk g) (gb g) (wm g d) k).testBit i = false := by rw [← a1, e2]; simp [hip]
        simp only [hip, decide_false, Bool.false_and]
        cases go m d with
        | none => exact hb.symm
        | some q => simp only; rw [rm_b hi, hb]; rfl
    have hgb : ∀ p, p < gP g → (ln (ymk g) (gb g) (wm g d) (k + 1)).testBit p = true → gb h p = gb g p - (k + 1) := by
      intro p hp hb
      rw [← hwm] at hb
      unfold wm at hb
      rw [mk_b] at hb
      simp only [Bool.and_eq_true, decide_eq_true_eq] at hb
      have hgd := hb.2
      rw [st_gd h2 (by omega)] at hgd
      rw [st_gb wm1 h2 (by omega)]
      by_cases hg : gone m p = true
      · rw [if_pos hg] at hgd; omega
      · rw [if_neg hg] at hgd
        rw [if_neg hg, a2 p hp (by rw [← a1]; unfold wm; rw [mk_b, mP]; simp [hp, hgd])]
        omega
    refine ⟨hwm, hgb, hyl, ?_⟩
    unfold go lg
    have e2 : ymk h = ymk g := by
      funext p
      unfold ymk
      rw [hP]
      by_cases hp : p < gP g
      · rw [if_pos hp, if_pos hp]
        refine bx fun i => ?_
        rw [mk_b, mk_b]
        by_cases hi : i < gP g
        · simp [hi, hyl p i hp hi]
        · simp [hi]
      · rw [if_neg hp, if_neg hp]
    rw [e2, hwm]
    refine ff_cong fun i _ hi => okc_c (fun j hj hwj => ?_) (by omega)
    have hjP : j < gP g := by
      rw [← hwm] at hwj
      unfold wm at hwj
      rw [mk_b, hP] at hwj
      simp only [Bool.and_eq_true, decide_eq_true_eq] at hwj
      exact hwj.1
    rw [nbm_b hj]
    unfold nm
    rw [mk_b, hP]
    simp only [hjP, decide_true, Bool.true_and]
    rw [hgb j hjP hwj]
    exact decide_eq_decide.mpr (by omega)
