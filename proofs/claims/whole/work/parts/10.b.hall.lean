/-! WHO GIVES WAY TO WHOM, on both sides -/
def yl (g : Nat → Int32) (p q : Nat) : Bool := if gk g p = 1 then decide (gr g p < gr g q) else if gk g p = 2 then decide (gr g p ≤ gr g q) else if gk g p = 3 then true else if gk g p = 4 then false else decide (gh g p < gh g q)
def wm (g : Nat → Int32) (d : Int) : Nat := mk (fun p => decide (gd g p = d)) (gP g)
def nm (g : Nat → Int32) : Nat := mk (fun p => decide (0 < gb g p)) (gP g)
def ymk (g : Nat → Int32) (p : Nat) : Nat := if p < gP g then mk (fun q => decide (q ≠ p) && yl g p q) (gP g) else 0
def okc (ym : Nat → Nat) (w nb p : Nat) : Bool := w.testBit p && (nb.testBit p || decide (sd (ym p &&& w) nb = 0))
def yto (g : Nat → Int32) (p : Nat) : Nat := mk (fun q => decide (q ≠ p) && (decide (0 ≤ gd g p) && (decide (gd g q = gd g p) && (decide (gb g q = 0) && yl g p q)))) (gP g)
theorem wm_128 {g : Nat → Int32} (h : WF g) (d : Int) : wm g d < 128 := mk_128 h.2.2.1.2.1
theorem nm_128 {g : Nat → Int32} (h : WF g) : nm g < 128 := mk_128 h.2.2.1.2.1
theorem ymk_128 {g : Nat → Int32} (h : WF g) (p : Nat) : ymk g p < 128 := by
  unfold ymk
  split
  · exact mk_128 h.2.2.1.2.1
  · omega
/-- the class' hall by g -/
theorem he_x {M : fw_M} {o : Nat} {g : Nat → Int32} (he : rl_eq M o g) (hw : WF g) : M o 0 = nI (gD g) ∧ M o 1 = nI (gY g) ∧ M o 2 = nI (gP g) ∧ M o 3 = g 3 ∧ ∀ p, p < gP g → M (o + 1) p = nI (gk g p) ∧ M (o + 2) p = nI (gr g p) ∧ M (o + 3) p = nI (gh g p) ∧ (M (o + 4) p).toInt = gd g p ∧ M (o + 5) p = nI (gb g p) := by
  refine ⟨by rw [he.1 0 (by omega)]; exact hw.1.2.2, by rw [he.1 1 (by omega)]; exact hw.2.1.2.2, by rw [he.1 2 (by omega)]; exact hw.2.2.1.2.2, he.1 3 (by omega), fun p hp => ?_⟩
  obtain ⟨a, b, c, d, e⟩ := he.2 p hp
  obtain ⟨h1, h2, h3, h4, h5⟩ := hw.2.2.2 p hp
  exact ⟨by rw [a]; exact h1.2.2, by rw [b]; exact h2.2, by rw [c]; exact h3.2, by rw [d]; rfl, by rw [e]; exact h5.2⟩
theorem nI_le2 {a b : Nat} (ha : a < 1000000) (hb : b < 1000000) : nI a ≤ nI b ↔ a ≤ b := nI_leI (by omega) (by omega)
theorem nI_lt2 {a b : Nat} (ha : a < 1000000) (hb : b < 1000000) : nI a < nI b ↔ a < b := nI_ltI (by omega) (by omega)
theorem nI_e0 {a : Nat} (ha : a < 1000000) : nI a = 0 ↔ a = 0 := (nI_inj ha (by omega) : nI a = nI 0 ↔ a = 0)
theorem nI_e1 {a : Nat} (ha : a < 1000000) : nI a = 1 ↔ a = 1 := (nI_inj ha (by omega) : nI a = nI 1 ↔ a = 1)
theorem nI_e2 {a : Nat} (ha : a < 1000000) : nI a = 2 ↔ a = 2 := (nI_inj ha (by omega) : nI a = nI 2 ↔ a = 2)
theorem nI_e3 {a : Nat} (ha : a < 1000000) : nI a = 3 ↔ a = 3 := (nI_inj ha (by omega) : nI a = nI 3 ↔ a = 3)
theorem nI_e4 {a : Nat} (ha : a < 1000000) : nI a = 4 ↔ a = 4 := (nI_inj ha (by omega) : nI a = nI 4 ↔ a = 4)
theorem nI_e5 {a : Nat} (ha : a < 1000000) : nI a = 5 ↔ a = 5 := (nI_inj ha (by omega) : nI a = nI 5 ↔ a = 5)
theorem nI_e6 {a : Nat} (ha : a < 1000000) : nI a = 6 ↔ a = 6 := (nI_inj ha (by omega) : nI a = nI 6 ↔ a = 6)
theorem nI_e7 {a : Nat} (ha : a < 1000000) : nI a = 7 ↔ a = 7 := (nI_inj ha (by omega) : nI a = nI 7 ↔ a = 7)
theorem nI_z1 {a : Nat} (ha : a < 1000000) : nI a ≤ 0 ↔ a = 0 := by
  have h : nI a ≤ nI 0 ↔ a ≤ 0 := nI_le2 ha (by omega)
  rw [show (0 : Int32) = nI 0 from rfl, h]
  omega
theorem nI_z2 {a : Nat} (ha : a < 1000000) : (0 : Int32) < nI a ↔ 0 < a := (nI_lt2 (by omega) ha : nI 0 < nI a ↔ 0 < a)
theorem nI_z3 {a : Nat} (ha : a < 1000000) : nI a < 0 ↔ False := by
  have h : nI a < nI 0 ↔ a < 0 := nI_lt2 ha (by omega)
  rw [show (0 : Int32) = nI 0 from rfl, h]
  simp
theorem nI_g7 {a : Nat} (ha : a < 1000000) : (7 : Int32) ≤ nI a ↔ 7 ≤ a := (nI_le2 (by omega) ha : nI 7 ≤ nI a ↔ 7 ≤ a)
theorem nI_g9 {a : Nat} (ha : a < 1000000) : (9 : Int32) ≤ nI a ↔ 9 ≤ a := (nI_le2 (by omega) ha : nI 9 ≤ nI a ↔ 9 ≤ a)
theorem nI_g10 {a : Nat} (ha : a < 1000000) : (10 : Int32) ≤ nI a ↔ 10 ≤ a := (nI_le2 (by omega) ha : nI 10 ≤ nI a ↔ 10 ≤ a)
theorem nI_g12 {a : Nat} (ha : a < 1000000) : (12 : Int32) ≤ nI a ↔ 12 ≤ a := (nI_le2 (by omega) ha : nI 12 ≤ nI a ↔ 12 ≤ a)
theorem nI_g24 {a : Nat} (ha : a < 1000000) : (24 : Int32) ≤ nI a ↔ 24 ≤ a := (nI_le2 (by omega) ha : nI 24 ≤ nI a ↔ 24 ≤ a)
theorem nI_g39 {a : Nat} (ha : a < 1000000) : (39 : Int32) ≤ nI a ↔ 39 ≤ a := (nI_le2 (by omega) ha : nI 39 ≤ nI a ↔ 39 ≤ a)
theorem nI_g40 {a : Nat} (ha : a < 1000000) : (40 : Int32) ≤ nI a ↔ 40 ≤ a := (nI_le2 (by omega) ha : nI 40 ≤ nI a ↔ 40 ≤ a)
theorem nI_g60 {a : Nat} (ha : a < 1000000) : (60 : Int32) ≤ nI a ↔ 60 ≤ a := (nI_le2 (by omega) ha : nI 60 ≤ nI a ↔ 60 ≤ a)
theorem nI_g100 {a : Nat} (ha : a < 1000000) : (100 : Int32) ≤ nI a ↔ 100 ≤ a := (nI_le2 (by omega) ha : nI 100 ≤ nI a ↔ 100 ≤ a)
theorem nI_g128 {a : Nat} (ha : a < 1000000) : (128 : Int32) ≤ nI a ↔ 128 ≤ a := (nI_le2 (by omega) ha : nI 128 ≤ nI a ↔ 128 ≤ a)
theorem p_yields {M : fw_M} {o : Nat} {g : Nat → Int32} (he : rl_eq M o g) (hw : WF g) {p q : Nat} (hp : p < gP g) (hq : q < gP g) : P_Hall_yields o M (nI p) (nI q) = some (b1 (yl g p q = true)) := by
  have h7 := hw.2.2.1.2.1
  obtain ⟨-, -, -, -, hx⟩ := he_x he hw
  obtain ⟨a1, a2, a3, -, -⟩ := hx p hp
  obtain ⟨c1, c2, c3, -, -⟩ := hx q hq
  obtain ⟨k1, r1, o1, -, -⟩ := hw.2.2.2 p hp
  obtain ⟨k2, r2, o2, -, -⟩ := hw.2.2.2 q hq
  unfold P_Hall_yields P_Hall_yields_b0 P_Hall_yields_b60 P_Hall_yields_b81 P_Hall_yields_b104 yl
  simp only [ald_n (show p < 7 by omega) (show 7 ≤ 1000 by omega), ald_n (show q < 7 by omega) (show 7 ≤ 1000 by omega), bs_e, a1, a2, a3, c2, c3, nI_e1 (show gk g p < 1000000 by omega), nI_e2 (show gk g p < 1000000 by omega), nI_e3 (show gk g p < 1000000 by omega), nI_e4 (show gk g p < 1000000 by omega), nI_e5 (show gk g p < 1000000 by omega), nI_le2 (show gr g q < 1000000 by omega) (show gr g p < 1000000 by omega), nI_lt2 (show gr g q < 1000000 by omega) (show gr g p < 1000000 by omega), nI_le2 (show gh g q < 1000000 by omega) (show gh g p < 1000000 by omega), zr_0, zr_1]
  by_cases q1 : gk g p = 1
  · rw [if_pos q1, if_pos q1]
    by_cases h : gr g q ≤ gr g p
    · rw [if_pos h, b1_f (by simpa using h)]
    · rw [if_neg h, b1_t (by simpa using h)]
  · rw [if_neg q1, if_neg q1]
    by_cases q2 : gk g p = 2
    · rw [if_pos q2, if_pos q2]
      by_cases h : gr g q < gr g p
      · rw [if_pos h, b1_f (by simpa using h)]
      · rw [if_neg h, b1_t (by simpa using h)]
    · rw [if_neg q2, if_neg q2]
      by_cases q3 : gk g p = 3
      · rw [if_pos q3, if_pos q3, b1_t rfl]
      · rw [if_neg q3, if_neg q3]
        by_cases q4 : gk g p = 4
        · rw [if_pos q4, if_pos q4, b1_f (by simp)]
        · rw [if_neg q4, if_neg q4, if_pos (show gk g p = 5 by omega)]
          by_cases h : gh g q ≤ gh g p
          · rw [if_pos h, b1_f (by simpa using h)]
          · rw [if_neg h, b1_t (by simpa using h)]
theorem toInt_eq {x y : Int32} : x = y ↔ x.toInt = y.toInt := Int32.toInt_inj.symm
theorem p_waitingAt {M : fw_M} {o : Nat} {g : Nat → Int32} (he : rl_eq M o g) (hw : WF g) (x : Int32) : P_Hall_waitingAt o M x = some (nI (wm g x.toInt)) := by
  have h7 := hw.2.2.1.2.1
  obtain ⟨-, -, hP, -, hx⟩ := he_x he hw
  have key : ∀ (r j f : Nat), j + r = gP g → r < f → P_Hall_waitingAt_h4 o M f x (nI (mk (fun p => decide (gd g p = x.toInt)) j)) (nI j) = some (nI (wm g x.toInt)) := by
    intro r
    induction r with
    | zero =>
      intro j f hj hf
      obtain ⟨f, rfl⟩ : ∃ g, f = g + 1 := ⟨f - 1, by omega⟩
      show P_Hall_waitingAt_b4 o M _ _ _ _ = _
      unfold P_Hall_waitingAt_b4
      rw [hP, if_pos ((nI_le2 (by omega) (by omega)).mpr (by omega))]
      rw [show j = gP g by omega]
      rfl
    | succ r ih =>
      intro j f hj hf
      obtain ⟨f, rfl⟩ : ∃ g, f = g + 1 := ⟨f - 1, by omega⟩
      have h := ih (j + 1) f (by omega) (by omega)
      show P_Hall_waitingAt_b4 o M _ _ _ _ = _
      unfold P_Hall_waitingAt_b4 P_Hall_waitingAt_b28
      rw [hP, if_neg (by rw [nI_le2 (by omega) (by omega)]; omega), ald_n (by omega) (by omega), bs_e, pl_e, nI_s]
      have hd := (hx j (by omega)).2.2.2.1
      by_cases hc : M (o + 4) j = x
      · rw [if_pos hc, mk_s _ (by omega) (by rw [← hd, hc]; simp)]
        exact h
      · rw [if_neg hc]
        rw [mk_z _ (by rw [← hd, decide_eq_false_iff_not, ← toInt_eq]; exact hc)] at h
        exact h
  unfold P_Hall_waitingAt P_Hall_waitingAt_b0
  exact key (gP g) 0 fw_fu (by omega) (by have := fw_fu_ge; omega)
theorem p_nobodies {M : fw_M} {o : Nat} {g : Nat → Int32} (he : rl_eq M o g) (hw : WF g) : P_Hall_nobodies o M = some (nI (nm g)) := by
  have h7 := hw.2.2.1.2.1
  obtain ⟨-, -, hP, -, hx⟩ := he_x he hw
  have key : ∀ (r j f : Nat), j + r = gP g → r < f → P_Hall_nobodies_h4 o M f (nI (mk (fun p => decide (0 < gb g p)) j)) (nI j) = some (nI (nm g)) := by
    intro r
    induction r with
    | zero =>
      intro j f hj hf
      obtain ⟨f, rfl⟩ : ∃ g, f = g + 1 := ⟨f - 1, by omega⟩
      show P_Hall_nobodies_b4 o M _ _ _ = _
      unfold P_Hall_nobodies_b4
      rw [hP, if_pos ((nI_le2 (by omega) (by omega)).mpr (by omega))]
      rw [show j = gP g by omega]
      rfl
    | succ r ih =>
      intro j f hj hf
      obtain ⟨f, rfl⟩ : ∃ g, f = g + 1 := ⟨f - 1, by omega⟩
      have h := ih (j + 1) f (by omega) (by omega)
      show P_Hall_nobodies_b4 o M _ _ _ = _
      unfold P_Hall_nobodies_b4 P_Hall_nobodies_b27
      rw [hP, if_neg (by rw [nI_le2 (by omega) (by omega)]; omega), ald_n (by omega) (by omega), bs_e, pl_e, nI_s, (hx j (by omega)).2.2.2.2]
      have hb := (hw.2.2.2 j (by omega)).2.2.2.2.1
      simp only [nI_z1 (show gb g j < 1000000 by omega)]
      by_cases hc : gb g j = 0
      · rw [if_pos hc]
        rw [mk_z _ (by simp; omega)] at h
        exact h
      · rw [if_neg hc, mk_s _ (by omega) (by simp; omega)]
        exact h
  unfold P_Hall_nobodies P_Hall_nobodies_b0
  exact key (gP g) 0 fw_fu (by omega) (by have := fw_fu_ge; omega)
/-! the class' law: row k + 1 holds ym -/
def LR (M : fw_M) (k : Nat) (ym : Nat → Nat) : Prop := ∀ p, p < 7 → M (k + 1) p = nI (ym p) ∧ ym p < 128
theorem p_lets {M : fw_M} {k : Nat} {ym : Nat → Nat} (hL : LR M k ym) {p w nb : Nat} (hp : p < 7) (hn : nb < 128) : P_Law_lets k M (nI p) (nI w) (nI nb) = some (b1 (nb.testBit p = true ∨ sd (ym p &&& w) nb = 0)) := by
  obtain ⟨h1, h2⟩ := hL p hp
  unfold P_Law_lets P_Law_lets_b0 P_Law_lets_b23 P_Law_lets_b28
  simp only [ald_n hp (show 7 ≤ 1000 by omega), bs_e, h1, fa_and, sd_n (and_128 h2 (b := w)), bt_0 (show nb < 2 ^ 31 by omega) (show p < 31 by omega), zr_0, zr_1]
  have hs := sd_128 (ym p &&& w) nb
  simp only [nI_e0 (show sd (ym p &&& w) nb < 1000000 by omega)]
  by_cases a : nb.testBit p = false
  · rw [if_pos a]
    by_cases c : sd (ym p &&& w) nb = 0
    · rw [if_pos c, b1_t (Or.inr c)]
    · rw [if_neg c, b1_f]
      rintro (z | z)
      · rw [a] at z; cases z
      · exact c z
  · rw [if_neg a, b1_t (Or.inl (by simpa using a))]
theorem p_first {M : fw_M} {k : Nat} {ym : Nat → Nat} (hL : LR M k ym) {w nb : Nat} (hw : w < 128) (hn : nb < 128) : P_Law_first k M (nI w) (nI nb) = some (oN (ff (okc ym w nb) 7 0)) := by
  have key : ∀ (r j f : Nat), j + r = 7 → r < f → P_Law_first_h2 k M f (nI w) (nI nb) (nI j) = some (oN (ff (okc ym w nb) r j)) := by
    intro r
    induction r with
    | zero =>
      intro j f hj hf
      obtain ⟨f, rfl⟩ : ∃ g, f = g + 1 := ⟨f - 1, by omega⟩
      show P_Law_first_b2 k M _ _ _ _ = _
      unfold P_Law_first_b2
      rw [show (7 : Int32) = nI 7 from rfl, if_pos ((nI_le2 (by omega) (by omega)).mpr (by omega))]
      rfl
    | succ r ih =>
      intro j f hj hf
      obtain ⟨f, rfl⟩ : ∃ g, f = g + 1 := ⟨f - 1, by omega⟩
      have h := ih (j + 1) f (by omega) (by omega)
      show P_Law_first_b2 k M _ _ _ _ = _
      unfold P_Law_first_b2 P_Law_first_b28
      simp only [nI_g7 (show j < 1000000 by omega), bt_0 (show w < 2 ^ 31 by omega) (show j < 31 by omega), p_lets hL (show j < 7 by omega) hn, bs_e, b1_0, nI_s]
      rw [if_neg (by omega), ff]
      unfold okc
      by_cases a : w.testBit j = false
      · rw [if_pos a, a, Bool.false_and, if_neg (by simp)]
        exact h
      · rw [if_neg a]
        simp only [Bool.not_eq_false] at a
        rw [a, Bool.true_and]
        by_cases c : nb.testBit j = true ∨ sd (ym j &&& w) nb = 0
        · rw [if_neg (fun z => z c), if_pos (by rw [Bool.or_eq_true, decide_eq_true_eq]; exact c)]
          rfl
        · rw [if_pos c, if_neg (by rw [Bool.or_eq_true, decide_eq_true_eq]; exact c)]
          exact h
  unfold P_Law_first P_Law_first_b0
  exact key 7 0 fw_fu (by omega) (by have := fw_fu_ge; omega)
