/-! THE TWO SIDES: what the class' cells and the reference's have in common between calls -/
/-- a hall of the class holds what the reference lays so: doors, yard, people, step, then five of each person -/
def rl_eq (M : fw_M) (o : Nat) (g : Nat → Int32) : Prop := (∀ i, i < 4 → M o i = g i) ∧ ∀ p, p < (g 2).toNatClampNeg → M (o + 1) p = g (4 + 5 * p) ∧ M (o + 2) p = g (5 + 5 * p) ∧ M (o + 3) p = g (6 + 5 * p) ∧ M (o + 4) p = g (7 + 5 * p) ∧ M (o + 5) p = g (8 + 5 * p)
/-- a ministry that was read, as it may be at any time -/
def rl_wf (g : Nat → Int32) : Prop := ∃ D Y P S : Nat, 1 ≤ D ∧ D ≤ 4 ∧ 1 ≤ Y ∧ Y ≤ 9 ∧ 1 ≤ P ∧ P ≤ 7 ∧ S ≤ 999 ∧ g 0 = nI D ∧ g 1 = nI Y ∧ g 2 = nI P ∧ g 3 = nI S ∧ ∀ p, p < P → (∃ k, 1 ≤ k ∧ k ≤ 5 ∧ g (4 + 5 * p) = nI k) ∧ (∃ r, r ≤ 9 ∧ g (5 + 5 * p) = nI r) ∧ (∃ r, r ≤ 9 ∧ g (6 + 5 * p) = nI r) ∧ (g (7 + 5 * p) = -1 ∨ ∃ d, d < D ∧ g (7 + 5 * p) = nI d) ∧ ∃ b, b ≤ 9 ∧ g (8 + 5 * p) = nI b
def rl_none (g : Nat → Int32) : Prop := ∀ i, i < 4 → g i = 0
def rl_hall (M : fw_M) (o : Nat) (g : Nat → Int32) : Prop := (rl_none (M o) ∧ rl_none g) ∨ (rl_eq M o g ∧ rl_wf g)
def rl_row (Mc Mr : fw_M) (i : Nat) : Prop := (Mc (171 + 2 * i) 2 = -1 ∧ Mr 200 i = -1) ∨ ∃ n l : Nat, n ≤ 40 ∧ l ≤ 2 ∧ Mc (171 + 2 * i) 2 = nI n ∧ Mr 201 i = nI n ∧ Mc (171 + 2 * i) 1 = nI l ∧ Mr 200 i = nI l ∧ ∀ j, j < 40 → Mc (171 + 2 * i + 1) j = Mr 202 (40 * i + j)
def rl_tape (Mc Mr : fw_M) : Prop := ∃ n : Nat, n ≤ 100 ∧ Mc 2 1 = nI n ∧ Mr 199 11 = nI n ∧ ∀ j, j < n → ∃ b : Nat, b < 256 ∧ Mc 3 j = nI b ∧ Mr 207 j = nI b
def rl_acts (Mc Mr : fw_M) : Prop := ∃ a t : Nat, a ≤ 24 ∧ t < 24 ∧ Mc 10 2 = nI a ∧ Mr 199 9 = nI a ∧ Mc 10 1 = nI t ∧ ∀ j, j < a → rl_eq Mc (12 + 6 * ((t + 24 - a + j) % 24)) (fun i => Mr 206 (39 * j + i)) ∧ rl_wf (fun i => Mr 206 (39 * j + i))
def rl_img (Mc Mr : fw_M) (k : Nat) : Prop := (Mc (187 + 6 * k) 2 = 0 ∧ Mr 209 k = 0) ∨ (Mr 209 k = 1 ∧ rl_eq Mc (187 + 6 * k) (fun i => Mr 210 (39 * k + i)) ∧ rl_wf (fun i => Mr 210 (39 * k + i)))
def rl_trace (Mc Mr : fw_M) : Prop := ∃ n : Nat, n ≤ 16 ∧ Mc 169 1 = nI n ∧ Mr 199 23 = nI n ∧ ∀ j, j < n → Mc 170 j = Mr 211 j
def rl (Mc Mr : fw_M) : Prop := Mc 0 8 = Mr 199 1 ∧ Mc 0 7 = Mr 199 18 ∧ (∀ i, i < 8 → rl_row Mc Mr i) ∧ rl_tape Mc Mr ∧ rl_hall Mc 4 (Mr 203) ∧ rl_acts Mc Mr ∧ (∀ k, k < 2 → rl_img Mc Mr k) ∧ rl_trace Mc Mr
theorem rl_0 : rl wk_M0 wk_M0 := by
  have z : ∀ k : Nat, ¬ k = 200 → ¬ (171 ≤ k ∧ k < 187 ∧ k % 2 = 1) → ∀ j, wk_M0 k j = 0 := fun k h h2 j => wk_M00 h h2 j
  refine ⟨rfl, rfl, fun i hi => Or.inl ⟨?_, ?_⟩, ⟨0, by omega, rfl, rfl, fun j hj => absurd hj (by omega)⟩, Or.inl ⟨fun i hi => ?_, fun i hi => ?_⟩, ⟨0, 0, by omega, by omega, rfl, rfl, rfl, fun j hj => absurd hj (by omega)⟩, fun k hk => Or.inl ⟨z _ (by omega) (by omega) _, z _ (by omega) (by omega) _⟩, ⟨0, by omega, rfl, rfl, fun j hj => absurd hj (by omega)⟩⟩
  · unfold wk_M0
    rw [if_neg (by omega), if_pos (by omega)]
  · unfold wk_M0
    rw [if_pos rfl, if_pos hi]
  · exact z _ (by omega) (by omega) _
  · exact z _ (by omega) (by omega) _
