/-! both: the pairs of whom each gives way to the other -/
def pr (g : Nat → Int32) (i j : Nat) : Bool := yl g i j && yl g j i
def rc (g : Nat → Int32) (i : Nat) : Nat → Nat
  | 0 => 0
  | n + 1 => rc g i n + (if decide (i < n) && pr g i n then 1 else 0)
def tc (g : Nat → Int32) : Nat → Nat
  | 0 => 0
  | n + 1 => tc g n + rc g n (gP g)
def fp (g : Nat → Int32) (i : Nat) : Option Nat := ff (fun j => decide (i < j) && pr g i j) (gP g) 0
def FC (g : Nat → Int32) : Nat → Nat → Option Nat
  | 0, _ => none
  | r + 1, i => match fp g i with
    | some j => some (10 * i + j)
    | none => FC g r (i + 1)
theorem rc_le (g : Nat → Int32) (i : Nat) : ∀ n, rc g i n ≤ n
  | 0 => Nat.le_refl 0
  | n + 1 => by
    have := rc_le g i n
    simp only [rc]
    split <;> omega
theorem rc_0 (g : Nat → Int32) (i : Nat) : ∀ {n : Nat}, n ≤ i + 1 → rc g i n = 0
  | 0, _ => rfl
  | n + 1, hn => by
    simp only [rc]
    rw [rc_0 g i (by omega), if_neg (by simp; omega)]
theorem p_isPair {M : fw_M} {o : Nat} {g : Nat → Int32} (he : rl_eq M o g) (hw : WF g) {i j : Nat} (hi : i < gP g) (hj : j < gP g) : P_Fore_isPair o M (nI i) (nI j) = some (b1 (pr g i j = true)) := by
  unfold P_Fore_isPair P_Fore_isPair_b0 P_Fore_isPair_b22 P_Fore_isPair_b23
  rw [p_yields he hw hi hj, p_yields he hw hj hi]
  simp only [bs_e, b1_0, zr_0, zr_1]
  unfold pr
  cases yl g i j <;> cases yl g j i <;> rfl
theorem p_pairs1 {M : fw_M} {o : Nat} {g : Nat → Int32} (he : rl_eq M o g) (hw : WF g) {K : Int32 → Int32 → Option Int32} {i : Nat} (hi : i < gP g) : ∀ (r j f x : Nat), j + r = gP g → r < f → i < j → P_Fore_pairs_h17 157 o M K f (nI (x + rc g i j)) (nI i) (nI j) = K (nI (x + rc g i (gP g))) (nI (i + 1)) := by
  have h7 := hw.2.2.1.2.1
  have hP := (he_x he hw).2.2.1
  intro r
  induction r with
  | zero =>
    intro j f x hj hf hij
    obtain ⟨f, rfl⟩ : ∃ g, f = g + 1 := ⟨f - 1, by omega⟩
    show P_Fore_pairs_b17 157 o M K _ _ _ _ = _
    unfold P_Fore_pairs_b17
    rw [hP, if_pos ((nI_le2 (by omega) (by omega)).mpr (by omega)), nI_s, show j = gP g by omega]
  | succ r ih =>
    intro j f x hj hf hij
    obtain ⟨f, rfl⟩ : ∃ g, f = g + 1 := ⟨f - 1, by omega⟩
    show P_Fore_pairs_b17 157 o M K _ _ _ _ = _
    unfold P_Fore_pairs_b17 P_Fore_pairs_b39
    rw [hP, if_neg (fun z => by have := (nI_le2 (a := gP g) (b := j) (by omega) (by omega)).mp z; omega), p_isPair he hw hi (by omega), bs_e, nI_s, nI_s]
    simp only [b1_0]
    have h := ih (j + 1) f x (by omega) (by omega) (by omega)
    simp only [rc] at h
    cases hp : pr g i j with
    | false =>
      rw [hp] at h
      simpa using h
    | true =>
      rw [hp, if_pos (by simp [hij])] at h
      simpa using h
theorem p_pairs {M : fw_M} {o : Nat} {g : Nat → Int32} (he : rl_eq M o g) (hw : WF g) : P_Fore_pairs 157 o M = some (nI (tc g (gP g))) := by
  have hfu := fw_fu_ge
  have h7 := hw.2.2.1.2.1
  have hP := (he_x he hw).2.2.1
  have key : ∀ (r i f : Nat), i + r = gP g → r < f → P_Fore_pairs_h4 157 o M f (nI (tc g i)) (nI i) = some (nI (tc g (gP g))) := by
    intro r
    induction r with
    | zero =>
      intro i f hi hf
      obtain ⟨f, rfl⟩ : ∃ g, f = g + 1 := ⟨f - 1, by omega⟩
      show P_Fore_pairs_b4 157 o M _ _ _ = _
      unfold P_Fore_pairs_b4
      rw [hP, if_pos ((nI_le2 (by omega) (by omega)).mpr (by omega)), show i = gP g by omega]
    | succ r ih =>
      intro i f hi hf
      obtain ⟨f, rfl⟩ : ∃ g, f = g + 1 := ⟨f - 1, by omega⟩
      show P_Fore_pairs_b4 157 o M _ _ _ = _
      unfold P_Fore_pairs_b4
      rw [hP, if_neg (fun z => by have := (nI_le2 (a := gP g) (b := i) (by omega) (by omega)).mp z; omega), nI_s]
      simp only [pl_e]
      have h1 := p_pairs1 he hw (K := P_Fore_pairs_h4 157 o M f) (i := i) (by omega) (gP g - (i + 1)) (i + 1) fw_fu (tc g i) (by omega) (by omega) (by omega)
      rw [rc_0 g i (Nat.le_refl _), Nat.add_zero] at h1
      rw [h1]
      exact ih (i + 1) f (by omega) (by omega)
  exact key (gP g) 0 fw_fu (by omega) (by omega)
theorem p_fp1 {M : fw_M} {o : Nat} {g : Nat → Int32} (he : rl_eq M o g) (hw : WF g) {K : Int32 → Option Int32} {i : Nat} (hi : i < gP g) : ∀ (r j f : Nat), j + r = gP g → r < f → i < j → P_Fore_firstPair_h14 157 o M K f (nI i) (nI j) = match ff (fun j => decide (i < j) && pr g i j) r j with | some q => some (nI (10 * i + q)) | none => K (nI (i + 1)) := by
  have h7 := hw.2.2.1.2.1
  have hP := (he_x he hw).2.2.1
  intro r
  induction r with
  | zero =>
    intro j f hj hf hij
    obtain ⟨f, rfl⟩ : ∃ g, f = g + 1 := ⟨f - 1, by omega⟩
    show P_Fore_firstPair_b14 157 o M K _ _ _ = _
    unfold P_Fore_firstPair_b14
    rw [hP, if_pos ((nI_le2 (by omega) (by omega)).mpr (by omega)), nI_s]
    rfl
  | succ r ih =>
    intro j f hj hf hij
    obtain ⟨f, rfl⟩ : ∃ g, f = g + 1 := ⟨f - 1, by omega⟩
    show P_Fore_firstPair_b14 157 o M K _ _ _ = _
    unfold P_Fore_firstPair_b14
    rw [hP, if_neg (fun z => by have := (nI_le2 (a := gP g) (b := j) (by omega) (by omega)).mp z; omega), p_isPair he hw hi (by omega), bs_e, nI_s]
    simp only [b1_0]
    have h := ih (j + 1) f (by omega) (by omega) (by omega)
    cases hp : pr g i j with
    | false => simpa [ff, hp] using h
    | true =>
      simp only [ff, hp, hij, decide_true, Bool.and_self, if_true, not_true, if_false]
      rw [show (10 : Int32) = nI 10 from rfl, pk_mul, nI_a]
theorem ff_from {c : Nat → Bool} {n k : Nat} (hk : k ≤ n) (h : ∀ i, i < k → c i = false) : ff c n 0 = ff c (n - k) k := by
  cases h2 : ff c (n - k) k with
  | none =>
    rw [ff_none] at h2 ⊢
    intro i h0 hi
    by_cases hik : i < k
    · exact h i hik
    · exact h2 i (by omega) (by omega)
  | some q =>
    rw [ff_some] at h2 ⊢
    obtain ⟨q1, q2, q3, q4⟩ := h2
    refine ⟨by omega, by omega, q3, fun i h0 hi => ?_⟩
    by_cases hik : i < k
    · exact h i hik
    · exact q4 i (by omega) hi
theorem p_fp {M : fw_M} {o : Nat} {g : Nat → Int32} (he : rl_eq M o g) (hw : WF g) : P_Fore_firstPair 157 o M = some (oN (FC g (gP g) 0)) := by
  have hfu := fw_fu_ge
  have h7 := hw.2.2.1.2.1
  have hP := (he_x he hw).2.2.1
  have key : ∀ (r i f : Nat), i + r = gP g → r < f → P_Fore_firstPair_h2 157 o M f (nI i) = some (oN (FC g r i)) := by
    intro r
    induction r with
    | zero =>
      intro i f hi hf
      obtain ⟨f, rfl⟩ : ∃ g, f = g + 1 := ⟨f - 1, by omega⟩
      show P_Fore_firstPair_b2 157 o M _ _ = _
      unfold P_Fore_firstPair_b2
      rw [hP, if_pos ((nI_le2 (by omega) (by omega)).mpr (by omega))]
      rfl
    | succ r ih =>
      intro i f hi hf
      obtain ⟨f, rfl⟩ : ∃ g, f = g + 1 := ⟨f - 1, by omega⟩
      show P_Fore_firstPair_b2 157 o M _ _ = _
      unfold P_Fore_firstPair_b2
      rw [hP, if_neg (fun z => by have := (nI_le2 (a := gP g) (b := i) (by omega) (by omega)).mp z; omega), nI_s]
      simp only [pl_e]
      rw [p_fp1 he hw (K := P_Fore_firstPair_h2 157 o M f) (i := i) (by omega) (gP g - (i + 1)) (i + 1) fw_fu (by omega) (by omega) (by omega)]
      have e : fp g i = ff (fun j => decide (i < j) && pr g i j) (gP g - (i + 1)) (i + 1) := ff_from (by omega) fun j hj => by simp; omega
      rw [← e]
      simp only [FC]
      cases fp g i with
      | none => exact ih (i + 1) f (by omega) (by omega)
      | some q => rfl
  exact key (gP g) 0 fw_fu (by omega) (by omega)
