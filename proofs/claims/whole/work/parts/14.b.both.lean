/-! both: the pairs of whom each gives way to the other -/
def pr (g : Nat → Int32) (i j : Nat) : Bool := yl g i j && yl g j i
def rc (g : Nat → Int32) (i : Nat) : Nat → Nat
  | 0 => 0
  | n + 1 => rc g i n + (if decide (i < n) && pr g i n then 1 else 0)
def tc (g : Nat → Int32) : Nat → Nat
  | 0 => 0
  | n + 1 => tc g n + rc g n (gP g)
def fp (g : Nat → Int32) (i : Nat) : Option Nat := ff (fun j => decide (i < j) && pr g i j) (gP g) 0
def FC (g : Nat → Int32) : Nat → Nat → Option Nat
  | 0, _ => none
  | r + 1, i => match fp g i with
    | some j => some (10 * i + j)
    | none => FC g r (i + 1)
theorem rc_le (g : Nat → Int32) (i : Nat) : ∀ n, rc g i n ≤ n
  | 0 => Nat.le_refl 0
  | n + 1 => by
    have := rc_le g i n
    simp only [rc]
    split <;> omega
theorem rc_0 (g : Nat → Int32) (i : Nat) : ∀ {n : Nat}, n ≤ i + 1 → rc g i n = 0
  | 0, _ => rfl
  | n + 1, hn => by
    simp only [rc]
    rw [rc_0 g i (by omega), if_neg (by simp; omega)]
theorem p_isPair {M : fw_M} {o : Nat} {g : Nat → Int32} (he : rl_eq M o g) (hw : WF g) {i j : Nat} (hi : i < gP g) (hj : j < gP g) : P_Fore_isPair o M (nI i) (nI j) = some (b1 (pr g i j = true)) := by
  unfold P_Fore_isPair P_Fore_isPair_b0 P_Fore_isPair_b22 P_Fore_isPair_b23
  rw [p_yields he hw hi hj, p_yields he hw hj hi]
  simp only [bs_e, b1_0, zr_0, zr_1]
  unfold pr
  cases yl g i j <;> cases yl g j i <;> rfl
theorem p_pairs1 {M : fw_M} {o : Nat} {g : Nat → Int32} (he : rl_eq M o g) (hw : WF g) {K : Int32 → Int32 → Option Int32} {i : Nat} (hi : i < gP g) : ∀ (r j f x : Nat), j + r = gP g → r < f → i < j → P_Fore_pairs_h17 157 o M K f (nI (x + rc g i j)) (nI i) (nI j) = K (nI (x + rc g i (gP g))) (nI (i + 1)) := by
  have h7 := hw.2.2.1.2.1
  have hP := (he_x he hw).2.2.1
  intro r
  induction r with
  | zero =>
    intro j f x hj hf hij
    obtain ⟨f, rfl⟩ : ∃ g, f = g + 1 := ⟨f - 1, by omega⟩
    show P_Fore_pairs_b17 157 o M K _ _ _ _ = _
    unfold P_Fore_pairs_b17
    rw [hP, if_pos ((nI_le2 (by omega) (by omega)).mpr (by omega)), nI_s, show j = gP g by omega]
  | succ r ih =>
    intro j f x hj hf hij
    obtain ⟨f, rfl⟩ : ∃ g, f = g + 1 := ⟨f - 1, by omega⟩
    show P_Fore_pairs_b17 157 o M K _ _ _ _ = _
    unfold P_Fore_pairs_b17 P_Fore_pairs_b39
    rw [hP, if_neg (fun z => by have := (nI_le2 (a := gP g) (b := j) (by omega) (by omega)).mp z; omega), p_isPair he hw hi (by omega), bs_e, nI_s, nI_s]
    simp only [b1_0]
    have h := ih (j + 1) f x (by omega) (by omega) (by omega)
    simp only [rc] at h
    cases hp : pr g i j with
    | false =>
      rw [hp] at h
      simpa using h
    | true =>
      rw [hp, if_pos (by simp [hij])] at h
      simpa [Nat.add_assoc] using h
theorem p_pairs {M : fw_M} {o : Nat} {g : Nat → Int32} (he : rl_eq M o g) (hw : WF g) : P_Fore_pairs 157 o M = some (nI (tc g (gP g))) := by
  have hfu := fw_fu_ge
  have h7 := hw.2.2.1.2.1
  have hP := (he_x he hw).2.2.1
  have key : ∀ (r i f : Nat), i + r = gP g → r < f → P_Fore_pairs_h4 157 o M f (nI (tc g i)) (nI i) = some (nI (tc g (gP g))) := by
    intro r
    induction r with
    | zero =>
      intro i f hi hf
      obtain ⟨f, rfl⟩ : ∃ g, f = g + 1 := ⟨f - 1, by omega⟩
      show P_Fore_pairs_b4 157 o M _ _ _ = _
      unfold P_Fore_pairs_b4
      rw [hP, if_pos ((nI_le2 (by omega) (by omega)).mpr (by omega)), show i = gP g by omega]
    | succ r ih =>
      intro i f hi hf
      obtain ⟨f, rfl⟩ : ∃ g, f = g + 1 := ⟨f - 1, by omega⟩
      show P_Fore_pairs_b4 157 o M _ _ _ = _
      unfold P_Fore_pairs_b4
      rw [hP, if_neg (fun z => by have := (nI_le2 (a := gP g) (b := i) (by omega) (by omega)).mp z; omega), nI_s]
      simp only [pl_e]
      have h1 := p_pairs1 he hw (K := P_Fore_pairs_h4 157 o M f) (i := i) (by omega) (gP g - (i + 1)) (i + 1) fw_fu (tc g i) (by omega) (by omega) (by omega)
      rw [rc_0 g i (Nat.le_refl _), Nat.add_zero] at h1
      rw [h1]
      exact ih (i + 1) f (by omega) (by omega)
  exact key (gP g) 0 fw_fu (by omega) (by omega)
theorem p_fp1 {M : fw_M} {o : Nat} {g : Nat → Int32} (he : rl_eq M o g) (hw : WF g) {K : Int32 → Option Int32} {i : Nat} (hi : i < gP g) : ∀ (r j f : Nat), j + r = gP g → r < f → i < j → P_Fore_firstPair_h14 157 o M K f (nI i) (nI j) = match ff (fun j => decide (i < j) && pr g i j) r j with | some q => some (nI (10 * i + q)) | none => K (nI (i + 1)) := by
  have h7 := hw.2.2.1.2.1
  have hP := (he_x he hw).2.2.1
  intro r
  induction r with
  | zero =>
    intro j f hj hf hij
    obtain ⟨f, rfl⟩ : ∃ g, f = g + 1 := ⟨f - 1, by omega⟩
    show P_Fore_firstPair_b14 157 o M K _ _ _ = _
    unfold P_Fore_firstPair_b14
    rw [hP, if_pos ((nI_le2 (by omega) (by omega)).mpr (by omega)), nI_s]
    rfl
  | succ r ih =>
    intro j f hj hf hij
    obtain ⟨f, rfl⟩ : ∃ g, f = g + 1 := ⟨f - 1, by omega⟩
    show P_Fore_firstPair_b14 157 o M K _ _ _ = _
    unfold P_Fore_firstPair_b14
    rw [hP, if_neg (fun z => by have := (nI_le2 (a := gP g) (b := j) (by omega) (by omega)).mp z; omega), p_isPair he hw hi (by omega), bs_e, nI_s]
    simp only [b1_0]
    have h := ih (j + 1) f (by omega) (by omega) (by omega)
    cases hp : pr g i j with
    | false => simpa [ff, hp] using h
    | true =>
      simp only [ff, hp, hij, decide_true, Bool.and_self, if_true, not_true, if_false]
      rw [show (10 : Int32) = nI 10 from rfl, pk_mul, nI_a]
theorem ff_from {c : Nat → Bool} {n k : Nat} (hk : k ≤ n) (h : ∀ i, i < k → c i = false) : ff c n 0 = ff c (n - k) k := by
  cases h2 : ff c (n - k) k with
  | none =>
    rw [ff_none] at h2 ⊢
    intro i h0 hi
    by_cases hik : i < k
    · exact h i hik
    · exact h2 i (by omega) (by omega)
  | some q =>
    rw [ff_some] at h2 ⊢
    obtain ⟨q1, q2, q3, q4⟩ := h2
    refine ⟨by omega, by omega, q3, fun i h0 hi => ?_⟩
    by_cases hik : i < k
    · exact h i hik
    · exact q4 i (by omega) hi
theorem p_fp {M : fw_M} {o : Nat} {g : Nat → Int32} (he : rl_eq M o g) (hw : WF g) : P_Fore_firstPair 157 o M = some (oN (FC g (gP g) 0)) := by
  have hfu := fw_fu_ge
  have h7 := hw.2.2.1.2.1
  have hP := (he_x he hw).2.2.1
  have key : ∀ (r i f : Nat), i + r = gP g → r < f → P_Fore_firstPair_h2 157 o M f (nI i) = some (oN (FC g r i)) := by
    intro r
    induction r with
    | zero =>
      intro i f hi hf
      obtain ⟨f, rfl⟩ : ∃ g, f = g + 1 := ⟨f - 1, by omega⟩
      show P_Fore_firstPair_b2 157 o M _ _ = _
      unfold P_Fore_firstPair_b2
      rw [hP, if_pos ((nI_le2 (by omega) (by omega)).mpr (by omega))]
      rfl
    | succ r ih =>
      intro i f hi hf
      obtain ⟨f, rfl⟩ : ∃ g, f = g + 1 := ⟨f - 1, by omega⟩
      show P_Fore_firstPair_b2 157 o M _ _ = _
      unfold P_Fore_firstPair_b2
      rw [hP, if_neg (fun z => by have := (nI_le2 (a := gP g) (b := i) (by omega) (by omega)).mp z; omega), nI_s]
      simp only [pl_e]
      rw [p_fp1 he hw (K := P_Fore_firstPair_h2 157 o M f) (i := i) (by omega) (gP g - (i + 1)) (i + 1) fw_fu (by omega) (by omega) (by omega)]
      have e : fp g i = ff (fun j => decide (i < j) && pr g i j) (gP g - (i + 1)) (i + 1) := ff_from (by omega) fun j hj => by simp; omega
      rw [← e]
      simp only [FC]
      cases fp g i with
      | none => exact ih (i + 1) f (by omega) (by omega)
      | some q => rfl
  exact key (gP g) 0 fw_fu (by omega) (by omega)
theorem ff_snoc {c : Nat → Bool} : ∀ {n k : Nat}, ff c (n + 1) k = match ff c n k with | some q => some q | none => if c (k + n) then some (k + n) else none
  | 0, k => by
    simp only [ff]
    cases c k <;> rfl
  | n + 1, k => by
    rw [show ff c (n + 1 + 1) k = if c k then some k else ff c (n + 1) (k + 1) from rfl, show ff c (n + 1) k = if c k then some k else ff c n (k + 1) from rfl]
    cases hc : c k with
    | true => simp
    | false =>
      simp only [Bool.false_eq_true, if_false]
      rw [ff_snoc, show k + 1 + n = k + (n + 1) by omega]
theorem FC_snoc {g : Nat → Int32} : ∀ {r i : Nat}, FC g (r + 1) i = match FC g r i with | some z => some z | none => match fp g (i + r) with | some j => some (10 * (i + r) + j) | none => none
  | 0, i => by
    simp only [FC]
    rw [Nat.add_zero]
  | r + 1, i => by
    rw [show FC g (r + 1 + 1) i = match fp g i with | some j => some (10 * i + j) | none => FC g (r + 1) (i + 1) from rfl, show FC g (r + 1) i = match fp g i with | some j => some (10 * i + j) | none => FC g r (i + 1) from rfl]
    cases fp g i with
    | some j => rfl
    | none =>
      simp only
      rw [FC_snoc, show i + 1 + r = i + (r + 1) by omega]
theorem m1_s (x : Int32) : x + (-1 : Int32) = x - 1 := (Int32.sub_eq_add_neg x 1).symm
theorem m_bothI {M : fw_M} (hw : WF (M 203)) {K : fw_M → Int32 → Int32 → Int32 → Int32 → Option (Int32 × fw_M)} {x1 : Int32} {i : Nat} (hi : i < gP (M 203)) : ∀ (n f x : Nat) (v : Int32), i < n → n ≤ gP (M 203) → n < f → P_Mod_both_h58 199 K f M x1 (nI x) v (nI i) (nI n - 1) = K M x1 (nI (x + rc (M 203) i n)) (match ff (fun j => decide (i < j) && pr (M 203) i j) n 0 with | some q => nI (10 * i + q) | none => v) (nI i - 1) := by
  have h7 := hw.2.2.1.2.1
  intro n
  induction n with
  | zero => intro f x v h1; omega
  | succ n ih =>
    intro f x v h1 h2 hf
    obtain ⟨f, rfl⟩ : ∃ g, f = g + 1 := ⟨f - 1, by omega⟩
    rw [nI_s1 (by omega), Nat.add_sub_cancel]
    show P_Mod_both_b58 199 K _ M _ _ _ _ _ = _
    unfold P_Mod_both_b58
    by_cases hn : n = i
    · subst hn
      rw [if_pos ((nI_le2 (by omega) (by omega)).mpr (by omega)), rc_0 _ _ (Nat.le_refl _), m1_s]
      have : ff (fun j => decide (n < j) && pr (M 203) n j) (n + 1) 0 = none := by
        rw [ff_none]
        intro j _ hj
        simp; omega
      rw [this]
      rfl
    · rw [if_neg (fun z => by have := (nI_le2 (a := n) (b := i) (by omega) (by omega)).mp z; omega)]
      unfold P_Mod_both_b97 P_Mod_both_b98 P_Mod_both_b111 P_Mod_both_b130
      rw [show P_Mod_yields (199 + 4) M (nI i) (nI n) = _ from m_yields hw hi (by omega), show P_Mod_yields (199 + 4) M (nI n) (nI i) = _ from m_yields hw (by omega) hi]
      simp only [bs_e, b1_0, pl_e, m1_s, if_true, if_neg (show ¬ (1 : Int32) = 0 by decide), Int32.add_zero, nI_s]
      have e10 : ((10 : Int32) * nI i) + nI n = nI (10 * i + n) := by rw [show (10 : Int32) = nI 10 from rfl, pk_mul, nI_a]
      rw [e10, ff_snoc, Nat.zero_add]
      simp only [rc]
      have hpr : pr (M 203) i n = (yl (M 203) i n && yl (M 203) n i) := rfl
      have hin : decide (i < n) = true := by simp; omega
      cases y1 : yl (M 203) i n with
      | false =>
        rw [hpr, y1]
        simp only [Bool.false_and, Bool.and_false, Bool.false_eq_true, not_false_iff, if_true, if_false, Nat.add_zero]
        rw [ih f x v (by omega) (by omega) (by omega)]
        cases ff (fun j => decide (i < j) && pr (M 203) i j) n 0 <;> rfl
      | true =>
        cases y2 : yl (M 203) n i with
        | false =>
          rw [hpr, y1, y2]
          simp only [Bool.and_false, Bool.false_eq_true, not_false_iff, not_true, if_true, if_false, Nat.add_zero]
          rw [ih f x v (by omega) (by omega) (by omega)]
          cases ff (fun j => decide (i < j) && pr (M 203) i j) n 0 <;> rfl
        | true =>
          rw [hpr, y1, y2]
          simp only [Bool.and_self, Bool.and_true, hin, not_true, if_true, if_false]
          rw [ih f (x + 1) (nI (10 * i + n)) (by omega) (by omega) (by omega), show x + 1 + rc (M 203) i n = x + (rc (M 203) i n + 1) by omega]
          cases ff (fun j => decide (i < j) && pr (M 203) i j) n 0 <;> rfl
theorem m_bothO {M : fw_M} (hw : WF (M 203)) {x1 : Int32} : ∀ (n f x : Nat) (v : Int32), n ≤ gP (M 203) → n < f → P_Mod_both_h43 199 f M x1 (nI x) v (nI n - 1) = some (if x1 = 0 then nI (x + tc (M 203) n) else match FC (M 203) n 0 with | some z => nI z | none => v, M) := by
  have hfu := fw_fu_ge
  have h7 := hw.2.2.1.2.1
  intro n
  induction n with
  | zero =>
    intro f x v _ hf
    obtain ⟨f, rfl⟩ : ∃ g, f = g + 1 := ⟨f - 1, by omega⟩
    show P_Mod_both_b43 199 _ M _ _ _ _ = _
    unfold P_Mod_both_b43 P_Mod_both_b152
    rw [if_pos (by decide)]
    by_cases h : x1 = 0
    · rw [if_pos h, if_pos h]; rfl
    · rw [if_neg h, if_neg h]; rfl
  | succ n ih =>
    intro f x v h2 hf
    obtain ⟨f, rfl⟩ : ∃ g, f = g + 1 := ⟨f - 1, by omega⟩
    rw [nI_s1 (by omega), Nat.add_sub_cancel]
    show P_Mod_both_b43 199 _ M _ _ _ _ = _
    unfold P_Mod_both_b43
    rw [if_neg (by rw [nI_z3 (by omega)]; exact id), show fw_ald M (199 + 4) 39 (2 : Int32) = _ from m_P hw, bs_e]
    simp only [pl_e]
    rw [m_bothI hw (by omega) (gP (M 203)) fw_fu x v (by omega) (by omega) (by omega), ih f _ _ (by omega) (by omega), FC_snoc, Nat.zero_add]
    simp only [tc]
    rw [show x + rc (M 203) n (gP (M 203)) + tc (M 203) n = x + (tc (M 203) n + rc (M 203) n (gP (M 203))) by omega]
    refine congrArg some (Prod.ext ?_ rfl)
    show (if x1 = 0 then _ else _) = (if x1 = 0 then _ else _)
    by_cases h : x1 = 0
    · rw [if_pos h, if_pos h]
    · rw [if_neg h, if_neg h]
      unfold fp
      cases FC (M 203) n 0 with
      | some z => rfl
      | none =>
        cases ff (fun j => decide (n < j) && pr (M 203) n j) (gP (M 203)) 0 <;> rfl
theorem FC_lt {g : Nat → Int32} (h7 : gP g ≤ 7) : ∀ {r i z : Nat}, i + r ≤ gP g → FC g r i = some z → z < 100
  | 0, _, _, _, h => by cases h
  | r + 1, i, z, hr, h => by
    simp only [FC] at h
    cases hf : fp g i with
    | none => rw [hf] at h; exact FC_lt h7 (by omega) h
    | some j =>
      rw [hf] at h
      have := (ff_some.mp hf).2.1
      have h2 := Option.some.inj h
      omega
theorem ow_both {Mc Mr : fw_M} (hR : rl Mc Mr) (a0 : Int32) : ∃ (r : Int32) (Mr2 : fw_M), P_Door_both 0 Mc a0 = some r ∧ P_Mod_both 199 Mr a0 = some (r, Mr2) ∧ rl Mc Mr2 := by
  have hfu := fw_fu_ge
  unfold P_Door_both P_Door_both_b0 P_Door_both_b49 P_Mod_both P_Mod_both_b0
  have hR2 := rl_thrown hR 0
  have hG : fw_set Mr 199 0 0 203 = Mr 203 := st_n (by omega)
  obtain ⟨e1, e2, e3, e4, h7, hd4, hPD, e5⟩ := hall_P hR
  simp only [pl_e]
  rw [p_w0 Mc a0 (hi := 1) (n := 1) rfl, p_in0 _ a0 (hi := 1) (n := 1) rfl, m_isThere (o := 199) (by rw [hG]; exact e4) (by omega), bs_e, p_refusal (o := 0) e1 (by omega)]
  simp only [bs_e, b1_0]
  by_cases hP : gP (Mr 203) = 0
  · rw [if_pos hP, if_neg (show ¬ (-1000002 : Int32) = 0 by decide), if_pos (show ¬ 0 < gD (Mr 203) by omega)]
    exact ⟨_, _, rfl, rfl, hR2⟩
  · rw [if_neg hP, if_neg (show ¬ ¬ 0 < gD (Mr 203) by omega)]
    obtain ⟨he, hW, -⟩ := hall_E hR (by omega)
    by_cases h1 : 0 ≤ a0.toInt ∧ a0.toInt ≤ 1
    · simp only [h1, and_self, not_true, if_false, if_true]
      rw [show P_Fore_pairs (0 + 157) (0 + 4) Mc = _ from p_pairs he hW, show P_Fore_firstPair (0 + 157) (0 + 4) Mc = _ from p_fp he hW, show fw_ald (fw_set Mr 199 0 0) (199 + 4) 39 (2 : Int32) = _ from m_P (a := 203) (M := fw_set Mr 199 0 0) (by rw [hG]; exact hW)]
      simp only [bs_e]
      rw [show P_Mod_both_h43 199 fw_fu (fw_set Mr 199 0 0) a0 0 (-1000000) (nI (gP (fw_set Mr 199 0 0 203)) - 1) = _ from m_bothO (M := fw_set Mr 199 0 0) (by rw [hG]; exact hW) (gP (fw_set Mr 199 0 0 203)) fw_fu 0 _ (by omega) (by rw [hG]; omega), hG, Nat.zero_add]
      by_cases h : a0 = 0
      · rw [if_pos h, if_pos h]
        exact ⟨_, _, rfl, rfl, hR2⟩
      · rw [if_neg h, if_neg h, p_orNone]
        cases hF : FC (Mr 203) (gP (Mr 203)) 0 with
        | none => exact ⟨_, _, rfl, rfl, hR2⟩
        | some z =>
          have hz := FC_lt h7 (by omega) hF
          have e : (oN (some z)).toInt = (z : Int) := tI (by omega)
          rw [if_neg (by rw [e]; omega)]
          exact ⟨_, _, rfl, rfl, hR2⟩
    · simp only [h1, not_false_iff, if_true, if_false, if_neg (show ¬ (-1000001 : Int32) = 0 by decide)]
      exact ⟨_, _, rfl, rfl, hR2⟩
