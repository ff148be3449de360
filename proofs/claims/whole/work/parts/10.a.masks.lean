/-! SETS OF PEOPLE as numbers below 128 -/
theorem fa_and (a b : Nat) : nI a &&& nI b = nI (a &&& b) := by
  apply Int32.toBitVec_inj.1
  show BitVec.ofNat 32 a &&& BitVec.ofNat 32 b = BitVec.ofNat 32 (a &&& b)
  apply BitVec.eq_of_getLsbD_eq
  intro i hi
  simp [hi]
theorem fa_or (a b : Nat) : nI a ||| nI b = nI (a ||| b) := by
  apply Int32.toBitVec_inj.1
  show BitVec.ofNat 32 a ||| BitVec.ofNat 32 b = BitVec.ofNat 32 (a ||| b)
  apply BitVec.eq_of_getLsbD_eq
  intro i hi
  simp [hi]
def mk (f : Nat → Bool) : Nat → Nat
  | 0 => 0
  | n + 1 => mk f n + (if f n then 2 ^ n else 0)
theorem mk_lt (f : Nat → Bool) : ∀ n, mk f n < 2 ^ n
  | 0 => by simp [mk]
  | n + 1 => by
    have h := mk_lt f n
    simp only [mk, Nat.pow_succ]
    split <;> omega
theorem mk_b (f : Nat → Bool) : ∀ n i, (mk f n).testBit i = (decide (i < n) && f i)
  | 0, i => by simp [mk]
  | n + 1, i => by
    have h := mk_lt f n
    simp only [mk]
    by_cases hf : f n = true
    · rw [if_pos hf, Nat.add_comm]
      rcases Nat.lt_trichotomy i n with q | q | q
      · rw [Nat.testBit_two_pow_add_gt q, mk_b f n i]
        simp [q, Nat.lt_succ_of_lt q]
      · subst q
        rw [Nat.testBit_two_pow_add_eq, mk_b f i i]
        simp [hf]
      · have h2 : 2 ^ n + mk f n < 2 ^ i := by
          have h3 : 2 ^ (n + 1) ≤ 2 ^ i := Nat.pow_le_pow_right (by decide) q
          rw [Nat.pow_succ] at h3
          omega
        rw [Nat.testBit_lt_two_pow h2]
        simp; omega
    · rw [if_neg hf, Nat.add_zero, mk_b f n i]
      by_cases q : i = n
      · subst q
        simp at hf
        simp [hf]
      · have : (i < n ↔ i < n + 1) := by omega
        simp [this]
theorem mk_128 {f : Nat → Bool} {n : Nat} (h : n ≤ 7) : mk f n < 128 := Nat.lt_of_lt_of_le (mk_lt f n) (Nat.pow_le_pow_right (by decide) h)
theorem bx {a b : Nat} (h : ∀ i, a.testBit i = b.testBit i) : a = b := Nat.eq_of_testBit_eq h
theorem bx7 {a b : Nat} (ha : a < 128) (hb : b < 128) (h : ∀ i, i < 7 → a.testBit i = b.testBit i) : a = b := by
  refine bx fun i => ?_
  by_cases hi : i < 7
  · exact h i hi
  · have h1 : 128 ≤ 2 ^ i := Nat.pow_le_pow_right (n := 2) (by decide) (show 7 ≤ i by omega)
    rw [Nat.testBit_lt_two_pow (by omega), Nat.testBit_lt_two_pow (by omega)]
theorem b_7 {a i : Nat} (ha : a < 128) (h : a.testBit i = true) : i < 7 := by
  by_cases hi : i < 7
  · exact hi
  · have h1 : 128 ≤ 2 ^ i := Nat.pow_le_pow_right (n := 2) (by decide) (show 7 ≤ i by omega)
    rw [Nat.testBit_lt_two_pow (by omega)] at h
    cases h
theorem sh_1 : ∀ j, j < 31 → (1 : Int32) <<< (nI j &&& 31) = nI (2 ^ j) := by decide
theorem sh_l : ∀ n, n < 32 → ((nI n &&& 31).toBitVec.smod 32).toNat = n := by decide +kernel
theorem mk_s (f : Nat → Bool) {n : Nat} (hn : n ≤ 7) (hf : f n = true) : nI (mk f n) ||| ((1 : Int32) <<< (nI n &&& 31)) = nI (mk f (n + 1)) := by
  rw [sh_1 n (by omega), fa_or]
  refine congrArg nI (bx fun i => ?_)
  rw [Nat.testBit_or, mk_b, mk_b, Nat.testBit_two_pow]
  by_cases h : i = n
  · subst h; simp [hf]
  · have : (i < n ↔ i < n + 1) := by omega
    simp [this, Ne.symm h]
theorem mk_z (f : Nat → Bool) {n : Nat} (hf : f n = false) : mk f (n + 1) = mk f n := by simp [mk, hf]
theorem bt_0 {m p : Nat} (hm : m < 2 ^ 31) (hp : p < 31) : ((nI m >>> (nI p &&& 31)) &&& (1 : Int32)) = 0 ↔ m.testBit p = false := by
  rw [pk_shrN hm _ p (sh_l p (by omega))]
  have hd : m / 2 ^ p ≤ m := Nat.div_le_self _ _
  rw [pk_andN (by omega) 1 (by rfl), Nat.testBit_eq_decide_div_mod_eq, show (0 : Int32) = nI 0 from rfl, nI_eq (by omega) (by omega)]
  simp
theorem bt_1 {m p : Nat} (hm : m < 2 ^ 31) (hp : p < 31) : ((nI m >>> (nI p &&& 31)) &&& (1 : Int32)) = 1 ↔ m.testBit p = true := by
  rw [pk_shrN hm _ p (sh_l p (by omega))]
  have hd : m / 2 ^ p ≤ m := Nat.div_le_self _ _
  rw [pk_andN (by omega) 1 (by rfl), Nat.testBit_eq_decide_div_mod_eq, show (1 : Int32) = nI 1 from rfl, nI_eq (by omega) (by omega)]
  simp
/-- what is in a and not in b -/
def sd (a b : Nat) : Nat := mk (fun i => a.testBit i && !b.testBit i) 7
theorem sd_b {a b i : Nat} (hi : i < 7) : (sd a b).testBit i = (a.testBit i && !b.testBit i) := by simp [sd, mk_b, hi]
theorem sd_128 (a b : Nat) : sd a b < 128 := mk_128 (Nat.le_refl 7)
theorem sd_n {a b : Nat} (ha : a < 128) : nI a &&& (nI b ^^^ (-1 : Int32)) = nI (sd a b) := by
  apply Int32.toBitVec_inj.1
  show BitVec.ofNat 32 a &&& (BitVec.ofNat 32 b ^^^ BitVec.allOnes 32) = BitVec.ofNat 32 (sd a b)
  apply BitVec.eq_of_getLsbD_eq
  intro i hi
  simp only [BitVec.getLsbD_and, BitVec.getLsbD_xor, BitVec.getLsbD_allOnes, BitVec.getLsbD_ofNat, hi, decide_true, Bool.true_and, Bool.xor_true]
  by_cases h7 : i < 7
  · rw [sd_b h7]
  · have h1 : 128 ≤ 2 ^ i := Nat.pow_le_pow_right (n := 2) (by decide) (show 7 ≤ i by omega)
    rw [Nat.testBit_lt_two_pow (show a < 2 ^ i by omega), Nat.testBit_lt_two_pow (show sd a b < 2 ^ i by have := sd_128 a b; omega)]
    rfl
theorem sd_0 {a b : Nat} : sd a b = 0 ↔ ∀ i, i < 7 → a.testBit i = true → b.testBit i = true := by
  constructor
  · intro h i hi ha
    have := sd_b (a := a) (b := b) hi
    rw [h, Nat.zero_testBit, ha] at this
    cases hb : b.testBit i
    · rw [hb] at this; cases this
    · rfl
  · intro h
    refine bx7 (sd_128 a b) (by omega) fun i hi => ?_
    rw [sd_b hi, Nat.zero_testBit]
    cases ha : a.testBit i
    · rfl
    · rw [h i hi ha]; rfl
theorem and_128 {a b : Nat} (ha : a < 128) : a &&& b < 128 := Nat.lt_of_le_of_lt Nat.and_le_left ha
/-- the first place from p on, r places, where c holds -/
def ff (c : Nat → Bool) : Nat → Nat → Option Nat
  | 0, _ => none
  | r + 1, p => if c p then some p else ff c r (p + 1)
theorem ff_none {c : Nat → Bool} : ∀ {r p : Nat}, ff c r p = none ↔ ∀ i, p ≤ i → i < p + r → c i = false
  | 0, p => by simp [ff]; omega
  | r + 1, p => by
    simp only [ff]
    by_cases h : c p = true
    · rw [if_pos h]
      constructor
      · intro z; cases z
      · intro z
        have := z p (Nat.le_refl _) (by omega)
        rw [h] at this; cases this
    · rw [if_neg h, ff_none]
      constructor
      · intro z i h1 h2
        by_cases hi : i = p
        · subst hi; simpa using h
        · exact z i (by omega) (by omega)
      · intro z i h1 h2
        exact z i (by omega) (by omega)
theorem ff_some {c : Nat → Bool} : ∀ {r p q : Nat}, ff c r p = some q ↔ p ≤ q ∧ q < p + r ∧ c q = true ∧ ∀ i, p ≤ i → i < q → c i = false
  | 0, p, q => by simp [ff]; omega
  | r + 1, p, q => by
    simp only [ff]
    by_cases h : c p = true
    · rw [if_pos h]
      constructor
      · intro z; cases z
        exact ⟨Nat.le_refl _, by omega, h, fun i h1 h2 => absurd h2 (by omega)⟩
      · rintro ⟨h1, h2, h3, h4⟩
        by_cases hq : q = p
        · rw [hq]
        · have := h4 p (Nat.le_refl _) (by omega)
          rw [h] at this; cases this
    · rw [if_neg h, ff_some]
      constructor
      · rintro ⟨h1, h2, h3, h4⟩
        refine ⟨by omega, by omega, h3, fun i a b => ?_⟩
        by_cases hi : i = p
        · subst hi; simpa using h
        · exact h4 i (by omega) b
      · rintro ⟨h1, h2, h3, h4⟩
        have hq : q ≠ p := by intro z; subst z; exact h h3
        exact ⟨by omega, by omega, h3, fun i a b => h4 i (by omega) b⟩
theorem ff_cong {c d : Nat → Bool} {r p : Nat} (h : ∀ i, p ≤ i → i < p + r → c i = d i) : ff c r p = ff d r p := by
  cases hd : ff d r p with
  | none =>
    rw [ff_none] at hd ⊢
    exact fun i a b => by rw [h i a b]; exact hd i a b
  | some q =>
    rw [ff_some] at hd ⊢
    obtain ⟨h1, h2, h3, h4⟩ := hd
    exact ⟨h1, h2, by rw [h q h1 h2]; exact h3, fun i a b => by rw [h i a (by omega)]; exact h4 i a b⟩
/-- fewer places, if c holds at none beyond -/
theorem ff_less {c : Nat → Bool} {r r2 : Nat} (hr : r ≤ r2) (h : ∀ i, r ≤ i → i < r2 → c i = false) : ff c r2 0 = ff c r 0 := by
  cases hd : ff c r 0 with
  | none =>
    rw [ff_none] at hd ⊢
    intro i a b
    by_cases hi : i < r
    · exact hd i a (by omega)
    · exact h i (by omega) (by omega)
  | some q =>
    rw [ff_some] at hd ⊢
    obtain ⟨h1, h2, h3, h4⟩ := hd
    exact ⟨h1, by omega, h3, h4⟩
def oN : Option Nat → Int32
  | none => -1
  | some p => nI p
def oM : Option Nat → Int32
  | none => -1000000
  | some p => nI p
/-! a hall by the reference's row -/
def gD (g : Nat → Int32) : Nat := (g 0).toNatClampNeg
def gY (g : Nat → Int32) : Nat := (g 1).toNatClampNeg
def gP (g : Nat → Int32) : Nat := (g 2).toNatClampNeg
def gS (g : Nat → Int32) : Nat := (g 3).toNatClampNeg
def gk (g : Nat → Int32) (p : Nat) : Nat := (g (4 + 5 * p)).toNatClampNeg
def gr (g : Nat → Int32) (p : Nat) : Nat := (g (5 + 5 * p)).toNatClampNeg
def gh (g : Nat → Int32) (p : Nat) : Nat := (g (6 + 5 * p)).toNatClampNeg
def gd (g : Nat → Int32) (p : Nat) : Int := (g (7 + 5 * p)).toInt
def gb (g : Nat → Int32) (p : Nat) : Nat := (g (8 + 5 * p)).toNatClampNeg
/-- a well formed hall, in these words; rk: its ranks and honours may be what is not asked for -/
def WF (g : Nat → Int32) : Prop := (1 ≤ gD g ∧ gD g ≤ 4 ∧ g 0 = nI (gD g)) ∧ (1 ≤ gY g ∧ gY g ≤ 9 ∧ g 1 = nI (gY g)) ∧ (1 ≤ gP g ∧ gP g ≤ 7 ∧ g 2 = nI (gP g)) ∧ ∀ p, p < gP g → (1 ≤ gk g p ∧ gk g p ≤ 5 ∧ g (4 + 5 * p) = nI (gk g p)) ∧ (gr g p ≤ 9 ∧ g (5 + 5 * p) = nI (gr g p)) ∧ (gh g p ≤ 9 ∧ g (6 + 5 * p) = nI (gh g p)) ∧ (-1 ≤ gd g p ∧ gd g p < gD g) ∧ (gb g p ≤ 9 ∧ g (8 + 5 * p) = nI (gb g p))
theorem wf_of {g : Nat → Int32} (h : rl_wf g) : WF g ∧ gS g ≤ 999 ∧ g 3 = nI (gS g) := by
  obtain ⟨D, Y, P, S, d1, d2, y1, y2, p1, p2, s1, e0, e1, e2, e3, h⟩ := h
  have hD : gD g = D := by unfold gD; rw [e0, tC (by omega)]
  have hY : gY g = Y := by unfold gY; rw [e1, tC (by omega)]
  have hP : gP g = P := by unfold gP; rw [e2, tC (by omega)]
  have hS : gS g = S := by unfold gS; rw [e3, tC (by omega)]
  refine ⟨⟨by rw [hD]; exact ⟨d1, d2, e0⟩, by rw [hY]; exact ⟨y1, y2, e1⟩, by rw [hP]; exact ⟨p1, p2, e2⟩, fun p hp => ?_⟩, by rw [hS]; exact s1, by rw [hS]; exact e3⟩
  rw [hP] at hp
  obtain ⟨⟨k, k1, k2, k3⟩, ⟨r, r1, r2⟩, ⟨o, o1, o2⟩, hd, ⟨b, z1, z2⟩⟩ := h p hp
  have hk : gk g p = k := by unfold gk; rw [k3, tC (by omega)]
  have hr : gr g p = r := by unfold gr; rw [r2, tC (by omega)]
  have ho : gh g p = o := by unfold gh; rw [o2, tC (by omega)]
  have hb : gb g p = b := by unfold gb; rw [z2, tC (by omega)]
  refine ⟨by rw [hk]; exact ⟨k1, k2, k3⟩, by rw [hr]; exact ⟨r1, r2⟩, by rw [ho]; exact ⟨o1, o2⟩, ?_, by rw [hb]; exact ⟨z1, z2⟩⟩
  · unfold gd
    rw [hD]
    rcases hd with a | ⟨d, a, c⟩
    · rw [a]; exact ⟨by decide, by rw [show (-1 : Int32).toInt = -1 from rfl]; omega⟩
    · rw [c, tI (by omega)]; omega
theorem wf_to {g : Nat → Int32} (h : WF g) (h1 : gS g ≤ 999) (h2 : g 3 = nI (gS g)) : rl_wf g := by
  obtain ⟨⟨d1, d2, d3⟩, ⟨y1, y2, y3⟩, ⟨p1, p2, p3⟩, h⟩ := h
  refine ⟨gD g, gY g, gP g, gS g, d1, d2, y1, y2, p1, p2, h1, d3, y3, p3, h2, fun p hp => ?_⟩
  obtain ⟨a, b, c, d, e⟩ := h p hp
  refine ⟨⟨_, a⟩, ⟨_, b⟩, ⟨_, c⟩, ?_, ⟨_, e⟩⟩
  by_cases hz : gd g p = -1
  · exact Or.inl (Int32.toInt_inj.mp hz)
  · refine Or.inr ⟨(gd g p).toNat, by omega, eq_nI ?_⟩
    show gd g p = _
    omega
