/-! SUMS over the sets within a set -/
def sS (W : Nat) (F : Nat → Nat) : Nat → Nat
  | 0 => 0
  | m + 1 => sS W F m + (if sd m W = 0 then F m else 0)
theorem sS_W {W : Nat} {F : Nat → Nat} (hW : W < 128) : ∀ k, W + 1 + k ≤ 128 → sS W F (W + 1 + k) = sS W F (W + 1)
  | 0, _ => rfl
  | k + 1, h => by
    have ih := sS_W (F := F) hW k (by omega)
    show sS W F (W + 1 + k) + (if sd (W + 1 + k) W = 0 then F (W + 1 + k) else 0) = _
    rw [if_neg (fun z => by have := sub_le (show W + 1 + k < 128 by omega) hW z; omega), ih]
    rfl
theorem sS_128 {W : Nat} {F : Nat → Nat} (hW : W < 128) : sS W F 128 = sS W F (W + 1) := by
  have := sS_W (F := F) hW (127 - W) (by omega)
  rwa [show W + 1 + (127 - W) = 128 by omega] at this
theorem sS_c {W : Nat} {F F2 : Nat → Nat} : ∀ {n : Nat}, (∀ m, m < n → sd m W = 0 → F m = F2 m) → sS W F n = sS W F2 n
  | 0, _ => rfl
  | n + 1, h => by
    show sS W F n + (if sd n W = 0 then F n else 0) = sS W F2 n + (if sd n W = 0 then F2 n else 0)
    rw [sS_c (n := n) fun m hm hs => h m (by omega) hs]
    by_cases hs : sd n W = 0
    · rw [if_pos hs, if_pos hs, h n (by omega) hs]
    · rw [if_neg hs, if_neg hs]
theorem sS_b {W : Nat} {F : Nat → Nat} {B : Nat} (hF : ∀ m, F m ≤ B) : ∀ n, sS W F n ≤ n * B
  | 0 => by show 0 ≤ _; omega
  | n + 1 => by
    have ih := sS_b (W := W) hF n
    have h := hF n
    show sS W F n + (if sd n W = 0 then F n else 0) ≤ (n + 1) * B
    rw [Nat.succ_mul]
    split <;> omega
/-- the same, bit by bit -/
def rS (W : Nat) : Nat → (Nat → Nat) → Nat
  | 0, F => F 0
  | n + 1, F => rS W n F + (if W.testBit n = true then rS W n (fun m => F (m + 2 ^ n)) else 0)
theorem rS_c {W : Nat} : ∀ {n : Nat} {F F2 : Nat → Nat}, (∀ m, m < 2 ^ n → F m = F2 m) → rS W n F = rS W n F2
  | 0, F, F2, h => h 0 (by decide)
  | n + 1, F, F2, h => by
    have hp : 2 ^ (n + 1) = 2 ^ n + 2 ^ n := by rw [Nat.pow_succ]; omega
    show rS W n F + (if W.testBit n = true then rS W n (fun m => F (m + 2 ^ n)) else 0) = rS W n F2 + (if W.testBit n = true then rS W n (fun m => F2 (m + 2 ^ n)) else 0)
    rw [rS_c (n := n) (F := F) (F2 := F2) fun m hm => h m (by omega), rS_c (n := n) (F := fun m => F (m + 2 ^ n)) (F2 := fun m => F2 (m + 2 ^ n)) fun m hm => h (m + 2 ^ n) (by omega)]
theorem rS_m {W : Nat} (k : Nat) : ∀ {n : Nat} {F : Nat → Nat}, rS W n (fun m => F m * k) = rS W n F * k
  | 0, F => rfl
  | n + 1, F => by
    show rS W n (fun m => F m * k) + (if W.testBit n = true then rS W n (fun m => F (m + 2 ^ n) * k) else 0) = (rS W n F + (if W.testBit n = true then rS W n (fun m => F (m + 2 ^ n)) else 0)) * k
    rw [rS_m k (n := n) (F := F), rS_m k (n := n) (F := fun m => F (m + 2 ^ n)), Nat.add_mul]
    split
    · rfl
    · rw [Nat.zero_mul]
theorem tb_hi {n m i : Nat} (hm : m < 2 ^ n) : (m + 2 ^ n).testBit i = if i = n then true else m.testBit i := by
  rw [Nat.add_comm]
  rcases Nat.lt_trichotomy i n with q | q | q
  · rw [Nat.testBit_two_pow_add_gt q, if_neg (by omega)]
  · subst q
    rw [Nat.testBit_two_pow_add_eq, if_pos rfl, Nat.testBit_lt_two_pow hm]
    rfl
  · have h3 : 2 ^ (n + 1) ≤ 2 ^ i := Nat.pow_le_pow_right (by decide) q
    rw [Nat.pow_succ] at h3
    rw [if_neg (by omega), Nat.testBit_lt_two_pow (by omega), Nat.testBit_lt_two_pow (by omega)]
theorem sd_hi {W n m : Nat} (hn : n < 7) (hm : m < 2 ^ n) : sd (m + 2 ^ n) W = 0 ↔ W.testBit n = true ∧ sd m W = 0 := by
  rw [sd_0, sd_0]
  constructor
  · intro h
    refine ⟨h n hn (by rw [tb_hi hm, if_pos rfl]), fun i hi hb => h i hi ?_⟩
    rw [tb_hi hm]
    split
    · rfl
    · exact hb
  · rintro ⟨h1, h2⟩ i hi hb
    rw [tb_hi hm] at hb
    by_cases e : i = n
    · rw [e]; exact h1
    · rw [if_neg e] at hb
      exact h2 i hi hb
theorem sS_hi {W n : Nat} (hn : n < 7) (F : Nat → Nat) : ∀ k, k ≤ 2 ^ n → sS W F (2 ^ n + k) = sS W F (2 ^ n) + (if W.testBit n = true then sS W (fun m => F (m + 2 ^ n)) k else 0)
  | 0, _ => by
    show sS W F (2 ^ n) = sS W F (2 ^ n) + (if W.testBit n = true then 0 else 0)
    rw [ite_self]
    rfl
  | k + 1, h => by
    have ih := sS_hi (W := W) hn F k (by omega)
    have hh := sd_hi (W := W) hn (show k < 2 ^ n by omega)
    show sS W F (2 ^ n + k) + (if sd (2 ^ n + k) W = 0 then F (2 ^ n + k) else 0) = sS W F (2 ^ n) + (if W.testBit n = true then (sS W (fun m => F (m + 2 ^ n)) k + (if sd k W = 0 then F (k + 2 ^ n) else 0)) else 0)
    rw [ih, Nat.add_comm (2 ^ n) k]
    simp only [hh]
    by_cases hb : W.testBit n = true
    · simp only [hb, true_and, if_true]
      omega
    · rw [if_neg hb, if_neg hb, if_neg (fun z => hb z.1)]
theorem sS_rS {W : Nat} : ∀ {n : Nat}, n ≤ 7 → ∀ F : Nat → Nat, sS W F (2 ^ n) = rS W n F
  | 0, _, F => by
    show sS W F 0 + (if sd 0 W = 0 then F 0 else 0) = F 0
    rw [if_pos (sd_0.mpr fun i _ hb => by rw [Nat.zero_testBit] at hb; cases hb)]
    show 0 + F 0 = F 0
    omega
  | n + 1, h, F => by
    have hp : 2 ^ (n + 1) = 2 ^ n + 2 ^ n := by rw [Nat.pow_succ]; omega
    rw [hp, sS_hi (by omega) F (2 ^ n) (Nat.le_refl _), sS_rS (by omega) F, sS_rS (by omega) (fun m => F (m + 2 ^ n))]
    rfl
def cmp (W n c : Nat) : Nat := mk (fun i => W.testBit i && !c.testBit i) n
theorem cmp_lo {W n c : Nat} (hc : c < 2 ^ n) : cmp W (n + 1) c = cmp W n c + (if W.testBit n = true then 2 ^ n else 0) := by
  unfold cmp
  show mk _ n + (if (W.testBit n && !c.testBit n) = true then 2 ^ n else 0) = _
  rw [Nat.testBit_lt_two_pow hc]
  simp
theorem mk_c {f g : Nat → Bool} : ∀ {n : Nat}, (∀ i, i < n → f i = g i) → mk f n = mk g n
  | 0, _ => rfl
  | n + 1, h => by
    show mk f n + _ = mk g n + _
    rw [mk_c (n := n) fun i hi => h i (by omega), h n (by omega)]
theorem cmp_hi {W n c : Nat} (hc : c < 2 ^ n) : cmp W (n + 1) (c + 2 ^ n) = cmp W n c := by
  unfold cmp
  show mk _ n + (if (W.testBit n && !(c + 2 ^ n).testBit n) = true then 2 ^ n else 0) = _
  rw [tb_hi hc, if_pos rfl]
  simp only [Bool.not_true, Bool.and_false, Bool.false_eq_true, if_false, Nat.add_zero]
  exact mk_c fun i hi => by rw [tb_hi hc, if_neg (by omega)]
theorem rS_cmp {W : Nat} : ∀ {n : Nat} (F : Nat → Nat), rS W n (fun c => F (cmp W n c)) = rS W n F
  | 0, F => rfl
  | n + 1, F => by
    show rS W n (fun c => F (cmp W (n + 1) c)) + (if W.testBit n = true then rS W n (fun c => F (cmp W (n + 1) (c + 2 ^ n))) else 0) = rS W n F + (if W.testBit n = true then rS W n (fun m => F (m + 2 ^ n)) else 0)
    rw [rS_c (F := fun c => F (cmp W (n + 1) (c + 2 ^ n))) (F2 := fun c => F (cmp W n c)) fun c hc => by show F _ = F _; rw [cmp_hi hc]]
    rw [rS_cmp F]
    by_cases hb : W.testBit n = true
    · rw [if_pos hb, if_pos hb, rS_c (F := fun c => F (cmp W (n + 1) c)) (F2 := fun c => (fun m => F (m + 2 ^ n)) (cmp W n c)) fun c hc => by show F _ = F _; rw [cmp_lo hc, if_pos hb], rS_cmp (fun m => F (m + 2 ^ n))]
      omega
    · rw [if_neg hb, if_neg hb, rS_c (F := fun c => F (cmp W (n + 1) c)) (F2 := fun c => F (cmp W n c)) fun c hc => by show F _ = F _; rw [cmp_lo hc, if_neg hb]; rfl, rS_cmp F]
/-- carried sets for staying sets -/
theorem sS_flip (W : Nat) (F : Nat → Nat) : sS W (fun c => F (sd W c)) 128 = sS W F 128 := by
  have h1 := sS_rS (W := W) (n := 7) (Nat.le_refl 7) (fun c => F (sd W c))
  have h2 := sS_rS (W := W) (n := 7) (Nat.le_refl 7) F
  rw [show (2 : Nat) ^ 7 = 128 from rfl] at h1 h2
  rw [h1, h2, ← rS_cmp F]
  rfl
/-- one weight for those in c, another for those who aren't -/
def prd (a b W c : Nat) : Nat → Nat
  | 0 => 1
  | n + 1 => prd a b W c n * (if W.testBit n = true then (if c.testBit n = true then a else b) else 1)
theorem prd_c {a b W c c2 : Nat} : ∀ {n : Nat}, (∀ i, i < n → c.testBit i = c2.testBit i) → prd a b W c n = prd a b W c2 n
  | 0, _ => rfl
  | n + 1, h => by
    show prd a b W c n * _ = prd a b W c2 n * _
    rw [prd_c (n := n) fun i hi => h i (by omega), h n (by omega)]
theorem prd_b {a b W c : Nat} (ha : a ≤ 10) (hb : b ≤ 10) : ∀ n, prd a b W c n ≤ 10 ^ n
  | 0 => Nat.le_refl _
  | n + 1 => by
    have ih := prd_b (W := W) (c := c) ha hb n
    rw [Nat.pow_succ]
    refine Nat.mul_le_mul ih ?_
    split
    · split <;> omega
    · omega
theorem prd_sd {a b W c : Nat} : ∀ {n : Nat}, n ≤ 7 → prd b a W (sd W c) n = prd a b W c n
  | 0, _ => rfl
  | n + 1, h => by
    show prd b a W (sd W c) n * (if W.testBit n = true then (if (sd W c).testBit n = true then b else a) else 1) = prd a b W c n * (if W.testBit n = true then (if c.testBit n = true then a else b) else 1)
    rw [prd_sd (n := n) (by omega), sd_b (by omega)]
    refine congrArg _ ?_
    by_cases hb : W.testBit n = true
    · rw [if_pos hb, if_pos hb, hb]
      cases c.testBit n <;> rfl
    · rw [if_neg hb, if_neg hb]
theorem prd_stop {a b W c k : Nat} (h : ∀ i, k ≤ i → W.testBit i = false) : ∀ j, prd a b W c (k + j) = prd a b W c k
  | 0 => rfl
  | j + 1 => by
    show prd a b W c (k + j) * (if W.testBit (k + j) = true then _ else 1) = prd a b W c k
    rw [h (k + j) (by omega), if_neg (by simp), Nat.mul_one, prd_stop h j]
theorem prd_S {a b W : Nat} (hab : a + b = 10) : ∀ n, rS W n (fun c => prd a b W c n) = 10 ^ pc W n
  | 0 => rfl
  | n + 1 => by
    have ih := prd_S (W := W) hab n
    have e1 : rS W n (fun c => prd a b W c (n + 1)) = rS W n (fun c => prd a b W c n) * (if W.testBit n = true then b else 1) := by
      rw [← rS_m]
      refine rS_c fun c hc => ?_
      show prd a b W c n * (if W.testBit n = true then (if c.testBit n = true then a else b) else 1) = _
      rw [Nat.testBit_lt_two_pow hc]
      simp
    have e2 : rS W n (fun c => prd a b W (c + 2 ^ n) (n + 1)) = rS W n (fun c => prd a b W c n) * (if W.testBit n = true then a else 1) := by
      rw [← rS_m]
      refine rS_c fun c hc => ?_
      show prd a b W (c + 2 ^ n) n * (if W.testBit n = true then (if (c + 2 ^ n).testBit n = true then a else b) else 1) = _
      rw [tb_hi hc, if_pos rfl, if_pos rfl, prd_c (c := c + 2 ^ n) (c2 := c) fun i hi => by rw [tb_hi hc, if_neg (by omega)]]
    show rS W n (fun c => prd a b W c (n + 1)) + (if W.testBit n = true then rS W n (fun c => prd a b W (c + 2 ^ n) (n + 1)) else 0) = 10 ^ (pc W n + (if W.testBit n = true then 1 else 0))
    rw [e1, e2, ih]
    by_cases hb : W.testBit n = true
    · rw [if_pos hb, if_pos hb, if_pos hb, if_pos hb, ← Nat.mul_add, Nat.add_comm b a, hab, Nat.pow_succ]
    · rw [if_neg hb, if_neg hb, if_neg hb]
      simp
/-! long numbers -/
theorem L_add {x y : Int64} {a b : Nat} (hx : x.toInt = (a : Int)) (hy : y.toInt = (b : Int)) (ha : a < 2 ^ 61) (hb : b < 2 ^ 61) : (x + y).toInt = ((a + b : Nat) : Int) := by
  rw [Int64.toInt_add, hx, hy]
  exact (Int.bmod_eq_of_le (by omega) (by omega)).trans (by omega)
theorem L_mul {x y : Int64} {a b : Nat} (hx : x.toInt = (a : Int)) (hy : y.toInt = (b : Int)) (h : a * b < 2 ^ 62) : (x * y).toInt = ((a * b : Nat) : Int) := by
  rw [Int64.toInt_mul, hx, hy, show (a : Int) * (b : Int) = ((a * b : Nat) : Int) from rfl]
  generalize a * b = c at h
  exact Int.bmod_eq_of_le (by omega) (by omega)
theorem L_div {x y : Int64} {a b : Nat} (hx : x.toInt = (a : Int)) (hy : y.toInt = (b : Int)) (h0 : 0 < b) (ha : a < 2 ^ 62) : ∃ v, fw_ldivP x y = some v ∧ v.toInt = ((a / b : Nat) : Int) := by
  have hne : ¬ y = 0 := by
    intro z
    rw [z, show (0 : Int64).toInt = 0 from rfl] at hy
    omega
  have hle := Nat.div_le_self a b
  unfold fw_ldivP
  rw [if_neg hne]
  refine ⟨_, rfl, ?_⟩
  rw [Int64.toInt_div, hx, hy, ← Int.ofNat_tdiv]
  generalize a / b = q at hle ⊢
  exact Int.bmod_eq_of_le (by omega) (by omega)
theorem lg_0 {x y : Int64} : lg_cmp x y = 0 ↔ x.toInt = y.toInt := by
  have h1 := lg_cmp_gt x y
  have h2 := lg_cmp_lt x y
  rw [Int32.lt_iff_toInt_lt, Int64.lt_iff_toInt_lt, Int32.toInt_zero] at h1 h2
  rw [toInt_eq, Int32.toInt_zero]
  omega
theorem lg_ge {x y : Int64} : 0 ≤ lg_cmp x y ↔ y.toInt ≤ x.toInt := by
  have h2 := lg_cmp_lt x y
  rw [Int32.lt_iff_toInt_lt, Int64.lt_iff_toInt_lt, Int32.toInt_zero] at h2
  rw [Int32.le_iff_toInt_le, Int32.toInt_zero]
  omega
theorem gcd_st (a b : Nat) : Nat.gcd a b = Nat.gcd b (a % b) := by
  rw [Nat.gcd_comm a b, Nat.gcd_rec b a, Nat.gcd_comm]
theorem mod_half {a b : Nat} (hb : 0 < b) (h : b ≤ a) : 2 * (a % b) < a := by
  have h1 := Nat.mod_lt a hb
  have h2 : a % b = (a - b) % b := Nat.mod_eq_sub_mod h
  have h3 := Nat.mod_le (a - b) b
  omega
theorem c_gcd (M : fw_M) : ∀ (k a b i f : Nat) (x y : Int64), x.toInt = (a : Int) → y.toInt = (b : Int) → b ≤ a → a < 2 ^ k → k < 40 → i + 2 * k ≤ 100 → 2 * k < f → ∃ v : Int64, P_Door_greatestDivisor_h9 M f x y (nI i) = P_Door_greatestDivisor_b44 M v ∧ v.toInt = ((Nat.gcd a b : Nat) : Int) := by
  have stop : ∀ (a b i f : Nat) (x y : Int64), x.toInt = (a : Int) → y.toInt = (b : Int) → b = 0 → 0 < f → ∃ v : Int64, P_Door_greatestDivisor_h9 M f x y (nI i) = P_Door_greatestDivisor_b44 M v ∧ v.toInt = ((Nat.gcd a b : Nat) : Int) := by
    intro a b i f x y hx hy h0 hf
    obtain ⟨f, rfl⟩ : ∃ g, f = g + 1 := ⟨f - 1, by omega⟩
    refine ⟨x, ?_, by rw [h0, Nat.gcd_zero_right]; exact hx⟩
    show P_Door_greatestDivisor_b9 M _ _ _ _ = _
    unfold P_Door_greatestDivisor_b9
    rw [if_pos (show lg_cmp y 0 = 0 from lg_0.mpr (by rw [hy, h0]; rfl))]
    exact ite_self _
  have step : ∀ (a b i f : Nat) (x y : Int64), x.toInt = (a : Int) → y.toInt = (b : Int) → 0 < b → a < 2 ^ 62 → b < 2 ^ 62 → i < 100 → ∃ v3 : Int64, v3.toInt = ((a % b : Nat) : Int) ∧ P_Door_greatestDivisor_h9 M (f + 1) x y (nI i) = P_Door_greatestDivisor_h9 M f y v3 (nI (i + 1)) := by
    intro a b i f x y hx hy h0 ha hb hi
    obtain ⟨v3, r1, r2⟩ := lrem_e hx hy h0 ha hb
    refine ⟨v3, r2, ?_⟩
    show P_Door_greatestDivisor_b9 M _ _ _ _ = _
    unfold P_Door_greatestDivisor_b9
    rw [if_neg (fun z => by have := (nI_g100 (show i < 1000000 by omega)).mp z; omega), if_neg (show ¬ lg_cmp y 0 = 0 from fun z => by have := lg_0.mp z; rw [hy, show (0 : Int64).toInt = 0 from rfl] at this; omega), r1, bs_e, nI_s]
  intro k
  induction k with
  | zero =>
    intro a b i f x y hx hy hba ha hk hi hf
    exact stop a b i f x y hx hy (by omega) (by omega)
  | succ k ih =>
    intro a b i f x y hx hy hba ha hk hi hf
    have hp : 2 ^ (k + 1) = 2 ^ k + 2 ^ k := by rw [Nat.pow_succ]; omega
    have hp2 : 2 ^ (k + 1) ≤ 2 ^ 40 := Nat.pow_le_pow_right (by decide) (by omega)
    by_cases h0 : b = 0
    · exact stop a b i f x y hx hy h0 (by omega)
    · obtain ⟨f, rfl⟩ : ∃ g, f = g + 2 := ⟨f - 2, by omega⟩
      obtain ⟨v3, r1, r2⟩ := step a b i (f + 1) x y hx hy (by omega) (by omega) (by omega) (by omega)
      have hm := mod_half (show 0 < b by omega) hba
      have hlt := Nat.mod_lt a (show 0 < b by omega)
      rw [r2, gcd_st a b]
      by_cases h1 : a % b = 0
      · exact stop b (a % b) (i + 1) (f + 1) y v3 hy r1 h1 (by omega)
      · obtain ⟨v4, r3, r4⟩ := step b (a % b) (i + 1) f y v3 hy r1 (by omega) (by omega) (by omega) (by omega)
        have hm2 := Nat.mod_lt b (show 0 < a % b by omega)
        rw [r4, gcd_st b (a % b)]
        exact ih (a % b) (b % (a % b)) (i + 1 + 1) f v3 v4 r1 r3 (by omega) (by omega) (by omega) (by omega) (by omega)
theorem c_gd (M : fw_M) {a b : Nat} {x y : Int64} (hx : x.toInt = (a : Int)) (hy : y.toInt = (b : Int)) (ha0 : 0 < a) (ha : a < 2 ^ 40) (hb : b < 2 ^ 32) : ∃ v : Int64, P_Door_greatestDivisor M x y = some v ∧ v.toInt = ((Nat.gcd a b : Nat) : Int) := by
  have hfu := fw_fu_ge
  have hg : 0 < Nat.gcd a b := Nat.gcd_pos_of_pos_left b ha0
  have fin : ∀ v : Int64, v.toInt = ((Nat.gcd a b : Nat) : Int) → P_Door_greatestDivisor_b44 M v = some v := by
    intro v hv
    unfold P_Door_greatestDivisor_b44 P_Door_greatestDivisor_b57
    rw [if_pos (lg_ge.mpr (by rw [hv, show (1 : Int64).toInt = 1 from rfl]; omega))]
  by_cases h0 : b = 0
  · refine ⟨x, ?_, by rw [h0, Nat.gcd_zero_right]; exact hx⟩
    rw [← fin x (by rw [h0, Nat.gcd_zero_right]; exact hx)]
    unfold P_Door_greatestDivisor P_Door_greatestDivisor_b0
    obtain ⟨f, hf⟩ : ∃ g, fw_fu = g + 1 := ⟨fw_fu - 1, by omega⟩
    rw [hf]
    show P_Door_greatestDivisor_b9 M _ _ _ _ = _
    unfold P_Door_greatestDivisor_b9
    rw [if_pos (show lg_cmp y 0 = 0 from lg_0.mpr (by rw [hy, h0]; rfl))]
    exact ite_self _
  · obtain ⟨v3, r1, r2⟩ := lrem_e hx hy (show 0 < b by omega) (by omega) (by omega)
    obtain ⟨f, hf⟩ : ∃ g, fw_fu = g + 1 := ⟨fw_fu - 1, by omega⟩
    have hlt := Nat.mod_lt a (show 0 < b by omega)
    obtain ⟨v, q1, q2⟩ := c_gcd M 32 b (a % b) 1 f y v3 hy r2 (by omega) hb (by omega) (by omega) (by omega)
    rw [← gcd_st] at q2
    refine ⟨v, ?_, q2⟩
    rw [← fin v q2, ← q1]
    unfold P_Door_greatestDivisor P_Door_greatestDivisor_b0
    rw [hf]
    show P_Door_greatestDivisor_b9 M _ _ _ _ = _
    unfold P_Door_greatestDivisor_b9
    rw [if_neg (show ¬ (100 : Int32) ≤ 0 by decide), if_neg (show ¬ lg_cmp y 0 = 0 from fun z => by have := lg_0.mp z; rw [hy, show (0 : Int64).toInt = 0 from rfl] at this; omega), r1, bs_e]
    rfl
theorem m_gcd (M : fw_M) {x3 : Int32} {x5 x7 : Int64} : ∀ (k a b f : Nat) (x y : Int64), x.toInt = (a : Int) → y.toInt = (b : Int) → b ≤ a → a < 2 ^ k → k < 40 → 2 * k < f → ∃ v : Int64, P_Mod_faint_h237 199 f M x3 x5 x7 x y = (if x3 = 0 then P_Mod_faint_b273 199 M v x5 else P_Mod_faint_b273 199 M v x7) ∧ v.toInt = ((Nat.gcd a b : Nat) : Int) := by
  have stop : ∀ (a b f : Nat) (x y : Int64), x.toInt = (a : Int) → y.toInt = (b : Int) → b = 0 → 0 < f → ∃ v : Int64, P_Mod_faint_h237 199 f M x3 x5 x7 x y = (if x3 = 0 then P_Mod_faint_b273 199 M v x5 else P_Mod_faint_b273 199 M v x7) ∧ v.toInt = ((Nat.gcd a b : Nat) : Int) := by
    intro a b f x y hx hy h0 hf
    obtain ⟨f, rfl⟩ : ∃ g, f = g + 1 := ⟨f - 1, by omega⟩
    refine ⟨x, ?_, by rw [h0, Nat.gcd_zero_right]; exact hx⟩
    show P_Mod_faint_b237 199 _ M _ _ _ _ _ = _
    unfold P_Mod_faint_b237
    rw [if_pos (show lg_cmp y 0 = 0 from lg_0.mpr (by rw [hy, h0]; rfl))]
  have step : ∀ (a b f : Nat) (x y : Int64), x.toInt = (a : Int) → y.toInt = (b : Int) → 0 < b → a < 2 ^ 62 → b < 2 ^ 62 → ∃ v3 : Int64, v3.toInt = ((a % b : Nat) : Int) ∧ P_Mod_faint_h237 199 (f + 1) M x3 x5 x7 x y = P_Mod_faint_h237 199 f M x3 x5 x7 y v3 := by
    intro a b f x y hx hy h0 ha hb
    obtain ⟨v3, r1, r2⟩ := lrem_e hx hy h0 ha hb
    refine ⟨v3, r2, ?_⟩
    show P_Mod_faint_b237 199 _ M _ _ _ _ _ = _
    unfold P_Mod_faint_b237
    rw [if_neg (show ¬ lg_cmp y 0 = 0 from fun z => by have := lg_0.mp z; rw [hy, show (0 : Int64).toInt = 0 from rfl] at this; omega), r1, bs_e]
  intro k
  induction k with
  | zero =>
    intro a b f x y hx hy hba ha hk hf
    exact stop a b f x y hx hy (by omega) (by omega)
  | succ k ih =>
    intro a b f x y hx hy hba ha hk hf
    have hp : 2 ^ (k + 1) = 2 ^ k + 2 ^ k := by rw [Nat.pow_succ]; omega
    have hp2 : 2 ^ (k + 1) ≤ 2 ^ 40 := Nat.pow_le_pow_right (by decide) (by omega)
    by_cases h0 : b = 0
    · exact stop a b f x y hx hy h0 (by omega)
    · obtain ⟨f, rfl⟩ : ∃ g, f = g + 2 := ⟨f - 2, by omega⟩
      obtain ⟨v3, r1, r2⟩ := step a b (f + 1) x y hx hy (by omega) (by omega) (by omega)
      have hm := mod_half (show 0 < b by omega) hba
      have hlt := Nat.mod_lt a (show 0 < b by omega)
      rw [r2, gcd_st a b]
      by_cases h1 : a % b = 0
      · exact stop b (a % b) (f + 1) y v3 hy r1 h1 (by omega)
      · obtain ⟨v4, r3, r4⟩ := step b (a % b) f y v3 hy r1 (by omega) (by omega) (by omega)
        have hm2 := Nat.mod_lt b (show 0 < a % b by omega)
        rw [r4, gcd_st b (a % b)]
        exact ih (a % b) (b % (a % b)) f v3 v4 r1 r3 (by omega) (by omega) (by omega) (by omega)
