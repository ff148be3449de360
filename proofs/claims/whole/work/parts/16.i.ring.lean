/-! THE SMALLEST RING: the smallest set that holds fast is the smallest in which there is one -/
def hfB (ym : Nat → Nat) (m : Nat) : Nat → Nat → Bool
  | 0, _ => true
  | r + 1, j => (!(m.testBit j) || decide (ym j &&& m ≠ 0)) && hfB ym m r (j + 1)
theorem hfB_iff {ym : Nat → Nat} {m : Nat} : ∀ {r j : Nat}, hfB ym m r j = true ↔ ∀ p, j ≤ p → p < j + r → m.testBit p = true → ym p &&& m ≠ 0
  | 0, j => by
    constructor
    · intro _ p a b
      omega
    · intro _
      rfl
  | r + 1, j => by
    unfold hfB
    rw [Bool.and_eq_true, hfB_iff]
    constructor
    · rintro ⟨h1, h2⟩ p a b hp
      by_cases e : p = j
      · rw [← e, hp] at h1
        simpa using h1
      · exact h2 p (by omega) (by omega) hp
    · intro h
      refine ⟨?_, fun p a b hp => h p (by omega) (by omega) hp⟩
      cases hb : m.testBit j with
      | false => rfl
      | true =>
        have := h j (Nat.le_refl _) (by omega) hb
        simpa using this
theorem p_holdsFast {M : fw_M} {k : Nat} {ym : Nat → Nat} (hL : LR M k ym) {m : Nat} (hm : m < 128) : P_Law_holdsFast k M (nI m) = some (b1 (hfB ym m 7 0 = true)) := by
  have hfu := fw_fu_ge
  have key : ∀ (r j f : Nat), j + r = 7 → r < f → P_Law_holdsFast_h2 k M f (nI m) (nI j) = some (b1 (hfB ym m r j = true)) := by
    intro r
    induction r with
    | zero =>
      intro j f hj hf
      obtain ⟨f, rfl⟩ : ∃ g, f = g + 1 := ⟨f - 1, by omega⟩
      show P_Law_holdsFast_b2 k M _ _ _ = _
      unfold P_Law_holdsFast_b2
      rw [if_pos ((nI_g7 (by omega)).mpr (by omega)), b1_t (show hfB ym m 0 j = true from rfl)]
    | succ r ih =>
      intro j f hj hf
      obtain ⟨f, rfl⟩ : ∃ g, f = g + 1 := ⟨f - 1, by omega⟩
      obtain ⟨l1, l2⟩ := hL j (by omega)
      have hand := and_128 (b := m) l2
      have hi := ih (j + 1) f (by omega) (by omega)
      have hx : hfB ym m (r + 1) j = ((!(m.testBit j) || decide (ym j &&& m ≠ 0)) && hfB ym m r (j + 1)) := rfl
      show P_Law_holdsFast_b2 k M _ _ _ = _
      unfold P_Law_holdsFast_b2 P_Law_holdsFast_b29
      rw [if_neg (fun z => by have := (nI_g7 (show j < 1000000 by omega)).mp z; omega), show fw_ald M (k + 1) 7 (nI j) = some (M (k + 1) j) from ald_n (by omega) (by omega), l1]
      simp only [bs_e, bt_0 (show m < 2 ^ 31 by omega) (show j < 31 by omega), fa_and, nI_e0 (show ym j &&& m < 1000000 by omega), nI_s]
      rw [hx]
      by_cases hb : m.testBit j = false
      · rw [if_pos hb, hi]
        exact congrArg some (b1_c (by rw [hb]; simp))
      · have hb2 : m.testBit j = true := by simpa using hb
        rw [if_neg hb]
        by_cases hz : ym j &&& m = 0
        · rw [if_pos hz, b1_f (by simp [hz, hb2])]
        · rw [if_neg hz, hi]
          exact congrArg some (b1_c (by simp [hz]))
  exact key 7 0 fw_fu (by omega) (by omega)
def okH (G : Nat → Int32) (m : Nat) : Bool := decide (m ≠ 0) && hfB (ymk G) m 7 0
theorem c_ring {G : Nat → Int32} {N : fw_M} (hL : LR N 164 (ymk G)) {W : Nat} : ∀ (r m f : Nat), m + r = 128 → 0 < m → r < f → P_Fore_leastRing_h27 157 4 f N (nI W) (oN (bsf W (okH G) m)) (nI m) = some (oN (bsf W (okH G) 128), N) := by
  intro r
  induction r with
  | zero =>
    intro m f hj h0 hf
    obtain ⟨f, rfl⟩ : ∃ g, f = g + 1 := ⟨f - 1, by omega⟩
    show P_Fore_leastRing_b27 157 4 _ N _ _ _ = _
    unfold P_Fore_leastRing_b27
    rw [if_pos ((nI_g128 (by omega)).mpr (by omega)), show m = 128 by omega]
  | succ r ih =>
    intro m f hj h0 hf
    obtain ⟨f, rfl⟩ : ∃ g, f = g + 1 := ⟨f - 1, by omega⟩
    have hs : ∀ b, bsf W (okH G) m = some b → b < 128 := fun b hb => by have := (bsf_x hb).1; omega
    have hx : bsf W (okH G) (m + 1) = if sd m W = 0 ∧ smb m (bsf W (okH G) m) = true ∧ okH G m = true then some m else bsf W (okH G) m := rfl
    have hi := ih (m + 1) f (by omega) (by omega) (by omega)
    rw [hx] at hi
    have h128 := sd_128 m W
    have hok : okH G m = hfB (ymk G) m 7 0 := by
      unfold okH
      rw [decide_eq_true (show m ≠ 0 by omega), Bool.true_and]
    show P_Fore_leastRing_b27 157 4 _ N _ _ _ = _
    unfold P_Fore_leastRing_b27 P_Fore_leastRing_b70
    rw [if_neg (fun z => by have := (nI_g128 (show m < 1000000 by omega)).mp z; omega), sd_n (show m < 128 by omega)]
    simp only [nI_e0 (show sd m W < 1000000 by omega), nI_s]
    by_cases h1 : sd m W = 0
    · rw [if_pos h1, isSmaller_e N (show m < 128 by omega) hs, bs_e, show P_Law_holdsFast (157 + 7) N (nI m) = _ from p_holdsFast (k := 164) hL (show m < 128 by omega), ← hok]
      simp only [bs_e, b1_0]
      by_cases h2 : smb m (bsf W (okH G) m) = true
      · rw [if_neg (fun z => z h2)]
        by_cases h3 : okH G m = true
        · rw [if_neg (fun z => z h3)]
          rw [if_pos ⟨h1, h2, h3⟩] at hi
          exact hi
        · rw [if_pos h3]
          rw [if_neg (fun z => h3 z.2.2)] at hi
          exact hi
      · rw [if_pos h2]
        rw [if_neg (fun z => h2 z.2.1)] at hi
        exact hi
    · rw [if_neg h1]
      rw [if_neg (fun z => h1 z.1)] at hi
      exact hi
theorem bsf_1 {W : Nat} {ok : Nat → Bool} (h : ok 0 = false) : bsf W ok 1 = none := by
  show (if sd 0 W = 0 ∧ smb 0 (bsf W ok 0) = true ∧ ok 0 = true then some 0 else bsf W ok 0) = none
  rw [if_neg (fun z => by rw [h] at z; cases z.2.2)]
  rfl
theorem leastRing_e {Mc Mr : fw_M} (hR : rl Mc Mr) (h : 0 < gP (Mr 203)) (x : Int32) : ∃ M2, P_Fore_leastRing 157 4 Mc x = some (oN (bsf (sd (wm (Mr 203) x.toInt) (nm (Mr 203))) (okH (Mr 203)) 128), M2) ∧ rl M2 Mr := by
  have hfu := fw_fu_ge
  obtain ⟨he, hW, -⟩ := hall_E hR h
  obtain ⟨M1, q1, q2, q3⟩ := p_law (k := 164) he hW (by omega)
  have he1 : rl_eq M1 4 (Mr 203) := eq_cong he fun k _ _ => q3 k (by omega)
  have hc := c_ring (N := M1) q2 (W := sd (wm (Mr 203) x.toInt) (nm (Mr 203))) 127 1 fw_fu (by omega) (by omega) (by omega)
  rw [bsf_1 (show okH (Mr 203) 0 = false from rfl)] at hc
  refine ⟨M1, ?_, rl_sc hR fun k hk => q3 k (by omega)⟩
  unfold P_Fore_leastRing P_Fore_leastRing_b0
  rw [show P_Law_read (157 + 7) 4 Mc = _ from q1, bs_e, p_waitingAt he1 hW, bs_e, p_nobodies he1 hW, bs_e, pl_e, sd_n (wm_128 hW _)]
  exact hc
/-! pruning, as the reference does -/
def prn (y : Nat → Nat) (l : Nat) : Nat := mk (fun p => l.testBit p && decide (y p &&& l ≠ 0)) 7
def prnI (y : Nat → Nat) (m : Nat) : Nat → Nat
  | 0 => m
  | k + 1 => prn y (prnI y m k)
def okR (G : Nat → Int32) (m : Nat) : Bool := decide (prnI (yto G) m 7 ≠ 0)
theorem prn_128 (y : Nat → Nat) (l : Nat) : prn y l < 128 := mk_128 (Nat.le_refl 7)
theorem prnI_128 {y : Nat → Nat} {m : Nat} (hm : m < 128) : ∀ k, prnI y m k < 128
  | 0 => hm
  | _ + 1 => prn_128 _ _
theorem prn_b {y : Nat → Nat} {l i : Nat} (hi : i < 7) : (prn y l).testBit i = (l.testBit i && decide (y i &&& l ≠ 0)) := by
  unfold prn
  rw [mk_b]
  simp [hi]
theorem prn_in {y : Nat → Nat} {l i : Nat} (hi : i < 7) (h : (prn y l).testBit i = true) : l.testBit i = true := by
  rw [prn_b hi, Bool.and_eq_true] at h
  exact h.1
theorem prnI_in {y : Nat → Nat} {m i : Nat} (hi : i < 7) : ∀ {k : Nat}, (prnI y m k).testBit i = true → m.testBit i = true
  | 0, h => h
  | _ + 1, h => prnI_in hi (prn_in hi h)
theorem prn_c {y z : Nat → Nat} {l : Nat} (h : ∀ p, p < 7 → l.testBit p = true → y p &&& l = z p &&& l) : prn y l = prn z l := by
  refine bx7 (prn_128 _ _) (prn_128 _ _) fun i hi => ?_
  rw [prn_b hi, prn_b hi]
  cases hb : l.testBit i with
  | false => rfl
  | true => rw [h i hi hb]
theorem pc_mono {a b : Nat} : ∀ {n : Nat}, (∀ i, i < n → a.testBit i = true → b.testBit i = true) → pc a n ≤ pc b n
  | 0, _ => Nat.le_refl 0
  | n + 1, h => by
    have ih := pc_mono (n := n) fun i hi => h i (by omega)
    simp only [pc]
    by_cases ha : a.testBit n = true
    · rw [if_pos ha, if_pos (h n (by omega) ha)]
      omega
    · rw [if_neg ha]
      omega
theorem pc_lt {a b : Nat} (ha : a < 128) (hb : b < 128) (h : ∀ i, i < 7 → a.testBit i = true → b.testBit i = true) (hne : a ≠ b) : pc a 7 < pc b 7 := by
  obtain ⟨p, hp⟩ : ∃ p, ¬ (p < 7 → a.testBit p = b.testBit p) := Classical.not_forall.mp fun z => hne (bx7 ha hb z)
  have hp7 : p < 7 := by
    by_cases c : p < 7
    · exact c
    · exact absurd (fun z => absurd z c) hp
  have hpa : a.testBit p = false := by
    cases c : a.testBit p with
    | false => rfl
    | true => exact absurd (fun _ => by rw [c, h p hp7 c]) hp
  have hpb : b.testBit p = true := by
    cases c : b.testBit p with
    | true => rfl
    | false => exact absurd (fun _ => by rw [c, hpa]) hp
  have h1 := pc_rm hp7 hpb
  have h2 : pc a 7 ≤ pc (rm b p) 7 := pc_mono fun i hi hai => by
    rw [rm_b hi, h i hi hai]
    by_cases e : i = p
    · rw [e, hpa] at hai
      cases hai
    · simp [e]
  omega
theorem prnI_stop {y : Nat → Nat} {m : Nat} (hm : m < 128) : prn y (prnI y m 7) = prnI y m 7 := by
  have key : ∀ k, prn y (prnI y m k) = prnI y m k ∨ pc (prnI y m k) 7 + k ≤ pc m 7 := by
    intro k
    induction k with
    | zero => exact Or.inr (Nat.le_refl _)
    | succ k ih =>
      by_cases e : prn y (prnI y m k) = prnI y m k
      · refine Or.inl ?_
        show prn y (prn y (prnI y m k)) = prn y (prnI y m k)
        rw [e, e]
      · have h1 := pc_lt (prn_128 y (prnI y m k)) (prnI_128 hm k) (fun i hi hb => prn_in hi hb) e
        rcases ih with z | z
        · exact absurd z e
        · refine Or.inr ?_
          show pc (prn y (prnI y m k)) 7 + (k + 1) ≤ _
          omega
  rcases key 7 with z | z
  · exact z
  · have h7 := pc_le m 7
    have h0 := (pc_0 (prnI_128 (y := y) hm 7)).mp (by omega)
    rw [h0]
    refine bx7 (prn_128 _ _) (by omega) fun i hi => ?_
    rw [prn_b hi, Nat.zero_testBit, Bool.false_and]
theorem hold_prn {y : Nat → Nat} {l : Nat} (hl : l < 128) : prn y l = l ↔ hfB y l 7 0 = true := by
  rw [hfB_iff]
  constructor
  · intro h p _ hp hb
    have := prn_b (y := y) (l := l) (i := p) (by omega)
    rw [h, hb, Bool.true_and] at this
    exact of_decide_eq_true this.symm
  · intro h
    refine bx7 (prn_128 _ _) hl fun i hi => ?_
    rw [prn_b hi]
    cases hb : l.testBit i with
    | false => rfl
    | true =>
      have := h i (by omega) (by omega) hb
      simp [this]
theorem ring_y {G : Nat → Int32} (hW : WF G) {d : Int} (hd : 0 ≤ d) {l p : Nat} (hl : ∀ i, i < 7 → l.testBit i = true → (sd (wm G d) (nm G)).testBit i = true) (hl7 : l < 128) (hp : p < 7) (hb : l.testBit p = true) : yto G p &&& l = ymk G p &&& l := by
  have a := hl p hp hb
  rw [sd_b hp, Bool.and_eq_true] at a
  obtain ⟨a1, a2⟩ := wm_in a.1
  have hy := sd_yto hW a1 (by rw [a2]; exact hd)
  rw [← hy, a2]
  refine bx7 (and_128 (sd_128 _ _)) (and_128 (ymk_128 hW p)) fun i hi => ?_
  rw [Nat.testBit_and, Nat.testBit_and, sd_b hi, Nat.testBit_and]
  cases hi2 : l.testBit i with
  | false => simp
  | true =>
    have c := hl i hi hi2
    rw [sd_b hi, Bool.and_eq_true] at c
    rw [c.1, c.2]
    simp
theorem ring_i {G : Nat → Int32} (hW : WF G) {d : Int} (hd : 0 ≤ d) {m : Nat} (hm : m < 128) (hs : sd m (sd (wm G d) (nm G)) = 0) : ∀ k, prnI (yto G) m k = prnI (ymk G) m k
  | 0 => rfl
  | k + 1 => by
    show prn (yto G) (prnI (yto G) m k) = prn (ymk G) (prnI (ymk G) m k)
    rw [ring_i hW hd hm hs k]
    exact prn_c fun p hp hb => ring_y hW hd (fun i hi hbi => sd_0.mp hs i hi (prnI_in hi hbi)) (prnI_128 hm k) hp hb
theorem bsf_min {W : Nat} {ok : Nat → Bool} {l : Nat} (h1 : sd l W = 0) (h2 : ok l = true) : ∀ {n : Nat}, l < n → ∃ b, bsf W ok n = some b ∧ pc b 7 ≤ pc l 7
  | 0, h => by omega
  | n + 1, h => by
    have hx : bsf W ok (n + 1) = if sd n W = 0 ∧ smb n (bsf W ok n) = true ∧ ok n = true then some n else bsf W ok n := rfl
    rw [hx]
    by_cases e : l = n
    · subst e
      cases hb : bsf W ok l with
      | none =>
        rw [if_pos ⟨h1, rfl, h2⟩]
        exact ⟨l, rfl, Nat.le_refl _⟩
      | some b =>
        by_cases hs : smb l (some b) = true
        · rw [if_pos ⟨h1, hs, h2⟩]
          exact ⟨l, rfl, Nat.le_refl _⟩
        · rw [if_neg (fun z => hs z.2.1)]
          exact ⟨b, rfl, by simp [smb] at hs; exact hs⟩
    · obtain ⟨b, hb, hl⟩ := bsf_min h1 h2 (n := n) (by omega)
      by_cases c : sd n W = 0 ∧ smb n (bsf W ok n) = true ∧ ok n = true
      · rw [if_pos c]
        have := c.2.1
        rw [hb] at this
        simp [smb] at this
        exact ⟨n, rfl, by omega⟩
      · rw [if_neg c]
        exact ⟨b, hb, hl⟩
theorem ring_eq {G : Nat → Int32} (hW : WF G) {d : Int} (hd : 0 ≤ d) : ∀ n, n ≤ 128 → bsf (sd (wm G d) (nm G)) (okR G) n = bsf (sd (wm G d) (nm G)) (okH G) n
  | 0, _ => rfl
  | m + 1, h => by
    have ih := ring_eq hW hd m (by omega)
    show (if sd m (sd (wm G d) (nm G)) = 0 ∧ smb m (bsf (sd (wm G d) (nm G)) (okR G) m) = true ∧ okR G m = true then some m else bsf (sd (wm G d) (nm G)) (okR G) m) = if sd m (sd (wm G d) (nm G)) = 0 ∧ smb m (bsf (sd (wm G d) (nm G)) (okH G) m) = true ∧ okH G m = true then some m else bsf (sd (wm G d) (nm G)) (okH G) m
    rw [ih]
    have hiff : (sd m (sd (wm G d) (nm G)) = 0 ∧ smb m (bsf (sd (wm G d) (nm G)) (okH G) m) = true ∧ okR G m = true) ↔ (sd m (sd (wm G d) (nm G)) = 0 ∧ smb m (bsf (sd (wm G d) (nm G)) (okH G) m) = true ∧ okH G m = true) := by
      constructor
      · rintro ⟨c1, c2, c3⟩
        refine ⟨c1, c2, ?_⟩
        have c3 : prnI (yto G) m 7 ≠ 0 := of_decide_eq_true c3
        rw [ring_i hW hd (by omega) c1] at c3
        have hl := prnI_128 (y := ymk G) (m := m) (by omega) 7
        have hst := (hold_prn hl).mp (prnI_stop (y := ymk G) (m := m) (by omega))
        have hok : okH G (prnI (ymk G) m 7) = true := by
          unfold okH
          rw [decide_eq_true c3, hst]
          rfl
        have hlm : sd (prnI (ymk G) m 7) m = 0 := sd_0.mpr fun i hi hb => prnI_in hi hb
        have hlW : sd (prnI (ymk G) m 7) (sd (wm G d) (nm G)) = 0 := sd_0.mpr fun i hi hb => sd_0.mp c1 i hi (prnI_in hi hb)
        by_cases e : prnI (ymk G) m 7 = m
        · rw [e] at hok
          exact hok
        · exfalso
          have h1 := sub_le hl (show m < 128 by omega) hlm
          have h2 := pc_lt hl (show m < 128 by omega) (fun i hi hb => prnI_in hi hb) e
          obtain ⟨b, hb, h3⟩ := bsf_min hlW hok (n := m) (by omega)
          rw [hb] at c2
          simp [smb] at c2
          omega
      · rintro ⟨c1, c2, c3⟩
        refine ⟨c1, c2, ?_⟩
        unfold okH at c3
        rw [Bool.and_eq_true] at c3
        have h0 := of_decide_eq_true c3.1
        have hst := (hold_prn (show m < 128 by omega)).mpr c3.2
        have hall : ∀ k, prnI (ymk G) m k = m := by
          intro k
          induction k with
          | zero => rfl
          | succ k ihk =>
            show prn (ymk G) (prnI (ymk G) m k) = m
            rw [ihk, hst]
        unfold okR
        rw [ring_i hW hd (by omega) c1, hall]
        exact decide_eq_true h0
    simp only [hiff]
theorem and_m1 (x : Int32) : x &&& (-1 : Int32) = x := by
  apply Int32.toBitVec_inj.1
  show x.toBitVec &&& BitVec.allOnes 32 = x.toBitVec
  exact BitVec.and_allOnes
def nw (y : Nat → Nat) (l j : Nat) : Nat := mk (fun p => l.testBit p && !(decide (p < j) && decide (y p &&& l = 0))) 7
theorem nw_b {y : Nat → Nat} {l j i : Nat} (hi : i < 7) : (nw y l j).testBit i = (l.testBit i && !(decide (i < j) && decide (y i &&& l = 0))) := by
  unfold nw
  rw [mk_b]
  simp [hi]
theorem nw_0 {y : Nat → Nat} {l : Nat} (hl : l < 128) : nw y l 0 = l := by
  refine bx7 (mk_128 (Nat.le_refl 7)) hl fun i hi => ?_
  rw [nw_b hi]
  simp
theorem m_prune {M : fw_M} (hW : WF (M 203)) {l : Nat} (hl : l < 128) (hP : ∀ i, i < 7 → l.testBit i = true → i < gP (M 203)) {K : Int32 → Int32 → Option Int32} {x3 : Int32} : ∀ (r j f : Nat), j + r = gP (M 203) → r < f → P_Mod_hasRing_h16 199 M K f (nI l) x3 (nI (nw (yto (M 203)) l j)) (nI j) = K (nI (prn (yto (M 203)) l)) (x3 + 1) := by
  have h7 := hW.2.2.1.2.1
  intro r
  induction r with
  | zero =>
    intro j f hj hf
    obtain ⟨f, rfl⟩ : ∃ g, f = g + 1 := ⟨f - 1, by omega⟩
    show P_Mod_hasRing_b16 199 M K _ _ _ _ _ = _
    unfold P_Mod_hasRing_b16
    rw [show fw_ald M (199 + 4) 39 (2 : Int32) = _ from m_P (a := 203) hW, bs_e, if_pos ((nI_le2 (by omega) (by omega)).mpr (by omega))]
    have e : nw (yto (M 203)) l j = prn (yto (M 203)) l := by
      refine bx7 (mk_128 (Nat.le_refl 7)) (prn_128 _ _) fun i hi => ?_
      rw [nw_b hi, prn_b hi]
      cases hb : l.testBit i with
      | false => rfl
      | true =>
        have := hP i hi hb
        simp [show i < j by omega]
    rw [e]
  | succ r ih =>
    intro j f hj hf
    obtain ⟨f, rfl⟩ : ∃ g, f = g + 1 := ⟨f - 1, by omega⟩
    have hi := ih (j + 1) f (by omega) (by omega)
    have hyt : yto (M 203) j < 128 := mk_128 h7
    have hand := and_128 (b := l) hyt
    have hkeep : ¬ (l.testBit j = true ∧ yto (M 203) j &&& l = 0) → nw (yto (M 203)) l (j + 1) = nw (yto (M 203)) l j := by
      intro hn
      refine bx7 (mk_128 (Nat.le_refl 7)) (mk_128 (Nat.le_refl 7)) fun i hi7 => ?_
      rw [nw_b hi7, nw_b hi7]
      by_cases e : i = j
      · subst e
        cases hb : l.testBit i with
        | false => rfl
        | true =>
          have : ¬ yto (M 203) i &&& l = 0 := fun z => hn ⟨hb, z⟩
          simp [this]
      · simp only [show i < j + 1 ↔ i < j by omega]
    have hdrop : l.testBit j = true ∧ yto (M 203) j &&& l = 0 → nw (yto (M 203)) l (j + 1) = rm (nw (yto (M 203)) l j) j := by
      rintro ⟨c1, c2⟩
      refine bx7 (mk_128 (Nat.le_refl 7)) (rm_128 _ _) fun i hi7 => ?_
      rw [nw_b hi7, rm_b hi7, nw_b hi7]
      by_cases e : i = j
      · subst e
        simp [c1, c2]
      · simp only [show i < j + 1 ↔ i < j by omega]
        simp [e]
    show P_Mod_hasRing_b16 199 M K _ _ _ _ _ = _
    unfold P_Mod_hasRing_b16 P_Mod_hasRing_b62 P_Mod_hasRing_b63
    rw [show fw_ald M (199 + 4) 39 (2 : Int32) = _ from m_P (a := 203) hW, bs_e, if_neg (fun z => by have := (nI_le2 (show gP (M 203) < 1000000 by omega) (show j < 1000000 by omega)).mp z; omega), show P_Mod_yieldsTo (199 + 4) M (nI j) = _ from m_yieldsTo (a := 203) hW (show j < gP (M 203) by omega)]
    simp only [bs_e, pl_e, bt_1 (show l < 2 ^ 31 by omega) (show j < 31 by omega), fa_and, nI_e0 (show yto (M 203) j &&& l < 1000000 by omega), and_m1, rm_n (show nw (yto (M 203)) l j < 128 from mk_128 (Nat.le_refl 7)) (show j < 7 by omega), nI_s]
    by_cases hb : l.testBit j = true
    · rw [if_pos hb]
      by_cases hz : yto (M 203) j &&& l = 0
      · rw [if_pos hz, ← hdrop ⟨hb, hz⟩]
        exact hi
      · rw [if_neg hz, ← hkeep (fun z => hz z.2)]
        exact hi
    · rw [if_neg hb, ← hkeep (fun z => hb z.1)]
      exact hi
theorem m_hasRing {M : fw_M} (hW : WF (M 203)) {m : Nat} (hm : m < 128) (hP : ∀ i, i < 7 → m.testBit i = true → i < gP (M 203)) : P_Mod_hasRing 199 M (nI m) = some (b1 (okR (M 203) m = true)) := by
  have hfu := fw_fu_ge
  have h7 := hW.2.2.1.2.1
  have key : ∀ (r k f : Nat), k + r = 7 → r < f → P_Mod_hasRing_h4 199 M f (nI (prnI (yto (M 203)) m k)) (nI k) = some (b1 (okR (M 203) m = true)) := by
    intro r
    induction r with
    | zero =>
      intro k f hj hf
      obtain ⟨f, rfl⟩ : ∃ g, f = g + 1 := ⟨f - 1, by omega⟩
      have hk : k = 7 := by omega
      subst hk
      have h128 := prnI_128 (y := yto (M 203)) hm 7
      show P_Mod_hasRing_b4 199 M _ _ _ = _
      unfold P_Mod_hasRing_b4 P_Mod_hasRing_b90
      rw [if_pos ((nI_g7 (by omega)).mpr (by omega))]
      simp only [nI_e0 (show prnI (yto (M 203)) m 7 < 1000000 by omega)]
      by_cases hz : prnI (yto (M 203)) m 7 = 0
      · rw [if_pos hz, b1_f (by simp [okR, hz])]
        rfl
      · rw [if_neg hz, b1_t (by simp [okR, hz])]
        rfl
    | succ r ih =>
      intro k f hj hf
      obtain ⟨f, rfl⟩ : ∃ g, f = g + 1 := ⟨f - 1, by omega⟩
      have h128 := prnI_128 (y := yto (M 203)) hm k
      have hp := m_prune hW h128 (fun i hi hb => hP i hi (prnI_in hi hb)) (K := P_Mod_hasRing_h4 199 M f) (x3 := nI k) (gP (M 203)) 0 fw_fu (by omega) (by omega)
      rw [nw_0 h128, nI_s] at hp
      show P_Mod_hasRing_b4 199 M _ _ _ = _
      unfold P_Mod_hasRing_b4
      rw [if_neg (fun z => by have := (nI_g7 (show k < 1000000 by omega)).mp z; omega)]
      exact hp.trans (ih (k + 1) f (by omega) (by omega))
  exact key 7 0 fw_fu (by omega) (by omega)
theorem m_ring {M : fw_M} (hW : WF (M 203)) {d : Int} {y : Int32} (hy : y = 0 ∨ y = 1) {W : Nat} (hWd : W = sd (wm (M 203) d) (nm (M 203))) : ∀ (r m f : Nat), m + r = W + 1 → r < f → P_Mod_ring_h62 199 f M y (nI W) (oM (bsf W (okR (M 203)) m)) (nI m) = some (bws y (bsf W (okR (M 203)) (W + 1)), M) := by
  have h7 := hW.2.2.1.2.1
  have hw128 : W < 128 := by rw [hWd]; exact sd_128 _ _
  intro r
  induction r with
  | zero =>
    intro m f hj hf
    obtain ⟨f, rfl⟩ : ∃ g, f = g + 1 := ⟨f - 1, by omega⟩
    have hmW : m = W + 1 := by omega
    show P_Mod_ring_b62 199 _ M _ _ _ _ = _
    unfold P_Mod_ring_b62 P_Mod_ring_b145 P_Mod_ring_b155
    rw [if_pos ((nI_lt2 (by omega) (by omega)).mpr (by omega)), ← hmW]
    cases hb : bsf W (okR (M 203)) m with
    | none =>
      rw [if_pos (show oM none = -1000000 from rfl)]
      rfl
    | some b =>
      have hb1 := (bsf_x hb).1
      rw [if_neg (oM_n rfl (by omega))]
      rcases hy with rfl | rfl
      · rw [if_neg (by decide), show P_Mod_bits M (oM (some b)) = _ from p_bits M (show b < 128 by omega), bs_e]
        rfl
      · rw [if_pos rfl]
        rfl
  | succ r ih =>
    intro m f hj hf
    obtain ⟨f, rfl⟩ : ∃ g, f = g + 1 := ⟨f - 1, by omega⟩
    have hi := ih (m + 1) f (by omega) (by omega)
    have hx : bsf W (okR (M 203)) (m + 1) = if sd m W = 0 ∧ smb m (bsf W (okR (M 203)) m) = true ∧ okR (M 203) m = true then some m else bsf W (okR (M 203)) m := rfl
    rw [hx] at hi
    have h128 := sd_128 m W
    show P_Mod_ring_b62 199 _ M _ _ _ _ = _
    unfold P_Mod_ring_b62 P_Mod_ring_b101 P_Mod_ring_b97 P_Mod_ring_b102 P_Mod_ring_b123 P_Mod_ring_b125
    rw [if_neg (fun z => by have := (nI_lt2 (show W < 1000000 by omega) (show m < 1000000 by omega)).mp z; omega), sd_n (show m < 128 by omega)]
    simp only [nI_e0 (show sd m W < 1000000 by omega), nI_s, if_true, if_neg (show ¬ (1 : Int32) = 0 by decide)]
    by_cases h1 : sd m W = 0
    · rw [if_pos h1, m_hasRing hW (show m < 128 by omega) (fun i hi7 hb => by
        have c := sd_0.mp h1 i hi7 hb
        rw [hWd, sd_b hi7, Bool.and_eq_true] at c
        exact (wm_in c.1).1)]
      simp only [bs_e, b1_0]
      have hgo : smb m (bsf W (okR (M 203)) m) = true → (if ¬ okR (M 203) m = true then P_Mod_ring_h62 199 f M y (nI W) (oM (bsf W (okR (M 203)) m)) (nI (m + 1)) else P_Mod_ring_h62 199 f M y (nI W) (nI m) (nI (m + 1))) = some (bws y (bsf W (okR (M 203)) (W + 1)), M) := by
        intro h2
        by_cases h3 : okR (M 203) m = true
        · rw [if_neg (fun z => z h3)]
          rw [if_pos ⟨h1, h2, h3⟩] at hi
          exact hi
        · rw [if_pos h3]
          rw [if_neg (fun z => h3 z.2.2)] at hi
          exact hi
      cases hb : bsf W (okR (M 203)) m with
      | none =>
        rw [hb] at hgo
        rw [if_pos (show oM none = -1000000 from rfl)]
        exact hgo rfl
      | some b =>
        have hb1 := (bsf_x hb).1
        have p1 := pc_le m 7
        have p2 := pc_le b 7
        rw [hb] at hgo hi
        rw [if_neg (oM_n rfl (by omega)), p_bits M (show m < 128 by omega), bs_e, show P_Mod_bits M (oM (some b)) = _ from p_bits M (show b < 128 by omega), bs_e]
        simp only [nI_le2 (show pc b 7 < 1000000 by omega) (show pc m 7 < 1000000 by omega)]
        by_cases h : pc b 7 ≤ pc m 7
        · rw [if_pos h]
          rw [if_neg (fun z => by have := z.2.1; simp [smb] at this; omega)] at hi
          exact hi
        · rw [if_neg h]
          exact hgo (by simp [smb]; omega)
    · rw [if_neg h1]
      rw [if_neg (fun z => h1 z.1)] at hi
      exact hi
theorem ow_ring {Mc Mr : fw_M} (hR : rl Mc Mr) (a0 : Int32) (a1 : Int32) : ∃ (r : Int32) (Mc2 Mr2 : fw_M), P_Door_ring 0 Mc a0 a1 = some (r, Mc2) ∧ P_Mod_ring 199 Mr a0 a1 = some (r, Mr2) ∧ rl Mc2 Mr2 := by
  have hfu := fw_fu_ge
  unfold P_Door_ring P_Door_ring_b0 P_Door_ring_b22 P_Door_ring_b23 P_Mod_ring P_Mod_ring_b0 P_Mod_ring_b33
  have hR2 := rl_thrown hR 0
  have hG : fw_set Mr 199 0 0 203 = Mr 203 := st_n (by omega)
  obtain ⟨e1, e2, e3, e4, h7, hd4, hPD, e5⟩ := hall_P hR
  simp only [pl_e]
  rw [p_isDoor (o := 0) e3 (by omega), m_isThere (o := 199) (by rw [hG]; exact e4) (by omega), m_isDoor (o := 199) (by rw [hG]; exact e4) (by omega), p_w0 Mc a1 (hi := 1) (n := 1) rfl, p_in0 _ a1 (hi := 1) (n := 1) rfl]
  simp only [p_refusal (o := 0) e1 (show gP (Mr 203) < 1000 by omega), bs_e, b1_0]
  by_cases hP : gP (Mr 203) = 0
  · have hD := hPD.mp hP
    rw [if_pos (show ¬ (0 ≤ a0.toInt ∧ a0.toInt < (gD (Mr 203) : Int)) by omega), if_pos hP, if_pos (show ¬ 0 < gD (Mr 203) by omega), if_neg (by decide)]
    exact ⟨_, _, _, rfl, rfl, hR2⟩
  · obtain ⟨he, hW, -⟩ := hall_E hR (by omega)
    rw [if_neg (show ¬ ¬ 0 < gD (Mr 203) by omega)]
    simp only [if_neg hP, if_true, if_neg (show ¬ (1 : Int32) = 0 by decide), if_neg (show ¬ (-1000001 : Int32) = 0 by decide)]
    by_cases h0 : 0 ≤ a0.toInt ∧ a0.toInt < (gD (Mr 203) : Int)
    · simp only [h0, and_self, not_true, if_false]
      by_cases h1 : 0 ≤ a1.toInt ∧ a1.toInt ≤ 1
      · simp only [h1, and_self, not_true, if_false]
        have hy : a1 = 0 ∨ a1 = 1 := by
          by_cases z : a1.toInt = 0
          · exact Or.inl (eq_nI (n := 0) (by omega))
          · exact Or.inr (eq_nI (n := 1) (by omega))
        obtain ⟨M2, q1, q2⟩ := leastRing_e hR2 (by rw [hG]; omega) a0
        rw [hG, bsf_128 (sd_128 _ _)] at q1
        have hWG : WF (fw_set Mr 199 0 0 203) := by rw [hG]; exact hW
        have t1 := m_ring (M := fw_set Mr 199 0 0) hWG (d := a0.toInt) (y := a1) hy rfl (sd (wm (fw_set Mr 199 0 0 203) a0.toInt) (nm (fw_set Mr 199 0 0 203))) 1 fw_fu (by omega) (by have := sd_128 (wm (fw_set Mr 199 0 0 203) a0.toInt) (nm (fw_set Mr 199 0 0 203)); omega)
        rw [hG, bsf_1 (show okR (Mr 203) 0 = false by
          unfold okR
          have : ∀ k, prnI (yto (Mr 203)) 0 k = 0 := by
            intro k
            induction k with
            | zero => rfl
            | succ k ih =>
              show prn (yto (Mr 203)) (prnI (yto (Mr 203)) 0 k) = 0
              rw [ih]
              refine bx7 (prn_128 _ _) (by omega) fun i hi => ?_
              rw [prn_b hi, Nat.zero_testBit, Bool.false_and]
          rw [this]
          rfl), ring_eq hW h0.1 _ (by have := sd_128 (wm (Mr 203) a0.toInt) (nm (Mr 203)); omega)] at t1
        have k1 : P_Fore_leastRing (0 + 157) (0 + 4) Mc a0 = _ := q1
        have k2 : P_Mod_waiting (199 + 4) (fw_set Mr 199 0 0) a0 = some (nI (wm (Mr 203) a0.toInt)) := by
          have := m_waiting (a := 203) (M := fw_set Mr 199 0 0) hWG a0
          rwa [hG] at this
        have k3 : P_Mod_nobodies (199 + 4) (fw_set Mr 199 0 0) = some (nI (nm (Mr 203))) := by
          have := m_nobodies (a := 203) (M := fw_set Mr 199 0 0) hWG
          rwa [hG] at this
        rw [k1, bs_e, k2, bs_e, k3, bs_e, sd_n (wm_128 hW _)]
        simp only
        rw [setAns M2 (fun b hb => by have := (bsf_x hb).1; have := sd_128 (wm (Mr 203) a0.toInt) (nm (Mr 203)); omega), bs_e]
        exact ⟨_, M2, _, rfl, t1, q2⟩
      · simp only [h1, not_false_iff, if_true]
        exact ⟨_, _, _, rfl, rfl, hR2⟩
    · simp only [h0, not_false_iff, if_true]
      exact ⟨_, _, _, rfl, rfl, hR2⟩
