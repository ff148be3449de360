/-! THE SMALLEST OF SEVERAL SETS: the first with the fewest -/
def smb (m : Nat) : Option Nat → Bool
  | none => true
  | some b => decide (pc m 7 < pc b 7)
def bsf (W : Nat) (ok : Nat → Bool) : Nat → Option Nat
  | 0 => none
  | m + 1 => if sd m W = 0 ∧ smb m (bsf W ok m) = true ∧ ok m = true then some m else bsf W ok m
def bws (y : Int32) : Option Nat → Int32
  | none => -1000000
  | some b => if y = 0 then nI (pc b 7) else nI b
theorem bsf_x {W : Nat} {ok : Nat → Bool} : ∀ {n b : Nat}, bsf W ok n = some b → b < n ∧ sd b W = 0 ∧ ok b = true
  | 0, b, e => by cases e
  | m + 1, b, e => by
    unfold bsf at e
    by_cases h : sd m W = 0 ∧ smb m (bsf W ok m) = true ∧ ok m = true
    · rw [if_pos h] at e
      have e2 := Option.some.inj e
      subst e2
      exact ⟨by omega, h.1, h.2.2⟩
    · rw [if_neg h] at e
      obtain ⟨a, b2, c⟩ := bsf_x e
      exact ⟨by omega, b2, c⟩
theorem sub_le {m W : Nat} (hm : m < 128) (hW : W < 128) (h : sd m W = 0) : m ≤ W := by
  have e : m &&& W = m := by
    refine bx7 (and_128 hm) hm fun i hi => ?_
    rw [Nat.testBit_and]
    cases hb : m.testBit i with
    | false => rfl
    | true => rw [sd_0.mp h i hi hb]; rfl
  rw [← e]
  exact Nat.and_le_right
theorem bsf_W {W : Nat} {ok : Nat → Bool} (hW : W < 128) : ∀ k, W + 1 + k ≤ 128 → bsf W ok (W + 1 + k) = bsf W ok (W + 1)
  | 0, _ => rfl
  | k + 1, h => by
    have ih := bsf_W (ok := ok) hW k (by omega)
    rw [show W + 1 + (k + 1) = (W + 1 + k) + 1 by omega]
    show (if sd (W + 1 + k) W = 0 ∧ smb (W + 1 + k) (bsf W ok (W + 1 + k)) = true ∧ ok (W + 1 + k) = true then some (W + 1 + k) else bsf W ok (W + 1 + k)) = _
    rw [if_neg (fun z => by have := sub_le (show W + 1 + k < 128 by omega) hW z.1; omega), ih]
theorem bsf_128 {W : Nat} {ok : Nat → Bool} (hW : W < 128) : bsf W ok 128 = bsf W ok (W + 1) := by
  have := bsf_W (ok := ok) hW (127 - W) (by omega)
  rwa [show W + 1 + (127 - W) = 128 by omega] at this
theorem isSmaller_e (M : fw_M) {m : Nat} (hm : m < 128) {s : Option Nat} (hs : ∀ b, s = some b → b < 128) : P_Fore_isSmaller M (nI m) (oN s) = some (b1 (smb m s = true)) := by
  unfold P_Fore_isSmaller P_Fore_isSmaller_b0 P_Fore_isSmaller_b15 P_Fore_isSmaller_b20
  cases s with
  | none =>
    rw [if_pos (show oN none < 0 by decide), b1_t (show smb m none = true from rfl)]
    rfl
  | some b =>
    have hb := hs b rfl
    have p1 := pc_le m 7
    have p2 := pc_le b 7
    rw [if_neg (show ¬ oN (some b) < 0 from fun z => (nI_z3 (show b < 1000000 by omega)).mp z), j_bits hm, bs_e, show P_J6_bitCount (oN (some b)) = _ from j_bits hb, bs_e]
    simp only [nI_le2 (show pc b 7 < 1000000 by omega) (show pc m 7 < 1000000 by omega)]
    by_cases h : pc b 7 ≤ pc m 7
    · rw [if_pos h, b1_f (by simp [smb]; omega)]
      rfl
    · rw [if_neg h, b1_t (by simp [smb]; omega)]
      rfl
theorem setAns (M : fw_M) {s : Option Nat} (hs : ∀ b, s = some b → b < 128) (y : Int32) : P_Door_setAnswer M (oN s) y = some (bws y s) := by
  unfold P_Door_setAnswer P_Door_setAnswer_b0 P_Door_setAnswer_b20
  cases s with
  | none =>
    rw [if_neg (show ¬ (0 : Int32) ≤ oN none by decide)]
    rfl
  | some b =>
    have hb := hs b rfl
    rw [if_pos (show (0 : Int32) ≤ oN (some b) from nI_nn (by omega))]
    unfold bws
    by_cases hy : y = 0
    · rw [if_pos hy, show P_J6_bitCount (oN (some b)) = _ from j_bits hb, bs_e]
      simp only [if_pos hy]
    · rw [if_neg hy]
      simp only [if_neg hy]
      rfl
/-! BOWS -/
def nbB (G : Nat → Int32) (m p : Nat) : Nat := if m.testBit p = true then gY G else gb G p
def okB (G : Nat → Int32) (d : Int) (m : Nat) : Bool := decide (ln (ymk G) (nbB G m) (wm G d) 7 = 0)
theorem c_clear {G : Nat → Int32} {M : fw_M} (he : rl_eq M 4 G) (hW : WF G) (hL : LR M 164 (ymk G)) {m : Nat} (hm : m < 128) (d : Int) : ∃ M2, P_Fore_clearsIfBow 157 4 M (nI (wm G d)) (nI m) = some (b1 (okB G d m = true), M2) ∧ ∀ b, (b < 166 ∨ 168 < b) → M2 b = M b := by
  have hfu := fw_fu_ge
  have h7 := hW.2.2.1.2.1
  have hY := hW.2.1.2.1
  obtain ⟨x0, x1, x2, x3, x4⟩ := he_x he hW
  have key : ∀ (r j f : Nat) (N : fw_M), j + r = gP G → r < f → (∀ b, b ≠ 167 → N b = M b) → (∀ p, p < 7 → N 167 p = if p < j ∧ m.testBit p = true then nI (gY G) else M 9 p) → ∃ M2, P_Fore_clearsIfBow_h11 157 4 f N (nI (wm G d)) (nI m) (nI j) = some (b1 (okB G d m = true), M2) ∧ ∀ b, (b < 166 ∨ 168 < b) → M2 b = M b := by
    intro r
    induction r with
    | zero =>
      intro j f N hj hf hN hn
      obtain ⟨f, rfl⟩ : ∃ g, f = g + 1 := ⟨f - 1, by omega⟩
      obtain ⟨M2, p1, p2, p3⟩ := l_foretell (M := N) (ym := ymk G) (nb := fun p => (N 167 p).toInt.toNat) (fun i hi => by rw [hN 165 (by omega)]; exact hL i hi) (fun p hp => rfl) (wm_128 hW d)
      have hc : ∀ p, p < 7 → (wm G d).testBit p = true → (fun p => (N 167 p).toInt.toNat) p = nbB G m p := by
        intro p hp hb
        have hpP := (wm_in hb).1
        have b9 := ((hW.2.2.2 p hpP).2.2.2.2).1
        have e : M 9 p = nI (gb G p) := (x4 p hpP).2.2.2.2
        show (N 167 p).toInt.toNat = nbB G m p
        rw [hn p hp]
        unfold nbB
        by_cases hmb : m.testBit p = true
        · rw [if_pos ⟨by omega, hmb⟩, if_pos hmb, tI (by omega)]
          rfl
        · rw [if_neg (fun z => hmb z.2), if_neg hmb, e, tI (by omega)]
          rfl
      obtain ⟨-, q3, -⟩ := FT_c hc p2
      have h128 := ln_128 (ym := ymk G) (nb := nbB G m) (wm_128 hW d) 7
      refine ⟨M2, ?_, fun b hb => by rw [p3 b (by omega) (by omega), hN b (by omega)]⟩
      show P_Fore_clearsIfBow_b11 157 4 _ N _ _ _ = _
      unfold P_Fore_clearsIfBow_b11 P_Fore_clearsIfBow_b76
      rw [hN 4 (by omega), x2, if_pos ((nI_le2 (by omega) (by omega)).mpr (by omega)), show P_Line_foretell (157 + 9) (157 + 7) N (nI (wm G d)) = some M2 from p1, bs_e, show M2 (157 + 9) 3 = _ from q3]
      simp only [nI_e0 (show ln (ymk G) (nbB G m) (wm G d) 7 < 1000000 by omega)]
      by_cases hz : ln (ymk G) (nbB G m) (wm G d) 7 = 0
      · rw [if_pos hz, b1_t (by simp [okB, hz])]
        rfl
      · rw [if_neg hz, b1_f (by simp [okB, hz])]
        rfl
    | succ r ih =>
      intro j f N hj hf hN hn
      obtain ⟨f, rfl⟩ : ∃ g, f = g + 1 := ⟨f - 1, by omega⟩
      show ∃ M2, P_Fore_clearsIfBow_b11 157 4 _ N _ _ _ = _ ∧ _
      unfold P_Fore_clearsIfBow_b11 P_Fore_clearsIfBow_b43
      rw [hN 4 (by omega), x2, x1, if_neg (fun z => by have := (nI_le2 (show gP G < 1000000 by omega) (show j < 1000000 by omega)).mp z; omega)]
      simp only [bt_0 (show m < 2 ^ 31 by omega) (show j < 31 by omega), nI_s]
      by_cases hb : m.testBit j = false
      · rw [if_pos hb]
        exact ih (j + 1) f N (by omega) (by omega) hN (fun p hp => by
          rw [hn p hp]
          by_cases e : p = j
          · subst e
            rw [if_neg (fun z => by rw [hb] at z; cases z.2), if_neg (fun z => by rw [hb] at z; cases z.2)]
          · simp only [show p < j + 1 ↔ p < j by omega])
      · rw [if_neg hb, show fw_ast N (157 + 9 + 1) 7 (nI j) (nI (gY G)) = some (fw_set N 167 j (nI (gY G))) from ast_n (by omega) (by omega), bs_e]
        exact ih (j + 1) f _ (by omega) (by omega) (fun b hb => by rw [st_n hb]; exact hN b hb) (fun p hp => by
          rw [st_e]
          by_cases e : p = j
          · subst e
            rw [up_e, if_pos ⟨by omega, by simpa using hb⟩]
          · rw [up_n e, hn p hp]
            simp only [show p < j + 1 ↔ p < j by omega])
  have r1 : P_Line_readNobodies 166 4 M = some (fw_put M 167 (fun k => if k < 7 then M 9 k else M 167 k)) := by
    unfold P_Line_readNobodies P_Line_readNobodies_b0
    rw [cpy7]
    rfl
  unfold P_Fore_clearsIfBow P_Fore_clearsIfBow_b0
  rw [show P_Line_readNobodies (157 + 9) 4 M = _ from r1, bs_e]
  exact key (gP G) 0 fw_fu (fw_put M 167 (fun k => if k < 7 then M 9 k else M 167 k)) (by omega) (by omega) (fun b hb => pt_n hb) (fun p hp => by
    rw [pt_e, if_neg (show ¬ (p < 0 ∧ m.testBit p = true) from fun z => absurd z.1 (by omega))]
    exact if_pos hp)
theorem c_fewest {G : Nat → Int32} {M : fw_M} (he : rl_eq M 4 G) (hW : WF G) (d : Int) : ∀ (r m f : Nat) (N : fw_M), m + r = 128 → r < f → LR N 164 (ymk G) → (∀ b, (b < 157 ∨ 168 < b) → N b = M b) → ∃ M2, P_Fore_fewestBows_h20 157 4 f N (nI (wm G d)) (oN (bsf (wm G d) (okB G d) m)) (nI m) = some (oN (bsf (wm G d) (okB G d) 128), M2) ∧ ∀ b, (b < 157 ∨ 168 < b) → M2 b = M b := by
  intro r
  induction r with
  | zero =>
    intro m f N hj hf hL hN
    obtain ⟨f, rfl⟩ : ∃ g, f = g + 1 := ⟨f - 1, by omega⟩
    refine ⟨N, ?_, hN⟩
    show P_Fore_fewestBows_b20 157 4 _ N _ _ _ = _
    unfold P_Fore_fewestBows_b20
    rw [if_pos ((nI_g128 (by omega)).mpr (by omega)), show m = 128 by omega]
  | succ r ih =>
    intro m f N hj hf hL hN
    obtain ⟨f, rfl⟩ : ∃ g, f = g + 1 := ⟨f - 1, by omega⟩
    have heN : rl_eq N 4 G := eq_cong he fun k _ _ => hN k (by omega)
    have hs : ∀ b, bsf (wm G d) (okB G d) m = some b → b < 128 := fun b hb => by have := (bsf_x hb).1; omega
    have hx : bsf (wm G d) (okB G d) (m + 1) = if sd m (wm G d) = 0 ∧ smb m (bsf (wm G d) (okB G d) m) = true ∧ okB G d m = true then some m else bsf (wm G d) (okB G d) m := rfl
    have h128 := sd_128 m (wm G d)
    show ∃ M2, P_Fore_fewestBows_b20 157 4 _ N _ _ _ = _ ∧ _
    unfold P_Fore_fewestBows_b20 P_Fore_fewestBows_b62
    rw [if_neg (fun z => by have := (nI_g128 (show m < 1000000 by omega)).mp z; omega), sd_n (show m < 128 by omega)]
    simp only [nI_e0 (show sd m (wm G d) < 1000000 by omega), nI_s]
    by_cases h1 : sd m (wm G d) = 0
    · rw [if_pos h1, isSmaller_e N (show m < 128 by omega) hs]
      simp only [bs_e, b1_0]
      by_cases h2 : smb m (bsf (wm G d) (okB G d) m) = true
      · rw [if_neg (fun z => z h2)]
        obtain ⟨M1, c1, c2⟩ := c_clear heN hW hL (show m < 128 by omega) d
        rw [c1]
        simp only [bs_e, b1_0]
        have hL1 : LR M1 164 (ymk G) := fun i hi => by rw [c2 165 (by omega)]; exact hL i hi
        by_cases h3 : okB G d m = true
        · rw [if_neg (fun z => z h3)]
          have := ih (m + 1) f M1 (by omega) (by omega) hL1 (fun b hb => by rw [c2 b (by omega)]; exact hN b hb)
          rw [hx, if_pos ⟨h1, h2, h3⟩] at this
          exact this
        · rw [if_pos h3]
          have := ih (m + 1) f M1 (by omega) (by omega) hL1 (fun b hb => by rw [c2 b (by omega)]; exact hN b hb)
          rw [hx, if_neg (fun z => h3 z.2.2)] at this
          exact this
      · rw [if_pos h2]
        have := ih (m + 1) f N (by omega) (by omega) hL hN
        rw [hx, if_neg (fun z => h2 z.2.1)] at this
        exact this
    · rw [if_neg h1]
      have := ih (m + 1) f N (by omega) (by omega) hL hN
      rw [hx, if_neg (fun z => h1 z.1)] at this
      exact this
theorem fewest_e {Mc Mr : fw_M} (hR : rl Mc Mr) (h : 0 < gP (Mr 203)) (x : Int32) : ∃ M2, P_Fore_fewestBows 157 4 Mc x = some (oN (bsf (wm (Mr 203) x.toInt) (okB (Mr 203) x.toInt) 128), M2) ∧ rl M2 Mr := by
  have hfu := fw_fu_ge
  obtain ⟨he, hW, -⟩ := hall_E hR h
  obtain ⟨M1, q1, q2, q3⟩ := p_law (k := 164) he hW (by omega)
  have he1 : rl_eq M1 4 (Mr 203) := eq_cong he fun k _ _ => q3 k (by omega)
  obtain ⟨M2, c1, c2⟩ := c_fewest he hW x.toInt 128 0 fw_fu M1 (by omega) (by omega) q2 (fun b hb => q3 b (by omega))
  refine ⟨M2, ?_, rl_sc hR fun k hk => c2 k hk⟩
  unfold P_Fore_fewestBows P_Fore_fewestBows_b0
  rw [show P_Law_read (157 + 7) 4 Mc = _ from q1, bs_e, p_waitingAt he1 hW, bs_e]
  exact c1
/-! the reference's row, with those bowing -/
def gBj (G : Nat → Int32) (m j : Nat) : Nat → Int32 := fun i => if 4 ≤ i ∧ (i - 4) % 5 = 4 ∧ (i - 4) / 5 < j ∧ m.testBit ((i - 4) / 5) = true then G 1 else G i
theorem gB_n {G : Nat → Int32} {m j p c : Nat} (hc : c < 4) : gBj G m j (4 + 5 * p + c) = G (4 + 5 * p + c) := if_neg (fun z => by have := z.2.1; omega)
theorem gB_4 {G : Nat → Int32} {m j p : Nat} (hp : p < j) : gBj G m j (8 + 5 * p) = if m.testBit p = true then G 1 else G (8 + 5 * p) := by
  unfold gBj
  have e : (8 + 5 * p - 4) / 5 = p := by omega
  rw [e]
  by_cases h : m.testBit p = true
  · rw [if_pos ⟨by omega, by omega, hp, h⟩, if_pos h]
  · rw [if_neg (fun z => h z.2.2.2), if_neg h]
theorem gB_wf {G : Nat → Int32} (hW : WF G) (m : Nat) : WF (gBj G m (gP G)) ∧ gP (gBj G m (gP G)) = gP G ∧ gD (gBj G m (gP G)) = gD G ∧ ymk (gBj G m (gP G)) = ymk G ∧ (∀ d, wm (gBj G m (gP G)) d = wm G d) ∧ ∀ p, p < gP G → gb (gBj G m (gP G)) p = nbB G m p := by
  have hY := hW.2.1
  have e0 : ∀ i, i < 4 → gBj G m (gP G) i = G i := fun i hi => if_neg (fun z => by omega)
  obtain ⟨a1, a2, a3, a4⟩ := wf_ch (h := gBj G m (gP G)) hW (fun i hi => e0 i (by omega)) fun p hp c hc => by
    by_cases h4 : c = 4
    · subst h4
      have e : 4 + 5 * p + 4 = 8 + 5 * p := by omega
      rw [e, gB_4 hp]
      by_cases h : m.testBit p = true
      · rw [if_pos h]
        exact ⟨gY G, hY.2.1, hY.2.2⟩
      · rw [if_neg h, ← e]
        exact cw_of hW hp hc
    · rw [gB_n (by omega)]
      exact cw_of hW hp hc
  have ek : ∀ q, gk (gBj G m (gP G)) q = gk G q := fun q => by unfold gk; rw [show 4 + 5 * q = 4 + 5 * q + 0 by omega, gB_n (by omega)]
  have er : ∀ q, gr (gBj G m (gP G)) q = gr G q := fun q => by unfold gr; rw [show 5 + 5 * q = 4 + 5 * q + 1 by omega, gB_n (by omega)]
  have eo : ∀ q, gh (gBj G m (gP G)) q = gh G q := fun q => by unfold gh; rw [show 6 + 5 * q = 4 + 5 * q + 2 by omega, gB_n (by omega)]
  have ed : ∀ q, gd (gBj G m (gP G)) q = gd G q := fun q => by unfold gd; rw [show 7 + 5 * q = 4 + 5 * q + 3 by omega, gB_n (by omega)]
  refine ⟨a1, a2, a3, ymk_c a2 fun x y _ _ => by unfold yl; rw [ek, er, er, eo, eo], fun d => ?_, fun p hp => ?_⟩
  · unfold wm
    rw [a2]
    simp only [ed]
  · unfold gb nbB
    rw [gB_4 hp]
    by_cases h : m.testBit p = true
    · rw [if_pos h, if_pos h]
      rfl
    · rw [if_neg h, if_neg h]
      rfl
theorem m_bowin {M : fw_M} {G : Nat → Int32} (hW : WF G) {x y v b : Int32} (hx : 0 ≤ x.toInt) {m : Nat} (hm : m < 128) {K : fw_M → Int32 → Int32 → Int32 → Int32 → Int32 → Option (Int32 × fw_M)} : ∀ (r j f : Nat) (N : fw_M), j + r = gP G → r < f → N 203 = G → (∀ i, i < 39 → N 205 i = gBj G m j i) → (∀ b, b ≠ 205 → b ≠ 208 → N b = M b) → ∃ M2, P_Mod_bows_h94 199 K f N x y v b (nI m) (nI j) = K M2 x y v (if okB G x.toInt m = true then nI m else b) (nI (m + 1)) ∧ ∀ b, b ≠ 205 → b ≠ 208 → M2 b = M b := by
  have h7 := hW.2.2.1.2.1
  obtain ⟨g1, g2, g3, g4, g5, g6⟩ := gB_wf hW m
  intro r
  induction r with
  | zero =>
    intro j f N hj hf h203 h39 hfr
    obtain ⟨f, rfl⟩ : ∃ g, f = g + 1 := ⟨f - 1, by omega⟩
    have hjP : j = gP G := by omega
    subst hjP
    obtain ⟨M2, q1, q2⟩ := left_g h39 g1 hx
    rw [g4, g5] at q1
    have hc := (ln_c (ym := ymk G) (nb := gb (gBj G m (gP G))) (nb2 := nbB G m) (w := wm G x.toInt) (fun p _ hb => g6 p (wm_in hb).1) 7).1
    rw [hc] at q1
    have h128 := ln_128 (ym := ymk G) (nb := nbB G m) (wm_128 hW x.toInt) 7
    have hpc := pc_le (ln (ymk G) (nbB G m) (wm G x.toInt) 7) 7
    refine ⟨M2, ?_, fun b b1 b2 => by rw [q2 b b1 b2, hfr b b1 b2]⟩
    show P_Mod_bows_b94 199 K _ N _ _ _ _ _ _ = _
    unfold P_Mod_bows_b94 P_Mod_bows_b169 P_Mod_bows_b171
    rw [show fw_ald N (199 + 4) 39 (2 : Int32) = some (nI (gP G)) by
      rw [show (2 : Int32) = nI 2 from rfl, ald_n (by omega) (by omega), show N (199 + 4) = G from h203, hW.2.2.1.2.2], bs_e, if_pos ((nI_le2 (by omega) (by omega)).mpr (by omega)), q1, bs_e]
    simp only [nI_e0 (show pc (ln (ymk G) (nbB G m) (wm G x.toInt) 7) 7 < 1000000 by omega), pc_0 h128, nI_s]
    by_cases hz : ln (ymk G) (nbB G m) (wm G x.toInt) 7 = 0
    · rw [if_pos hz, if_pos (show okB G x.toInt m = true by simp [okB, hz])]
    · rw [if_neg hz, if_neg (show ¬ okB G x.toInt m = true by simp [okB, hz])]
  | succ r ih =>
    intro j f N hj hf h203 h39 hfr
    obtain ⟨f, rfl⟩ : ∃ g, f = g + 1 := ⟨f - 1, by omega⟩
    have hw203 : WF (N 203) := by rw [h203]; exact hW
    have k2 : P_Mod_of (199 + 4) N (nI j) 4 = some (N 203 (8 + 5 * j)) := by
      have := m_of (a := 203) (M := N) (p := j) (c := 4) (x := 4) rfl (by omega) (by omega)
      rwa [show 4 + 5 * j + 4 = 8 + 5 * j by omega] at this
    show ∃ M2, P_Mod_bows_b94 199 K _ N _ _ _ _ _ _ = _ ∧ _
    unfold P_Mod_bows_b94 P_Mod_bows_b147
    rw [show fw_ald N (199 + 4) 39 (2 : Int32) = some (nI (gP G)) by
      rw [show (2 : Int32) = nI 2 from rfl, ald_n (by omega) (by omega), show N (199 + 4) = G from h203, hW.2.2.1.2.2], bs_e, if_neg (fun z => by have := (nI_le2 (show gP G < 1000000 by omega) (show j < 1000000 by omega)).mp z; omega), k2, ix_y (x := 4) (c := 4) rfl, show fw_ald N (199 + 4) 39 (1 : Int32) = some (G 1) by
      rw [show (1 : Int32) = nI 1 from rfl, ald_n (by omega) (by omega), show N (199 + 4) = G from h203], h203]
    have hst : ∀ v, fw_ast N (199 + 6) 39 (nI (4 + 5 * j + 4)) v = some (fw_set N 205 (4 + 5 * j + 4) v) := fun v => ast_n (by omega) (by omega)
    simp only [bs_e, hst, bt_1 (show m < 2 ^ 31 by omega) (show j < 31 by omega), nI_s]
    have hn : ∀ v, v = (if m.testBit j = true then G 1 else G (8 + 5 * j)) → ∀ i, i < 39 → fw_set N 205 (4 + 5 * j + 4) v 205 i = gBj G m (j + 1) i := by
      intro v hv i hi
      rw [st_e]
      by_cases e : i = 4 + 5 * j + 4
      · subst e
        rw [up_e, show 4 + 5 * j + 4 = 8 + 5 * j by omega, gB_4 (by omega), hv]
      · rw [up_n e, h39 i hi]
        unfold gBj
        by_cases c1 : 4 ≤ i ∧ (i - 4) % 5 = 4
        · simp only [c1.1, c1.2, true_and, show (i - 4) / 5 < j + 1 ↔ (i - 4) / 5 < j by omega]
        · rw [if_neg (fun z => c1 ⟨z.1, z.2.1⟩), if_neg (fun z => c1 ⟨z.1, z.2.1⟩)]
    by_cases hb : m.testBit j = true
    · rw [if_pos hb]
      exact ih (j + 1) f _ (by omega) (by omega) (by rw [st_n (by omega)]; exact h203) (hn _ (by rw [if_pos hb])) (fun b b1 b2 => by rw [st_n b1]; exact hfr b b1 b2)
    · rw [if_neg hb]
      exact ih (j + 1) f _ (by omega) (by omega) (by rw [st_n (by omega)]; exact h203) (hn _ (by rw [if_neg hb])) (fun b b1 b2 => by rw [st_n b1]; exact hfr b b1 b2)
theorem oM_n {s : Option Nat} {b : Nat} (h : s = some b) (hb : b < 1000000) : ¬ oM s = -1000000 := by
  subst h
  intro z
  have := congrArg Int32.toInt z
  rw [show (oM (some b)).toInt = (b : Int) from tI hb, show (-1000000 : Int32).toInt = -1000000 from rfl] at this
  omega
theorem m_fewest {M : fw_M} {G : Nat → Int32} (hG : M 203 = G) (hW : WF G) {x y : Int32} (hx : 0 ≤ x.toInt) (hy : y = 0 ∨ y = 1) : ∀ (r m f : Nat) (N : fw_M), m + r = wm G x.toInt + 1 → r < f → (∀ b, b ≠ 205 → b ≠ 208 → N b = M b) → ∃ M2, P_Mod_bows_h52 199 f N x y (nI (wm G x.toInt)) (oM (bsf (wm G x.toInt) (okB G x.toInt) m)) (nI m) = some (bws y (bsf (wm G x.toInt) (okB G x.toInt) (wm G x.toInt + 1)), M2) ∧ ∀ b, b ≠ 205 → b ≠ 208 → M2 b = M b := by
  have hfu := fw_fu_ge
  have h7 := hW.2.2.1.2.1
  have hw128 := wm_128 hW x.toInt
  intro r
  induction r with
  | zero =>
    intro m f N hj hf hfr
    obtain ⟨f, rfl⟩ : ∃ g, f = g + 1 := ⟨f - 1, by omega⟩
    have hmW : m = wm G x.toInt + 1 := by omega
    refine ⟨N, ?_, hfr⟩
    show P_Mod_bows_b52 199 _ N _ _ _ _ _ = _
    unfold P_Mod_bows_b52 P_Mod_bows_b189 P_Mod_bows_b199
    rw [if_pos ((nI_lt2 (by omega) (by omega)).mpr (by omega)), ← hmW]
    cases hb : bsf (wm G x.toInt) (okB G x.toInt) m with
    | none =>
      rw [if_pos (show oM none = -1000000 from rfl)]
      rfl
    | some b =>
      have hb1 := (bsf_x hb).1
      rw [if_neg (oM_n rfl (by omega))]
      rcases hy with rfl | rfl
      · rw [if_neg (by decide), show P_Mod_bits N (oM (some b)) = _ from p_bits N (show b < 128 by omega), bs_e]
        rfl
      · rw [if_pos rfl]
        rfl
  | succ r ih =>
    intro m f N hj hf hfr
    obtain ⟨f, rfl⟩ : ∃ g, f = g + 1 := ⟨f - 1, by omega⟩
    have hx2 : bsf (wm G x.toInt) (okB G x.toInt) (m + 1) = if sd m (wm G x.toInt) = 0 ∧ smb m (bsf (wm G x.toInt) (okB G x.toInt) m) = true ∧ okB G x.toInt m = true then some m else bsf (wm G x.toInt) (okB G x.toInt) m := rfl
    have h128 := sd_128 m (wm G x.toInt)
    have hno : ¬ (sd m (wm G x.toInt) = 0 ∧ smb m (bsf (wm G x.toInt) (okB G x.toInt) m) = true ∧ okB G x.toInt m = true) → ∃ M2, P_Mod_bows_h52 199 f N x y (nI (wm G x.toInt)) (oM (bsf (wm G x.toInt) (okB G x.toInt) m)) (nI (m + 1)) = some (bws y (bsf (wm G x.toInt) (okB G x.toInt) (wm G x.toInt + 1)), M2) ∧ ∀ b, b ≠ 205 → b ≠ 208 → M2 b = M b := by
      intro hn
      have := ih (m + 1) f N (by omega) (by omega) hfr
      rw [hx2, if_neg hn] at this
      exact this
    show ∃ M2, P_Mod_bows_b52 199 _ N _ _ _ _ _ = _ ∧ _
    unfold P_Mod_bows_b52 P_Mod_bows_b171 P_Mod_bows_b87
    rw [if_neg (fun z => by have := (nI_lt2 (show wm G x.toInt < 1000000 by omega) (show m < 1000000 by omega)).mp z; omega), sd_n (show m < 128 by omega)]
    simp only [nI_e0 (show sd m (wm G x.toInt) < 1000000 by omega), nI_s]
    by_cases h1 : sd m (wm G x.toInt) = 0
    · rw [if_pos h1]
      have hgo : smb m (bsf (wm G x.toInt) (okB G x.toInt) m) = true → ∃ M2, ((P_Mod_layThen 199 N).bind fun q1 => P_Mod_bows_h94 199 (P_Mod_bows_h52 199 f) fw_fu q1 x y (nI (wm G x.toInt)) (oM (bsf (wm G x.toInt) (okB G x.toInt) m)) (nI m) 0) = some (bws y (bsf (wm G x.toInt) (okB G x.toInt) (wm G x.toInt + 1)), M2) ∧ ∀ b, b ≠ 205 → b ≠ 208 → M2 b = M b := by
        intro h2
        obtain ⟨N1, s1, s2, s3⟩ := m_layThen (o := 199) N
        have hN203 : N 203 = G := by rw [hfr 203 (by omega) (by omega), hG]
        obtain ⟨N2, t1, t2⟩ := m_bowin (M := N1) hW (x := x) (y := y) (v := nI (wm G x.toInt)) (b := oM (bsf (wm G x.toInt) (okB G x.toInt) m)) hx (show m < 128 by omega) (K := P_Mod_bows_h52 199 f) (gP G) 0 fw_fu N1 (by omega) (by omega) (by rw [s3 203 (by omega)]; exact hN203) (fun i hi => by
          have := s2 i hi
          rw [show N (199 + 4) = G from hN203] at this
          show N1 (199 + 6) i = _
          rw [this]
          exact (if_neg (fun z => by have := z.2.2.1; omega)).symm) (fun _ _ _ => rfl)
        rw [s1, bs_e]
        have hfr2 : ∀ b, b ≠ 205 → b ≠ 208 → N2 b = M b := fun b b1 b2 => by rw [t2 b b1 b2, s3 b b1, hfr b b1 b2]
        have := ih (m + 1) f N2 (by omega) (by omega) hfr2
        rw [hx2] at this
        refine ⟨this.choose, t1.trans ?_, this.choose_spec.2⟩
        rw [← this.choose_spec.1]
        by_cases h3 : okB G x.toInt m = true
        · rw [if_pos h3, if_pos ⟨h1, h2, h3⟩]
          rfl
        · rw [if_neg h3, if_neg (fun z => h3 z.2.2)]
      cases hb : bsf (wm G x.toInt) (okB G x.toInt) m with
      | none =>
        rw [hb] at hgo
        rw [if_pos (show oM none = -1000000 from rfl)]
        exact hgo rfl
      | some b =>
        have hb1 := (bsf_x hb).1
        have p1 := pc_le m 7
        have p2 := pc_le b 7
        rw [hb] at hgo hno
        rw [if_neg (oM_n rfl (by omega)), p_bits N (show m < 128 by omega), bs_e, show P_Mod_bits N (oM (some b)) = _ from p_bits N (show b < 128 by omega), bs_e]
        simp only [nI_le2 (show pc b 7 < 1000000 by omega) (show pc m 7 < 1000000 by omega)]
        by_cases h : pc b 7 ≤ pc m 7
        · rw [if_pos h]
          exact hno (fun z => by have := z.2.1; simp [smb] at this; omega)
        · rw [if_neg h]
          exact hgo (by simp [smb]; omega)
    · rw [if_neg h1]
      exact hno (fun z => h1 z.1)
theorem ow_bows {Mc Mr : fw_M} (hR : rl Mc Mr) (a0 : Int32) (a1 : Int32) : ∃ (r : Int32) (Mc2 Mr2 : fw_M), P_Door_bows 0 Mc a0 a1 = some (r, Mc2) ∧ P_Mod_bows 199 Mr a0 a1 = some (r, Mr2) ∧ rl Mc2 Mr2 := by
  have hfu := fw_fu_ge
  unfold P_Door_bows P_Door_bows_b0 P_Door_bows_b22 P_Door_bows_b23 P_Mod_bows P_Mod_bows_b0 P_Mod_bows_b33
  have hR2 := rl_thrown hR 0
  have hG : fw_set Mr 199 0 0 203 = Mr 203 := st_n (by omega)
  obtain ⟨e1, e2, e3, e4, h7, hd4, hPD, e5⟩ := hall_P hR
  simp only [pl_e]
  rw [p_isDoor (o := 0) e3 (by omega), m_isThere (o := 199) (by rw [hG]; exact e4) (by omega), m_isDoor (o := 199) (by rw [hG]; exact e4) (by omega), p_w0 Mc a1 (hi := 1) (n := 1) rfl, p_in0 _ a1 (hi := 1) (n := 1) rfl]
  simp only [p_refusal (o := 0) e1 (show gP (Mr 203) < 1000 by omega), bs_e, b1_0]
  by_cases hP : gP (Mr 203) = 0
  · have hD := hPD.mp hP
    rw [if_pos (show ¬ (0 ≤ a0.toInt ∧ a0.toInt < (gD (Mr 203) : Int)) by omega), if_pos hP, if_pos (show ¬ 0 < gD (Mr 203) by omega), if_neg (by decide)]
    exact ⟨_, _, _, rfl, rfl, hR2⟩
  · obtain ⟨he, hW, -⟩ := hall_E hR (by omega)
    rw [if_neg (show ¬ ¬ 0 < gD (Mr 203) by omega)]
    simp only [if_neg hP, if_true, if_neg (show ¬ (1 : Int32) = 0 by decide), if_neg (show ¬ (-1000001 : Int32) = 0 by decide)]
    by_cases h0 : 0 ≤ a0.toInt ∧ a0.toInt < (gD (Mr 203) : Int)
    · simp only [h0, and_self, not_true, if_false]
      by_cases h1 : 0 ≤ a1.toInt ∧ a1.toInt ≤ 1
      · simp only [h1, and_self, not_true, if_false]
        have hy : a1 = 0 ∨ a1 = 1 := by
          by_cases z : a1.toInt = 0
          · exact Or.inl (eq_nI (n := 0) (by omega))
          · exact Or.inr (eq_nI (n := 1) (by omega))
        obtain ⟨M2, q1, q2⟩ := fewest_e hR2 (by rw [hG]; omega) a0
        rw [hG, bsf_128 (wm_128 hW _)] at q1
        obtain ⟨N2, t1, t2⟩ := m_fewest (M := fw_set Mr 199 0 0) hG hW (x := a0) (y := a1) h0.1 hy (wm (Mr 203) a0.toInt + 1) 0 fw_fu _ (by omega) (by have := wm_128 hW a0.toInt; omega) (fun _ _ _ => rfl)
        have k1 : P_Fore_fewestBows (0 + 157) (0 + 4) Mc a0 = _ := q1
        have k2 : P_Mod_waiting (199 + 4) (fw_set Mr 199 0 0) a0 = some (nI (wm (Mr 203) a0.toInt)) := by
          have := m_waiting (a := 203) (M := fw_set Mr 199 0 0) (by rw [hG]; exact hW) a0
          rwa [hG] at this
        rw [k1, bs_e, k2, bs_e]
        simp only
        rw [setAns M2 (fun b hb => by have := (bsf_x hb).1; have := wm_128 hW a0.toInt; omega), bs_e]
        exact ⟨_, M2, N2, rfl, t1, rl_scr q2 (fun _ _ => rfl) (fun k _ _ z1 z2 => t2 k z1 z2) (fun i hi => by rw [t2 199 (by omega) (by omega)])⟩
      · simp only [h1, not_false_iff, if_true]
        exact ⟨_, _, _, rfl, rfl, hR2⟩
    · simp only [h0, not_false_iff, if_true]
      exact ⟨_, _, _, rfl, rfl, hR2⟩
