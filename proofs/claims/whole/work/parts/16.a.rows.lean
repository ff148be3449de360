/-! ROWS CHANGED IN A CELL; the reference's row 205 and the class' trial 158 -/
theorem ln_60 (ym nb : Nat → Nat) (w : Nat) : ln ym nb w 60 = ln ym nb w 7 := by
  have hq := lG_7 ym nb w
  rw [ln_G (ym := ym) (nb := nb) (w := w) (k := 60) (by omega), ln_G (ym := ym) (nb := nb) (w := w) (k := 7) hq]
/-- a row of the reference behind k steps, by the line of the row before (as far as 39 places go) -/
theorem go_sn {G g h : Nat → Int32} (h39 : ∀ i, i < 39 → g i = G i) (hW : WF G) {k : Nat} (hs : SN k g h) {d : Int} (hd : 0 ≤ d) : go h d = lg (ymk G) (gb G) (wm G d) k ∧ wm h d = ln (ymk G) (gb G) (wm G d) k ∧ WF h ∧ gP h = gP G ∧ gD h = gD G := by
  obtain ⟨w1, w2, w3, w4, w5, w6, w7⟩ := e39_wf h39 hW
  obtain ⟨a1, -, -, a4⟩ := sn_line w1 hd hs
  obtain ⟨t1, t2, t3⟩ := sn_wf w1 hs
  have hc := ln_c (ym := ymk G) (nb := gb g) (nb2 := gb G) (w := wm G d) (fun p _ hb => w6 p (wm_in hb).1) k
  rw [w4, w5] at a1 a4
  exact ⟨a4.trans hc.2, a1.trans hc.1, t1, t2.trans w2, t3.trans w3⟩
theorem left_g {M : fw_M} {G : Nat → Int32} (h39 : ∀ i, i < 39 → M 205 i = G i) (hW : WF G) {x : Int32} (hx : 0 ≤ x.toInt) : ∃ M2, P_Mod_leftAt 199 M x = some (nI (pc (ln (ymk G) (gb G) (wm G x.toInt) 7) 7), M2) ∧ ∀ b, b ≠ 205 → b ≠ 208 → M2 b = M b := by
  obtain ⟨w1, -⟩ := e39_wf h39 hW
  obtain ⟨v, M2, s1, s2, s3⟩ := m_stepsOf (o := 199) (a := 205) (by omega) (show 60 ≤ 100 by omega) rfl (M := M) w1
  obtain ⟨-, t2, t3, -⟩ := go_sn h39 hW s2 hx
  refine ⟨M2, ?_, s3⟩
  have k1 : P_Mod_stepsOf 199 (199 + 6) M 60 = _ := s1
  have k2 : P_Mod_waiting (199 + 6) M2 x = _ := m_waiting (a := 205) t3 x
  unfold P_Mod_leftAt P_Mod_leftAt_b0
  rw [k1, bs_e, k2, bs_e, t2, ln_60, p_bits _ (ln_128 (wm_128 hW _) _), bs_e]
/-- the class' line of any hall that is not its scratch -/
theorem lineOf_g {M : fw_M} {o : Nat} {g : Nat → Int32} (he : rl_eq M o g) (hW : WF g) (ho : o + 6 ≤ 164) {w : Nat} (hw : ∀ i, w.testBit i = true → i < gP g) : ∃ M2, P_Fore_lineOf 157 o M (nI w) = some M2 ∧ FT M2 (ymk g) (gb g) w ∧ LR M2 164 (ymk g) ∧ ∀ b, (b < 164 ∨ 168 < b) → M2 b = M b := by
  have h7 := hW.2.2.1.2.1
  have hw128 : w < 128 := by
    refine (Nat.lt_pow_two_of_testBit (n := 7) w fun i hi => ?_ : w < 2 ^ 7)
    cases hb : w.testBit i with
    | false => rfl
    | true => have := hw i hb; omega
  obtain ⟨M1, q1, q2, q3⟩ := p_law (k := 164) he hW (by omega)
  have he1 : rl_eq M1 o g := eq_cong he fun k _ _ => q3 k (by omega)
  have r1 : P_Line_readNobodies 166 o M1 = some (fw_put M1 167 (fun k => if k < 7 then M1 (o + 5) k else M1 167 k)) := by
    unfold P_Line_readNobodies P_Line_readNobodies_b0
    rw [cpy7]
    rfl
  obtain ⟨M2, p1, p2, p3⟩ := l_foretell (M := fw_put M1 167 (fun k => if k < 7 then M1 (o + 5) k else M1 167 k)) (ym := ymk g) (nb := fun p => (M1 (o + 5) p).toInt.toNat) (fun i hi => by rw [pt_n (by omega)]; exact q2 i hi) (fun p hp => by rw [pt_e, if_pos hp]) hw128
  have hnb : ∀ p, p < 7 → w.testBit p = true → (fun p => (M1 (o + 5) p).toInt.toNat) p = gb g p := by
    intro p hp hb
    have hpP := hw p hb
    have e := ((he_x he1 hW).2.2.2.2 p hpP).2.2.2.2
    have b9 := ((hW.2.2.2 p hpP).2.2.2.2).1
    show (M1 (o + 5) p).toInt.toNat = _
    rw [e, tI (by omega)]
    rfl
  refine ⟨M2, ?_, FT_c hnb p2, fun i hi => by rw [p3 _ (by omega) (by omega), pt_n (by omega)]; exact q2 i hi, fun b hb => by rw [p3 b (by omega) (by omega), pt_n (by omega), q3 b (by omega)]⟩
  show (P_Law_read 164 o M).bind _ = _
  rw [q1, bs_e]
  show (P_Line_readNobodies 166 o M1).bind _ = _
  rw [r1, bs_e]
  show (P_Line_foretell 166 164 _ (nI w)).bind _ = _
  rw [p1]
  rfl
/-! cells -/
theorem cw_of {g : Nat → Int32} (hW : WF g) {p c : Nat} (hp : p < gP g) (hc : c < 5) : cw (gD g) c (g (4 + 5 * p + c)) := by
  obtain ⟨a, b, c2, d, e⟩ := hW.2.2.2 p hp
  have e1 : 4 + 5 * p + 1 = 5 + 5 * p := by omega
  have e2 : 4 + 5 * p + 2 = 6 + 5 * p := by omega
  have e3 : 4 + 5 * p + 3 = 7 + 5 * p := by omega
  have e4 : 4 + 5 * p + 4 = 8 + 5 * p := by omega
  rcases c_5 hc with rfl | rfl | rfl | rfl | rfl
  · exact ⟨_, a⟩
  · rw [e1]; exact ⟨_, b⟩
  · rw [e2]; exact ⟨_, c2⟩
  · rw [e3]
    by_cases hz : gd g p = -1
    · exact Or.inl (gd_m.mpr hz)
    · refine Or.inr ⟨(gd g p).toNat, by omega, eq_nI ?_⟩
      show gd g p = _
      omega
  · rw [e4]; exact ⟨_, e⟩
theorem wf_ch {g h : Nat → Int32} (hW : WF g) (h0 : ∀ i, i < 3 → h i = g i) (hc : ∀ p, p < gP g → ∀ c, c < 5 → cw (gD g) c (h (4 + 5 * p + c))) : WF h ∧ gP h = gP g ∧ gD h = gD g ∧ gY h = gY g := by
  have eP : gP h = gP g := by unfold gP; rw [h0 2 (by omega)]
  have eD : gD h = gD g := by unfold gD; rw [h0 0 (by omega)]
  have eY : gY h = gY g := by unfold gY; rw [h0 1 (by omega)]
  refine ⟨⟨by rw [eD, h0 0 (by omega)]; exact hW.1, by rw [eY, h0 1 (by omega)]; exact hW.2.1, by rw [eP, h0 2 (by omega)]; exact hW.2.2.1, fun p hp => ?_⟩, eP, eD, eY⟩
  rw [eP] at hp
  obtain ⟨k, k1, k2, k3⟩ : cw (gD g) 0 (h (4 + 5 * p)) := hc p hp 0 (by omega)
  obtain ⟨r, r1, r2⟩ : cw (gD g) 1 (h (5 + 5 * p)) := by have := hc p hp 1 (by omega); rwa [show 4 + 5 * p + 1 = 5 + 5 * p by omega] at this
  obtain ⟨o, o1, o2⟩ : cw (gD g) 2 (h (6 + 5 * p)) := by have := hc p hp 2 (by omega); rwa [show 4 + 5 * p + 2 = 6 + 5 * p by omega] at this
  have hd : cw (gD g) 3 (h (7 + 5 * p)) := by have := hc p hp 3 (by omega); rwa [show 4 + 5 * p + 3 = 7 + 5 * p by omega] at this
  obtain ⟨b, z1, z2⟩ : cw (gD g) 4 (h (8 + 5 * p)) := by have := hc p hp 4 (by omega); rwa [show 4 + 5 * p + 4 = 8 + 5 * p by omega] at this
  have hk : gk h p = k := by unfold gk; rw [k3, tC (by omega)]
  have hr : gr h p = r := by unfold gr; rw [r2, tC (by omega)]
  have ho : gh h p = o := by unfold gh; rw [o2, tC (by omega)]
  have hb : gb h p = b := by unfold gb; rw [z2, tC (by omega)]
  have hD4 := hW.1.2.1
  refine ⟨by rw [hk]; exact ⟨k1, k2, k3⟩, by rw [hr]; exact ⟨r1, r2⟩, by rw [ho]; exact ⟨o1, o2⟩, ?_, by rw [hb]; exact ⟨z1, z2⟩⟩
  unfold gd
  rw [eD]
  rcases hd with a | ⟨d, a, c⟩
  · rw [a]; exact ⟨by decide, by rw [show (-1 : Int32).toInt = -1 from rfl]; omega⟩
  · rw [c, tI (by omega)]; omega
theorem wf_up {g : Nat → Int32} (hW : WF g) {p c : Nat} {v : Int32} (hp : p < gP g) (hc : c < 5) (hv : cw (gD g) c v) : WF (upd g (4 + 5 * p + c) v) ∧ gP (upd g (4 + 5 * p + c) v) = gP g ∧ gD (upd g (4 + 5 * p + c) v) = gD g ∧ gY (upd g (4 + 5 * p + c) v) = gY g := by
  refine wf_ch hW (fun i hi => up_n (by omega)) fun q hq c2 hc2 => ?_
  by_cases e : 4 + 5 * q + c2 = 4 + 5 * p + c
  · rw [e, up_e]
    have : c2 = c := by omega
    rw [this]
    exact hv
  · rw [up_n e]
    exact cw_of hW hq hc2
theorem gP_up (g : Nat → Int32) {i : Nat} (hi : 4 ≤ i) (v : Int32) : gP (upd g i v) = gP g := by unfold gP; rw [up_n (by omega)]
theorem eq_up {M : fw_M} {o : Nat} {g : Nat → Int32} (he : rl_eq M o g) {p c : Nat} (hc : c < 5) (v : Int32) : rl_eq (fw_set M (o + 1 + c) p v) o (upd g (4 + 5 * p + c) v) := by
  rw [eq_iff] at he ⊢
  rw [gP_up g (by omega)]
  refine ⟨fun i hi => by rw [st_n (by omega), up_n (by omega)]; exact he.1 i hi, fun q hq c2 hc2 => ?_⟩
  by_cases e : c2 = c
  · subst e
    rw [st_e]
    by_cases hqp : q = p
    · subst hqp; rw [up_e, up_e]
    · rw [up_n hqp, up_n (by omega)]; exact he.2 q hq c2 hc2
  · rw [st_n (by omega), up_n (by omega)]
    exact he.2 q hq c2 hc2
theorem ymk_c {g h : Nat → Int32} (hP : gP h = gP g) (hy : ∀ p q, p < gP g → q < gP g → yl h p q = yl g p q) : ymk h = ymk g := by
  funext p
  unfold ymk
  rw [hP]
  by_cases hp : p < gP g
  · rw [if_pos hp, if_pos hp]
    refine bx fun i => ?_
    rw [mk_b, mk_b]
    by_cases hi : i < gP g
    · simp [hi, hy p i hp hi]
    · simp [hi]
  · rw [if_neg hp, if_neg hp]
/-- one comes to a door -/
theorem up_door {g : Nat → Int32} (hW : WF g) {p d : Nat} (hp : p < gP g) (hd : d < gD g) : WF (upd g (4 + 5 * p + 3) (nI d)) ∧ gP (upd g (4 + 5 * p + 3) (nI d)) = gP g ∧ gD (upd g (4 + 5 * p + 3) (nI d)) = gD g ∧ ymk (upd g (4 + 5 * p + 3) (nI d)) = ymk g ∧ gb (upd g (4 + 5 * p + 3) (nI d)) = gb g ∧ gd (upd g (4 + 5 * p + 3) (nI d)) p = (d : Int) ∧ wm (upd g (4 + 5 * p + 3) (nI d)) (d : Int) = wm g (d : Int) ||| 2 ^ p := by
  have h7 := hW.2.2.1.2.1
  have hD4 := hW.1.2.1
  obtain ⟨a1, a2, a3, -⟩ := wf_up hW (c := 3) (v := nI d) hp (by omega) (Or.inr ⟨d, hd, rfl⟩)
  have ek : ∀ q, gk (upd g (4 + 5 * p + 3) (nI d)) q = gk g q := fun q => by unfold gk; rw [up_n (by omega)]
  have er : ∀ q, gr (upd g (4 + 5 * p + 3) (nI d)) q = gr g q := fun q => by unfold gr; rw [up_n (by omega)]
  have eo : ∀ q, gh (upd g (4 + 5 * p + 3) (nI d)) q = gh g q := fun q => by unfold gh; rw [up_n (by omega)]
  have eb : ∀ q, gb (upd g (4 + 5 * p + 3) (nI d)) q = gb g q := fun q => by unfold gb; rw [up_n (by omega)]
  have ed : gd (upd g (4 + 5 * p + 3) (nI d)) p = (d : Int) := by
    unfold gd
    rw [show 7 + 5 * p = 4 + 5 * p + 3 by omega, up_e, tI (by omega)]
  have ed2 : ∀ q, q ≠ p → gd (upd g (4 + 5 * p + 3) (nI d)) q = gd g q := fun q hq => by unfold gd; rw [up_n (by omega)]
  refine ⟨a1, a2, a3, ymk_c a2 fun x y _ _ => by unfold yl; rw [ek, er, er, eo, eo], funext eb, ed, bx fun i => ?_⟩
  unfold wm
  rw [a2, Nat.testBit_or, mk_b, mk_b, Nat.testBit_two_pow]
  by_cases hi : i = p
  · subst hi
    simp [hp, ed]
  · simp [ed2 i hi, Ne.symm hi]
/-- the reference lays its row 205, and changes a cell there -/
theorem lay_up (M : fw_M) : ∃ M1, P_Mod_layThen 199 M = some M1 ∧ (∀ p c v, p < 7 → c < 5 → fw_ast M1 205 39 (nI (4 + 5 * p + c)) v = some (fw_set M1 205 (4 + 5 * p + c) v)) ∧ (∀ p c v, p < 7 → c < 5 → ∀ i, i < 39 → fw_set M1 205 (4 + 5 * p + c) v 205 i = upd (M 203) (4 + 5 * p + c) v i) ∧ (∀ i, i < 39 → M1 205 i = M 203 i) ∧ ∀ b, b ≠ 205 → M1 b = M b := by
  obtain ⟨M1, q1, q2, q3⟩ := m_layThen (o := 199) M
  have h39 : ∀ i, i < 39 → M1 205 i = M 203 i := q2
  refine ⟨M1, q1, fun p c v hp hc => ast_n (by omega) (by omega), fun p c v hp hc i hi => ?_, h39, q3⟩
  rw [st_e]
  by_cases e : i = 4 + 5 * p + c
  · subst e; rw [up_e, up_e]
  · rw [up_n e, up_n e]; exact h39 i hi
