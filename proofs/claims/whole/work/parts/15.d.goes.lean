/-! when one is through -/
def wtn (g : Nat → Int32) (p : Nat) : Option Nat := if gd g p = -1 then some 0 else match ff (fun i => decide (lg (ymk g) (gb g) (wm g (gd g p)) i = some p)) 7 0 with
  | some i => some (i + 1)
  | none => none
theorem l_when {M : fw_M} {ym nb : Nat → Nat} {w : Nat} (hF : FT M ym nb w) {p : Nat} (hp : p < 7) : P_Line_whenGone 166 M (nI p) = some (oN (match ff (fun i => decide (lg ym nb w i = some p)) 7 0 with | some i => some (i + 1) | none => none)) := by
  have hfu := fw_fu_ge
  have hG7 := lG_7 ym nb w
  have key : ∀ (r j f : Nat), j + r = 7 → r < f → P_Line_whenGone_h2 166 M f (nI p) (nI j) = some (oN (match ff (fun i => decide (lg ym nb w i = some p)) r j with | some i => some (i + 1) | none => none)) := by
    intro r
    induction r with
    | zero =>
      intro j f hj hf
      obtain ⟨f, rfl⟩ : ∃ g, f = g + 1 := ⟨f - 1, by omega⟩
      show P_Line_whenGone_b2 166 M _ _ _ = _
      unfold P_Line_whenGone_b2
      rw [hF.1, if_pos ((nI_le2 (by omega) (by omega)).mpr (by omega))]
      rfl
    | succ r ih =>
      intro j f hj hf
      obtain ⟨f, rfl⟩ : ∃ g, f = g + 1 := ⟨f - 1, by omega⟩
      show P_Line_whenGone_b2 166 M _ _ _ = _
      unfold P_Line_whenGone_b2
      rw [hF.1]
      by_cases hg : lG ym nb w ≤ j
      · rw [if_pos ((nI_le2 (by omega) (by omega)).mpr hg)]
        have : ff (fun i => decide (lg ym nb w i = some p)) (r + 1) j = none := by
          rw [ff_none]
          intro i h1 h2
          cases hl : lg ym nb w i with
          | none => simp
          | some q =>
            have := lG_lt.mpr (show lg ym nb w i ≠ none by rw [hl]; simp)
            omega
        rw [this]
        rfl
      · have q : P_Line_goingIn 166 M (nI j) = some (oN (lg ym nb w j)) := by rw [l_goingIn hF, tI (by omega), if_pos (by omega), Int.toNat_natCast]
        rw [if_neg (fun z => hg ((nI_le2 (by omega) (by omega)).mp z)), q, bs_e, nI_s]
        cases hl : lg ym nb w j with
        | none => exact absurd hl (lG_lt.mp (by omega))
        | some q =>
          have hq := (lg_in hl).1
          simp only [ff, hl, Option.some.injEq]
          rw [show oN (some q) = nI q from rfl]
          simp only [nI_inj (show q < 1000000 by omega) (show p < 1000000 by omega)]
          by_cases hqp : q = p
          · rw [if_pos hqp]; simp [hqp]; rfl
          · rw [if_neg hqp, ih (j + 1) f (by omega) (by omega)]; simp [hqp]
  exact key 7 0 fw_fu (by omega) (by omega)
theorem when_e {Mc Mr : fw_M} (hR : rl Mc Mr) {p : Nat} (hp : p < gP (Mr 203)) : ∃ M2, P_Fore_whenThrough 157 4 Mc (nI p) = some (oN (wtn (Mr 203) p), M2) ∧ rl M2 Mr ∧ ∀ b, (b < 157 ∨ 168 < b) → M2 b = Mc b := by
  obtain ⟨he, hW, -⟩ := hall_E hR (by omega)
  have h7 := hW.2.2.1.2.1
  have cd1 : fw_ald Mc (4 + 4) 7 (nI p) = _ := (ce_d hR rfl hp).1
  unfold P_Fore_whenThrough P_Fore_whenThrough_b0 P_Fore_whenThrough_b26 wtn
  rw [cd1, bs_e]
  simp only [gd_m]
  by_cases h : gd (Mr 203) p = -1
  · rw [if_pos h, if_pos h]
    exact ⟨Mc, rfl, hR, fun _ _ => rfl⟩
  · rw [if_neg h, if_neg h]
    obtain ⟨M2, q1, q2, q3, q4, q5⟩ := lineAt_e hR (by omega) (Mr 203 (7 + 5 * p))
    rw [q1, bs_e, show P_Line_whenGone (157 + 9) M2 (nI p) = _ from l_when q2 (by omega), bs_e]
    exact ⟨M2, rfl, q4, q5⟩
theorem sn_gd {g : Nat → Int32} (hw : WF g) {p : Nat} (hp : p < gP g) : ∀ {k : Nat} {h : Nat → Int32}, SN k g h → gd h p = gd g p ∨ gd h p = -1
  | 0, h, hs => by
    have e : h = g := hs
    rw [e]
    exact Or.inl rfl
  | k + 1, h, hs => by
    obtain ⟨m, h1, h2⟩ := hs
    obtain ⟨w1, w2, -⟩ := sn_wf hw h1
    rw [st_gd h2 (by omega)]
    by_cases hg : gone m p = true
    · rw [if_pos hg]; exact Or.inr rfl
    · rw [if_neg hg]; exact sn_gd hw hp h1
theorem sn_through {G g h : Nat → Int32} (h39 : ∀ i, i < 39 → g i = G i) (hW : WF G) {k : Nat} (hs : SN k g h) {p : Nat} (hp : p < gP G) : gd h p < 0 ↔ ∃ m, wtn G p = some m ∧ m ≤ k := by
  obtain ⟨w1, w2, w3, w4, w5, w6, w7⟩ := e39_wf h39 hW
  have h7 := hW.2.2.1.2.1
  have hd := (hW.2.2.2 p hp).2.2.2.1.1
  have hgd := sn_gd w1 (show p < gP g by omega) hs
  rw [w7 p hp] at hgd
  unfold wtn
  by_cases h1 : gd G p = -1
  · rw [if_pos h1]
    exact ⟨fun _ => ⟨0, rfl, by omega⟩, fun _ => by omega⟩
  · rw [if_neg h1]
    have hd0 : 0 ≤ gd G p := by omega
    obtain ⟨t1, t2, t3⟩ := sn_wf w1 hs
    have hwm : wm h (gd G p) = ln (ymk G) (gb G) (wm G (gd G p)) k := by
      rw [(sn_line w1 hd0 hs).1, w4, w5]
      exact (ln_c (fun q hq hb => w6 q (wm_in hb).1) k).1
    have hb : (wm h (gd G p)).testBit p = decide (gd h p = gd G p) := by
      unfold wm
      rw [mk_b]
      simp [show p < gP h by omega]
    have hb0 : (wm G (gd G p)).testBit p = true := by
      unfold wm
      rw [mk_b]
      simp [hp]
    rw [hwm, ln_out (by omega), hb0, Bool.true_and, decide_eq_decide] at hb
    have hlt : gd h p < 0 ↔ ¬ ∀ j, j < k → lg (ymk G) (gb G) (wm G (gd G p)) j ≠ some p := by
      rw [hb]
      omega
    rw [hlt]
    constructor
    · intro hn
      obtain ⟨j, hj⟩ := Classical.not_forall.mp hn
      obtain ⟨hjk, hj2⟩ : j < k ∧ lg (ymk G) (gb G) (wm G (gd G p)) j = some p := by
        by_cases a : j < k
        · refine ⟨a, ?_⟩
          by_cases b : lg (ymk G) (gb G) (wm G (gd G p)) j = some p
          · exact b
          · exact absurd (fun _ => b) hj
        · exact absurd (fun z => absurd z a) hj
      have hG := lG_lt.mpr (show lg (ymk G) (gb G) (wm G (gd G p)) j ≠ none by rw [hj2]; simp)
      have hG7 := lG_7 (ymk G) (gb G) (wm G (gd G p))
      have : ff (fun i => decide (lg (ymk G) (gb G) (wm G (gd G p)) i = some p)) 7 0 = some j := by
        rw [ff_some]
        refine ⟨by omega, by omega, by simp [hj2], fun i _ hi => ?_⟩
        simp only [decide_eq_false_iff_not]
        intro z
        have := lg_once z hj2
        omega
      rw [this]
      exact ⟨j + 1, rfl, by omega⟩
    · rintro ⟨m, hm, hmk⟩ hall
      cases hf : ff (fun i => decide (lg (ymk G) (gb G) (wm G (gd G p)) i = some p)) 7 0 with
      | none => rw [hf] at hm; cases hm
      | some j =>
        rw [hf] at hm
        have hjm : j + 1 = m := Option.some.inj hm
        have := (ff_some.mp hf).2.2.1
        simp only [decide_eq_true_eq] at this
        exact hall j (by omega) this
