/-! THE LEAST CHANGE OF A RANK -/
def ls : Option Nat → Nat → Bool
  | none, _ => true
  | some b, n => decide (n < b)
def up1 (s : Option Nat) (n : Nat) (ok : Bool) : Option Nat := if ls s n = true ∧ ok = true then some n else s
def om (s : Option Nat) : Option Nat → Option Nat
  | none => s
  | some n => up1 s n true
def num (w p r : Nat) : Nat := 100 * ((r - w) + (w - r)) + 10 * p + r
theorem om_up (s t : Option Nat) (n : Nat) (ok : Bool) : up1 (om s t) n ok = om s (up1 t n ok) := by
  cases ok with
  | false => simp [up1]
  | true =>
    cases t with
    | none => simp [om, up1, ls]
    | some m =>
      cases s with
      | none =>
        simp only [om, up1, ls, and_self, if_true]
        by_cases h : n < m
        · simp [h]
        · simp [h]
      | some b =>
        simp only [om, up1, ls, and_true, decide_eq_true_eq]
        by_cases h1 : n < m <;> by_cases h2 : m < b <;> by_cases h3 : n < b <;> simp [om, up1, ls, h1, h2, h3] <;> omega
/-- would all get through, if the rank of p were r -/
def okU (G : Nat → Int32) (d : Int) (p r : Nat) : Bool := decide (ln (ymk (upd G (4 + 5 * p + 1) (nI r))) (gb G) (wm G d) 7 = 0)
def okA (G : Nat → Int32) (d : Int) (p r : Nat) : Bool := decide (gd G p = d) && (decide (r ≠ gr G p) && okU G d p r)
def ri (G : Nat → Int32) (d : Int) (p : Nat) (s : Option Nat) : Nat → Option Nat
  | 0 => s
  | r + 1 => up1 (ri G d p s r) (num (gr G p) p r) (okA G d p r)
def ro (G : Nat → Int32) (d : Int) : Nat → Option Nat
  | 0 => none
  | p + 1 => ri G d p (ro G d p) 10
def co (G : Nat → Int32) (d : Int) : Nat → Option Nat
  | 0 => none
  | p + 1 => if gd G p = d then om (co G d p) (ri G d p none 10) else co G d p
theorem ri_om (G : Nat → Int32) (d : Int) (p : Nat) (s : Option Nat) : ∀ r, ri G d p s r = om s (ri G d p none r)
  | 0 => rfl
  | r + 1 => by
    show up1 (ri G d p s r) (num (gr G p) p r) (okA G d p r) = om s (up1 (ri G d p none r) (num (gr G p) p r) (okA G d p r))
    rw [ri_om G d p s r, om_up]
theorem ri_no {G : Nat → Int32} {d : Int} {p : Nat} (h : ¬ gd G p = d) (s : Option Nat) : ∀ r, ri G d p s r = s
  | 0 => rfl
  | r + 1 => by
    show up1 (ri G d p s r) (num (gr G p) p r) (okA G d p r) = s
    rw [ri_no h s r]
    simp [up1, okA, h]
theorem ro_co (G : Nat → Int32) (d : Int) : ∀ p, ro G d p = co G d p
  | 0 => rfl
  | p + 1 => by
    show ri G d p (ro G d p) 10 = if gd G p = d then om (co G d p) (ri G d p none 10) else co G d p
    rw [ro_co G d p]
    by_cases h : gd G p = d
    · rw [if_pos h, ri_om]
    · rw [if_neg h, ri_no h]
theorem up1_lt {s : Option Nat} {n k : Nat} {ok : Bool} (hn : n < k) (hs : ∀ b, s = some b → b < k) : ∀ b, up1 s n ok = some b → b < k := by
  intro b e
  unfold up1 at e
  by_cases h : ls s n = true ∧ ok = true
  · rw [if_pos h] at e
    have := Option.some.inj e
    omega
  · rw [if_neg h] at e
    exact hs b e
theorem num_lt {w p r : Nat} (hw : w ≤ 9) (hp : p < 7) (hr : r ≤ 9) : num w p r < 1000 := by
  unfold num
  omega
theorem ri_lt {G : Nat → Int32} {d : Int} {p : Nat} (hw : gr G p ≤ 9) (hp : p < 7) {s : Option Nat} (hs : ∀ b, s = some b → b < 1000) : ∀ r, r ≤ 10 → ∀ b, ri G d p s r = some b → b < 1000
  | 0, _ => hs
  | r + 1, h => up1_lt (num_lt hw hp (by omega)) (ri_lt hw hp hs r (by omega))
theorem ro_lt {G : Nat → Int32} (hW : WF G) {d : Int} : ∀ p, p ≤ gP G → ∀ b, ro G d p = some b → b < 1000
  | 0, _ => fun b e => by cases e
  | p + 1, h => by
    have h7 := hW.2.2.1.2.1
    exact ri_lt ((hW.2.2.2 p (by omega)).2.1.1) (by omega) (ro_lt hW p (by omega)) 10 (by omega)
theorem abs_0 : ∀ r, r < 10 → ∀ w, w < 10 → (100 : Int32) * (if 0 ≤ nI r - nI w then nI r - nI w else 0 - (nI r - nI w)) = nI (100 * ((r - w) + (w - r))) := by decide +kernel
theorem abs_1 : ∀ r, r < 10 → ∀ w, w < 10 → 0 ≤ nI r - nI w → (100 : Int32) * (nI r - nI w) = nI (100 * ((r - w) + (w - r))) := by decide +kernel
theorem abs_2 : ∀ r, r < 10 → ∀ w, w < 10 → ¬ 0 ≤ nI r - nI w → (100 : Int32) * (-(nI r - nI w)) = nI (100 * ((r - w) + (w - r))) := by decide +kernel
theorem abs_3 : ∀ r, r < 10 → ∀ w, w < 10 → (nI r - nI w = 0 ↔ r = w) := by decide +kernel
theorem num_e {a p r : Nat} {x : Int32} (hx : x = nI a) : (x + ((10 : Int32) * nI p)) + nI r = nI (a + 10 * p + r) := by
  rw [hx, show (10 : Int32) = nI 10 from rfl, pk_mul, nI_add, nI_add]
theorem up_rank {G : Nat → Int32} (hW : WF G) {p r : Nat} (hp : p < gP G) (hr : r ≤ 9) : WF (upd G (4 + 5 * p + 1) (nI r)) ∧ gP (upd G (4 + 5 * p + 1) (nI r)) = gP G ∧ gD (upd G (4 + 5 * p + 1) (nI r)) = gD G ∧ gb (upd G (4 + 5 * p + 1) (nI r)) = gb G ∧ ∀ d, wm (upd G (4 + 5 * p + 1) (nI r)) d = wm G d := by
  obtain ⟨a1, a2, a3, -⟩ := wf_up hW (c := 1) (v := nI r) hp (by omega) ⟨r, hr, rfl⟩
  have eb : ∀ q, gb (upd G (4 + 5 * p + 1) (nI r)) q = gb G q := fun q => by unfold gb; rw [up_n (by omega)]
  have ed : ∀ q, gd (upd G (4 + 5 * p + 1) (nI r)) q = gd G q := fun q => by unfold gd; rw [up_n (by omega)]
  refine ⟨a1, a2, a3, funext eb, fun d => ?_⟩
  unfold wm
  rw [a2]
  simp only [ed]
theorem oN_ls {s : Option Nat} (hs : ∀ b, s = some b → b < 1000) {n : Nat} (hn : n < 1000) {α : Type} (x y : α) : (if oN s < 0 then x else if oN s ≤ nI n then y else x) = if ls s n = true then x else y := by
  cases s with
  | none =>
    rw [if_pos (show oN none < 0 by decide), if_pos (show ls none n = true from rfl)]
  | some b =>
    have hb := hs b rfl
    rw [if_neg (show ¬ oN (some b) < 0 from fun z => (nI_z3 (show b < 1000000 by omega)).mp z)]
    have e : (oN (some b) ≤ nI n) ↔ b ≤ n := nI_le2 (by omega) (by omega)
    by_cases h : b ≤ n
    · rw [if_pos (e.mpr h), if_neg (show ¬ ls (some b) n = true by simp [ls]; omega)]
    · rw [if_neg (fun z => h (e.mp z)), if_pos (show ls (some b) n = true by simp [ls]; omega)]
theorem c_rof {Mc : fw_M} {G : Nat → Int32} (he : rl_eq Mc 4 G) (hW : WF G) {p : Nat} (hp : p < gP G) {x : Int32} (hx : gd G p = x.toInt) : ∀ (k r f : Nat) (N : fw_M), r + k = 10 → k < f → (∃ v, v ≤ 9 ∧ rl_eq N 158 (upd G (4 + 5 * p + 1) (nI v))) → (∀ b, (b < 157 ∨ 168 < b) → N b = Mc b) → ∃ M2, P_Fore_leastRaiseOf_h14 157 4 f N x (nI p) (nI (gr G p)) (oN (ri G x.toInt p none r)) (nI r) = some (oN (ri G x.toInt p none 10), M2) ∧ rl_eq M2 158 G ∧ ∀ b, (b < 157 ∨ 168 < b) → M2 b = Mc b := by
  have h7 := hW.2.2.1.2.1
  obtain ⟨w9, wG⟩ := (hW.2.2.2 p hp).2.1
  intro k
  induction k with
  | zero =>
    intro r f N hj hf hN hfr
    obtain ⟨f, rfl⟩ : ∃ g, f = g + 1 := ⟨f - 1, by omega⟩
    have hr : r = 10 := by omega
    subst hr
    obtain ⟨v, hv, hN⟩ := hN
    have h2 := eq_up hN (p := p) (c := 1) (by omega) (nI (gr G p))
    rw [up_up, show upd G (4 + 5 * p + 1) (nI (gr G p)) = G by
      rw [← wG, show 5 + 5 * p = 4 + 5 * p + 1 by omega, up_id]] at h2
    refine ⟨fw_set N 160 p (nI (gr G p)), ?_, h2, fun b hb => by rw [st_n (by omega)]; exact hfr b hb⟩
    show P_Fore_leastRaiseOf_b14 157 4 _ N _ _ _ _ _ = _
    unfold P_Fore_leastRaiseOf_b14
    rw [if_pos (show (9 : Int32) < nI 10 by decide), show fw_ast N (157 + 1 + 2) 7 (nI p) (nI (gr G p)) = some (fw_set N 160 p (nI (gr G p))) from ast_n (by omega) (by omega), bs_e]
  | succ k ih =>
    intro r f N hj hf hN hfr
    obtain ⟨f, rfl⟩ : ∃ g, f = g + 1 := ⟨f - 1, by omega⟩
    obtain ⟨v, hv, hN2⟩ := hN
    have hlt := ri_lt (G := G) (d := x.toInt) (p := p) w9 (by omega) (s := none) (fun b e => by cases e) r (by omega)
    have hn := num_lt (p := p) (r := r) w9 (by omega) (by omega)
    have hri : ri G x.toInt p none (r + 1) = up1 (ri G x.toInt p none r) (num (gr G p) p r) (okA G x.toInt p r) := rfl
    have hskip : okA G x.toInt p r = false ∨ ls (ri G x.toInt p none r) (num (gr G p) p r) = false → ∃ M2, P_Fore_leastRaiseOf_h14 157 4 f N x (nI p) (nI (gr G p)) (oN (ri G x.toInt p none r)) (nI (r + 1)) = some (oN (ri G x.toInt p none 10), M2) ∧ rl_eq M2 158 G ∧ ∀ b, (b < 157 ∨ 168 < b) → M2 b = Mc b := by
      intro hz
      have := ih (r + 1) f N (by omega) (by omega) ⟨v, hv, hN2⟩ hfr
      rw [hri, show up1 (ri G x.toInt p none r) (num (gr G p) p r) (okA G x.toInt p r) = ri G x.toInt p none r from if_neg (fun z => by
        rcases hz with a | a
        · rw [a] at z; cases z.2
        · rw [a] at z; cases z.1)] at this
      exact this
    show ∃ M2, P_Fore_leastRaiseOf_b14 157 4 _ N _ _ _ _ _ = _ ∧ _
    unfold P_Fore_leastRaiseOf_b14 P_Fore_leastRaiseOf_b98
    rw [if_neg (show ¬ (9 : Int32) < nI r from fun z => by have := (nI_lt2 (a := 9) (b := r) (by omega) (by omega)).mp z; omega), num_e (abs_0 r (by omega) _ (by omega)), pl_e]
    simp only [nI_inj (show r < 1000000 by omega) (show gr G p < 1000000 by omega), nI_s]
    by_cases hrw : r = gr G p
    · rw [if_pos hrw]
      exact hskip (Or.inl (by simp [okA, hrw]))
    · rw [if_neg hrw, show 100 * (r - gr G p + (gr G p - r)) + 10 * p + r = num (gr G p) p r from rfl, oN_ls hlt hn]
      by_cases hls : ls (ri G x.toInt p none r) (num (gr G p) p r) = true
      · rw [if_pos hls]
        have h2 := eq_up hN2 (p := p) (c := 1) (by omega) (nI r)
        rw [up_up] at h2
        obtain ⟨u1, u2, u3, u4, u5⟩ := up_rank hW hp (r := r) (by omega)
        have h3 : rl_eq (fw_set N 160 p (nI r)) 158 (upd G (4 + 5 * p + 1) (nI r)) := h2
        obtain ⟨M1, q1, ⟨-, q2, -⟩, -, q4⟩ := lineOf_g h3 u1 (by omega) (w := wm (upd G (4 + 5 * p + 1) (nI r)) x.toInt) (fun i hi => (wm_in hi).1)
        rw [u4, u5] at q2
        have h128 := ln_128 (ym := ymk (upd G (4 + 5 * p + 1) (nI r))) (nb := gb G) (wm_128 hW x.toInt) 7
        have hfr1 : ∀ b, (b < 157 ∨ 168 < b) → M1 b = Mc b := fun b hb => by rw [q4 b (by omega), st_n (by omega)]; exact hfr b hb
        have he1 : rl_eq M1 158 (upd G (4 + 5 * p + 1) (nI r)) := eq_cong h3 fun k _ _ => q4 k (by omega)
        have nxt := ih (r + 1) f M1 (by omega) (by omega) ⟨r, by omega, he1⟩ hfr1
        rw [hri] at nxt
        unfold P_Fore_leastRaiseOf_b61 P_Fore_leastRaiseOf_b98
        rw [show fw_ast N (157 + 1 + 2) 7 (nI p) (nI r) = some (fw_set N 160 p (nI r)) from ast_n (by omega) (by omega), bs_e, show P_Hall_waitingAt (157 + 1) (fw_set N 160 p (nI r)) x = _ from p_waitingAt h3 u1 x, bs_e, show P_Fore_lineOf 157 (157 + 1) (fw_set N 160 p (nI r)) (nI (wm (upd G (4 + 5 * p + 1) (nI r)) x.toInt)) = some M1 from q1, bs_e, show M1 (157 + 9) 3 = _ from q2]
        simp only [nI_e0 (show ln (ymk (upd G (4 + 5 * p + 1) (nI r))) (gb G) (wm G x.toInt) 7 < 1000000 by omega), nI_s]
        by_cases hz : ln (ymk (upd G (4 + 5 * p + 1) (nI r))) (gb G) (wm G x.toInt) 7 = 0
        · have hok : okA G x.toInt p r = true := by simp [okA, okU, hx, hrw, hz]
          rw [if_pos hz]
          rw [show up1 (ri G x.toInt p none r) (num (gr G p) p r) (okA G x.toInt p r) = some (num (gr G p) p r) from if_pos ⟨hls, hok⟩] at nxt
          exact nxt
        · have hok : okA G x.toInt p r = false := by simp [okA, okU, hz]
          rw [if_neg hz]
          rw [show up1 (ri G x.toInt p none r) (num (gr G p) p r) (okA G x.toInt p r) = ri G x.toInt p none r from if_neg (fun z => by rw [hok] at z; cases z.2)] at nxt
          exact nxt
      · rw [if_neg hls]
        exact hskip (Or.inr (by simpa using hls))
theorem c_raise {Mc : fw_M} {G : Nat → Int32} (he : rl_eq Mc 4 G) (hW : WF G) {x : Int32} : ∀ (k p f : Nat) (N : fw_M), p + k = gP G → k < f → rl_eq N 158 G → (∀ b, (b < 157 ∨ 168 < b) → N b = Mc b) → ∃ M2, P_Fore_leastRaise_h27 157 4 f N x (oN (co G x.toInt p)) (nI p) = some (oN (co G x.toInt (gP G)), M2) ∧ ∀ b, (b < 157 ∨ 168 < b) → M2 b = Mc b := by
  have hfu := fw_fu_ge
  have h7 := hW.2.2.1.2.1
  intro k
  induction k with
  | zero =>
    intro p f N hj hf hN hfr
    obtain ⟨f, rfl⟩ : ∃ g, f = g + 1 := ⟨f - 1, by omega⟩
    obtain ⟨x0, x1, x2, x3, x4⟩ := he_x he hW
    refine ⟨N, ?_, hfr⟩
    show P_Fore_leastRaise_b27 157 4 _ N _ _ _ = _
    unfold P_Fore_leastRaise_b27
    rw [hfr 4 (by omega), x2, if_pos ((nI_le2 (by omega) (by omega)).mpr (by omega)), show p = gP G by omega]
  | succ k ih =>
    intro p f N hj hf hN hfr
    obtain ⟨f, rfl⟩ : ∃ g, f = g + 1 := ⟨f - 1, by omega⟩
    obtain ⟨x0, x1, x2, x3, x4⟩ := he_x he hW
    obtain ⟨y1, y2, y3, y4, y5⟩ := x4 p (by omega)
    obtain ⟨w9, wG⟩ := (hW.2.2.2 p (by omega)).2.1
    have hco : co G x.toInt (p + 1) = if gd G p = x.toInt then om (co G x.toInt p) (ri G x.toInt p none 10) else co G x.toInt p := rfl
    show ∃ M2, P_Fore_leastRaise_b27 157 4 _ N _ _ _ = _ ∧ _
    unfold P_Fore_leastRaise_b27 P_Fore_leastRaise_b72 P_Fore_leastRaise_b75
    rw [hfr 4 (by omega), x2, if_neg (fun z => by have := (nI_le2 (show gP G < 1000000 by omega) (show p < 1000000 by omega)).mp z; omega), show fw_ald N (4 + 4) 7 (nI p) = some (Mc 8 p) by rw [ald_n (by omega) (by omega), show N (4 + 4) = Mc 8 from hfr 8 (by omega)], bs_e]
    have hiff : Mc 8 p = x ↔ gd G p = x.toInt := by rw [toInt_eq, show (Mc 8 p).toInt = gd G p from y4]
    simp only [hiff, nI_s]
    by_cases hd : gd G p = x.toInt
    · rw [if_pos hd]
      rw [if_pos hd] at hco
      obtain ⟨M1, q1, q2, q3⟩ := c_rof he hW (show p < gP G by omega) hd 10 0 fw_fu N (by omega) (by omega) ⟨gr G p, w9, by
        rw [← wG, show 5 + 5 * p = 4 + 5 * p + 1 by omega, up_id]
        exact hN⟩ hfr
      have k1 : P_Fore_leastRaiseOf 157 4 N x (nI p) = some (oN (ri G x.toInt p none 10), M1) := by
        unfold P_Fore_leastRaiseOf P_Fore_leastRaiseOf_b0
        rw [show fw_ald N (4 + 2) 7 (nI p) = some (nI (gr G p)) by rw [ald_n (by omega) (by omega), show N (4 + 2) = Mc 6 from hfr 6 (by omega)]; exact congrArg some y2, bs_e]
        exact q1
      have nxt := ih (p + 1) f M1 (by omega) (by omega) q2 q3
      rw [hco] at nxt
      rw [k1, bs_e]
      simp only
      have hl1 := ri_lt (G := G) (d := x.toInt) (p := p) w9 (by omega) (s := none) (fun b e => by cases e) 10 (by omega)
      have hl2 := ro_lt hW (d := x.toInt) p (by omega)
      rw [ro_co] at hl2
      cases hb : ri G x.toInt p none 10 with
      | none =>
        rw [hb] at nxt
        rw [if_pos (show oN none < 0 by decide)]
        exact nxt
      | some n =>
        rw [hb] at nxt
        have hn := hl1 n hb
        rw [if_neg (show ¬ oN (some n) < 0 from fun z => (nI_z3 (show n < 1000000 by omega)).mp z), show oN (some n) = nI n from rfl, oN_ls hl2 hn]
        by_cases hls : ls (co G x.toInt p) n = true
        · rw [if_pos hls]
          rw [show om (co G x.toInt p) (some n) = some n from if_pos ⟨hls, rfl⟩] at nxt
          exact nxt
        · rw [if_neg hls]
          rw [show om (co G x.toInt p) (some n) = co G x.toInt p from if_neg (fun z => hls z.1)] at nxt
          exact nxt
    · rw [if_neg hd]
      rw [if_neg hd] at hco
      have nxt := ih (p + 1) f N (by omega) (by omega) hN hfr
      rw [hco] at nxt
      exact nxt
theorem raise_e {Mc Mr : fw_M} (hR : rl Mc Mr) (h : 0 < gP (Mr 203)) (x : Int32) : ∃ M2, P_Fore_leastRaise 157 4 Mc x = some (if ln (ymk (Mr 203)) (gb (Mr 203)) (wm (Mr 203) x.toInt) 7 = 0 then 0 else oN (co (Mr 203) x.toInt (gP (Mr 203))), M2) ∧ rl M2 Mr := by
  have hfu := fw_fu_ge
  obtain ⟨he, hW, -⟩ := hall_E hR h
  have h7 := hW.2.2.1.2.1
  obtain ⟨M1, q1, ⟨-, q2, -⟩, -, q3, q4⟩ := lineAt_e hR h x
  have he1 : rl_eq M1 4 (Mr 203) := eq_cong he fun k _ _ => q4 k (by omega)
  have h128 := ln_128 (ym := ymk (Mr 203)) (nb := gb (Mr 203)) (wm_128 hW x.toInt) 7
  unfold P_Fore_leastRaise P_Fore_leastRaise_b0
  rw [q1, bs_e, show M1 (157 + 9) 3 = _ from q2]
  simp only [nI_e0 (show ln (ymk (Mr 203)) (gb (Mr 203)) (wm (Mr 203) x.toInt) 7 < 1000000 by omega)]
  by_cases hz : ln (ymk (Mr 203)) (gb (Mr 203)) (wm (Mr 203) x.toInt) 7 = 0
  · rw [if_pos hz, if_pos hz]
    exact ⟨M1, rfl, q3⟩
  · rw [if_neg hz, if_neg hz]
    obtain ⟨M2, s1, s2, s3⟩ := become_eq (o := 158) (r := 4) (M := M1) (g := Mr 203) (g2 := Mr 203) (fun i hi j hj => by omega) he1 h7 (fun _ _ => rfl)
    obtain ⟨M3, t1, t2⟩ := c_raise (Mc := M1) he1 hW (x := x) (gP (Mr 203)) 0 fw_fu M2 (by omega) (by omega) s2 (fun b hb => s3 b (by omega))
    rw [show P_Hall_become (157 + 1) 4 M1 = some M2 from s1, bs_e]
    exact ⟨M3, t1, rl_sc q3 fun k hk => t2 k hk⟩
theorem m_rin {M : fw_M} {G : Nat → Int32} (hG : M 203 = G) (hW : WF G) {p : Nat} (hp : p < gP G) {x : Int32} (hx : 0 ≤ x.toInt) {s : Option Nat} (hs : ∀ b, s = some b → b < 1000) {K : fw_M → Int32 → Int32 → Int32 → Option (Int32 × fw_M)} : ∀ (k r f : Nat) (N : fw_M), r + k = 10 → k < f → (∀ b, b ≠ 205 → b ≠ 208 → N b = M b) → ∃ M2, P_Mod_raise_h58 199 K f N x (oM (ri G x.toInt p s r)) (nI p) (nI r) = K M2 x (oM (ri G x.toInt p s 10)) (nI (p + 1)) ∧ ∀ b, b ≠ 205 → b ≠ 208 → M2 b = M b := by
  have hfu := fw_fu_ge
  have h7 := hW.2.2.1.2.1
  obtain ⟨w9, wG⟩ := (hW.2.2.2 p hp).2.1
  intro k
  induction k with
  | zero =>
    intro r f N hj hf hfr
    obtain ⟨f, rfl⟩ : ∃ g, f = g + 1 := ⟨f - 1, by omega⟩
    have hr : r = 10 := by omega
    subst hr
    refine ⟨N, ?_, hfr⟩
    show P_Mod_raise_b58 199 K _ N _ _ _ _ = _
    unfold P_Mod_raise_b58
    rw [if_pos ((nI_g10 (by omega)).mpr (by omega)), nI_s]
  | succ k ih =>
    intro r f N hj hf hfr
    obtain ⟨f, rfl⟩ : ∃ g, f = g + 1 := ⟨f - 1, by omega⟩
    have hN : N 203 = G := by rw [hfr 203 (by omega) (by omega), hG]
    have hlt := ri_lt (G := G) (d := x.toInt) (p := p) w9 (by omega) hs r (by omega)
    have hn := num_lt (p := p) (r := r) w9 (by omega) (by omega)
    have hri : ri G x.toInt p s (r + 1) = up1 (ri G x.toInt p s r) (num (gr G p) p r) (okA G x.toInt p r) := rfl
    have hskip : okA G x.toInt p r = false ∨ ls (ri G x.toInt p s r) (num (gr G p) p r) = false → ∃ M2, P_Mod_raise_h58 199 K f N x (oM (ri G x.toInt p s r)) (nI p) (nI (r + 1)) = K M2 x (oM (ri G x.toInt p s 10)) (nI (p + 1)) ∧ ∀ b, b ≠ 205 → b ≠ 208 → M2 b = M b := by
      intro hz
      have := ih (r + 1) f N (by omega) (by omega) hfr
      rw [hri, show up1 (ri G x.toInt p s r) (num (gr G p) p r) (okA G x.toInt p r) = ri G x.toInt p s r from if_neg (fun z => by
        rcases hz with a | a
        · rw [a] at z; cases z.2
        · rw [a] at z; cases z.1)] at this
      exact this
    have hgo : gd G p = x.toInt → r ≠ gr G p → ls (ri G x.toInt p s r) (num (gr G p) p r) = true → ∃ M2, P_Mod_raise_b134 199 K (P_Mod_raise_h58 199 K f) N x (oM (ri G x.toInt p s r)) (nI p) (nI r) (nI (num (gr G p) p r)) = K M2 x (oM (ri G x.toInt p s 10)) (nI (p + 1)) ∧ ∀ b, b ≠ 205 → b ≠ 208 → M2 b = M b := by
      intro hd hrw hls
      obtain ⟨u1, u2, u3, u4, u5⟩ := up_rank hW hp (r := r) (by omega)
      obtain ⟨M1, l1, l2, l3, -, l5⟩ := lay_up N
      have h39 : ∀ i, i < 39 → fw_set M1 205 (4 + 5 * p + 1) (nI r) 205 i = upd G (4 + 5 * p + 1) (nI r) i := fun i hi => by rw [l3 p 1 (nI r) (by omega) (by omega) i hi, hN]
      obtain ⟨N2, t1, t2⟩ := left_g (M := fw_set M1 205 (4 + 5 * p + 1) (nI r)) h39 u1 hx
      rw [u4, u5] at t1
      have h128 := ln_128 (ym := ymk (upd G (4 + 5 * p + 1) (nI r))) (nb := gb G) (wm_128 hW x.toInt) 7
      have hpc := pc_le (ln (ymk (upd G (4 + 5 * p + 1) (nI r))) (gb G) (wm G x.toInt) 7) 7
      have k2 : fw_ast M1 (199 + 6) 39 (nI (4 + 5 * p + 1)) (nI r) = _ := l2 p 1 (nI r) (by omega) (by omega)
      have nxt := ih (r + 1) f N2 (by omega) (by omega) (fun b b1 b2 => by rw [t2 b b1 b2, st_n b1, l5 b b1, hfr b b1 b2])
      rw [hri] at nxt
      unfold P_Mod_raise_b134 P_Mod_raise_b166 P_Mod_raise_b167
      rw [l1, bs_e, ix_y (x := 1) (c := 1) rfl, k2, bs_e, t1, bs_e]
      simp only [nI_e0 (show pc (ln (ymk (upd G (4 + 5 * p + 1) (nI r))) (gb G) (wm G x.toInt) 7) 7 < 1000000 by omega), pc_0 h128, nI_s]
      by_cases hz : ln (ymk (upd G (4 + 5 * p + 1) (nI r))) (gb G) (wm G x.toInt) 7 = 0
      · have hok : okA G x.toInt p r = true := by simp [okA, okU, hd, hrw, hz]
        rw [if_pos hz]
        rw [show up1 (ri G x.toInt p s r) (num (gr G p) p r) (okA G x.toInt p r) = some (num (gr G p) p r) from if_pos ⟨hls, hok⟩] at nxt
        exact nxt
      · have hok : okA G x.toInt p r = false := by simp [okA, okU, hz]
        rw [if_neg hz]
        rw [show up1 (ri G x.toInt p s r) (num (gr G p) p r) (okA G x.toInt p r) = ri G x.toInt p s r from if_neg (fun z => by rw [hok] at z; cases z.2)] at nxt
        exact nxt
    have hb94 : ∀ t : Int32, (100 : Int32) * t = nI (100 * ((r - gr G p) + (gr G p - r))) → ∃ M2, P_Mod_raise_b94 199 K (P_Mod_raise_h58 199 K f) N x (oM (ri G x.toInt p s r)) (nI p) (nI r) (nI r - nI (gr G p)) 100 t = K M2 x (oM (ri G x.toInt p s 10)) (nI (p + 1)) ∧ ∀ b, b ≠ 205 → b ≠ 208 → M2 b = M b := by
      intro t ht
      unfold P_Mod_raise_b94 P_Mod_raise_b167
      rw [num_e ht, pl_e, show P_Mod_waits (199 + 4) N (nI p) x = some (b1 (gd G p = x.toInt)) by
        have := m_waits (a := 203) (M := N) (p := p) (by omega) x
        rwa [hN] at this, bs_e]
      simp only [b1_0, abs_3 r (show r < 10 by omega) (gr G p) (show gr G p < 10 by omega), nI_s]
      rw [show 100 * (r - gr G p + (gr G p - r)) + 10 * p + r = num (gr G p) p r from rfl]
      by_cases hd : gd G p = x.toInt
      · rw [if_neg (fun z => z hd)]
        by_cases hrw : r = gr G p
        · rw [if_pos hrw]
          exact hskip (Or.inl (by simp [okA, hrw]))
        · rw [if_neg hrw]
          cases hb : ri G x.toInt p s r with
          | none =>
            rw [if_pos (show oM none = -1000000 from rfl)]
            have := hgo hd hrw (by rw [hb]; rfl)
            rw [hb] at this
            exact this
          | some n =>
            have hn2 := hlt n hb
            rw [if_neg (oM_n rfl (by omega))]
            have e : (oM (some n) ≤ nI (num (gr G p) p r)) ↔ n ≤ num (gr G p) p r := nI_le2 (by omega) (by omega)
            by_cases hle : n ≤ num (gr G p) p r
            · rw [if_pos (e.mpr hle)]
              have := hskip (Or.inr (by rw [hb]; simp [ls]; omega))
              rw [hb] at this
              exact this
            · rw [if_neg (fun z => hle (e.mp z))]
              have := hgo hd hrw (by rw [hb]; simp [ls]; omega)
              rw [hb] at this
              exact this
      · rw [if_pos hd]
        exact hskip (Or.inl (by simp [okA, hd]))
    show ∃ M2, P_Mod_raise_b58 199 K _ N _ _ _ _ = _ ∧ _
    unfold P_Mod_raise_b58
    rw [if_neg (fun z => by have := (nI_g10 (show r < 1000000 by omega)).mp z; omega), show P_Mod_of (199 + 4) N (nI p) 1 = some (nI (gr G p)) by
      have := m_of1 (a := 203) (M := N) (by rw [hN]; exact hW) (p := p) (by rw [hN]; exact hp)
      rwa [hN] at this, bs_e, pl_e]
    by_cases h0 : (0 : Int32) ≤ nI r - nI (gr G p)
    · rw [if_pos h0]
      exact hb94 _ (abs_1 r (by omega) _ (by omega) h0)
    · rw [if_neg h0]
      exact hb94 _ (abs_2 r (by omega) _ (by omega) h0)
theorem m_rout {M : fw_M} {G : Nat → Int32} (hG : M 203 = G) (hW : WF G) {x : Int32} (hx : 0 ≤ x.toInt) : ∀ (k p f : Nat) (N : fw_M), p + k = gP G → k < f → (∀ b, b ≠ 205 → b ≠ 208 → N b = M b) → ∃ M2, P_Mod_raise_h45 199 f N x (oM (ro G x.toInt p)) (nI p) = some (oM (ro G x.toInt (gP G)), M2) ∧ ∀ b, b ≠ 205 → b ≠ 208 → M2 b = M b := by
  have hfu := fw_fu_ge
  have h7 := hW.2.2.1.2.1
  intro k
  induction k with
  | zero =>
    intro p f N hj hf hfr
    obtain ⟨f, rfl⟩ : ∃ g, f = g + 1 := ⟨f - 1, by omega⟩
    have hN : N 203 = G := by rw [hfr 203 (by omega) (by omega), hG]
    refine ⟨N, ?_, hfr⟩
    show P_Mod_raise_b45 199 _ N _ _ _ = _
    unfold P_Mod_raise_b45
    rw [show fw_ald N (199 + 4) 39 (2 : Int32) = some (nI (gP G)) by
      have := m_P (a := 203) (M := N) (by rw [hN]; exact hW)
      rwa [hN] at this, bs_e, if_pos ((nI_le2 (by omega) (by omega)).mpr (by omega)), show p = gP G by omega]
  | succ k ih =>
    intro p f N hj hf hfr
    obtain ⟨f, rfl⟩ : ∃ g, f = g + 1 := ⟨f - 1, by omega⟩
    have hN : N 203 = G := by rw [hfr 203 (by omega) (by omega), hG]
    obtain ⟨M1, q1, q2⟩ := m_rin (M := M) hG hW (show p < gP G by omega) hx (ro_lt hW p (by omega)) (K := P_Mod_raise_h45 199 f) 10 0 fw_fu N (by omega) (by omega) hfr
    obtain ⟨M2, p1, p2⟩ := ih (p + 1) f M1 (by omega) (by omega) q2
    refine ⟨M2, ?_, p2⟩
    show P_Mod_raise_b45 199 _ N _ _ _ = _
    unfold P_Mod_raise_b45
    rw [show fw_ald N (199 + 4) 39 (2 : Int32) = some (nI (gP G)) by
      have := m_P (a := 203) (M := N) (by rw [hN]; exact hW)
      rwa [hN] at this, bs_e, if_neg (fun z => by have := (nI_le2 (show gP G < 1000000 by omega) (show p < 1000000 by omega)).mp z; omega)]
    exact q1.trans p1
theorem ow_raise {Mc Mr : fw_M} (hR : rl Mc Mr) (a0 : Int32) : ∃ (r : Int32) (Mc2 Mr2 : fw_M), P_Door_raise 0 Mc a0 = some (r, Mc2) ∧ P_Mod_raise 199 Mr a0 = some (r, Mr2) ∧ rl Mc2 Mr2 := by
  have hfu := fw_fu_ge
  unfold P_Door_raise P_Door_raise_b0 P_Door_raise_b33 P_Mod_raise P_Mod_raise_b0
  have hR2 := rl_thrown hR 0
  have hG : fw_set Mr 199 0 0 203 = Mr 203 := st_n (by omega)
  obtain ⟨e1, e2, e3, e4, h7, hd4, hPD, e5⟩ := hall_P hR
  simp only [pl_e]
  rw [p_isDoor (o := 0) e3 (by omega), m_isThere (o := 199) (by rw [hG]; exact e4) (by omega), m_isDoor (o := 199) (by rw [hG]; exact e4) (by omega)]
  simp only [p_refusal (o := 0) e1 (show gP (Mr 203) < 1000 by omega), bs_e, b1_0]
  by_cases hP : gP (Mr 203) = 0
  · have hD := hPD.mp hP
    rw [if_pos hP, if_pos (show ¬ 0 < gD (Mr 203) by omega), if_neg (by decide)]
    exact ⟨_, _, _, rfl, rfl, hR2⟩
  · obtain ⟨he, hW, -⟩ := hall_E hR (by omega)
    rw [if_neg (show ¬ ¬ 0 < gD (Mr 203) by omega)]
    simp only [if_neg hP]
    by_cases h0 : 0 ≤ a0.toInt ∧ a0.toInt < (gD (Mr 203) : Int)
    · simp only [h0, and_self, not_true, if_false, if_true]
      obtain ⟨M2, q1, q2⟩ := raise_e hR2 (by rw [hG]; omega) a0
      rw [hG] at q1
      obtain ⟨N1, s1, s2, s3⟩ := m_layThen (o := 199) (fw_set Mr 199 0 0)
      have h39 : ∀ i, i < 39 → N1 205 i = Mr 203 i := fun i hi => by rw [s2 i hi, hG]
      obtain ⟨N2, t1, t2⟩ := left_g (M := N1) h39 hW h0.1
      have h128 := ln_128 (ym := ymk (Mr 203)) (nb := gb (Mr 203)) (wm_128 hW a0.toInt) 7
      have hpc := pc_le (ln (ymk (Mr 203)) (gb (Mr 203)) (wm (Mr 203) a0.toInt) 7) 7
      have hfr2 : ∀ b, b ≠ 205 → b ≠ 208 → N2 b = fw_set Mr 199 0 0 b := fun b b1 b2 => by rw [t2 b b1 b2, s3 b b1]
      have k1 : P_Fore_leastRaise (0 + 157) (0 + 4) Mc a0 = _ := q1
      rw [k1, s1]
      simp only [bs_e]
      rw [t1]
      simp only [bs_e, nI_e0 (show pc (ln (ymk (Mr 203)) (gb (Mr 203)) (wm (Mr 203) a0.toInt) 7) 7 < 1000000 by omega), pc_0 h128]
      by_cases hz : ln (ymk (Mr 203)) (gb (Mr 203)) (wm (Mr 203) a0.toInt) 7 = 0
      · rw [if_pos hz, if_pos hz, show P_Door_orNone M2 (0 : Int32) = some 0 by rw [p_orNone]; rfl]
        exact ⟨_, M2, N2, rfl, rfl, rl_scr q2 (fun _ _ => rfl) (fun k _ _ z1 z2 => hfr2 k z1 z2) (fun i hi => by rw [hfr2 199 (by omega) (by omega)])⟩
      · rw [if_neg hz, if_neg hz]
        obtain ⟨N3, u1, u2⟩ := m_rout (M := fw_set Mr 199 0 0) hG hW h0.1 (gP (Mr 203)) 0 fw_fu N2 (by omega) (by omega) hfr2
        have hlt := ro_lt hW (d := a0.toInt) (gP (Mr 203)) (Nat.le_refl _)
        simp only [ro_co] at hlt u1
        rw [orN2 M2 hlt]
        exact ⟨_, M2, N3, rfl, u1, rl_scr q2 (fun _ _ => rfl) (fun k _ _ z1 z2 => u2 k z1 z2) (fun i hi => by rw [u2 199 (by omega) (by omega)])⟩
    · simp only [h0, not_false_iff, if_true, if_neg (show ¬ (-1000001 : Int32) = 0 by decide), if_false]
      exact ⟨_, _, _, rfl, rfl, hR2⟩
