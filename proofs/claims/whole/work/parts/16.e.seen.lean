/-! SEEN BY A ROW -/
theorem up_up (g : Nat → Int32) (i : Nat) (v w : Int32) : upd (upd g i v) i w = upd g i w := by
  funext j
  by_cases e : j = i
  · subst e; rw [up_e, up_e]
  · rw [up_n e, up_n e, up_n e]
theorem up_id (g : Nat → Int32) (i : Nat) : upd g i (g i) = g := by
  funext j
  by_cases e : j = i
  · subst e; rw [up_e]
  · rw [up_n e]
theorem i_or0 (x : Int32) : x ||| (0 : Int32) = x := by
  apply Int32.toBitVec_inj.1
  show x.toBitVec ||| 0#32 = x.toBitVec
  simp
def acI (c : Nat → Bool) (a : Nat) : Nat → Int32
  | 0 => 0
  | j + 1 => if c (a + j) = true then acI c a j ||| ((1 : Int32) <<< (nI (a + j) &&& 31)) else acI c a j
/-- n items from it on tell the line -/
def sqn (G : Nat → Int32) (d : Int) (it : Nat → Int32) (n : Nat) : Bool := decide (∀ k, k < n → it k = oN (lg (ymk G) (gb G) (wm G d) k))
theorem sqn_s (G : Nat → Int32) (d : Int) (it : Nat → Int32) (n : Nat) : sqn G d it (n + 1) = true ↔ sqn G d it n = true ∧ it n = oN (lg (ymk G) (gb G) (wm G d) n) := by
  unfold sqn
  rw [decide_eq_true_eq, decide_eq_true_eq]
  constructor
  · intro z; exact ⟨fun k hk => z k (by omega), z n (by omega)⟩
  · rintro ⟨z1, z2⟩ k hk
    by_cases e : k = n
    · subst e; exact z2
    · exact z1 k (by omega)
theorem c_seen {M : fw_M} {G : Nat → Int32} {d : Int} {r1 L s n : Nat} (hF : FT M (ymk G) (gb G) (wm G d)) (hL : M r1 2 = nI L) (hl : L ≤ 40) (hs : s + n ≤ L) : ∀ (r j f : Nat), j + r = n → r < f → sqn G d (fun k => M (r1 + 1) (s + k)) j = true → P_Fore_isSeen_h20 157 r1 f M (nI s) (nI n) (nI j) = some (b1 (sqn G d (fun k => M (r1 + 1) (s + k)) n = true), M) := by
  intro r
  induction r with
  | zero =>
    intro j f hj hf hq
    obtain ⟨f, rfl⟩ : ∃ g, f = g + 1 := ⟨f - 1, by omega⟩
    have e : j = n := by omega
    subst e
    show P_Fore_isSeen_b20 157 r1 _ M _ _ _ = _
    unfold P_Fore_isSeen_b20
    rw [if_pos ((nI_le2 (by omega) (by omega)).mpr (Nat.le_refl _)), b1_t hq]
  | succ r ih =>
    intro j f hj hf hq
    obtain ⟨f, rfl⟩ : ∃ g, f = g + 1 := ⟨f - 1, by omega⟩
    show P_Fore_isSeen_b20 157 r1 _ M _ _ _ = _
    unfold P_Fore_isSeen_b20 P_Fore_isSeen_b60
    have q : P_Line_goingIn (157 + 9) M (nI j) = some (oN (lg (ymk G) (gb G) (wm G d) j)) := by
      have := l_goingIn hF (nI j)
      rw [tI (by omega), if_pos (by omega), Int.toNat_natCast] at this
      exact this
    rw [if_neg (fun z => by have := (nI_le2 (show n < 1000000 by omega) (show j < 1000000 by omega)).mp z; omega), nI_a, p_holds hL hl, bs_e, b1_t (by rw [tI (by omega), show (1 : Int32).toInt = 1 from rfl]; omega), if_neg (show ¬ (1 : Int32) = 0 by decide), ald_n (by omega) (by omega), bs_e, q, bs_e, nI_s]
    by_cases e : M (r1 + 1) (s + j) = oN (lg (ymk G) (gb G) (wm G d) j)
    · rw [if_pos e]
      exact ih (j + 1) f (by omega) (by omega) ((sqn_s _ _ _ _).mpr ⟨hq, e⟩)
    · rw [if_neg e, b1_f]
      intro z
      unfold sqn at z
      rw [decide_eq_true_eq] at z
      exact e (z j (by omega))
theorem isSeen_e {M : fw_M} {G : Nat → Int32} (he : rl_eq M 158 G) (hW : WF G) {r1 L s n d : Nat} (hd : d < 1000) (h1 : 169 ≤ r1) (hL : M r1 2 = nI L) (hl : L ≤ 40) (hs : s + n ≤ L) : ∃ M2, P_Fore_isSeen 157 r1 M (nI d) (nI s) (nI n) = some (b1 (sqn G (d : Int) (fun k => M (r1 + 1) (s + k)) n = true), M2) ∧ ∀ b, (b < 164 ∨ 168 < b) → M2 b = M b := by
  have hfu := fw_fu_ge
  obtain ⟨M2, q1, q2, q3, q4⟩ := lineOf_g he hW (by omega) (w := wm G (d : Int)) (fun i hi => (wm_in hi).1)
  refine ⟨M2, ?_, q4⟩
  have hc := c_seen (M := M2) (r1 := r1) (L := L) (s := s) (n := n) q2 (by rw [q4 r1 (by omega)]; exact hL) hl hs n 0 fw_fu (by omega) (by omega) (by unfold sqn; rw [decide_eq_true_eq]; intro k hk; omega)
  rw [q4 (r1 + 1) (by omega)] at hc
  unfold P_Fore_isSeen P_Fore_isSeen_b0
  rw [show P_Hall_waitingAt (157 + 1) M (nI d) = _ from p_waitingAt he hW (nI d), bs_e, tI (by omega), show P_Fore_lineOf 157 (157 + 1) M (nI (wm G (d : Int))) = some M2 from q1, bs_e]
  exact hc
theorem goSo_e {M : fw_M} {G : Nat → Int32} (h39 : ∀ i, i < 39 → M 205 i = G i) (hW : WF G) {x : Int32} (hx : 0 ≤ x.toInt) {t n : Nat} (ht : t + n ≤ 320) : ∃ M2, P_Mod_goSo 199 M x (nI t) (nI n) = some (b1 (sqn G x.toInt (fun k => M 202 (t + k)) n = true), M2) ∧ ∀ b, b ≠ 205 → b ≠ 208 → M2 b = M b := by
  have hfu := fw_fu_ge
  have key : ∀ (r j f : Nat) (N : fw_M), j + r = n → r < f → SN j (M 205) (N 205) → (∀ b, b ≠ 205 → b ≠ 208 → N b = M b) → ∃ M2, P_Mod_goSo_h6 199 f N x (nI t) (nI n) (b1 (sqn G x.toInt (fun k => M 202 (t + k)) j = true)) (nI j) = some (b1 (sqn G x.toInt (fun k => M 202 (t + k)) n = true), M2) ∧ ∀ b, b ≠ 205 → b ≠ 208 → M2 b = M b := by
    intro r
    induction r with
    | zero =>
      intro j f N hj hf hs hfr
      obtain ⟨f, rfl⟩ : ∃ g, f = g + 1 := ⟨f - 1, by omega⟩
      have e : j = n := by omega
      subst e
      refine ⟨N, ?_, hfr⟩
      show P_Mod_goSo_b6 199 _ N _ _ _ _ _ = _
      unfold P_Mod_goSo_b6
      rw [if_pos ((nI_le2 (by omega) (by omega)).mpr (Nat.le_refl _)), b1_zr, bs_e]
    | succ r ih =>
      intro j f N hj hf hs hfr
      obtain ⟨f, rfl⟩ : ∃ g, f = g + 1 := ⟨f - 1, by omega⟩
      obtain ⟨a1, a2, a3, -⟩ := go_sn h39 hW hs hx
      have hgo : P_Mod_goesAt (199 + 6) N x = some (oM (lg (ymk G) (gb G) (wm G x.toInt) j)) := by
        have := m_goesAt (a := 205) (M := N) a3 hx
        rw [a1] at this
        exact this
      obtain ⟨N2, q1, q2, q3⟩ := m_step (o := 199) (a := 205) (M := N) a3 (by omega)
      have k1 : P_Mod_step 199 (199 + 6) N = _ := q1
      have kI : fw_ald N (199 + 3) 320 (nI (t + j)) = some (M 202 (t + j)) := by rw [ald_n (by omega) (by omega), show N (199 + 3) = M 202 from hfr 202 (by omega) (by omega)]
      obtain ⟨M2, p1, p2⟩ := ih (j + 1) f N2 (by omega) (by omega) ⟨_, hs, q2⟩ (fun b b1 b2 => by rw [q3 b b1 b2, hfr b b1 b2])
      refine ⟨M2, ?_, p2⟩
      show P_Mod_goSo_b6 199 _ N _ _ _ _ _ = _
      unfold P_Mod_goSo_b6 P_Mod_goSo_b40 P_Mod_goSo_b56 P_Mod_goSo_b57
      rw [if_neg (fun z => by have := (nI_le2 (show n < 1000000 by omega) (show j < 1000000 by omega)).mp z; omega), hgo, bs_e, nI_a, kI, k1]
      simp only [bs_e, nI_s, b1_0]
      by_cases hq : sqn G x.toInt (fun k => M 202 (t + k)) j = true
      · rw [if_neg (fun z => z hq)]
        have fin : ∀ v : Int32, v = oN (lg (ymk G) (gb G) (wm G x.toInt) j) → (if v = M 202 (t + j) then P_Mod_goSo_h6 199 f N2 x (nI t) (nI n) 1 (nI (j + 1)) else P_Mod_goSo_h6 199 f N2 x (nI t) (nI n) 0 (nI (j + 1))) = some (b1 (sqn G x.toInt (fun k => M 202 (t + k)) n = true), M2) := by
          intro v hv
          by_cases e : v = M 202 (t + j)
          · rw [if_pos e]
            rw [b1_t ((sqn_s _ _ _ _).mpr ⟨hq, by rw [← hv]; exact e.symm⟩)] at p1
            exact p1
          · rw [if_neg e]
            rw [b1_f (fun z => e (by rw [hv]; exact ((sqn_s _ _ _ _).mp z).2.symm))] at p1
            exact p1
        cases hl : lg (ymk G) (gb G) (wm G x.toInt) j with
        | none =>
          rw [if_pos (show oM none = -1000000 from rfl)]
          exact fin _ (by rw [hl]; rfl)
        | some p =>
          have hp7 := (lg_in hl).1
          rw [if_neg (show ¬ oM (some p) = -1000000 from fun z => by have := congrArg Int32.toInt z; rw [show (oM (some p)).toInt = (p : Int) from tI (by omega), show (-1000000 : Int32).toInt = -1000000 from rfl] at this; omega)]
          exact fin _ (by rw [hl]; rfl)
      · rw [if_pos hq]
        rw [b1_f (fun z => hq ((sqn_s _ _ _ _).mp z).1)] at p1
        exact p1
  unfold P_Mod_goSo P_Mod_goSo_b0
  have h0 : b1 (sqn G x.toInt (fun k => M 202 (t + k)) 0 = true) = 1 := b1_t (by unfold sqn; rw [decide_eq_true_eq]; intro k hk; omega)
  obtain ⟨M2, p1, p2⟩ := key n 0 fw_fu M (by omega) (by omega) rfl (fun _ _ _ => rfl)
  rw [h0] at p1
  exact ⟨M2, p1, p2⟩
