/-! THE CLASS' STEP -/
def MD (g : Nat → Int32) (G : Nat → Bool) (B : Nat → Nat) (h : Nat → Int32) : Prop := (∀ i, i < 4 → h i = g i) ∧ ∀ p, p < gP g → h (4 + 5 * p) = g (4 + 5 * p) ∧ h (5 + 5 * p) = g (5 + 5 * p) ∧ h (6 + 5 * p) = g (6 + 5 * p) ∧ h (7 + 5 * p) = (if G p = true then -1 else g (7 + 5 * p)) ∧ h (8 + 5 * p) = nI (B p)
theorem md_wf {g h : Nat → Int32} {G : Nat → Bool} {B : Nat → Nat} (hW : WF g) (hm : MD g G B h) (hB : ∀ p, p < gP g → B p ≤ 9) : WF h ∧ gP h = gP g ∧ gD h = gD g ∧ gY h = gY g := by
  refine wf_ch hW (fun i hi => hm.1 i (by omega)) fun p hp c hc => ?_
  obtain ⟨a0, a1, a2, a3, a4⟩ := hm.2 p hp
  rcases c_5 hc with rfl | rfl | rfl | rfl | rfl
  · have := cw_of hW hp (c := 0) (by omega)
    rw [show 4 + 5 * p + 0 = 4 + 5 * p by omega] at this ⊢
    rw [a0]
    exact this
  · have := cw_of hW hp (c := 1) (by omega)
    rw [show 4 + 5 * p + 1 = 5 + 5 * p by omega] at this ⊢
    rw [a1]
    exact this
  · have := cw_of hW hp (c := 2) (by omega)
    rw [show 4 + 5 * p + 2 = 6 + 5 * p by omega] at this ⊢
    rw [a2]
    exact this
  · have := cw_of hW hp (c := 3) (by omega)
    rw [show 4 + 5 * p + 3 = 7 + 5 * p by omega] at this ⊢
    rw [a3]
    by_cases z : G p = true
    · rw [if_pos z]
      exact Or.inl rfl
    · rw [if_neg z]
      exact this
  · rw [show 4 + 5 * p + 4 = 8 + 5 * p by omega, a4]
    exact ⟨B p, hB p hp, rfl⟩
theorem md_c {g h : Nat → Int32} {G G2 : Nat → Bool} {B B2 : Nat → Nat} (hm : MD g G B h) (h1 : ∀ p, p < gP g → G2 p = G p) (h2 : ∀ p, p < gP g → B2 p = B p) : MD g G2 B2 h := by
  refine ⟨hm.1, fun p hp => ?_⟩
  rw [h1 p hp, h2 p hp]
  exact hm.2 p hp
def goB (g : Nat → Int32) (j p : Nat) : Nat := if gj g j p = true then 0 else gb g p
theorem p_pass1 {o k : Nat} {g : Nat → Int32} (hW : WF g) (hk : k + 1 < o ∨ o + 6 ≤ k + 1) {M : fw_M} (hL : LR M k (ymk g)) : ∀ (r j f : Nat) (N : fw_M) (h : Nat → Int32), j + r = gD g → r < f → rl_eq N o h → MD g (gj g j) (goB g j) h → (∀ b, (b < o ∨ o + 6 ≤ b) → N b = M b) → ∃ (N2 : fw_M) (h2 : Nat → Int32), P_Hall_pass_h10 o k f N (nI (nm g)) (nI (wcn g j)) (nI j) = P_Hall_pass_h66 o k fw_fu N2 (nI (wcn g (gD g))) 0 ∧ rl_eq N2 o h2 ∧ MD g (gj g (gD g)) (goB g (gD g)) h2 ∧ ∀ b, (b < o ∨ o + 6 ≤ b) → N2 b = M b := by
  have h7 := hW.2.2.1.2.1
  have hD4 := hW.1.2.1
  intro r
  induction r with
  | zero =>
    intro j f N h hj hf he hm hfr
    obtain ⟨f, rfl⟩ : ∃ g, f = g + 1 := ⟨f - 1, by omega⟩
    have hjD : j = gD g := by omega
    subst hjD
    refine ⟨N, h, ?_, he, hm, hfr⟩
    show P_Hall_pass_b10 o k _ N _ _ _ = _
    unfold P_Hall_pass_b10
    rw [he.1 0 (by omega), hm.1 0 (by omega), hW.1.2.2, if_pos ((nI_le2 (by omega) (by omega)).mpr (Nat.le_refl _))]
  | succ r ih =>
    intro j f N h hj hf he hm hfr
    obtain ⟨f, rfl⟩ : ∃ g, f = g + 1 := ⟨f - 1, by omega⟩
    obtain ⟨w1, w2, w3, w4⟩ := md_wf hW hm fun p hp => by
      have := (hW.2.2.2 p hp).2.2.2.2.1
      unfold goB
      split <;> omega
    have hLN : LR N k (ymk g) := fun i hi => by rw [hfr (k + 1) hk]; exact hL i hi
    have hwm : wm h (j : Int) = wm g (j : Int) := by
      refine bx fun i => ?_
      unfold wm
      rw [mk_b, mk_b, w2]
      by_cases hi : i < gP g
      · have e : gd h i = if gj g j i = true then -1 else gd g i := by
          unfold gd
          rw [(hm.2 i hi).2.2.2.1]
          split <;> rfl
        rw [e]
        by_cases z : gj g j i = true
        · have z2 : gd g i < (j : Int) := by
            unfold gj at z
            simp only [Bool.and_eq_true, decide_eq_true_eq] at z
            omega
          rw [if_pos z]
          have : ¬ gd g i = (j : Int) := by omega
          simp [this]
        · rw [if_neg z]
      · simp [hi]
    have hfirst : P_Law_first k N (nI (wm g (j : Int))) (nI (nm g)) = some (oN (go g (j : Int))) := p_first hLN (wm_128 hW _) (nm_128 hW)
    show ∃ (N2 : fw_M) (h2 : Nat → Int32), P_Hall_pass_b10 o k _ N _ _ _ = _ ∧ _
    unfold P_Hall_pass_b10 P_Hall_pass_b57
    rw [he.1 0 (by omega), hm.1 0 (by omega), hW.1.2.2, if_neg (fun z => by have := (nI_le2 (show gD g < 1000000 by omega) (show j < 1000000 by omega)).mp z; omega), p_waitingAt he w1, bs_e, tI (by omega), hwm, hfirst, bs_e, nI_s]
    cases hg : go g (j : Int) with
    | none =>
      rw [if_pos (show oN none = -1 from rfl)]
      have hwc : wcn g (j + 1) = wcn g j := by simp [wcn, hg]
      have hgj : ∀ p, gj g (j + 1) p = gj g j p := fun p => by rw [gj_s, hg]; simp
      have nxt := ih (j + 1) f N h (by omega) (by omega) he (md_c hm (fun p _ => hgj p) (fun p _ => by unfold goB; rw [hgj])) hfr
      rw [hwc] at nxt
      exact nxt
    | some q =>
      obtain ⟨hq, hqd⟩ := go_d hg
      rw [if_neg (show ¬ oN (some q) = -1 from nI_m1 (by omega)), show oN (some q) = nI q from rfl, show fw_ast N (o + 4) 7 (nI q) (-1) = some (fw_set N (o + 4) q (-1)) from ast_n (by omega) (by omega), bs_e, show fw_ast (fw_set N (o + 4) q (-1)) (o + 5) 7 (nI q) 0 = some (fw_set (fw_set N (o + 4) q (-1)) (o + 5) q 0) from ast_n (by omega) (by omega), bs_e, nI_s]
      have hwc : wcn g (j + 1) = wcn g j + 1 := by simp [wcn, hg]
      have he2 : rl_eq (fw_set N (o + 4) q (-1)) o (upd h (4 + 5 * q + 3) (-1)) := eq_up he (c := 3) (by omega) (-1)
      have he3 : rl_eq (fw_set (fw_set N (o + 4) q (-1)) (o + 5) q 0) o (upd (upd h (4 + 5 * q + 3) (-1)) (4 + 5 * q + 4) 0) := eq_up he2 (c := 4) (by omega) 0
      have e : ∀ i, i ≠ 4 + 5 * q + 3 → i ≠ 4 + 5 * q + 4 → upd (upd h (4 + 5 * q + 3) (-1)) (4 + 5 * q + 4) 0 i = h i := fun i h1 h2 => by rw [up_n h2, up_n h1]
      have nxt := ih (j + 1) f _ _ (by omega) (by omega) he3 ⟨fun i hi => by rw [e i (by omega) (by omega)]; exact hm.1 i hi, fun p hp => by
        obtain ⟨a0, a1, a2, a3, a4⟩ := hm.2 p hp
        rw [e _ (by omega) (by omega), e _ (by omega) (by omega), e _ (by omega) (by omega)]
        refine ⟨a0, a1, a2, ?_⟩
        by_cases hpq : p = q
        · subst hpq
          have hgj : gj g (j + 1) p = true := by rw [gj_s, hg]; simp
          unfold goB
          rw [hgj, if_pos rfl, if_pos rfl]
          exact ⟨by rw [up_n (by omega), show 7 + 5 * p = 4 + 5 * p + 3 by omega, up_e], by rw [show 8 + 5 * p = 4 + 5 * p + 4 by omega, up_e]; rfl⟩
        · have hgj : gj g (j + 1) p = gj g j p := by
            rw [gj_s, hg]
            simp [Ne.symm hpq]
          unfold goB at a4 ⊢
          rw [hgj, e _ (by omega) (by omega), e _ (by omega) (by omega)]
          exact ⟨a3, a4⟩⟩ (fun b hb => by rw [st_n (by omega), st_n (by omega)]; exact hfr b hb)
      rw [hwc] at nxt
      exact nxt
def pasB (g : Nat → Int32) (j p : Nat) : Nat := if gone g p = true then 0 else if p < j then gb g p - 1 else gb g p
theorem max_0 : ∀ b, b < 10 → (if (0 : Int32) < nI b - 1 then nI b - 1 else 0) = nI (b - 1) := by decide
theorem p_pass2 {o k : Nat} {g : Nat → Int32} (hW : WF g) {M : fw_M} {x : Int32} : ∀ (r j f : Nat) (N : fw_M) (h : Nat → Int32), j + r = gP g → r < f → rl_eq N o h → MD g (gone g) (pasB g j) h → (∀ b, (b < o ∨ o + 6 ≤ b) → N b = M b) → ∃ (N2 : fw_M) (h2 : Nat → Int32), P_Hall_pass_h66 o k f N x (nI j) = some (x, N2) ∧ ST g h2 ∧ rl_eq N2 o h2 ∧ ∀ b, (b < o ∨ o + 6 ≤ b) → N2 b = M b := by
  have h7 := hW.2.2.1.2.1
  intro r
  induction r with
  | zero =>
    intro j f N h hj hf he hm hfr
    obtain ⟨f, rfl⟩ : ∃ g, f = g + 1 := ⟨f - 1, by omega⟩
    have hjP : j = gP g := by omega
    subst hjP
    refine ⟨fw_set N o 3 (N o 3 + 1), upd h 3 (h 3 + 1), ?_, ⟨fun i hi => ?_, ?_, fun p hp => ?_⟩, ?_, fun b hb => by rw [st_n (by omega)]; exact hfr b hb⟩
    · show P_Hall_pass_b66 o k _ N _ _ = _
      unfold P_Hall_pass_b66
      rw [he.1 2 (by omega), hm.1 2 (by omega), hW.2.2.1.2.2, if_pos ((nI_le2 (by omega) (by omega)).mpr (Nat.le_refl _)), pl_e]
    · rw [up_n (by omega)]
      exact hm.1 i (by omega)
    · rw [up_e, hm.1 3 (by omega)]
    · obtain ⟨a0, a1, a2, a3, a4⟩ := hm.2 p hp
      rw [up_n (by omega), up_n (by omega), up_n (by omega), up_n (by omega), up_n (by omega)]
      refine ⟨a0, a1, a2, a3, ?_⟩
      rw [a4]
      unfold pasB
      rw [if_pos hp]
    · have hP2 : gP (upd h 3 (h 3 + 1)) = gP h := by unfold gP; rw [up_n (by omega)]
      rw [eq_iff] at he ⊢
      rw [hP2]
      refine ⟨fun i hi => ?_, fun p hp c hc => ?_⟩
      · rw [st_e]
        by_cases e : i = 3
        · subst e
          rw [up_e, up_e, he.1 3 (by omega)]
        · rw [up_n e, up_n e]
          exact he.1 i hi
      · rw [st_n (by omega), up_n (by omega)]
        exact he.2 p hp c hc
  | succ r ih =>
    intro j f N h hj hf he hm hfr
    obtain ⟨f, rfl⟩ : ∃ g, f = g + 1 := ⟨f - 1, by omega⟩
    have hPh : gP h = gP g := by unfold gP; rw [hm.1 2 (by omega)]
    have hb := (hW.2.2.2 j (by omega)).2.2.2.2.1
    have hB : pasB g j j ≤ 9 := by
      unfold pasB
      split
      · omega
      · rw [if_neg (by omega)]; exact hb
    have e5 : N (o + 5) j = nI (pasB g j j) := by
      have := (he.2 j (by rw [show (h 2).toNatClampNeg = gP h from rfl, hPh]; omega)).2.2.2.2
      rw [this, (hm.2 j (by omega)).2.2.2.2]
    have he2 : rl_eq (fw_set N (o + 5) j (nI (pasB g j j - 1))) o (upd h (4 + 5 * j + 4) (nI (pasB g j j - 1))) := eq_up he (c := 4) (by omega) _
    have nxt := ih (j + 1) f _ _ (by omega) (by omega) he2 ⟨fun i hi => by rw [up_n (by omega)]; exact hm.1 i hi, fun p hp => by
      obtain ⟨a0, a1, a2, a3, a4⟩ := hm.2 p hp
      rw [up_n (by omega), up_n (by omega), up_n (by omega), up_n (by omega)]
      refine ⟨a0, a1, a2, a3, ?_⟩
      by_cases hpj : p = j
      · subst hpj
        rw [show 8 + 5 * p = 4 + 5 * p + 4 by omega, up_e]
        refine congrArg nI ?_
        unfold pasB
        by_cases z : gone g p = true
        · rw [if_pos z, if_pos z]
        · rw [if_neg z, if_neg z, if_neg (show ¬ p < p by omega), if_pos (show p < p + 1 by omega)]
      · rw [up_n (by omega), a4]
        refine congrArg nI ?_
        unfold pasB
        simp only [show p < j + 1 ↔ p < j by omega]⟩ (fun b hb => by rw [st_n (by omega)]; exact hfr b hb)
    show ∃ (N2 : fw_M) (h2 : Nat → Int32), P_Hall_pass_b66 o k _ N _ _ = _ ∧ _
    unfold P_Hall_pass_b66
    rw [he.1 2 (by omega), hm.1 2 (by omega), hW.2.2.1.2.2, if_neg (fun z => by have := (nI_le2 (show gP g < 1000000 by omega) (show j < 1000000 by omega)).mp z; omega), show fw_ald N (o + 5) 7 (nI j) = some (nI (pasB g j j)) by rw [ald_n (by omega) (by omega), e5], bs_e, max_0 _ (by omega), show fw_ast N (o + 5) 7 (nI j) (nI (pasB g j j - 1)) = some (fw_set N (o + 5) j (nI (pasB g j j - 1))) from ast_n (by omega) (by omega), bs_e, nI_s]
    exact nxt
theorem st_u {g h h2 : Nat → Int32} (hs : ST g h) (hs2 : ST g h2) {M : fw_M} {o : Nat} (he : rl_eq M o h) : rl_eq M o h2 := by
  have hP : gP h = gP g := st_P hs
  have hP2 : gP h2 = gP g := st_P hs2
  refine ⟨fun i hi => ?_, fun p hp => ?_⟩
  · rw [he.1 i hi]
    by_cases e : i = 3
    · subst e
      rw [hs.2.1, hs2.2.1]
    · rw [hs.1 i (by omega), hs2.1 i (by omega)]
  · have hp2 : p < gP g := by rw [← hP2]; exact hp
    obtain ⟨a0, a1, a2, a3, a4⟩ := hs.2.2 p hp2
    obtain ⟨b0, b1, b2, b3, b4⟩ := hs2.2.2 p hp2
    obtain ⟨c0, c1, c2, c3, c4⟩ := he.2 p (by show p < gP h; rw [hP]; exact hp2)
    exact ⟨by rw [c0, a0, b0], by rw [c1, a1, b1], by rw [c2, a2, b2], by rw [c3, a3, b3], by rw [c4, a4, b4]⟩
theorem p_pass {o k : Nat} {g h : Nat → Int32} {M : fw_M} (he : rl_eq M o g) (hW : WF g) (hk : k + 1 < o ∨ o + 6 ≤ k + 1) (hL : LR M k (ymk g)) (hs : ST g h) : ∃ M2, P_Hall_pass o k M = some (nI (wcn g (gD g)), M2) ∧ rl_eq M2 o h ∧ ∀ b, (b < o ∨ o + 6 ≤ b) → M2 b = M b := by
  have hfu := fw_fu_ge
  have h7 := hW.2.2.1.2.1
  have hD4 := hW.1.2.1
  obtain ⟨N1, h1, q1, q2, q3, q4⟩ := p_pass1 hW hk hL (gD g) 0 fw_fu M g (by omega) (by omega) he ⟨fun _ _ => rfl, fun p hp => by
    unfold goB
    rw [gj_0, if_neg (by simp), if_neg (by simp)]
    exact ⟨rfl, rfl, rfl, rfl, (hW.2.2.2 p hp).2.2.2.2.2⟩⟩ (fun _ _ => rfl)
  obtain ⟨N2, h2, p1, p2, p3, p4⟩ := p_pass2 (k := k) hW (M := M) (x := nI (wcn g (gD g))) (gP g) 0 fw_fu N1 h1 (by omega) (by omega) q2 (md_c q3 (fun p hp => (gj_D hW hp).symm) (fun p hp => by
    unfold goB pasB
    rw [gj_D hW hp, if_neg (show ¬ p < 0 by omega)])) q4
  refine ⟨N2, ?_, st_u p2 hs p3, p4⟩
  unfold P_Hall_pass P_Hall_pass_b0
  rw [p_nobodies he hW, bs_e]
  exact q1.trans p1
/-! STEPS -/
theorem rl_walk {Mc Mr Mc2 Mr2 : fw_M} (hR : rl Mc Mr) (hc : ∀ b, (b < 4 ∨ 10 ≤ b) → Mc2 b = Mc b) (hr : ∀ b, b ≠ 203 → b ≠ 208 → Mr2 b = Mr b) (hh : rl_hall Mc2 4 (Mr2 203)) : rl Mc2 Mr2 := by
  obtain ⟨a1, a2, a3, a4, a5, a6, a7, a8⟩ := hR
  refine ⟨by rw [hc 0 (by omega), hr 199 (by omega) (by omega)]; exact a1, by rw [hc 0 (by omega), hr 199 (by omega) (by omega)]; exact a2, ?_, ?_, hh, ?_, ?_, ?_⟩
  · exact fr_rows a3 (fun k _ _ => hc k (by omega)) (hr _ (by omega) (by omega)) (hr _ (by omega) (by omega)) (hr _ (by omega) (by omega))
  · exact fr_tape a4 (by rw [hc 2 (by omega)]) (hc 3 (by omega)) (by rw [hr 199 (by omega) (by omega)]) (hr _ (by omega) (by omega))
  · exact fr_acts a6 (fun k _ _ => hc k (by omega)) (by rw [hr 199 (by omega) (by omega)]) (hr _ (by omega) (by omega))
  · exact fr_imgs a7 (fun k _ _ => hc k (by omega)) (hr _ (by omega) (by omega)) (hr _ (by omega) (by omega))
  · exact fr_trace a8 (by rw [hc 169 (by omega)]) (hc 170 (by omega)) (by rw [hr 199 (by omega) (by omega)]) (hr _ (by omega) (by omega))
theorem st_S {g h : Nat → Int32} (hs : ST g h) (h3 : g 3 = nI (gS g)) (h999 : gS g < 1000) : h 3 = nI (gS g + 1) ∧ gS h = gS g + 1 := by
  have e : h 3 = nI (gS g + 1) := by rw [hs.2.1, h3, nI_s]
  refine ⟨e, ?_⟩
  unfold gS at e ⊢
  rw [e, tC (by unfold gS at h999; omega)]
theorem st_ymk {g h : Nat → Int32} (hs : ST g h) : ymk h = ymk g := ymk_c (st_P hs) fun _ _ hp hq => st_yl hs hp hq
theorem s_loop {n : Nat} (hn : n ≤ 100) : ∀ (r j f : Nat) (w : Int32) (N Nr : fw_M), j + r = n → r < f → rl N Nr → 0 < gP (Nr 203) → LR N 164 (ymk (Nr 203)) → gS (Nr 203) + r ≤ 999 → ∃ (v : Int32) (N2 Nr2 : fw_M), P_Door_steps_h54 0 f N (nI n) w (nI j) = some (v, N2) ∧ P_Mod_steps_h51 199 f Nr (nI n) w (nI j) = some (v, Nr2) ∧ rl N2 Nr2 := by
  intro r
  induction r with
  | zero =>
    intro j f w N Nr hj hf hR hP hL hS
    obtain ⟨f, rfl⟩ : ∃ g, f = g + 1 := ⟨f - 1, by omega⟩
    refine ⟨w, N, Nr, ?_, ?_, hR⟩
    · show P_Door_steps_b54 0 _ N _ _ _ = _
      unfold P_Door_steps_b54
      rw [if_pos ((nI_le2 (by omega) (by omega)).mpr (by omega))]
    · show P_Mod_steps_b51 199 _ Nr _ _ _ = _
      unfold P_Mod_steps_b51
      rw [if_pos ((nI_le2 (by omega) (by omega)).mpr (by omega))]
  | succ r ih =>
    intro j f w N Nr hj hf hR hP hL hS
    obtain ⟨f, rfl⟩ : ∃ g, f = g + 1 := ⟨f - 1, by omega⟩
    obtain ⟨M2, M3, k1, k2, k3, k4, -, k6⟩ := keep_e hR hP
    obtain ⟨he, hW, hS9, h3⟩ := hall_E k3 (by rw [k4]; exact hP)
    obtain ⟨M4, s1, s2, s3⟩ := m_step (o := 199) (a := 203) (M := M3) hW (by omega)
    obtain ⟨N4, p1, p2, p3⟩ := p_pass (o := 4) (k := 164) he hW (by omega) (fun i hi => by rw [k6 165 (by omega) (by omega), k4]; exact hL i hi) s2
    have hst := st_S s2 h3 (by omega)
    have hR4 : rl N4 M4 := rl_walk k3 (fun b hb => p3 b (by omega)) (fun b b1 b2 => s3 b b1 b2) (Or.inr ⟨p2, wf_to (st_wf hW s2) (by rw [hst.2, k4]; omega) (by rw [hst.1, hst.2])⟩)
    have hL4 : LR N4 164 (ymk (M4 203)) := fun i hi => by
      rw [st_ymk s2, k4, p3 165 (by omega), k6 165 (by omega) (by omega)]
      exact hL i hi
    obtain ⟨v, N5, M5, t1, t2, t3⟩ := ih (j + 1) f (w + nI (wcn (M3 203) (gD (M3 203)))) N4 M4 (by omega) (by omega) hR4 (by rw [st_P s2, k4]; exact hP) hL4 (by rw [hst.2, k4]; omega)
    refine ⟨v, N5, M5, ?_, ?_, t3⟩
    · show P_Door_steps_b54 0 _ N _ _ _ = _
      unfold P_Door_steps_b54
      rw [if_neg (fun z => by have := (nI_le2 (show n < 1000000 by omega) (show j < 1000000 by omega)).mp z; omega), show P_Acts_keep (0 + 10) (0 + 4) N = some M2 from k1, bs_e, show P_Hall_pass (0 + 4) (0 + 157 + 7) M2 = _ from p1, bs_e, pl_e, nI_s]
      exact t1
    · show P_Mod_steps_b51 199 _ Nr _ _ _ = _
      unfold P_Mod_steps_b51
      rw [if_neg (fun z => by have := (nI_le2 (show n < 1000000 by omega) (show j < 1000000 by omega)).mp z; omega), k2, bs_e, show P_Mod_step 199 (199 + 4) M3 = _ from s1, bs_e, pl_e, nI_s]
      exact t2
theorem p_wn (M : fw_M) (x : Int32) {lo hi : Int32} {m n : Int} (h1 : lo.toInt = m) (h2 : hi.toInt = n) : P_Door_within M x lo hi = some (b1 (m ≤ x.toInt ∧ x.toInt ≤ n)) := by
  subst h1
  subst h2
  exact p_within M x lo hi
theorem p_inn (M : fw_M) (x : Int32) {lo hi : Int64} {m n : Int} (h1 : lo.toInt = m) (h2 : hi.toInt = n) : P_Mod_in M (Int32.toInt64 x) lo hi = some (b1 (m ≤ x.toInt ∧ x.toInt ≤ n)) := by
  subst h1
  subst h2
  rw [p_in]
  exact congrArg some (b1_c (by rw [Int32.toInt_toInt64]))
theorem ow_steps {Mc Mr : fw_M} (hR : rl Mc Mr) (a0 : Int32) : ∃ (r : Int32) (Mc2 Mr2 : fw_M), P_Door_steps 0 Mc a0 = some (r, Mc2) ∧ P_Mod_steps 199 Mr a0 = some (r, Mr2) ∧ rl Mc2 Mr2 := by
  have hfu := fw_fu_ge
  unfold P_Door_steps P_Door_steps_b0 P_Mod_steps P_Mod_steps_b0
  have hR2 := rl_thrown hR 0
  have hG : fw_set Mr 199 0 0 203 = Mr 203 := st_n (by omega)
  obtain ⟨e1, e2, e3, e4, h7, hd4, hPD, e5⟩ := hall_P hR
  simp only [pl_e]
  rw [p_wn Mc a0 (lo := 1) (hi := 24) (m := 1) (n := 24) rfl rfl, m_isThere (o := 199) (by rw [hG]; exact e4) (by omega), p_inn _ a0 (lo := 1) (hi := 24) (m := 1) (n := 24) rfl rfl, show fw_ald (fw_set Mr 199 0 0) (199 + 4) 39 (3 : Int32) = some (Mr 203 3) by rw [show (3 : Int32) = nI 3 from rfl, ald_n (by omega) (by omega), show fw_set Mr 199 0 0 (199 + 4) = Mr 203 from hG]]
  simp only [p_refusal (o := 0) e1 (show gP (Mr 203) < 1000 by omega), bs_e, b1_0]
  rw [show Mc (0 + 4) 3 = Mr 203 3 from e5]
  by_cases hP : gP (Mr 203) = 0
  · have hD := hPD.mp hP
    rw [if_pos hP, if_pos (show ¬ 0 < gD (Mr 203) by omega), if_neg (by decide)]
    exact ⟨_, _, _, rfl, rfl, hR2⟩
  · obtain ⟨he, hW, hS9, h3⟩ := hall_E hR (by omega)
    rw [if_neg (show ¬ ¬ 0 < gD (Mr 203) by omega), if_neg hP]
    by_cases h0 : 1 ≤ a0.toInt ∧ a0.toInt ≤ 24
    · simp only [h0, and_self, not_true, if_false, if_true]
      obtain ⟨n, hn, rfl⟩ : ∃ n : Nat, n ≤ 24 ∧ a0 = nI n := ⟨a0.toInt.toNat, by omega, eq_nI (by omega)⟩
      by_cases hF : Mr 203 3 + nI n ≤ 999
      · rw [if_pos hF, if_pos hF]
        have hS : gS (Mr 203) + n ≤ 999 := by
          rw [h3, nI_a] at hF
          exact (nI_le2 (a := gS (Mr 203) + n) (b := 999) (by omega) (by omega)).mp hF
        obtain ⟨M2, l1, l2, l3, -⟩ := lawOf_e hR2 (by rw [hG]; omega)
        rw [show P_Fore_lawOf (0 + 157) (0 + 4) Mc = some M2 from l1, bs_e]
        exact s_loop (by omega) n 0 fw_fu 0 M2 (fw_set Mr 199 0 0) (by omega) (by omega) l3 (by rw [hG]; omega) l2 (by rw [hG]; exact hS)
      · rw [if_neg hF, if_neg hF]
        exact ⟨_, _, _, rfl, rfl, hR2⟩
    · simp only [h0, not_false_iff, if_true, if_neg (show ¬ (-1000001 : Int32) = 0 by decide)]
      exact ⟨_, _, _, rfl, rfl, hR2⟩
