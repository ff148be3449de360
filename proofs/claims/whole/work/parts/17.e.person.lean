/-! A PERSON on both sides -/
noncomputable def rP3 (k u v : Int32) (q5 : fw_M) : Option fw_M := (fw_ald q5 (199 + 5) 39 (0 : Int32)).bind fun v6 => (P_Mod_number 199 q5 (0 : Int32) (v6 - (1 : Int32))).bind fun q7 => (P_Mod_mustSign 199 q7.2 (59 : Int32)).bind fun q8 => (if (q8 199 16) = (0 : Int32) then (fw_ald q8 (199 + 5) 39 (2 : Int32)).bind fun v10 => fw_pl (((4 : Int32) + ((5 : Int32) * v10))) fun y11 => (fw_ast q8 (199 + 5) 39 y11 k).bind fun M12 => (fw_ast M12 (199 + 5) 39 (y11 + (1 : Int32)) u).bind fun M13 => (fw_ast M13 (199 + 5) 39 (y11 + (2 : Int32)) v).bind fun M14 => (fw_ast M14 (199 + 5) 39 (y11 + (3 : Int32)) q7.1).bind fun M15 => (fw_ald M15 (199 + 5) 39 (2 : Int32)).bind fun v16 => (fw_ast M15 (199 + 5) 39 (2 : Int32) (v16 + (1 : Int32))).bind fun M17 => P_Mod_readPerson_b146 199 M17 else P_Mod_readPerson_b146 199 q8)
noncomputable def rP2 (k u : Int32) (q3 : fw_M) : Option fw_M := (P_Mod_number 199 q3 (0 : Int32) (9 : Int32)).bind fun q4 => (P_Mod_mustSign 199 q4.2 (44 : Int32)).bind fun q5 => rP3 k u q4.1 q5
noncomputable def rP1 (k : Int32) (q1 : fw_M) : Option fw_M := (P_Mod_number 199 q1 (0 : Int32) (9 : Int32)).bind fun q2 => (P_Mod_mustSign 199 q2.2 (44 : Int32)).bind fun q3 => rP2 k q2.1 q3
theorem rP_e (M : fw_M) (k : Int32) : P_Mod_readPerson_b24 199 M k = (P_Mod_must 199 M 1).bind fun q1 => rP1 k q1 := rfl
theorem bd_16 {M0 M : fw_M} {f q : Nat} (h : BDs M0 M f q) (hf : 0 < f) (hf2 : f < 10) : ¬ M 199 16 = 0 := by
  rw [h.2.1]
  exact fun z => by have := (nI_e0 (show f < 1000000 by omega)).mp z; omega
theorem rP3_B {M0 M : fw_M} {f q : Nat} (h : BDs M0 M f q) (hf : 0 < f) (hf2 : f < 10) (k u v : Int32) : rP3 k u v M = some M := by
  unfold rP3
  rw [show fw_ald M (199 + 5) 39 (0 : Int32) = some (M 204 0) from ald_n (j := 0) (by omega) (by omega), bs_e, r_numB h hf hf2, bs_e]
  simp only
  rw [r_signB h hf hf2, bs_e, if_neg (bd_16 h hf hf2)]
  rfl
theorem rP2_B {M0 M : fw_M} {f q : Nat} (h : BDs M0 M f q) (hf : 0 < f) (hf2 : f < 10) (k u : Int32) : rP2 k u M = some M := by
  unfold rP2
  rw [r_numB h hf hf2, bs_e]
  simp only
  rw [r_signB h hf hf2, bs_e, rP3_B h hf hf2]
theorem rP1_B {M0 M : fw_M} {f q : Nat} (h : BDs M0 M f q) (hf : 0 < f) (hf2 : f < 10) (k : Int32) : rP1 k M = some M := by
  unfold rP1
  rw [r_numB h hf hf2, bs_e]
  simp only
  rw [r_signB h hf hf2, bs_e, rP2_B h hf hf2]
/-- where the class lets one in -/
theorem c_admit {N : fw_M} {P : Nat} (h2 : N 158 2 = nI P) (hP : P < 7) (k u v d : Int32) : ∃ N2, P_Hall_admit 158 N k u v d = some N2 ∧ N2 158 = upd (N 158) 2 (nI (P + 1)) ∧ N2 159 = upd (N 159) P k ∧ N2 160 = upd (N 160) P u ∧ N2 161 = upd (N 161) P v ∧ N2 162 = upd (N 162) P d ∧ N2 163 = upd (N 163) P 0 ∧ ∀ b, (b < 158 ∨ 163 < b) → N2 b = N b := by
  have e : ∀ (M : fw_M) (a : Nat) (w : Int32), fw_ast M a 7 (nI P) w = some (fw_set M a P w) := fun M a w => ast_n hP (by omega)
  unfold P_Hall_admit P_Hall_admit_b0
  rw [h2, if_pos (show nI P < 7 from (nI_lt2 (a := P) (b := 7) (by omega) (by omega)).mpr hP), e, bs_e, show fw_set N (158 + 1) P k 158 2 = nI P from h2, e, bs_e, show fw_set (fw_set N (158 + 1) P k) (158 + 2) P u 158 2 = nI P from h2, e, bs_e, show fw_set (fw_set (fw_set N (158 + 1) P k) (158 + 2) P u) (158 + 3) P v 158 2 = nI P from h2, e, bs_e, show fw_set (fw_set (fw_set (fw_set N (158 + 1) P k) (158 + 2) P u) (158 + 3) P v) (158 + 4) P d 158 2 = nI P from h2, e, bs_e, show fw_set (fw_set (fw_set (fw_set (fw_set N (158 + 1) P k) (158 + 2) P u) (158 + 3) P v) (158 + 4) P d) (158 + 5) P 0 158 2 = nI P from h2, nI_s, pl_e]
  refine ⟨_, rfl, ?_, ?_, ?_, ?_, ?_, ?_, fun b hb => ?_⟩
  · rw [st_e, st_n (by omega), st_n (by omega), st_n (by omega), st_n (by omega), st_n (by omega)]
  · rw [st_n (by omega), st_n (by omega), st_n (by omega), st_n (by omega), st_n (by omega), st_e]
  · rw [st_n (by omega), st_n (by omega), st_n (by omega), st_n (by omega), st_e, st_n (by omega)]
  · rw [st_n (by omega), st_n (by omega), st_n (by omega), st_e, st_n (by omega), st_n (by omega)]
  · rw [st_n (by omega), st_n (by omega), st_e, st_n (by omega), st_n (by omega), st_n (by omega)]
  · rw [st_n (by omega), st_e, st_n (by omega), st_n (by omega), st_n (by omega), st_n (by omega)]
  · rw [st_n (by omega), st_n (by omega), st_n (by omega), st_n (by omega), st_n (by omega), st_n (by omega)]
theorem inv_s {N N2 : fw_M} {g h : Nat → Int32} {D P k u v d : Nat} (hI : INV N g D P) (hP : P < 7) (hk : 1 ≤ k ∧ k ≤ 5) (hu : u ≤ 9) (hv : v ≤ 9) (hd : d < D) (n0 : N2 158 = upd (N 158) 2 (nI (P + 1))) (n1 : N2 159 = upd (N 159) P (nI k)) (n2 : N2 160 = upd (N 160) P (nI u)) (n3 : N2 161 = upd (N 161) P (nI v)) (n4 : N2 162 = upd (N 162) P (nI d)) (n5 : N2 163 = upd (N 163) P 0) (hh : h = upd (upd (upd (upd (upd g (4 + 5 * P) (nI k)) (4 + 5 * P + 1) (nI u)) (4 + 5 * P + 2) (nI v)) (4 + 5 * P + 3) (nI d)) 2 (nI (P + 1))) : INV N2 h D (P + 1) := by
  obtain ⟨Y, ⟨h1, h2, h3, h4, h5⟩, ⟨i0, i1, i2, i3⟩, h7, h8, h9⟩ := hI
  have e : ∀ i, i ≠ 2 → i ≠ 4 + 5 * P → i ≠ 4 + 5 * P + 1 → i ≠ 4 + 5 * P + 2 → i ≠ 4 + 5 * P + 3 → h i = g i := fun i a b c d e => by rw [hh, up_n a, up_n e, up_n d, up_n c, up_n b]
  have e2 : h 2 = nI (P + 1) := by rw [hh, up_e]
  have k0 : h (4 + 5 * P) = nI k := by rw [hh, up_n (by omega), up_n (by omega), up_n (by omega), up_n (by omega), up_e]
  have k1 : h (4 + 5 * P + 1) = nI u := by rw [hh, up_n (by omega), up_n (by omega), up_n (by omega), up_e]
  have k2 : h (4 + 5 * P + 2) = nI v := by rw [hh, up_n (by omega), up_n (by omega), up_e]
  have k3 : h (4 + 5 * P + 3) = nI d := by rw [hh, up_n (by omega), up_e]
  have k4 : h (4 + 5 * P + 4) = 0 := by rw [e _ (by omega) (by omega) (by omega) (by omega) (by omega), h9 _ (by omega) (by omega)]
  refine ⟨Y, ⟨h1, h2, h3, h4, by omega⟩, ⟨by rw [e 0 (by omega) (by omega) (by omega) (by omega) (by omega)]; exact i0, by rw [e 1 (by omega) (by omega) (by omega) (by omega) (by omega)]; exact i1, e2, by rw [e 3 (by omega) (by omega) (by omega) (by omega) (by omega)]; exact i3⟩, fun i hi => ?_, fun p hp c hc => ?_, fun i hi hi2 => ?_⟩
  · rw [n0]
    by_cases z : i = 2
    · subst z
      rw [up_e, e2]
    · rw [up_n z, e i z (by omega) (by omega) (by omega) (by omega)]
      exact h7 i hi
  · by_cases z : p = P
    · subst z
      rcases c_5 hc with rfl | rfl | rfl | rfl | rfl
      · rw [show 4 + 5 * p + 0 = 4 + 5 * p by omega, k0]
        exact ⟨⟨k, hk.1, hk.2, rfl⟩, by show N2 159 p = _; rw [n1, up_e]⟩
      · rw [k1]
        exact ⟨⟨u, hu, rfl⟩, by show N2 160 p = _; rw [n2, up_e]⟩
      · rw [k2]
        exact ⟨⟨v, hv, rfl⟩, by show N2 161 p = _; rw [n3, up_e]⟩
      · rw [k3]
        exact ⟨Or.inr ⟨d, hd, rfl⟩, by show N2 162 p = _; rw [n4, up_e]⟩
      · rw [k4]
        exact ⟨⟨0, by omega, rfl⟩, by show N2 163 p = _; rw [n5, up_e]⟩
    · rw [e _ (by omega) (by omega) (by omega) (by omega) (by omega)]
      obtain ⟨a, b⟩ := h8 p (by omega) c hc
      refine ⟨a, ?_⟩
      rw [← b]
      rcases c_5 hc with rfl | rfl | rfl | rfl | rfl
      · show N2 159 p = N 159 p
        rw [n1, up_n z]
      · show N2 160 p = N 160 p
        rw [n2, up_n z]
      · show N2 161 p = N 161 p
        rw [n3, up_n z]
      · show N2 162 p = N 162 p
        rw [n4, up_n z]
      · show N2 163 p = N 163 p
        rw [n5, up_n z]
  · rw [e i (by omega) (by omega) (by omega) (by omega) (by omega)]
    exact h9 i (by omega) hi2
theorem per_e {t : Nat → Nat} {L : Nat} {Mc N M0 M : fw_M} {p D P : Nat} (hC : TPc t L Mc) (hT : TP t L M0) (hF : CFb Mc N) (hp : N 2 2 = nI p) (hO : OKs t L M0 M p) (hI : INV N (M 204) D P) (hs : 0 < srp t L p) : (∃ (f q : Nat) (N2 M2 : fw_M), 0 < f ∧ f < 10 ∧ P_Tape_readPerson 2 158 N = some (0, N2) ∧ CFb Mc N2 ∧ N2 2 2 = nI q ∧ N2 2 3 = nI f ∧ P_Mod_readPerson 199 M = some M2 ∧ BDs M0 M2 f q) ∨ ∃ (q : Nat) (N2 M2 : fw_M), P_Tape_readPerson 2 158 N = some (1, N2) ∧ CFb Mc N2 ∧ N2 2 2 = nI q ∧ P_Mod_readPerson 199 M = some M2 ∧ OKs t L M0 M2 q ∧ INV N2 (M2 204) D (P + 1) ∧ P < 7 := by
  have hL := hC.1
  have hpL := hO.2.2.2
  have hpl : p < L := by
    by_cases z : p < L
    · exact z
    · unfold srp at hs
      rw [if_neg z] at hs
      omega
  have hse : srp t L p = srt (t p) := if_pos hpl
  rw [hse] at hs
  have hsc := srt_c hs
  have h256 := (hT.2.2 p hpl).2
  obtain ⟨Y, ⟨b1', b2', b3', b4', b5'⟩, ⟨i0, i1, i2, i3⟩, i4, i5, i6⟩ := id hI
  have hN2 : N 158 2 = nI P := by rw [i4 2 (by omega), i2]
  have hN0 : N 158 0 = nI D := by rw [i4 0 (by omega), i0]
  have hfn : ¬ fig (t p) = true := fun z => by have := fig_b z; omega
  have hv15 : M 199 15 = nI (t p) := by
    rw [hO.2.2.1.2.2.1]
    unfold tkV
    rw [if_neg (by omega), if_neg hfn]
  have hk : P_Mod_kindBy M (M 199 15) = some (nI (srt (t p))) := by rw [hv15, kindBy_e M (by omega), if_neg (by omega)]
  have hcl : P_Tape_kindTold N (if p < L then nI (t p) else -1) = some (nI (srt (t p))) := by rw [c_kind N (L := L) (fun _ => h256), hse]
  have hM2 : fw_ald M (199 + 5) 39 (2 : Int32) = some (nI P) := by rw [show fw_ald M (199 + 5) 39 (2 : Int32) = some (M 204 2) from ald_n (j := 2) (by omega) (by omega), i2]
  unfold P_Tape_readPerson P_Tape_readPerson_b0 P_Mod_readPerson P_Mod_readPerson_b0
  rw [c_here hC hF hp hpL, bs_e, hcl, bs_e, hk, bs_e, hM2, bs_e, if_neg (fun z => by have := (nI_e0 (show srt (t p) < 1000000 by omega)).mp z; omega), hN2]
  by_cases hP : P < 7
  · rw [if_pos (show nI P < 7 from (nI_lt2 (a := P) (b := 7) (by omega) (by omega)).mpr hP), if_neg (show ¬ nI P = 7 from fun z => by have := (nI_e7 (show P < 1000000 by omega)).mp z; omega), hp, nI_s, pl_e, rP_e]
    obtain ⟨M3, s1, s2, s3⟩ := r_must1 hT hO (x := 1) (by decide)
    rw [show tkN t L p = p + 1 by
      unfold tkN
      rw [if_neg (by omega), if_neg hfn]] at s2
    rw [s1, bs_e]
    have hF1 : CFb Mc (fw_set N 2 2 (nI (p + 1))) := cf_2 hF (by omega) _
    obtain ⟨d1, d2⟩ := c_nb hC hF1 (p := p + 1) (a := 0) (b := 9) (c := 44) (by rw [st_e, up_e]) (by omega) (lo := 0) (hi := 9) (x := 44) rfl rfl (by omega) (by omega) rfl (Or.inl rfl)
    obtain ⟨v, M4, n1, n2, n3, n4⟩ := r_ns hT s2 (a := 0) (b := 9) (c := 44) (lo := 0) (hi := 9) (x := 44) rfl rfl (by omega) (by omega) rfl (Or.inl rfl)
    unfold rP1
    rw [n1, bs_e]
    simp only
    cases hn : nbS t L 0 9 44 (p + 1) with
    | error e =>
      obtain ⟨f, q⟩ := e
      obtain ⟨N2, c1, c2, c3, c4⟩ := d1 f q hn
      obtain ⟨hf, hf2, -, hM⟩ := n3 f q hn
      obtain ⟨M5, m1, m2⟩ := hM _ (sm_r M4)
      rw [c1, bs_e, if_pos rfl, m1, bs_e, rP2_B m2 hf hf2]
      exact Or.inl ⟨f, q, N2, M5, hf, hf2, rfl, c2, c3, c4, rfl, m2⟩
    | ok e =>
      obtain ⟨u, q⟩ := e
      obtain ⟨N2, c1, c2, c3, c4⟩ := d2 u q hn
      obtain ⟨hv, -, hu9, hq, hM⟩ := n4 u q hn
      obtain ⟨M5, m1, m2, m3⟩ := hM _ (sm_r M4)
      rw [c1, bs_e]
      simp only
      rw [if_neg (show ¬ nI u = -1 from nI_m1 (by omega)), m1, bs_e]
      obtain ⟨y1, y2⟩ := c_nb hC c2 (p := q) (a := 0) (b := 9) (c := 44) c3 hq (lo := 0) (hi := 9) (x := 44) rfl rfl (by omega) (by omega) rfl (Or.inl rfl)
      obtain ⟨v2, M6, o1, o2, o3, o4⟩ := r_ns hT m2 (a := 0) (b := 9) (c := 44) (lo := 0) (hi := 9) (x := 44) rfl rfl (by omega) (by omega) rfl (Or.inl rfl)
      unfold rP2
      rw [o1, bs_e]
      simp only
      cases hn2 : nbS t L 0 9 44 q with
      | error e =>
        obtain ⟨f, q2⟩ := e
        obtain ⟨N3, e1, e2, e3, e4⟩ := y1 f q2 hn2
        obtain ⟨hf, hf2, -, hM2⟩ := o3 f q2 hn2
        obtain ⟨M7, m4, m5⟩ := hM2 _ (sm_r M6)
        rw [e1, bs_e, if_pos rfl, m4, bs_e, rP3_B m5 hf hf2]
        exact Or.inl ⟨f, q2, N3, M7, hf, hf2, rfl, e2, e3, e4, rfl, m5⟩
      | ok e =>
        obtain ⟨w, q2⟩ := e
        obtain ⟨N3, e1, e2, e3, e4⟩ := y2 w q2 hn2
        obtain ⟨hv2, -, hw9, hq2, hM2⟩ := o4 w q2 hn2
        obtain ⟨M7, m4, m5, m6⟩ := hM2 _ (sm_r M6)
        have hg7 : M7 204 = M 204 := by rw [m6, o2, m3, n2, s3]
        have hN3 : ∀ b, b ≠ 2 → N3 b = N b := fun b hb => by rw [e4 b hb, c4 b hb, st_n hb]
        rw [e1, bs_e]
        simp only
        rw [if_neg (show ¬ nI w = -1 from nI_m1 (by omega)), m4, bs_e, show N3 158 0 = nI D by rw [hN3 158 (by omega)]; exact hN0]
        have hD1 : nI D - 1 = nI (D - 1) := nI_s1 (by omega)
        obtain ⟨z1, z2⟩ := c_nb hC e2 (p := q2) (a := 0) (b := D - 1) (c := 59) e3 hq2 (lo := 0) (hi := nI D - 1) (x := 59) rfl hD1 (by omega) (by omega) rfl (Or.inr rfl)
        obtain ⟨v3, M8, w1, w2, w3, w4⟩ := r_ns hT m5 (a := 0) (b := D - 1) (c := 59) (lo := 0) (hi := nI D - 1) (x := 59) rfl hD1 (by omega) (by omega) rfl (Or.inr rfl)
        unfold rP3
        rw [show fw_ald M7 (199 + 5) 39 (0 : Int32) = some (nI D) by rw [show fw_ald M7 (199 + 5) 39 (0 : Int32) = some (M7 204 0) from ald_n (j := 0) (by omega) (by omega), hg7, i0], bs_e, w1, bs_e]
        simp only
        cases hn3 : nbS t L 0 (D - 1) 59 q2 with
        | error e =>
          obtain ⟨f, q3⟩ := e
          obtain ⟨N4, f1, f2, f3, f4⟩ := z1 f q3 hn3
          obtain ⟨hf, hf2, -, hM3⟩ := w3 f q3 hn3
          obtain ⟨M9, m7, m8⟩ := hM3 _ (sm_r M8)
          rw [f1, bs_e, if_pos rfl, m7, bs_e, if_neg (bd_16 m8 hf hf2)]
          exact Or.inl ⟨f, q3, N4, M9, hf, hf2, rfl, f2, f3, f4, rfl, m8⟩
        | ok e =>
          obtain ⟨d, q3⟩ := e
          obtain ⟨N4, f1, f2, f3, f4⟩ := z2 d q3 hn3
          obtain ⟨hv3, -, hdD, hq3, hM3⟩ := w4 d q3 hn3
          obtain ⟨M9, m7, m8, m9⟩ := hM3 _ (sm_r M8)
          have hg9 : M9 204 = M 204 := by rw [m9, w2, hg7]
          have hN4 : ∀ b, b ≠ 2 → N4 b = N b := fun b hb => by rw [f4 b hb, hN3 b hb]
          rw [f1, bs_e]
          simp only
          rw [if_neg (show ¬ nI d = -1 from nI_m1 (by omega)), m7, bs_e, if_pos m8.2.1]
          obtain ⟨N5, g1, g2, g3, g4, g5, g6, g7, g8⟩ := c_admit (N := N4) (P := P) (by rw [hN4 158 (by omega)]; exact hN2) hP (nI (srt (t p))) (nI u) (nI w) (nI d)
          have hast : ∀ (X : fw_M) (c : Nat) (y : Int32), c < 5 → fw_ast X (199 + 5) 39 (nI (4 + 5 * P + c)) y = some (fw_set X 204 (4 + 5 * P + c) y) := fun X c y hc => ast_n (by omega) (by omega)
          rw [g1, bs_e, show fw_ald M9 (199 + 5) 39 (2 : Int32) = some (nI P) by rw [show fw_ald M9 (199 + 5) 39 (2 : Int32) = some (M9 204 2) from ald_n (j := 2) (by omega) (by omega), hg9, i2], bs_e, pl_e, show ((4 : Int32) + ((5 : Int32) * nI P)) = nI (4 + 5 * P) by rw [show (4 : Int32) = nI 4 from rfl, show (5 : Int32) = nI 5 from rfl, pk_mul, nI_add], nI_s, show nI (4 + 5 * P) + (2 : Int32) = nI (4 + 5 * P + 2) from nI_a _ 2, show nI (4 + 5 * P) + (3 : Int32) = nI (4 + 5 * P + 3) from nI_a _ 3, show fw_ast M9 (199 + 5) 39 (nI (4 + 5 * P)) (nI (srt (t p))) = some (fw_set M9 204 (4 + 5 * P) (nI (srt (t p)))) from hast M9 0 _ (by omega), bs_e, hast _ 1 _ (by omega), bs_e, hast _ 2 _ (by omega), bs_e, hast _ 3 _ (by omega), bs_e]
          have hP16 : fw_ald (fw_set (fw_set (fw_set (fw_set M9 204 (4 + 5 * P) (nI (srt (t p)))) 204 (4 + 5 * P + 1) v) 204 (4 + 5 * P + 2) v2) 204 (4 + 5 * P + 3) v3) (199 + 5) 39 (2 : Int32) = some (nI P) := by
            rw [show fw_ald (fw_set (fw_set (fw_set (fw_set M9 204 (4 + 5 * P) (nI (srt (t p)))) 204 (4 + 5 * P + 1) v) 204 (4 + 5 * P + 2) v2) 204 (4 + 5 * P + 3) v3) (199 + 5) 39 (2 : Int32) = some (fw_set (fw_set (fw_set (fw_set M9 204 (4 + 5 * P) (nI (srt (t p)))) 204 (4 + 5 * P + 1) v) 204 (4 + 5 * P + 2) v2) 204 (4 + 5 * P + 3) v3 204 2) from ald_n (j := 2) (by omega) (by omega), st_n2 (by omega), st_n2 (by omega), st_n2 (by omega), st_n2 (by omega), hg9, i2]
          rw [hP16, bs_e, nI_s]
          have h2ast : ∀ (X : fw_M) (y : Int32), fw_ast X (199 + 5) 39 (2 : Int32) y = some (fw_set X 204 2 y) := fun X y => ast_n (j := 2) (by omega) (by omega)
          rw [h2ast, bs_e]
          unfold P_Mod_readPerson_b146
          refine Or.inr ⟨q3, N5, _, rfl, ⟨fun b b1 b2 => by rw [g8 b b2]; exact f2.1 b b1 b2, by rw [g8 2 (by omega)]; exact f2.2⟩, by rw [g8 2 (by omega)]; exact f3, rfl, ok_sm m8 (sm_t (sm_t (sm_t (sm_t (sm_s _ _ _) (sm_s _ _ _)) (sm_s _ _ _)) (sm_s _ _ _)) (sm_s _ _ _)), ?_, hP⟩
          refine inv_s hI hP ⟨by omega, hsc.2.2⟩ hu9 hw9 (show d < D by omega) (by rw [g2, hN4 158 (by omega)]) (by rw [g3, hN4 159 (by omega)]) (by rw [g4, hN4 160 (by omega)]) (by rw [g5, hN4 161 (by omega)]) (by rw [g6, hN4 162 (by omega)]) (by rw [g7, hN4 163 (by omega)]) ?_
          rw [st_e, st_e, st_e, st_e, st_e, hg9, hv, hv2, hv3]
  · have hP7 : P = 7 := by omega
    rw [if_neg (show ¬ nI P < 7 from fun z => by have := (nI_lt2 (a := P) (b := 7) (by omega) (by omega)).mp z; omega), if_pos (show nI P = 7 by rw [hP7]; rfl)]
    obtain ⟨M3, s1, s2, s3⟩ := r_bad hO (x := 3) (f := 3) rfl
    rw [s1, bs_e, rP_e, r_mustB s2 (by omega) (by omega), bs_e, rP1_B s2 (by omega) (by omega)]
    exact Or.inl ⟨3, p, fw_set N 2 3 3, M3, by omega, by omega, rfl, cf_2 hF (by omega) _, by rw [st_n2 (by omega)]; exact hp, by rw [st_e, up_e]; rfl, rfl, s2⟩
