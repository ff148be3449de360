/-! THE CLAIM OUT OF ONE WALK OF THE LAW'S BODY. Your part is whole_start (and what it stands on); all else here is the same for every law, but numbers. -/
def R_law : String := "YieldDoorsLaw"
def lw_P (b : Addr) (xs : List Int32) (args : Array Value) (s : State) : Prop := args = #[.ref b] ∧ s.IntsAt b xs ∧ xs.length ≤ 384 ∧ (Jvm.Cond.and given_1 narrow_1).before args s = true
def lw_Q (_ : Array Value) (s : State) (o : Outcome) (t : State) : Prop := o = .returned (some (.int 1)) ∧ Framed s o t [] 600000 7302250
def lw_Z (below : List Frame) (a : Array Value) (s : State) : State → Prop := fun t => ∃ o, t.status = .running ∧ Ended t below o ∧ lw_Q a s o t
/-- the law's own end, with 1 on the stack, nothing written that was there before, its room as the claim has it -/
theorem lw_ret {p : Program} {l : Launch} {e : Env} {s : State} {m : MethodId} {below : List Frame} {meth : Method} {c : Code} {b : Nat} (hx : p.tables.exec = Jvm.exec) (hb : c.code = code) (hr : meth.sig.returnType = ret) (hlocks : meth.locks = false) {pc : Nat} {H : Heap} {ls : Array Slot} (hdg : decode code pc = .ok (.ireturn, 1)) : W p l e room_1 s m #[Value.ref b] below meth c H [] 600000 7302250 (lw_Z below #[Value.ref b] s) (F0 m pc ls [.int 1]) := by
  intro T hT X
  obtain ⟨fs, hret, hrun, hended, hW, hframe⟩ := X.leave (v := some (.int 1)) (hlocks := hlocks) (fun h => by rw [hr] at h; cases h)
  have hmeth' : T.vm.method? m = some meth := X.method'
  refine ⟨T.setFrames fs, ?_, .returned (some (.int 1)), hrun, hended, rfl, ⟨_, rfl⟩, hW, hframe⟩
  jvm_step X.here [X.here.top, hx, hb, hdg, hmeth', hr, ret, narrow_b1]
  (try refine ⟨rfl, ?_⟩); (try refine ⟨rfl, ?_⟩)
  first | (intro acts; rw [hret _ acts rfl rfl rfl]) | rw [hret _ _ rfl rfl rfl]
  exact Steps.refl _
/-- what holds at the law's entry: the machine, the code, the tables' words (any of lw_tbl by 'hts w (by decide +kernel)'), the script of L ints xs at the cell b, what the Statement gives of the start (any of its parts by flat_of_before) -/
def lw_At (p : Program) (s : State) (m : MethodId) (meth : Method) (c : Code) (b L : Nat) (xs : Nat → Int32) : Prop :=
  p.tables.exec = Jvm.exec ∧ c.code = code ∧ meth.sig.returnType = ret ∧ c.maxLocals = 4 ∧ s.vm.findClass R_law = some m.cls ∧ (∀ w ∈ lw_tbl, w.before #[Value.ref b] s = true) ∧ va_X b L xs s s.heap ∧ b < s.heap.size ∧ meth.locks = false ∧ (Jvm.Cond.and given_1 narrow_1).before #[Value.ref b] s = true
/-! rows of the law alone: the script, which is no cell of the system's -/
section LW
variable {p : Program} {l : Launch} {e : Env} {R : Room} {s : State} {m : MethodId} {args : Array Value} {below : List Frame} {meth : Method} {c : Code} {D : va_G} {cl : List vw_C} {tys : List (ClassId × FieldType)} {N : Nat} {ad : Nat → Nat} {nw : fw_nw} {EE EE2 : fw_M → Nat → va_E} {nL cs sl : Nat} {Q : State → Prop} {M M2 : fw_M} {L : List (Nat × Value)} {pc : Nat} {rest st : List Value} {cc : ByteArray} {own : String} {ws : List Cond} {ret : Option FieldType}
theorem fw_sw (h : EE M = EE2 M2) (kk : fw_J p l e R s m args below meth c D cl N ad EE2 nL cs sl Q M2 L pc st) : fw_J p l e R s m args below meth c D cl N ad EE nL cs sl Q M L pc st := fun H locs ls hP hS hl => kk H locs ls (h ▸ hP) hS hl
theorem fw_sld (C : fw_C p s m args meth c cc own ws nL ret D cl tys N ad nw) {b Ln : Nat} {xs : Nat → Int32} {i : Int32} (hX : va_X b Ln xs s s.heap) (hbl : b < s.heap.size) (hbA : ¬ fw_A N ad s.heap.size b) (hin : vp_in i Ln) (hd : decode cc pc = .ok (.iaload, 1)) (kk : fw_J p l e R s m args below meth c D cl N ad EE nL cs sl Q M L (pc + 1) (.int (xs i.toNatClampNeg) :: rest)) : fw_J p l e R s m args below meth c D cl N ad EE nL cs sl Q M L pc (.int i :: .ref b :: rest) :=
  fun H locs ls hP hS hl => va_sld C.1 C.2.1 hX hbl hbA hS hin hd (kk H locs ls hP hS hl)
theorem fw_slen (C : fw_C p s m args meth c cc own ws nL ret D cl tys N ad nw) {b Ln : Nat} {xs : Nat → Int32} (hX : va_X b Ln xs s s.heap) (hbl : b < s.heap.size) (hbA : ¬ fw_A N ad s.heap.size b) (hd : decode cc pc = .ok (.arraylength, 1)) (kk : fw_J p l e R s m args below meth c D cl N ad EE nL cs sl Q M L (pc + 1) (.int (Int32.ofNat Ln) :: rest)) : fw_J p l e R s m args below meth c D cl N ad EE nL cs sl Q M L pc (.ref b :: rest) :=
  fun H locs ls hP hS hl => va_slen C.1 C.2.1 hX hbl hbA hS hd (kk H locs ls hP hS hl)
theorem sc_in {i k Ln : Nat} (h : i + k < Ln) (hL : Ln ≤ 384) : vp_in (nI i + nI k) Ln := by
  rw [nI_add]
  exact vp_in_nI h (by omega)
theorem sc_gt {i Ln : Nat} (hi : i ≤ 1000) (hL : Ln ≤ 384) : nI Ln - 6 < nI i ↔ Ln < i + 6 := by
  rw [show (6 : Int32) = nI 6 from rfl, Int32.lt_iff_toInt_lt, pk_sub_toInt (by omega) (by omega), nI_toInt (by omega)]
  omega
end LW
abbrev lw_nw : fw_nw := fw_nw0
theorem fk_bipush6i : Int32.ofInt 6 = 6 := by decide
theorem lg_cmp_self (r : Int64) : lg_cmp r r = 0 := by
  unfold lg_cmp
  have h : ¬ r < r := by rw [Int64.lt_iff_toInt_lt]; omega
  first | rw [if_neg h, if_neg h] | simp [h]
theorem lc_end {p : Program} {l : Launch} {e : Env} {s : State} {m : MethodId} {below : List Frame} {meth : Method} {c : Code} {D : va_G} {cI cZ cH cR : ClassId} {b : Nat} (C : fw_C p s m #[Value.ref b] meth c code RL wsL_law 4 ret D vwCl (fw_tys cI cZ cH cR) 212 (fk_ad s.heap.size) fw_nw0) (hbl : b < s.heap.size) {EE : fw_M → Nat → va_E} {M : fw_M} {Lc : List (Nat × Value)} : fw_J p l e room_1 s m #[Value.ref b] below meth c D vwCl 212 (fk_ad s.heap.size) EE 4 600000 7302250 (lw_Z below #[Value.ref b] s) M Lc 1345 [.int 1] := by
  intro H locs ls hP hS hl
  refine va_forget (fun q hq => ?_) ?_
  · rcases hS.2.2 q hq with ⟨k, _, h⟩ | h
    · exact h ▸ Nat.le_add_right _ _
    · exact h
  exact lw_ret C.1 C.2.1 C.2.2.2.2.2.2.2.2.2 C.2.2.2.2.2.2.2.2.1 dL_law_1345
set_option maxRecDepth 100000 in
theorem lc_row {p : Program} {l : Launch} {e : Env} {s : State} {m : MethodId} {below : List Frame} {meth : Method} {c : Code} {D : va_G} {cI cZ cH cR : ClassId} {b L : Nat} {xs : Nat → Int32} (C : fw_C p s m #[Value.ref b] meth c code RL wsL_law 4 ret D vwCl (fw_tys cI cZ cH cR) 212 (fk_ad s.heap.size) fw_nw0) (hX : va_X b L xs s s.heap) (hbl : b < s.heap.size) (hbA : ¬ fw_A 212 (fk_ad s.heap.size) s.heap.size b) (hL : L ≤ 384) {i : Nat} (hi : i + 6 ≤ L) {Mc Mr : fw_M} (hR : rl Mc Mr) (kk : ∀ Mc2 Mr2 : fw_M, rl Mc2 Mr2 → fw_J p l e room_1 s m #[Value.ref b] below meth c D vwCl 212 (fk_ad s.heap.size) (wk_c s.heap.size cI cZ cH cR Mr2) 4 600000 7302250 (lw_Z below #[Value.ref b] s) Mc2 [(0, .ref b), (1, .ref (s.heap.size + 0)), (2, .ref (s.heap.size + 199)), (3, .int (nI i))] 1338 []) : fw_J p l e room_1 s m #[Value.ref b] below meth c D vwCl 212 (fk_ad s.heap.size) (wk_c s.heap.size cI cZ cH cR Mr) 4 600000 7302250 (lw_Z below #[Value.ref b] s) Mc [(0, .ref b), (1, .ref (s.heap.size + 0)), (2, .ref (s.heap.size + 199)), (3, .int (nI i))] 196 [] := by
  obtain ⟨r, Mc2, Mr2, h1, h2, hR2⟩ := ow_row hR (xs (nI i + 1).toNatClampNeg) (xs (nI i + 2).toNatClampNeg) (xs (nI i + 3).toNatClampNeg)
  refine fw_aload_n (pc := 196) C 1 dL_law_196 rfl rfl ?_
  refine fw_aload_n (pc := 197) C 0 dL_law_197 rfl rfl ?_
  refine fw_iload_n (pc := 198) C 3 dL_law_198 rfl rfl ?_
  refine fw_iconst (pc := 199) C (v := 1) dL_law_199 fk_iconst_1 ?_
  refine fw_iadd (pc := 200) C dL_law_200 ?_
  refine fw_sld (pc := 201) C hX hbl hbA (sc_in (k := 1) (by omega) hL) dL_law_201 ?_
  refine fw_aload_n (pc := 202) C 0 dL_law_202 rfl rfl ?_
  refine fw_iload_n (pc := 203) C 3 dL_law_203 rfl rfl ?_
  refine fw_iconst (pc := 204) C (v := 2) dL_law_204 fk_iconst_2 ?_
  refine fw_iadd (pc := 205) C dL_law_205 ?_
  refine fw_sld (pc := 206) C hX hbl hbA (sc_in (k := 2) (by omega) hL) dL_law_206 ?_
  refine fw_aload_n (pc := 207) C 0 dL_law_207 rfl rfl ?_
  refine fw_iload_n (pc := 208) C 3 dL_law_208 rfl rfl ?_
  refine fw_iconst (pc := 209) C (v := 3) dL_law_209 fk_iconst_3 ?_
  refine fw_iadd (pc := 210) C dL_law_210 ?_
  refine fw_sld (pc := 211) C hX hbl hbA (sc_in (k := 3) (by omega) hL) dL_law_211 ?_
  refine fw_callV1 (pc := 212) (rest := []) C (c_Door_row (wk_Door Mr) h1) (cwV 3 C.2.2.2.2.1 gL_law_X8_row rfl rfl rfl hd_Door_row ⟨Nat.le_of_ble_eq_true rfl, Nat.le_of_ble_eq_true rfl⟩) (wk_Door Mr).1 rfl rfl ⟨Nat.le_refl _, Nat.le_refl _⟩ rfl (Nat.le_of_ble_eq_true rfl) dL_law_212 ?_
  refine fw_aload_n (pc := 215) C 2 dL_law_215 rfl rfl ?_
  refine fw_aload_n (pc := 216) C 0 dL_law_216 rfl rfl ?_
  refine fw_iload_n (pc := 217) C 3 dL_law_217 rfl rfl ?_
  refine fw_iconst (pc := 218) C (v := 1) dL_law_218 fk_iconst_1 ?_
  refine fw_iadd (pc := 219) C dL_law_219 ?_
  refine fw_sld (pc := 220) C hX hbl hbA (sc_in (k := 1) (by omega) hL) dL_law_220 ?_
  refine fw_aload_n (pc := 221) C 0 dL_law_221 rfl rfl ?_
  refine fw_iload_n (pc := 222) C 3 dL_law_222 rfl rfl ?_
  refine fw_iconst (pc := 223) C (v := 2) dL_law_223 fk_iconst_2 ?_
  refine fw_iadd (pc := 224) C dL_law_224 ?_
  refine fw_sld (pc := 225) C hX hbl hbA (sc_in (k := 2) (by omega) hL) dL_law_225 ?_
  refine fw_aload_n (pc := 226) C 0 dL_law_226 rfl rfl ?_
  refine fw_iload_n (pc := 227) C 3 dL_law_227 rfl rfl ?_
  refine fw_iconst (pc := 228) C (v := 3) dL_law_228 fk_iconst_3 ?_
  refine fw_iadd (pc := 229) C dL_law_229 ?_
  refine fw_sld (pc := 230) C hX hbl hbA (sc_in (k := 3) (by omega) hL) dL_law_230 ?_
  refine fw_sw (EE2 := wk_r s.heap.size cI cZ cH cR Mc2) (M2 := Mr) rfl ?_
  refine fw_callV1 (pc := 231) (rest := [_]) C (c_Mod_row (wk_Mod Mc2) h2) (cwV 3 C.2.2.2.2.1 gL_law_X9_row rfl rfl rfl hd_Mod_row ⟨Nat.le_of_ble_eq_true rfl, Nat.le_of_ble_eq_true rfl⟩) (wk_Mod Mc2).1 rfl rfl ⟨Nat.le_refl _, Nat.le_refl _⟩ rfl (Nat.le_of_ble_eq_true rfl) dL_law_231 ?_
  refine fw_sw (EE2 := wk_c s.heap.size cI cZ cH cR Mr2) (M2 := Mc2) rfl ?_
  exact fw_icmp_eq (pc := 234) C (tgt := 1338) dL_law_234 (by decide) (fun _ => kk _ _ hR2) (fun z => absurd rfl z)
set_option maxRecDepth 100000 in
theorem lc_set {p : Program} {l : Launch} {e : Env} {s : State} {m : MethodId} {below : List Frame} {meth : Method} {c : Code} {D : va_G} {cI cZ cH cR : ClassId} {b L : Nat} {xs : Nat → Int32} (C : fw_C p s m #[Value.ref b] meth c code RL wsL_law 4 ret D vwCl (fw_tys cI cZ cH cR) 212 (fk_ad s.heap.size) fw_nw0) (hX : va_X b L xs s s.heap) (hbl : b < s.heap.size) (hbA : ¬ fw_A 212 (fk_ad s.heap.size) s.heap.size b) (hL : L ≤ 384) {i : Nat} (hi : i + 6 ≤ L) {Mc Mr : fw_M} (hR : rl Mc Mr) (kk : ∀ Mc2 Mr2 : fw_M, rl Mc2 Mr2 → fw_J p l e room_1 s m #[Value.ref b] below meth c D vwCl 212 (fk_ad s.heap.size) (wk_c s.heap.size cI cZ cH cR Mr2) 4 600000 7302250 (lw_Z below #[Value.ref b] s) Mc2 [(0, .ref b), (1, .ref (s.heap.size + 0)), (2, .ref (s.heap.size + 199)), (3, .int (nI i))] 1338 []) : fw_J p l e room_1 s m #[Value.ref b] below meth c D vwCl 212 (fk_ad s.heap.size) (wk_c s.heap.size cI cZ cH cR Mr) 4 600000 7302250 (lw_Z below #[Value.ref b] s) Mc [(0, .ref b), (1, .ref (s.heap.size + 0)), (2, .ref (s.heap.size + 199)), (3, .int (nI i))] 239 [] := by
  obtain ⟨r, Mc2, Mr2, h1, h2, hR2⟩ := ow_set hR (xs (nI i + 1).toNatClampNeg) (xs (nI i + 2).toNatClampNeg) (xs (nI i + 3).toNatClampNeg)
  refine fw_aload_n (pc := 239) C 1 dL_law_239 rfl rfl ?_
  refine fw_aload_n (pc := 240) C 0 dL_law_240 rfl rfl ?_
  refine fw_iload_n (pc := 241) C 3 dL_law_241 rfl rfl ?_
  refine fw_iconst (pc := 242) C (v := 1) dL_law_242 fk_iconst_1 ?_
  refine fw_iadd (pc := 243) C dL_law_243 ?_
  refine fw_sld (pc := 244) C hX hbl hbA (sc_in (k := 1) (by omega) hL) dL_law_244 ?_
  refine fw_aload_n (pc := 245) C 0 dL_law_245 rfl rfl ?_
  refine fw_iload_n (pc := 246) C 3 dL_law_246 rfl rfl ?_
  refine fw_iconst (pc := 247) C (v := 2) dL_law_247 fk_iconst_2 ?_
  refine fw_iadd (pc := 248) C dL_law_248 ?_
  refine fw_sld (pc := 249) C hX hbl hbA (sc_in (k := 2) (by omega) hL) dL_law_249 ?_
  refine fw_aload_n (pc := 250) C 0 dL_law_250 rfl rfl ?_
  refine fw_iload_n (pc := 251) C 3 dL_law_251 rfl rfl ?_
  refine fw_iconst (pc := 252) C (v := 3) dL_law_252 fk_iconst_3 ?_
  refine fw_iadd (pc := 253) C dL_law_253 ?_
  refine fw_sld (pc := 254) C hX hbl hbA (sc_in (k := 3) (by omega) hL) dL_law_254 ?_
  refine fw_callV1 (pc := 255) (rest := []) C (c_Door_set (wk_Door Mr) h1) (cwV 3 C.2.2.2.2.1 gL_law_X8_set rfl rfl rfl hd_Door_set ⟨Nat.le_of_ble_eq_true rfl, Nat.le_of_ble_eq_true rfl⟩) (wk_Door Mr).1 rfl rfl ⟨Nat.le_refl _, Nat.le_refl _⟩ rfl (Nat.le_of_ble_eq_true rfl) dL_law_255 ?_
  refine fw_aload_n (pc := 258) C 2 dL_law_258 rfl rfl ?_
  refine fw_aload_n (pc := 259) C 0 dL_law_259 rfl rfl ?_
  refine fw_iload_n (pc := 260) C 3 dL_law_260 rfl rfl ?_
  refine fw_iconst (pc := 261) C (v := 1) dL_law_261 fk_iconst_1 ?_
  refine fw_iadd (pc := 262) C dL_law_262 ?_
  refine fw_sld (pc := 263) C hX hbl hbA (sc_in (k := 1) (by omega) hL) dL_law_263 ?_
  refine fw_aload_n (pc := 264) C 0 dL_law_264 rfl rfl ?_
  refine fw_iload_n (pc := 265) C 3 dL_law_265 rfl rfl ?_
  refine fw_iconst (pc := 266) C (v := 2) dL_law_266 fk_iconst_2 ?_
  refine fw_iadd (pc := 267) C dL_law_267 ?_
  refine fw_sld (pc := 268) C hX hbl hbA (sc_in (k := 2) (by omega) hL) dL_law_268 ?_
  refine fw_aload_n (pc := 269) C 0 dL_law_269 rfl rfl ?_
  refine fw_iload_n (pc := 270) C 3 dL_law_270 rfl rfl ?_
  refine fw_iconst (pc := 271) C (v := 3) dL_law_271 fk_iconst_3 ?_
  refine fw_iadd (pc := 272) C dL_law_272 ?_
  refine fw_sld (pc := 273) C hX hbl hbA (sc_in (k := 3) (by omega) hL) dL_law_273 ?_
  refine fw_sw (EE2 := wk_r s.heap.size cI cZ cH cR Mc2) (M2 := Mr) rfl ?_
  refine fw_callV1 (pc := 274) (rest := [_]) C (c_Mod_set (wk_Mod Mc2) h2) (cwV 3 C.2.2.2.2.1 gL_law_X9_set rfl rfl rfl hd_Mod_set ⟨Nat.le_of_ble_eq_true rfl, Nat.le_of_ble_eq_true rfl⟩) (wk_Mod Mc2).1 rfl rfl ⟨Nat.le_refl _, Nat.le_refl _⟩ rfl (Nat.le_of_ble_eq_true rfl) dL_law_274 ?_
  refine fw_sw (EE2 := wk_c s.heap.size cI cZ cH cR Mr2) (M2 := Mc2) rfl ?_
  exact fw_icmp_eq (pc := 277) C (tgt := 1338) dL_law_277 (by decide) (fun _ => kk _ _ hR2) (fun z => absurd rfl z)
set_option maxRecDepth 100000 in
theorem lc_copy {p : Program} {l : Launch} {e : Env} {s : State} {m : MethodId} {below : List Frame} {meth : Method} {c : Code} {D : va_G} {cI cZ cH cR : ClassId} {b L : Nat} {xs : Nat → Int32} (C : fw_C p s m #[Value.ref b] meth c code RL wsL_law 4 ret D vwCl (fw_tys cI cZ cH cR) 212 (fk_ad s.heap.size) fw_nw0) (hX : va_X b L xs s s.heap) (hbl : b < s.heap.size) (hbA : ¬ fw_A 212 (fk_ad s.heap.size) s.heap.size b) (hL : L ≤ 384) {i : Nat} (hi : i + 6 ≤ L) {Mc Mr : fw_M} (hR : rl Mc Mr) (kk : ∀ Mc2 Mr2 : fw_M, rl Mc2 Mr2 → fw_J p l e room_1 s m #[Value.ref b] below meth c D vwCl 212 (fk_ad s.heap.size) (wk_c s.heap.size cI cZ cH cR Mr2) 4 600000 7302250 (lw_Z below #[Value.ref b] s) Mc2 [(0, .ref b), (1, .ref (s.heap.size + 0)), (2, .ref (s.heap.size + 199)), (3, .int (nI i))] 1338 []) : fw_J p l e room_1 s m #[Value.ref b] below meth c D vwCl 212 (fk_ad s.heap.size) (wk_c s.heap.size cI cZ cH cR Mr) 4 600000 7302250 (lw_Z below #[Value.ref b] s) Mc [(0, .ref b), (1, .ref (s.heap.size + 0)), (2, .ref (s.heap.size + 199)), (3, .int (nI i))] 282 [] := by
  obtain ⟨r, Mc2, Mr2, h1, h2, hR2⟩ := ow_copy hR (xs (nI i + 1).toNatClampNeg) (xs (nI i + 2).toNatClampNeg) (xs (nI i + 3).toNatClampNeg) (xs (nI i + 4).toNatClampNeg) (xs (nI i + 5).toNatClampNeg)
  refine fw_aload_n (pc := 282) C 1 dL_law_282 rfl rfl ?_
  refine fw_aload_n (pc := 283) C 0 dL_law_283 rfl rfl ?_
  refine fw_iload_n (pc := 284) C 3 dL_law_284 rfl rfl ?_
  refine fw_iconst (pc := 285) C (v := 1) dL_law_285 fk_iconst_1 ?_
  refine fw_iadd (pc := 286) C dL_law_286 ?_
  refine fw_sld (pc := 287) C hX hbl hbA (sc_in (k := 1) (by omega) hL) dL_law_287 ?_
  refine fw_aload_n (pc := 288) C 0 dL_law_288 rfl rfl ?_
  refine fw_iload_n (pc := 289) C 3 dL_law_289 rfl rfl ?_
  refine fw_iconst (pc := 290) C (v := 2) dL_law_290 fk_iconst_2 ?_
  refine fw_iadd (pc := 291) C dL_law_291 ?_
  refine fw_sld (pc := 292) C hX hbl hbA (sc_in (k := 2) (by omega) hL) dL_law_292 ?_
  refine fw_aload_n (pc := 293) C 0 dL_law_293 rfl rfl ?_
  refine fw_iload_n (pc := 294) C 3 dL_law_294 rfl rfl ?_
  refine fw_iconst (pc := 295) C (v := 3) dL_law_295 fk_iconst_3 ?_
  refine fw_iadd (pc := 296) C dL_law_296 ?_
  refine fw_sld (pc := 297) C hX hbl hbA (sc_in (k := 3) (by omega) hL) dL_law_297 ?_
  refine fw_aload_n (pc := 298) C 0 dL_law_298 rfl rfl ?_
  refine fw_iload_n (pc := 299) C 3 dL_law_299 rfl rfl ?_
  refine fw_iconst (pc := 300) C (v := 4) dL_law_300 fk_iconst_4 ?_
  refine fw_iadd (pc := 301) C dL_law_301 ?_
  refine fw_sld (pc := 302) C hX hbl hbA (sc_in (k := 4) (by omega) hL) dL_law_302 ?_
  refine fw_aload_n (pc := 303) C 0 dL_law_303 rfl rfl ?_
  refine fw_iload_n (pc := 304) C 3 dL_law_304 rfl rfl ?_
  refine fw_iconst (pc := 305) C (v := 5) dL_law_305 fk_iconst_5 ?_
  refine fw_iadd (pc := 306) C dL_law_306 ?_
  refine fw_sld (pc := 307) C hX hbl hbA (sc_in (k := 5) (by omega) hL) dL_law_307 ?_
  refine fw_callV1 (pc := 308) (rest := []) C (c_Door_copy (wk_Door Mr) h1) (cwV 5 C.2.2.2.2.1 gL_law_X8_copy rfl rfl rfl hd_Door_copy ⟨Nat.le_of_ble_eq_true rfl, Nat.le_of_ble_eq_true rfl⟩) (wk_Door Mr).1 rfl rfl ⟨Nat.le_refl _, Nat.le_refl _⟩ rfl (Nat.le_of_ble_eq_true rfl) dL_law_308 ?_
  refine fw_aload_n (pc := 311) C 2 dL_law_311 rfl rfl ?_
  refine fw_aload_n (pc := 312) C 0 dL_law_312 rfl rfl ?_
  refine fw_iload_n (pc := 313) C 3 dL_law_313 rfl rfl ?_
  refine fw_iconst (pc := 314) C (v := 1) dL_law_314 fk_iconst_1 ?_
  refine fw_iadd (pc := 315) C dL_law_315 ?_
  refine fw_sld (pc := 316) C hX hbl hbA (sc_in (k := 1) (by omega) hL) dL_law_316 ?_
  refine fw_aload_n (pc := 317) C 0 dL_law_317 rfl rfl ?_
  refine fw_iload_n (pc := 318) C 3 dL_law_318 rfl rfl ?_
  refine fw_iconst (pc := 319) C (v := 2) dL_law_319 fk_iconst_2 ?_
  refine fw_iadd (pc := 320) C dL_law_320 ?_
  refine fw_sld (pc := 321) C hX hbl hbA (sc_in (k := 2) (by omega) hL) dL_law_321 ?_
  refine fw_aload_n (pc := 322) C 0 dL_law_322 rfl rfl ?_
  refine fw_iload_n (pc := 323) C 3 dL_law_323 rfl rfl ?_
  refine fw_iconst (pc := 324) C (v := 3) dL_law_324 fk_iconst_3 ?_
  refine fw_iadd (pc := 325) C dL_law_325 ?_
  refine fw_sld (pc := 326) C hX hbl hbA (sc_in (k := 3) (by omega) hL) dL_law_326 ?_
  refine fw_aload_n (pc := 327) C 0 dL_law_327 rfl rfl ?_
  refine fw_iload_n (pc := 328) C 3 dL_law_328 rfl rfl ?_
  refine fw_iconst (pc := 329) C (v := 4) dL_law_329 fk_iconst_4 ?_
  refine fw_iadd (pc := 330) C dL_law_330 ?_
  refine fw_sld (pc := 331) C hX hbl hbA (sc_in (k := 4) (by omega) hL) dL_law_331 ?_
  refine fw_aload_n (pc := 332) C 0 dL_law_332 rfl rfl ?_
  refine fw_iload_n (pc := 333) C 3 dL_law_333 rfl rfl ?_
  refine fw_iconst (pc := 334) C (v := 5) dL_law_334 fk_iconst_5 ?_
  refine fw_iadd (pc := 335) C dL_law_335 ?_
  refine fw_sld (pc := 336) C hX hbl hbA (sc_in (k := 5) (by omega) hL) dL_law_336 ?_
  refine fw_sw (EE2 := wk_r s.heap.size cI cZ cH cR Mc2) (M2 := Mr) rfl ?_
  refine fw_callV1 (pc := 337) (rest := [_]) C (c_Mod_copy (wk_Mod Mc2) h2) (cwV 5 C.2.2.2.2.1 gL_law_X9_copy rfl rfl rfl hd_Mod_copy ⟨Nat.le_of_ble_eq_true rfl, Nat.le_of_ble_eq_true rfl⟩) (wk_Mod Mc2).1 rfl rfl ⟨Nat.le_refl _, Nat.le_refl _⟩ rfl (Nat.le_of_ble_eq_true rfl) dL_law_337 ?_
  refine fw_sw (EE2 := wk_c s.heap.size cI cZ cH cR Mr2) (M2 := Mc2) rfl ?_
  exact fw_icmp_eq (pc := 340) C (tgt := 1338) dL_law_340 (by decide) (fun _ => kk _ _ hR2) (fun z => absurd rfl z)
set_option maxRecDepth 100000 in
theorem lc_drop {p : Program} {l : Launch} {e : Env} {s : State} {m : MethodId} {below : List Frame} {meth : Method} {c : Code} {D : va_G} {cI cZ cH cR : ClassId} {b L : Nat} {xs : Nat → Int32} (C : fw_C p s m #[Value.ref b] meth c code RL wsL_law 4 ret D vwCl (fw_tys cI cZ cH cR) 212 (fk_ad s.heap.size) fw_nw0) (hX : va_X b L xs s s.heap) (hbl : b < s.heap.size) (hbA : ¬ fw_A 212 (fk_ad s.heap.size) s.heap.size b) (hL : L ≤ 384) {i : Nat} (hi : i + 6 ≤ L) {Mc Mr : fw_M} (hR : rl Mc Mr) (kk : ∀ Mc2 Mr2 : fw_M, rl Mc2 Mr2 → fw_J p l e room_1 s m #[Value.ref b] below meth c D vwCl 212 (fk_ad s.heap.size) (wk_c s.heap.size cI cZ cH cR Mr2) 4 600000 7302250 (lw_Z below #[Value.ref b] s) Mc2 [(0, .ref b), (1, .ref (s.heap.size + 0)), (2, .ref (s.heap.size + 199)), (3, .int (nI i))] 1338 []) : fw_J p l e room_1 s m #[Value.ref b] below meth c D vwCl 212 (fk_ad s.heap.size) (wk_c s.heap.size cI cZ cH cR Mr) 4 600000 7302250 (lw_Z below #[Value.ref b] s) Mc [(0, .ref b), (1, .ref (s.heap.size + 0)), (2, .ref (s.heap.size + 199)), (3, .int (nI i))] 345 [] := by
  obtain ⟨r, Mc2, Mr2, h1, h2, hR2⟩ := ow_drop hR (xs (nI i + 1).toNatClampNeg)
  refine fw_aload_n (pc := 345) C 1 dL_law_345 rfl rfl ?_
  refine fw_aload_n (pc := 346) C 0 dL_law_346 rfl rfl ?_
  refine fw_iload_n (pc := 347) C 3 dL_law_347 rfl rfl ?_
  refine fw_iconst (pc := 348) C (v := 1) dL_law_348 fk_iconst_1 ?_
  refine fw_iadd (pc := 349) C dL_law_349 ?_
  refine fw_sld (pc := 350) C hX hbl hbA (sc_in (k := 1) (by omega) hL) dL_law_350 ?_
  refine fw_callV1 (pc := 351) (rest := []) C (c_Door_drop (wk_Door Mr) h1) (cwV 1 C.2.2.2.2.1 gL_law_X8_drop rfl rfl rfl hd_Door_drop ⟨Nat.le_of_ble_eq_true rfl, Nat.le_of_ble_eq_true rfl⟩) (wk_Door Mr).1 rfl rfl ⟨Nat.le_refl _, Nat.le_refl _⟩ rfl (Nat.le_of_ble_eq_true rfl) dL_law_351 ?_
  refine fw_aload_n (pc := 354) C 2 dL_law_354 rfl rfl ?_
  refine fw_aload_n (pc := 355) C 0 dL_law_355 rfl rfl ?_
  refine fw_iload_n (pc := 356) C 3 dL_law_356 rfl rfl ?_
  refine fw_iconst (pc := 357) C (v := 1) dL_law_357 fk_iconst_1 ?_
  refine fw_iadd (pc := 358) C dL_law_358 ?_
  refine fw_sld (pc := 359) C hX hbl hbA (sc_in (k := 1) (by omega) hL) dL_law_359 ?_
  refine fw_sw (EE2 := wk_r s.heap.size cI cZ cH cR Mc2) (M2 := Mr) rfl ?_
  refine fw_callV1 (pc := 360) (rest := [_]) C (c_Mod_drop (wk_Mod Mc2) h2) (cwV 1 C.2.2.2.2.1 gL_law_X9_drop rfl rfl rfl hd_Mod_drop ⟨Nat.le_of_ble_eq_true rfl, Nat.le_of_ble_eq_true rfl⟩) (wk_Mod Mc2).1 rfl rfl ⟨Nat.le_refl _, Nat.le_refl _⟩ rfl (Nat.le_of_ble_eq_true rfl) dL_law_360 ?_
  refine fw_sw (EE2 := wk_c s.heap.size cI cZ cH cR Mr2) (M2 := Mc2) rfl ?_
  exact fw_icmp_eq (pc := 363) C (tgt := 1338) dL_law_363 (by decide) (fun _ => kk _ _ hR2) (fun z => absurd rfl z)
set_option maxRecDepth 100000 in
theorem lc_feed {p : Program} {l : Launch} {e : Env} {s : State} {m : MethodId} {below : List Frame} {meth : Method} {c : Code} {D : va_G} {cI cZ cH cR : ClassId} {b L : Nat} {xs : Nat → Int32} (C : fw_C p s m #[Value.ref b] meth c code RL wsL_law 4 ret D vwCl (fw_tys cI cZ cH cR) 212 (fk_ad s.heap.size) fw_nw0) (hX : va_X b L xs s s.heap) (hbl : b < s.heap.size) (hbA : ¬ fw_A 212 (fk_ad s.heap.size) s.heap.size b) (hL : L ≤ 384) {i : Nat} (hi : i + 6 ≤ L) {Mc Mr : fw_M} (hR : rl Mc Mr) (kk : ∀ Mc2 Mr2 : fw_M, rl Mc2 Mr2 → fw_J p l e room_1 s m #[Value.ref b] below meth c D vwCl 212 (fk_ad s.heap.size) (wk_c s.heap.size cI cZ cH cR Mr2) 4 600000 7302250 (lw_Z below #[Value.ref b] s) Mc2 [(0, .ref b), (1, .ref (s.heap.size + 0)), (2, .ref (s.heap.size + 199)), (3, .int (nI i))] 1338 []) : fw_J p l e room_1 s m #[Value.ref b] below meth c D vwCl 212 (fk_ad s.heap.size) (wk_c s.heap.size cI cZ cH cR Mr) 4 600000 7302250 (lw_Z below #[Value.ref b] s) Mc [(0, .ref b), (1, .ref (s.heap.size + 0)), (2, .ref (s.heap.size + 199)), (3, .int (nI i))] 368 [] := by
  obtain ⟨r, Mc2, Mr2, h1, h2, hR2⟩ := ow_feed hR (xs (nI i + 1).toNatClampNeg)
  refine fw_aload_n (pc := 368) C 1 dL_law_368 rfl rfl ?_
  refine fw_aload_n (pc := 369) C 0 dL_law_369 rfl rfl ?_
  refine fw_iload_n (pc := 370) C 3 dL_law_370 rfl rfl ?_
  refine fw_iconst (pc := 371) C (v := 1) dL_law_371 fk_iconst_1 ?_
  refine fw_iadd (pc := 372) C dL_law_372 ?_
  refine fw_sld (pc := 373) C hX hbl hbA (sc_in (k := 1) (by omega) hL) dL_law_373 ?_
  refine fw_callV1 (pc := 374) (rest := []) C (c_Door_feed (wk_Door Mr) h1) (cwV 1 C.2.2.2.2.1 gL_law_X8_feed rfl rfl rfl hd_Door_feed ⟨Nat.le_of_ble_eq_true rfl, Nat.le_of_ble_eq_true rfl⟩) (wk_Door Mr).1 rfl rfl ⟨Nat.le_refl _, Nat.le_refl _⟩ rfl (Nat.le_of_ble_eq_true rfl) dL_law_374 ?_
  refine fw_aload_n (pc := 377) C 2 dL_law_377 rfl rfl ?_
  refine fw_aload_n (pc := 378) C 0 dL_law_378 rfl rfl ?_
  refine fw_iload_n (pc := 379) C 3 dL_law_379 rfl rfl ?_
  refine fw_iconst (pc := 380) C (v := 1) dL_law_380 fk_iconst_1 ?_
  refine fw_iadd (pc := 381) C dL_law_381 ?_
  refine fw_sld (pc := 382) C hX hbl hbA (sc_in (k := 1) (by omega) hL) dL_law_382 ?_
  refine fw_sw (EE2 := wk_r s.heap.size cI cZ cH cR Mc2) (M2 := Mr) rfl ?_
  refine fw_callV1 (pc := 383) (rest := [_]) C (c_Mod_feed (wk_Mod Mc2) h2) (cwV 1 C.2.2.2.2.1 gL_law_X9_feed rfl rfl rfl hd_Mod_feed ⟨Nat.le_of_ble_eq_true rfl, Nat.le_of_ble_eq_true rfl⟩) (wk_Mod Mc2).1 rfl rfl ⟨Nat.le_refl _, Nat.le_refl _⟩ rfl (Nat.le_of_ble_eq_true rfl) dL_law_383 ?_
  refine fw_sw (EE2 := wk_c s.heap.size cI cZ cH cR Mr2) (M2 := Mc2) rfl ?_
  exact fw_icmp_eq (pc := 386) C (tgt := 1338) dL_law_386 (by decide) (fun _ => kk _ _ hR2) (fun z => absurd rfl z)
set_option maxRecDepth 100000 in
theorem lc_ministry {p : Program} {l : Launch} {e : Env} {s : State} {m : MethodId} {below : List Frame} {meth : Method} {c : Code} {D : va_G} {cI cZ cH cR : ClassId} {b L : Nat} {xs : Nat → Int32} (C : fw_C p s m #[Value.ref b] meth c code RL wsL_law 4 ret D vwCl (fw_tys cI cZ cH cR) 212 (fk_ad s.heap.size) fw_nw0) (hX : va_X b L xs s s.heap) (hbl : b < s.heap.size) (hbA : ¬ fw_A 212 (fk_ad s.heap.size) s.heap.size b) (hL : L ≤ 384) {i : Nat} (hi : i + 6 ≤ L) {Mc Mr : fw_M} (hR : rl Mc Mr) (kk : ∀ Mc2 Mr2 : fw_M, rl Mc2 Mr2 → fw_J p l e room_1 s m #[Value.ref b] below meth c D vwCl 212 (fk_ad s.heap.size) (wk_c s.heap.size cI cZ cH cR Mr2) 4 600000 7302250 (lw_Z below #[Value.ref b] s) Mc2 [(0, .ref b), (1, .ref (s.heap.size + 0)), (2, .ref (s.heap.size + 199)), (3, .int (nI i))] 1338 []) : fw_J p l e room_1 s m #[Value.ref b] below meth c D vwCl 212 (fk_ad s.heap.size) (wk_c s.heap.size cI cZ cH cR Mr) 4 600000 7302250 (lw_Z below #[Value.ref b] s) Mc [(0, .ref b), (1, .ref (s.heap.size + 0)), (2, .ref (s.heap.size + 199)), (3, .int (nI i))] 391 [] := by
  obtain ⟨r, Mc2, Mr2, h1, h2, hR2⟩ := ow_ministry hR
  refine fw_aload_n (pc := 391) C 1 dL_law_391 rfl rfl ?_
  refine fw_callV1 (pc := 392) (rest := []) C (c_Door_ministry (wk_Door Mr) h1) (cwV 0 C.2.2.2.2.1 gL_law_X8_ministry rfl rfl rfl hd_Door_ministry ⟨Nat.le_of_ble_eq_true rfl, Nat.le_of_ble_eq_true rfl⟩) (wk_Door Mr).1 rfl rfl ⟨Nat.le_refl _, Nat.le_refl _⟩ rfl (Nat.le_of_ble_eq_true rfl) dL_law_392 ?_
  refine fw_aload_n (pc := 395) C 2 dL_law_395 rfl rfl ?_
  refine fw_sw (EE2 := wk_r s.heap.size cI cZ cH cR Mc2) (M2 := Mr) rfl ?_
  refine fw_callV1 (pc := 396) (rest := [_]) C (c_Mod_ministry (wk_Mod Mc2) h2) (cwV 0 C.2.2.2.2.1 gL_law_X9_ministry rfl rfl rfl hd_Mod_ministry ⟨Nat.le_of_ble_eq_true rfl, Nat.le_of_ble_eq_true rfl⟩) (wk_Mod Mc2).1 rfl rfl ⟨Nat.le_refl _, Nat.le_refl _⟩ rfl (Nat.le_of_ble_eq_true rfl) dL_law_396 ?_
  refine fw_sw (EE2 := wk_c s.heap.size cI cZ cH cR Mr2) (M2 := Mc2) rfl ?_
  exact fw_icmp_eq (pc := 399) C (tgt := 1338) dL_law_399 (by decide) (fun _ => kk _ _ hR2) (fun z => absurd rfl z)
set_option maxRecDepth 100000 in
theorem lc_fault {p : Program} {l : Launch} {e : Env} {s : State} {m : MethodId} {below : List Frame} {meth : Method} {c : Code} {D : va_G} {cI cZ cH cR : ClassId} {b L : Nat} {xs : Nat → Int32} (C : fw_C p s m #[Value.ref b] meth c code RL wsL_law 4 ret D vwCl (fw_tys cI cZ cH cR) 212 (fk_ad s.heap.size) fw_nw0) (hX : va_X b L xs s s.heap) (hbl : b < s.heap.size) (hbA : ¬ fw_A 212 (fk_ad s.heap.size) s.heap.size b) (hL : L ≤ 384) {i : Nat} (hi : i + 6 ≤ L) {Mc Mr : fw_M} (hR : rl Mc Mr) (kk : ∀ Mc2 Mr2 : fw_M, rl Mc2 Mr2 → fw_J p l e room_1 s m #[Value.ref b] below meth c D vwCl 212 (fk_ad s.heap.size) (wk_c s.heap.size cI cZ cH cR Mr2) 4 600000 7302250 (lw_Z below #[Value.ref b] s) Mc2 [(0, .ref b), (1, .ref (s.heap.size + 0)), (2, .ref (s.heap.size + 199)), (3, .int (nI i))] 1338 []) : fw_J p l e room_1 s m #[Value.ref b] below meth c D vwCl 212 (fk_ad s.heap.size) (wk_c s.heap.size cI cZ cH cR Mr) 4 600000 7302250 (lw_Z below #[Value.ref b] s) Mc [(0, .ref b), (1, .ref (s.heap.size + 0)), (2, .ref (s.heap.size + 199)), (3, .int (nI i))] 404 [] := by
  obtain ⟨r, Mr2, h1, h2, hR2⟩ := ow_fault hR
  refine fw_aload_n (pc := 404) C 1 dL_law_404 rfl rfl ?_
  refine fw_callV1 (pc := 405) (rest := []) C (c_Door_fault (wk_Door Mr) h1) (cwV 0 C.2.2.2.2.1 gL_law_X8_fault rfl rfl rfl hd_Door_fault ⟨Nat.le_of_ble_eq_true rfl, Nat.le_of_ble_eq_true rfl⟩) (wk_Door Mr).1 rfl rfl ⟨Nat.le_refl _, Nat.le_refl _⟩ rfl (Nat.le_of_ble_eq_true rfl) dL_law_405 ?_
  refine fw_aload_n (pc := 408) C 2 dL_law_408 rfl rfl ?_
  refine fw_sw (EE2 := wk_r s.heap.size cI cZ cH cR Mc) (M2 := Mr) rfl ?_
  refine fw_callV1 (pc := 409) (rest := [_]) C (c_Mod_fault (wk_Mod Mc) h2) (cwV 0 C.2.2.2.2.1 gL_law_X9_fault rfl rfl rfl hd_Mod_fault ⟨Nat.le_of_ble_eq_true rfl, Nat.le_of_ble_eq_true rfl⟩) (wk_Mod Mc).1 rfl rfl ⟨Nat.le_refl _, Nat.le_refl _⟩ rfl (Nat.le_of_ble_eq_true rfl) dL_law_409 ?_
  refine fw_sw (EE2 := wk_c s.heap.size cI cZ cH cR Mr2) (M2 := Mc) rfl ?_
  exact fw_icmp_eq (pc := 412) C (tgt := 1338) dL_law_412 (by decide) (fun _ => kk _ _ hR2) (fun z => absurd rfl z)
set_option maxRecDepth 100000 in
theorem lc_undo {p : Program} {l : Launch} {e : Env} {s : State} {m : MethodId} {below : List Frame} {meth : Method} {c : Code} {D : va_G} {cI cZ cH cR : ClassId} {b L : Nat} {xs : Nat → Int32} (C : fw_C p s m #[Value.ref b] meth c code RL wsL_law 4 ret D vwCl (fw_tys cI cZ cH cR) 212 (fk_ad s.heap.size) fw_nw0) (hX : va_X b L xs s s.heap) (hbl : b < s.heap.size) (hbA : ¬ fw_A 212 (fk_ad s.heap.size) s.heap.size b) (hL : L ≤ 384) {i : Nat} (hi : i + 6 ≤ L) {Mc Mr : fw_M} (hR : rl Mc Mr) (kk : ∀ Mc2 Mr2 : fw_M, rl Mc2 Mr2 → fw_J p l e room_1 s m #[Value.ref b] below meth c D vwCl 212 (fk_ad s.heap.size) (wk_c s.heap.size cI cZ cH cR Mr2) 4 600000 7302250 (lw_Z below #[Value.ref b] s) Mc2 [(0, .ref b), (1, .ref (s.heap.size + 0)), (2, .ref (s.heap.size + 199)), (3, .int (nI i))] 1338 []) : fw_J p l e room_1 s m #[Value.ref b] below meth c D vwCl 212 (fk_ad s.heap.size) (wk_c s.heap.size cI cZ cH cR Mr) 4 600000 7302250 (lw_Z below #[Value.ref b] s) Mc [(0, .ref b), (1, .ref (s.heap.size + 0)), (2, .ref (s.heap.size + 199)), (3, .int (nI i))] 417 [] := by
  obtain ⟨r, Mc2, Mr2, h1, h2, hR2⟩ := ow_undo hR
  refine fw_aload_n (pc := 417) C 1 dL_law_417 rfl rfl ?_
  refine fw_callV1 (pc := 418) (rest := []) C (c_Door_undo (wk_Door Mr) h1) (cwV 0 C.2.2.2.2.1 gL_law_X8_undo rfl rfl rfl hd_Door_undo ⟨Nat.le_of_ble_eq_true rfl, Nat.le_of_ble_eq_true rfl⟩) (wk_Door Mr).1 rfl rfl ⟨Nat.le_refl _, Nat.le_refl _⟩ rfl (Nat.le_of_ble_eq_true rfl) dL_law_418 ?_
  refine fw_aload_n (pc := 421) C 2 dL_law_421 rfl rfl ?_
  refine fw_sw (EE2 := wk_r s.heap.size cI cZ cH cR Mc2) (M2 := Mr) rfl ?_
  refine fw_callV1 (pc := 422) (rest := [_]) C (c_Mod_undo (wk_Mod Mc2) h2) (cwV 0 C.2.2.2.2.1 gL_law_X9_undo rfl rfl rfl hd_Mod_undo ⟨Nat.le_of_ble_eq_true rfl, Nat.le_of_ble_eq_true rfl⟩) (wk_Mod Mc2).1 rfl rfl ⟨Nat.le_refl _, Nat.le_refl _⟩ rfl (Nat.le_of_ble_eq_true rfl) dL_law_422 ?_
  refine fw_sw (EE2 := wk_c s.heap.size cI cZ cH cR Mr2) (M2 := Mc2) rfl ?_
  exact fw_icmp_eq (pc := 425) C (tgt := 1338) dL_law_425 (by decide) (fun _ => kk _ _ hR2) (fun z => absurd rfl z)
set_option maxRecDepth 100000 in
theorem lc_steps {p : Program} {l : Launch} {e : Env} {s : State} {m : MethodId} {below : List Frame} {meth : Method} {c : Code} {D : va_G} {cI cZ cH cR : ClassId} {b L : Nat} {xs : Nat → Int32} (C : fw_C p s m #[Value.ref b] meth c code RL wsL_law 4 ret D vwCl (fw_tys cI cZ cH cR) 212 (fk_ad s.heap.size) fw_nw0) (hX : va_X b L xs s s.heap) (hbl : b < s.heap.size) (hbA : ¬ fw_A 212 (fk_ad s.heap.size) s.heap.size b) (hL : L ≤ 384) {i : Nat} (hi : i + 6 ≤ L) {Mc Mr : fw_M} (hR : rl Mc Mr) (kk : ∀ Mc2 Mr2 : fw_M, rl Mc2 Mr2 → fw_J p l e room_1 s m #[Value.ref b] below meth c D vwCl 212 (fk_ad s.heap.size) (wk_c s.heap.size cI cZ cH cR Mr2) 4 600000 7302250 (lw_Z below #[Value.ref b] s) Mc2 [(0, .ref b), (1, .ref (s.heap.size + 0)), (2, .ref (s.heap.size + 199)), (3, .int (nI i))] 1338 []) : fw_J p l e room_1 s m #[Value.ref b] below meth c D vwCl 212 (fk_ad s.heap.size) (wk_c s.heap.size cI cZ cH cR Mr) 4 600000 7302250 (lw_Z below #[Value.ref b] s) Mc [(0, .ref b), (1, .ref (s.heap.size + 0)), (2, .ref (s.heap.size + 199)), (3, .int (nI i))] 430 [] := by
  obtain ⟨r, Mc2, Mr2, h1, h2, hR2⟩ := ow_steps hR (xs (nI i + 1).toNatClampNeg)
  refine fw_aload_n (pc := 430) C 1 dL_law_430 rfl rfl ?_
  refine fw_aload_n (pc := 431) C 0 dL_law_431 rfl rfl ?_
  refine fw_iload_n (pc := 432) C 3 dL_law_432 rfl rfl ?_
  refine fw_iconst (pc := 433) C (v := 1) dL_law_433 fk_iconst_1 ?_
  refine fw_iadd (pc := 434) C dL_law_434 ?_
  refine fw_sld (pc := 435) C hX hbl hbA (sc_in (k := 1) (by omega) hL) dL_law_435 ?_
  refine fw_callV1 (pc := 436) (rest := []) C (c_Door_steps (wk_Door Mr) h1) (cwV 1 C.2.2.2.2.1 gL_law_X8_steps rfl rfl rfl hd_Door_steps ⟨Nat.le_of_ble_eq_true rfl, Nat.le_of_ble_eq_true rfl⟩) (wk_Door Mr).1 rfl rfl ⟨Nat.le_refl _, Nat.le_refl _⟩ rfl (Nat.le_of_ble_eq_true rfl) dL_law_436 ?_
  refine fw_aload_n (pc := 439) C 2 dL_law_439 rfl rfl ?_
  refine fw_aload_n (pc := 440) C 0 dL_law_440 rfl rfl ?_
  refine fw_iload_n (pc := 441) C 3 dL_law_441 rfl rfl ?_
  refine fw_iconst (pc := 442) C (v := 1) dL_law_442 fk_iconst_1 ?_
  refine fw_iadd (pc := 443) C dL_law_443 ?_
  refine fw_sld (pc := 444) C hX hbl hbA (sc_in (k := 1) (by omega) hL) dL_law_444 ?_
  refine fw_sw (EE2 := wk_r s.heap.size cI cZ cH cR Mc2) (M2 := Mr) rfl ?_
  refine fw_callV1 (pc := 445) (rest := [_]) C (c_Mod_steps (wk_Mod Mc2) h2) (cwV 1 C.2.2.2.2.1 gL_law_X9_steps rfl rfl rfl hd_Mod_steps ⟨Nat.le_of_ble_eq_true rfl, Nat.le_of_ble_eq_true rfl⟩) (wk_Mod Mc2).1 rfl rfl ⟨Nat.le_refl _, Nat.le_refl _⟩ rfl (Nat.le_of_ble_eq_true rfl) dL_law_445 ?_
  refine fw_sw (EE2 := wk_c s.heap.size cI cZ cH cR Mr2) (M2 := Mc2) rfl ?_
  exact fw_icmp_eq (pc := 448) C (tgt := 1338) dL_law_448 (by decide) (fun _ => kk _ _ hR2) (fun z => absurd rfl z)
set_option maxRecDepth 100000 in
theorem lc_come {p : Program} {l : Launch} {e : Env} {s : State} {m : MethodId} {below : List Frame} {meth : Method} {c : Code} {D : va_G} {cI cZ cH cR : ClassId} {b L : Nat} {xs : Nat → Int32} (C : fw_C p s m #[Value.ref b] meth c code RL wsL_law 4 ret D vwCl (fw_tys cI cZ cH cR) 212 (fk_ad s.heap.size) fw_nw0) (hX : va_X b L xs s s.heap) (hbl : b < s.heap.size) (hbA : ¬ fw_A 212 (fk_ad s.heap.size) s.heap.size b) (hL : L ≤ 384) {i : Nat} (hi : i + 6 ≤ L) {Mc Mr : fw_M} (hR : rl Mc Mr) (kk : ∀ Mc2 Mr2 : fw_M, rl Mc2 Mr2 → fw_J p l e room_1 s m #[Value.ref b] below meth c D vwCl 212 (fk_ad s.heap.size) (wk_c s.heap.size cI cZ cH cR Mr2) 4 600000 7302250 (lw_Z below #[Value.ref b] s) Mc2 [(0, .ref b), (1, .ref (s.heap.size + 0)), (2, .ref (s.heap.size + 199)), (3, .int (nI i))] 1338 []) : fw_J p l e room_1 s m #[Value.ref b] below meth c D vwCl 212 (fk_ad s.heap.size) (wk_c s.heap.size cI cZ cH cR Mr) 4 600000 7302250 (lw_Z below #[Value.ref b] s) Mc [(0, .ref b), (1, .ref (s.heap.size + 0)), (2, .ref (s.heap.size + 199)), (3, .int (nI i))] 453 [] := by
  obtain ⟨r, Mc2, Mr2, h1, h2, hR2⟩ := ow_come hR (xs (nI i + 1).toNatClampNeg) (xs (nI i + 2).toNatClampNeg)
  refine fw_aload_n (pc := 453) C 1 dL_law_453 rfl rfl ?_
  refine fw_aload_n (pc := 454) C 0 dL_law_454 rfl rfl ?_
  refine fw_iload_n (pc := 455) C 3 dL_law_455 rfl rfl ?_
  refine fw_iconst (pc := 456) C (v := 1) dL_law_456 fk_iconst_1 ?_
  refine fw_iadd (pc := 457) C dL_law_457 ?_
  refine fw_sld (pc := 458) C hX hbl hbA (sc_in (k := 1) (by omega) hL) dL_law_458 ?_
  refine fw_aload_n (pc := 459) C 0 dL_law_459 rfl rfl ?_
  refine fw_iload_n (pc := 460) C 3 dL_law_460 rfl rfl ?_
  refine fw_iconst (pc := 461) C (v := 2) dL_law_461 fk_iconst_2 ?_
  refine fw_iadd (pc := 462) C dL_law_462 ?_
  refine fw_sld (pc := 463) C hX hbl hbA (sc_in (k := 2) (by omega) hL) dL_law_463 ?_
  refine fw_callV1 (pc := 464) (rest := []) C (c_Door_come (wk_Door Mr) h1) (cwV 2 C.2.2.2.2.1 gL_law_X8_come rfl rfl rfl hd_Door_come ⟨Nat.le_of_ble_eq_true rfl, Nat.le_of_ble_eq_true rfl⟩) (wk_Door Mr).1 rfl rfl ⟨Nat.le_refl _, Nat.le_refl _⟩ rfl (Nat.le_of_ble_eq_true rfl) dL_law_464 ?_
  refine fw_aload_n (pc := 467) C 2 dL_law_467 rfl rfl ?_
  refine fw_aload_n (pc := 468) C 0 dL_law_468 rfl rfl ?_
  refine fw_iload_n (pc := 469) C 3 dL_law_469 rfl rfl ?_
  refine fw_iconst (pc := 470) C (v := 1) dL_law_470 fk_iconst_1 ?_
  refine fw_iadd (pc := 471) C dL_law_471 ?_
  refine fw_sld (pc := 472) C hX hbl hbA (sc_in (k := 1) (by omega) hL) dL_law_472 ?_
  refine fw_aload_n (pc := 473) C 0 dL_law_473 rfl rfl ?_
  refine fw_iload_n (pc := 474) C 3 dL_law_474 rfl rfl ?_
  refine fw_iconst (pc := 475) C (v := 2) dL_law_475 fk_iconst_2 ?_
  refine fw_iadd (pc := 476) C dL_law_476 ?_
  refine fw_sld (pc := 477) C hX hbl hbA (sc_in (k := 2) (by omega) hL) dL_law_477 ?_
  refine fw_sw (EE2 := wk_r s.heap.size cI cZ cH cR Mc2) (M2 := Mr) rfl ?_
  refine fw_callV1 (pc := 478) (rest := [_]) C (c_Mod_come (wk_Mod Mc2) h2) (cwV 2 C.2.2.2.2.1 gL_law_X9_come rfl rfl rfl hd_Mod_come ⟨Nat.le_of_ble_eq_true rfl, Nat.le_of_ble_eq_true rfl⟩) (wk_Mod Mc2).1 rfl rfl ⟨Nat.le_refl _, Nat.le_refl _⟩ rfl (Nat.le_of_ble_eq_true rfl) dL_law_478 ?_
  refine fw_sw (EE2 := wk_c s.heap.size cI cZ cH cR Mr2) (M2 := Mc2) rfl ?_
  exact fw_icmp_eq (pc := 481) C (tgt := 1338) dL_law_481 (by decide) (fun _ => kk _ _ hR2) (fun z => absurd rfl z)
set_option maxRecDepth 100000 in
theorem lc_bow {p : Program} {l : Launch} {e : Env} {s : State} {m : MethodId} {below : List Frame} {meth : Method} {c : Code} {D : va_G} {cI cZ cH cR : ClassId} {b L : Nat} {xs : Nat → Int32} (C : fw_C p s m #[Value.ref b] meth c code RL wsL_law 4 ret D vwCl (fw_tys cI cZ cH cR) 212 (fk_ad s.heap.size) fw_nw0) (hX : va_X b L xs s s.heap) (hbl : b < s.heap.size) (hbA : ¬ fw_A 212 (fk_ad s.heap.size) s.heap.size b) (hL : L ≤ 384) {i : Nat} (hi : i + 6 ≤ L) {Mc Mr : fw_M} (hR : rl Mc Mr) (kk : ∀ Mc2 Mr2 : fw_M, rl Mc2 Mr2 → fw_J p l e room_1 s m #[Value.ref b] below meth c D vwCl 212 (fk_ad s.heap.size) (wk_c s.heap.size cI cZ cH cR Mr2) 4 600000 7302250 (lw_Z below #[Value.ref b] s) Mc2 [(0, .ref b), (1, .ref (s.heap.size + 0)), (2, .ref (s.heap.size + 199)), (3, .int (nI i))] 1338 []) : fw_J p l e room_1 s m #[Value.ref b] below meth c D vwCl 212 (fk_ad s.heap.size) (wk_c s.heap.size cI cZ cH cR Mr) 4 600000 7302250 (lw_Z below #[Value.ref b] s) Mc [(0, .ref b), (1, .ref (s.heap.size + 0)), (2, .ref (s.heap.size + 199)), (3, .int (nI i))] 486 [] := by
  obtain ⟨r, Mc2, Mr2, h1, h2, hR2⟩ := ow_bow hR (xs (nI i + 1).toNatClampNeg)
  refine fw_aload_n (pc := 486) C 1 dL_law_486 rfl rfl ?_
  refine fw_aload_n (pc := 487) C 0 dL_law_487 rfl rfl ?_
  refine fw_iload_n (pc := 488) C 3 dL_law_488 rfl rfl ?_
  refine fw_iconst (pc := 489) C (v := 1) dL_law_489 fk_iconst_1 ?_
  refine fw_iadd (pc := 490) C dL_law_490 ?_
  refine fw_sld (pc := 491) C hX hbl hbA (sc_in (k := 1) (by omega) hL) dL_law_491 ?_
  refine fw_callV1 (pc := 492) (rest := []) C (c_Door_bow (wk_Door Mr) h1) (cwV 1 C.2.2.2.2.1 gL_law_X8_bow rfl rfl rfl hd_Door_bow ⟨Nat.le_of_ble_eq_true rfl, Nat.le_of_ble_eq_true rfl⟩) (wk_Door Mr).1 rfl rfl ⟨Nat.le_refl _, Nat.le_refl _⟩ rfl (Nat.le_of_ble_eq_true rfl) dL_law_492 ?_
  refine fw_aload_n (pc := 495) C 2 dL_law_495 rfl rfl ?_
  refine fw_aload_n (pc := 496) C 0 dL_law_496 rfl rfl ?_
  refine fw_iload_n (pc := 497) C 3 dL_law_497 rfl rfl ?_
  refine fw_iconst (pc := 498) C (v := 1) dL_law_498 fk_iconst_1 ?_
  refine fw_iadd (pc := 499) C dL_law_499 ?_
  refine fw_sld (pc := 500) C hX hbl hbA (sc_in (k := 1) (by omega) hL) dL_law_500 ?_
  refine fw_sw (EE2 := wk_r s.heap.size cI cZ cH cR Mc2) (M2 := Mr) rfl ?_
  refine fw_callV1 (pc := 501) (rest := [_]) C (c_Mod_bow (wk_Mod Mc2) h2) (cwV 1 C.2.2.2.2.1 gL_law_X9_bow rfl rfl rfl hd_Mod_bow ⟨Nat.le_of_ble_eq_true rfl, Nat.le_of_ble_eq_true rfl⟩) (wk_Mod Mc2).1 rfl rfl ⟨Nat.le_refl _, Nat.le_refl _⟩ rfl (Nat.le_of_ble_eq_true rfl) dL_law_501 ?_
  refine fw_sw (EE2 := wk_c s.heap.size cI cZ cH cR Mr2) (M2 := Mc2) rfl ?_
  exact fw_icmp_eq (pc := 504) C (tgt := 1338) dL_law_504 (by decide) (fun _ => kk _ _ hR2) (fun z => absurd rfl z)
set_option maxRecDepth 100000 in
theorem lc_revise {p : Program} {l : Launch} {e : Env} {s : State} {m : MethodId} {below : List Frame} {meth : Method} {c : Code} {D : va_G} {cI cZ cH cR : ClassId} {b L : Nat} {xs : Nat → Int32} (C : fw_C p s m #[Value.ref b] meth c code RL wsL_law 4 ret D vwCl (fw_tys cI cZ cH cR) 212 (fk_ad s.heap.size) fw_nw0) (hX : va_X b L xs s s.heap) (hbl : b < s.heap.size) (hbA : ¬ fw_A 212 (fk_ad s.heap.size) s.heap.size b) (hL : L ≤ 384) {i : Nat} (hi : i + 6 ≤ L) {Mc Mr : fw_M} (hR : rl Mc Mr) (kk : ∀ Mc2 Mr2 : fw_M, rl Mc2 Mr2 → fw_J p l e room_1 s m #[Value.ref b] below meth c D vwCl 212 (fk_ad s.heap.size) (wk_c s.heap.size cI cZ cH cR Mr2) 4 600000 7302250 (lw_Z below #[Value.ref b] s) Mc2 [(0, .ref b), (1, .ref (s.heap.size + 0)), (2, .ref (s.heap.size + 199)), (3, .int (nI i))] 1338 []) : fw_J p l e room_1 s m #[Value.ref b] below meth c D vwCl 212 (fk_ad s.heap.size) (wk_c s.heap.size cI cZ cH cR Mr) 4 600000 7302250 (lw_Z below #[Value.ref b] s) Mc [(0, .ref b), (1, .ref (s.heap.size + 0)), (2, .ref (s.heap.size + 199)), (3, .int (nI i))] 509 [] := by
  obtain ⟨r, Mc2, Mr2, h1, h2, hR2⟩ := ow_revise hR (xs (nI i + 1).toNatClampNeg) (xs (nI i + 2).toNatClampNeg) (xs (nI i + 3).toNatClampNeg)
  refine fw_aload_n (pc := 509) C 1 dL_law_509 rfl rfl ?_
  refine fw_aload_n (pc := 510) C 0 dL_law_510 rfl rfl ?_
  refine fw_iload_n (pc := 511) C 3 dL_law_511 rfl rfl ?_
  refine fw_iconst (pc := 512) C (v := 1) dL_law_512 fk_iconst_1 ?_
  refine fw_iadd (pc := 513) C dL_law_513 ?_
  refine fw_sld (pc := 514) C hX hbl hbA (sc_in (k := 1) (by omega) hL) dL_law_514 ?_
  refine fw_aload_n (pc := 515) C 0 dL_law_515 rfl rfl ?_
  refine fw_iload_n (pc := 516) C 3 dL_law_516 rfl rfl ?_
  refine fw_iconst (pc := 517) C (v := 2) dL_law_517 fk_iconst_2 ?_
  refine fw_iadd (pc := 518) C dL_law_518 ?_
  refine fw_sld (pc := 519) C hX hbl hbA (sc_in (k := 2) (by omega) hL) dL_law_519 ?_
  refine fw_aload_n (pc := 520) C 0 dL_law_520 rfl rfl ?_
  refine fw_iload_n (pc := 521) C 3 dL_law_521 rfl rfl ?_
  refine fw_iconst (pc := 522) C (v := 3) dL_law_522 fk_iconst_3 ?_
  refine fw_iadd (pc := 523) C dL_law_523 ?_
  refine fw_sld (pc := 524) C hX hbl hbA (sc_in (k := 3) (by omega) hL) dL_law_524 ?_
  refine fw_callV1 (pc := 525) (rest := []) C (c_Door_revise (wk_Door Mr) h1) (cwV 3 C.2.2.2.2.1 gL_law_X8_revise rfl rfl rfl hd_Door_revise ⟨Nat.le_of_ble_eq_true rfl, Nat.le_of_ble_eq_true rfl⟩) (wk_Door Mr).1 rfl rfl ⟨Nat.le_refl _, Nat.le_refl _⟩ rfl (Nat.le_of_ble_eq_true rfl) dL_law_525 ?_
  refine fw_aload_n (pc := 528) C 2 dL_law_528 rfl rfl ?_
  refine fw_aload_n (pc := 529) C 0 dL_law_529 rfl rfl ?_
  refine fw_iload_n (pc := 530) C 3 dL_law_530 rfl rfl ?_
  refine fw_iconst (pc := 531) C (v := 1) dL_law_531 fk_iconst_1 ?_
  refine fw_iadd (pc := 532) C dL_law_532 ?_
  refine fw_sld (pc := 533) C hX hbl hbA (sc_in (k := 1) (by omega) hL) dL_law_533 ?_
  refine fw_aload_n (pc := 534) C 0 dL_law_534 rfl rfl ?_
  refine fw_iload_n (pc := 535) C 3 dL_law_535 rfl rfl ?_
  refine fw_iconst (pc := 536) C (v := 2) dL_law_536 fk_iconst_2 ?_
  refine fw_iadd (pc := 537) C dL_law_537 ?_
  refine fw_sld (pc := 538) C hX hbl hbA (sc_in (k := 2) (by omega) hL) dL_law_538 ?_
  refine fw_aload_n (pc := 539) C 0 dL_law_539 rfl rfl ?_
  refine fw_iload_n (pc := 540) C 3 dL_law_540 rfl rfl ?_
  refine fw_iconst (pc := 541) C (v := 3) dL_law_541 fk_iconst_3 ?_
  refine fw_iadd (pc := 542) C dL_law_542 ?_
  refine fw_sld (pc := 543) C hX hbl hbA (sc_in (k := 3) (by omega) hL) dL_law_543 ?_
  refine fw_sw (EE2 := wk_r s.heap.size cI cZ cH cR Mc2) (M2 := Mr) rfl ?_
  refine fw_callV1 (pc := 544) (rest := [_]) C (c_Mod_revise (wk_Mod Mc2) h2) (cwV 3 C.2.2.2.2.1 gL_law_X9_revise rfl rfl rfl hd_Mod_revise ⟨Nat.le_of_ble_eq_true rfl, Nat.le_of_ble_eq_true rfl⟩) (wk_Mod Mc2).1 rfl rfl ⟨Nat.le_refl _, Nat.le_refl _⟩ rfl (Nat.le_of_ble_eq_true rfl) dL_law_544 ?_
  refine fw_sw (EE2 := wk_c s.heap.size cI cZ cH cR Mr2) (M2 := Mc2) rfl ?_
  exact fw_icmp_eq (pc := 547) C (tgt := 1338) dL_law_547 (by decide) (fun _ => kk _ _ hR2) (fun z => absurd rfl z)
set_option maxRecDepth 100000 in
theorem lc_person {p : Program} {l : Launch} {e : Env} {s : State} {m : MethodId} {below : List Frame} {meth : Method} {c : Code} {D : va_G} {cI cZ cH cR : ClassId} {b L : Nat} {xs : Nat → Int32} (C : fw_C p s m #[Value.ref b] meth c code RL wsL_law 4 ret D vwCl (fw_tys cI cZ cH cR) 212 (fk_ad s.heap.size) fw_nw0) (hX : va_X b L xs s s.heap) (hbl : b < s.heap.size) (hbA : ¬ fw_A 212 (fk_ad s.heap.size) s.heap.size b) (hL : L ≤ 384) {i : Nat} (hi : i + 6 ≤ L) {Mc Mr : fw_M} (hR : rl Mc Mr) (kk : ∀ Mc2 Mr2 : fw_M, rl Mc2 Mr2 → fw_J p l e room_1 s m #[Value.ref b] below meth c D vwCl 212 (fk_ad s.heap.size) (wk_c s.heap.size cI cZ cH cR Mr2) 4 600000 7302250 (lw_Z below #[Value.ref b] s) Mc2 [(0, .ref b), (1, .ref (s.heap.size + 0)), (2, .ref (s.heap.size + 199)), (3, .int (nI i))] 1338 []) : fw_J p l e room_1 s m #[Value.ref b] below meth c D vwCl 212 (fk_ad s.heap.size) (wk_c s.heap.size cI cZ cH cR Mr) 4 600000 7302250 (lw_Z below #[Value.ref b] s) Mc [(0, .ref b), (1, .ref (s.heap.size + 0)), (2, .ref (s.heap.size + 199)), (3, .int (nI i))] 552 [] := by
  obtain ⟨r, Mc2, Mr2, h1, h2, hR2⟩ := ow_person hR (xs (nI i + 1).toNatClampNeg) (xs (nI i + 2).toNatClampNeg)
  refine fw_aload_n (pc := 552) C 1 dL_law_552 rfl rfl ?_
  refine fw_aload_n (pc := 553) C 0 dL_law_553 rfl rfl ?_
  refine fw_iload_n (pc := 554) C 3 dL_law_554 rfl rfl ?_
  refine fw_iconst (pc := 555) C (v := 1) dL_law_555 fk_iconst_1 ?_
  refine fw_iadd (pc := 556) C dL_law_556 ?_
  refine fw_sld (pc := 557) C hX hbl hbA (sc_in (k := 1) (by omega) hL) dL_law_557 ?_
  refine fw_aload_n (pc := 558) C 0 dL_law_558 rfl rfl ?_
  refine fw_iload_n (pc := 559) C 3 dL_law_559 rfl rfl ?_
  refine fw_iconst (pc := 560) C (v := 2) dL_law_560 fk_iconst_2 ?_
  refine fw_iadd (pc := 561) C dL_law_561 ?_
  refine fw_sld (pc := 562) C hX hbl hbA (sc_in (k := 2) (by omega) hL) dL_law_562 ?_
  refine fw_callV1 (pc := 563) (rest := []) C (c_Door_person (wk_Door Mr) h1) (cwV 2 C.2.2.2.2.1 gL_law_X8_person rfl rfl rfl hd_Door_person ⟨Nat.le_of_ble_eq_true rfl, Nat.le_of_ble_eq_true rfl⟩) (wk_Door Mr).1 rfl rfl ⟨Nat.le_refl _, Nat.le_refl _⟩ rfl (Nat.le_of_ble_eq_true rfl) dL_law_563 ?_
  refine fw_aload_n (pc := 566) C 2 dL_law_566 rfl rfl ?_
  refine fw_aload_n (pc := 567) C 0 dL_law_567 rfl rfl ?_
  refine fw_iload_n (pc := 568) C 3 dL_law_568 rfl rfl ?_
  refine fw_iconst (pc := 569) C (v := 1) dL_law_569 fk_iconst_1 ?_
  refine fw_iadd (pc := 570) C dL_law_570 ?_
  refine fw_sld (pc := 571) C hX hbl hbA (sc_in (k := 1) (by omega) hL) dL_law_571 ?_
  refine fw_aload_n (pc := 572) C 0 dL_law_572 rfl rfl ?_
  refine fw_iload_n (pc := 573) C 3 dL_law_573 rfl rfl ?_
  refine fw_iconst (pc := 574) C (v := 2) dL_law_574 fk_iconst_2 ?_
  refine fw_iadd (pc := 575) C dL_law_575 ?_
  refine fw_sld (pc := 576) C hX hbl hbA (sc_in (k := 2) (by omega) hL) dL_law_576 ?_
  refine fw_sw (EE2 := wk_r s.heap.size cI cZ cH cR Mc2) (M2 := Mr) rfl ?_
  refine fw_callV1 (pc := 577) (rest := [_]) C (c_Mod_person (wk_Mod Mc2) h2) (cwV 2 C.2.2.2.2.1 gL_law_X9_person rfl rfl rfl hd_Mod_person ⟨Nat.le_of_ble_eq_true rfl, Nat.le_of_ble_eq_true rfl⟩) (wk_Mod Mc2).1 rfl rfl ⟨Nat.le_refl _, Nat.le_refl _⟩ rfl (Nat.le_of_ble_eq_true rfl) dL_law_577 ?_
  refine fw_sw (EE2 := wk_c s.heap.size cI cZ cH cR Mr2) (M2 := Mc2) rfl ?_
  exact fw_icmp_eq (pc := 580) C (tgt := 1338) dL_law_580 (by decide) (fun _ => kk _ _ hR2) (fun z => absurd rfl z)
set_option maxRecDepth 100000 in
theorem lc_door {p : Program} {l : Launch} {e : Env} {s : State} {m : MethodId} {below : List Frame} {meth : Method} {c : Code} {D : va_G} {cI cZ cH cR : ClassId} {b L : Nat} {xs : Nat → Int32} (C : fw_C p s m #[Value.ref b] meth c code RL wsL_law 4 ret D vwCl (fw_tys cI cZ cH cR) 212 (fk_ad s.heap.size) fw_nw0) (hX : va_X b L xs s s.heap) (hbl : b < s.heap.size) (hbA : ¬ fw_A 212 (fk_ad s.heap.size) s.heap.size b) (hL : L ≤ 384) {i : Nat} (hi : i + 6 ≤ L) {Mc Mr : fw_M} (hR : rl Mc Mr) (kk : ∀ Mc2 Mr2 : fw_M, rl Mc2 Mr2 → fw_J p l e room_1 s m #[Value.ref b] below meth c D vwCl 212 (fk_ad s.heap.size) (wk_c s.heap.size cI cZ cH cR Mr2) 4 600000 7302250 (lw_Z below #[Value.ref b] s) Mc2 [(0, .ref b), (1, .ref (s.heap.size + 0)), (2, .ref (s.heap.size + 199)), (3, .int (nI i))] 1338 []) : fw_J p l e room_1 s m #[Value.ref b] below meth c D vwCl 212 (fk_ad s.heap.size) (wk_c s.heap.size cI cZ cH cR Mr) 4 600000 7302250 (lw_Z below #[Value.ref b] s) Mc [(0, .ref b), (1, .ref (s.heap.size + 0)), (2, .ref (s.heap.size + 199)), (3, .int (nI i))] 585 [] := by
  obtain ⟨r, Mc2, Mr2, h1, h2, hR2⟩ := ow_door hR (xs (nI i + 1).toNatClampNeg) (xs (nI i + 2).toNatClampNeg)
  refine fw_aload_n (pc := 585) C 1 dL_law_585 rfl rfl ?_
  refine fw_aload_n (pc := 586) C 0 dL_law_586 rfl rfl ?_
  refine fw_iload_n (pc := 587) C 3 dL_law_587 rfl rfl ?_
  refine fw_iconst (pc := 588) C (v := 1) dL_law_588 fk_iconst_1 ?_
  refine fw_iadd (pc := 589) C dL_law_589 ?_
  refine fw_sld (pc := 590) C hX hbl hbA (sc_in (k := 1) (by omega) hL) dL_law_590 ?_
  refine fw_aload_n (pc := 591) C 0 dL_law_591 rfl rfl ?_
  refine fw_iload_n (pc := 592) C 3 dL_law_592 rfl rfl ?_
  refine fw_iconst (pc := 593) C (v := 2) dL_law_593 fk_iconst_2 ?_
  refine fw_iadd (pc := 594) C dL_law_594 ?_
  refine fw_sld (pc := 595) C hX hbl hbA (sc_in (k := 2) (by omega) hL) dL_law_595 ?_
  refine fw_callV1 (pc := 596) (rest := []) C (c_Door_door (wk_Door Mr) h1) (cwV 2 C.2.2.2.2.1 gL_law_X8_door rfl rfl rfl hd_Door_door ⟨Nat.le_of_ble_eq_true rfl, Nat.le_of_ble_eq_true rfl⟩) (wk_Door Mr).1 rfl rfl ⟨Nat.le_refl _, Nat.le_refl _⟩ rfl (Nat.le_of_ble_eq_true rfl) dL_law_596 ?_
  refine fw_aload_n (pc := 599) C 2 dL_law_599 rfl rfl ?_
  refine fw_aload_n (pc := 600) C 0 dL_law_600 rfl rfl ?_
  refine fw_iload_n (pc := 601) C 3 dL_law_601 rfl rfl ?_
  refine fw_iconst (pc := 602) C (v := 1) dL_law_602 fk_iconst_1 ?_
  refine fw_iadd (pc := 603) C dL_law_603 ?_
  refine fw_sld (pc := 604) C hX hbl hbA (sc_in (k := 1) (by omega) hL) dL_law_604 ?_
  refine fw_aload_n (pc := 605) C 0 dL_law_605 rfl rfl ?_
  refine fw_iload_n (pc := 606) C 3 dL_law_606 rfl rfl ?_
  refine fw_iconst (pc := 607) C (v := 2) dL_law_607 fk_iconst_2 ?_
  refine fw_iadd (pc := 608) C dL_law_608 ?_
  refine fw_sld (pc := 609) C hX hbl hbA (sc_in (k := 2) (by omega) hL) dL_law_609 ?_
  refine fw_sw (EE2 := wk_r s.heap.size cI cZ cH cR Mc2) (M2 := Mr) rfl ?_
  refine fw_callV1 (pc := 610) (rest := [_]) C (c_Mod_door (wk_Mod Mc2) h2) (cwV 2 C.2.2.2.2.1 gL_law_X9_door rfl rfl rfl hd_Mod_door ⟨Nat.le_of_ble_eq_true rfl, Nat.le_of_ble_eq_true rfl⟩) (wk_Mod Mc2).1 rfl rfl ⟨Nat.le_refl _, Nat.le_refl _⟩ rfl (Nat.le_of_ble_eq_true rfl) dL_law_610 ?_
  refine fw_sw (EE2 := wk_c s.heap.size cI cZ cH cR Mr2) (M2 := Mc2) rfl ?_
  exact fw_icmp_eq (pc := 613) C (tgt := 1338) dL_law_613 (by decide) (fun _ => kk _ _ hR2) (fun z => absurd rfl z)
set_option maxRecDepth 100000 in
theorem lc_ahead {p : Program} {l : Launch} {e : Env} {s : State} {m : MethodId} {below : List Frame} {meth : Method} {c : Code} {D : va_G} {cI cZ cH cR : ClassId} {b L : Nat} {xs : Nat → Int32} (C : fw_C p s m #[Value.ref b] meth c code RL wsL_law 4 ret D vwCl (fw_tys cI cZ cH cR) 212 (fk_ad s.heap.size) fw_nw0) (hX : va_X b L xs s s.heap) (hbl : b < s.heap.size) (hbA : ¬ fw_A 212 (fk_ad s.heap.size) s.heap.size b) (hL : L ≤ 384) {i : Nat} (hi : i + 6 ≤ L) {Mc Mr : fw_M} (hR : rl Mc Mr) (kk : ∀ Mc2 Mr2 : fw_M, rl Mc2 Mr2 → fw_J p l e room_1 s m #[Value.ref b] below meth c D vwCl 212 (fk_ad s.heap.size) (wk_c s.heap.size cI cZ cH cR Mr2) 4 600000 7302250 (lw_Z below #[Value.ref b] s) Mc2 [(0, .ref b), (1, .ref (s.heap.size + 0)), (2, .ref (s.heap.size + 199)), (3, .int (nI i))] 1338 []) : fw_J p l e room_1 s m #[Value.ref b] below meth c D vwCl 212 (fk_ad s.heap.size) (wk_c s.heap.size cI cZ cH cR Mr) 4 600000 7302250 (lw_Z below #[Value.ref b] s) Mc [(0, .ref b), (1, .ref (s.heap.size + 0)), (2, .ref (s.heap.size + 199)), (3, .int (nI i))] 618 [] := by
  obtain ⟨r, Mc2, Mr2, h1, h2, hR2⟩ := ow_ahead hR (xs (nI i + 1).toNatClampNeg) (xs (nI i + 2).toNatClampNeg)
  refine fw_aload_n (pc := 618) C 1 dL_law_618 rfl rfl ?_
  refine fw_aload_n (pc := 619) C 0 dL_law_619 rfl rfl ?_
  refine fw_iload_n (pc := 620) C 3 dL_law_620 rfl rfl ?_
  refine fw_iconst (pc := 621) C (v := 1) dL_law_621 fk_iconst_1 ?_
  refine fw_iadd (pc := 622) C dL_law_622 ?_
  refine fw_sld (pc := 623) C hX hbl hbA (sc_in (k := 1) (by omega) hL) dL_law_623 ?_
  refine fw_aload_n (pc := 624) C 0 dL_law_624 rfl rfl ?_
  refine fw_iload_n (pc := 625) C 3 dL_law_625 rfl rfl ?_
  refine fw_iconst (pc := 626) C (v := 2) dL_law_626 fk_iconst_2 ?_
  refine fw_iadd (pc := 627) C dL_law_627 ?_
  refine fw_sld (pc := 628) C hX hbl hbA (sc_in (k := 2) (by omega) hL) dL_law_628 ?_
  refine fw_callV1 (pc := 629) (rest := []) C (c_Door_ahead (wk_Door Mr) h1) (cwV 2 C.2.2.2.2.1 gL_law_X8_ahead rfl rfl rfl hd_Door_ahead ⟨Nat.le_of_ble_eq_true rfl, Nat.le_of_ble_eq_true rfl⟩) (wk_Door Mr).1 rfl rfl ⟨Nat.le_refl _, Nat.le_refl _⟩ rfl (Nat.le_of_ble_eq_true rfl) dL_law_629 ?_
  refine fw_aload_n (pc := 632) C 2 dL_law_632 rfl rfl ?_
  refine fw_aload_n (pc := 633) C 0 dL_law_633 rfl rfl ?_
  refine fw_iload_n (pc := 634) C 3 dL_law_634 rfl rfl ?_
  refine fw_iconst (pc := 635) C (v := 1) dL_law_635 fk_iconst_1 ?_
  refine fw_iadd (pc := 636) C dL_law_636 ?_
  refine fw_sld (pc := 637) C hX hbl hbA (sc_in (k := 1) (by omega) hL) dL_law_637 ?_
  refine fw_aload_n (pc := 638) C 0 dL_law_638 rfl rfl ?_
  refine fw_iload_n (pc := 639) C 3 dL_law_639 rfl rfl ?_
  refine fw_iconst (pc := 640) C (v := 2) dL_law_640 fk_iconst_2 ?_
  refine fw_iadd (pc := 641) C dL_law_641 ?_
  refine fw_sld (pc := 642) C hX hbl hbA (sc_in (k := 2) (by omega) hL) dL_law_642 ?_
  refine fw_sw (EE2 := wk_r s.heap.size cI cZ cH cR Mc2) (M2 := Mr) rfl ?_
  refine fw_callV1 (pc := 643) (rest := [_]) C (c_Mod_ahead (wk_Mod Mc2) h2) (cwV 2 C.2.2.2.2.1 gL_law_X9_ahead rfl rfl rfl hd_Mod_ahead ⟨Nat.le_of_ble_eq_true rfl, Nat.le_of_ble_eq_true rfl⟩) (wk_Mod Mc2).1 rfl rfl ⟨Nat.le_refl _, Nat.le_refl _⟩ rfl (Nat.le_of_ble_eq_true rfl) dL_law_643 ?_
  refine fw_sw (EE2 := wk_c s.heap.size cI cZ cH cR Mr2) (M2 := Mc2) rfl ?_
  exact fw_icmp_eq (pc := 646) C (tgt := 1338) dL_law_646 (by decide) (fun _ => kk _ _ hR2) (fun z => absurd rfl z)
set_option maxRecDepth 100000 in
theorem lc_waitAhead {p : Program} {l : Launch} {e : Env} {s : State} {m : MethodId} {below : List Frame} {meth : Method} {c : Code} {D : va_G} {cI cZ cH cR : ClassId} {b L : Nat} {xs : Nat → Int32} (C : fw_C p s m #[Value.ref b] meth c code RL wsL_law 4 ret D vwCl (fw_tys cI cZ cH cR) 212 (fk_ad s.heap.size) fw_nw0) (hX : va_X b L xs s s.heap) (hbl : b < s.heap.size) (hbA : ¬ fw_A 212 (fk_ad s.heap.size) s.heap.size b) (hL : L ≤ 384) {i : Nat} (hi : i + 6 ≤ L) {Mc Mr : fw_M} (hR : rl Mc Mr) (kk : ∀ Mc2 Mr2 : fw_M, rl Mc2 Mr2 → fw_J p l e room_1 s m #[Value.ref b] below meth c D vwCl 212 (fk_ad s.heap.size) (wk_c s.heap.size cI cZ cH cR Mr2) 4 600000 7302250 (lw_Z below #[Value.ref b] s) Mc2 [(0, .ref b), (1, .ref (s.heap.size + 0)), (2, .ref (s.heap.size + 199)), (3, .int (nI i))] 1338 []) : fw_J p l e room_1 s m #[Value.ref b] below meth c D vwCl 212 (fk_ad s.heap.size) (wk_c s.heap.size cI cZ cH cR Mr) 4 600000 7302250 (lw_Z below #[Value.ref b] s) Mc [(0, .ref b), (1, .ref (s.heap.size + 0)), (2, .ref (s.heap.size + 199)), (3, .int (nI i))] 651 [] := by
  obtain ⟨r, Mc2, Mr2, h1, h2, hR2⟩ := ow_waitAhead hR (xs (nI i + 1).toNatClampNeg) (xs (nI i + 2).toNatClampNeg)
  refine fw_aload_n (pc := 651) C 1 dL_law_651 rfl rfl ?_
  refine fw_aload_n (pc := 652) C 0 dL_law_652 rfl rfl ?_
  refine fw_iload_n (pc := 653) C 3 dL_law_653 rfl rfl ?_
  refine fw_iconst (pc := 654) C (v := 1) dL_law_654 fk_iconst_1 ?_
  refine fw_iadd (pc := 655) C dL_law_655 ?_
  refine fw_sld (pc := 656) C hX hbl hbA (sc_in (k := 1) (by omega) hL) dL_law_656 ?_
  refine fw_aload_n (pc := 657) C 0 dL_law_657 rfl rfl ?_
  refine fw_iload_n (pc := 658) C 3 dL_law_658 rfl rfl ?_
  refine fw_iconst (pc := 659) C (v := 2) dL_law_659 fk_iconst_2 ?_
  refine fw_iadd (pc := 660) C dL_law_660 ?_
  refine fw_sld (pc := 661) C hX hbl hbA (sc_in (k := 2) (by omega) hL) dL_law_661 ?_
  refine fw_callV1 (pc := 662) (rest := []) C (c_Door_waitAhead (wk_Door Mr) h1) (cwV 2 C.2.2.2.2.1 gL_law_X8_waitAhead rfl rfl rfl hd_Door_waitAhead ⟨Nat.le_of_ble_eq_true rfl, Nat.le_of_ble_eq_true rfl⟩) (wk_Door Mr).1 rfl rfl ⟨Nat.le_refl _, Nat.le_refl _⟩ rfl (Nat.le_of_ble_eq_true rfl) dL_law_662 ?_
  refine fw_aload_n (pc := 665) C 2 dL_law_665 rfl rfl ?_
  refine fw_aload_n (pc := 666) C 0 dL_law_666 rfl rfl ?_
  refine fw_iload_n (pc := 667) C 3 dL_law_667 rfl rfl ?_
  refine fw_iconst (pc := 668) C (v := 1) dL_law_668 fk_iconst_1 ?_
  refine fw_iadd (pc := 669) C dL_law_669 ?_
  refine fw_sld (pc := 670) C hX hbl hbA (sc_in (k := 1) (by omega) hL) dL_law_670 ?_
  refine fw_aload_n (pc := 671) C 0 dL_law_671 rfl rfl ?_
  refine fw_iload_n (pc := 672) C 3 dL_law_672 rfl rfl ?_
  refine fw_iconst (pc := 673) C (v := 2) dL_law_673 fk_iconst_2 ?_
  refine fw_iadd (pc := 674) C dL_law_674 ?_
  refine fw_sld (pc := 675) C hX hbl hbA (sc_in (k := 2) (by omega) hL) dL_law_675 ?_
  refine fw_sw (EE2 := wk_r s.heap.size cI cZ cH cR Mc2) (M2 := Mr) rfl ?_
  refine fw_callV1 (pc := 676) (rest := [_]) C (c_Mod_waitAhead (wk_Mod Mc2) h2) (cwV 2 C.2.2.2.2.1 gL_law_X9_waitAhead rfl rfl rfl hd_Mod_waitAhead ⟨Nat.le_of_ble_eq_true rfl, Nat.le_of_ble_eq_true rfl⟩) (wk_Mod Mc2).1 rfl rfl ⟨Nat.le_refl _, Nat.le_refl _⟩ rfl (Nat.le_of_ble_eq_true rfl) dL_law_676 ?_
  refine fw_sw (EE2 := wk_c s.heap.size cI cZ cH cR Mr2) (M2 := Mc2) rfl ?_
  exact fw_icmp_eq (pc := 679) C (tgt := 1338) dL_law_679 (by decide) (fun _ => kk _ _ hR2) (fun z => absurd rfl z)
set_option maxRecDepth 100000 in
theorem lc_goes {p : Program} {l : Launch} {e : Env} {s : State} {m : MethodId} {below : List Frame} {meth : Method} {c : Code} {D : va_G} {cI cZ cH cR : ClassId} {b L : Nat} {xs : Nat → Int32} (C : fw_C p s m #[Value.ref b] meth c code RL wsL_law 4 ret D vwCl (fw_tys cI cZ cH cR) 212 (fk_ad s.heap.size) fw_nw0) (hX : va_X b L xs s s.heap) (hbl : b < s.heap.size) (hbA : ¬ fw_A 212 (fk_ad s.heap.size) s.heap.size b) (hL : L ≤ 384) {i : Nat} (hi : i + 6 ≤ L) {Mc Mr : fw_M} (hR : rl Mc Mr) (kk : ∀ Mc2 Mr2 : fw_M, rl Mc2 Mr2 → fw_J p l e room_1 s m #[Value.ref b] below meth c D vwCl 212 (fk_ad s.heap.size) (wk_c s.heap.size cI cZ cH cR Mr2) 4 600000 7302250 (lw_Z below #[Value.ref b] s) Mc2 [(0, .ref b), (1, .ref (s.heap.size + 0)), (2, .ref (s.heap.size + 199)), (3, .int (nI i))] 1338 []) : fw_J p l e room_1 s m #[Value.ref b] below meth c D vwCl 212 (fk_ad s.heap.size) (wk_c s.heap.size cI cZ cH cR Mr) 4 600000 7302250 (lw_Z below #[Value.ref b] s) Mc [(0, .ref b), (1, .ref (s.heap.size + 0)), (2, .ref (s.heap.size + 199)), (3, .int (nI i))] 684 [] := by
  obtain ⟨r, Mc2, Mr2, h1, h2, hR2⟩ := ow_goes hR (xs (nI i + 1).toNatClampNeg)
  refine fw_aload_n (pc := 684) C 1 dL_law_684 rfl rfl ?_
  refine fw_aload_n (pc := 685) C 0 dL_law_685 rfl rfl ?_
  refine fw_iload_n (pc := 686) C 3 dL_law_686 rfl rfl ?_
  refine fw_iconst (pc := 687) C (v := 1) dL_law_687 fk_iconst_1 ?_
  refine fw_iadd (pc := 688) C dL_law_688 ?_
  refine fw_sld (pc := 689) C hX hbl hbA (sc_in (k := 1) (by omega) hL) dL_law_689 ?_
  refine fw_callV1 (pc := 690) (rest := []) C (c_Door_goes (wk_Door Mr) h1) (cwV 1 C.2.2.2.2.1 gL_law_X8_goes rfl rfl rfl hd_Door_goes ⟨Nat.le_of_ble_eq_true rfl, Nat.le_of_ble_eq_true rfl⟩) (wk_Door Mr).1 rfl rfl ⟨Nat.le_refl _, Nat.le_refl _⟩ rfl (Nat.le_of_ble_eq_true rfl) dL_law_690 ?_
  refine fw_aload_n (pc := 693) C 2 dL_law_693 rfl rfl ?_
  refine fw_aload_n (pc := 694) C 0 dL_law_694 rfl rfl ?_
  refine fw_iload_n (pc := 695) C 3 dL_law_695 rfl rfl ?_
  refine fw_iconst (pc := 696) C (v := 1) dL_law_696 fk_iconst_1 ?_
  refine fw_iadd (pc := 697) C dL_law_697 ?_
  refine fw_sld (pc := 698) C hX hbl hbA (sc_in (k := 1) (by omega) hL) dL_law_698 ?_
  refine fw_sw (EE2 := wk_r s.heap.size cI cZ cH cR Mc2) (M2 := Mr) rfl ?_
  refine fw_callV1 (pc := 699) (rest := [_]) C (c_Mod_goes (wk_Mod Mc2) h2) (cwV 1 C.2.2.2.2.1 gL_law_X9_goes rfl rfl rfl hd_Mod_goes ⟨Nat.le_of_ble_eq_true rfl, Nat.le_of_ble_eq_true rfl⟩) (wk_Mod Mc2).1 rfl rfl ⟨Nat.le_refl _, Nat.le_refl _⟩ rfl (Nat.le_of_ble_eq_true rfl) dL_law_699 ?_
  refine fw_sw (EE2 := wk_c s.heap.size cI cZ cH cR Mr2) (M2 := Mc2) rfl ?_
  exact fw_icmp_eq (pc := 702) C (tgt := 1338) dL_law_702 (by decide) (fun _ => kk _ _ hR2) (fun z => absurd rfl z)
set_option maxRecDepth 100000 in
theorem lc_stuck {p : Program} {l : Launch} {e : Env} {s : State} {m : MethodId} {below : List Frame} {meth : Method} {c : Code} {D : va_G} {cI cZ cH cR : ClassId} {b L : Nat} {xs : Nat → Int32} (C : fw_C p s m #[Value.ref b] meth c code RL wsL_law 4 ret D vwCl (fw_tys cI cZ cH cR) 212 (fk_ad s.heap.size) fw_nw0) (hX : va_X b L xs s s.heap) (hbl : b < s.heap.size) (hbA : ¬ fw_A 212 (fk_ad s.heap.size) s.heap.size b) (hL : L ≤ 384) {i : Nat} (hi : i + 6 ≤ L) {Mc Mr : fw_M} (hR : rl Mc Mr) (kk : ∀ Mc2 Mr2 : fw_M, rl Mc2 Mr2 → fw_J p l e room_1 s m #[Value.ref b] below meth c D vwCl 212 (fk_ad s.heap.size) (wk_c s.heap.size cI cZ cH cR Mr2) 4 600000 7302250 (lw_Z below #[Value.ref b] s) Mc2 [(0, .ref b), (1, .ref (s.heap.size + 0)), (2, .ref (s.heap.size + 199)), (3, .int (nI i))] 1338 []) : fw_J p l e room_1 s m #[Value.ref b] below meth c D vwCl 212 (fk_ad s.heap.size) (wk_c s.heap.size cI cZ cH cR Mr) 4 600000 7302250 (lw_Z below #[Value.ref b] s) Mc [(0, .ref b), (1, .ref (s.heap.size + 0)), (2, .ref (s.heap.size + 199)), (3, .int (nI i))] 707 [] := by
  obtain ⟨r, Mc2, Mr2, h1, h2, hR2⟩ := ow_stuck hR
  refine fw_aload_n (pc := 707) C 1 dL_law_707 rfl rfl ?_
  refine fw_callV1 (pc := 708) (rest := []) C (c_Door_stuck (wk_Door Mr) h1) (cwV 0 C.2.2.2.2.1 gL_law_X8_stuck rfl rfl rfl hd_Door_stuck ⟨Nat.le_of_ble_eq_true rfl, Nat.le_of_ble_eq_true rfl⟩) (wk_Door Mr).1 rfl rfl ⟨Nat.le_refl _, Nat.le_refl _⟩ rfl (Nat.le_of_ble_eq_true rfl) dL_law_708 ?_
  refine fw_aload_n (pc := 711) C 2 dL_law_711 rfl rfl ?_
  refine fw_sw (EE2 := wk_r s.heap.size cI cZ cH cR Mc2) (M2 := Mr) rfl ?_
  refine fw_callV1 (pc := 712) (rest := [_]) C (c_Mod_stuck (wk_Mod Mc2) h2) (cwV 0 C.2.2.2.2.1 gL_law_X9_stuck rfl rfl rfl hd_Mod_stuck ⟨Nat.le_of_ble_eq_true rfl, Nat.le_of_ble_eq_true rfl⟩) (wk_Mod Mc2).1 rfl rfl ⟨Nat.le_refl _, Nat.le_refl _⟩ rfl (Nat.le_of_ble_eq_true rfl) dL_law_712 ?_
  refine fw_sw (EE2 := wk_c s.heap.size cI cZ cH cR Mr2) (M2 := Mc2) rfl ?_
  exact fw_icmp_eq (pc := 715) C (tgt := 1338) dL_law_715 (by decide) (fun _ => kk _ _ hR2) (fun z => absurd rfl z)
set_option maxRecDepth 100000 in
theorem lc_ring {p : Program} {l : Launch} {e : Env} {s : State} {m : MethodId} {below : List Frame} {meth : Method} {c : Code} {D : va_G} {cI cZ cH cR : ClassId} {b L : Nat} {xs : Nat → Int32} (C : fw_C p s m #[Value.ref b] meth c code RL wsL_law 4 ret D vwCl (fw_tys cI cZ cH cR) 212 (fk_ad s.heap.size) fw_nw0) (hX : va_X b L xs s s.heap) (hbl : b < s.heap.size) (hbA : ¬ fw_A 212 (fk_ad s.heap.size) s.heap.size b) (hL : L ≤ 384) {i : Nat} (hi : i + 6 ≤ L) {Mc Mr : fw_M} (hR : rl Mc Mr) (kk : ∀ Mc2 Mr2 : fw_M, rl Mc2 Mr2 → fw_J p l e room_1 s m #[Value.ref b] below meth c D vwCl 212 (fk_ad s.heap.size) (wk_c s.heap.size cI cZ cH cR Mr2) 4 600000 7302250 (lw_Z below #[Value.ref b] s) Mc2 [(0, .ref b), (1, .ref (s.heap.size + 0)), (2, .ref (s.heap.size + 199)), (3, .int (nI i))] 1338 []) : fw_J p l e room_1 s m #[Value.ref b] below meth c D vwCl 212 (fk_ad s.heap.size) (wk_c s.heap.size cI cZ cH cR Mr) 4 600000 7302250 (lw_Z below #[Value.ref b] s) Mc [(0, .ref b), (1, .ref (s.heap.size + 0)), (2, .ref (s.heap.size + 199)), (3, .int (nI i))] 720 [] := by
  obtain ⟨r, Mc2, Mr2, h1, h2, hR2⟩ := ow_ring hR (xs (nI i + 1).toNatClampNeg) (xs (nI i + 2).toNatClampNeg)
  refine fw_aload_n (pc := 720) C 1 dL_law_720 rfl rfl ?_
  refine fw_aload_n (pc := 721) C 0 dL_law_721 rfl rfl ?_
  refine fw_iload_n (pc := 722) C 3 dL_law_722 rfl rfl ?_
  refine fw_iconst (pc := 723) C (v := 1) dL_law_723 fk_iconst_1 ?_
  refine fw_iadd (pc := 724) C dL_law_724 ?_
  refine fw_sld (pc := 725) C hX hbl hbA (sc_in (k := 1) (by omega) hL) dL_law_725 ?_
  refine fw_aload_n (pc := 726) C 0 dL_law_726 rfl rfl ?_
  refine fw_iload_n (pc := 727) C 3 dL_law_727 rfl rfl ?_
  refine fw_iconst (pc := 728) C (v := 2) dL_law_728 fk_iconst_2 ?_
  refine fw_iadd (pc := 729) C dL_law_729 ?_
  refine fw_sld (pc := 730) C hX hbl hbA (sc_in (k := 2) (by omega) hL) dL_law_730 ?_
  refine fw_callV1 (pc := 731) (rest := []) C (c_Door_ring (wk_Door Mr) h1) (cwV 2 C.2.2.2.2.1 gL_law_X8_ring rfl rfl rfl hd_Door_ring ⟨Nat.le_of_ble_eq_true rfl, Nat.le_of_ble_eq_true rfl⟩) (wk_Door Mr).1 rfl rfl ⟨Nat.le_refl _, Nat.le_refl _⟩ rfl (Nat.le_of_ble_eq_true rfl) dL_law_731 ?_
  refine fw_aload_n (pc := 734) C 2 dL_law_734 rfl rfl ?_
  refine fw_aload_n (pc := 735) C 0 dL_law_735 rfl rfl ?_
  refine fw_iload_n (pc := 736) C 3 dL_law_736 rfl rfl ?_
  refine fw_iconst (pc := 737) C (v := 1) dL_law_737 fk_iconst_1 ?_
  refine fw_iadd (pc := 738) C dL_law_738 ?_
  refine fw_sld (pc := 739) C hX hbl hbA (sc_in (k := 1) (by omega) hL) dL_law_739 ?_
  refine fw_aload_n (pc := 740) C 0 dL_law_740 rfl rfl ?_
  refine fw_iload_n (pc := 741) C 3 dL_law_741 rfl rfl ?_
  refine fw_iconst (pc := 742) C (v := 2) dL_law_742 fk_iconst_2 ?_
  refine fw_iadd (pc := 743) C dL_law_743 ?_
  refine fw_sld (pc := 744) C hX hbl hbA (sc_in (k := 2) (by omega) hL) dL_law_744 ?_
  refine fw_sw (EE2 := wk_r s.heap.size cI cZ cH cR Mc2) (M2 := Mr) rfl ?_
  refine fw_callV1 (pc := 745) (rest := [_]) C (c_Mod_ring (wk_Mod Mc2) h2) (cwV 2 C.2.2.2.2.1 gL_law_X9_ring rfl rfl rfl hd_Mod_ring ⟨Nat.le_of_ble_eq_true rfl, Nat.le_of_ble_eq_true rfl⟩) (wk_Mod Mc2).1 rfl rfl ⟨Nat.le_refl _, Nat.le_refl _⟩ rfl (Nat.le_of_ble_eq_true rfl) dL_law_745 ?_
  refine fw_sw (EE2 := wk_c s.heap.size cI cZ cH cR Mr2) (M2 := Mc2) rfl ?_
  exact fw_icmp_eq (pc := 748) C (tgt := 1338) dL_law_748 (by decide) (fun _ => kk _ _ hR2) (fun z => absurd rfl z)
set_option maxRecDepth 100000 in
theorem lc_bows {p : Program} {l : Launch} {e : Env} {s : State} {m : MethodId} {below : List Frame} {meth : Method} {c : Code} {D : va_G} {cI cZ cH cR : ClassId} {b L : Nat} {xs : Nat → Int32} (C : fw_C p s m #[Value.ref b] meth c code RL wsL_law 4 ret D vwCl (fw_tys cI cZ cH cR) 212 (fk_ad s.heap.size) fw_nw0) (hX : va_X b L xs s s.heap) (hbl : b < s.heap.size) (hbA : ¬ fw_A 212 (fk_ad s.heap.size) s.heap.size b) (hL : L ≤ 384) {i : Nat} (hi : i + 6 ≤ L) {Mc Mr : fw_M} (hR : rl Mc Mr) (kk : ∀ Mc2 Mr2 : fw_M, rl Mc2 Mr2 → fw_J p l e room_1 s m #[Value.ref b] below meth c D vwCl 212 (fk_ad s.heap.size) (wk_c s.heap.size cI cZ cH cR Mr2) 4 600000 7302250 (lw_Z below #[Value.ref b] s) Mc2 [(0, .ref b), (1, .ref (s.heap.size + 0)), (2, .ref (s.heap.size + 199)), (3, .int (nI i))] 1338 []) : fw_J p l e room_1 s m #[Value.ref b] below meth c D vwCl 212 (fk_ad s.heap.size) (wk_c s.heap.size cI cZ cH cR Mr) 4 600000 7302250 (lw_Z below #[Value.ref b] s) Mc [(0, .ref b), (1, .ref (s.heap.size + 0)), (2, .ref (s.heap.size + 199)), (3, .int (nI i))] 753 [] := by
  obtain ⟨r, Mc2, Mr2, h1, h2, hR2⟩ := ow_bows hR (xs (nI i + 1).toNatClampNeg) (xs (nI i + 2).toNatClampNeg)
  refine fw_aload_n (pc := 753) C 1 dL_law_753 rfl rfl ?_
  refine fw_aload_n (pc := 754) C 0 dL_law_754 rfl rfl ?_
  refine fw_iload_n (pc := 755) C 3 dL_law_755 rfl rfl ?_
  refine fw_iconst (pc := 756) C (v := 1) dL_law_756 fk_iconst_1 ?_
  refine fw_iadd (pc := 757) C dL_law_757 ?_
  refine fw_sld (pc := 758) C hX hbl hbA (sc_in (k := 1) (by omega) hL) dL_law_758 ?_
  refine fw_aload_n (pc := 759) C 0 dL_law_759 rfl rfl ?_
  refine fw_iload_n (pc := 760) C 3 dL_law_760 rfl rfl ?_
  refine fw_iconst (pc := 761) C (v := 2) dL_law_761 fk_iconst_2 ?_
  refine fw_iadd (pc := 762) C dL_law_762 ?_
  refine fw_sld (pc := 763) C hX hbl hbA (sc_in (k := 2) (by omega) hL) dL_law_763 ?_
  refine fw_callV1 (pc := 764) (rest := []) C (c_Door_bows (wk_Door Mr) h1) (cwV 2 C.2.2.2.2.1 gL_law_X8_bows rfl rfl rfl hd_Door_bows ⟨Nat.le_of_ble_eq_true rfl, Nat.le_of_ble_eq_true rfl⟩) (wk_Door Mr).1 rfl rfl ⟨Nat.le_refl _, Nat.le_refl _⟩ rfl (Nat.le_of_ble_eq_true rfl) dL_law_764 ?_
  refine fw_aload_n (pc := 767) C 2 dL_law_767 rfl rfl ?_
  refine fw_aload_n (pc := 768) C 0 dL_law_768 rfl rfl ?_
  refine fw_iload_n (pc := 769) C 3 dL_law_769 rfl rfl ?_
  refine fw_iconst (pc := 770) C (v := 1) dL_law_770 fk_iconst_1 ?_
  refine fw_iadd (pc := 771) C dL_law_771 ?_
  refine fw_sld (pc := 772) C hX hbl hbA (sc_in (k := 1) (by omega) hL) dL_law_772 ?_
  refine fw_aload_n (pc := 773) C 0 dL_law_773 rfl rfl ?_
  refine fw_iload_n (pc := 774) C 3 dL_law_774 rfl rfl ?_
  refine fw_iconst (pc := 775) C (v := 2) dL_law_775 fk_iconst_2 ?_
  refine fw_iadd (pc := 776) C dL_law_776 ?_
  refine fw_sld (pc := 777) C hX hbl hbA (sc_in (k := 2) (by omega) hL) dL_law_777 ?_
  refine fw_sw (EE2 := wk_r s.heap.size cI cZ cH cR Mc2) (M2 := Mr) rfl ?_
  refine fw_callV1 (pc := 778) (rest := [_]) C (c_Mod_bows (wk_Mod Mc2) h2) (cwV 2 C.2.2.2.2.1 gL_law_X9_bows rfl rfl rfl hd_Mod_bows ⟨Nat.le_of_ble_eq_true rfl, Nat.le_of_ble_eq_true rfl⟩) (wk_Mod Mc2).1 rfl rfl ⟨Nat.le_refl _, Nat.le_refl _⟩ rfl (Nat.le_of_ble_eq_true rfl) dL_law_778 ?_
  refine fw_sw (EE2 := wk_c s.heap.size cI cZ cH cR Mr2) (M2 := Mc2) rfl ?_
  exact fw_icmp_eq (pc := 781) C (tgt := 1338) dL_law_781 (by decide) (fun _ => kk _ _ hR2) (fun z => absurd rfl z)
set_option maxRecDepth 100000 in
theorem lc_raise {p : Program} {l : Launch} {e : Env} {s : State} {m : MethodId} {below : List Frame} {meth : Method} {c : Code} {D : va_G} {cI cZ cH cR : ClassId} {b L : Nat} {xs : Nat → Int32} (C : fw_C p s m #[Value.ref b] meth c code RL wsL_law 4 ret D vwCl (fw_tys cI cZ cH cR) 212 (fk_ad s.heap.size) fw_nw0) (hX : va_X b L xs s s.heap) (hbl : b < s.heap.size) (hbA : ¬ fw_A 212 (fk_ad s.heap.size) s.heap.size b) (hL : L ≤ 384) {i : Nat} (hi : i + 6 ≤ L) {Mc Mr : fw_M} (hR : rl Mc Mr) (kk : ∀ Mc2 Mr2 : fw_M, rl Mc2 Mr2 → fw_J p l e room_1 s m #[Value.ref b] below meth c D vwCl 212 (fk_ad s.heap.size) (wk_c s.heap.size cI cZ cH cR Mr2) 4 600000 7302250 (lw_Z below #[Value.ref b] s) Mc2 [(0, .ref b), (1, .ref (s.heap.size + 0)), (2, .ref (s.heap.size + 199)), (3, .int (nI i))] 1338 []) : fw_J p l e room_1 s m #[Value.ref b] below meth c D vwCl 212 (fk_ad s.heap.size) (wk_c s.heap.size cI cZ cH cR Mr) 4 600000 7302250 (lw_Z below #[Value.ref b] s) Mc [(0, .ref b), (1, .ref (s.heap.size + 0)), (2, .ref (s.heap.size + 199)), (3, .int (nI i))] 786 [] := by
  obtain ⟨r, Mc2, Mr2, h1, h2, hR2⟩ := ow_raise hR (xs (nI i + 1).toNatClampNeg)
  refine fw_aload_n (pc := 786) C 1 dL_law_786 rfl rfl ?_
  refine fw_aload_n (pc := 787) C 0 dL_law_787 rfl rfl ?_
  refine fw_iload_n (pc := 788) C 3 dL_law_788 rfl rfl ?_
  refine fw_iconst (pc := 789) C (v := 1) dL_law_789 fk_iconst_1 ?_
  refine fw_iadd (pc := 790) C dL_law_790 ?_
  refine fw_sld (pc := 791) C hX hbl hbA (sc_in (k := 1) (by omega) hL) dL_law_791 ?_
  refine fw_callV1 (pc := 792) (rest := []) C (c_Door_raise (wk_Door Mr) h1) (cwV 1 C.2.2.2.2.1 gL_law_X8_raise rfl rfl rfl hd_Door_raise ⟨Nat.le_of_ble_eq_true rfl, Nat.le_of_ble_eq_true rfl⟩) (wk_Door Mr).1 rfl rfl ⟨Nat.le_refl _, Nat.le_refl _⟩ rfl (Nat.le_of_ble_eq_true rfl) dL_law_792 ?_
  refine fw_aload_n (pc := 795) C 2 dL_law_795 rfl rfl ?_
  refine fw_aload_n (pc := 796) C 0 dL_law_796 rfl rfl ?_
  refine fw_iload_n (pc := 797) C 3 dL_law_797 rfl rfl ?_
  refine fw_iconst (pc := 798) C (v := 1) dL_law_798 fk_iconst_1 ?_
  refine fw_iadd (pc := 799) C dL_law_799 ?_
  refine fw_sld (pc := 800) C hX hbl hbA (sc_in (k := 1) (by omega) hL) dL_law_800 ?_
  refine fw_sw (EE2 := wk_r s.heap.size cI cZ cH cR Mc2) (M2 := Mr) rfl ?_
  refine fw_callV1 (pc := 801) (rest := [_]) C (c_Mod_raise (wk_Mod Mc2) h2) (cwV 1 C.2.2.2.2.1 gL_law_X9_raise rfl rfl rfl hd_Mod_raise ⟨Nat.le_of_ble_eq_true rfl, Nat.le_of_ble_eq_true rfl⟩) (wk_Mod Mc2).1 rfl rfl ⟨Nat.le_refl _, Nat.le_refl _⟩ rfl (Nat.le_of_ble_eq_true rfl) dL_law_801 ?_
  refine fw_sw (EE2 := wk_c s.heap.size cI cZ cH cR Mr2) (M2 := Mc2) rfl ?_
  exact fw_icmp_eq (pc := 804) C (tgt := 1338) dL_law_804 (by decide) (fun _ => kk _ _ hR2) (fun z => absurd rfl z)
set_option maxRecDepth 100000 in
theorem lc_third {p : Program} {l : Launch} {e : Env} {s : State} {m : MethodId} {below : List Frame} {meth : Method} {c : Code} {D : va_G} {cI cZ cH cR : ClassId} {b L : Nat} {xs : Nat → Int32} (C : fw_C p s m #[Value.ref b] meth c code RL wsL_law 4 ret D vwCl (fw_tys cI cZ cH cR) 212 (fk_ad s.heap.size) fw_nw0) (hX : va_X b L xs s s.heap) (hbl : b < s.heap.size) (hbA : ¬ fw_A 212 (fk_ad s.heap.size) s.heap.size b) (hL : L ≤ 384) {i : Nat} (hi : i + 6 ≤ L) {Mc Mr : fw_M} (hR : rl Mc Mr) (kk : ∀ Mc2 Mr2 : fw_M, rl Mc2 Mr2 → fw_J p l e room_1 s m #[Value.ref b] below meth c D vwCl 212 (fk_ad s.heap.size) (wk_c s.heap.size cI cZ cH cR Mr2) 4 600000 7302250 (lw_Z below #[Value.ref b] s) Mc2 [(0, .ref b), (1, .ref (s.heap.size + 0)), (2, .ref (s.heap.size + 199)), (3, .int (nI i))] 1338 []) : fw_J p l e room_1 s m #[Value.ref b] below meth c D vwCl 212 (fk_ad s.heap.size) (wk_c s.heap.size cI cZ cH cR Mr) 4 600000 7302250 (lw_Z below #[Value.ref b] s) Mc [(0, .ref b), (1, .ref (s.heap.size + 0)), (2, .ref (s.heap.size + 199)), (3, .int (nI i))] 809 [] := by
  obtain ⟨r, Mc2, Mr2, h1, h2, hR2⟩ := ow_third hR (xs (nI i + 1).toNatClampNeg) (xs (nI i + 2).toNatClampNeg)
  refine fw_aload_n (pc := 809) C 1 dL_law_809 rfl rfl ?_
  refine fw_aload_n (pc := 810) C 0 dL_law_810 rfl rfl ?_
  refine fw_iload_n (pc := 811) C 3 dL_law_811 rfl rfl ?_
  refine fw_iconst (pc := 812) C (v := 1) dL_law_812 fk_iconst_1 ?_
  refine fw_iadd (pc := 813) C dL_law_813 ?_
  refine fw_sld (pc := 814) C hX hbl hbA (sc_in (k := 1) (by omega) hL) dL_law_814 ?_
  refine fw_aload_n (pc := 815) C 0 dL_law_815 rfl rfl ?_
  refine fw_iload_n (pc := 816) C 3 dL_law_816 rfl rfl ?_
  refine fw_iconst (pc := 817) C (v := 2) dL_law_817 fk_iconst_2 ?_
  refine fw_iadd (pc := 818) C dL_law_818 ?_
  refine fw_sld (pc := 819) C hX hbl hbA (sc_in (k := 2) (by omega) hL) dL_law_819 ?_
  refine fw_callV1 (pc := 820) (rest := []) C (c_Door_third (wk_Door Mr) h1) (cwV 2 C.2.2.2.2.1 gL_law_X8_third rfl rfl rfl hd_Door_third ⟨Nat.le_of_ble_eq_true rfl, Nat.le_of_ble_eq_true rfl⟩) (wk_Door Mr).1 rfl rfl ⟨Nat.le_refl _, Nat.le_refl _⟩ rfl (Nat.le_of_ble_eq_true rfl) dL_law_820 ?_
  refine fw_aload_n (pc := 823) C 2 dL_law_823 rfl rfl ?_
  refine fw_aload_n (pc := 824) C 0 dL_law_824 rfl rfl ?_
  refine fw_iload_n (pc := 825) C 3 dL_law_825 rfl rfl ?_
  refine fw_iconst (pc := 826) C (v := 1) dL_law_826 fk_iconst_1 ?_
  refine fw_iadd (pc := 827) C dL_law_827 ?_
  refine fw_sld (pc := 828) C hX hbl hbA (sc_in (k := 1) (by omega) hL) dL_law_828 ?_
  refine fw_aload_n (pc := 829) C 0 dL_law_829 rfl rfl ?_
  refine fw_iload_n (pc := 830) C 3 dL_law_830 rfl rfl ?_
  refine fw_iconst (pc := 831) C (v := 2) dL_law_831 fk_iconst_2 ?_
  refine fw_iadd (pc := 832) C dL_law_832 ?_
  refine fw_sld (pc := 833) C hX hbl hbA (sc_in (k := 2) (by omega) hL) dL_law_833 ?_
  refine fw_sw (EE2 := wk_r s.heap.size cI cZ cH cR Mc2) (M2 := Mr) rfl ?_
  refine fw_callV1 (pc := 834) (rest := [_]) C (c_Mod_third (wk_Mod Mc2) h2) (cwV 2 C.2.2.2.2.1 gL_law_X9_third rfl rfl rfl hd_Mod_third ⟨Nat.le_of_ble_eq_true rfl, Nat.le_of_ble_eq_true rfl⟩) (wk_Mod Mc2).1 rfl rfl ⟨Nat.le_refl _, Nat.le_refl _⟩ rfl (Nat.le_of_ble_eq_true rfl) dL_law_834 ?_
  refine fw_sw (EE2 := wk_c s.heap.size cI cZ cH cR Mr2) (M2 := Mc2) rfl ?_
  exact fw_icmp_eq (pc := 837) C (tgt := 1338) dL_law_837 (by decide) (fun _ => kk _ _ hR2) (fun z => absurd rfl z)
set_option maxRecDepth 100000 in
theorem lc_bestDoor {p : Program} {l : Launch} {e : Env} {s : State} {m : MethodId} {below : List Frame} {meth : Method} {c : Code} {D : va_G} {cI cZ cH cR : ClassId} {b L : Nat} {xs : Nat → Int32} (C : fw_C p s m #[Value.ref b] meth c code RL wsL_law 4 ret D vwCl (fw_tys cI cZ cH cR) 212 (fk_ad s.heap.size) fw_nw0) (hX : va_X b L xs s s.heap) (hbl : b < s.heap.size) (hbA : ¬ fw_A 212 (fk_ad s.heap.size) s.heap.size b) (hL : L ≤ 384) {i : Nat} (hi : i + 6 ≤ L) {Mc Mr : fw_M} (hR : rl Mc Mr) (kk : ∀ Mc2 Mr2 : fw_M, rl Mc2 Mr2 → fw_J p l e room_1 s m #[Value.ref b] below meth c D vwCl 212 (fk_ad s.heap.size) (wk_c s.heap.size cI cZ cH cR Mr2) 4 600000 7302250 (lw_Z below #[Value.ref b] s) Mc2 [(0, .ref b), (1, .ref (s.heap.size + 0)), (2, .ref (s.heap.size + 199)), (3, .int (nI i))] 1338 []) : fw_J p l e room_1 s m #[Value.ref b] below meth c D vwCl 212 (fk_ad s.heap.size) (wk_c s.heap.size cI cZ cH cR Mr) 4 600000 7302250 (lw_Z below #[Value.ref b] s) Mc [(0, .ref b), (1, .ref (s.heap.size + 0)), (2, .ref (s.heap.size + 199)), (3, .int (nI i))] 842 [] := by
  obtain ⟨r, Mc2, Mr2, h1, h2, hR2⟩ := ow_bestDoor hR (xs (nI i + 1).toNatClampNeg) (xs (nI i + 2).toNatClampNeg)
  refine fw_aload_n (pc := 842) C 1 dL_law_842 rfl rfl ?_
  refine fw_aload_n (pc := 843) C 0 dL_law_843 rfl rfl ?_
  refine fw_iload_n (pc := 844) C 3 dL_law_844 rfl rfl ?_
  refine fw_iconst (pc := 845) C (v := 1) dL_law_845 fk_iconst_1 ?_
  refine fw_iadd (pc := 846) C dL_law_846 ?_
  refine fw_sld (pc := 847) C hX hbl hbA (sc_in (k := 1) (by omega) hL) dL_law_847 ?_
  refine fw_aload_n (pc := 848) C 0 dL_law_848 rfl rfl ?_
  refine fw_iload_n (pc := 849) C 3 dL_law_849 rfl rfl ?_
  refine fw_iconst (pc := 850) C (v := 2) dL_law_850 fk_iconst_2 ?_
  refine fw_iadd (pc := 851) C dL_law_851 ?_
  refine fw_sld (pc := 852) C hX hbl hbA (sc_in (k := 2) (by omega) hL) dL_law_852 ?_
  refine fw_callV1 (pc := 853) (rest := []) C (c_Door_bestDoor (wk_Door Mr) h1) (cwV 2 C.2.2.2.2.1 gL_law_X8_bestDoor rfl rfl rfl hd_Door_bestDoor ⟨Nat.le_of_ble_eq_true rfl, Nat.le_of_ble_eq_true rfl⟩) (wk_Door Mr).1 rfl rfl ⟨Nat.le_refl _, Nat.le_refl _⟩ rfl (Nat.le_of_ble_eq_true rfl) dL_law_853 ?_
  refine fw_aload_n (pc := 856) C 2 dL_law_856 rfl rfl ?_
  refine fw_aload_n (pc := 857) C 0 dL_law_857 rfl rfl ?_
  refine fw_iload_n (pc := 858) C 3 dL_law_858 rfl rfl ?_
  refine fw_iconst (pc := 859) C (v := 1) dL_law_859 fk_iconst_1 ?_
  refine fw_iadd (pc := 860) C dL_law_860 ?_
  refine fw_sld (pc := 861) C hX hbl hbA (sc_in (k := 1) (by omega) hL) dL_law_861 ?_
  refine fw_aload_n (pc := 862) C 0 dL_law_862 rfl rfl ?_
  refine fw_iload_n (pc := 863) C 3 dL_law_863 rfl rfl ?_
  refine fw_iconst (pc := 864) C (v := 2) dL_law_864 fk_iconst_2 ?_
  refine fw_iadd (pc := 865) C dL_law_865 ?_
  refine fw_sld (pc := 866) C hX hbl hbA (sc_in (k := 2) (by omega) hL) dL_law_866 ?_
  refine fw_sw (EE2 := wk_r s.heap.size cI cZ cH cR Mc2) (M2 := Mr) rfl ?_
  refine fw_callV1 (pc := 867) (rest := [_]) C (c_Mod_bestDoor (wk_Mod Mc2) h2) (cwV 2 C.2.2.2.2.1 gL_law_X9_bestDoor rfl rfl rfl hd_Mod_bestDoor ⟨Nat.le_of_ble_eq_true rfl, Nat.le_of_ble_eq_true rfl⟩) (wk_Mod Mc2).1 rfl rfl ⟨Nat.le_refl _, Nat.le_refl _⟩ rfl (Nat.le_of_ble_eq_true rfl) dL_law_867 ?_
  refine fw_sw (EE2 := wk_c s.heap.size cI cZ cH cR Mr2) (M2 := Mc2) rfl ?_
  exact fw_icmp_eq (pc := 870) C (tgt := 1338) dL_law_870 (by decide) (fun _ => kk _ _ hR2) (fun z => absurd rfl z)
set_option maxRecDepth 100000 in
theorem lc_ranks {p : Program} {l : Launch} {e : Env} {s : State} {m : MethodId} {below : List Frame} {meth : Method} {c : Code} {D : va_G} {cI cZ cH cR : ClassId} {b L : Nat} {xs : Nat → Int32} (C : fw_C p s m #[Value.ref b] meth c code RL wsL_law 4 ret D vwCl (fw_tys cI cZ cH cR) 212 (fk_ad s.heap.size) fw_nw0) (hX : va_X b L xs s s.heap) (hbl : b < s.heap.size) (hbA : ¬ fw_A 212 (fk_ad s.heap.size) s.heap.size b) (hL : L ≤ 384) {i : Nat} (hi : i + 6 ≤ L) {Mc Mr : fw_M} (hR : rl Mc Mr) (kk : ∀ Mc2 Mr2 : fw_M, rl Mc2 Mr2 → fw_J p l e room_1 s m #[Value.ref b] below meth c D vwCl 212 (fk_ad s.heap.size) (wk_c s.heap.size cI cZ cH cR Mr2) 4 600000 7302250 (lw_Z below #[Value.ref b] s) Mc2 [(0, .ref b), (1, .ref (s.heap.size + 0)), (2, .ref (s.heap.size + 199)), (3, .int (nI i))] 1338 []) : fw_J p l e room_1 s m #[Value.ref b] below meth c D vwCl 212 (fk_ad s.heap.size) (wk_c s.heap.size cI cZ cH cR Mr) 4 600000 7302250 (lw_Z below #[Value.ref b] s) Mc [(0, .ref b), (1, .ref (s.heap.size + 0)), (2, .ref (s.heap.size + 199)), (3, .int (nI i))] 875 [] := by
  obtain ⟨r, Mc2, Mr2, h1, h2, hR2⟩ := ow_ranks hR (xs (nI i + 1).toNatClampNeg) (xs (nI i + 2).toNatClampNeg) (xs (nI i + 3).toNatClampNeg) (xs (nI i + 4).toNatClampNeg) (xs (nI i + 5).toNatClampNeg)
  refine fw_aload_n (pc := 875) C 1 dL_law_875 rfl rfl ?_
  refine fw_aload_n (pc := 876) C 0 dL_law_876 rfl rfl ?_
  refine fw_iload_n (pc := 877) C 3 dL_law_877 rfl rfl ?_
  refine fw_iconst (pc := 878) C (v := 1) dL_law_878 fk_iconst_1 ?_
  refine fw_iadd (pc := 879) C dL_law_879 ?_
  refine fw_sld (pc := 880) C hX hbl hbA (sc_in (k := 1) (by omega) hL) dL_law_880 ?_
  refine fw_aload_n (pc := 881) C 0 dL_law_881 rfl rfl ?_
  refine fw_iload_n (pc := 882) C 3 dL_law_882 rfl rfl ?_
  refine fw_iconst (pc := 883) C (v := 2) dL_law_883 fk_iconst_2 ?_
  refine fw_iadd (pc := 884) C dL_law_884 ?_
  refine fw_sld (pc := 885) C hX hbl hbA (sc_in (k := 2) (by omega) hL) dL_law_885 ?_
  refine fw_aload_n (pc := 886) C 0 dL_law_886 rfl rfl ?_
  refine fw_iload_n (pc := 887) C 3 dL_law_887 rfl rfl ?_
  refine fw_iconst (pc := 888) C (v := 3) dL_law_888 fk_iconst_3 ?_
  refine fw_iadd (pc := 889) C dL_law_889 ?_
  refine fw_sld (pc := 890) C hX hbl hbA (sc_in (k := 3) (by omega) hL) dL_law_890 ?_
  refine fw_aload_n (pc := 891) C 0 dL_law_891 rfl rfl ?_
  refine fw_iload_n (pc := 892) C 3 dL_law_892 rfl rfl ?_
  refine fw_iconst (pc := 893) C (v := 4) dL_law_893 fk_iconst_4 ?_
  refine fw_iadd (pc := 894) C dL_law_894 ?_
  refine fw_sld (pc := 895) C hX hbl hbA (sc_in (k := 4) (by omega) hL) dL_law_895 ?_
  refine fw_aload_n (pc := 896) C 0 dL_law_896 rfl rfl ?_
  refine fw_iload_n (pc := 897) C 3 dL_law_897 rfl rfl ?_
  refine fw_iconst (pc := 898) C (v := 5) dL_law_898 fk_iconst_5 ?_
  refine fw_iadd (pc := 899) C dL_law_899 ?_
  refine fw_sld (pc := 900) C hX hbl hbA (sc_in (k := 5) (by omega) hL) dL_law_900 ?_
  refine fw_callV1 (pc := 901) (rest := []) C (c_Door_ranks (wk_Door Mr) h1) (cwV 5 C.2.2.2.2.1 gL_law_X8_ranks rfl rfl rfl hd_Door_ranks ⟨Nat.le_of_ble_eq_true rfl, Nat.le_of_ble_eq_true rfl⟩) (wk_Door Mr).1 rfl rfl ⟨Nat.le_refl _, Nat.le_refl _⟩ rfl (Nat.le_of_ble_eq_true rfl) dL_law_901 ?_
  refine fw_aload_n (pc := 904) C 2 dL_law_904 rfl rfl ?_
  refine fw_aload_n (pc := 905) C 0 dL_law_905 rfl rfl ?_
  refine fw_iload_n (pc := 906) C 3 dL_law_906 rfl rfl ?_
  refine fw_iconst (pc := 907) C (v := 1) dL_law_907 fk_iconst_1 ?_
  refine fw_iadd (pc := 908) C dL_law_908 ?_
  refine fw_sld (pc := 909) C hX hbl hbA (sc_in (k := 1) (by omega) hL) dL_law_909 ?_
  refine fw_aload_n (pc := 910) C 0 dL_law_910 rfl rfl ?_
  refine fw_iload_n (pc := 911) C 3 dL_law_911 rfl rfl ?_
  refine fw_iconst (pc := 912) C (v := 2) dL_law_912 fk_iconst_2 ?_
  refine fw_iadd (pc := 913) C dL_law_913 ?_
  refine fw_sld (pc := 914) C hX hbl hbA (sc_in (k := 2) (by omega) hL) dL_law_914 ?_
  refine fw_aload_n (pc := 915) C 0 dL_law_915 rfl rfl ?_
  refine fw_iload_n (pc := 916) C 3 dL_law_916 rfl rfl ?_
  refine fw_iconst (pc := 917) C (v := 3) dL_law_917 fk_iconst_3 ?_
  refine fw_iadd (pc := 918) C dL_law_918 ?_
  refine fw_sld (pc := 919) C hX hbl hbA (sc_in (k := 3) (by omega) hL) dL_law_919 ?_
  refine fw_aload_n (pc := 920) C 0 dL_law_920 rfl rfl ?_
  refine fw_iload_n (pc := 921) C 3 dL_law_921 rfl rfl ?_
  refine fw_iconst (pc := 922) C (v := 4) dL_law_922 fk_iconst_4 ?_
  refine fw_iadd (pc := 923) C dL_law_923 ?_
  refine fw_sld (pc := 924) C hX hbl hbA (sc_in (k := 4) (by omega) hL) dL_law_924 ?_
  refine fw_aload_n (pc := 925) C 0 dL_law_925 rfl rfl ?_
  refine fw_iload_n (pc := 926) C 3 dL_law_926 rfl rfl ?_
  refine fw_iconst (pc := 927) C (v := 5) dL_law_927 fk_iconst_5 ?_
  refine fw_iadd (pc := 928) C dL_law_928 ?_
  refine fw_sld (pc := 929) C hX hbl hbA (sc_in (k := 5) (by omega) hL) dL_law_929 ?_
  refine fw_sw (EE2 := wk_r s.heap.size cI cZ cH cR Mc2) (M2 := Mr) rfl ?_
  refine fw_callV1 (pc := 930) (rest := [_]) C (c_Mod_ranks (wk_Mod Mc2) h2) (cwV 5 C.2.2.2.2.1 gL_law_X9_ranks rfl rfl rfl hd_Mod_ranks ⟨Nat.le_of_ble_eq_true rfl, Nat.le_of_ble_eq_true rfl⟩) (wk_Mod Mc2).1 rfl rfl ⟨Nat.le_refl _, Nat.le_refl _⟩ rfl (Nat.le_of_ble_eq_true rfl) dL_law_930 ?_
  refine fw_sw (EE2 := wk_c s.heap.size cI cZ cH cR Mr2) (M2 := Mc2) rfl ?_
  exact fw_icmp_eq (pc := 933) C (tgt := 1338) dL_law_933 (by decide) (fun _ => kk _ _ hR2) (fun z => absurd rfl z)
set_option maxRecDepth 100000 in
theorem lc_who {p : Program} {l : Launch} {e : Env} {s : State} {m : MethodId} {below : List Frame} {meth : Method} {c : Code} {D : va_G} {cI cZ cH cR : ClassId} {b L : Nat} {xs : Nat → Int32} (C : fw_C p s m #[Value.ref b] meth c code RL wsL_law 4 ret D vwCl (fw_tys cI cZ cH cR) 212 (fk_ad s.heap.size) fw_nw0) (hX : va_X b L xs s s.heap) (hbl : b < s.heap.size) (hbA : ¬ fw_A 212 (fk_ad s.heap.size) s.heap.size b) (hL : L ≤ 384) {i : Nat} (hi : i + 6 ≤ L) {Mc Mr : fw_M} (hR : rl Mc Mr) (kk : ∀ Mc2 Mr2 : fw_M, rl Mc2 Mr2 → fw_J p l e room_1 s m #[Value.ref b] below meth c D vwCl 212 (fk_ad s.heap.size) (wk_c s.heap.size cI cZ cH cR Mr2) 4 600000 7302250 (lw_Z below #[Value.ref b] s) Mc2 [(0, .ref b), (1, .ref (s.heap.size + 0)), (2, .ref (s.heap.size + 199)), (3, .int (nI i))] 1338 []) : fw_J p l e room_1 s m #[Value.ref b] below meth c D vwCl 212 (fk_ad s.heap.size) (wk_c s.heap.size cI cZ cH cR Mr) 4 600000 7302250 (lw_Z below #[Value.ref b] s) Mc [(0, .ref b), (1, .ref (s.heap.size + 0)), (2, .ref (s.heap.size + 199)), (3, .int (nI i))] 938 [] := by
  obtain ⟨r, Mc2, Mr2, h1, h2, hR2⟩ := ow_who hR (xs (nI i + 1).toNatClampNeg) (xs (nI i + 2).toNatClampNeg) (xs (nI i + 3).toNatClampNeg) (xs (nI i + 4).toNatClampNeg) (xs (nI i + 5).toNatClampNeg)
  refine fw_aload_n (pc := 938) C 1 dL_law_938 rfl rfl ?_
  refine fw_aload_n (pc := 939) C 0 dL_law_939 rfl rfl ?_
  refine fw_iload_n (pc := 940) C 3 dL_law_940 rfl rfl ?_
  refine fw_iconst (pc := 941) C (v := 1) dL_law_941 fk_iconst_1 ?_
  refine fw_iadd (pc := 942) C dL_law_942 ?_
  refine fw_sld (pc := 943) C hX hbl hbA (sc_in (k := 1) (by omega) hL) dL_law_943 ?_
  refine fw_aload_n (pc := 944) C 0 dL_law_944 rfl rfl ?_
  refine fw_iload_n (pc := 945) C 3 dL_law_945 rfl rfl ?_
  refine fw_iconst (pc := 946) C (v := 2) dL_law_946 fk_iconst_2 ?_
  refine fw_iadd (pc := 947) C dL_law_947 ?_
  refine fw_sld (pc := 948) C hX hbl hbA (sc_in (k := 2) (by omega) hL) dL_law_948 ?_
  refine fw_aload_n (pc := 949) C 0 dL_law_949 rfl rfl ?_
  refine fw_iload_n (pc := 950) C 3 dL_law_950 rfl rfl ?_
  refine fw_iconst (pc := 951) C (v := 3) dL_law_951 fk_iconst_3 ?_
  refine fw_iadd (pc := 952) C dL_law_952 ?_
  refine fw_sld (pc := 953) C hX hbl hbA (sc_in (k := 3) (by omega) hL) dL_law_953 ?_
  refine fw_aload_n (pc := 954) C 0 dL_law_954 rfl rfl ?_
  refine fw_iload_n (pc := 955) C 3 dL_law_955 rfl rfl ?_
  refine fw_iconst (pc := 956) C (v := 4) dL_law_956 fk_iconst_4 ?_
  refine fw_iadd (pc := 957) C dL_law_957 ?_
  refine fw_sld (pc := 958) C hX hbl hbA (sc_in (k := 4) (by omega) hL) dL_law_958 ?_
  refine fw_aload_n (pc := 959) C 0 dL_law_959 rfl rfl ?_
  refine fw_iload_n (pc := 960) C 3 dL_law_960 rfl rfl ?_
  refine fw_iconst (pc := 961) C (v := 5) dL_law_961 fk_iconst_5 ?_
  refine fw_iadd (pc := 962) C dL_law_962 ?_
  refine fw_sld (pc := 963) C hX hbl hbA (sc_in (k := 5) (by omega) hL) dL_law_963 ?_
  refine fw_callV1 (pc := 964) (rest := []) C (c_Door_who (wk_Door Mr) h1) (cwV 5 C.2.2.2.2.1 gL_law_X8_who rfl rfl rfl hd_Door_who ⟨Nat.le_of_ble_eq_true rfl, Nat.le_of_ble_eq_true rfl⟩) (wk_Door Mr).1 rfl rfl ⟨Nat.le_refl _, Nat.le_refl _⟩ rfl (Nat.le_of_ble_eq_true rfl) dL_law_964 ?_
  refine fw_aload_n (pc := 967) C 2 dL_law_967 rfl rfl ?_
  refine fw_aload_n (pc := 968) C 0 dL_law_968 rfl rfl ?_
  refine fw_iload_n (pc := 969) C 3 dL_law_969 rfl rfl ?_
  refine fw_iconst (pc := 970) C (v := 1) dL_law_970 fk_iconst_1 ?_
  refine fw_iadd (pc := 971) C dL_law_971 ?_
  refine fw_sld (pc := 972) C hX hbl hbA (sc_in (k := 1) (by omega) hL) dL_law_972 ?_
  refine fw_aload_n (pc := 973) C 0 dL_law_973 rfl rfl ?_
  refine fw_iload_n (pc := 974) C 3 dL_law_974 rfl rfl ?_
  refine fw_iconst (pc := 975) C (v := 2) dL_law_975 fk_iconst_2 ?_
  refine fw_iadd (pc := 976) C dL_law_976 ?_
  refine fw_sld (pc := 977) C hX hbl hbA (sc_in (k := 2) (by omega) hL) dL_law_977 ?_
  refine fw_aload_n (pc := 978) C 0 dL_law_978 rfl rfl ?_
  refine fw_iload_n (pc := 979) C 3 dL_law_979 rfl rfl ?_
  refine fw_iconst (pc := 980) C (v := 3) dL_law_980 fk_iconst_3 ?_
  refine fw_iadd (pc := 981) C dL_law_981 ?_
  refine fw_sld (pc := 982) C hX hbl hbA (sc_in (k := 3) (by omega) hL) dL_law_982 ?_
  refine fw_aload_n (pc := 983) C 0 dL_law_983 rfl rfl ?_
  refine fw_iload_n (pc := 984) C 3 dL_law_984 rfl rfl ?_
  refine fw_iconst (pc := 985) C (v := 4) dL_law_985 fk_iconst_4 ?_
  refine fw_iadd (pc := 986) C dL_law_986 ?_
  refine fw_sld (pc := 987) C hX hbl hbA (sc_in (k := 4) (by omega) hL) dL_law_987 ?_
  refine fw_aload_n (pc := 988) C 0 dL_law_988 rfl rfl ?_
  refine fw_iload_n (pc := 989) C 3 dL_law_989 rfl rfl ?_
  refine fw_iconst (pc := 990) C (v := 5) dL_law_990 fk_iconst_5 ?_
  refine fw_iadd (pc := 991) C dL_law_991 ?_
  refine fw_sld (pc := 992) C hX hbl hbA (sc_in (k := 5) (by omega) hL) dL_law_992 ?_
  refine fw_sw (EE2 := wk_r s.heap.size cI cZ cH cR Mc2) (M2 := Mr) rfl ?_
  refine fw_callV1 (pc := 993) (rest := [_]) C (c_Mod_who (wk_Mod Mc2) h2) (cwV 5 C.2.2.2.2.1 gL_law_X9_who rfl rfl rfl hd_Mod_who ⟨Nat.le_of_ble_eq_true rfl, Nat.le_of_ble_eq_true rfl⟩) (wk_Mod Mc2).1 rfl rfl ⟨Nat.le_refl _, Nat.le_refl _⟩ rfl (Nat.le_of_ble_eq_true rfl) dL_law_993 ?_
  refine fw_sw (EE2 := wk_c s.heap.size cI cZ cH cR Mr2) (M2 := Mc2) rfl ?_
  exact fw_icmp_eq (pc := 996) C (tgt := 1338) dL_law_996 (by decide) (fun _ => kk _ _ hR2) (fun z => absurd rfl z)
set_option maxRecDepth 100000 in
theorem lc_precedence {p : Program} {l : Launch} {e : Env} {s : State} {m : MethodId} {below : List Frame} {meth : Method} {c : Code} {D : va_G} {cI cZ cH cR : ClassId} {b L : Nat} {xs : Nat → Int32} (C : fw_C p s m #[Value.ref b] meth c code RL wsL_law 4 ret D vwCl (fw_tys cI cZ cH cR) 212 (fk_ad s.heap.size) fw_nw0) (hX : va_X b L xs s s.heap) (hbl : b < s.heap.size) (hbA : ¬ fw_A 212 (fk_ad s.heap.size) s.heap.size b) (hL : L ≤ 384) {i : Nat} (hi : i + 6 ≤ L) {Mc Mr : fw_M} (hR : rl Mc Mr) (kk : ∀ Mc2 Mr2 : fw_M, rl Mc2 Mr2 → fw_J p l e room_1 s m #[Value.ref b] below meth c D vwCl 212 (fk_ad s.heap.size) (wk_c s.heap.size cI cZ cH cR Mr2) 4 600000 7302250 (lw_Z below #[Value.ref b] s) Mc2 [(0, .ref b), (1, .ref (s.heap.size + 0)), (2, .ref (s.heap.size + 199)), (3, .int (nI i))] 1338 []) : fw_J p l e room_1 s m #[Value.ref b] below meth c D vwCl 212 (fk_ad s.heap.size) (wk_c s.heap.size cI cZ cH cR Mr) 4 600000 7302250 (lw_Z below #[Value.ref b] s) Mc [(0, .ref b), (1, .ref (s.heap.size + 0)), (2, .ref (s.heap.size + 199)), (3, .int (nI i))] 1001 [] := by
  obtain ⟨r, Mc2, Mr2, h1, h2, hR2⟩ := ow_precedence hR (xs (nI i + 1).toNatClampNeg) (xs (nI i + 2).toNatClampNeg)
  refine fw_aload_n (pc := 1001) C 1 dL_law_1001 rfl rfl ?_
  refine fw_aload_n (pc := 1002) C 0 dL_law_1002 rfl rfl ?_
  refine fw_iload_n (pc := 1003) C 3 dL_law_1003 rfl rfl ?_
  refine fw_iconst (pc := 1004) C (v := 1) dL_law_1004 fk_iconst_1 ?_
  refine fw_iadd (pc := 1005) C dL_law_1005 ?_
  refine fw_sld (pc := 1006) C hX hbl hbA (sc_in (k := 1) (by omega) hL) dL_law_1006 ?_
  refine fw_aload_n (pc := 1007) C 0 dL_law_1007 rfl rfl ?_
  refine fw_iload_n (pc := 1008) C 3 dL_law_1008 rfl rfl ?_
  refine fw_iconst (pc := 1009) C (v := 2) dL_law_1009 fk_iconst_2 ?_
  refine fw_iadd (pc := 1010) C dL_law_1010 ?_
  refine fw_sld (pc := 1011) C hX hbl hbA (sc_in (k := 2) (by omega) hL) dL_law_1011 ?_
  refine fw_callV1 (pc := 1012) (rest := []) C (c_Door_precedence (wk_Door Mr) h1) (cwV 2 C.2.2.2.2.1 gL_law_X8_precedence rfl rfl rfl hd_Door_precedence ⟨Nat.le_of_ble_eq_true rfl, Nat.le_of_ble_eq_true rfl⟩) (wk_Door Mr).1 rfl rfl ⟨Nat.le_refl _, Nat.le_refl _⟩ rfl (Nat.le_of_ble_eq_true rfl) dL_law_1012 ?_
  refine fw_aload_n (pc := 1015) C 2 dL_law_1015 rfl rfl ?_
  refine fw_aload_n (pc := 1016) C 0 dL_law_1016 rfl rfl ?_
  refine fw_iload_n (pc := 1017) C 3 dL_law_1017 rfl rfl ?_
  refine fw_iconst (pc := 1018) C (v := 1) dL_law_1018 fk_iconst_1 ?_
  refine fw_iadd (pc := 1019) C dL_law_1019 ?_
  refine fw_sld (pc := 1020) C hX hbl hbA (sc_in (k := 1) (by omega) hL) dL_law_1020 ?_
  refine fw_aload_n (pc := 1021) C 0 dL_law_1021 rfl rfl ?_
  refine fw_iload_n (pc := 1022) C 3 dL_law_1022 rfl rfl ?_
  refine fw_iconst (pc := 1023) C (v := 2) dL_law_1023 fk_iconst_2 ?_
  refine fw_iadd (pc := 1024) C dL_law_1024 ?_
  refine fw_sld (pc := 1025) C hX hbl hbA (sc_in (k := 2) (by omega) hL) dL_law_1025 ?_
  refine fw_sw (EE2 := wk_r s.heap.size cI cZ cH cR Mc2) (M2 := Mr) rfl ?_
  refine fw_callV1 (pc := 1026) (rest := [_]) C (c_Mod_precedence (wk_Mod Mc2) h2) (cwV 2 C.2.2.2.2.1 gL_law_X9_precedence rfl rfl rfl hd_Mod_precedence ⟨Nat.le_of_ble_eq_true rfl, Nat.le_of_ble_eq_true rfl⟩) (wk_Mod Mc2).1 rfl rfl ⟨Nat.le_refl _, Nat.le_refl _⟩ rfl (Nat.le_of_ble_eq_true rfl) dL_law_1026 ?_
  refine fw_sw (EE2 := wk_c s.heap.size cI cZ cH cR Mr2) (M2 := Mc2) rfl ?_
  exact fw_icmp_eq (pc := 1029) C (tgt := 1338) dL_law_1029 (by decide) (fun _ => kk _ _ hR2) (fun z => absurd rfl z)
set_option maxRecDepth 100000 in
theorem lc_both {p : Program} {l : Launch} {e : Env} {s : State} {m : MethodId} {below : List Frame} {meth : Method} {c : Code} {D : va_G} {cI cZ cH cR : ClassId} {b L : Nat} {xs : Nat → Int32} (C : fw_C p s m #[Value.ref b] meth c code RL wsL_law 4 ret D vwCl (fw_tys cI cZ cH cR) 212 (fk_ad s.heap.size) fw_nw0) (hX : va_X b L xs s s.heap) (hbl : b < s.heap.size) (hbA : ¬ fw_A 212 (fk_ad s.heap.size) s.heap.size b) (hL : L ≤ 384) {i : Nat} (hi : i + 6 ≤ L) {Mc Mr : fw_M} (hR : rl Mc Mr) (kk : ∀ Mc2 Mr2 : fw_M, rl Mc2 Mr2 → fw_J p l e room_1 s m #[Value.ref b] below meth c D vwCl 212 (fk_ad s.heap.size) (wk_c s.heap.size cI cZ cH cR Mr2) 4 600000 7302250 (lw_Z below #[Value.ref b] s) Mc2 [(0, .ref b), (1, .ref (s.heap.size + 0)), (2, .ref (s.heap.size + 199)), (3, .int (nI i))] 1338 []) : fw_J p l e room_1 s m #[Value.ref b] below meth c D vwCl 212 (fk_ad s.heap.size) (wk_c s.heap.size cI cZ cH cR Mr) 4 600000 7302250 (lw_Z below #[Value.ref b] s) Mc [(0, .ref b), (1, .ref (s.heap.size + 0)), (2, .ref (s.heap.size + 199)), (3, .int (nI i))] 1034 [] := by
  obtain ⟨r, Mr2, h1, h2, hR2⟩ := ow_both hR (xs (nI i + 1).toNatClampNeg)
  refine fw_aload_n (pc := 1034) C 1 dL_law_1034 rfl rfl ?_
  refine fw_aload_n (pc := 1035) C 0 dL_law_1035 rfl rfl ?_
  refine fw_iload_n (pc := 1036) C 3 dL_law_1036 rfl rfl ?_
  refine fw_iconst (pc := 1037) C (v := 1) dL_law_1037 fk_iconst_1 ?_
  refine fw_iadd (pc := 1038) C dL_law_1038 ?_
  refine fw_sld (pc := 1039) C hX hbl hbA (sc_in (k := 1) (by omega) hL) dL_law_1039 ?_
  refine fw_callV1 (pc := 1040) (rest := []) C (c_Door_both (wk_Door Mr) h1) (cwV 1 C.2.2.2.2.1 gL_law_X8_both rfl rfl rfl hd_Door_both ⟨Nat.le_of_ble_eq_true rfl, Nat.le_of_ble_eq_true rfl⟩) (wk_Door Mr).1 rfl rfl ⟨Nat.le_refl _, Nat.le_refl _⟩ rfl (Nat.le_of_ble_eq_true rfl) dL_law_1040 ?_
  refine fw_aload_n (pc := 1043) C 2 dL_law_1043 rfl rfl ?_
  refine fw_aload_n (pc := 1044) C 0 dL_law_1044 rfl rfl ?_
  refine fw_iload_n (pc := 1045) C 3 dL_law_1045 rfl rfl ?_
  refine fw_iconst (pc := 1046) C (v := 1) dL_law_1046 fk_iconst_1 ?_
  refine fw_iadd (pc := 1047) C dL_law_1047 ?_
  refine fw_sld (pc := 1048) C hX hbl hbA (sc_in (k := 1) (by omega) hL) dL_law_1048 ?_
  refine fw_sw (EE2 := wk_r s.heap.size cI cZ cH cR Mc) (M2 := Mr) rfl ?_
  refine fw_callV1 (pc := 1049) (rest := [_]) C (c_Mod_both (wk_Mod Mc) h2) (cwV 1 C.2.2.2.2.1 gL_law_X9_both rfl rfl rfl hd_Mod_both ⟨Nat.le_of_ble_eq_true rfl, Nat.le_of_ble_eq_true rfl⟩) (wk_Mod Mc).1 rfl rfl ⟨Nat.le_refl _, Nat.le_refl _⟩ rfl (Nat.le_of_ble_eq_true rfl) dL_law_1049 ?_
  refine fw_sw (EE2 := wk_c s.heap.size cI cZ cH cR Mr2) (M2 := Mc) rfl ?_
  exact fw_icmp_eq (pc := 1052) C (tgt := 1338) dL_law_1052 (by decide) (fun _ => kk _ _ hR2) (fun z => absurd rfl z)
set_option maxRecDepth 100000 in
theorem lc_faint {p : Program} {l : Launch} {e : Env} {s : State} {m : MethodId} {below : List Frame} {meth : Method} {c : Code} {D : va_G} {cI cZ cH cR : ClassId} {b L : Nat} {xs : Nat → Int32} (C : fw_C p s m #[Value.ref b] meth c code RL wsL_law 4 ret D vwCl (fw_tys cI cZ cH cR) 212 (fk_ad s.heap.size) fw_nw0) (hX : va_X b L xs s s.heap) (hbl : b < s.heap.size) (hbA : ¬ fw_A 212 (fk_ad s.heap.size) s.heap.size b) (hL : L ≤ 384) {i : Nat} (hi : i + 6 ≤ L) {Mc Mr : fw_M} (hR : rl Mc Mr) (kk : ∀ Mc2 Mr2 : fw_M, rl Mc2 Mr2 → fw_J p l e room_1 s m #[Value.ref b] below meth c D vwCl 212 (fk_ad s.heap.size) (wk_c s.heap.size cI cZ cH cR Mr2) 4 600000 7302250 (lw_Z below #[Value.ref b] s) Mc2 [(0, .ref b), (1, .ref (s.heap.size + 0)), (2, .ref (s.heap.size + 199)), (3, .int (nI i))] 1338 []) : fw_J p l e room_1 s m #[Value.ref b] below meth c D vwCl 212 (fk_ad s.heap.size) (wk_c s.heap.size cI cZ cH cR Mr) 4 600000 7302250 (lw_Z below #[Value.ref b] s) Mc [(0, .ref b), (1, .ref (s.heap.size + 0)), (2, .ref (s.heap.size + 199)), (3, .int (nI i))] 1057 [] := by
  obtain ⟨r, Mc2, Mr2, h1, h2, hR2⟩ := ow_faint hR (xs (nI i + 1).toNatClampNeg) (xs (nI i + 2).toNatClampNeg) (xs (nI i + 3).toNatClampNeg)
  refine fw_aload_n (pc := 1057) C 1 dL_law_1057 rfl rfl ?_
  refine fw_aload_n (pc := 1058) C 0 dL_law_1058 rfl rfl ?_
  refine fw_iload_n (pc := 1059) C 3 dL_law_1059 rfl rfl ?_
  refine fw_iconst (pc := 1060) C (v := 1) dL_law_1060 fk_iconst_1 ?_
  refine fw_iadd (pc := 1061) C dL_law_1061 ?_
  refine fw_sld (pc := 1062) C hX hbl hbA (sc_in (k := 1) (by omega) hL) dL_law_1062 ?_
  refine fw_aload_n (pc := 1063) C 0 dL_law_1063 rfl rfl ?_
  refine fw_iload_n (pc := 1064) C 3 dL_law_1064 rfl rfl ?_
  refine fw_iconst (pc := 1065) C (v := 2) dL_law_1065 fk_iconst_2 ?_
  refine fw_iadd (pc := 1066) C dL_law_1066 ?_
  refine fw_sld (pc := 1067) C hX hbl hbA (sc_in (k := 2) (by omega) hL) dL_law_1067 ?_
  refine fw_aload_n (pc := 1068) C 0 dL_law_1068 rfl rfl ?_
  refine fw_iload_n (pc := 1069) C 3 dL_law_1069 rfl rfl ?_
  refine fw_iconst (pc := 1070) C (v := 3) dL_law_1070 fk_iconst_3 ?_
  refine fw_iadd (pc := 1071) C dL_law_1071 ?_
  refine fw_sld (pc := 1072) C hX hbl hbA (sc_in (k := 3) (by omega) hL) dL_law_1072 ?_
  refine fw_callV1 (pc := 1073) (rest := []) C (c_Door_faint (wk_Door Mr) h1) (cwV 3 C.2.2.2.2.1 gL_law_X8_faint rfl rfl rfl hd_Door_faint ⟨Nat.le_of_ble_eq_true rfl, Nat.le_of_ble_eq_true rfl⟩) (wk_Door Mr).1 rfl rfl ⟨Nat.le_refl _, Nat.le_refl _⟩ rfl (Nat.le_of_ble_eq_true rfl) dL_law_1073 ?_
  refine fw_aload_n (pc := 1076) C 2 dL_law_1076 rfl rfl ?_
  refine fw_aload_n (pc := 1077) C 0 dL_law_1077 rfl rfl ?_
  refine fw_iload_n (pc := 1078) C 3 dL_law_1078 rfl rfl ?_
  refine fw_iconst (pc := 1079) C (v := 1) dL_law_1079 fk_iconst_1 ?_
  refine fw_iadd (pc := 1080) C dL_law_1080 ?_
  refine fw_sld (pc := 1081) C hX hbl hbA (sc_in (k := 1) (by omega) hL) dL_law_1081 ?_
  refine fw_aload_n (pc := 1082) C 0 dL_law_1082 rfl rfl ?_
  refine fw_iload_n (pc := 1083) C 3 dL_law_1083 rfl rfl ?_
  refine fw_iconst (pc := 1084) C (v := 2) dL_law_1084 fk_iconst_2 ?_
  refine fw_iadd (pc := 1085) C dL_law_1085 ?_
  refine fw_sld (pc := 1086) C hX hbl hbA (sc_in (k := 2) (by omega) hL) dL_law_1086 ?_
  refine fw_aload_n (pc := 1087) C 0 dL_law_1087 rfl rfl ?_
  refine fw_iload_n (pc := 1088) C 3 dL_law_1088 rfl rfl ?_
  refine fw_iconst (pc := 1089) C (v := 3) dL_law_1089 fk_iconst_3 ?_
  refine fw_iadd (pc := 1090) C dL_law_1090 ?_
  refine fw_sld (pc := 1091) C hX hbl hbA (sc_in (k := 3) (by omega) hL) dL_law_1091 ?_
  refine fw_sw (EE2 := wk_r s.heap.size cI cZ cH cR Mc2) (M2 := Mr) rfl ?_
  refine fw_callV1 (pc := 1092) (rest := [_]) C (c_Mod_faint (wk_Mod Mc2) h2) (cwV 3 C.2.2.2.2.1 gL_law_X9_faint rfl rfl rfl hd_Mod_faint ⟨Nat.le_of_ble_eq_true rfl, Nat.le_of_ble_eq_true rfl⟩) (wk_Mod Mc2).1 rfl rfl ⟨Nat.le_refl _, Nat.le_refl _⟩ rfl (Nat.le_of_ble_eq_true rfl) dL_law_1092 ?_
  refine fw_lcmp (pc := 1095) C dL_law_1095 ?_
  refine fw_sw (EE2 := wk_c s.heap.size cI cZ cH cR Mr2) (M2 := Mc2) rfl ?_
  exact fw_if_eq (pc := 1096) C (tgt := 1338) dL_law_1096 (by decide) (fun _ => kk _ _ hR2) (fun z => absurd (lg_cmp_self r) z)
set_option maxRecDepth 100000 in
theorem lc_drawn {p : Program} {l : Launch} {e : Env} {s : State} {m : MethodId} {below : List Frame} {meth : Method} {c : Code} {D : va_G} {cI cZ cH cR : ClassId} {b L : Nat} {xs : Nat → Int32} (C : fw_C p s m #[Value.ref b] meth c code RL wsL_law 4 ret D vwCl (fw_tys cI cZ cH cR) 212 (fk_ad s.heap.size) fw_nw0) (hX : va_X b L xs s s.heap) (hbl : b < s.heap.size) (hbA : ¬ fw_A 212 (fk_ad s.heap.size) s.heap.size b) (hL : L ≤ 384) {i : Nat} (hi : i + 6 ≤ L) {Mc Mr : fw_M} (hR : rl Mc Mr) (kk : ∀ Mc2 Mr2 : fw_M, rl Mc2 Mr2 → fw_J p l e room_1 s m #[Value.ref b] below meth c D vwCl 212 (fk_ad s.heap.size) (wk_c s.heap.size cI cZ cH cR Mr2) 4 600000 7302250 (lw_Z below #[Value.ref b] s) Mc2 [(0, .ref b), (1, .ref (s.heap.size + 0)), (2, .ref (s.heap.size + 199)), (3, .int (nI i))] 1338 []) : fw_J p l e room_1 s m #[Value.ref b] below meth c D vwCl 212 (fk_ad s.heap.size) (wk_c s.heap.size cI cZ cH cR Mr) 4 600000 7302250 (lw_Z below #[Value.ref b] s) Mc [(0, .ref b), (1, .ref (s.heap.size + 0)), (2, .ref (s.heap.size + 199)), (3, .int (nI i))] 1101 [] := by
  obtain ⟨r, Mc2, Mr2, h1, h2, hR2⟩ := ow_drawn hR (xs (nI i + 1).toNatClampNeg) (xs (nI i + 2).toNatClampNeg) (xs (nI i + 3).toNatClampNeg)
  refine fw_aload_n (pc := 1101) C 1 dL_law_1101 rfl rfl ?_
  refine fw_aload_n (pc := 1102) C 0 dL_law_1102 rfl rfl ?_
  refine fw_iload_n (pc := 1103) C 3 dL_law_1103 rfl rfl ?_
  refine fw_iconst (pc := 1104) C (v := 1) dL_law_1104 fk_iconst_1 ?_
  refine fw_iadd (pc := 1105) C dL_law_1105 ?_
  refine fw_sld (pc := 1106) C hX hbl hbA (sc_in (k := 1) (by omega) hL) dL_law_1106 ?_
  refine fw_aload_n (pc := 1107) C 0 dL_law_1107 rfl rfl ?_
  refine fw_iload_n (pc := 1108) C 3 dL_law_1108 rfl rfl ?_
  refine fw_iconst (pc := 1109) C (v := 2) dL_law_1109 fk_iconst_2 ?_
  refine fw_iadd (pc := 1110) C dL_law_1110 ?_
  refine fw_sld (pc := 1111) C hX hbl hbA (sc_in (k := 2) (by omega) hL) dL_law_1111 ?_
  refine fw_aload_n (pc := 1112) C 0 dL_law_1112 rfl rfl ?_
  refine fw_iload_n (pc := 1113) C 3 dL_law_1113 rfl rfl ?_
  refine fw_iconst (pc := 1114) C (v := 3) dL_law_1114 fk_iconst_3 ?_
  refine fw_iadd (pc := 1115) C dL_law_1115 ?_
  refine fw_sld (pc := 1116) C hX hbl hbA (sc_in (k := 3) (by omega) hL) dL_law_1116 ?_
  refine fw_callV1 (pc := 1117) (rest := []) C (c_Door_drawn (wk_Door Mr) h1) (cwV 3 C.2.2.2.2.1 gL_law_X8_drawn rfl rfl rfl hd_Door_drawn ⟨Nat.le_of_ble_eq_true rfl, Nat.le_of_ble_eq_true rfl⟩) (wk_Door Mr).1 rfl rfl ⟨Nat.le_refl _, Nat.le_refl _⟩ rfl (Nat.le_of_ble_eq_true rfl) dL_law_1117 ?_
  refine fw_aload_n (pc := 1120) C 2 dL_law_1120 rfl rfl ?_
  refine fw_aload_n (pc := 1121) C 0 dL_law_1121 rfl rfl ?_
  refine fw_iload_n (pc := 1122) C 3 dL_law_1122 rfl rfl ?_
  refine fw_iconst (pc := 1123) C (v := 1) dL_law_1123 fk_iconst_1 ?_
  refine fw_iadd (pc := 1124) C dL_law_1124 ?_
  refine fw_sld (pc := 1125) C hX hbl hbA (sc_in (k := 1) (by omega) hL) dL_law_1125 ?_
  refine fw_aload_n (pc := 1126) C 0 dL_law_1126 rfl rfl ?_
  refine fw_iload_n (pc := 1127) C 3 dL_law_1127 rfl rfl ?_
  refine fw_iconst (pc := 1128) C (v := 2) dL_law_1128 fk_iconst_2 ?_
  refine fw_iadd (pc := 1129) C dL_law_1129 ?_
  refine fw_sld (pc := 1130) C hX hbl hbA (sc_in (k := 2) (by omega) hL) dL_law_1130 ?_
  refine fw_aload_n (pc := 1131) C 0 dL_law_1131 rfl rfl ?_
  refine fw_iload_n (pc := 1132) C 3 dL_law_1132 rfl rfl ?_
  refine fw_iconst (pc := 1133) C (v := 3) dL_law_1133 fk_iconst_3 ?_
  refine fw_iadd (pc := 1134) C dL_law_1134 ?_
  refine fw_sld (pc := 1135) C hX hbl hbA (sc_in (k := 3) (by omega) hL) dL_law_1135 ?_
  refine fw_sw (EE2 := wk_r s.heap.size cI cZ cH cR Mc2) (M2 := Mr) rfl ?_
  refine fw_callV1 (pc := 1136) (rest := [_]) C (c_Mod_drawn (wk_Mod Mc2) h2) (cwV 3 C.2.2.2.2.1 gL_law_X9_drawn rfl rfl rfl hd_Mod_drawn ⟨Nat.le_of_ble_eq_true rfl, Nat.le_of_ble_eq_true rfl⟩) (wk_Mod Mc2).1 rfl rfl ⟨Nat.le_refl _, Nat.le_refl _⟩ rfl (Nat.le_of_ble_eq_true rfl) dL_law_1136 ?_
  refine fw_sw (EE2 := wk_c s.heap.size cI cZ cH cR Mr2) (M2 := Mc2) rfl ?_
  exact fw_icmp_eq (pc := 1139) C (tgt := 1338) dL_law_1139 (by decide) (fun _ => kk _ _ hR2) (fun z => absurd rfl z)
set_option maxRecDepth 100000 in
theorem lc_image {p : Program} {l : Launch} {e : Env} {s : State} {m : MethodId} {below : List Frame} {meth : Method} {c : Code} {D : va_G} {cI cZ cH cR : ClassId} {b L : Nat} {xs : Nat → Int32} (C : fw_C p s m #[Value.ref b] meth c code RL wsL_law 4 ret D vwCl (fw_tys cI cZ cH cR) 212 (fk_ad s.heap.size) fw_nw0) (hX : va_X b L xs s s.heap) (hbl : b < s.heap.size) (hbA : ¬ fw_A 212 (fk_ad s.heap.size) s.heap.size b) (hL : L ≤ 384) {i : Nat} (hi : i + 6 ≤ L) {Mc Mr : fw_M} (hR : rl Mc Mr) (kk : ∀ Mc2 Mr2 : fw_M, rl Mc2 Mr2 → fw_J p l e room_1 s m #[Value.ref b] below meth c D vwCl 212 (fk_ad s.heap.size) (wk_c s.heap.size cI cZ cH cR Mr2) 4 600000 7302250 (lw_Z below #[Value.ref b] s) Mc2 [(0, .ref b), (1, .ref (s.heap.size + 0)), (2, .ref (s.heap.size + 199)), (3, .int (nI i))] 1338 []) : fw_J p l e room_1 s m #[Value.ref b] below meth c D vwCl 212 (fk_ad s.heap.size) (wk_c s.heap.size cI cZ cH cR Mr) 4 600000 7302250 (lw_Z below #[Value.ref b] s) Mc [(0, .ref b), (1, .ref (s.heap.size + 0)), (2, .ref (s.heap.size + 199)), (3, .int (nI i))] 1144 [] := by
  obtain ⟨r, Mc2, Mr2, h1, h2, hR2⟩ := ow_image hR (xs (nI i + 1).toNatClampNeg)
  refine fw_aload_n (pc := 1144) C 1 dL_law_1144 rfl rfl ?_
  refine fw_aload_n (pc := 1145) C 0 dL_law_1145 rfl rfl ?_
  refine fw_iload_n (pc := 1146) C 3 dL_law_1146 rfl rfl ?_
  refine fw_iconst (pc := 1147) C (v := 1) dL_law_1147 fk_iconst_1 ?_
  refine fw_iadd (pc := 1148) C dL_law_1148 ?_
  refine fw_sld (pc := 1149) C hX hbl hbA (sc_in (k := 1) (by omega) hL) dL_law_1149 ?_
  refine fw_callV1 (pc := 1150) (rest := []) C (c_Door_image (wk_Door Mr) h1) (cwV 1 C.2.2.2.2.1 gL_law_X8_image rfl rfl rfl hd_Door_image ⟨Nat.le_of_ble_eq_true rfl, Nat.le_of_ble_eq_true rfl⟩) (wk_Door Mr).1 rfl rfl ⟨Nat.le_refl _, Nat.le_refl _⟩ rfl (Nat.le_of_ble_eq_true rfl) dL_law_1150 ?_
  refine fw_aload_n (pc := 1153) C 2 dL_law_1153 rfl rfl ?_
  refine fw_aload_n (pc := 1154) C 0 dL_law_1154 rfl rfl ?_
  refine fw_iload_n (pc := 1155) C 3 dL_law_1155 rfl rfl ?_
  refine fw_iconst (pc := 1156) C (v := 1) dL_law_1156 fk_iconst_1 ?_
  refine fw_iadd (pc := 1157) C dL_law_1157 ?_
  refine fw_sld (pc := 1158) C hX hbl hbA (sc_in (k := 1) (by omega) hL) dL_law_1158 ?_
  refine fw_sw (EE2 := wk_r s.heap.size cI cZ cH cR Mc2) (M2 := Mr) rfl ?_
  refine fw_callV1 (pc := 1159) (rest := [_]) C (c_Mod_image (wk_Mod Mc2) h2) (cwV 1 C.2.2.2.2.1 gL_law_X9_image rfl rfl rfl hd_Mod_image ⟨Nat.le_of_ble_eq_true rfl, Nat.le_of_ble_eq_true rfl⟩) (wk_Mod Mc2).1 rfl rfl ⟨Nat.le_refl _, Nat.le_refl _⟩ rfl (Nat.le_of_ble_eq_true rfl) dL_law_1159 ?_
  refine fw_sw (EE2 := wk_c s.heap.size cI cZ cH cR Mr2) (M2 := Mc2) rfl ?_
  exact fw_icmp_eq (pc := 1162) C (tgt := 1338) dL_law_1162 (by decide) (fun _ => kk _ _ hR2) (fun z => absurd rfl z)
set_option maxRecDepth 100000 in
theorem lc_restore {p : Program} {l : Launch} {e : Env} {s : State} {m : MethodId} {below : List Frame} {meth : Method} {c : Code} {D : va_G} {cI cZ cH cR : ClassId} {b L : Nat} {xs : Nat → Int32} (C : fw_C p s m #[Value.ref b] meth c code RL wsL_law 4 ret D vwCl (fw_tys cI cZ cH cR) 212 (fk_ad s.heap.size) fw_nw0) (hX : va_X b L xs s s.heap) (hbl : b < s.heap.size) (hbA : ¬ fw_A 212 (fk_ad s.heap.size) s.heap.size b) (hL : L ≤ 384) {i : Nat} (hi : i + 6 ≤ L) {Mc Mr : fw_M} (hR : rl Mc Mr) (kk : ∀ Mc2 Mr2 : fw_M, rl Mc2 Mr2 → fw_J p l e room_1 s m #[Value.ref b] below meth c D vwCl 212 (fk_ad s.heap.size) (wk_c s.heap.size cI cZ cH cR Mr2) 4 600000 7302250 (lw_Z below #[Value.ref b] s) Mc2 [(0, .ref b), (1, .ref (s.heap.size + 0)), (2, .ref (s.heap.size + 199)), (3, .int (nI i))] 1338 []) : fw_J p l e room_1 s m #[Value.ref b] below meth c D vwCl 212 (fk_ad s.heap.size) (wk_c s.heap.size cI cZ cH cR Mr) 4 600000 7302250 (lw_Z below #[Value.ref b] s) Mc [(0, .ref b), (1, .ref (s.heap.size + 0)), (2, .ref (s.heap.size + 199)), (3, .int (nI i))] 1167 [] := by
  obtain ⟨r, Mc2, Mr2, h1, h2, hR2⟩ := ow_restore hR (xs (nI i + 1).toNatClampNeg)
  refine fw_aload_n (pc := 1167) C 1 dL_law_1167 rfl rfl ?_
  refine fw_aload_n (pc := 1168) C 0 dL_law_1168 rfl rfl ?_
  refine fw_iload_n (pc := 1169) C 3 dL_law_1169 rfl rfl ?_
  refine fw_iconst (pc := 1170) C (v := 1) dL_law_1170 fk_iconst_1 ?_
  refine fw_iadd (pc := 1171) C dL_law_1171 ?_
  refine fw_sld (pc := 1172) C hX hbl hbA (sc_in (k := 1) (by omega) hL) dL_law_1172 ?_
  refine fw_callV1 (pc := 1173) (rest := []) C (c_Door_restore (wk_Door Mr) h1) (cwV 1 C.2.2.2.2.1 gL_law_X8_restore rfl rfl rfl hd_Door_restore ⟨Nat.le_of_ble_eq_true rfl, Nat.le_of_ble_eq_true rfl⟩) (wk_Door Mr).1 rfl rfl ⟨Nat.le_refl _, Nat.le_refl _⟩ rfl (Nat.le_of_ble_eq_true rfl) dL_law_1173 ?_
  refine fw_aload_n (pc := 1176) C 2 dL_law_1176 rfl rfl ?_
  refine fw_aload_n (pc := 1177) C 0 dL_law_1177 rfl rfl ?_
  refine fw_iload_n (pc := 1178) C 3 dL_law_1178 rfl rfl ?_
  refine fw_iconst (pc := 1179) C (v := 1) dL_law_1179 fk_iconst_1 ?_
  refine fw_iadd (pc := 1180) C dL_law_1180 ?_
  refine fw_sld (pc := 1181) C hX hbl hbA (sc_in (k := 1) (by omega) hL) dL_law_1181 ?_
  refine fw_sw (EE2 := wk_r s.heap.size cI cZ cH cR Mc2) (M2 := Mr) rfl ?_
  refine fw_callV1 (pc := 1182) (rest := [_]) C (c_Mod_restore (wk_Mod Mc2) h2) (cwV 1 C.2.2.2.2.1 gL_law_X9_restore rfl rfl rfl hd_Mod_restore ⟨Nat.le_of_ble_eq_true rfl, Nat.le_of_ble_eq_true rfl⟩) (wk_Mod Mc2).1 rfl rfl ⟨Nat.le_refl _, Nat.le_refl _⟩ rfl (Nat.le_of_ble_eq_true rfl) dL_law_1182 ?_
  refine fw_sw (EE2 := wk_c s.heap.size cI cZ cH cR Mr2) (M2 := Mc2) rfl ?_
  exact fw_icmp_eq (pc := 1185) C (tgt := 1338) dL_law_1185 (by decide) (fun _ => kk _ _ hR2) (fun z => absurd rfl z)
set_option maxRecDepth 100000 in
theorem lc_kind {p : Program} {l : Launch} {e : Env} {s : State} {m : MethodId} {below : List Frame} {meth : Method} {c : Code} {D : va_G} {cI cZ cH cR : ClassId} {b L : Nat} {xs : Nat → Int32} (C : fw_C p s m #[Value.ref b] meth c code RL wsL_law 4 ret D vwCl (fw_tys cI cZ cH cR) 212 (fk_ad s.heap.size) fw_nw0) (hX : va_X b L xs s s.heap) (hbl : b < s.heap.size) (hbA : ¬ fw_A 212 (fk_ad s.heap.size) s.heap.size b) (hL : L ≤ 384) {i : Nat} (hi : i + 6 ≤ L) {Mc Mr : fw_M} (hR : rl Mc Mr) (kk : ∀ Mc2 Mr2 : fw_M, rl Mc2 Mr2 → fw_J p l e room_1 s m #[Value.ref b] below meth c D vwCl 212 (fk_ad s.heap.size) (wk_c s.heap.size cI cZ cH cR Mr2) 4 600000 7302250 (lw_Z below #[Value.ref b] s) Mc2 [(0, .ref b), (1, .ref (s.heap.size + 0)), (2, .ref (s.heap.size + 199)), (3, .int (nI i))] 1338 []) : fw_J p l e room_1 s m #[Value.ref b] below meth c D vwCl 212 (fk_ad s.heap.size) (wk_c s.heap.size cI cZ cH cR Mr) 4 600000 7302250 (lw_Z below #[Value.ref b] s) Mc [(0, .ref b), (1, .ref (s.heap.size + 0)), (2, .ref (s.heap.size + 199)), (3, .int (nI i))] 1190 [] := by
  obtain ⟨r, Mr2, h1, h2, hR2⟩ := ow_kind hR (xs (nI i + 1).toNatClampNeg)
  refine fw_aload_n (pc := 1190) C 1 dL_law_1190 rfl rfl ?_
  refine fw_aload_n (pc := 1191) C 0 dL_law_1191 rfl rfl ?_
  refine fw_iload_n (pc := 1192) C 3 dL_law_1192 rfl rfl ?_
  refine fw_iconst (pc := 1193) C (v := 1) dL_law_1193 fk_iconst_1 ?_
  refine fw_iadd (pc := 1194) C dL_law_1194 ?_
  refine fw_sld (pc := 1195) C hX hbl hbA (sc_in (k := 1) (by omega) hL) dL_law_1195 ?_
  refine fw_callV1 (pc := 1196) (rest := []) C (c_Door_kind (wk_Door Mr) h1) (cwV 1 C.2.2.2.2.1 gL_law_X8_kind rfl rfl rfl hd_Door_kind ⟨Nat.le_of_ble_eq_true rfl, Nat.le_of_ble_eq_true rfl⟩) (wk_Door Mr).1 rfl rfl ⟨Nat.le_refl _, Nat.le_refl _⟩ rfl (Nat.le_of_ble_eq_true rfl) dL_law_1196 ?_
  refine fw_aload_n (pc := 1199) C 2 dL_law_1199 rfl rfl ?_
  refine fw_aload_n (pc := 1200) C 0 dL_law_1200 rfl rfl ?_
  refine fw_iload_n (pc := 1201) C 3 dL_law_1201 rfl rfl ?_
  refine fw_iconst (pc := 1202) C (v := 1) dL_law_1202 fk_iconst_1 ?_
  refine fw_iadd (pc := 1203) C dL_law_1203 ?_
  refine fw_sld (pc := 1204) C hX hbl hbA (sc_in (k := 1) (by omega) hL) dL_law_1204 ?_
  refine fw_sw (EE2 := wk_r s.heap.size cI cZ cH cR Mc) (M2 := Mr) rfl ?_
  refine fw_callV1 (pc := 1205) (rest := [_]) C (c_Mod_kind (wk_Mod Mc) h2) (cwV 1 C.2.2.2.2.1 gL_law_X9_kind rfl rfl rfl hd_Mod_kind ⟨Nat.le_of_ble_eq_true rfl, Nat.le_of_ble_eq_true rfl⟩) (wk_Mod Mc).1 rfl rfl ⟨Nat.le_refl _, Nat.le_refl _⟩ rfl (Nat.le_of_ble_eq_true rfl) dL_law_1205 ?_
  refine fw_sw (EE2 := wk_c s.heap.size cI cZ cH cR Mr2) (M2 := Mc) rfl ?_
  exact fw_icmp_eq (pc := 1208) C (tgt := 1338) dL_law_1208 (by decide) (fun _ => kk _ _ hR2) (fun z => absurd rfl z)
set_option maxRecDepth 100000 in
theorem lc_as {p : Program} {l : Launch} {e : Env} {s : State} {m : MethodId} {below : List Frame} {meth : Method} {c : Code} {D : va_G} {cI cZ cH cR : ClassId} {b L : Nat} {xs : Nat → Int32} (C : fw_C p s m #[Value.ref b] meth c code RL wsL_law 4 ret D vwCl (fw_tys cI cZ cH cR) 212 (fk_ad s.heap.size) fw_nw0) (hX : va_X b L xs s s.heap) (hbl : b < s.heap.size) (hbA : ¬ fw_A 212 (fk_ad s.heap.size) s.heap.size b) (hL : L ≤ 384) {i : Nat} (hi : i + 6 ≤ L) {Mc Mr : fw_M} (hR : rl Mc Mr) (kk : ∀ Mc2 Mr2 : fw_M, rl Mc2 Mr2 → fw_J p l e room_1 s m #[Value.ref b] below meth c D vwCl 212 (fk_ad s.heap.size) (wk_c s.heap.size cI cZ cH cR Mr2) 4 600000 7302250 (lw_Z below #[Value.ref b] s) Mc2 [(0, .ref b), (1, .ref (s.heap.size + 0)), (2, .ref (s.heap.size + 199)), (3, .int (nI i))] 1338 []) : fw_J p l e room_1 s m #[Value.ref b] below meth c D vwCl 212 (fk_ad s.heap.size) (wk_c s.heap.size cI cZ cH cR Mr) 4 600000 7302250 (lw_Z below #[Value.ref b] s) Mc [(0, .ref b), (1, .ref (s.heap.size + 0)), (2, .ref (s.heap.size + 199)), (3, .int (nI i))] 1213 [] := by
  obtain ⟨r, Mc2, Mr2, h1, h2, hR2⟩ := ow_as hR (xs (nI i + 1).toNatClampNeg) (xs (nI i + 2).toNatClampNeg)
  refine fw_aload_n (pc := 1213) C 1 dL_law_1213 rfl rfl ?_
  refine fw_aload_n (pc := 1214) C 0 dL_law_1214 rfl rfl ?_
  refine fw_iload_n (pc := 1215) C 3 dL_law_1215 rfl rfl ?_
  refine fw_iconst (pc := 1216) C (v := 1) dL_law_1216 fk_iconst_1 ?_
  refine fw_iadd (pc := 1217) C dL_law_1217 ?_
  refine fw_sld (pc := 1218) C hX hbl hbA (sc_in (k := 1) (by omega) hL) dL_law_1218 ?_
  refine fw_aload_n (pc := 1219) C 0 dL_law_1219 rfl rfl ?_
  refine fw_iload_n (pc := 1220) C 3 dL_law_1220 rfl rfl ?_
  refine fw_iconst (pc := 1221) C (v := 2) dL_law_1221 fk_iconst_2 ?_
  refine fw_iadd (pc := 1222) C dL_law_1222 ?_
  refine fw_sld (pc := 1223) C hX hbl hbA (sc_in (k := 2) (by omega) hL) dL_law_1223 ?_
  refine fw_callV1 (pc := 1224) (rest := []) C (c_Door_as (wk_Door Mr) h1) (cwV 2 C.2.2.2.2.1 gL_law_X8_as rfl rfl rfl hd_Door_as ⟨Nat.le_of_ble_eq_true rfl, Nat.le_of_ble_eq_true rfl⟩) (wk_Door Mr).1 rfl rfl ⟨Nat.le_refl _, Nat.le_refl _⟩ rfl (Nat.le_of_ble_eq_true rfl) dL_law_1224 ?_
  refine fw_aload_n (pc := 1227) C 2 dL_law_1227 rfl rfl ?_
  refine fw_aload_n (pc := 1228) C 0 dL_law_1228 rfl rfl ?_
  refine fw_iload_n (pc := 1229) C 3 dL_law_1229 rfl rfl ?_
  refine fw_iconst (pc := 1230) C (v := 1) dL_law_1230 fk_iconst_1 ?_
  refine fw_iadd (pc := 1231) C dL_law_1231 ?_
  refine fw_sld (pc := 1232) C hX hbl hbA (sc_in (k := 1) (by omega) hL) dL_law_1232 ?_
  refine fw_aload_n (pc := 1233) C 0 dL_law_1233 rfl rfl ?_
  refine fw_iload_n (pc := 1234) C 3 dL_law_1234 rfl rfl ?_
  refine fw_iconst (pc := 1235) C (v := 2) dL_law_1235 fk_iconst_2 ?_
  refine fw_iadd (pc := 1236) C dL_law_1236 ?_
  refine fw_sld (pc := 1237) C hX hbl hbA (sc_in (k := 2) (by omega) hL) dL_law_1237 ?_
  refine fw_sw (EE2 := wk_r s.heap.size cI cZ cH cR Mc2) (M2 := Mr) rfl ?_
  refine fw_callV1 (pc := 1238) (rest := [_]) C (c_Mod_as (wk_Mod Mc2) h2) (cwV 2 C.2.2.2.2.1 gL_law_X9_as rfl rfl rfl hd_Mod_as ⟨Nat.le_of_ble_eq_true rfl, Nat.le_of_ble_eq_true rfl⟩) (wk_Mod Mc2).1 rfl rfl ⟨Nat.le_refl _, Nat.le_refl _⟩ rfl (Nat.le_of_ble_eq_true rfl) dL_law_1238 ?_
  refine fw_sw (EE2 := wk_c s.heap.size cI cZ cH cR Mr2) (M2 := Mc2) rfl ?_
  exact fw_icmp_eq (pc := 1241) C (tgt := 1338) dL_law_1241 (by decide) (fun _ => kk _ _ hR2) (fun z => absurd rfl z)
set_option maxRecDepth 100000 in
theorem lc_ask {p : Program} {l : Launch} {e : Env} {s : State} {m : MethodId} {below : List Frame} {meth : Method} {c : Code} {D : va_G} {cI cZ cH cR : ClassId} {b L : Nat} {xs : Nat → Int32} (C : fw_C p s m #[Value.ref b] meth c code RL wsL_law 4 ret D vwCl (fw_tys cI cZ cH cR) 212 (fk_ad s.heap.size) fw_nw0) (hX : va_X b L xs s s.heap) (hbl : b < s.heap.size) (hbA : ¬ fw_A 212 (fk_ad s.heap.size) s.heap.size b) (hL : L ≤ 384) {i : Nat} (hi : i + 6 ≤ L) {Mc Mr : fw_M} (hR : rl Mc Mr) (kk : ∀ Mc2 Mr2 : fw_M, rl Mc2 Mr2 → fw_J p l e room_1 s m #[Value.ref b] below meth c D vwCl 212 (fk_ad s.heap.size) (wk_c s.heap.size cI cZ cH cR Mr2) 4 600000 7302250 (lw_Z below #[Value.ref b] s) Mc2 [(0, .ref b), (1, .ref (s.heap.size + 0)), (2, .ref (s.heap.size + 199)), (3, .int (nI i))] 1338 []) : fw_J p l e room_1 s m #[Value.ref b] below meth c D vwCl 212 (fk_ad s.heap.size) (wk_c s.heap.size cI cZ cH cR Mr) 4 600000 7302250 (lw_Z below #[Value.ref b] s) Mc [(0, .ref b), (1, .ref (s.heap.size + 0)), (2, .ref (s.heap.size + 199)), (3, .int (nI i))] 1246 [] := by
  obtain ⟨r, Mc2, Mr2, h1, h2, hR2⟩ := ow_ask hR (xs (nI i + 1).toNatClampNeg) (xs (nI i + 2).toNatClampNeg)
  refine fw_aload_n (pc := 1246) C 1 dL_law_1246 rfl rfl ?_
  refine fw_aload_n (pc := 1247) C 0 dL_law_1247 rfl rfl ?_
  refine fw_iload_n (pc := 1248) C 3 dL_law_1248 rfl rfl ?_
  refine fw_iconst (pc := 1249) C (v := 1) dL_law_1249 fk_iconst_1 ?_
  refine fw_iadd (pc := 1250) C dL_law_1250 ?_
  refine fw_sld (pc := 1251) C hX hbl hbA (sc_in (k := 1) (by omega) hL) dL_law_1251 ?_
  refine fw_aload_n (pc := 1252) C 0 dL_law_1252 rfl rfl ?_
  refine fw_iload_n (pc := 1253) C 3 dL_law_1253 rfl rfl ?_
  refine fw_iconst (pc := 1254) C (v := 2) dL_law_1254 fk_iconst_2 ?_
  refine fw_iadd (pc := 1255) C dL_law_1255 ?_
  refine fw_sld (pc := 1256) C hX hbl hbA (sc_in (k := 2) (by omega) hL) dL_law_1256 ?_
  refine fw_callV1 (pc := 1257) (rest := []) C (c_Door_ask (wk_Door Mr) h1) (cwV 2 C.2.2.2.2.1 gL_law_X8_ask rfl rfl rfl hd_Door_ask ⟨Nat.le_of_ble_eq_true rfl, Nat.le_of_ble_eq_true rfl⟩) (wk_Door Mr).1 rfl rfl ⟨Nat.le_refl _, Nat.le_refl _⟩ rfl (Nat.le_of_ble_eq_true rfl) dL_law_1257 ?_
  refine fw_aload_n (pc := 1260) C 2 dL_law_1260 rfl rfl ?_
  refine fw_aload_n (pc := 1261) C 0 dL_law_1261 rfl rfl ?_
  refine fw_iload_n (pc := 1262) C 3 dL_law_1262 rfl rfl ?_
  refine fw_iconst (pc := 1263) C (v := 1) dL_law_1263 fk_iconst_1 ?_
  refine fw_iadd (pc := 1264) C dL_law_1264 ?_
  refine fw_sld (pc := 1265) C hX hbl hbA (sc_in (k := 1) (by omega) hL) dL_law_1265 ?_
  refine fw_aload_n (pc := 1266) C 0 dL_law_1266 rfl rfl ?_
  refine fw_iload_n (pc := 1267) C 3 dL_law_1267 rfl rfl ?_
  refine fw_iconst (pc := 1268) C (v := 2) dL_law_1268 fk_iconst_2 ?_
  refine fw_iadd (pc := 1269) C dL_law_1269 ?_
  refine fw_sld (pc := 1270) C hX hbl hbA (sc_in (k := 2) (by omega) hL) dL_law_1270 ?_
  refine fw_sw (EE2 := wk_r s.heap.size cI cZ cH cR Mc2) (M2 := Mr) rfl ?_
  refine fw_callV1 (pc := 1271) (rest := [_]) C (c_Mod_ask (wk_Mod Mc2) h2) (cwV 2 C.2.2.2.2.1 gL_law_X9_ask rfl rfl rfl hd_Mod_ask ⟨Nat.le_of_ble_eq_true rfl, Nat.le_of_ble_eq_true rfl⟩) (wk_Mod Mc2).1 rfl rfl ⟨Nat.le_refl _, Nat.le_refl _⟩ rfl (Nat.le_of_ble_eq_true rfl) dL_law_1271 ?_
  refine fw_sw (EE2 := wk_c s.heap.size cI cZ cH cR Mr2) (M2 := Mc2) rfl ?_
  exact fw_icmp_eq (pc := 1274) C (tgt := 1338) dL_law_1274 (by decide) (fun _ => kk _ _ hR2) (fun z => absurd rfl z)
set_option maxRecDepth 100000 in
theorem lc_trace {p : Program} {l : Launch} {e : Env} {s : State} {m : MethodId} {below : List Frame} {meth : Method} {c : Code} {D : va_G} {cI cZ cH cR : ClassId} {b L : Nat} {xs : Nat → Int32} (C : fw_C p s m #[Value.ref b] meth c code RL wsL_law 4 ret D vwCl (fw_tys cI cZ cH cR) 212 (fk_ad s.heap.size) fw_nw0) (hX : va_X b L xs s s.heap) (hbl : b < s.heap.size) (hbA : ¬ fw_A 212 (fk_ad s.heap.size) s.heap.size b) (hL : L ≤ 384) {i : Nat} (hi : i + 6 ≤ L) {Mc Mr : fw_M} (hR : rl Mc Mr) (kk : ∀ Mc2 Mr2 : fw_M, rl Mc2 Mr2 → fw_J p l e room_1 s m #[Value.ref b] below meth c D vwCl 212 (fk_ad s.heap.size) (wk_c s.heap.size cI cZ cH cR Mr2) 4 600000 7302250 (lw_Z below #[Value.ref b] s) Mc2 [(0, .ref b), (1, .ref (s.heap.size + 0)), (2, .ref (s.heap.size + 199)), (3, .int (nI i))] 1338 []) : fw_J p l e room_1 s m #[Value.ref b] below meth c D vwCl 212 (fk_ad s.heap.size) (wk_c s.heap.size cI cZ cH cR Mr) 4 600000 7302250 (lw_Z below #[Value.ref b] s) Mc [(0, .ref b), (1, .ref (s.heap.size + 0)), (2, .ref (s.heap.size + 199)), (3, .int (nI i))] 1279 [] := by
  obtain ⟨r, Mr2, h1, h2, hR2⟩ := ow_trace hR (xs (nI i + 1).toNatClampNeg)
  refine fw_aload_n (pc := 1279) C 1 dL_law_1279 rfl rfl ?_
  refine fw_aload_n (pc := 1280) C 0 dL_law_1280 rfl rfl ?_
  refine fw_iload_n (pc := 1281) C 3 dL_law_1281 rfl rfl ?_
  refine fw_iconst (pc := 1282) C (v := 1) dL_law_1282 fk_iconst_1 ?_
  refine fw_iadd (pc := 1283) C dL_law_1283 ?_
  refine fw_sld (pc := 1284) C hX hbl hbA (sc_in (k := 1) (by omega) hL) dL_law_1284 ?_
  refine fw_callV1 (pc := 1285) (rest := []) C (c_Door_trace (wk_Door Mr) h1) (cwV 1 C.2.2.2.2.1 gL_law_X8_trace rfl rfl rfl hd_Door_trace ⟨Nat.le_of_ble_eq_true rfl, Nat.le_of_ble_eq_true rfl⟩) (wk_Door Mr).1 rfl rfl ⟨Nat.le_refl _, Nat.le_refl _⟩ rfl (Nat.le_of_ble_eq_true rfl) dL_law_1285 ?_
  refine fw_aload_n (pc := 1288) C 2 dL_law_1288 rfl rfl ?_
  refine fw_aload_n (pc := 1289) C 0 dL_law_1289 rfl rfl ?_
  refine fw_iload_n (pc := 1290) C 3 dL_law_1290 rfl rfl ?_
  refine fw_iconst (pc := 1291) C (v := 1) dL_law_1291 fk_iconst_1 ?_
  refine fw_iadd (pc := 1292) C dL_law_1292 ?_
  refine fw_sld (pc := 1293) C hX hbl hbA (sc_in (k := 1) (by omega) hL) dL_law_1293 ?_
  refine fw_sw (EE2 := wk_r s.heap.size cI cZ cH cR Mc) (M2 := Mr) rfl ?_
  refine fw_callV1 (pc := 1294) (rest := [_]) C (c_Mod_trace (wk_Mod Mc) h2) (cwV 1 C.2.2.2.2.1 gL_law_X9_trace rfl rfl rfl hd_Mod_trace ⟨Nat.le_of_ble_eq_true rfl, Nat.le_of_ble_eq_true rfl⟩) (wk_Mod Mc).1 rfl rfl ⟨Nat.le_refl _, Nat.le_refl _⟩ rfl (Nat.le_of_ble_eq_true rfl) dL_law_1294 ?_
  refine fw_sw (EE2 := wk_c s.heap.size cI cZ cH cR Mr2) (M2 := Mc) rfl ?_
  exact fw_icmp_eq (pc := 1297) C (tgt := 1338) dL_law_1297 (by decide) (fun _ => kk _ _ hR2) (fun z => absurd rfl z)
set_option maxRecDepth 100000 in
theorem lc_count {p : Program} {l : Launch} {e : Env} {s : State} {m : MethodId} {below : List Frame} {meth : Method} {c : Code} {D : va_G} {cI cZ cH cR : ClassId} {b L : Nat} {xs : Nat → Int32} (C : fw_C p s m #[Value.ref b] meth c code RL wsL_law 4 ret D vwCl (fw_tys cI cZ cH cR) 212 (fk_ad s.heap.size) fw_nw0) (hX : va_X b L xs s s.heap) (hbl : b < s.heap.size) (hbA : ¬ fw_A 212 (fk_ad s.heap.size) s.heap.size b) (hL : L ≤ 384) {i : Nat} (hi : i + 6 ≤ L) {Mc Mr : fw_M} (hR : rl Mc Mr) (kk : ∀ Mc2 Mr2 : fw_M, rl Mc2 Mr2 → fw_J p l e room_1 s m #[Value.ref b] below meth c D vwCl 212 (fk_ad s.heap.size) (wk_c s.heap.size cI cZ cH cR Mr2) 4 600000 7302250 (lw_Z below #[Value.ref b] s) Mc2 [(0, .ref b), (1, .ref (s.heap.size + 0)), (2, .ref (s.heap.size + 199)), (3, .int (nI i))] 1338 []) : fw_J p l e room_1 s m #[Value.ref b] below meth c D vwCl 212 (fk_ad s.heap.size) (wk_c s.heap.size cI cZ cH cR Mr) 4 600000 7302250 (lw_Z below #[Value.ref b] s) Mc [(0, .ref b), (1, .ref (s.heap.size + 0)), (2, .ref (s.heap.size + 199)), (3, .int (nI i))] 1302 [] := by
  obtain ⟨r, Mr2, h1, h2, hR2⟩ := ow_count hR (xs (nI i + 1).toNatClampNeg)
  refine fw_aload_n (pc := 1302) C 1 dL_law_1302 rfl rfl ?_
  refine fw_aload_n (pc := 1303) C 0 dL_law_1303 rfl rfl ?_
  refine fw_iload_n (pc := 1304) C 3 dL_law_1304 rfl rfl ?_
  refine fw_iconst (pc := 1305) C (v := 1) dL_law_1305 fk_iconst_1 ?_
  refine fw_iadd (pc := 1306) C dL_law_1306 ?_
  refine fw_sld (pc := 1307) C hX hbl hbA (sc_in (k := 1) (by omega) hL) dL_law_1307 ?_
  refine fw_callV1 (pc := 1308) (rest := []) C (c_Door_count (wk_Door Mr) h1) (cwV 1 C.2.2.2.2.1 gL_law_X8_count rfl rfl rfl hd_Door_count ⟨Nat.le_of_ble_eq_true rfl, Nat.le_of_ble_eq_true rfl⟩) (wk_Door Mr).1 rfl rfl ⟨Nat.le_refl _, Nat.le_refl _⟩ rfl (Nat.le_of_ble_eq_true rfl) dL_law_1308 ?_
  refine fw_aload_n (pc := 1311) C 2 dL_law_1311 rfl rfl ?_
  refine fw_aload_n (pc := 1312) C 0 dL_law_1312 rfl rfl ?_
  refine fw_iload_n (pc := 1313) C 3 dL_law_1313 rfl rfl ?_
  refine fw_iconst (pc := 1314) C (v := 1) dL_law_1314 fk_iconst_1 ?_
  refine fw_iadd (pc := 1315) C dL_law_1315 ?_
  refine fw_sld (pc := 1316) C hX hbl hbA (sc_in (k := 1) (by omega) hL) dL_law_1316 ?_
  refine fw_sw (EE2 := wk_r s.heap.size cI cZ cH cR Mc) (M2 := Mr) rfl ?_
  refine fw_callV1 (pc := 1317) (rest := [_]) C (c_Mod_count (wk_Mod Mc) h2) (cwV 1 C.2.2.2.2.1 gL_law_X9_count rfl rfl rfl hd_Mod_count ⟨Nat.le_of_ble_eq_true rfl, Nat.le_of_ble_eq_true rfl⟩) (wk_Mod Mc).1 rfl rfl ⟨Nat.le_refl _, Nat.le_refl _⟩ rfl (Nat.le_of_ble_eq_true rfl) dL_law_1317 ?_
  refine fw_sw (EE2 := wk_c s.heap.size cI cZ cH cR Mr2) (M2 := Mc) rfl ?_
  exact fw_icmp_eq (pc := 1320) C (tgt := 1338) dL_law_1320 (by decide) (fun _ => kk _ _ hR2) (fun z => absurd rfl z)
set_option maxRecDepth 100000 in
theorem lc_status {p : Program} {l : Launch} {e : Env} {s : State} {m : MethodId} {below : List Frame} {meth : Method} {c : Code} {D : va_G} {cI cZ cH cR : ClassId} {b L : Nat} {xs : Nat → Int32} (C : fw_C p s m #[Value.ref b] meth c code RL wsL_law 4 ret D vwCl (fw_tys cI cZ cH cR) 212 (fk_ad s.heap.size) fw_nw0) (hX : va_X b L xs s s.heap) (hbl : b < s.heap.size) (hbA : ¬ fw_A 212 (fk_ad s.heap.size) s.heap.size b) (hL : L ≤ 384) {i : Nat} (hi : i + 6 ≤ L) {Mc Mr : fw_M} (hR : rl Mc Mr) (kk : ∀ Mc2 Mr2 : fw_M, rl Mc2 Mr2 → fw_J p l e room_1 s m #[Value.ref b] below meth c D vwCl 212 (fk_ad s.heap.size) (wk_c s.heap.size cI cZ cH cR Mr2) 4 600000 7302250 (lw_Z below #[Value.ref b] s) Mc2 [(0, .ref b), (1, .ref (s.heap.size + 0)), (2, .ref (s.heap.size + 199)), (3, .int (nI i))] 1338 []) : fw_J p l e room_1 s m #[Value.ref b] below meth c D vwCl 212 (fk_ad s.heap.size) (wk_c s.heap.size cI cZ cH cR Mr) 4 600000 7302250 (lw_Z below #[Value.ref b] s) Mc [(0, .ref b), (1, .ref (s.heap.size + 0)), (2, .ref (s.heap.size + 199)), (3, .int (nI i))] 1325 [] := by
  obtain ⟨r, Mr2, h1, h2, hR2⟩ := ow_status hR
  refine fw_aload_n (pc := 1325) C 1 dL_law_1325 rfl rfl ?_
  refine fw_callV1 (pc := 1326) (rest := []) C (c_Door_status (wk_Door Mr) h1) (cwV 0 C.2.2.2.2.1 gL_law_X8_status rfl rfl rfl hd_Door_status ⟨Nat.le_of_ble_eq_true rfl, Nat.le_of_ble_eq_true rfl⟩) (wk_Door Mr).1 rfl rfl ⟨Nat.le_refl _, Nat.le_refl _⟩ rfl (Nat.le_of_ble_eq_true rfl) dL_law_1326 ?_
  refine fw_aload_n (pc := 1329) C 2 dL_law_1329 rfl rfl ?_
  refine fw_sw (EE2 := wk_r s.heap.size cI cZ cH cR Mc) (M2 := Mr) rfl ?_
  refine fw_callV1 (pc := 1330) (rest := [_]) C (c_Mod_status (wk_Mod Mc) h2) (cwV 0 C.2.2.2.2.1 gL_law_X9_status rfl rfl rfl hd_Mod_status ⟨Nat.le_of_ble_eq_true rfl, Nat.le_of_ble_eq_true rfl⟩) (wk_Mod Mc).1 rfl rfl ⟨Nat.le_refl _, Nat.le_refl _⟩ rfl (Nat.le_of_ble_eq_true rfl) dL_law_1330 ?_
  refine fw_sw (EE2 := wk_c s.heap.size cI cZ cH cR Mr2) (M2 := Mc) rfl ?_
  exact fw_icmp_eq (pc := 1333) C (tgt := 1338) dL_law_1333 (by decide) (fun _ => kk _ _ hR2) (fun z => absurd rfl z)
set_option maxRecDepth 100000 in
set_option maxHeartbeats 4000000 in
theorem lc_loop {p : Program} {l : Launch} {e : Env} {s : State} {m : MethodId} {below : List Frame} {meth : Method} {c : Code} {D : va_G} {cI cZ cH cR : ClassId} {b L : Nat} {xs : Nat → Int32} (C : fw_C p s m #[Value.ref b] meth c code RL wsL_law 4 ret D vwCl (fw_tys cI cZ cH cR) 212 (fk_ad s.heap.size) fw_nw0) (hX : va_X b L xs s s.heap) (hbl : b < s.heap.size) (hbA : ¬ fw_A 212 (fk_ad s.heap.size) s.heap.size b) (hL : L ≤ 384) : ∀ (n i : Nat), L + 1 ≤ i + n → i ≤ 1000 → ∀ Mc Mr : fw_M, rl Mc Mr → fw_J p l e room_1 s m #[Value.ref b] below meth c D vwCl 212 (fk_ad s.heap.size) (wk_c s.heap.size cI cZ cH cR Mr) 4 600000 7302250 (lw_Z below #[Value.ref b] s) Mc [(0, .ref b), (1, .ref (s.heap.size + 0)), (2, .ref (s.heap.size + 199)), (3, .int (nI i))] 18 [] := by
  intro n
  induction n with
  | zero =>
    intro i h1 h2 Mc Mr hR
    refine fw_iload_n (pc := 18) C 3 dL_law_18 rfl rfl ?_
    refine fw_aload_n (pc := 19) C 0 dL_law_19 rfl rfl ?_
    refine fw_slen (pc := 20) C hX hbl hbA dL_law_20 ?_
    refine fw_bipush (pc := 21) C (v := 6) dL_law_21 fk_bipush_6 ?_
    refine fw_isub (pc := 23) C dL_law_23 ?_
    refine fw_icmp_gt (pc := 24) C (tgt := 1344) dL_law_24 (by decide) (fun _ => ?_) (fun z => absurd ((sc_gt (Ln := L) h2 hL).mpr (by omega)) z)
    refine fw_iconst (pc := 1344) C (v := 1) dL_law_1344 fk_iconst_1 ?_
    exact lc_end C hbl
  | succ n ih =>
    intro i h1 h2 Mc Mr hR
    refine fw_iload_n (pc := 18) C 3 dL_law_18 rfl rfl ?_
    refine fw_aload_n (pc := 19) C 0 dL_law_19 rfl rfl ?_
    refine fw_slen (pc := 20) C hX hbl hbA dL_law_20 ?_
    refine fw_bipush (pc := 21) C (v := 6) dL_law_21 fk_bipush_6 ?_
    refine fw_isub (pc := 23) C dL_law_23 ?_
    refine fw_icmp_gt (pc := 24) C (tgt := 1344) dL_law_24 (by decide) (fun _ => ?_) (fun z => ?_)
    · refine fw_iconst (pc := 1344) C (v := 1) dL_law_1344 fk_iconst_1 ?_
      exact lc_end C hbl
    have hi : i + 6 ≤ L := Nat.not_lt.mp (fun q => z ((sc_gt (Ln := L) h2 hL).mpr q))
    have kk : ∀ Mc2 Mr2 : fw_M, rl Mc2 Mr2 → fw_J p l e room_1 s m #[Value.ref b] below meth c D vwCl 212 (fk_ad s.heap.size) (wk_c s.heap.size cI cZ cH cR Mr2) 4 600000 7302250 (lw_Z below #[Value.ref b] s) Mc2 [(0, .ref b), (1, .ref (s.heap.size + 0)), (2, .ref (s.heap.size + 199)), (3, .int (nI i))] 1338 [] := by
      intro Mc2 Mr2 hR2
      refine fw_iinc (pc := 1338) C (v := 6) (L2 := [(0, .ref _), (1, .ref _), (2, .ref _), (3, .int _)]) 3 [1, 2, 3, 0] dL_law_1338 rfl fk_bipush6i (by decide) rfl ?_
      refine fw_goto (pc := 1341) C (tgt := 18) dL_law_1341 (by decide) ?_
      rw [show nI i + 6 = nI (i + 6) from nI_add i 6]
      exact ih (i + 6) (by omega) (by omega) Mc2 Mr2 hR2
    refine fw_aload_n (pc := 27) C 0 dL_law_27 rfl rfl ?_
    refine fw_iload_n (pc := 28) C 3 dL_law_28 rfl rfl ?_
    refine fw_sld (pc := 29) C hX hbl hbA (vp_in_nI (show i < L by omega) (by omega)) dL_law_29 ?_
    refine fw_bipush (pc := 30) C (v := 63) dL_law_30 fk_bipush_63 ?_
    refine fw_iand (pc := 32) C dL_law_32 ?_
    generalize xs (nI i).toNatClampNeg &&& 63 = x0
    by_cases c0 : x0 = 0
    · exact fw_tsin (pc := 33) C dL_law_33 c0 (v := 0) (off := 163) (by decide) (tgt := 196) (by decide) (lc_row C hX hbl hbA hL hi hR kk)
    by_cases c1 : x0 = 1
    · exact fw_tsin (pc := 33) C dL_law_33 c1 (v := 1) (off := 206) (by decide) (tgt := 239) (by decide) (lc_set C hX hbl hbA hL hi hR kk)
    by_cases c2 : x0 = 2
    · exact fw_tsin (pc := 33) C dL_law_33 c2 (v := 2) (off := 249) (by decide) (tgt := 282) (by decide) (lc_copy C hX hbl hbA hL hi hR kk)
    by_cases c3 : x0 = 3
    · exact fw_tsin (pc := 33) C dL_law_33 c3 (v := 3) (off := 312) (by decide) (tgt := 345) (by decide) (lc_drop C hX hbl hbA hL hi hR kk)
    by_cases c4 : x0 = 4
    · exact fw_tsin (pc := 33) C dL_law_33 c4 (v := 4) (off := 335) (by decide) (tgt := 368) (by decide) (lc_feed C hX hbl hbA hL hi hR kk)
    by_cases c5 : x0 = 5
    · exact fw_tsin (pc := 33) C dL_law_33 c5 (v := 5) (off := 358) (by decide) (tgt := 391) (by decide) (lc_ministry C hX hbl hbA hL hi hR kk)
    by_cases c6 : x0 = 6
    · exact fw_tsin (pc := 33) C dL_law_33 c6 (v := 6) (off := 371) (by decide) (tgt := 404) (by decide) (lc_fault C hX hbl hbA hL hi hR kk)
    by_cases c7 : x0 = 7
    · exact fw_tsin (pc := 33) C dL_law_33 c7 (v := 7) (off := 384) (by decide) (tgt := 417) (by decide) (lc_undo C hX hbl hbA hL hi hR kk)
    by_cases c8 : x0 = 8
    · exact fw_tsin (pc := 33) C dL_law_33 c8 (v := 8) (off := 397) (by decide) (tgt := 430) (by decide) (lc_steps C hX hbl hbA hL hi hR kk)
    by_cases c9 : x0 = 9
    · exact fw_tsin (pc := 33) C dL_law_33 c9 (v := 9) (off := 420) (by decide) (tgt := 453) (by decide) (lc_come C hX hbl hbA hL hi hR kk)
    by_cases c10 : x0 = 10
    · exact fw_tsin (pc := 33) C dL_law_33 c10 (v := 10) (off := 453) (by decide) (tgt := 486) (by decide) (lc_bow C hX hbl hbA hL hi hR kk)
    by_cases c11 : x0 = 11
    · exact fw_tsin (pc := 33) C dL_law_33 c11 (v := 11) (off := 476) (by decide) (tgt := 509) (by decide) (lc_revise C hX hbl hbA hL hi hR kk)
    by_cases c12 : x0 = 12
    · exact fw_tsin (pc := 33) C dL_law_33 c12 (v := 12) (off := 519) (by decide) (tgt := 552) (by decide) (lc_person C hX hbl hbA hL hi hR kk)
    by_cases c13 : x0 = 13
    · exact fw_tsin (pc := 33) C dL_law_33 c13 (v := 13) (off := 552) (by decide) (tgt := 585) (by decide) (lc_door C hX hbl hbA hL hi hR kk)
    by_cases c14 : x0 = 14
    · exact fw_tsin (pc := 33) C dL_law_33 c14 (v := 14) (off := 585) (by decide) (tgt := 618) (by decide) (lc_ahead C hX hbl hbA hL hi hR kk)
    by_cases c15 : x0 = 15
    · exact fw_tsin (pc := 33) C dL_law_33 c15 (v := 15) (off := 618) (by decide) (tgt := 651) (by decide) (lc_waitAhead C hX hbl hbA hL hi hR kk)
    by_cases c16 : x0 = 16
    · exact fw_tsin (pc := 33) C dL_law_33 c16 (v := 16) (off := 651) (by decide) (tgt := 684) (by decide) (lc_goes C hX hbl hbA hL hi hR kk)
    by_cases c17 : x0 = 17
    · exact fw_tsin (pc := 33) C dL_law_33 c17 (v := 17) (off := 674) (by decide) (tgt := 707) (by decide) (lc_stuck C hX hbl hbA hL hi hR kk)
    by_cases c18 : x0 = 18
    · exact fw_tsin (pc := 33) C dL_law_33 c18 (v := 18) (off := 687) (by decide) (tgt := 720) (by decide) (lc_ring C hX hbl hbA hL hi hR kk)
    by_cases c19 : x0 = 19
    · exact fw_tsin (pc := 33) C dL_law_33 c19 (v := 19) (off := 720) (by decide) (tgt := 753) (by decide) (lc_bows C hX hbl hbA hL hi hR kk)
    by_cases c20 : x0 = 20
    · exact fw_tsin (pc := 33) C dL_law_33 c20 (v := 20) (off := 753) (by decide) (tgt := 786) (by decide) (lc_raise C hX hbl hbA hL hi hR kk)
    by_cases c21 : x0 = 21
    · exact fw_tsin (pc := 33) C dL_law_33 c21 (v := 21) (off := 776) (by decide) (tgt := 809) (by decide) (lc_third C hX hbl hbA hL hi hR kk)
    by_cases c22 : x0 = 22
    · exact fw_tsin (pc := 33) C dL_law_33 c22 (v := 22) (off := 809) (by decide) (tgt := 842) (by decide) (lc_bestDoor C hX hbl hbA hL hi hR kk)
    by_cases c23 : x0 = 23
    · exact fw_tsin (pc := 33) C dL_law_33 c23 (v := 23) (off := 842) (by decide) (tgt := 875) (by decide) (lc_ranks C hX hbl hbA hL hi hR kk)
    by_cases c24 : x0 = 24
    · exact fw_tsin (pc := 33) C dL_law_33 c24 (v := 24) (off := 905) (by decide) (tgt := 938) (by decide) (lc_who C hX hbl hbA hL hi hR kk)
    by_cases c25 : x0 = 25
    · exact fw_tsin (pc := 33) C dL_law_33 c25 (v := 25) (off := 968) (by decide) (tgt := 1001) (by decide) (lc_precedence C hX hbl hbA hL hi hR kk)
    by_cases c26 : x0 = 26
    · exact fw_tsin (pc := 33) C dL_law_33 c26 (v := 26) (off := 1001) (by decide) (tgt := 1034) (by decide) (lc_both C hX hbl hbA hL hi hR kk)
    by_cases c27 : x0 = 27
    · exact fw_tsin (pc := 33) C dL_law_33 c27 (v := 27) (off := 1024) (by decide) (tgt := 1057) (by decide) (lc_faint C hX hbl hbA hL hi hR kk)
    by_cases c28 : x0 = 28
    · exact fw_tsin (pc := 33) C dL_law_33 c28 (v := 28) (off := 1068) (by decide) (tgt := 1101) (by decide) (lc_drawn C hX hbl hbA hL hi hR kk)
    by_cases c29 : x0 = 29
    · exact fw_tsin (pc := 33) C dL_law_33 c29 (v := 29) (off := 1111) (by decide) (tgt := 1144) (by decide) (lc_image C hX hbl hbA hL hi hR kk)
    by_cases c30 : x0 = 30
    · exact fw_tsin (pc := 33) C dL_law_33 c30 (v := 30) (off := 1134) (by decide) (tgt := 1167) (by decide) (lc_restore C hX hbl hbA hL hi hR kk)
    by_cases c31 : x0 = 31
    · exact fw_tsin (pc := 33) C dL_law_33 c31 (v := 31) (off := 1157) (by decide) (tgt := 1190) (by decide) (lc_kind C hX hbl hbA hL hi hR kk)
    by_cases c32 : x0 = 32
    · exact fw_tsin (pc := 33) C dL_law_33 c32 (v := 32) (off := 1180) (by decide) (tgt := 1213) (by decide) (lc_as C hX hbl hbA hL hi hR kk)
    by_cases c33 : x0 = 33
    · exact fw_tsin (pc := 33) C dL_law_33 c33 (v := 33) (off := 1213) (by decide) (tgt := 1246) (by decide) (lc_ask C hX hbl hbA hL hi hR kk)
    by_cases c34 : x0 = 34
    · exact fw_tsin (pc := 33) C dL_law_33 c34 (v := 34) (off := 1246) (by decide) (tgt := 1279) (by decide) (lc_trace C hX hbl hbA hL hi hR kk)
    by_cases c35 : x0 = 35
    · exact fw_tsin (pc := 33) C dL_law_33 c35 (v := 35) (off := 1269) (by decide) (tgt := 1302) (by decide) (lc_count C hX hbl hbA hL hi hR kk)
    by_cases c36 : x0 = 36
    · exact fw_tsin (pc := 33) C dL_law_33 c36 (v := 36) (off := 1292) (by decide) (tgt := 1325) (by decide) (lc_status C hX hbl hbA hL hi hR kk)
    refine fw_tsout (pc := 33) C dL_law_33 (fun z z1 z2 e => ?_) (tgt := 1338) (by decide) (kk Mc Mr hR)
    subst e
    have e0 := lv_neT c0 (a := 0) (by decide)
    have e1 := lv_neT c1 (a := 1) (by decide)
    have e2 := lv_neT c2 (a := 2) (by decide)
    have e3 := lv_neT c3 (a := 3) (by decide)
    have e4 := lv_neT c4 (a := 4) (by decide)
    have e5 := lv_neT c5 (a := 5) (by decide)
    have e6 := lv_neT c6 (a := 6) (by decide)
    have e7 := lv_neT c7 (a := 7) (by decide)
    have e8 := lv_neT c8 (a := 8) (by decide)
    have e9 := lv_neT c9 (a := 9) (by decide)
    have e10 := lv_neT c10 (a := 10) (by decide)
    have e11 := lv_neT c11 (a := 11) (by decide)
    have e12 := lv_neT c12 (a := 12) (by decide)
    have e13 := lv_neT c13 (a := 13) (by decide)
    have e14 := lv_neT c14 (a := 14) (by decide)
    have e15 := lv_neT c15 (a := 15) (by decide)
    have e16 := lv_neT c16 (a := 16) (by decide)
    have e17 := lv_neT c17 (a := 17) (by decide)
    have e18 := lv_neT c18 (a := 18) (by decide)
    have e19 := lv_neT c19 (a := 19) (by decide)
    have e20 := lv_neT c20 (a := 20) (by decide)
    have e21 := lv_neT c21 (a := 21) (by decide)
    have e22 := lv_neT c22 (a := 22) (by decide)
    have e23 := lv_neT c23 (a := 23) (by decide)
    have e24 := lv_neT c24 (a := 24) (by decide)
    have e25 := lv_neT c25 (a := 25) (by decide)
    have e26 := lv_neT c26 (a := 26) (by decide)
    have e27 := lv_neT c27 (a := 27) (by decide)
    have e28 := lv_neT c28 (a := 28) (by decide)
    have e29 := lv_neT c29 (a := 29) (by decide)
    have e30 := lv_neT c30 (a := 30) (by decide)
    have e31 := lv_neT c31 (a := 31) (by decide)
    have e32 := lv_neT c32 (a := 32) (by decide)
    have e33 := lv_neT c33 (a := 33) (by decide)
    have e34 := lv_neT c34 (a := 34) (by decide)
    have e35 := lv_neT c35 (a := 35) (by decide)
    have e36 := lv_neT c36 (a := 36) (by decide)
    omega
theorem kwL_7 : ∀ w ∈ u_ws RX8 TX8 9, w ∈ wsL_law := by decide +kernel
theorem kwL_10 : ∀ w ∈ u_ws RX9 TX9 24, w ∈ wsL_law := by decide +kernel
theorem kwL_7b : Cond.classLink RL 7 RX8 ∈ wsL_law ∧ Cond.instantiable RX8 9 ∈ wsL_law ∧ Cond.initialized RX8 ∈ wsL_law := by decide +kernel
theorem kwL_10b : Cond.classLink RL 10 RX9 ∈ wsL_law ∧ Cond.instantiable RX9 24 ∈ wsL_law ∧ Cond.initialized RX9 ∈ wsL_law := by decide +kernel
theorem kvL_8 : Cond.initialized RX8 ∈ wsL_law ∧ Cond.instanceMethod yX8_init ∈ wsL_law ∧ Cond.methodLink RL 9 yX8_init ∈ wsL_law := by decide +kernel
theorem kvL_9 : Cond.initialized RX9 ∈ wsL_law ∧ Cond.instanceMethod yX9_init ∈ wsL_law ∧ Cond.methodLink RL 12 yX9_init ∈ wsL_law := by decide +kernel
set_option maxRecDepth 100000 in
set_option maxHeartbeats 4000000 in
theorem lw_walk0 {p : Program} {l : Launch} {e : Env} {s : State} {m : MethodId} {below : List Frame} {meth : Method} {c : Code} {D : va_G} {cI cZ cH cR : ClassId} {b L : Nat} {xs : Nat → Int32} (CK : fk_C p s m #[Value.ref b] meth c code RL wsL_law 4 D vwCl (fw_tys cI cZ cH cR) nw_k) (C : fw_C p s m #[Value.ref b] meth c code RL wsL_law 4 ret D vwCl (fw_tys cI cZ cH cR) 212 (fk_ad s.heap.size) fw_nw0) (hX : va_X b L xs s s.heap) (hbl : b < s.heap.size) (hbA : ¬ fw_A 212 (fk_ad s.heap.size) s.heap.size b) (hL : L ≤ 384) : fk_J p l e room_1 s m #[Value.ref b] below meth c D vwCl s.heap.size 4 (lw_Z below #[Value.ref b] s) 0 0 0 (fun _ => .inr (0, [])) [(0, .ref b)] 0 [] := by
  refine fk_new (pc := 0) CK (ci := 8) (n := 0) (fs := [.null, .null, .null, .null, .null, .null, .null, .int 0, .int 0]) kwL_7 tyX8 tyX8_ok kwL_7b rfl hb_Door ⟨Nat.le_of_ble_eq_true rfl, Nat.le_of_ble_eq_true rfl⟩ dL_law_0 (fun E1 g1 g2 => ?_)
  refine fk_dup (pc := 3) CK dL_law_3 rfl ?_
  refine fk_callI (pc := 4) CK (ck_Door (F := wk_F s.heap.size cI cZ cH cR) (E0 := E1) wk_pDoor g1) (cwI 0 CK.2.2.2.2.1 gL_law_X8_init rfl rfl rfl (CK.2.2.2.2.1 _ kvL_8.1) (CK.2.2.2.2.1 _ kvL_8.2.2) (CK.2.2.2.2.1 _ kvL_8.2.1) rfl hd_iDoor ⟨Nat.le_of_ble_eq_true rfl, Nat.le_of_ble_eq_true rfl⟩) (Nat.le_of_ble_eq_true rfl) dL_law_4 ⟨Nat.le_of_ble_eq_true rfl, Nat.le_of_ble_eq_true rfl⟩ ?_
  refine fk_astore_n (pc := 7) CK (L2 := [(0, .ref _), (1, .ref _)]) [1, 0] dL_law_7 rfl (by decide) rfl ?_
  refine fk_at (n2 := 199) rfl ?_
  refine fk_new (pc := 8) CK (ci := 9) (n := 199) (fs := [.int 0, .int 0, .null, .null, .null, .null, .null, .null, .null, .int 0, .null, .int 0, .int 0, .int 0, .int 0, .int 0, .int 0, .int 0, .int 0, .null, .null, .null, .null, .int 0]) kwL_10 tyX9 tyX9_ok kwL_10b rfl hb_Mod ⟨Nat.le_of_ble_eq_true rfl, Nat.le_of_ble_eq_true rfl⟩ dL_law_8 (fun E2 g3 g4 => ?_)
  refine fk_dup (pc := 11) CK dL_law_11 rfl ?_
  refine fk_callI (pc := 12) CK (ck_Mod (F := wk_F s.heap.size cI cZ cH cR) (E0 := E2) wk_pMod g3) (cwI 0 CK.2.2.2.2.1 gL_law_X9_init rfl rfl rfl (CK.2.2.2.2.1 _ kvL_9.1) (CK.2.2.2.2.1 _ kvL_9.2.2) (CK.2.2.2.2.1 _ kvL_9.2.1) rfl hd_iMod ⟨Nat.le_of_ble_eq_true rfl, Nat.le_of_ble_eq_true rfl⟩) (Nat.le_of_ble_eq_true rfl) dL_law_12 ⟨Nat.le_of_ble_eq_true rfl, Nat.le_of_ble_eq_true rfl⟩ ?_
  refine fk_astore_n (pc := 15) CK (L2 := [(0, .ref _), (1, .ref _), (2, .ref _)]) [1, 2, 0] dL_law_15 rfl (by decide) rfl ?_
  refine fk_iconst (pc := 16) CK (v := 0) dL_law_16 fk_iconst_0 ?_
  refine fk_istore_n (pc := 17) CK (L2 := [(0, .ref _), (1, .ref _), (2, .ref _), (3, .int _)]) [1, 2, 3, 0] dL_law_17 rfl (by decide) rfl ?_
  refine fk_widen (k := 600000) (n1 := 7302250) (Nat.le_of_ble_eq_true rfl) (Nat.le_of_ble_eq_true rfl) ?_
  intro H locs ls hz hP hS hl
  refine lc_loop C hX hbl hbA hL (L + 1) 0 (by omega) (by omega) wk_M0 wk_M0 rl_0 H locs ls ?_ ⟨hS.1, fun q h1 h2 => hS.2.1 q h1 (fun z => h2 (Or.inr z)), fun q hq => Or.inr (hS.2.2 q hq)⟩ hl
  refine fk_swap hP (fun j hj => Or.inl ?_)
  show _ = wk_F s.heap.size cI cZ cH cR j
  unfold fk_fill
  by_cases h : 199 ≤ j ∧ j < 199 + 13
  · rw [if_pos h]
  · rw [if_neg h, g4 j (by omega)]
    unfold fk_fill
    rw [if_pos (by omega)]
set_option maxRecDepth 100000 in
set_option maxHeartbeats 4000000 in
/-- THE LAW, from its entry -/
theorem whole_start {p : Program} {e : Env} {s : State} {m : MethodId} {below : List Frame} {meth : Method} {c : Code} (l : Launch) {b L : Nat} {xs : Nat → Int32} (hL : L ≤ 384) (C0 : lw_At p s m meth c b L xs) : W p l e room_1 s m #[Value.ref b] below meth c s.heap [] 0 0 (lw_Z below #[Value.ref b] s) (entryFrame m ([Value.ref b] : List Value).toArray 4) := by
  obtain ⟨hx, hb, hr, hml, hown, hts0, hX, hbl, hlocks, hgv⟩ := id C0
  have hts : ∀ w ∈ wsL_law, w.before #[Value.ref b] s = true := fun w h => hts0 w (wsL_in w h)
  obtain ⟨c0, i0, hKn0⟩ := u_known (C := RX0) (T := TX0) (N := 3) (n := 3) hts0 wsL_in_wsX00 (hts0 (.instantiable RX0 3) (by decide +kernel))
  obtain ⟨c1, i1, hKn1⟩ := u_known (C := RX1) (T := TX1) (N := 2) (n := 2) hts0 wsL_in_wsX10 (hts0 (.instantiable RX1 2) (by decide +kernel))
  obtain ⟨c2, i2, hKn2⟩ := u_known (C := RX2) (T := TX2) (N := 3) (n := 3) hts0 wsL_in_wsX20 (hts0 (.instantiable RX2 3) (by decide +kernel))
  obtain ⟨c3, i3, hKn3⟩ := u_known (C := RX3) (T := TX3) (N := 9) (n := 9) hts0 wsL_in_wsX30 (hts0 (.instantiable RX3 9) (by decide +kernel))
  obtain ⟨c4, i4, hKn4⟩ := u_known (C := RX4) (T := TX4) (N := 1) (n := 1) hts0 wsL_in_wsX40 (hts0 (.instantiable RX4 1) (by decide +kernel))
  obtain ⟨c5, i5, hKn5⟩ := u_known (C := RX5) (T := TX5) (N := 4) (n := 4) hts0 wsL_in_wsX50 (hts0 (.instantiable RX5 4) (by decide +kernel))
  obtain ⟨c6, i6, hKn6⟩ := u_known (C := RX6) (T := TX6) (N := 3) (n := 3) hts0 wsL_in_wsX60 (hts0 (.instantiable RX6 3) (by decide +kernel))
  obtain ⟨c7, i7, hKn7⟩ := u_known (C := RX7) (T := TX7) (N := 4) (n := 4) hts0 wsL_in_wsX70 (hts0 (.instantiable RX7 4) (by decide +kernel))
  obtain ⟨c8, i8, hKn8⟩ := u_known (C := RX8) (T := TX8) (N := 9) (n := 9) hts0 wsL_in_wsX80 (hts0 (.instantiable RX8 9) (by decide +kernel))
  obtain ⟨c9, i9, hKn9⟩ := u_known (C := RX9) (T := TX9) (N := 24) (n := 24) hts0 wsL_in_wsX90 (hts0 (.instantiable RX9 24) (by decide +kernel))
  obtain ⟨D, hKc⟩ : ∃ D : va_G, ∀ (k : Nat) (q : vw_C), vwCl[k]? = some q → u_Kn s q.1 q.2.1 q.2.2 (D.1 k) (D.2 k) := by
    refine ⟨(fun k => match k with | 0 => c0 | 1 => c1 | 2 => c2 | 3 => c3 | 4 => c4 | 5 => c5 | 6 => c6 | 7 => c7 | 8 => c8 | _ => c9, fun k => match k with | 0 => i0 | 1 => i1 | 2 => i2 | 3 => i3 | 4 => i4 | 5 => i5 | 6 => i6 | 7 => i7 | 8 => i8 | _ => i9), ?_⟩
    intro k q hq
    match k, hq with
    | 0, hq => cases hq; exact hKn0
    | 1, hq => cases hq; exact hKn1
    | 2, hq => cases hq; exact hKn2
    | 3, hq => cases hq; exact hKn3
    | 4, hq => cases hq; exact hKn4
    | 5, hq => cases hq; exact hKn5
    | 6, hq => cases hq; exact hKn6
    | 7, hq => cases hq; exact hKn7
    | 8, hq => cases hq; exact hKn8
    | 9, hq => cases hq; exact hKn9
    | k + 10, hq => simp [vwCl] at hq
  obtain ⟨cI, kI, pI, fI1, fI2, fI3⟩ := Cond.arrayClass_spec (hts0 (.arrayClass .int) (by decide +kernel))
  obtain ⟨cZ, kZ, pZ, fZ1, fZ2, fZ3⟩ := Cond.arrayClass_spec (hts0 (.arrayClass .boolean) (by decide +kernel))
  obtain ⟨pH, cH, kH, fH1, -, fH2, fH3, fH4⟩ := Cond.arrayOver_spec (hts0 (.arrayOver (.object "YieldDoors$Hall")) (by decide +kernel))
  obtain ⟨pR, cR, kR, fR1, -, fR2, fR3, fR4⟩ := Cond.arrayOver_spec (hts0 (.arrayOver (.object "YieldDoors$Row")) (by decide +kernel))
  have hK : va_K D vwCl (fw_tys cI cZ cH cR) s := by
    refine ⟨hKc, fun k q hq => ?_⟩
    match k, hq with
    | 0, hq => cases hq; exact ⟨fun N z => ⟨(fun k h => by cases h), kI, fI2, pI, fI3⟩, fI1⟩
    | 1, hq => cases hq; exact ⟨fun N z => ⟨(fun k h => by cases h), kZ, fZ2, pZ, fZ3⟩, fZ1⟩
    | 2, hq => cases hq; exact ⟨fun N z => ⟨(fun k h => by cases h), kH, fH2, pH, fH3⟩, kH, pH, fH2, fH3, fH1, fH4⟩
    | 3, hq => cases hq; exact ⟨fun N z => ⟨(fun k h => by cases h), kR, fR2, pR, fR3⟩, kR, pR, fR2, fR3, fR1, fR4⟩
    | k + 4, hq => simp [fw_tys] at hq
  have hAn : ∀ a : Nat, a < s.heap.size → ¬ fw_A 212 (fk_ad s.heap.size) s.heap.size a := by
    rintro a ha (⟨k, _, h⟩ | h)
    · have h2 : s.heap.size + k = a := h
      omega
    · omega
  have hfl := flat_of_before _ hgv
  have hNF : fw_NF fw_nw0 (fw_A 212 (fk_ad s.heap.size) s.heap.size) s s.heap := by
    refine ⟨fun q hq => ?_, ?_⟩
    · have h2 : ∀ q ∈ fw_nw0, Cond.methodLinkNest q.1 q.2.1 q.2.2.1 q.2.2.2 ∈ lw_tbl := by decide +kernel
      exact va_Nw.of rfl (hts0 _ (h2 q hq))
    · obtain ⟨t, ht, hT⟩ := va_Tof (N := 6) (f := fun j => .int (fw_KO j)) (tm := .static "YieldDoors$Hall" "KINDS_OF" "[I") (A := fw_A 212 (fk_ad s.heap.size) s.heap.size) (by decide) (hfl (.arrayOf (.static "YieldDoors$Hall" "KINDS_OF" "[I") .int) (by decide +kernel)) (va_eqt (hfl (.eq (.length (.static "YieldDoors$Hall" "KINDS_OF" "[I")) (.int 6)) (by decide +kernel)))
        (fun j hj => by
          match j, hj with
          | 0, _ => exact va_eqt (hfl (.eq (.elem (.static "YieldDoors$Hall" "KINDS_OF" "[I") (.int 0)) (.int 1)) (by decide +kernel))
          | 1, _ => exact va_eqt (hfl (.eq (.elem (.static "YieldDoors$Hall" "KINDS_OF" "[I") (.int 1)) (.int 3)) (by decide +kernel))
          | 2, _ => exact va_eqt (hfl (.eq (.elem (.static "YieldDoors$Hall" "KINDS_OF" "[I") (.int 2)) (.int 7)) (by decide +kernel))
          | 3, _ => exact va_eqt (hfl (.eq (.elem (.static "YieldDoors$Hall" "KINDS_OF" "[I") (.int 3)) (.int 11)) (by decide +kernel))
          | 4, _ => exact va_eqt (hfl (.eq (.elem (.static "YieldDoors$Hall" "KINDS_OF" "[I") (.int 4)) (.int 17)) (by decide +kernel))
          | 5, _ => exact va_eqt (hfl (.eq (.elem (.static "YieldDoors$Hall" "KINDS_OF" "[I") (.int 5)) (.int 49)) (by decide +kernel))
          | j + 6, hj => exact absurd hj (by omega)) hAn
      exact ⟨t, va_Zref (hts0 (.laysStatic "YieldDoors$Hall" "KINDS_OF" "[I") (by decide +kernel)) (hts0 (.initialized "YieldDoors$Hall") (by decide +kernel)) ht hAn, hT⟩
  have hkN : fk_N nw_k s := by
    refine ⟨fun q hq => ?_, va_AO.of (hts0 (.arrayOver (.object "YieldDoors$Hall")) (by decide +kernel)), va_AO.of (hts0 (.arrayOver (.object "YieldDoors$Row")) (by decide +kernel))⟩
    have h2 : ∀ q ∈ nw_k, Cond.methodLinkNest q.1 q.2.1 q.2.2.1 q.2.2.2 ∈ lw_tbl := by decide +kernel
    exact va_Nw.of rfl (hts0 _ (h2 q hq))
  have hin : fw_inj 212 (fk_ad s.heap.size) := fun i j _ _ h => Nat.add_left_cancel h
  have C : fw_C p s m #[Value.ref b] meth c code RL wsL_law 4 ret D vwCl (fw_tys cI cZ cH cR) 212 (fk_ad s.heap.size) fw_nw0 := ⟨hx, hb, hml, hown, hts, hK, hin, hNF, hlocks, hr⟩
  have CK : fk_C p s m #[Value.ref b] meth c code RL wsL_law 4 D vwCl (fw_tys cI cZ cH cR) nw_k := ⟨hx, hb, hml, hown, hts, hK, hkN, hlocks⟩
  have hl := lv_entry ([.ref b]) (n := 4) (Nat.le_of_ble_eq_true rfl)
  rw [lg_entry_eq]
  refine lw_walk0 CK C hX hbl (hAn b hbl) hL _ _ _ rfl ?_ va_S.rf hl
  exact fun k q h => by simp [fw_W] at h
set_option maxHeartbeats 4000000 in
theorem lw_walk (l : Launch) (b : Addr) (xs : List Int32) : MetFree l x (headSpec (Jvm.Cond.code x code maxLocals ret :: tables_1) room_1) (lw_P b xs) (fun _ _ _ _ _ => True) lw_Q := by
  refine MetFree.of_bodyS (code := code) (maxLocals := maxLocals) (ret := ret) (by decide) ?_ ?_
  · intro args s m h hn
    obtain ⟨meth, c, h1, h2, h3, h4, h5, h6, -, -⟩ := Cond.code_spec hn (atoms_spec (ws := Jvm.Cond.code x code maxLocals ret :: tables_1) h _ List.mem_cons_self)
    exact ⟨meth, c, h1, h2, h3, h4, h5, h6⟩
  · intro p e s m args below meth c s₁ B hml0 hP _
    obtain ⟨rfl, hx, hbd, hgv⟩ := hP
    obtain ⟨scr, harrAt, hlist, hof, hsmall⟩ := hx
    obtain ⟨hcb, hkn, -, -⟩ := State.arrayAt?_spec harrAt
    have hown : s.vm.findClass R_law = some m.cls := findClass_of_methodNamed B.named
    have hts0 : ∀ c ∈ (Jvm.Cond.code x code maxLocals ret :: tables_1), c.before #[Value.ref b] s = true := atoms_spec (ws := Jvm.Cond.code x code maxLocals ret :: tables_1) B.pre
    have hts : ∀ w ∈ lw_tbl, w.before #[Value.ref b] s = true := k2_hts_sels lw_privs (fun w hw => hts0 w (List.mem_cons_of_mem _ hw)) lw_privs_ok
    have hml : c.maxLocals = 4 := B.maxLocals_eq (hts0 _ List.mem_cons_self)
    have X₀ : Stand p l e room_1 s m #[Value.ref b] below meth c s₁ [] 0 0 := Stand.of_body B
    have hh0 : s₁.heap = s.heap := by rw [B.state]; rfl
    have hsz : scr.slots.size = xs.length := by rw [← Array.length_toList, hlist, List.length_map]
    have hval : ∀ j : Nat, j < xs.length → scr.slots[j]? = some (.int (xs.getD j 0)) := fun j hj => by
      rw [← Array.getElem?_toList, hlist]
      simp [hj]
    have hbl : b < s.heap.size := (Array.getElem?_eq_some_iff.mp hcb).1
    have hX : va_X b xs.length (fun j => xs.getD j 0) s s.heap := ⟨scr, hcb, hof, hkn, hsz, hval⟩
    have K : W p l e room_1 s m #[Value.ref b] below meth c s₁.heap [] 0 0 (lw_Z below #[Value.ref b] s) (entryFrame m ([Value.ref b] : List Value).toArray 4) := by
      rw [hh0]
      exact whole_start l hbd ⟨B.exec, B.bytes, B.returns, hml, hown, hts, hX, hbl, B.notSynchronized, hgv⟩
    obtain ⟨t, a1, o, b1, b2, b3⟩ := K s₁ rfl X₀
    exact ⟨t, o, a1, b1, b2, b3⟩
theorem lw_pre_spec {args : Array Value} {s : State} (h : (Jvm.Cond.and given_1 narrow_1).before args s = true) (hr : rest_1_c.before args s = true) : ∃ (b : Addr) (xs : List Int32), lw_P b xs args s := by
  have hs := flat_of_before _ h
  have hq := flat_of_before _ hr
  have hc : (Cond.count 1).before args s = true := hs _ (by decide +kernel)
  have harr : (Cond.arrayOf (.arg 0) .int).before args s = true := hs _ (by decide +kernel)
  have hle : (Cond.le (.length (.arg 0)) (.int 384)).before args s = true := hs _ (by decide +kernel)
  have hlen : (Cond.isInt (.length (.arg 0))).before args s = true := hq _ (by decide +kernel)
  have hall : (Cond.all (.arg 0) (.isInt (.elem (.arg 0) (.index 0)))).before args s = true := hq _ (by decide +kernel)
  obtain ⟨b, xs, hb, hx⟩ := State.ints_of_pre rfl harr hlen hall
  have hsm : xs.length < 2 ^ 31 := hx.choose_spec.2.2.2
  have hev : (Term.length (.arg 0)).eval args s none [] s = some (.int xs.length.toInt32) := hx.length_eval hb
  have hv := Cond.le_ints hev (show (Term.int 384).eval args s none [] s = some (.int 384) from rfl)
  have hd : xs.length.toInt32 ≤ 384 := by
    simpa [Cond.before, Cond.holds, hv] using hle
  have hN : xs.length ≤ 384 := (Int32.ofNat_le_ofNat hsm (by decide)).mp (show Int32.ofNat xs.length ≤ Int32.ofNat 384 from hd)
  exact ⟨b, xs, Cond.one_arg hc (show args[0]? = some (.ref b) from hb), hx, hN, h⟩
theorem lw_comes (l : Launch) : Comes l x (Jvm.Cond.code x code maxLocals ret :: tables_1) room_1 (fun tb e args s => Calls_1 tb e args s ∧ rest_1 tb e args s ∧ Pre_1 tb e args s)
    (fun _ _ args s o t => lw_Q args s o t) := by
  intro p e ha hc hk s m args below hf hfit hheap happ hpre
  obtain ⟨b, xs, hP⟩ := lw_pre_spec hpre.2.2 hpre.2.1
  obtain ⟨k, o, h1, h2, h3, hQ⟩ := lw_walk l b xs p e ha hc hk s m args below hf ((Spec.applies_iff_loose hf).mp happ).1 hP trivial
  exact ⟨k, o, h1, h2, h3, hQ⟩
theorem lw_frame {s t : State} {o : Outcome} {args : Array Value} (h : Framed s o t [] 600000 7302250) :
    Framed s o t (fieldLocs frame_1_writes args s ++ arrayLocs frame_1_arrays args s ++ staticLocs frame_1_statics s) 600000 7302250 := h
theorem lw_limb (L : Cond) (hL : ∀ (args : Array Value) (s t : State), L.after args s (.returned (some (.int 1))) t = true) :
    ArmFor flags0 classFile x code maxLocals ret World_1 tables_1 room_1 Calls_1 rest_1 Pre_1
      (fun tb e a s o t => postC L tb e a s o t ∧ Framed s o t (fieldLocs frame_1_writes a s ++ arrayLocs frame_1_arrays a s ++ staticLocs frame_1_statics s) 600000 7302250) := by
  intro l _ _ _ p e ha hc hk s m args below hf hfit hheap happ hpre
  obtain ⟨k, o, h1, h2, h3, rfl, hF⟩ := lw_comes l p e ha hc hk s m args below hf hfit hheap happ hpre
  exact ⟨k, _, h1, h2, h3, hL args s _, lw_frame hF⟩
theorem i_vc : Claimed_1_1 ∧ Claimed_1_2 := ⟨lw_limb limb_1_1 (fun args s t => by simp [limb_1_1, Cond.after, Cond.holds, Cond.value]), lw_limb limb_1_2 (fun args s t => Cond.after_iff.mpr (by
  first | (rw [show limb_1_2 = Cond.eq .result (.int 1) from rfl, Cond.eq_ints (x := 1) (y := 1) rfl rfl]; simp; done) | (simp [limb_1_2, Cond.value, Term.eval]; done)))⟩

