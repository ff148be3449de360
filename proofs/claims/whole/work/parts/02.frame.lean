/-! THE FRAME: one world of N cells at the addresses ad k, that hold what a memory M says; the judgement of a walk over it (fw_J): heaps, locations and locals are inside -/
abbrev fw_M : Type := Nat → Nat → Int32
def fw_put (M : fw_M) (a : Nat) (f : Nat → Int32) : fw_M := fun b => if b = a then f else M b
def fw_set (M : fw_M) (a i : Nat) (v : Int32) : fw_M := fw_put M a (upd (M a) i v)
def fw_W (N : Nat) (ad : Nat → Nat) (E : Nat → va_E) : va_W := (List.range N).map (fun k => (ad k, E k))
theorem fw_get {N : Nat} {ad : Nat → Nat} {E : Nat → va_E} {k : Nat} (h : k < N) : (fw_W N ad E)[k]? = some (ad k, E k) := by
  simp [fw_W, List.getElem?_map, List.getElem?_range h]
theorem fw_gets {N : Nat} {ad : Nat → Nat} {E : Nat → va_E} {k : Nat} {q : Nat × va_E} (h : (fw_W N ad E)[k]? = some q) : k < N ∧ q = (ad k, E k) := by
  have hk : k < N := by
    have := (List.getElem?_eq_some_iff.mp h).1
    simpa [fw_W] using this
  rw [fw_get hk] at h
  exact ⟨hk, (Option.some.inj h).symm⟩
theorem fw_upd {N : Nat} {ad : Nat → Nat} {E : Nat → va_E} {k : Nat} {e : va_E} (h : k < N) : (fw_W N ad E).set k (ad k, e) = fw_W N ad (fun j => if j = k then e else E j) := by
  apply List.ext_getElem?
  intro i
  by_cases hi : i < N
  · by_cases hik : i = k
    · subst hik
      rw [fw_get hi, if_pos rfl, List.getElem?_set_self (by simpa [fw_W] using hi)]
    · rw [List.getElem?_set_ne (Ne.symm hik), fw_get hi, fw_get hi, if_neg hik]
  · have h1 : ∀ F : Nat → va_E, (fw_W N ad F)[i]? = none := fun F => List.getElem?_eq_none (by simp [fw_W]; omega)
    rw [h1, List.getElem?_set_ne (by omega), h1]
def fw_A (N : Nat) (ad : Nat → Nat) (sz : Nat) : Nat → Prop := fun q => (∃ k, k < N ∧ ad k = q) ∨ sz ≤ q
def fw_inj (N : Nat) (ad : Nat → Nat) : Prop := ∀ i j, i < N → j < N → ad i = ad j → i = j
theorem fw_D {N : Nat} {ad : Nat → Nat} {sz : Nat} (hi : fw_inj N ad) (E : Nat → va_E) : va_D (fw_A N ad sz) (fw_W N ad E) := by
  refine ⟨fun i j p q h1 h2 he => ?_, fun k q h => ?_⟩
  · obtain ⟨a1, rfl⟩ := fw_gets h1
    obtain ⟨a2, rfl⟩ := fw_gets h2
    exact hi i j a1 a2 he
  · obtain ⟨a1, rfl⟩ := fw_gets h
    exact Or.inl ⟨k, a1, rfl⟩
/-! what the world's places are -/
def fw_I (EE : fw_M → Nat → va_E) (N : Nat) (cA : ClassId) (k n : Nat) : Prop := k < N ∧ (∀ M : fw_M, EE M k = .inl (cA, n, .inl (M k))) ∧ ∀ (M : fw_M) (f : Nat → Int32), (fun j => if j = k then (.inl (cA, n, .inl f) : va_E) else EE M j) = EE (fw_put M k f)
def fw_F (EE : fw_M → Nat → va_E) (N k ci j : Nat) : Prop := k < N ∧ ∀ M : fw_M, ∃ fs : List Value, EE M k = .inr (ci, fs) ∧ fs[j]? = some (.int (M k j)) ∧ ∀ v : Int32, (fun i => if i = k then (.inr (ci, fs.set j (.int v)) : va_E) else EE M i) = EE (fw_set M k j v)
def fw_R (EE : fw_M → Nat → va_E) (ad : Nat → Nat) (N k ci j k' : Nat) : Prop := k < N ∧ ∀ M : fw_M, ∃ fs : List Value, EE M k = .inr (ci, fs) ∧ fs[j]? = some (.ref (ad k'))
def fw_O (EE : fw_M → Nat → va_E) (N k ci : Nat) : Prop := k < N ∧ ∀ M : fw_M, ∃ fs : List Value, EE M k = .inr (ci, fs)
def fw_Q (EE : fw_M → Nat → va_E) (ad : Nat → Nat) (N : Nat) (cA : ClassId) (k n : Nat) (g : Nat → Nat) : Prop := k < N ∧ ∀ M : fw_M, EE M k = .inl (cA, n, .inr (.inr (.inr (.inr (fun i => some (ad (g i)))))))
/-! pure steps that may fail -/
def fw_ald (M : fw_M) (a n : Nat) (i : Int32) : Option Int32 := if 0 ≤ i.toInt ∧ i.toInt < (n : Int) then some (M a i.toNatClampNeg) else none
def fw_ast (M : fw_M) (a n : Nat) (i v : Int32) : Option fw_M := if 0 ≤ i.toInt ∧ i.toInt < (n : Int) then some (fw_set M a i.toNatClampNeg v) else none
def fw_aix (n : Nat) (i : Int32) : Option Nat := if 0 ≤ i.toInt ∧ i.toInt < (n : Int) then some i.toNatClampNeg else none
def fw_tld (n : Nat) (f : Nat → Int32) (i : Int32) : Option Int32 := if 0 ≤ i.toInt ∧ i.toInt < (n : Int) then some (f i.toNatClampNeg) else none
def fw_cpy (M : fw_M) (a na : Nat) (i : Int32) (b nb : Nat) (j n : Int32) : Option fw_M := if ¬ i < 0 ∧ ¬ j < 0 ∧ ¬ n < 0 ∧ i.toNatClampNeg + n.toNatClampNeg ≤ na ∧ j.toNatClampNeg + n.toNatClampNeg ≤ nb then some (fw_put M b (va_cpy (M a) (M b) i.toNatClampNeg j.toNatClampNeg n.toNatClampNeg)) else none
def fw_remP (x y : Int32) : Option Int32 := if y = 0 then none else some (x - x / y * y)
def fw_lremP (x y : Int64) : Option Int64 := if y = 0 then none else some (x - x / y * y)
def fw_ldivP (x y : Int64) : Option Int64 := if y = 0 then none else some (x / y)
def fw_zr (x : Int32) : Option Int32 := if x = 0 ∨ x = 1 then some x else none
def fw_pl {α β : Type} (x : α) (k : α → β) : β := k x
/-- how often a loop may go round: as often as need be (nothing unfolds it) -/
noncomputable def fw_fu : Nat := Classical.choose (⟨1000, Nat.le_refl _⟩ : ∃ n : Nat, 1000 ≤ n)
theorem fw_fu_ge : 1000 ≤ fw_fu := Classical.choose_spec (⟨1000, Nat.le_refl _⟩ : ∃ n : Nat, 1000 ≤ n)
theorem fw_bind {α β : Type} {x : Option α} {k : α → Option β} {z : β} (h : x.bind k = some z) : ∃ v, x = some v ∧ k v = some z := by
  cases x with
  | none => cases h
  | some v => exact ⟨v, rfl, h⟩
theorem fw_ift {α : Type} {c : Prop} {_ : Decidable c} {a b z : α} (h : (if c then a else b) = z) (hc : c) : a = z := by rw [if_pos hc] at h; exact h
theorem fw_iff {α : Type} {c : Prop} {_ : Decidable c} {a b z : α} (h : (if c then a else b) = z) (hc : ¬ c) : b = z := by rw [if_neg hc] at h; exact h
theorem fw_plh {α β : Type} {x : α} {k : α → β} {z : β} (h : fw_pl x k = z) : k x = z := h
theorem fw_inb {n : Nat} {i : Int32} (h : 0 ≤ i.toInt ∧ i.toInt < (n : Int)) : vp_in i n := vp_in_iff.mpr h
/-! the static table, and the words of calls among nest mates -/
def fw_KO : Nat → Int32 := fun j => match j with | 0 => 1 | 1 => 3 | 2 => 7 | 3 => 11 | 4 => 17 | _ => 49
abbrev fw_nw : Type := List (String × Nat × MethodName × String)
def fw_NF (nw : fw_nw) (A : Nat → Prop) (U : State) (H : Heap) : Prop := (∀ q ∈ nw, va_Nw (.methodLinkNest q.1 q.2.1 q.2.2.1 q.2.2.2) U) ∧ ∃ t : Nat, va_Z "YieldDoors$Hall" "KINDS_OF" "[I" (.ref t) A U H ∧ va_T .int t 6 (fun j => .int (fw_KO j)) A U H
theorem fw_NF.go {nw : fw_nw} {A B : Nat → Prop} {u U : State} {H : Heap} (h : fw_NF nw A u u.heap) (hW : u.WarmedH U.vm) (hAB : ∀ q, B q → q < u.heap.size → A q) (hk : ∀ a : Nat, a < u.heap.size → ¬ A a → H[a]? = u.heap[a]?) : fw_NF nw B U H := by
  obtain ⟨h1, t, h2, h3⟩ := h
  have hn : ∀ q, q < u.heap.size → ¬ A q → ¬ B q := fun q hq h z => h (hAB q z hq)
  refine ⟨fun q hq => va_Nw.warmM hW (h1 q hq), t, ?_, ?_⟩
  · refine va_Z.moved hW.alike ?_
    obtain ⟨cf, kf, fi, f, a, cell, a1, a2, a3, a4, a5, a6, a7, a8⟩ := h2
    have hl := (Array.getElem?_eq_some_iff.mp a5).1
    exact ⟨cf, kf, fi, f, a, cell, a1, a2, a3, a4, by rw [hk a hl a8]; exact a5, a6, a7, hn a hl a8⟩
  · refine va_T.moved hW.alike ?_
    obtain ⟨cell, b1, b2, b3, b4, b5, b6, b7⟩ := h3
    have hl := (Array.getElem?_eq_some_iff.mp b1).1
    exact ⟨cell, by rw [hk t hl b7]; exact b1, b2, b3, b4, b5, b6, hn t hl b7⟩
/-- what a method stands on at its entry -/
def fw_B (D : va_G) (cl : List vw_C) (tys : List (ClassId × FieldType)) (N : Nat) (ad : Nat → Nat) (nw : fw_nw) (E : Nat → va_E) (sz : Nat) (U : State) : Prop := U.heap.size = sz ∧ va_P D cl (fw_W N ad E) U.heap ∧ va_K D cl tys U ∧ fw_inj N ad ∧ fw_NF nw (fw_A N ad sz) U U.heap
/-- a contract: from the world at M the method returns ov, and leaves the world at M' -/
def fw_Met (l : Launch) (y : MethodName) (ws : List Cond) (rm : Room) (D : va_G) (cl : List vw_C) (tys : List (ClassId × FieldType)) (N : Nat) (ad : Nat → Nat) (nw : fw_nw) (EE : fw_M → Nat → va_E) (av : List Value) (M : fw_M) (ov : Option Value) (M' : fw_M) : Prop :=
  ∀ sz : Nat, Met l y ws rm (fun v U => v = av.toArray ∧ fw_B D cl tys N ad nw (EE M) sz U) (fun _ st oc t => oc = .returned ov ∧ va_P D cl (fw_W N ad (EE M')) t.heap ∧ va_F (fw_A N ad sz) st t) 0 0 (fw_A N ad sz)
/-- what stays through a walk -/
def fw_C (p : Program) (s : State) (m : MethodId) (args : Array Value) (meth : Method) (c : Code) (cc : ByteArray) (own : String) (ws : List Cond) (nL : Nat) (ret : Option FieldType) (D : va_G) (cl : List vw_C) (tys : List (ClassId × FieldType)) (N : Nat) (ad : Nat → Nat) (nw : fw_nw) : Prop :=
  p.tables.exec = Jvm.exec ∧ c.code = cc ∧ c.maxLocals = nL ∧ s.vm.findClass own = some m.cls ∧ (∀ w ∈ ws, w.before args s = true) ∧ va_K D cl tys s ∧ fw_inj N ad ∧ fw_NF nw (fw_A N ad s.heap.size) s s.heap ∧ meth.locks = false ∧ meth.sig.returnType = ret
def fw_J (p : Program) (l : Launch) (e : Env) (R : Room) (s : State) (m : MethodId) (args : Array Value) (below : List Frame) (meth : Method) (c : Code) (D : va_G) (cl : List vw_C) (N : Nat) (ad : Nat → Nat) (EE : fw_M → Nat → va_E) (nL cs sl : Nat) (Q : State → Prop) (M : fw_M) (L : List (Nat × Value)) (pc : Nat) (st : List Value) : Prop :=
  ∀ (H : Heap) (locs : List Loc) (ls : Array Slot), va_P D cl (fw_W N ad (EE M)) H → va_S (fw_A N ad s.heap.size) s.heap H locs → lv_has ls nL L → W p l e R s m args below meth c H locs cs sl Q (F0 m pc ls st)
/-- a walk's end: the method has returned ov, the world is at M' -/
def fw_E (below : List Frame) (args : Array Value) (s : State) (D : va_G) (cl : List vw_C) (N : Nat) (ad : Nat → Nat) (EE : fw_M → Nat → va_E) (ov : Option Value) (M' : fw_M) : State → Prop :=
  MQ below (fun _ st oc t => oc = .returned ov ∧ va_P D cl (fw_W N ad (EE M')) t.heap ∧ va_F (fw_A N ad s.heap.size) st t) args s 0 0 (fw_A N ad s.heap.size)
theorem fw_intro {l : Launch} {y : MethodName} {ws ws' : List Cond} {rm : Room} {D : va_G} {cl : List vw_C} {tys : List (ClassId × FieldType)} {N : Nat} {ad : Nat → Nat} {nw : fw_nw} {EE : fw_M → Nat → va_E} {av : List Value} {M M' : fw_M} {ov : Option Value} {cc : ByteArray} {maxL : Nat} {ret : Option FieldType} {own : String} (hy : plainName y.cls = true) (hw : ws = Cond.code y cc maxL ret :: ws') (ho : y.cls = own) (hle : (lg_sl av).length ≤ maxL)
    (body : ∀ (p : Program) (e : Env) (s : State) (m : MethodId) (args : Array Value) (below : List Frame) (meth : Method) (c : Code), fw_C p s m args meth c cc own ws maxL ret D cl tys N ad nw → fw_J p l e (headSpec ws rm).room s m args below meth c D cl N ad EE maxL 0 0 (fw_E below args s D cl N ad EE ov M') M (lv_args 0 av) 0 []) : fw_Met l y ws rm D cl tys N ad nw EE av M ov M' := by
  intro sz
  refine Met.ofW (cc := cc) (maxL := maxL) (ret := ret) hy hw ?_
  intro p e s m args below meth c s₁ B hml hv
  obtain ⟨rfl, rfl, hP, hK, hi, hN⟩ := hv
  have hl := lv_entry av hle
  rw [lg_entry_eq]
  exact body p e s m _ below meth c ⟨B.exec, B.bytes, hml, ho ▸ findClass_of_methodNamed B.named, atoms_spec (ws := ws) B.pre, hK, hi, hN, B.notSynchronized, B.returns⟩ _ _ _ hP va_S.rf hl
section FWJ
variable {p : Program} {l : Launch} {e : Env} {R : Room} {s : State} {m : MethodId} {args : Array Value} {below : List Frame} {meth : Method} {c : Code} {D : va_G} {cl : List vw_C} {tys : List (ClassId × FieldType)} {N : Nat} {ad : Nat → Nat} {nw : fw_nw} {EE : fw_M → Nat → va_E} {nL cs sl : Nat} {Q : State → Prop} {M : fw_M} {L : List (Nat × Value)} {pc : Nat} {rest : List Value} {cc : ByteArray} {own : String} {ws : List Cond} {ret : Option FieldType}
theorem fw_iconst (C : fw_C p s m args meth c cc own ws nL ret D cl tys N ad nw) {n : Int} {v : Int32} (hd : decode cc pc = .ok (.iconst n, 1)) (hv : Int32.ofInt n = v) (kk : fw_J p l e R s m args below meth c D cl N ad EE nL cs sl Q (M) (L) (pc + 1) (.int v :: rest)) : fw_J p l e R s m args below meth c D cl N ad EE nL cs sl Q M L pc (rest) :=
  fun H locs ls hP hS hl => lv_iconst C.1 C.2.1 hd hv (kk H locs ls hP hS hl)
theorem fw_bipush (C : fw_C p s m args meth c cc own ws nL ret D cl tys N ad nw) {n : Int} {v : Int32} (hd : decode cc pc = .ok (.bipush n, 2)) (hv : (Int8.ofInt n).toInt32 = v) (kk : fw_J p l e R s m args below meth c D cl N ad EE nL cs sl Q (M) (L) (pc + 2) (.int v :: rest)) : fw_J p l e R s m args below meth c D cl N ad EE nL cs sl Q M L pc (rest) :=
  fun H locs ls hP hS hl => lv_bipush C.1 C.2.1 hd hv (kk H locs ls hP hS hl)
theorem fw_sipush (C : fw_C p s m args meth c cc own ws nL ret D cl tys N ad nw) {n : Int} {v : Int32} (hd : decode cc pc = .ok (.sipush n, 3)) (hv : (Int16.ofInt n).toInt32 = v) (kk : fw_J p l e R s m args below meth c D cl N ad EE nL cs sl Q (M) (L) (pc + 3) (.int v :: rest)) : fw_J p l e R s m args below meth c D cl N ad EE nL cs sl Q M L pc (rest) :=
  fun H locs ls hP hS hl => lv_sipush C.1 C.2.1 hd hv (kk H locs ls hP hS hl)
theorem fw_lconst (C : fw_C p s m args meth c cc own ws nL ret D cl tys N ad nw) {n : Fin 2} {v : Int64} (hd : decode cc pc = .ok (.lconst n, 1)) (hv : Int64.ofNat (n : Nat) = v) (kk : fw_J p l e R s m args below meth c D cl N ad EE nL cs sl Q (M) (L) (pc + 1) (.long v :: rest)) : fw_J p l e R s m args below meth c D cl N ad EE nL cs sl Q M L pc (rest) :=
  fun H locs ls hP hS hl => lv_lconst C.1 C.2.1 hd hv (kk H locs ls hP hS hl)
theorem fw_ldc (C : fw_C p s m args meth c cc own ws nL ret D cl tys N ad nw) {index : Nat} {v : Int32} (hw : Cond.constant own index v ∈ ws) (hd : decode cc pc = .ok (.ldc index, 2)) (kk : fw_J p l e R s m args below meth c D cl N ad EE nL cs sl Q (M) (L) (pc + 2) (.int v :: rest)) : fw_J p l e R s m args below meth c D cl N ad EE nL cs sl Q M L pc (rest) :=
  fun H locs ls hP hS hl => lv_ldc C.1 C.2.1 C.2.2.2.1 (C.2.2.2.2.1 _ hw) hd (kk H locs ls hP hS hl)
theorem fw_ldcw (C : fw_C p s m args meth c cc own ws nL ret D cl tys N ad nw) {index : Nat} {v : Int32} (hw : Cond.constant own index v ∈ ws) (hd : decode cc pc = .ok (.ldc_w index, 3)) (kk : fw_J p l e R s m args below meth c D cl N ad EE nL cs sl Q (M) (L) (pc + 3) (.int v :: rest)) : fw_J p l e R s m args below meth c D cl N ad EE nL cs sl Q M L pc (rest) :=
  fun H locs ls hP hS hl => lv_ldcw C.1 C.2.1 C.2.2.2.1 (C.2.2.2.2.1 _ hw) hd (kk H locs ls hP hS hl)
theorem fw_ldc2 (C : fw_C p s m args meth c cc own ws nL ret D cl tys N ad nw) {index : Nat} {v : Int64} (hw : Cond.constantLong own index v ∈ ws) (hd : decode cc pc = .ok (.ldc2_w index, 3)) (kk : fw_J p l e R s m args below meth c D cl N ad EE nL cs sl Q (M) (L) (pc + 3) (.long v :: rest)) : fw_J p l e R s m args below meth c D cl N ad EE nL cs sl Q M L pc (rest) :=
  fun H locs ls hP hS hl => lv_ldc2 C.1 C.2.1 C.2.2.2.1 (C.2.2.2.2.1 _ hw) hd (kk H locs ls hP hS hl)
theorem fw_iload_n (C : fw_C p s m args meth c cc own ws nL ret D cl tys N ad nw) {j : Fin 4} {i : Nat} {x : Int32} (k : Nat) (hd : decode cc pc = .ok (.iload_n j, 1)) (hi : (j : Nat) = i) (hk : L[k]? = some (i, .int x)) (kk : fw_J p l e R s m args below meth c D cl N ad EE nL cs sl Q (M) (L) (pc + 1) (.int x :: rest)) : fw_J p l e R s m args below meth c D cl N ad EE nL cs sl Q M L pc (rest) :=
  fun H locs ls hP hS hl => lv_iload_n C.1 C.2.1 hd hi (lv_at hl k hk) (kk H locs ls hP hS hl)
theorem fw_iload (C : fw_C p s m args meth c cc own ws nL ret D cl tys N ad nw) {i : Nat} {x : Int32} (k : Nat) (hd : decode cc pc = .ok (.iload i, 2)) (hk : L[k]? = some (i, .int x)) (kk : fw_J p l e R s m args below meth c D cl N ad EE nL cs sl Q (M) (L) (pc + 2) (.int x :: rest)) : fw_J p l e R s m args below meth c D cl N ad EE nL cs sl Q M L pc (rest) :=
  fun H locs ls hP hS hl => lv_iload C.1 C.2.1 hd (lv_at hl k hk) (kk H locs ls hP hS hl)
theorem fw_lload_n (C : fw_C p s m args meth c cc own ws nL ret D cl tys N ad nw) {j : Fin 4} {i : Nat} {x : Int64} (k : Nat) (hd : decode cc pc = .ok (.lload_n j, 1)) (hi : (j : Nat) = i) (hk : L[k]? = some (i, .long x)) (kk : fw_J p l e R s m args below meth c D cl N ad EE nL cs sl Q (M) (L) (pc + 1) (.long x :: rest)) : fw_J p l e R s m args below meth c D cl N ad EE nL cs sl Q M L pc (rest) :=
  fun H locs ls hP hS hl => lv_lload_n C.1 C.2.1 hd hi (lv_at hl k hk) (kk H locs ls hP hS hl)
theorem fw_lload (C : fw_C p s m args meth c cc own ws nL ret D cl tys N ad nw) {i : Nat} {x : Int64} (k : Nat) (hd : decode cc pc = .ok (.lload i, 2)) (hk : L[k]? = some (i, .long x)) (kk : fw_J p l e R s m args below meth c D cl N ad EE nL cs sl Q (M) (L) (pc + 2) (.long x :: rest)) : fw_J p l e R s m args below meth c D cl N ad EE nL cs sl Q M L pc (rest) :=
  fun H locs ls hP hS hl => lv_lload C.1 C.2.1 hd (lv_at hl k hk) (kk H locs ls hP hS hl)
theorem fw_aload_n (C : fw_C p s m args meth c cc own ws nL ret D cl tys N ad nw) {j : Fin 4} {i : Nat} {x : Nat} (k : Nat) (hd : decode cc pc = .ok (.aload_n j, 1)) (hi : (j : Nat) = i) (hk : L[k]? = some (i, .ref x)) (kk : fw_J p l e R s m args below meth c D cl N ad EE nL cs sl Q (M) (L) (pc + 1) (.ref x :: rest)) : fw_J p l e R s m args below meth c D cl N ad EE nL cs sl Q M L pc (rest) :=
  fun H locs ls hP hS hl => lv_aload_n C.1 C.2.1 hd hi (lv_at hl k hk) (kk H locs ls hP hS hl)
theorem fw_aload (C : fw_C p s m args meth c cc own ws nL ret D cl tys N ad nw) {i : Nat} {x : Nat} (k : Nat) (hd : decode cc pc = .ok (.aload i, 2)) (hk : L[k]? = some (i, .ref x)) (kk : fw_J p l e R s m args below meth c D cl N ad EE nL cs sl Q (M) (L) (pc + 2) (.ref x :: rest)) : fw_J p l e R s m args below meth c D cl N ad EE nL cs sl Q M L pc (rest) :=
  fun H locs ls hP hS hl => lv_aload C.1 C.2.1 hd (lv_at hl k hk) (kk H locs ls hP hS hl)
theorem fw_istore_n (C : fw_C p s m args meth c cc own ws nL ret D cl tys N ad nw) {j : Fin 4} {i : Nat} {x : Int32} {L2 : List (Nat × Value)} (ks : List Nat) (hd : decode cc pc = .ok (.istore_n j, 1)) (hi : (j : Nat) = i) (hn : i < nL) (hL : lv_pick ((i, .int x) :: L.filter (fun q => !(q.1 == i) && !(q.1 + 1 == i && q.2.category == 2))) ks = L2) (kk : fw_J p l e R s m args below meth c D cl N ad EE nL cs sl Q M L2 (pc + 1) rest) : fw_J p l e R s m args below meth c D cl N ad EE nL cs sl Q M L pc (.int x :: rest) :=
  fun H locs ls hP hS hl => lv_istore_n C.1 C.2.1 hd hi hl hn rfl (fun ls2 hl2 => kk H locs ls2 hP hS (lv_sub hl2 ks hL))
theorem fw_istore (C : fw_C p s m args meth c cc own ws nL ret D cl tys N ad nw) {i : Nat} {x : Int32} {L2 : List (Nat × Value)} (ks : List Nat) (hd : decode cc pc = .ok (.istore i, 2)) (hn : i < nL) (hL : lv_pick ((i, .int x) :: L.filter (fun q => !(q.1 == i) && !(q.1 + 1 == i && q.2.category == 2))) ks = L2) (kk : fw_J p l e R s m args below meth c D cl N ad EE nL cs sl Q M L2 (pc + 2) rest) : fw_J p l e R s m args below meth c D cl N ad EE nL cs sl Q M L pc (.int x :: rest) :=
  fun H locs ls hP hS hl => lv_istore C.1 C.2.1 hd hl hn rfl (fun ls2 hl2 => kk H locs ls2 hP hS (lv_sub hl2 ks hL))
theorem fw_lstore_n (C : fw_C p s m args meth c cc own ws nL ret D cl tys N ad nw) {j : Fin 4} {i : Nat} {x : Int64} {L2 : List (Nat × Value)} (ks : List Nat) (hd : decode cc pc = .ok (.lstore_n j, 1)) (hi : (j : Nat) = i) (hn : i + 1 < nL) (hL : lv_pick ((i, .long x) :: L.filter (fun q => !(q.1 == i) && (!(q.1 == i + 1) && !(q.1 + 1 == i && q.2.category == 2)))) ks = L2) (kk : fw_J p l e R s m args below meth c D cl N ad EE nL cs sl Q M L2 (pc + 1) rest) : fw_J p l e R s m args below meth c D cl N ad EE nL cs sl Q M L pc (.long x :: rest) :=
  fun H locs ls hP hS hl => lv_lstore_n C.1 C.2.1 hd hi hl hn rfl (fun ls2 hl2 => kk H locs ls2 hP hS (lv_sub hl2 ks hL))
theorem fw_lstore (C : fw_C p s m args meth c cc own ws nL ret D cl tys N ad nw) {i : Nat} {x : Int64} {L2 : List (Nat × Value)} (ks : List Nat) (hd : decode cc pc = .ok (.lstore i, 2)) (hn : i + 1 < nL) (hL : lv_pick ((i, .long x) :: L.filter (fun q => !(q.1 == i) && (!(q.1 == i + 1) && !(q.1 + 1 == i && q.2.category == 2)))) ks = L2) (kk : fw_J p l e R s m args below meth c D cl N ad EE nL cs sl Q M L2 (pc + 2) rest) : fw_J p l e R s m args below meth c D cl N ad EE nL cs sl Q M L pc (.long x :: rest) :=
  fun H locs ls hP hS hl => lv_lstore C.1 C.2.1 hd hl hn rfl (fun ls2 hl2 => kk H locs ls2 hP hS (lv_sub hl2 ks hL))
theorem fw_astore_n (C : fw_C p s m args meth c cc own ws nL ret D cl tys N ad nw) {j : Fin 4} {i : Nat} {x : Nat} {L2 : List (Nat × Value)} (ks : List Nat) (hd : decode cc pc = .ok (.astore_n j, 1)) (hi : (j : Nat) = i) (hn : i < nL) (hL : lv_pick ((i, .ref x) :: L.filter (fun q => !(q.1 == i) && !(q.1 + 1 == i && q.2.category == 2))) ks = L2) (kk : fw_J p l e R s m args below meth c D cl N ad EE nL cs sl Q M L2 (pc + 1) rest) : fw_J p l e R s m args below meth c D cl N ad EE nL cs sl Q M L pc (.ref x :: rest) :=
  fun H locs ls hP hS hl => lv_astore_n C.1 C.2.1 hd hi hl hn rfl (fun ls2 hl2 => kk H locs ls2 hP hS (lv_sub hl2 ks hL))
theorem fw_astore (C : fw_C p s m args meth c cc own ws nL ret D cl tys N ad nw) {i : Nat} {x : Nat} {L2 : List (Nat × Value)} (ks : List Nat) (hd : decode cc pc = .ok (.astore i, 2)) (hn : i < nL) (hL : lv_pick ((i, .ref x) :: L.filter (fun q => !(q.1 == i) && !(q.1 + 1 == i && q.2.category == 2))) ks = L2) (kk : fw_J p l e R s m args below meth c D cl N ad EE nL cs sl Q M L2 (pc + 2) rest) : fw_J p l e R s m args below meth c D cl N ad EE nL cs sl Q M L pc (.ref x :: rest) :=
  fun H locs ls hP hS hl => lv_astore C.1 C.2.1 hd hl hn rfl (fun ls2 hl2 => kk H locs ls2 hP hS (lv_sub hl2 ks hL))
theorem fw_iinc (C : fw_C p s m args meth c cc own ws nL ret D cl tys N ad nw) {i : Nat} {n : Int} {x v : Int32} {L2 : List (Nat × Value)} (k : Nat) (ks : List Nat) (hd : decode cc pc = .ok (.iinc i n, 3)) (hk : L[k]? = some (i, .int x)) (hv : Int32.ofInt n = v) (hn : i < nL) (hL : lv_pick ((i, .int (x + v)) :: L.filter (fun q => !(q.1 == i) && !(q.1 + 1 == i && q.2.category == 2))) ks = L2) (kk : fw_J p l e R s m args below meth c D cl N ad EE nL cs sl Q M L2 (pc + 3) rest) : fw_J p l e R s m args below meth c D cl N ad EE nL cs sl Q M L pc rest := by
  subst hv
  exact fun H locs ls hP hS hl => lv_iinc C.1 C.2.1 hd hl (k := k) hk rfl hn rfl (fun ls2 hl2 => kk H locs ls2 hP hS (lv_sub hl2 ks hL))
theorem fw_sub {L2 : List (Nat × Value)} (ks : List Nat) (hL : lv_pick L ks = L2) (kk : fw_J p l e R s m args below meth c D cl N ad EE nL cs sl Q M L2 pc rest) : fw_J p l e R s m args below meth c D cl N ad EE nL cs sl Q M L pc rest := fun H locs ls hP hS hl => kk H locs ls hP hS (lv_sub hl ks hL)
theorem fw_iadd (C : fw_C p s m args meth c cc own ws nL ret D cl tys N ad nw) {x y : Int32} (hd : decode cc pc = .ok (.iadd, 1)) (kk : fw_J p l e R s m args below meth c D cl N ad EE nL cs sl Q (M) (L) (pc + 1) (.int (x + y) :: rest)) : fw_J p l e R s m args below meth c D cl N ad EE nL cs sl Q M L pc (.int y :: .int x :: rest) :=
  fun H locs ls hP hS hl => lv_iadd C.1 C.2.1 hd (kk H locs ls hP hS hl)
theorem fw_isub (C : fw_C p s m args meth c cc own ws nL ret D cl tys N ad nw) {x y : Int32} (hd : decode cc pc = .ok (.isub, 1)) (kk : fw_J p l e R s m args below meth c D cl N ad EE nL cs sl Q (M) (L) (pc + 1) (.int (x - y) :: rest)) : fw_J p l e R s m args below meth c D cl N ad EE nL cs sl Q M L pc (.int y :: .int x :: rest) :=
  fun H locs ls hP hS hl => lv_isub C.1 C.2.1 hd (kk H locs ls hP hS hl)
theorem fw_imul (C : fw_C p s m args meth c cc own ws nL ret D cl tys N ad nw) {x y : Int32} (hd : decode cc pc = .ok (.imul, 1)) (kk : fw_J p l e R s m args below meth c D cl N ad EE nL cs sl Q (M) (L) (pc + 1) (.int (x * y) :: rest)) : fw_J p l e R s m args below meth c D cl N ad EE nL cs sl Q M L pc (.int y :: .int x :: rest) :=
  fun H locs ls hP hS hl => lv_imul C.1 C.2.1 hd (kk H locs ls hP hS hl)
theorem fw_iand (C : fw_C p s m args meth c cc own ws nL ret D cl tys N ad nw) {x y : Int32} (hd : decode cc pc = .ok (.iand, 1)) (kk : fw_J p l e R s m args below meth c D cl N ad EE nL cs sl Q (M) (L) (pc + 1) (.int (x &&& y) :: rest)) : fw_J p l e R s m args below meth c D cl N ad EE nL cs sl Q M L pc (.int y :: .int x :: rest) :=
  fun H locs ls hP hS hl => lv_iand C.1 C.2.1 hd (kk H locs ls hP hS hl)
theorem fw_ior (C : fw_C p s m args meth c cc own ws nL ret D cl tys N ad nw) {x y : Int32} (hd : decode cc pc = .ok (.ior, 1)) (kk : fw_J p l e R s m args below meth c D cl N ad EE nL cs sl Q (M) (L) (pc + 1) (.int (x ||| y) :: rest)) : fw_J p l e R s m args below meth c D cl N ad EE nL cs sl Q M L pc (.int y :: .int x :: rest) :=
  fun H locs ls hP hS hl => lv_ior C.1 C.2.1 hd (kk H locs ls hP hS hl)
theorem fw_ixor (C : fw_C p s m args meth c cc own ws nL ret D cl tys N ad nw) {x y : Int32} (hd : decode cc pc = .ok (.ixor, 1)) (kk : fw_J p l e R s m args below meth c D cl N ad EE nL cs sl Q (M) (L) (pc + 1) (.int (x ^^^ y) :: rest)) : fw_J p l e R s m args below meth c D cl N ad EE nL cs sl Q M L pc (.int y :: .int x :: rest) :=
  fun H locs ls hP hS hl => lv_ixor C.1 C.2.1 hd (kk H locs ls hP hS hl)
theorem fw_ishl (C : fw_C p s m args meth c cc own ws nL ret D cl tys N ad nw) {x y : Int32} (hd : decode cc pc = .ok (.ishl, 1)) (kk : fw_J p l e R s m args below meth c D cl N ad EE nL cs sl Q (M) (L) (pc + 1) (.int (x <<< (y &&& 31)) :: rest)) : fw_J p l e R s m args below meth c D cl N ad EE nL cs sl Q M L pc (.int y :: .int x :: rest) :=
  fun H locs ls hP hS hl => lv_ishl C.1 C.2.1 hd (kk H locs ls hP hS hl)
theorem fw_ishr (C : fw_C p s m args meth c cc own ws nL ret D cl tys N ad nw) {x y : Int32} (hd : decode cc pc = .ok (.ishr, 1)) (kk : fw_J p l e R s m args below meth c D cl N ad EE nL cs sl Q (M) (L) (pc + 1) (.int (x >>> (y &&& 31)) :: rest)) : fw_J p l e R s m args below meth c D cl N ad EE nL cs sl Q M L pc (.int y :: .int x :: rest) :=
  fun H locs ls hP hS hl => lv_ishr C.1 C.2.1 hd (kk H locs ls hP hS hl)
theorem fw_ladd (C : fw_C p s m args meth c cc own ws nL ret D cl tys N ad nw) {x y : Int64} (hd : decode cc pc = .ok (.ladd, 1)) (kk : fw_J p l e R s m args below meth c D cl N ad EE nL cs sl Q (M) (L) (pc + 1) (.long (x + y) :: rest)) : fw_J p l e R s m args below meth c D cl N ad EE nL cs sl Q M L pc (.long y :: .long x :: rest) :=
  fun H locs ls hP hS hl => lv_ladd C.1 C.2.1 hd (kk H locs ls hP hS hl)
theorem fw_lsub (C : fw_C p s m args meth c cc own ws nL ret D cl tys N ad nw) {x y : Int64} (hd : decode cc pc = .ok (.lsub, 1)) (kk : fw_J p l e R s m args below meth c D cl N ad EE nL cs sl Q (M) (L) (pc + 1) (.long (x - y) :: rest)) : fw_J p l e R s m args below meth c D cl N ad EE nL cs sl Q M L pc (.long y :: .long x :: rest) :=
  fun H locs ls hP hS hl => lv_lsub C.1 C.2.1 hd (kk H locs ls hP hS hl)
theorem fw_lmul (C : fw_C p s m args meth c cc own ws nL ret D cl tys N ad nw) {x y : Int64} (hd : decode cc pc = .ok (.lmul, 1)) (kk : fw_J p l e R s m args below meth c D cl N ad EE nL cs sl Q (M) (L) (pc + 1) (.long (x * y) :: rest)) : fw_J p l e R s m args below meth c D cl N ad EE nL cs sl Q M L pc (.long y :: .long x :: rest) :=
  fun H locs ls hP hS hl => lv_lmul C.1 C.2.1 hd (kk H locs ls hP hS hl)
theorem fw_iushr (C : fw_C p s m args meth c cc own ws nL ret D cl tys N ad nw) {x y : Int32} (hd : decode cc pc = .ok (.iushr, 1)) (kk : fw_J p l e R s m args below meth c D cl N ad EE nL cs sl Q (M) (L) (pc + 1) (.int ((x.toUInt32 >>> (y.toUInt32 &&& Int32.toUInt32 31)).toInt32) :: rest)) : fw_J p l e R s m args below meth c D cl N ad EE nL cs sl Q M L pc (.int y :: .int x :: rest) :=
  fun H locs ls hP hS hl => lv_iushr C.1 C.2.1 hd rfl (kk H locs ls hP hS hl)
theorem fw_irem (C : fw_C p s m args meth c cc own ws nL ret D cl tys N ad nw) {x y v : Int32} (hd : decode cc pc = .ok (.irem, 1)) (hv : fw_remP x y = some v) (kk : fw_J p l e R s m args below meth c D cl N ad EE nL cs sl Q (M) (L) (pc + 1) (.int v :: rest)) : fw_J p l e R s m args below meth c D cl N ad EE nL cs sl Q M L pc (.int y :: .int x :: rest) :=
  fun H locs ls hP hS hl => by
    unfold fw_remP at hv
    split at hv
    · cases hv
    · next hne => cases hv; exact lv_irem C.1 C.2.1 hd hne (kk H locs ls hP hS hl)
theorem fw_lrem (C : fw_C p s m args meth c cc own ws nL ret D cl tys N ad nw) {x y v : Int64} (hd : decode cc pc = .ok (.lrem, 1)) (hv : fw_lremP x y = some v) (kk : fw_J p l e R s m args below meth c D cl N ad EE nL cs sl Q (M) (L) (pc + 1) (.long v :: rest)) : fw_J p l e R s m args below meth c D cl N ad EE nL cs sl Q M L pc (.long y :: .long x :: rest) :=
  fun H locs ls hP hS hl => by
    unfold fw_lremP at hv
    split at hv
    · cases hv
    · next hne => cases hv; exact lv_lrem C.1 C.2.1 hd hne (kk H locs ls hP hS hl)
theorem fw_ldiv (C : fw_C p s m args meth c cc own ws nL ret D cl tys N ad nw) {x y v : Int64} (hd : decode cc pc = .ok (.ldiv, 1)) (hv : fw_ldivP x y = some v) (kk : fw_J p l e R s m args below meth c D cl N ad EE nL cs sl Q (M) (L) (pc + 1) (.long v :: rest)) : fw_J p l e R s m args below meth c D cl N ad EE nL cs sl Q M L pc (.long y :: .long x :: rest) :=
  fun H locs ls hP hS hl => by
    unfold fw_ldivP at hv
    split at hv
    · cases hv
    · next hne => cases hv; exact lv_ldiv C.1 C.2.1 hd hne (kk H locs ls hP hS hl)
theorem fw_ineg (C : fw_C p s m args meth c cc own ws nL ret D cl tys N ad nw) {x : Int32} (hd : decode cc pc = .ok (.ineg, 1)) (kk : fw_J p l e R s m args below meth c D cl N ad EE nL cs sl Q (M) (L) (pc + 1) (.int (-x) :: rest)) : fw_J p l e R s m args below meth c D cl N ad EE nL cs sl Q M L pc (.int x :: rest) :=
  fun H locs ls hP hS hl => lv_ineg C.1 C.2.1 hd (kk H locs ls hP hS hl)
theorem fw_i2l (C : fw_C p s m args meth c cc own ws nL ret D cl tys N ad nw) {x : Int32} (hd : decode cc pc = .ok (.i2l, 1)) (kk : fw_J p l e R s m args below meth c D cl N ad EE nL cs sl Q (M) (L) (pc + 1) (.long x.toInt64 :: rest)) : fw_J p l e R s m args below meth c D cl N ad EE nL cs sl Q M L pc (.int x :: rest) :=
  fun H locs ls hP hS hl => lv_i2l C.1 C.2.1 hd rfl (kk H locs ls hP hS hl)
theorem fw_l2i (C : fw_C p s m args meth c cc own ws nL ret D cl tys N ad nw) {x : Int64} (hd : decode cc pc = .ok (.l2i, 1)) (kk : fw_J p l e R s m args below meth c D cl N ad EE nL cs sl Q (M) (L) (pc + 1) (.int x.toInt32 :: rest)) : fw_J p l e R s m args below meth c D cl N ad EE nL cs sl Q M L pc (.long x :: rest) :=
  fun H locs ls hP hS hl => lv_l2i C.1 C.2.1 hd rfl (kk H locs ls hP hS hl)
theorem fw_i2b (C : fw_C p s m args meth c cc own ws nL ret D cl tys N ad nw) {x : Int32} (hd : decode cc pc = .ok (.i2b, 1)) (kk : fw_J p l e R s m args below meth c D cl N ad EE nL cs sl Q (M) (L) (pc + 1) (.int x.toInt8.toInt32 :: rest)) : fw_J p l e R s m args below meth c D cl N ad EE nL cs sl Q M L pc (.int x :: rest) :=
  fun H locs ls hP hS hl => lv_i2b C.1 C.2.1 hd rfl (kk H locs ls hP hS hl)
theorem fw_i2s (C : fw_C p s m args meth c cc own ws nL ret D cl tys N ad nw) {x : Int32} (hd : decode cc pc = .ok (.i2s, 1)) (kk : fw_J p l e R s m args below meth c D cl N ad EE nL cs sl Q (M) (L) (pc + 1) (.int x.toInt16.toInt32 :: rest)) : fw_J p l e R s m args below meth c D cl N ad EE nL cs sl Q M L pc (.int x :: rest) :=
  fun H locs ls hP hS hl => lv_i2s C.1 C.2.1 hd rfl (kk H locs ls hP hS hl)
theorem fw_lcmp (C : fw_C p s m args meth c cc own ws nL ret D cl tys N ad nw) {x y : Int64} (hd : decode cc pc = .ok (.lcmp, 1)) (kk : fw_J p l e R s m args below meth c D cl N ad EE nL cs sl Q (M) (L) (pc + 1) (.int (lg_cmp x y) :: rest)) : fw_J p l e R s m args below meth c D cl N ad EE nL cs sl Q M L pc (.long y :: .long x :: rest) :=
  fun H locs ls hP hS hl => W.lcmp C.1 C.2.1 hd (kk H locs ls hP hS hl)
theorem fw_dup (C : fw_C p s m args meth c cc own ws nL ret D cl tys N ad nw) {v : Value} (hd : decode cc pc = .ok (.dup, 1)) (hv : v.category = 1) (kk : fw_J p l e R s m args below meth c D cl N ad EE nL cs sl Q (M) (L) (pc + 1) (v :: v :: rest)) : fw_J p l e R s m args below meth c D cl N ad EE nL cs sl Q M L pc (v :: rest) :=
  fun H locs ls hP hS hl => lv_dup C.1 C.2.1 hd hv (kk H locs ls hP hS hl)
theorem fw_pop (C : fw_C p s m args meth c cc own ws nL ret D cl tys N ad nw) {v : Value} (hd : decode cc pc = .ok (.pop, 1)) (hv : v.category = 1) (kk : fw_J p l e R s m args below meth c D cl N ad EE nL cs sl Q (M) (L) (pc + 1) (rest)) : fw_J p l e R s m args below meth c D cl N ad EE nL cs sl Q M L pc (v :: rest) :=
  fun H locs ls hP hS hl => lv_pop C.1 C.2.1 hd hv (kk H locs ls hP hS hl)
theorem fw_dup2 (C : fw_C p s m args meth c cc own ws nL ret D cl tys N ad nw) {v w : Value} (hd : decode cc pc = .ok (.dup2, 1)) (hv : v.category = 1) (hw : w.category = 1) (kk : fw_J p l e R s m args below meth c D cl N ad EE nL cs sl Q (M) (L) (pc + 1) (w :: v :: w :: v :: rest)) : fw_J p l e R s m args below meth c D cl N ad EE nL cs sl Q M L pc (w :: v :: rest) :=
  fun H locs ls hP hS hl => lv_dup2_11 C.1 C.2.1 hd hw hv (kk H locs ls hP hS hl)
theorem fw_goto (C : fw_C p s m args meth c cc own ws nL ret D cl tys N ad nw) {off : Int} {tgt : Nat} (hd : decode cc pc = .ok (.goto off, 3)) (ht : (pc : Int) + off = (tgt : Int)) (kk : fw_J p l e R s m args below meth c D cl N ad EE nL cs sl Q M L tgt rest) : fw_J p l e R s m args below meth c D cl N ad EE nL cs sl Q M L pc rest := fun H locs ls hP hS hl => lv_goto C.1 C.2.1 hd ht (kk H locs ls hP hS hl)
theorem fw_if_eq (C : fw_C p s m args meth c cc own ws nL ret D cl tys N ad nw) {x : Int32} {off : Int} {tgt : Nat} (hd : decode cc pc = .ok (.ifCond .eq off, 3)) (ht : (pc : Int) + off = (tgt : Int)) (kt : x = 0 → fw_J p l e R s m args below meth c D cl N ad EE nL cs sl Q M L tgt rest) (kf : ¬ x = 0 → fw_J p l e R s m args below meth c D cl N ad EE nL cs sl Q M L (pc + 3) rest) : fw_J p l e R s m args below meth c D cl N ad EE nL cs sl Q M L pc (.int x :: rest) := fun H locs ls hP hS hl => lv_if_eq C.1 C.2.1 hd ht (fun z => kt z H locs ls hP hS hl) (fun z => kf z H locs ls hP hS hl)
theorem fw_icmp_eq (C : fw_C p s m args meth c cc own ws nL ret D cl tys N ad nw) {x y : Int32} {off : Int} {tgt : Nat} (hd : decode cc pc = .ok (.if_icmp .eq off, 3)) (ht : (pc : Int) + off = (tgt : Int)) (kt : x = y → fw_J p l e R s m args below meth c D cl N ad EE nL cs sl Q M L tgt rest) (kf : ¬ x = y → fw_J p l e R s m args below meth c D cl N ad EE nL cs sl Q M L (pc + 3) rest) : fw_J p l e R s m args below meth c D cl N ad EE nL cs sl Q M L pc (.int y :: .int x :: rest) := fun H locs ls hP hS hl => lv_icmp_eq C.1 C.2.1 hd ht (fun z => kt z H locs ls hP hS hl) (fun z => kf z H locs ls hP hS hl)
theorem fw_if_ne (C : fw_C p s m args meth c cc own ws nL ret D cl tys N ad nw) {x : Int32} {off : Int} {tgt : Nat} (hd : decode cc pc = .ok (.ifCond .ne off, 3)) (ht : (pc : Int) + off = (tgt : Int)) (kt : ¬ x = 0 → fw_J p l e R s m args below meth c D cl N ad EE nL cs sl Q M L tgt rest) (kf : x = 0 → fw_J p l e R s m args below meth c D cl N ad EE nL cs sl Q M L (pc + 3) rest) : fw_J p l e R s m args below meth c D cl N ad EE nL cs sl Q M L pc (.int x :: rest) := fun H locs ls hP hS hl => lv_if_ne C.1 C.2.1 hd ht (fun z => kt z H locs ls hP hS hl) (fun z => kf z H locs ls hP hS hl)
theorem fw_icmp_ne (C : fw_C p s m args meth c cc own ws nL ret D cl tys N ad nw) {x y : Int32} {off : Int} {tgt : Nat} (hd : decode cc pc = .ok (.if_icmp .ne off, 3)) (ht : (pc : Int) + off = (tgt : Int)) (kt : ¬ x = y → fw_J p l e R s m args below meth c D cl N ad EE nL cs sl Q M L tgt rest) (kf : x = y → fw_J p l e R s m args below meth c D cl N ad EE nL cs sl Q M L (pc + 3) rest) : fw_J p l e R s m args below meth c D cl N ad EE nL cs sl Q M L pc (.int y :: .int x :: rest) := fun H locs ls hP hS hl => lv_icmp_ne C.1 C.2.1 hd ht (fun z => kt z H locs ls hP hS hl) (fun z => kf z H locs ls hP hS hl)
theorem fw_if_lt (C : fw_C p s m args meth c cc own ws nL ret D cl tys N ad nw) {x : Int32} {off : Int} {tgt : Nat} (hd : decode cc pc = .ok (.ifCond .lt off, 3)) (ht : (pc : Int) + off = (tgt : Int)) (kt : x < 0 → fw_J p l e R s m args below meth c D cl N ad EE nL cs sl Q M L tgt rest) (kf : ¬ x < 0 → fw_J p l e R s m args below meth c D cl N ad EE nL cs sl Q M L (pc + 3) rest) : fw_J p l e R s m args below meth c D cl N ad EE nL cs sl Q M L pc (.int x :: rest) := fun H locs ls hP hS hl => lv_if_lt C.1 C.2.1 hd ht (fun z => kt z H locs ls hP hS hl) (fun z => kf z H locs ls hP hS hl)
theorem fw_icmp_lt (C : fw_C p s m args meth c cc own ws nL ret D cl tys N ad nw) {x y : Int32} {off : Int} {tgt : Nat} (hd : decode cc pc = .ok (.if_icmp .lt off, 3)) (ht : (pc : Int) + off = (tgt : Int)) (kt : x < y → fw_J p l e R s m args below meth c D cl N ad EE nL cs sl Q M L tgt rest) (kf : ¬ x < y → fw_J p l e R s m args below meth c D cl N ad EE nL cs sl Q M L (pc + 3) rest) : fw_J p l e R s m args below meth c D cl N ad EE nL cs sl Q M L pc (.int y :: .int x :: rest) := fun H locs ls hP hS hl => lv_icmp_lt C.1 C.2.1 hd ht (fun z => kt z H locs ls hP hS hl) (fun z => kf z H locs ls hP hS hl)
theorem fw_if_ge (C : fw_C p s m args meth c cc own ws nL ret D cl tys N ad nw) {x : Int32} {off : Int} {tgt : Nat} (hd : decode cc pc = .ok (.ifCond .ge off, 3)) (ht : (pc : Int) + off = (tgt : Int)) (kt : 0 ≤ x → fw_J p l e R s m args below meth c D cl N ad EE nL cs sl Q M L tgt rest) (kf : ¬ 0 ≤ x → fw_J p l e R s m args below meth c D cl N ad EE nL cs sl Q M L (pc + 3) rest) : fw_J p l e R s m args below meth c D cl N ad EE nL cs sl Q M L pc (.int x :: rest) := fun H locs ls hP hS hl => lv_if_ge C.1 C.2.1 hd ht (fun z => kt z H locs ls hP hS hl) (fun z => kf z H locs ls hP hS hl)
theorem fw_icmp_ge (C : fw_C p s m args meth c cc own ws nL ret D cl tys N ad nw) {x y : Int32} {off : Int} {tgt : Nat} (hd : decode cc pc = .ok (.if_icmp .ge off, 3)) (ht : (pc : Int) + off = (tgt : Int)) (kt : y ≤ x → fw_J p l e R s m args below meth c D cl N ad EE nL cs sl Q M L tgt rest) (kf : ¬ y ≤ x → fw_J p l e R s m args below meth c D cl N ad EE nL cs sl Q M L (pc + 3) rest) : fw_J p l e R s m args below meth c D cl N ad EE nL cs sl Q M L pc (.int y :: .int x :: rest) := fun H locs ls hP hS hl => lv_icmp_ge C.1 C.2.1 hd ht (fun z => kt z H locs ls hP hS hl) (fun z => kf z H locs ls hP hS hl)
theorem fw_if_gt (C : fw_C p s m args meth c cc own ws nL ret D cl tys N ad nw) {x : Int32} {off : Int} {tgt : Nat} (hd : decode cc pc = .ok (.ifCond .gt off, 3)) (ht : (pc : Int) + off = (tgt : Int)) (kt : 0 < x → fw_J p l e R s m args below meth c D cl N ad EE nL cs sl Q M L tgt rest) (kf : ¬ 0 < x → fw_J p l e R s m args below meth c D cl N ad EE nL cs sl Q M L (pc + 3) rest) : fw_J p l e R s m args below meth c D cl N ad EE nL cs sl Q M L pc (.int x :: rest) := fun H locs ls hP hS hl => lv_if_gt C.1 C.2.1 hd ht (fun z => kt z H locs ls hP hS hl) (fun z => kf z H locs ls hP hS hl)
theorem fw_icmp_gt (C : fw_C p s m args meth c cc own ws nL ret D cl tys N ad nw) {x y : Int32} {off : Int} {tgt : Nat} (hd : decode cc pc = .ok (.if_icmp .gt off, 3)) (ht : (pc : Int) + off = (tgt : Int)) (kt : y < x → fw_J p l e R s m args below meth c D cl N ad EE nL cs sl Q M L tgt rest) (kf : ¬ y < x → fw_J p l e R s m args below meth c D cl N ad EE nL cs sl Q M L (pc + 3) rest) : fw_J p l e R s m args below meth c D cl N ad EE nL cs sl Q M L pc (.int y :: .int x :: rest) := fun H locs ls hP hS hl => lv_icmp_gt C.1 C.2.1 hd ht (fun z => kt z H locs ls hP hS hl) (fun z => kf z H locs ls hP hS hl)
theorem fw_if_le (C : fw_C p s m args meth c cc own ws nL ret D cl tys N ad nw) {x : Int32} {off : Int} {tgt : Nat} (hd : decode cc pc = .ok (.ifCond .le off, 3)) (ht : (pc : Int) + off = (tgt : Int)) (kt : x ≤ 0 → fw_J p l e R s m args below meth c D cl N ad EE nL cs sl Q M L tgt rest) (kf : ¬ x ≤ 0 → fw_J p l e R s m args below meth c D cl N ad EE nL cs sl Q M L (pc + 3) rest) : fw_J p l e R s m args below meth c D cl N ad EE nL cs sl Q M L pc (.int x :: rest) := fun H locs ls hP hS hl => lv_if_le C.1 C.2.1 hd ht (fun z => kt z H locs ls hP hS hl) (fun z => kf z H locs ls hP hS hl)
theorem fw_icmp_le (C : fw_C p s m args meth c cc own ws nL ret D cl tys N ad nw) {x y : Int32} {off : Int} {tgt : Nat} (hd : decode cc pc = .ok (.if_icmp .le off, 3)) (ht : (pc : Int) + off = (tgt : Int)) (kt : x ≤ y → fw_J p l e R s m args below meth c D cl N ad EE nL cs sl Q M L tgt rest) (kf : ¬ x ≤ y → fw_J p l e R s m args below meth c D cl N ad EE nL cs sl Q M L (pc + 3) rest) : fw_J p l e R s m args below meth c D cl N ad EE nL cs sl Q M L pc (.int y :: .int x :: rest) := fun H locs ls hP hS hl => lv_icmp_le C.1 C.2.1 hd ht (fun z => kt z H locs ls hP hS hl) (fun z => kf z H locs ls hP hS hl)
theorem fw_tsin (C : fw_C p s m args meth c cc own ws nL ret D cl tys N ad nw) {dflt lo hi : Int} {offs : Array Int} {len : Nat} {x v : Int32} {off : Int} {tgt : Nat} (hd : decode cc pc = .ok (.tableswitch dflt lo hi offs, len)) (hx : x = v) (h : lo ≤ v.toInt ∧ v.toInt ≤ hi ∧ offs[(v.toInt - lo).toNat]? = some off) (ht : (pc : Int) + off = (tgt : Int)) (kk : fw_J p l e R s m args below meth c D cl N ad EE nL cs sl Q M L tgt rest) : fw_J p l e R s m args below meth c D cl N ad EE nL cs sl Q M L pc (.int x :: rest) := fun H locs ls hP hS hl => by
  subst hx
  exact lv_tableIn C.1 C.2.1 hd (by omega) (by omega) h.2.2 ht (kk H locs ls hP hS hl)
theorem fw_tsout (C : fw_C p s m args meth c cc own ws nL ret D cl tys N ad nw) {dflt lo hi : Int} {offs : Array Int} {len : Nat} {x : Int32} {tgt : Nat} (hd : decode cc pc = .ok (.tableswitch dflt lo hi offs, len)) (hx : ∀ z : Int32, lo ≤ z.toInt → z.toInt ≤ hi → ¬ x = z) (ht : (pc : Int) + dflt = (tgt : Int)) (kk : fw_J p l e R s m args below meth c D cl N ad EE nL cs sl Q M L tgt rest) : fw_J p l e R s m args below meth c D cl N ad EE nL cs sl Q M L pc (.int x :: rest) := fun H locs ls hP hS hl => by
  refine lv_tableOut C.1 C.2.1 hd ?_ ht (kk H locs ls hP hS hl)
  by_cases h1 : x.toInt < lo
  · exact Or.inl h1
  · by_cases h2 : hi < x.toInt
    · exact Or.inr h2
    · exact absurd rfl (hx x (by omega) (by omega))
theorem fw_lookup (C : fw_C p s m args meth c cc own ws nL ret D cl tys N ad nw) {dflt : Int} {ps : Array (Int × Int)} {len : Nat} {x : Int32} {off : Int} {tgt : Nat} (hd : decode cc pc = .ok (.lookupswitch dflt ps, len)) (hp : (ps.toList.zip (ps.toList.drop 1)).all (fun (a, next) => a.1 < next.1) = true) (ho : Op.lookupswitch.offset ps.toList dflt x.toInt = off) (ht : (pc : Int) + off = (tgt : Int)) (kk : fw_J p l e R s m args below meth c D cl N ad EE nL cs sl Q M L tgt rest) : fw_J p l e R s m args below meth c D cl N ad EE nL cs sl Q M L pc (.int x :: rest) := fun H locs ls hP hS hl => lv_lookup C.1 C.2.1 hd hp ho ht (kk H locs ls hP hS hl)
def fw_G (ws : List Cond) (own : String) (index : Nat) (Cn : String) (T : u_T) (NF j : Nat) : Prop := (∀ w ∈ u_ws Cn T NF, w ∈ ws) ∧ Cond.fieldLink own index (T j).1 (T j).2.1 (T j).2.2.1 ∈ ws ∧ j < NF
theorem fw_geti (C : fw_C p s m args meth c cc own ws nL ret D cl tys N ad nw) {k ci j index NF : Nat} {Cn : String} {T : u_T} (hF : fw_F EE N k ci j) (hc : cl[ci]? = some (Cn, T, NF)) (hg : fw_G ws own index Cn T NF j) (hd : decode cc pc = .ok (.getfield index, 3)) (kk : fw_J p l e R s m args below meth c D cl N ad EE nL cs sl Q (M) (L) (pc + 3) (.int (M k j) :: rest)) : fw_J p l e R s m args below meth c D cl N ad EE nL cs sl Q M L pc (.ref (ad k) :: rest) :=
  fun H locs ls hP hS hl => by
    obtain ⟨hk, hE⟩ := hF
    obtain ⟨fs, h1, h2, h3⟩ := hE M
    exact va_get C.1 C.2.1 C.2.2.2.2.1 hg.1 C.2.2.2.1 C.2.2.2.2.2.1 hP k ((fw_get hk).trans (by rw [h1])) hc j hg.2.2 (C.2.2.2.2.1 _ hg.2.1) (fun _ h => h) h2 hd (kk H locs ls hP hS hl)
theorem fw_getr (C : fw_C p s m args meth c cc own ws nL ret D cl tys N ad nw) {k k2 ci j index NF : Nat} {Cn : String} {T : u_T} (hF : fw_R EE ad N k ci j k2) (hc : cl[ci]? = some (Cn, T, NF)) (hg : fw_G ws own index Cn T NF j) (hd : decode cc pc = .ok (.getfield index, 3)) (kk : fw_J p l e R s m args below meth c D cl N ad EE nL cs sl Q (M) (L) (pc + 3) (.ref (ad k2) :: rest)) : fw_J p l e R s m args below meth c D cl N ad EE nL cs sl Q M L pc (.ref (ad k) :: rest) :=
  fun H locs ls hP hS hl => by
    obtain ⟨hk, hE⟩ := hF
    obtain ⟨fs, h1, h2⟩ := hE M
    exact va_get C.1 C.2.1 C.2.2.2.2.1 hg.1 C.2.2.2.1 C.2.2.2.2.2.1 hP k ((fw_get hk).trans (by rw [h1])) hc j hg.2.2 (C.2.2.2.2.1 _ hg.2.1) (fun _ h => h) h2 hd (kk H locs ls hP hS hl)
theorem fw_puti (C : fw_C p s m args meth c cc own ws nL ret D cl tys N ad nw) {k ci j index NF : Nat} {Cn : String} {T : u_T} {v : Int32} (hF : fw_F EE N k ci j) (hc : cl[ci]? = some (Cn, T, NF)) (hg : fw_G ws own index Cn T NF j) (ty0 : Nat → FieldType) (hty : ∀ k, k < NF → parseFieldDescriptor (T k).2.2.1 = some (ty0 k)) (hnm : ∀ a, a < NF → ∀ b, b < NF → a ≠ b → (T a).2.1 ≠ (T b).2.1) (hfin : (T j).2.2.2 = false) (hpd : ty0 j = .int) (hd : decode cc pc = .ok (.putfield index, 3)) (kk : fw_J p l e R s m args below meth c D cl N ad EE nL cs sl Q (fw_set M k j v) (L) (pc + 3) (rest)) : fw_J p l e R s m args below meth c D cl N ad EE nL cs sl Q M L pc (.int v :: .ref (ad k) :: rest) :=
  fun H locs ls hP hS hl => by
    obtain ⟨hk, hE⟩ := hF
    obtain ⟨fs, h1, h2, h3⟩ := hE M
    refine va_put C.1 C.2.1 C.2.2.2.2.1 hg.1 ty0 hty hnm C.2.2.2.1 C.2.2.2.2.2.1 hP (fw_D C.2.2.2.2.2.2.1 _) hS k ((fw_get hk).trans (by rw [h1])) hc j hg.2.2 (C.2.2.2.2.1 _ hg.2.1) (fun _ h => h) hfin (ty := .int) (by rw [hty j hg.2.2, hpd]) rfl rfl (List.getElem?_eq_some_iff.mp h2).1 hd (fun H1 locs1 hP1 hD1 hS1 => kk H1 locs1 ls ?_ hS1 hl)
    rw [fw_upd hk, h3 v] at hP1
    exact hP1
theorem fw_iald (C : fw_C p s m args meth c cc own ws nL ret D cl tys N ad nw) {cA : ClassId} {k n : Nat} {i v : Int32} (t0 : Nat) (hI : fw_I EE N cA k n) (ht : tys[t0]? = some (cA, .int)) (hv : fw_ald M k n i = some v) (hd : decode cc pc = .ok (.iaload, 1)) (kk : fw_J p l e R s m args below meth c D cl N ad EE nL cs sl Q (M) (L) (pc + 1) (.int v :: rest)) : fw_J p l e R s m args below meth c D cl N ad EE nL cs sl Q M L pc (.int i :: .ref (ad k) :: rest) :=
  fun H locs ls hP hS hl => by
    unfold fw_ald at hv
    split at hv
    · next hin =>
      cases hv
      exact va_iald C.1 C.2.1 C.2.2.2.2.2.1 hP k t0 ((fw_get hI.1).trans (by rw [hI.2.1 M])) ht (fw_inb hin) hd (kk H locs ls hP hS hl)
    · cases hv
theorem fw_zald (C : fw_C p s m args meth c cc own ws nL ret D cl tys N ad nw) {cA : ClassId} {k n : Nat} {i v : Int32} (t0 : Nat) (hI : fw_I EE N cA k n) (ht : tys[t0]? = some (cA, .boolean)) (hv : fw_ald M k n i = some v) (hd : decode cc pc = .ok (.baload, 1)) (kk : fw_J p l e R s m args below meth c D cl N ad EE nL cs sl Q (M) (L) (pc + 1) (.int v :: rest)) : fw_J p l e R s m args below meth c D cl N ad EE nL cs sl Q M L pc (.int i :: .ref (ad k) :: rest) :=
  fun H locs ls hP hS hl => by
    unfold fw_ald at hv
    split at hv
    · next hin =>
      cases hv
      exact va_zald C.1 C.2.1 C.2.2.2.2.2.1 hP k t0 ((fw_get hI.1).trans (by rw [hI.2.1 M])) ht (fw_inb hin) hd (kk H locs ls hP hS hl)
    · cases hv
theorem fw_iast (C : fw_C p s m args meth c cc own ws nL ret D cl tys N ad nw) {cA : ClassId} {k n : Nat} {i v : Int32} {M2 : fw_M} (t0 : Nat) (hI : fw_I EE N cA k n) (ht : tys[t0]? = some (cA, .int)) (hv : fw_ast M k n i v = some M2) (hd : decode cc pc = .ok (.iastore, 1)) (kk : fw_J p l e R s m args below meth c D cl N ad EE nL cs sl Q (M2) (L) (pc + 1) (rest)) : fw_J p l e R s m args below meth c D cl N ad EE nL cs sl Q M L pc (.int v :: .int i :: .ref (ad k) :: rest) :=
  fun H locs ls hP hS hl => by
    unfold fw_ast at hv
    split at hv
    · next hin =>
      cases hv
      refine va_iast C.1 C.2.1 C.2.2.2.2.2.1 hP (fw_D C.2.2.2.2.2.2.1 _) hS k t0 ((fw_get hI.1).trans (by rw [hI.2.1 M])) ht (fw_inb hin) hd (fun H1 locs1 hP1 hD1 hS1 => kk H1 locs1 ls ?_ hS1 hl)
      rw [fw_upd hI.1, hI.2.2 M] at hP1
      exact hP1
    · cases hv
theorem fw_zast (C : fw_C p s m args meth c cc own ws nL ret D cl tys N ad nw) {cA : ClassId} {k n : Nat} {i v : Int32} {M2 : fw_M} (t0 : Nat) (hI : fw_I EE N cA k n) (ht : tys[t0]? = some (cA, .boolean)) (hv : fw_ast M k n i (vp_nar .boolean v) = some M2) (hd : decode cc pc = .ok (.bastore, 1)) (kk : fw_J p l e R s m args below meth c D cl N ad EE nL cs sl Q (M2) (L) (pc + 1) (rest)) : fw_J p l e R s m args below meth c D cl N ad EE nL cs sl Q M L pc (.int v :: .int i :: .ref (ad k) :: rest) :=
  fun H locs ls hP hS hl => by
    unfold fw_ast at hv
    split at hv
    · next hin =>
      cases hv
      refine va_zast C.1 C.2.1 C.2.2.2.2.2.1 hP (fw_D C.2.2.2.2.2.2.1 _) hS k t0 ((fw_get hI.1).trans (by rw [hI.2.1 M])) ht (fw_inb hin) hd (fun H1 locs1 hP1 hD1 hS1 => kk H1 locs1 ls ?_ hS1 hl)
      rw [fw_upd hI.1, hI.2.2 M] at hP1
      exact hP1
    · cases hv
theorem fw_aald (C : fw_C p s m args meth c cc own ws nL ret D cl tys N ad nw) {cA : ClassId} {Cn : String} {k n : Nat} {g : Nat → Nat} {i : Int32} {v : Nat} (t0 : Nat) (hI : fw_Q EE ad N cA k n g) (ht : tys[t0]? = some (cA, .object Cn)) (hv : fw_aix n i = some v) (hd : decode cc pc = .ok (.aaload, 1)) (kk : fw_J p l e R s m args below meth c D cl N ad EE nL cs sl Q (M) (L) (pc + 1) (.ref (ad (g v)) :: rest)) : fw_J p l e R s m args below meth c D cl N ad EE nL cs sl Q M L pc (.int i :: .ref (ad k) :: rest) :=
  fun H locs ls hP hS hl => by
    unfold fw_aix at hv
    split at hv
    · next hin =>
      cases hv
      exact va_aldq (f := fun i => some (ad (g i))) C.1 C.2.1 C.2.2.2.2.2.1 hP k t0 ((fw_get hI.1).trans (by rw [hI.2 M])) ht (fw_inb hin) hd (kk H locs ls hP hS hl)
    · cases hv
theorem fw_kinds (C : fw_C p s m args meth c cc own ws nL ret D cl tys N ad nw) {index : Nat} {t : Nat} (hlink : Cond.fieldLink own index "YieldDoors$Hall" "KINDS_OF" "[I" ∈ ws) (hZ : va_Z "YieldDoors$Hall" "KINDS_OF" "[I" (.ref t) (fw_A N ad s.heap.size) s s.heap) (hd : decode cc pc = .ok (.getstatic index, 3)) (kk : fw_J p l e R s m args below meth c D cl N ad EE nL cs sl Q (M) (L) (pc + 3) (.ref t :: rest)) : fw_J p l e R s m args below meth c D cl N ad EE nL cs sl Q M L pc (rest) :=
  fun H locs ls hP hS hl => va_gets C.1 C.2.1 hZ hS C.2.2.2.1 (C.2.2.2.2.1 _ hlink) (fun _ h => h) hd (kk H locs ls hP hS hl)
theorem fw_tald (C : fw_C p s m args meth c cc own ws nL ret D cl tys N ad nw) {t n : Nat} {f : Nat → Int32} {i v : Int32} (hT : va_T .int t n (fun j => .int (f j)) (fw_A N ad s.heap.size) s s.heap) (hv : fw_tld n f i = some v) (hd : decode cc pc = .ok (.iaload, 1)) (kk : fw_J p l e R s m args below meth c D cl N ad EE nL cs sl Q (M) (L) (pc + 1) (.int v :: rest)) : fw_J p l e R s m args below meth c D cl N ad EE nL cs sl Q M L pc (.int i :: .ref t :: rest) :=
  fun H locs ls hP hS hl => by
    unfold fw_tld at hv
    split at hv
    · next hin =>
      cases hv
      exact va_ti C.1 C.2.1 hT hS (fw_inb hin) rfl hd (kk H locs ls hP hS hl)
    · cases hv
theorem fw_copy (C : fw_C p s m args meth c cc own ws nL ret D cl tys N ad nw) {c0 c1 : ClassId} {k0 k1 n0 n1 index : Nat} {i j n : Int32} {M2 : fw_M} (t0 t1 : Nat) (hw : Cond.methodLink own index arraycopyName ∈ ws ∧ Cond.native arraycopyName ∈ ws ∧ Cond.static arraycopyName ∈ ws ∧ Cond.initialized "java/lang/System" ∈ ws) (hI : fw_I EE N c0 k0 n0) (hI1 : fw_I EE N c1 k1 n1) (ht0 : tys[t0]? = some (c0, .int)) (ht1 : tys[t1]? = some (c1, .int)) (hv : fw_cpy M k0 n0 i k1 n1 j n = some M2) (hfr : 1 ≤ R.frames) (hlo : (rest.map fun v => v.category).sum + (nativeFrameWords "java/lang/System" "arraycopy" 5 + 11) ≤ R.locals) (hd : decode cc pc = .ok (.invokestatic index, 3)) (kk : fw_J p l e R s m args below meth c D cl N ad EE nL cs sl Q (M2) (L) (pc + 3) (rest)) : fw_J p l e R s m args below meth c D cl N ad EE nL cs sl Q M L pc (.int n :: .int j :: .ref (ad k1) :: .int i :: .ref (ad k0) :: rest) :=
  fun H locs ls hP hS hl => by
    unfold fw_cpy at hv
    split at hv
    · next h =>
      cases hv
      refine va_copyi C.1 C.2.1 (C.2.2.1.trans hl.1.symm) C.2.2.2.1 (C.2.2.2.2.1 _ hw.1) (C.2.2.2.2.1 _ hw.2.1) (C.2.2.2.2.1 _ hw.2.2.1) (C.2.2.2.2.1 _ hw.2.2.2) C.2.2.2.2.2.1 hP (fw_D C.2.2.2.2.2.2.1 _) hS k0 k1 t0 t1 ((fw_get hI.1).trans (by rw [hI.2.1 M])) ((fw_get hI1.1).trans (by rw [hI1.2.1 M])) ht0 ht1 rfl h.1 h.2.1 h.2.2.1 h.2.2.2.1 h.2.2.2.2 (fun _ _ => rfl) hfr hlo hd (fun H1 locs1 hP1 hD1 hS1 => kk H1 locs1 ls ?_ hS1 hl)
      rw [fw_upd hI1.1, hI1.2.2 M] at hP1
      exact hP1
    · cases hv
theorem fw_mmax (C : fw_C p s m args meth c cc own ws nL ret D cl tys N ad nw) {index : Nat} {x y : Int32} (hw : Cond.methodLink own index Lib.Math.max.name ∈ ws ∧ Cond.static Lib.Math.max.name ∈ ws ∧ Cond.initialized "java/lang/Math" ∈ ws ∧ Cond.code Lib.Math.max.name Lib.Math.max.code 2 (some .int) ∈ ws) (hz : cs ≤ R.cells ∧ sl ≤ R.slots) (hfr : 1 ≤ R.frames) (hlo : (rest.map fun v => v.category).sum + 13 ≤ R.locals) (hd : decode cc pc = .ok (.invokestatic index, 3)) (kk : fw_J p l e R s m args below meth c D cl N ad EE nL cs sl Q (M) (L) (pc + 3) (.int (if x < y then y else x) :: rest)) : fw_J p l e R s m args below meth c D cl N ad EE nL cs sl Q M L pc (.int y :: .int x :: rest) :=
  fun H locs ls hP hS hl => va_mmax C.1 C.2.1 (C.2.2.1.trans hl.1.symm) C.2.2.2.1 (C.2.2.2.2.1 _ hw.1) (C.2.2.2.2.1 _ hw.2.1) (C.2.2.2.2.1 _ hw.2.2.1) (C.2.2.2.2.1 _ hw.2.2.2) hfr hlo hz.1 hz.2 hd (kk H locs ls hP hS hl)
theorem fw_mmin (C : fw_C p s m args meth c cc own ws nL ret D cl tys N ad nw) {index : Nat} {x y : Int32} (hw : Cond.methodLink own index Lib.Math.min.name ∈ ws ∧ Cond.static Lib.Math.min.name ∈ ws ∧ Cond.initialized "java/lang/Math" ∈ ws ∧ Cond.code Lib.Math.min.name Lib.Math.min.code 2 (some .int) ∈ ws) (hz : cs ≤ R.cells ∧ sl ≤ R.slots) (hfr : 1 ≤ R.frames) (hlo : (rest.map fun v => v.category).sum + 13 ≤ R.locals) (hd : decode cc pc = .ok (.invokestatic index, 3)) (kk : fw_J p l e R s m args below meth c D cl N ad EE nL cs sl Q (M) (L) (pc + 3) (.int (if y < x then y else x) :: rest)) : fw_J p l e R s m args below meth c D cl N ad EE nL cs sl Q M L pc (.int y :: .int x :: rest) :=
  fun H locs ls hP hS hl => va_mmin C.1 C.2.1 (C.2.2.1.trans hl.1.symm) C.2.2.2.1 (C.2.2.2.2.1 _ hw.1) (C.2.2.2.2.1 _ hw.2.1) (C.2.2.2.2.1 _ hw.2.2.1) (C.2.2.2.2.1 _ hw.2.2.2) hfr hlo hz.1 hz.2 hd (kk H locs ls hP hS hl)
theorem fw_mabs (C : fw_C p s m args meth c cc own ws nL ret D cl tys N ad nw) {index : Nat} {x : Int32} (hw : Cond.methodLink own index Lib.Math.abs.name ∈ ws ∧ Cond.static Lib.Math.abs.name ∈ ws ∧ Cond.initialized "java/lang/Math" ∈ ws ∧ Cond.code Lib.Math.abs.name Lib.Math.abs.code 1 (some .int) ∈ ws) (hz : cs ≤ R.cells ∧ sl ≤ R.slots) (hfr : 1 ≤ R.frames) (hlo : (rest.map fun v => v.category).sum + 13 ≤ R.locals) (hd : decode cc pc = .ok (.invokestatic index, 3)) (kk : fw_J p l e R s m args below meth c D cl N ad EE nL cs sl Q (M) (L) (pc + 3) (.int (if 0 ≤ x then x else 0 - x) :: rest)) : fw_J p l e R s m args below meth c D cl N ad EE nL cs sl Q M L pc (.int x :: rest) :=
  fun H locs ls hP hS hl => va_mabs C.1 C.2.1 (C.2.2.1.trans hl.1.symm) C.2.2.2.1 (C.2.2.2.2.1 _ hw.1) (C.2.2.2.2.1 _ hw.2.1) (C.2.2.2.2.1 _ hw.2.2.1) (C.2.2.2.2.1 _ hw.2.2.2) hfr hlo hz.1 hz.2 hd (kk H locs ls hP hS hl)
/-- what a call hands its callee -/
theorem fw_hand {A : List Value} {E : Nat → va_E} {H : Heap} {locs : List Loc} (C : fw_C p s m args meth c cc own ws nL ret D cl tys N ad nw) (hP : va_P D cl (fw_W N ad E) H) (hS : va_S (fw_A N ad s.heap.size) s.heap H locs) : FrameBlind (fun v U => v = A.toArray ∧ fw_B D cl tys N ad nw E H.size U) ∧ ∀ U : State, U.heap = H → s.WarmedH U.vm → (A.toArray = A.toArray ∧ fw_B D cl tys N ad nw E H.size U) := by
  refine ⟨fun a U g mk q => ?_, fun U hU hW => ⟨rfl, by rw [hU], by rw [hU]; exact hP, va_K.moved hW.alike C.2.2.2.2.2.1, C.2.2.2.2.2.2.1, ?_⟩⟩
  · obtain ⟨q0, q1, q2, q3, q4, q5, t, q6, q7⟩ := q
    exact ⟨q0, q1, q2, va_K.moved (u := U) (U := U.calling g mk a) (Vm.Alike.refl U.vm) q3, q4, fun w hw => va_Nw.same (w := .methodLinkNest w.1 w.2.1 w.2.2.1 w.2.2.2) rfl (rfl : U.vm = (U.calling g mk a).vm) (q5 w hw), t, va_Z.moved (u := U) (U := U.calling g mk a) (Vm.Alike.refl U.vm) q6, va_T.moved (u := U) (U := U.calling g mk a) (Vm.Alike.refl U.vm) q7⟩
  · have h := C.2.2.2.2.2.2.2.1
    rw [hU]
    refine fw_NF.go h hW (fun q hq hl => ?_) (fun a ha hn => hS.2.1 a ha hn)
    rcases hq with hq | hq
    · exact Or.inl hq
    · exact absurd (Nat.le_trans hS.1 hq) (by omega)
theorem fw_back {y : MethodName} {ov : Option Value} {M2 : fw_M} {st0 : List Value} {rest : List Value} {H : Heap} {locs : List Loc} {ls : Array Slot} (hS : va_S (fw_A N ad s.heap.size) s.heap H locs) (hl : lv_has ls nL L)
    (hr : va_Run p l e R s m args below meth c H locs cs sl 0 0 (F0 m pc ls st0) rest (fun st oc t => oc = .returned ov ∧ va_P D cl (fw_W N ad (EE M2)) t.heap ∧ va_F (fw_A N ad H.size) st t) (fw_A N ad H.size))
    (kk : fw_J p l e R s m args below meth c D cl N ad EE nL cs sl Q M2 L (pc + 3) (ov.toList ++ rest)) : W p l e R s m args below meth c H locs cs sl Q (F0 m pc ls st0) := by
  intro T hT X
  obtain ⟨v, st₀, t, T', L1, h0, X', hL, e1, e2, ⟨hv, hp, hz, hk⟩, st⟩ := hr T hT X
  cases hv
  rw [h0] at hz hk
  have hin : ∀ q, fw_A N ad H.size q → fw_A N ad s.heap.size q := fun q h => h.elim Or.inl (fun z => Or.inr (Nat.le_trans hS.1 z))
  obtain ⟨t2, a1, b1⟩ := kk T'.heap (locs ++ L1) ls (by rw [e1]; exact hp)
    ⟨Nat.le_trans hS.1 (by rw [e1]; exact hz), fun q h1 h2 => by rw [e1, hk q (Nat.lt_of_lt_of_le h1 hS.1) (fun z => h2 (hin q z))]; exact hS.2.1 q h1 h2, fun q hq => by
      rcases List.mem_append.mp hq with h | h
      · exact hS.2.2 q h
      · exact hin _ (hL q h)⟩ hl T' rfl X'
  exact ⟨t2, st t2 a1, b1⟩
theorem fw_callV (C : fw_C p s m args meth c cc own ws nL ret D cl tys N ad nw) {y : MethodName} {wc : List Cond} {rm : Room} {As : List Value} {k ci index n maxL NF : Nat} {bytes : ByteArray} {rt : Option FieldType} {ov : Option Value} {M2 : fw_M} {Cn : String} {T : u_T} {st0 : List Value} (hM : fw_Met l y wc rm D cl tys N ad nw EE (.ref (ad k) :: As) M ov M2) (cw : CallW R s args own Cn index y bytes maxL rt wc rm 0 0 n) (hO : fw_O EE N k ci) (hc : cl[ci]? = some (Cn, T, NF)) (hst : st0 = As.reverse ++ .ref (ad k) :: rest) (hz : cs ≤ R.cells ∧ sl ≤ R.slots) (hn : As.length = n) (hW : (rest.map fun v => v.category).sum ≤ 8) (hd : decode cc pc = .ok (.invokevirtual index, 3))
    (kk : fw_J p l e R s m args below meth c D cl N ad EE nL cs sl Q M2 L (pc + 3) (ov.toList ++ rest)) : fw_J p l e R s m args below meth c D cl N ad EE nL cs sl Q M L pc st0 := by
  intro H locs ls hP hS hl
  subst hst
  obtain ⟨hk, hE⟩ := hO
  obtain ⟨fs, h1⟩ := hE M
  obtain ⟨g1, g2⟩ := fw_hand (A := .ref (ad k) :: As) C hP hS
  exact fw_back (y := y) hS hl (va_runV ⟨C.1, C.2.1, C.2.2.1, C.2.2.2.1, C.2.2.2.2.1⟩ (hM H.size) cw ⟨g1, va_recv C.2.2.2.2.2.1 hP hc ((fw_get hk).trans (by rw [h1])), g2⟩ rfl hn hl.1 rfl (lv_room hW) hd hz) kk
theorem fw_callS (C : fw_C p s m args meth c cc own ws nL ret D cl tys N ad nw) {y : MethodName} {wc : List Cond} {rm : Room} {As : List Value} {index n maxL : Nat} {bytes : ByteArray} {rt : Option FieldType} {ov : Option Value} {M2 : fw_M} {st0 : List Value} (hM : fw_Met l y wc rm D cl tys N ad nw EE As M ov M2) (cw : CallB R s args own index y bytes maxL rt wc rm 0 0 n ∧ (Cond.static y).before args s = true) (hst : st0 = As.reverse ++ rest) (hz : cs ≤ R.cells ∧ sl ≤ R.slots) (hn : As.length = n) (hW : (rest.map fun v => v.category).sum ≤ 8) (hd : decode cc pc = .ok (.invokestatic index, 3))
    (kk : fw_J p l e R s m args below meth c D cl N ad EE nL cs sl Q M2 L (pc + 3) (ov.toList ++ rest)) : fw_J p l e R s m args below meth c D cl N ad EE nL cs sl Q M L pc st0 := by
  intro H locs ls hP hS hl
  subst hst
  exact fw_back (y := y) hS hl (va_runS ⟨C.1, C.2.1, C.2.2.1, C.2.2.2.1, C.2.2.2.2.1⟩ (hM H.size) cw (fw_hand C hP hS) rfl hn hl.1 rfl (lv_room hW) hd hz) kk
theorem fw_callSN (C : fw_C p s m args meth c cc own ws nL ret D cl tys N ad nw) {y : MethodName} {wc : List Cond} {rm : Room} {As : List Value} {index n maxL : Nat} {bytes : ByteArray} {rt : Option FieldType} {ov : Option Value} {M2 : fw_M} {st0 : List Value} {host : String} (hM : fw_Met l y wc rm D cl tys N ad nw EE As M ov M2) (cw : va_CN R s args own index y host bytes maxL rt wc rm 0 0 n ∧ (Cond.static y).before args s = true ∧ True) (hst : st0 = As.reverse ++ rest) (hz : cs ≤ R.cells ∧ sl ≤ R.slots) (hn : As.length = n) (hW : (rest.map fun v => v.category).sum ≤ 8) (hd : decode cc pc = .ok (.invokestatic index, 3))
    (kk : fw_J p l e R s m args below meth c D cl N ad EE nL cs sl Q M2 L (pc + 3) (ov.toList ++ rest)) : fw_J p l e R s m args below meth c D cl N ad EE nL cs sl Q M L pc st0 := by
  intro H locs ls hP hS hl
  subst hst
  exact fw_back (y := y) hS hl (va_runSN ⟨C.1, C.2.1, C.2.2.1, C.2.2.2.1, C.2.2.2.2.1⟩ (hM H.size) cw (fw_hand C hP hS) rfl hn hl.1 rfl (lv_room hW) hd hz) kk
/-! calls by what they answer: 1 a value, 0 nothing -/
theorem fw_callV1 (C : fw_C p s m args meth c cc own ws nL ret D cl tys N ad nw) {y : MethodName} {wc : List Cond} {rm : Room} {As : List Value} {k ci index n maxL NF : Nat} {bytes : ByteArray} {rt : Option FieldType} {v : Value} {M2 : fw_M} {Cn : String} {T : u_T} {st0 : List Value} (hM : fw_Met l y wc rm D cl tys N ad nw EE (.ref (ad k) :: As) M (some v) M2) (cw : CallW R s args own Cn index y bytes maxL rt wc rm 0 0 n) (hO : fw_O EE N k ci) (hc : cl[ci]? = some (Cn, T, NF)) (hst : st0 = As.reverse ++ .ref (ad k) :: rest) (hz : cs ≤ R.cells ∧ sl ≤ R.slots) (hn : As.length = n) (hW : (rest.map fun v => v.category).sum ≤ 8) (hd : decode cc pc = .ok (.invokevirtual index, 3))
    (kk : fw_J p l e R s m args below meth c D cl N ad EE nL cs sl Q M2 L (pc + 3) (v :: rest)) : fw_J p l e R s m args below meth c D cl N ad EE nL cs sl Q M L pc st0 := fw_callV C hM cw hO hc hst hz hn hW hd kk
theorem fw_callV0 (C : fw_C p s m args meth c cc own ws nL ret D cl tys N ad nw) {y : MethodName} {wc : List Cond} {rm : Room} {As : List Value} {k ci index n maxL NF : Nat} {bytes : ByteArray} {rt : Option FieldType} {M2 : fw_M} {Cn : String} {T : u_T} {st0 : List Value} (hM : fw_Met l y wc rm D cl tys N ad nw EE (.ref (ad k) :: As) M none M2) (cw : CallW R s args own Cn index y bytes maxL rt wc rm 0 0 n) (hO : fw_O EE N k ci) (hc : cl[ci]? = some (Cn, T, NF)) (hst : st0 = As.reverse ++ .ref (ad k) :: rest) (hz : cs ≤ R.cells ∧ sl ≤ R.slots) (hn : As.length = n) (hW : (rest.map fun v => v.category).sum ≤ 8) (hd : decode cc pc = .ok (.invokevirtual index, 3))
    (kk : fw_J p l e R s m args below meth c D cl N ad EE nL cs sl Q M2 L (pc + 3) rest) : fw_J p l e R s m args below meth c D cl N ad EE nL cs sl Q M L pc st0 := fw_callV C hM cw hO hc hst hz hn hW hd kk
theorem fw_callS1 (C : fw_C p s m args meth c cc own ws nL ret D cl tys N ad nw) {y : MethodName} {wc : List Cond} {rm : Room} {As : List Value} {index n maxL : Nat} {bytes : ByteArray} {rt : Option FieldType} {v : Value} {M2 : fw_M} {st0 : List Value} (hM : fw_Met l y wc rm D cl tys N ad nw EE As M (some v) M2) (cw : CallB R s args own index y bytes maxL rt wc rm 0 0 n ∧ (Cond.static y).before args s = true) (hst : st0 = As.reverse ++ rest) (hz : cs ≤ R.cells ∧ sl ≤ R.slots) (hn : As.length = n) (hW : (rest.map fun v => v.category).sum ≤ 8) (hd : decode cc pc = .ok (.invokestatic index, 3))
    (kk : fw_J p l e R s m args below meth c D cl N ad EE nL cs sl Q M2 L (pc + 3) (v :: rest)) : fw_J p l e R s m args below meth c D cl N ad EE nL cs sl Q M L pc st0 := fw_callS C hM cw hst hz hn hW hd kk
theorem fw_callSN1 (C : fw_C p s m args meth c cc own ws nL ret D cl tys N ad nw) {y : MethodName} {wc : List Cond} {rm : Room} {As : List Value} {index n maxL : Nat} {bytes : ByteArray} {rt : Option FieldType} {v : Value} {M2 : fw_M} {st0 : List Value} {host : String} (hM : fw_Met l y wc rm D cl tys N ad nw EE As M (some v) M2) (cw : va_CN R s args own index y host bytes maxL rt wc rm 0 0 n ∧ (Cond.static y).before args s = true ∧ True) (hst : st0 = As.reverse ++ rest) (hz : cs ≤ R.cells ∧ sl ≤ R.slots) (hn : As.length = n) (hW : (rest.map fun v => v.category).sum ≤ 8) (hd : decode cc pc = .ok (.invokestatic index, 3))
    (kk : fw_J p l e R s m args below meth c D cl N ad EE nL cs sl Q M2 L (pc + 3) (v :: rest)) : fw_J p l e R s m args below meth c D cl N ad EE nL cs sl Q M L pc st0 := fw_callSN C hM cw hst hz hn hW hd kk
theorem fw_cs {α : Type} {c : Prop} {_ : Decidable c} {a b z : α} (h : (if c then a else b) = z) : (c ∧ a = z) ∨ (¬ c ∧ b = z) := by
  by_cases q : c
  · exact Or.inl ⟨q, fw_ift h q⟩
  · exact Or.inr ⟨q, fw_iff h q⟩
theorem fw_aixlt {n : Nat} {i : Int32} {v : Nat} (h : fw_aix n i = some v) : v < n := by
  unfold fw_aix at h
  split at h
  · next z =>
    cases h
    exact Nat.not_le.mp fun q => fw_inb z (Or.inr q)
  · cases h
/-! a walk's ends -/
theorem fw_iret {v r : Int32} {M2 : fw_M} (C : fw_C p s m args meth c cc own ws nL (some .int) D cl tys N ad nw) (hv : v = r) (hM : M = M2) (hd : decode cc pc = .ok (.ireturn, 1)) : fw_J p l e R s m args below meth c D cl N ad EE nL 0 0 (fw_E below args s D cl N ad EE (some (.int r)) M2) M L pc [.int v] := by
  subst hv; subst hM
  exact fun H locs ls hP hS hl => W.iret C.1 C.2.1 C.2.2.2.2.2.2.2.2.2 (fun t ht hW => ⟨rfl, by rw [ht]; exact hP, hS.F ht⟩) hS.2.2 hd C.2.2.2.2.2.2.2.2.1
theorem fw_lret {v r : Int64} {M2 : fw_M} (C : fw_C p s m args meth c cc own ws nL (some .long) D cl tys N ad nw) (hv : v = r) (hM : M = M2) (hd : decode cc pc = .ok (.lreturn, 1)) : fw_J p l e R s m args below meth c D cl N ad EE nL 0 0 (fw_E below args s D cl N ad EE (some (.long r)) M2) M L pc [.long v] := by
  subst hv; subst hM
  exact fun H locs ls hP hS hl => W.lret C.1 C.2.1 C.2.2.2.2.2.2.2.2.2 (fun t ht hW => ⟨rfl, by rw [ht]; exact hP, hS.F ht⟩) hS.2.2 hd C.2.2.2.2.2.2.2.2.1
theorem fw_zn {v : Int32} (h : v = 0 ∨ v = 1) : narrow .boolean (.int v) = .int v := by
  rcases h with rfl | rfl <;> rfl
theorem fw_zret {v r : Int32} {M2 : fw_M} (C : fw_C p s m args meth c cc own ws nL (some .boolean) D cl tys N ad nw) (hz : v = 0 ∨ v = 1) (hv : v = r) (hM : M = M2) (hd : decode cc pc = .ok (.ireturn, 1)) : fw_J p l e R s m args below meth c D cl N ad EE nL 0 0 (fw_E below args s D cl N ad EE (some (.int r)) M2) M L pc [.int v] := by
  subst hv; subst hM
  exact fun H locs ls hP hS hl => W.zret C.1 C.2.1 C.2.2.2.2.2.2.2.2.2 (fw_zn hz) (fun t ht hW => ⟨rfl, by rw [ht]; exact hP, hS.F ht⟩) hS.2.2 hd C.2.2.2.2.2.2.2.2.1
theorem fw_vret {M2 : fw_M} (C : fw_C p s m args meth c cc own ws nL none D cl tys N ad nw) (hM : M = M2) (hd : decode cc pc = .ok (.return_, 1)) : fw_J p l e R s m args below meth c D cl N ad EE nL 0 0 (fw_E below args s D cl N ad EE none M2) M L pc [] := by
  subst hM
  exact fun H locs ls hP hS hl => W.vret C.1 C.2.1 C.2.2.2.2.2.2.2.2.2 (fun t ht hW => ⟨rfl, by rw [ht]; exact hP, hS.F ht⟩) hS.2.2 hd C.2.2.2.2.2.2.2.2.1
theorem fw_aret {a : Nat} {Cn : String} {M2 : fw_M} (C : fw_C p s m args meth c cc own ws nL (some (.object Cn)) D cl tys N ad nw) (hM : M = M2) (hd : decode cc pc = .ok (.areturn, 1)) : fw_J p l e R s m args below meth c D cl N ad EE nL 0 0 (fw_E below args s D cl N ad EE (some (.ref a)) M2) M L pc [.ref a] := by
  subst hM
  exact fun H locs ls hP hS hl => W.aret C.1 C.2.1 C.2.2.2.2.2.2.2.2.2 (Or.inl ⟨_, rfl⟩) (Or.inr ⟨_, rfl⟩) (fun t ht hW => ⟨rfl, by rw [ht]; exact hP, hS.F ht⟩) hS.2.2 hd C.2.2.2.2.2.2.2.2.1
theorem fw_p1 {α β : Type} {a : α} {b : β} {z : α × β} (h : some (a, b) = some z) : a = z.1 := congrArg Prod.fst (Option.some.inj h)
theorem fw_p2 {α β : Type} {a : α} {b : β} {z : α × β} (h : some (a, b) = some z) : b = z.2 := congrArg Prod.snd (Option.some.inj h)
theorem fw_r1 {v r : Int32} (h : (some v : Option Int32) = some r) : v = r := Option.some.inj h
theorem fw_zrh {v r : Int32} (h : fw_zr v = some r) : (v = 0 ∨ v = 1) ∧ v = r := by
  unfold fw_zr at h
  split at h
  · next z => exact ⟨z, Option.some.inj h⟩
  · cases h
end FWJ
