/-! WALKS THAT MAKE CELLS: the cells made so far stand from b0 on, n of them, and hold E 0 .. E (n - 1) -/
abbrev fk_ad (b0 : Nat) : Nat → Nat := fun j => b0 + j
abbrev fk_A (b0 : Nat) : Nat → Prop := fun q => b0 ≤ q
theorem fk_D {n b0 : Nat} {E : Nat → va_E} : va_D (fk_A b0) (fw_W n (fk_ad b0) E) := by
  refine ⟨fun i j p q h1 h2 he => ?_, fun k q h => ?_⟩
  · obtain ⟨a1, rfl⟩ := fw_gets h1
    obtain ⟨a2, rfl⟩ := fw_gets h2
    exact Nat.add_left_cancel he
  · obtain ⟨a1, rfl⟩ := fw_gets h
    exact Nat.le_add_right _ _
theorem fk_cong {n : Nat} {ad : Nat → Nat} {E F : Nat → va_E} (h : ∀ j, j < n → E j = F j) : fw_W n ad E = fw_W n ad F := by
  apply List.ext_getElem?
  intro i
  by_cases hi : i < n
  · rw [fw_get hi, fw_get hi, h i hi]
  · have h1 : ∀ F : Nat → va_E, (fw_W n ad F)[i]? = none := fun F => List.getElem?_eq_none (by simp [fw_W]; omega)
    rw [h1, h1]
theorem fk_push {n b0 : Nat} {E E2 : Nat → va_E} {e : va_E} (h1 : E2 n = e) (h2 : ∀ j, j ≠ n → E2 j = E j) : fw_W (n + 1) (fk_ad b0) E2 = fw_W n (fk_ad b0) E ++ [(b0 + n, e)] := by
  unfold fw_W
  rw [List.range_succ, List.map_append, List.map_singleton, h1]
  congr 1
  apply List.map_congr_left
  intro a ha
  rw [h2 a (by have := List.mem_range.mp ha; omega)]
theorem fk_arrV {cA : ClassId} {N : Nat} {f g : Nat → Value} (h : ∀ i, i < N → f i = g i) : arrV cA N f = arrV cA N g := by
  unfold arrV
  rw [show (fun j : Fin N => f j.val) = fun j => g j.val from funext fun j => h j.val j.isLt]
def fk_eq (x y : va_E) : Prop := x = y ∨ ∃ (cA : ClassId) (n : Nat) (f g : Nat → Option Nat), x = .inl (cA, n, .inr (.inr (.inr (.inr f)))) ∧ y = .inl (cA, n, .inr (.inr (.inr (.inr g)))) ∧ ∀ i, i < n → f i = g i
theorem fk_swap {D : va_G} {cl : List vw_C} {n : Nat} {ad : Nat → Nat} {E F : Nat → va_E} {H : Heap} (h : va_P D cl (fw_W n ad E) H) (he : ∀ j, j < n → fk_eq (E j) (F j)) : va_P D cl (fw_W n ad F) H := by
  intro k q hq
  obtain ⟨hk, rfl⟩ := fw_gets hq
  have h1 := h k _ (fw_get hk)
  rcases he k hk with e | ⟨cA, N, f, g, e1, e2, e3⟩
  · rw [← e]; exact h1
  · rw [e1] at h1
    rw [e2]
    have h2 : H[ad k]? = some (vp_cell cA (N, .inr (.inr (.inr (.inr f))))) := h1
    show H[ad k]? = some (vp_cell cA (N, .inr (.inr (.inr (.inr g)))))
    rw [h2, vp_cell_q, vp_cell_q]
    exact congrArg some (fk_arrV (fun i hi => by rw [e3 i hi]))
def fk_fill (F E : Nat → va_E) (k c : Nat) : Nat → va_E := fun j => if k ≤ j ∧ j < k + c then F j else E j
def fk_N (nw : fw_nw) (U : State) : Prop := (∀ q ∈ nw, va_Nw (.methodLinkNest q.1 q.2.1 q.2.2.1 q.2.2.2) U) ∧ va_AO "YieldDoors$Hall" U ∧ va_AO "YieldDoors$Row" U
theorem fk_N.go {nw : fw_nw} {u U : State} (h : fk_N nw u) (hW : u.WarmedH U.vm) : fk_N nw U := ⟨fun q hq => va_Nw.warmM hW (h.1 q hq), va_AO.moved hW.alike h.2.1, va_AO.moved hW.alike h.2.2⟩
def fk_C (p : Program) (s : State) (m : MethodId) (args : Array Value) (meth : Method) (c : Code) (cc : ByteArray) (own : String) (ws : List Cond) (nL : Nat) (D : va_G) (cl : List vw_C) (tys : List (ClassId × FieldType)) (nw : fw_nw) : Prop :=
  p.tables.exec = Jvm.exec ∧ c.code = cc ∧ c.maxLocals = nL ∧ s.vm.findClass own = some m.cls ∧ (∀ w ∈ ws, w.before args s = true) ∧ va_K D cl tys s ∧ fk_N nw s ∧ meth.locks = false
def fk_J (p : Program) (l : Launch) (e : Env) (R : Room) (s : State) (m : MethodId) (args : Array Value) (below : List Frame) (meth : Method) (c : Code) (D : va_G) (cl : List vw_C) (b0 : Nat) (nL : Nat) (Q : State → Prop) (cs sl : Nat) (n : Nat) (E : Nat → va_E) (L : List (Nat × Value)) (pc : Nat) (st : List Value) : Prop :=
  ∀ (H : Heap) (locs : List Loc) (ls : Array Slot), H.size = b0 + n → va_P D cl (fw_W n (fk_ad b0) E) H → va_S (fk_A b0) s.heap H locs → lv_has ls nL L → W p l e R s m args below meth c H locs cs sl Q (F0 m pc ls st)
def fk_Met (l : Launch) (y : MethodName) (ws : List Cond) (rm : Room) (D : va_G) (cl : List vw_C) (tys : List (ClassId × FieldType)) (nw : fw_nw) (b0 : Nat) (av : List Value) (n : Nat) (E : Nat → va_E) (n2 : Nat) (E2 : Nat → va_E) (mc ms : Nat) : Prop :=
  Met l y ws rm (fun v U => v = av.toArray ∧ U.heap.size = b0 + n ∧ va_P D cl (fw_W n (fk_ad b0) E) U.heap ∧ va_K D cl tys U ∧ fk_N nw U) (fun _ st oc t => oc = .returned none ∧ t.heap.size = b0 + n2 ∧ va_P D cl (fw_W n2 (fk_ad b0) E2) t.heap ∧ va_F (fk_A b0) st t) mc ms (fk_A b0)
def fk_E (below : List Frame) (args : Array Value) (s : State) (D : va_G) (cl : List vw_C) (b0 n2 : Nat) (E2 : Nat → va_E) (mc ms : Nat) : State → Prop :=
  MQ below (fun _ st oc t => oc = .returned none ∧ t.heap.size = b0 + n2 ∧ va_P D cl (fw_W n2 (fk_ad b0) E2) t.heap ∧ va_F (fk_A b0) st t) args s mc ms (fk_A b0)
theorem fk_intro {l : Launch} {y : MethodName} {ws ws' : List Cond} {rm : Room} {D : va_G} {cl : List vw_C} {tys : List (ClassId × FieldType)} {nw : fw_nw} {b0 : Nat} {av : List Value} {n n2 : Nat} {E E2 : Nat → va_E} {mc ms : Nat} {cc : ByteArray} {maxL : Nat} {own : String} (hy : plainName y.cls = true) (hw : ws = Cond.code y cc maxL none :: ws') (ho : y.cls = own) (hn : y.name = "<init>") (hle : (lg_sl av).length ≤ maxL)
    (body : ∀ (p : Program) (e : Env) (s : State) (m : MethodId) (args : Array Value) (below : List Frame) (meth : Method) (c : Code), fk_C p s m args meth c cc own ws maxL D cl tys nw → meth.name = "<init>" → meth.sig.returnType = none → fk_J p l e (headSpec ws rm).room s m args below meth c D cl b0 maxL (fk_E below args s D cl b0 n2 E2 mc ms) 0 0 n E (lv_args 0 av) 0 []) : fk_Met l y ws rm D cl tys nw b0 av n E n2 E2 mc ms := by
  refine Met.ofW (cc := cc) (maxL := maxL) (ret := none) hy hw ?_
  intro p e s m args below meth c s₁ B hml hv
  obtain ⟨rfl, hsz, hP, hK, hN⟩ := hv
  have hl := lv_entry av hle
  rw [lg_entry_eq]
  exact body p e s m _ below meth c ⟨B.exec, B.bytes, hml, ho ▸ findClass_of_methodNamed B.named, atoms_spec (ws := ws) B.pre, hK, hN, B.notSynchronized⟩ ((name_of_methodNamed B.named B.method).1.trans hn) B.returns _ _ _ hsz hP va_S.rf hl
section FKJ
variable {p : Program} {l : Launch} {e : Env} {R : Room} {s : State} {m : MethodId} {args : Array Value} {below : List Frame} {meth : Method} {c : Code} {D : va_G} {cl : List vw_C} {tys : List (ClassId × FieldType)} {nw : fw_nw} {b0 nL cs sl : Nat} {Q : State → Prop} {n : Nat} {E : Nat → va_E} {L : List (Nat × Value)} {pc : Nat} {rest : List Value} {cc : ByteArray} {own : String} {ws : List Cond}
theorem fk_iconst (C : fk_C p s m args meth c cc own ws nL D cl tys nw) {i : Int} {v : Int32} (hd : decode cc pc = .ok (.iconst i, 1)) (hv : Int32.ofInt i = v) (kk : fk_J p l e R s m args below meth c D cl b0 nL Q cs sl n E L (pc + 1) (.int v :: rest)) : fk_J p l e R s m args below meth c D cl b0 nL Q cs sl n E L pc (rest) :=
  fun H locs ls hz hP hS hl => lv_iconst C.1 C.2.1 hd hv (kk H locs ls hz hP hS hl)
theorem fk_bipush (C : fk_C p s m args meth c cc own ws nL D cl tys nw) {i : Int} {v : Int32} (hd : decode cc pc = .ok (.bipush i, 2)) (hv : (Int8.ofInt i).toInt32 = v) (kk : fk_J p l e R s m args below meth c D cl b0 nL Q cs sl n E L (pc + 2) (.int v :: rest)) : fk_J p l e R s m args below meth c D cl b0 nL Q cs sl n E L pc (rest) :=
  fun H locs ls hz hP hS hl => lv_bipush C.1 C.2.1 hd hv (kk H locs ls hz hP hS hl)
theorem fk_sipush (C : fk_C p s m args meth c cc own ws nL D cl tys nw) {i : Int} {v : Int32} (hd : decode cc pc = .ok (.sipush i, 3)) (hv : (Int16.ofInt i).toInt32 = v) (kk : fk_J p l e R s m args below meth c D cl b0 nL Q cs sl n E L (pc + 3) (.int v :: rest)) : fk_J p l e R s m args below meth c D cl b0 nL Q cs sl n E L pc (rest) :=
  fun H locs ls hz hP hS hl => lv_sipush C.1 C.2.1 hd hv (kk H locs ls hz hP hS hl)
theorem fk_iload_n (C : fk_C p s m args meth c cc own ws nL D cl tys nw) {j : Fin 4} {i : Nat} {x : Int32} (k : Nat) (hd : decode cc pc = .ok (.iload_n j, 1)) (hi : (j : Nat) = i) (hk : L[k]? = some (i, .int x)) (kk : fk_J p l e R s m args below meth c D cl b0 nL Q cs sl n E L (pc + 1) (.int x :: rest)) : fk_J p l e R s m args below meth c D cl b0 nL Q cs sl n E L pc (rest) :=
  fun H locs ls hz hP hS hl => lv_iload_n C.1 C.2.1 hd hi (lv_at hl k hk) (kk H locs ls hz hP hS hl)
theorem fk_aload_n (C : fk_C p s m args meth c cc own ws nL D cl tys nw) {j : Fin 4} {i : Nat} {x : Nat} (k : Nat) (hd : decode cc pc = .ok (.aload_n j, 1)) (hi : (j : Nat) = i) (hk : L[k]? = some (i, .ref x)) (kk : fk_J p l e R s m args below meth c D cl b0 nL Q cs sl n E L (pc + 1) (.ref x :: rest)) : fk_J p l e R s m args below meth c D cl b0 nL Q cs sl n E L pc (rest) :=
  fun H locs ls hz hP hS hl => lv_aload_n C.1 C.2.1 hd hi (lv_at hl k hk) (kk H locs ls hz hP hS hl)
theorem fk_istore_n (C : fk_C p s m args meth c cc own ws nL D cl tys nw) {j : Fin 4} {i : Nat} {x : Int32} {L2 : List (Nat × Value)} (ks : List Nat) (hd : decode cc pc = .ok (.istore_n j, 1)) (hi : (j : Nat) = i) (hn : i < nL) (hL : lv_pick ((i, .int x) :: L.filter (fun q => !(q.1 == i) && !(q.1 + 1 == i && q.2.category == 2))) ks = L2) (kk : fk_J p l e R s m args below meth c D cl b0 nL Q cs sl n E L2 (pc + 1) rest) : fk_J p l e R s m args below meth c D cl b0 nL Q cs sl n E L pc (.int x :: rest) :=
  fun H locs ls hz hP hS hl => lv_istore_n C.1 C.2.1 hd hi hl hn rfl (fun ls2 hl2 => kk H locs ls2 hz hP hS (lv_sub hl2 ks hL))
theorem fk_astore_n (C : fk_C p s m args meth c cc own ws nL D cl tys nw) {j : Fin 4} {i : Nat} {x : Nat} {L2 : List (Nat × Value)} (ks : List Nat) (hd : decode cc pc = .ok (.astore_n j, 1)) (hi : (j : Nat) = i) (hn : i < nL) (hL : lv_pick ((i, .ref x) :: L.filter (fun q => !(q.1 == i) && !(q.1 + 1 == i && q.2.category == 2))) ks = L2) (kk : fk_J p l e R s m args below meth c D cl b0 nL Q cs sl n E L2 (pc + 1) rest) : fk_J p l e R s m args below meth c D cl b0 nL Q cs sl n E L pc (.ref x :: rest) :=
  fun H locs ls hz hP hS hl => lv_astore_n C.1 C.2.1 hd hi hl hn rfl (fun ls2 hl2 => kk H locs ls2 hz hP hS (lv_sub hl2 ks hL))
theorem fk_iinc (C : fk_C p s m args meth c cc own ws nL D cl tys nw) {i : Nat} {n0 : Int} {x v : Int32} {L2 : List (Nat × Value)} (k : Nat) (ks : List Nat) (hd : decode cc pc = .ok (.iinc i n0, 3)) (hk : L[k]? = some (i, .int x)) (hv : x + Int32.ofInt n0 = v) (hn : i < nL) (hL : lv_pick ((i, .int v) :: L.filter (fun q => !(q.1 == i) && !(q.1 + 1 == i && q.2.category == 2))) ks = L2) (kk : fk_J p l e R s m args below meth c D cl b0 nL Q cs sl n E L2 (pc + 3) rest) : fk_J p l e R s m args below meth c D cl b0 nL Q cs sl n E L pc rest := by
  subst hv
  exact fun H locs ls hz hP hS hl => lv_iinc C.1 C.2.1 hd hl (k := k) hk rfl hn rfl (fun ls2 hl2 => kk H locs ls2 hz hP hS (lv_sub hl2 ks hL))
theorem fk_sub {L2 : List (Nat × Value)} (ks : List Nat) (hL : lv_pick L ks = L2) (kk : fk_J p l e R s m args below meth c D cl b0 nL Q cs sl n E L2 pc rest) : fk_J p l e R s m args below meth c D cl b0 nL Q cs sl n E L pc rest := fun H locs ls hz hP hS hl => kk H locs ls hz hP hS (lv_sub hl ks hL)
theorem fk_dup (C : fk_C p s m args meth c cc own ws nL D cl tys nw) {v : Value} (hd : decode cc pc = .ok (.dup, 1)) (hv : v.category = 1) (kk : fk_J p l e R s m args below meth c D cl b0 nL Q cs sl n E L (pc + 1) (v :: v :: rest)) : fk_J p l e R s m args below meth c D cl b0 nL Q cs sl n E L pc (v :: rest) :=
  fun H locs ls hz hP hS hl => lv_dup C.1 C.2.1 hd hv (kk H locs ls hz hP hS hl)
theorem fk_goto (C : fk_C p s m args meth c cc own ws nL D cl tys nw) {off : Int} {tgt : Nat} (hd : decode cc pc = .ok (.goto off, 3)) (ht : (pc : Int) + off = (tgt : Int)) (kk : fk_J p l e R s m args below meth c D cl b0 nL Q cs sl n E L tgt rest) : fk_J p l e R s m args below meth c D cl b0 nL Q cs sl n E L pc rest := fun H locs ls hz hP hS hl => lv_goto C.1 C.2.1 hd ht (kk H locs ls hz hP hS hl)
theorem fk_icmp_ge (C : fk_C p s m args meth c cc own ws nL D cl tys nw) {x y : Int32} {off : Int} {tgt : Nat} (hd : decode cc pc = .ok (.if_icmp .ge off, 3)) (ht : (pc : Int) + off = (tgt : Int)) (kt : y ≤ x → fk_J p l e R s m args below meth c D cl b0 nL Q cs sl n E L tgt rest) (kf : ¬ y ≤ x → fk_J p l e R s m args below meth c D cl b0 nL Q cs sl n E L (pc + 3) rest) : fk_J p l e R s m args below meth c D cl b0 nL Q cs sl n E L pc (.int y :: .int x :: rest) := fun H locs ls hz hP hS hl => lv_icmp_ge C.1 C.2.1 hd ht (fun z => kt z H locs ls hz hP hS hl) (fun z => kf z H locs ls hz hP hS hl)
theorem fk_widen {k n1 : Nat} (h1 : cs ≤ k) (h2 : sl ≤ n1) (kk : fk_J p l e R s m args below meth c D cl b0 nL Q k n1 n E L pc rest) : fk_J p l e R s m args below meth c D cl b0 nL Q cs sl n E L pc rest := fun H locs ls hz hP hS hl => W.widen h1 h2 (kk H locs ls hz hP hS hl)
theorem fk_at {n2 : Nat} (h : n2 = n) (kk : fk_J p l e R s m args below meth c D cl b0 nL Q cs sl n2 E L pc rest) : fk_J p l e R s m args below meth c D cl b0 nL Q cs sl n E L pc rest := h ▸ kk
theorem fk_obj (C : fk_C p s m args meth c cc own ws nL D cl tys nw) {k index : Nat} (hw : Cond.methodLink own index objectInit ∈ ws ∧ Cond.instanceMethod objectInit ∈ ws ∧ Cond.code objectInit ⟨#[0xb1]⟩ 1 none ∈ ws) (hfr : 1 ≤ R.frames) (hlo : (rest.map fun v => v.category).sum + 12 ≤ R.locals) (hd : decode cc pc = .ok (.invokespecial index, 3)) (kk : fk_J p l e R s m args below meth c D cl b0 nL Q cs sl n E L (pc + 3) rest) : fk_J p l e R s m args below meth c D cl b0 nL Q cs sl n E L pc (.ref (b0 + k) :: rest) :=
  fun H locs ls hz hP hS hl => W.objInit C.1 C.2.1 C.2.2.2.1 (C.2.2.2.2.1 _ hw.1) (C.2.2.2.2.1 _ hw.2.1) (C.2.2.2.2.1 _ hw.2.2) rfl (hl.1.trans C.2.2.1.symm) rfl hd hfr (by rw [show (F0 m pc ls (.ref (b0 + k) :: rest)).monitorRoom = 0 from rfl]; omega) (kk H locs ls hz hP hS hl)
theorem fk_new (C : fk_C p s m args meth c cc own ws nL D cl tys nw) {ci NF index : Nat} {Cn : String} {T : u_T} {fs : List Value} (hin : ∀ w ∈ u_ws Cn T NF, w ∈ ws) (ty : Nat → FieldType) (hty : ∀ k, k < NF → parseFieldDescriptor (T k).2.2.1 = some (ty k)) (hw : Cond.classLink own index Cn ∈ ws ∧ Cond.instantiable Cn NF ∈ ws ∧ Cond.initialized Cn ∈ ws) (hc : cl[ci]? = some (Cn, T, NF)) (hfs : ∀ j, j < NF → defaultValue (ty j) = vp_V fs j) (hroom : cs + 1 ≤ R.cells ∧ sl + NF ≤ R.slots) (hd : decode cc pc = .ok (.new index, 3))
    (kk : ∀ E2 : Nat → va_E, E2 n = .inr (ci, fs) → (∀ j, j ≠ n → E2 j = E j) → fk_J p l e R s m args below meth c D cl b0 nL Q (cs + 1) (sl + NF) (n + 1) E2 L (pc + 3) (.ref (b0 + n) :: rest)) : fk_J p l e R s m args below meth c D cl b0 nL Q cs sl n E L pc rest := by
  intro H locs ls hz hP hS hl
  have hKn := C.2.2.2.2.2.1.1 ci _ hc
  refine W.newcK C.1 C.2.1 C.2.2.2.1 (C.2.2.2.2.1 _ hw.1) (C.2.2.2.2.1 _ hw.2.1) (C.2.2.2.2.1 _ hw.2.2) rfl hd hroom.1 hroom.2 hKn.2.1 hz fun H1 kC hkC e1 z1 o1 => ?_
  have hk : ∀ (k : Nat) (x : Nat × va_E), (fw_W n (fk_ad b0) E)[k]? = some x → H1[x.1]? = H[x.1]? := fun k x hx => o1 x.1 (hz ▸ (hP k x hx).lt)
  refine kk (fun j => if j = n then .inr (ci, fs) else E j) (if_pos rfl) (fun j hj => if_neg hj) H1 locs ls (by omega) ?_ ⟨Nat.le_trans hS.1 (by omega), fun x h1 h2 => (o1 x (by have := hS.1; omega)).trans (hS.2.1 x h1 h2), hS.2.2⟩ hl
  rw [fk_push (E := E) (e := .inr (ci, fs)) (if_pos rfl) (fun j hj => if_neg hj)]
  refine (hP.kept hk).app (fun k x hx => ?_)
  have hz1 : k < 1 := (List.getElem?_eq_some_iff.mp hx).1
  rw [show k = 0 by omega] at hx
  cases hx
  exact ⟨_, hc, (u_born ty C.2.2.2.2.1 hin hKn hkC e1 hty).to hfs⟩
theorem fk_newa (C : fk_C p s m args meth c cc own ws nL D cl tys nw) {atype : ArrayType} {ty : FieldType} {cA : ClassId} {v : Int32} {N' : Nat} {a0 : vp_A} (t0 : Nat) (hw : Cond.arrayClass ty ∈ ws) (hty : newarray.typeOf atype = ty) (hr : refKind ty = false) (ht : tys[t0]? = some (cA, ty)) (ha : ∀ cA : ClassId, vp_cell cA a0 = arrV cA N' (fun _ => defaultValue ty)) (hn : ¬ v < 0) (hN : v.toNatClampNeg = N') (hbytes : N' * componentBytes ty ≤ 536870912) (hroom : cs + 1 ≤ R.cells ∧ sl + N' ≤ R.slots) (hd : decode cc pc = .ok (.newarray atype, 2))
    (kk : ∀ E2 : Nat → va_E, E2 n = .inl (cA, a0) → (∀ j, j ≠ n → E2 j = E j) → fk_J p l e R s m args below meth c D cl b0 nL Q (cs + 1) (sl + N') (n + 1) E2 L (pc + 2) (.ref (b0 + n) :: rest)) : fk_J p l e R s m args below meth c D cl b0 nL Q cs sl n E L pc (.int v :: rest) := by
  subst hty
  intro H locs ls hz hP hS hl
  refine va_newaK C.1 C.2.1 (C.2.2.2.2.1 _ hw) rfl hd rfl hn hN hbytes hroom.1 hroom.2 hz fun H1 cA1 e1 z1 o1 hAr hNm => ?_
  have hcA : cA1 = cA := by
    have h := (C.2.2.2.2.2.1.2 t0 _ ht).2
    cases atype <;> exact Option.some.inj (hNm.symm.trans h)
  subst hcA
  have hk : ∀ (k : Nat) (x : Nat × va_E), (fw_W n (fk_ad b0) E)[k]? = some x → H1[x.1]? = H[x.1]? := fun k x hx => o1 x.1 (hz ▸ (hP k x hx).lt)
  refine kk (fun j => if j = n then .inl (cA1, a0) else E j) (if_pos rfl) (fun j hj => if_neg hj) H1 locs ls (by omega) ?_ ⟨Nat.le_trans hS.1 (by omega), fun x h1 h2 => (o1 x (by have := hS.1; omega)).trans (hS.2.1 x h1 h2), hS.2.2⟩ hl
  rw [fk_push (E := E) (e := .inl (cA1, a0)) (if_pos rfl) (fun j hj => if_neg hj)]
  refine (hP.kept hk).app (fun k x hx => ?_)
  have hz1 : k < 1 := (List.getElem?_eq_some_iff.mp hx).1
  rw [show k = 0 by omega] at hx
  cases hx
  show H1[b0 + n]? = some (vp_cell _ _)
  rw [ha]
  exact e1
theorem fk_newq (C : fk_C p s m args meth c cc own ws nL D cl tys nw) {index : Nat} {Cn : String} {cA : ClassId} {v : Int32} {N' : Nat} (t0 : Nat) (hw : Cond.classLink own index Cn ∈ ws) (hao : va_AO Cn s) (ht : tys[t0]? = some (cA, .object Cn)) (hn : ¬ v < 0) (hN : v.toNatClampNeg = N') (hbytes : N' * 4 ≤ 536870912) (hroom : cs + 1 ≤ R.cells ∧ sl + N' ≤ R.slots) (hd : decode cc pc = .ok (.anewarray index, 3))
    (kk : ∀ E2 : Nat → va_E, E2 n = .inl (cA, N', .inr (.inr (.inr (.inr (fun _ => none))))) → (∀ j, j ≠ n → E2 j = E j) → fk_J p l e R s m args below meth c D cl b0 nL Q (cs + 1) (sl + N') (n + 1) E2 L (pc + 3) (.ref (b0 + n) :: rest)) : fk_J p l e R s m args below meth c D cl b0 nL Q cs sl n E L pc (.int v :: rest) := by
  subst hN
  intro H locs ls hz hP hS hl
  refine W.anew C.1 C.2.1 C.2.2.2.1 (C.2.2.2.2.1 _ hw) (va_AO.use hao) rfl hd rfl hn hbytes hroom.1 hroom.2 fun cA1 kA comp f1 f2 f3 f4 => ?_
  have hcA : cA1 = cA := by
    obtain ⟨kA2, comp2, g1, g2, g3, g4⟩ := (C.2.2.2.2.2.1.2 t0 _ ht).2
    exact Option.some.inj (f1.symm.trans g4)
  subst hcA
  rw [show Value.ref H.size = Value.ref (b0 + n) by rw [hz]]
  generalize hH1 : H.push ({ cls := cA1, slots := Array.replicate v.toNatClampNeg .null, vm := .none } : Cell) = H1
  have z1 : H1.size = b0 + n + 1 := by rw [← hH1, Array.size_push, hz]
  have e1 : H1[b0 + n]? = some (arrV cA1 v.toNatClampNeg (fun _ => .null)) := by rw [← hz, ← hH1, Array.getElem?_push_size, ← arrV_new]
  have o1 : ∀ q : Nat, q < b0 + n → H1[q]? = H[q]? := fun q hq => by rw [← hH1, Array.getElem?_push, if_neg (by omega)]
  have hk : ∀ (k : Nat) (x : Nat × va_E), (fw_W n (fk_ad b0) E)[k]? = some x → H1[x.1]? = H[x.1]? := fun k x hx => o1 x.1 (hz ▸ (hP k x hx).lt)
  refine kk (fun j => if j = n then .inl (cA1, v.toNatClampNeg, .inr (.inr (.inr (.inr (fun _ => none))))) else E j) (if_pos rfl) (fun j hj => if_neg hj) H1 locs ls z1 ?_ ⟨Nat.le_trans hS.1 (by omega), fun x h1 h2 => (o1 x (by have := hS.1; omega)).trans (hS.2.1 x h1 h2), hS.2.2⟩ hl
  rw [fk_push (E := E) (e := .inl (cA1, v.toNatClampNeg, .inr (.inr (.inr (.inr (fun _ => none)))))) (if_pos rfl) (fun j hj => if_neg hj)]
  refine (hP.kept hk).app (fun k x hx => ?_)
  have hz1 : k < 1 := (List.getElem?_eq_some_iff.mp hx).1
  rw [show k = 0 by omega] at hx
  cases hx
  show H1[b0 + n]? = some (vp_cell _ _)
  rw [vp_cell_q]
  exact e1
theorem fk_put (C : fk_C p s m args meth c cc own ws nL D cl tys nw) {k ci j index NF : Nat} {Cn : String} {T : u_T} {v : Value} {ty : FieldType} {fs : List Value} (hkn : k < n) (he : E k = .inr (ci, fs)) (hc : cl[ci]? = some (Cn, T, NF)) (hg : fw_G ws own index Cn T NF j) (ty0 : Nat → FieldType) (hty : ∀ k, k < NF → parseFieldDescriptor (T k).2.2.1 = some (ty0 k)) (hnm : ∀ a, a < NF → ∀ b, b < NF → a ≠ b → (T a).2.1 ≠ (T b).2.1) (hfin : (T j).2.2.2 = false) (hpd : ty0 j = ty) (hnr : narrow ty v = v) (hfit : fits ty v = true) (hl0 : j < fs.length) (hd : decode cc pc = .ok (.putfield index, 3))
    (kk : ∀ E2 : Nat → va_E, E2 k = .inr (ci, fs.set j v) → (∀ i, i ≠ k → E2 i = E i) → fk_J p l e R s m args below meth c D cl b0 nL Q cs sl n E2 L (pc + 3) rest) : fk_J p l e R s m args below meth c D cl b0 nL Q cs sl n E L pc (v :: .ref (b0 + k) :: rest) := by
  intro H locs ls hz hP hS hl
  have hE : (fw_W n (fk_ad b0) E)[k]? = some (b0 + k, .inr (ci, fs)) := (fw_get hkn).trans (by rw [he])
  have hap := va_apart (own := own) C.2.2.2.2.1 hg.1 ty0 hty hnm C.2.2.2.2.2.1 hc
  have hd2 : parseFieldDescriptor (T j).2.2.1 = some ty := by rw [hty j hg.2.2, hpd]
  obtain ⟨r, h1, cell, q1, q2, q3, q4⟩ := hP k _ hE
  have hr : r = (Cn, T, NF) := Option.some.inj (h1.symm.trans hc)
  subst hr
  obtain ⟨hSl, hfc, kC, hkC, hkind⟩ := C.2.2.2.2.2.1.1 ci _ hc
  obtain ⟨cf, kf, fi, f, hi, hsl⟩ := hSl j hg.2.2
  have hlay := C.2.2.2.2.1 _ (hg.1 _ (u_in_lay hg.2.2))
  unfold u_lay at hlay
  rw [if_neg (by rw [hfin]; decide)] at hlay
  have hst := (u_facts hfc hkC (u_lays C.2.2.2.2.1 hg.1 hg.2.2) hi).1
  have h6 := u_store hfc hkC hkind hlay hi hd2 hnr hfit
  refine W.putK C.1 C.2.1 (f := f) ⟨C.2.2.2.1, C.2.2.2.2.1 _ hg.2.1, ⟨_, _, _, hi⟩, hst⟩ (by rw [q2]; exact h6) q1 q3 (by rw [hsl]; exact k2_hasslot (q4 j hg.2.2)) rfl rfl hd fun H' e1 e2 e3 => ?_
  rw [hsl] at e1 ⊢
  refine kk (fun i => if i = k then .inr (ci, fs.set j v) else E i) (if_pos rfl) (fun i hi => if_neg hi) H' _ ls (e2.trans hz) ?_ (hS.put e2 e3 (Nat.le_add_right _ _)) hl
  rw [← fw_upd hkn]
  exact hP.set fk_D hE ⟨_, hc, t_OB.to (V := updV (vp_V fs) j v) ⟨_, e1, q2, q3, t_set q4 hap hg.2.2 v⟩ (fun i _ => vp_updV_set hl0 v i)⟩ e3
theorem fk_putF (C : fk_C p s m args meth c cc own ws nL D cl tys nw) (hin : meth.name = "<init>") {k ci j index NF : Nat} {Cn : String} {T : u_T} {v : Value} {ty : FieldType} {fs : List Value} (hkn : k < n) (he : E k = .inr (ci, fs)) (hc : cl[ci]? = some (Cn, T, NF)) (hg : fw_G ws own index Cn T NF j) (ty0 : Nat → FieldType) (hty : ∀ k, k < NF → parseFieldDescriptor (T k).2.2.1 = some (ty0 k)) (hnm : ∀ a, a < NF → ∀ b, b < NF → a ≠ b → (T a).2.1 ≠ (T b).2.1) (hfin : (T j).2.2.2 = true) (hdecl : (T j).1 = own) (hpd : ty0 j = ty) (hnr : narrow ty v = v) (hfit : fits ty v = true) (hl0 : j < fs.length) (hd : decode cc pc = .ok (.putfield index, 3))
    (kk : ∀ E2 : Nat → va_E, E2 k = .inr (ci, fs.set j v) → (∀ i, i ≠ k → E2 i = E i) → fk_J p l e R s m args below meth c D cl b0 nL Q cs sl n E2 L (pc + 3) rest) : fk_J p l e R s m args below meth c D cl b0 nL Q cs sl n E L pc (v :: .ref (b0 + k) :: rest) := by
  intro H locs ls hz hP hS hl
  have hE : (fw_W n (fk_ad b0) E)[k]? = some (b0 + k, .inr (ci, fs)) := (fw_get hkn).trans (by rw [he])
  have hap := va_apart (own := own) C.2.2.2.2.1 hg.1 ty0 hty hnm C.2.2.2.2.2.1 hc
  have hd2 : parseFieldDescriptor (T j).2.2.1 = some ty := by rw [hty j hg.2.2, hpd]
  obtain ⟨r, h1, cell, q1, q2, q3, q4⟩ := hP k _ hE
  have hr : r = (Cn, T, NF) := Option.some.inj (h1.symm.trans hc)
  subst hr
  obtain ⟨hSl, hfc, kC, hkC, hkind⟩ := C.2.2.2.2.2.1.1 ci _ hc
  obtain ⟨cf, kf, fi, f, hi, hsl⟩ := hSl j hg.2.2
  have hlay := C.2.2.2.2.1 _ (hg.1 _ (u_in_lay hg.2.2))
  unfold u_lay at hlay
  rw [if_pos hfin] at hlay
  have hst := (u_facts hfc hkC (u_lays C.2.2.2.2.1 hg.1 hg.2.2) hi).1
  have hcf : m.cls = cf := by
    obtain ⟨_, _, c', _, _, _, -, -, hf', -, -, -, hown2, -⟩ := Cond.laysFinal_spec hlay
    have e1 : c' = cf := by have := hi.symm.trans hf'; simp at this; exact this.1.symm
    rw [hdecl] at hown2
    rw [← e1]; exact Option.some.inj (C.2.2.2.1.symm.trans hown2)
  have h6 := u_fits hfc hkC hkind (Or.inr hlay) hi hd2 hnr hfit
  refine W.putFinK C.1 C.2.1 C.2.2.2.1 (C.2.2.2.2.1 _ hg.2.1) hi hst hcf hin (by rw [q2]; exact h6) q1 q3 (by rw [hsl]; exact k2_hasslot (q4 j hg.2.2)) rfl rfl hd fun H' e1 e2 e3 => ?_
  rw [hsl] at e1 ⊢
  refine kk (fun i => if i = k then .inr (ci, fs.set j v) else E i) (if_pos rfl) (fun i hi => if_neg hi) H' _ ls (e2.trans hz) ?_ (hS.put e2 e3 (Nat.le_add_right _ _)) hl
  rw [← fw_upd hkn]
  exact hP.set fk_D hE ⟨_, hc, t_OB.to (V := updV (vp_V fs) j v) ⟨_, e1, q2, q3, t_set q4 hap hg.2.2 v⟩ (fun i _ => vp_updV_set hl0 v i)⟩ e3
theorem fk_aast (C : fk_C p s m args meth c cc own ws nL D cl tys nw) {k kv ci N' : Nat} {Cn : String} {T : u_T} {NF : Nat} {cA : ClassId} {i : Int32} {fs : List Value} {f : Nat → Option Nat} (t0 : Nat) (hkn : k < n) (he : E k = .inl (cA, N', .inr (.inr (.inr (.inr f))))) (ht : tys[t0]? = some (cA, .object Cn)) (hvn : kv < n) (hv : E kv = .inr (ci, fs)) (hc : cl[ci]? = some (Cn, T, NF)) (hin : vp_in i N') (hd : decode cc pc = .ok (.aastore, 1))
    (kk : ∀ E2 : Nat → va_E, E2 k = .inl (cA, N', .inr (.inr (.inr (.inr (va_up f i.toNatClampNeg (some (b0 + kv))))))) → (∀ j, j ≠ k → E2 j = E j) → fk_J p l e R s m args below meth c D cl b0 nL Q cs sl n E2 L (pc + 1) rest) : fk_J p l e R s m args below meth c D cl b0 nL Q cs sl n E L pc (.ref (b0 + kv) :: .int i :: .ref (b0 + k) :: rest) := by
  intro H locs ls hz hP hS hl
  have ha : (fw_W n (fk_ad b0) E)[k]? = some (b0 + k, .inl (cA, N', .inr (.inr (.inr (.inr f))))) := (fw_get hkn).trans (by rw [he])
  have hlt : i.toNatClampNeg < N' := Nat.not_le.mp fun q => hin (Or.inr q)
  have h0 : ¬ i < 0 := fun q => hin (Or.inl q)
  obtain ⟨r', hr', cellV, g1, g2, g3, -⟩ := hP kv _ ((fw_get hvn).trans (by rw [hv]))
  have hcls := (C.2.2.2.2.2.1.1 ci _ hc).2
  obtain ⟨kA, comp, k1, k2, k3, -⟩ := (C.2.2.2.2.2.1.2 t0 _ ht).2
  have hcomp : comp = D.1 ci := Option.some.inj (k3.symm.trans hcls.1)
  subst hcomp
  obtain ⟨kC, hkC, -⟩ := hcls.2
  refine W.aast C.1 C.2.1 (hP k _ ha) (fun q h => by cases h) (fun h => by cases h) k1 k2 rfl hkC ⟨h0, by show _ < (arrV _ _ _).slots.size; rw [arrV_size]; exact hlt⟩ g1 (fun q h => by rw [g3] at h; cases h) (by rw [g2]; exact hkC) (by rw [g2]; exact va_assign hcls) rfl rfl hd fun H1 e z oq => ?_
  refine kk (fun j => if j = k then .inl (cA, N', .inr (.inr (.inr (.inr (va_up f i.toNatClampNeg (some (b0 + kv))))))) else E j) (if_pos rfl) (fun j hj => if_neg hj) H1 _ ls (z.trans hz) ?_ (hS.put z oq (Nat.le_add_right _ _)) hl
  rw [← fw_upd hkn]
  refine hP.set fk_D ha ?_ oq
  show H1[b0 + k]? = some (vp_cell _ _)
  rw [e]
  rw [vp_cell_q, vp_cell_q, arrV_store]
  congr 2
  funext q
  by_cases hq : q = i.toNatClampNeg
  · subst hq
    simp [updV, va_up, va_rf]
  · simp [updV, va_up, hq]
theorem fk_iast (C : fk_C p s m args meth c cc own ws nL D cl tys nw) {k N' : Nat} {cA : ClassId} {i x : Int32} {f : Nat → Int32} (t0 : Nat) (hkn : k < n) (he : E k = .inl (cA, N', .inl f)) (ht : tys[t0]? = some (cA, .int)) (hin : vp_in i N') (hd : decode cc pc = .ok (.iastore, 1))
    (kk : ∀ E2 : Nat → va_E, E2 k = .inl (cA, N', .inl (upd f i.toNatClampNeg x)) → (∀ j, j ≠ k → E2 j = E j) → fk_J p l e R s m args below meth c D cl b0 nL Q cs sl n E2 L (pc + 1) rest) : fk_J p l e R s m args below meth c D cl b0 nL Q cs sl n E L pc (.int x :: .int i :: .ref (b0 + k) :: rest) := by
  intro H locs ls hz hP hS hl
  have ha : (fw_W n (fk_ad b0) E)[k]? = some (b0 + k, .inl (cA, N', .inl f)) := (fw_get hkn).trans (by rw [he])
  refine W.iast C.1 C.2.1 (hP k _ ha) ((C.2.2.2.2.2.1.2 t0 _ ht).1 N' (fun j => .int (f j))) (fun q => by cases q) (by show ¬ (i < 0 ∨ (arrV _ _ _).slots.size ≤ _); rw [arrV_size]; exact hin) rfl rfl hd fun H1 e z oq => ?_
  refine kk (fun j => if j = k then .inl (cA, N', .inl (upd f i.toNatClampNeg x)) else E j) (if_pos rfl) (fun j hj => if_neg hj) H1 _ ls (z.trans hz) ?_ (hS.put z oq (Nat.le_add_right _ _)) hl
  rw [← fw_upd hkn]
  refine hP.set fk_D ha ?_ oq
  show H1[b0 + k]? = some (vp_cell _ _)
  rw [e]
  rw [vp_cell_i, vp_cell_i, arrV_store]
  congr 2
  funext q
  by_cases hq : q = i.toNatClampNeg
  · subst hq
    simp [updV, upd]
  · simp [updV, upd, hq]
theorem fk_getr (C : fk_C p s m args meth c cc own ws nL D cl tys nw) {k ci j index NF : Nat} {Cn : String} {T : u_T} {v : Value} {fs : List Value} (hkn : k < n) (he : E k = .inr (ci, fs)) (hc : cl[ci]? = some (Cn, T, NF)) (hg : fw_G ws own index Cn T NF j) (hv : fs[j]? = some v) (hd : decode cc pc = .ok (.getfield index, 3))
    (kk : fk_J p l e R s m args below meth c D cl b0 nL Q cs sl n E L (pc + 3) (v :: rest)) : fk_J p l e R s m args below meth c D cl b0 nL Q cs sl n E L pc (.ref (b0 + k) :: rest) :=
  fun H locs ls hz hP hS hl => va_get C.1 C.2.1 C.2.2.2.2.1 hg.1 C.2.2.2.1 C.2.2.2.2.2.1 hP k ((fw_get hkn).trans (by rw [he])) hc j hg.2.2 (C.2.2.2.2.1 _ hg.2.1) (fun _ h => h) hv hd (kk H locs ls hz hP hS hl)
theorem fk_hand {av : List Value} {H : Heap} (C : fk_C p s m args meth c cc own ws nL D cl tys nw) (hz : H.size = b0 + n) (hP : va_P D cl (fw_W n (fk_ad b0) E) H) : PreS s H (fun v U => v = av.toArray ∧ U.heap.size = b0 + n ∧ va_P D cl (fw_W n (fk_ad b0) E) U.heap ∧ va_K D cl tys U ∧ fk_N nw U) av := by
  refine ⟨fun a U g mk q => ?_, fun U hU hW => ⟨rfl, by rw [hU]; exact hz, by rw [hU]; exact hP, va_K.moved hW.alike C.2.2.2.2.2.1, C.2.2.2.2.2.2.1.go hW⟩⟩
  obtain ⟨q0, q1, q2, q3, q4⟩ := q
  exact ⟨q0, q1, q2, va_K.moved (u := U) (U := U.calling g mk a) (Vm.Alike.refl U.vm) q3, fun w hw => va_Nw.same (w := .methodLinkNest w.1 w.2.1 w.2.2.1 w.2.2.2) rfl (rfl : U.vm = (U.calling g mk a).vm) (q4.1 w hw), va_AO.moved (u := U) (U := U.calling g mk a) (Vm.Alike.refl U.vm) q4.2.1, va_AO.moved (u := U) (U := U.calling g mk a) (Vm.Alike.refl U.vm) q4.2.2⟩
theorem fk_back {y : MethodName} {mc ms n2 : Nat} {E2 : Nat → va_E} {st0 : List Value} {H : Heap} {locs : List Loc} {ls : Array Slot} (hz : H.size = b0 + n) (hS : va_S (fk_A b0) s.heap H locs) (hl : lv_has ls nL L)
    (hr : va_Run p l e R s m args below meth c H locs cs sl mc ms (F0 m pc ls st0) rest (fun st oc t => oc = .returned none ∧ t.heap.size = b0 + n2 ∧ va_P D cl (fw_W n2 (fk_ad b0) E2) t.heap ∧ va_F (fk_A b0) st t) (fk_A b0))
    (kk : fk_J p l e R s m args below meth c D cl b0 nL Q (cs + mc) (sl + ms) n2 E2 L (pc + 3) rest) : W p l e R s m args below meth c H locs cs sl Q (F0 m pc ls st0) := by
  intro T hT X
  obtain ⟨v, st₀, t, T', L1, h0, X', hL, e1, e2, ⟨hv, hz2, hp, hzz, hk⟩, st⟩ := hr T hT X
  cases hv
  rw [h0] at hzz hk
  obtain ⟨t2, a1, b1⟩ := kk T'.heap (locs ++ L1) ls (by rw [e1]; exact hz2) (by rw [e1]; exact hp)
    ⟨Nat.le_trans hS.1 (by rw [e1]; exact hzz), fun q h1 h2 => by rw [e1, hk q (Nat.lt_of_lt_of_le h1 hS.1) h2]; exact hS.2.1 q h1 h2, fun q hq => by
      rcases List.mem_append.mp hq with h | h
      · exact hS.2.2 q h
      · exact hL q h⟩ hl T' rfl X'
  exact ⟨t2, st t2 a1, b1⟩
theorem fk_callI (C : fk_C p s m args meth c cc own ws nL D cl tys nw) {y : MethodName} {wc : List Cond} {rm : Room} {k index maxL mc ms n2 : Nat} {bytes : ByteArray} {E2 : Nat → va_E} (hM : fk_Met l y wc rm D cl tys nw b0 [.ref (b0 + k)] n E n2 E2 mc ms) (cw : CallB R s args own index y bytes maxL none wc rm mc ms 0 ∧ y.name = "<init>" ∧ (Cond.instanceMethod y).before args s = true) (hW : (rest.map fun v => v.category).sum ≤ 8) (hd : decode cc pc = .ok (.invokespecial index, 3)) (hroom : cs + mc ≤ R.cells ∧ sl + ms ≤ R.slots)
    (kk : fk_J p l e R s m args below meth c D cl b0 nL Q (cs + mc) (sl + ms) n2 E2 L (pc + 3) rest) : fk_J p l e R s m args below meth c D cl b0 nL Q cs sl n E L pc (.ref (b0 + k) :: rest) := by
  intro H locs ls hz hP hS hl
  exact fk_back (y := y) hz hS hl (va_runI (As := []) ⟨C.1, C.2.1, C.2.2.1, C.2.2.2.1, C.2.2.2.2.1⟩ hM cw (fk_hand C hz hP) rfl rfl hl.1 rfl (lv_room hW) hd hroom) kk
theorem fk_callIN (C : fk_C p s m args meth c cc own ws nL D cl tys nw) {y : MethodName} {wc : List Cond} {rm : Room} {k index maxL mc ms n2 : Nat} {bytes : ByteArray} {E2 : Nat → va_E} {host : String} (hM : fk_Met l y wc rm D cl tys nw b0 [.ref (b0 + k)] n E n2 E2 mc ms) (cw : va_CN R s args own index y host bytes maxL none wc rm mc ms 0 ∧ y.name = "<init>" ∧ (Cond.instanceMethod y).before args s = true) (hW : (rest.map fun v => v.category).sum ≤ 8) (hd : decode cc pc = .ok (.invokespecial index, 3)) (hroom : cs + mc ≤ R.cells ∧ sl + ms ≤ R.slots)
    (kk : fk_J p l e R s m args below meth c D cl b0 nL Q (cs + mc) (sl + ms) n2 E2 L (pc + 3) rest) : fk_J p l e R s m args below meth c D cl b0 nL Q cs sl n E L pc (.ref (b0 + k) :: rest) := by
  intro H locs ls hz hP hS hl
  exact fk_back (y := y) hz hS hl (va_runIN (As := []) ⟨C.1, C.2.1, C.2.2.1, C.2.2.2.1, C.2.2.2.2.1⟩ hM cw (fk_hand C hz hP) rfl rfl hl.1 rfl (lv_room hW) hd hroom) kk
theorem fk_vret (C : fk_C p s m args meth c cc own ws nL D cl tys nw) (hr : meth.sig.returnType = none) {E2 : Nat → va_E} (hE : ∀ j, j < n → fk_eq (E j) (E2 j)) (hd : decode cc pc = .ok (.return_, 1)) : fk_J p l e R s m args below meth c D cl b0 nL (fk_E below args s D cl b0 n E2 cs sl) cs sl n E L pc [] :=
  fun H locs ls hz hP hS hl => W.vret C.1 C.2.1 hr (fun t ht hW => ⟨rfl, by rw [ht]; exact hz, by rw [ht]; exact fk_swap hP hE, hS.F ht⟩) hS.2.2 hd C.2.2.2.2.2.2.2
end FKJ
