/-! ===== making: a constructor walks over a list of cells ===== -/
def ic_ty (ka : Nat → ClassId) : List (ClassId × FieldType) := [(ka 1, .int), (ka 2, .long), (ka 3, .boolean), (ka 4, .object "SmokeRings$Text"), (ka 5, .object "SmokeRings$Sheet")]
def ic_tr (j : Nat) : Int := ([41, 39, 20] : List Int).getD j 0
def ic_n1 : Cond := .methodLinkNest "SmokeRings" 21 ⟨"SmokeRings$Valley", "<init>", "()V"⟩ "SmokeRings"
def ic_n2 : Cond := .methodLinkNest "SmokeRings" 44 ⟨"SmokeRings$Diary", "<init>", "()V"⟩ "SmokeRings"
def ic_n3 : Cond := .methodLinkNest "SmokeRings" 51 ⟨"SmokeRings$Sights", "<init>", "()V"⟩ "SmokeRings"
def ic_n4 : Cond := .methodLinkNest "SmokeRings" 76 ⟨"SmokeRings$Sheet", "<init>", "()V"⟩ "SmokeRings"
def ic_n5 : Cond := .methodLinkNest "SmokeRings$Plans" 29 ⟨"SmokeRings$Few", "<init>", "()V"⟩ "SmokeRings"
def ic_N (U : State) : Prop := (va_Nw ic_n1 U ∧ va_Nw ic_n2 U ∧ va_Nw ic_n3 U ∧ va_Nw ic_n4 U ∧ va_Nw ic_n5 U) ∧ va_AO "SmokeRings$Text" U ∧ va_AO "SmokeRings$Sheet" U
def ic_X (A : Nat → Prop) (U : State) (H : Heap) : Prop := ic_N U ∧ ∃ t, va_Z "SmokeRings" "TEXT_ROOMS" "[I" (.ref t) A U H ∧ va_T .int t 3 (fun j => .int (Int32.ofInt (ic_tr j))) A U H
theorem ic_N.warm {s U : State} (hW : s.WarmedH U.vm) (h : ic_N s) : ic_N U := by
  obtain ⟨⟨h1, h2, h3, h4, h5⟩, h6, h7⟩ := h
  exact ⟨⟨va_Nw.warmM hW h1, va_Nw.warmM hW h2, va_Nw.warmM hW h3, va_Nw.warmM hW h4, va_Nw.warmM hW h5⟩, h6.moved hW.alike, h7.moved hW.alike⟩
theorem ic_N.same {s U : State} (e : s.vm = U.vm) (h : ic_N s) : ic_N U := by
  obtain ⟨⟨h1, h2, h3, h4, h5⟩, h6, h7⟩ := h
  refine ⟨⟨va_Nw.same rfl e h1, va_Nw.same rfl e h2, va_Nw.same rfl e h3, va_Nw.same rfl e h4, va_Nw.same rfl e h5⟩, h6.moved ?_, h7.moved ?_⟩
  · rw [e]; exact Vm.Alike.refl _
  · rw [e]; exact Vm.Alike.refl _
theorem ic_X.to {A B : Nat → Prop} {s U : State} {H : Heap} {locs : List Loc} (h : ic_X A s s.heap) (hS : va_S A s.heap H locs) (hW : s.WarmedH U.vm) (hAB : ∀ q, B q → A q) : ic_X B U H := by
  obtain ⟨h0, t, h1, h2⟩ := h
  have hvm := hW.alike
  exact ⟨h0.warm hW, t, ((h1.kept (fun q hq hA => hS.2.1 q hq hA)).moved hvm).narrow hAB, ((h2.kept (fun q hq hA => hS.2.1 q hq hA)).moved hvm).narrow hAB⟩
def ic_Pre (dC : Nat → ClassId) (dI : Nat → Nat → Nat) (ka : Nat → ClassId) (w0 : va_W) (sz : Nat) (U : State) : Prop :=
  U.heap.size = sz ∧ va_P (dC, dI) vwCl w0 U.heap ∧ va_K (dC, dI) vwCl (ic_ty ka) U ∧ va_D (fun _ => True) w0 ∧ ic_X (va_A w0 sz) U U.heap
theorem ic_blind {av : List Value} {dC : Nat → ClassId} {dI : Nat → Nat → Nat} {ka : Nat → ClassId} {w0 : va_W} {sz : Nat} : FrameBlind (va_Pc av (ic_Pre dC dI ka w0 sz)) := by
  intro a U g mk q
  obtain ⟨q0, q1, qP, qK, qD, qN, t, qS, qT⟩ := q
  exact ⟨q0, q1, qP, va_K.moved (u := U) (U := U.calling g mk a) (Vm.Alike.refl U.vm) qK, qD, ic_N.same rfl qN, t, va_Z.moved (u := U) (U := U.calling g mk a) (Vm.Alike.refl U.vm) qS, va_T.moved (u := U) (U := U.calling g mk a) (Vm.Alike.refl U.vm) qT⟩
def ic_B (dC : Nat → ClassId) (dI : Nat → Nat → Nat) (ka : Nat → ClassId) (A : Nat → Prop) (u : va_W) (t : State) : Prop := va_P (dC, dI) vwCl u t.heap ∧ va_K (dC, dI) vwCl (ic_ty ka) t ∧ va_D A u
def ic_rm (d mc ms : Nat) : Room := { frames := d, cells := mc, slots := ms, locals := 40 * d }
/-- a constructor's contract: on the cells wc it makes mc cells of ms slots, and leaves cells of which post holds -/
def ic_C (y : MethodName) (cc : ByteArray) (nL d mc ms : Nat) (av : List Value) (wc : (Nat → ClassId) → va_W) (post : (Nat → ClassId) → va_W → Prop) : Prop :=
  ∀ (l : Launch) (dC : Nat → ClassId) (dI : Nat → Nat → Nat) (ka : Nat → ClassId) (sz : Nat), Met l y (Cond.code y cc nL none :: gW) (ic_rm d mc ms) (va_Pc av (ic_Pre dC dI ka (wc ka) sz)) (va_Qv (post ka) (ic_B dC dI ka (va_A (wc ka) sz)) (va_A (wc ka) sz)) mc ms (va_A (wc ka) sz)
def ic_E (own : String) (cc : ByteArray) (nL : Nat) (p : Program) (s : State) (m : MethodId) (args : Array Value) (c : Code) (dC : Nat → ClassId) (dI : Nat → Nat → Nat) (ka : Nat → ClassId) (A : Nat → Prop) : Prop :=
  p.tables.exec = Jvm.exec ∧ c.code = cc ∧ c.maxLocals = nL ∧ s.vm.findClass own = some m.cls ∧ (∀ w ∈ gW, w.before args s = true) ∧ (∀ q, s.heap.size ≤ q → A q) ∧ va_K (dC, dI) vwCl (ic_ty ka) s ∧ ic_X A s s.heap
def ic_G (p : Program) (l : Launch) (e : Env) (R : Room) (s : State) (m : MethodId) (args : Array Value) (below : List Frame) (meth : Method) (c : Code) (dC : Nat → ClassId) (dI : Nat → Nat → Nat) (A : Nat → Prop) (nL : Nat) (Q : State → Prop) (pc : Nat) (lv : List (Nat × Value)) (st : List Value) (ws : va_W) (cs sl : Nat) : Prop :=
  ∀ (H : Heap) (locs : List Loc) (ls : Array Slot), va_P (dC, dI) vwCl ws H → va_D A ws → va_S A s.heap H locs → lv_has ls nL lv → W p l e R s m args below meth c H locs cs sl Q (F0 m pc ls st)
theorem ic_C.of {y : MethodName} {cc : ByteArray} {nL d mc ms : Nat} {av : List Value} {wc : (Nat → ClassId) → va_W} {post : (Nat → ClassId) → va_W → Prop} (hy : plainFor y = true) (hw : (lg_sl av).length ≤ nL)
    (k : ∀ (p : Program) (l : Launch) (e : Env) (s : State) (m : MethodId) (below : List Frame) (meth : Method) (c : Code) (dC : Nat → ClassId) (dI : Nat → Nat → Nat) (ka : Nat → ClassId) (A : Nat → Prop), ic_E y.cls cc nL p s m av.toArray c dC dI ka A → meth.name = y.name → meth.sig.returnType = none → meth.locks = false →
      ic_G p l e (ic_rm d mc ms) s m av.toArray below meth c dC dI A nL (MQ below (va_Qv (post ka) (ic_B dC dI ka A) A) av.toArray s mc ms A) 0 (lv_args 0 av) [] (wc ka) 0 0) : ic_C y cc nL d mc ms av wc post := by
  intro l dC dI ka sz
  refine va_MetF (cc := cc) (maxL := nL) (ret := none) hy rfl ?_
  intro p e s m args below meth c s₁ B hml hv
  obtain ⟨rfl, hsz, hP, hK, hD0, hX⟩ := hv
  have hts := atoms_spec (ws := Cond.code y cc nL none :: gW) B.pre
  have hown : s.vm.findClass y.cls = some m.cls := findClass_of_methodNamed B.named
  subst hsz
  rw [lg_entry_eq]
  have hl := lv_entry av (n := nL) hw
  exact k p l e s m below meth c dC dI ka (va_A (wc ka) s.heap.size) ⟨B.exec, B.bytes, hml, hown, fun w h => hts w (List.mem_cons_of_mem _ h), fun q h => Or.inr h, hK, hX⟩ (name_of_methodNamed B.named B.method).1 B.returns B.notSynchronized s.heap [] _ hP hD0.self va_S.rf hl
theorem ic_lkm {lv : List (Nat × Value)} {i : Nat} {v : Value} (h : lv.lookup i = some v) : (i, v) ∈ lv := by
  induction lv with
  | nil => cases h
  | cons q t ih =>
    obtain ⟨a, b⟩ := q
    rw [List.lookup_cons] at h
    cases hq : (i == a) with
    | true =>
      rw [hq] at h
      cases h
      rw [beq_iff_eq] at hq
      rw [hq]
      exact List.mem_cons_self
    | false =>
      rw [hq] at h
      exact List.mem_cons_of_mem _ (ih h)
theorem ic_lk {ls : Array Slot} {n : Nat} {lv : List (Nat × Value)} {i : Nat} {v : Value} (hl : lv_has ls n lv) (hk : lv.lookup i = some v) : ls[i]? = some (.val v) := hl.2.2 (i, v) (ic_lkm hk)
theorem ic_fm {ws w : va_W} {is : List Nat} (h : is.map (fun i => ws[i]?) = w.map some) : is.filterMap (fun i => ws[i]?) = w := by
  have e : is.filterMap (fun i => ws[i]?) = (is.map (fun i => ws[i]?)).filterMap id := by rw [List.filterMap_map]; rfl
  rw [e, h, List.filterMap_map]
  show List.filterMap some w = w
  exact List.filterMap_some
def ic_NW (own : String) (idx ci : Nat) (fs : List Value) (N : Nat) : Prop := ∃ (q : vw_C) (ty : Nat → FieldType), vwCl[ci]? = some q ∧ (∀ w ∈ u_ws q.1 q.2.1 q.2.2, w ∈ gW) ∧ (∀ k, k < q.2.2 → parseFieldDescriptor (q.2.1 k).2.2.1 = some (ty k)) ∧ Cond.classLink own idx q.1 ∈ gW ∧ Cond.instantiable q.1 q.2.2 ∈ gW ∧ Cond.initialized q.1 ∈ gW ∧ (∀ j, j < q.2.2 → defaultValue (ty j) = vp_V fs j) ∧ q.2.2 = N
def ic_FP (own : String) (idx ci k : Nat) (ty : FieldType) : Prop := ∃ (q : vw_C) (tys : Nat → FieldType), vwCl[ci]? = some q ∧ k < q.2.2 ∧ (∀ w ∈ u_ws q.1 q.2.1 q.2.2, w ∈ gW) ∧ Cond.fieldLink own idx (q.2.1 k).1 (q.2.1 k).2.1 (q.2.1 k).2.2.1 ∈ gW ∧ (∀ k, k < q.2.2 → parseFieldDescriptor (q.2.1 k).2.2.1 = some (tys k)) ∧ (∀ a, a < q.2.2 → ∀ b, b < q.2.2 → a ≠ b → (q.2.1 a).2.1 ≠ (q.2.1 b).2.1) ∧ (q.2.1 k).1 = own ∧ tys k = ty
def ic_MI (own : String) (idx : Nat) (y : MethodName) (ycc : ByteArray) (ynL n : Nat) : Prop := Cond.methodLink own idx y ∈ gW ∧ Cond.instanceMethod y ∈ gW ∧ Cond.initialized y.cls ∈ gW ∧ Cond.code y ycc ynL none ∈ gW ∧ y.name = "<init>" ∧ (y.cls ≠ "java/lang/invoke/MethodHandle" ∧ y.cls ≠ "java/lang/invoke/VarHandle") ∧ (parseMethodDescriptor y.desc).map (fun d => d.parameters.length) = some n
def ic_MN (y : MethodName) (ycc : ByteArray) (ynL n : Nat) : Prop := Cond.instanceMethod y ∈ gW ∧ Cond.initialized y.cls ∈ gW ∧ Cond.code y ycc ynL none ∈ gW ∧ y.name = "<init>" ∧ (y.cls ≠ "java/lang/invoke/MethodHandle" ∧ y.cls ≠ "java/lang/invoke/VarHandle") ∧ (parseMethodDescriptor y.desc).map (fun d => d.parameters.length) = some n
section ic_rules
variable {p : Program} {l : Launch} {e : Env} {R : Room} {s : State} {m : MethodId} {args : Array Value} {below : List Frame} {meth : Method} {c : Code} {dC : Nat → ClassId} {dI : Nat → Nat → Nat} {ka : Nat → ClassId} {A : Nat → Prop} {own : String} {cc : ByteArray} {nL : Nat} {Q : State → Prop} {pc pc' : Nat} {lv lv' : List (Nat × Value)} {st : List Value} {ws ws' : va_W} {cs sl : Nat}
theorem ic_nrm {cs' sl' : Nat} (h1 : ws = ws') (h2 : cs = cs') (h3 : sl = sl') (k : ic_G p l e R s m args below meth c dC dI A nL Q pc lv st ws' cs' sl') : ic_G p l e R s m args below meth c dC dI A nL Q pc lv st ws cs sl := by
  subst h1; subst h2; subst h3; exact k
theorem ic_nlv (h1 : lv = lv') (k : ic_G p l e R s m args below meth c dC dI A nL Q pc lv' st ws cs sl) : ic_G p l e R s m args below meth c dC dI A nL Q pc lv st ws cs sl := by
  subst h1; exact k
theorem ic_aload_n {i : Fin 4} {a : Nat} (E : ic_E own cc nL p s m args c dC dI ka A) (hd : decode cc pc = .ok (.aload_n i, 1)) (hn : pc + 1 = pc') (hk : lv.lookup i.val = some (.ref a)) (k : ic_G p l e R s m args below meth c dC dI A nL Q pc' lv (.ref a :: st) ws cs sl) : ic_G p l e R s m args below meth c dC dI A nL Q pc lv st ws cs sl := by
  subst hn
  intro H locs ls hP hD hS hl
  exact lv_aload_n E.1 E.2.1 hd rfl (ic_lk hl hk) (k H locs ls hP hD hS hl)
theorem ic_aload {i : Nat} {a : Nat} (E : ic_E own cc nL p s m args c dC dI ka A) (hd : decode cc pc = .ok (.aload i, 2)) (hn : pc + 2 = pc') (hk : lv.lookup i = some (.ref a)) (k : ic_G p l e R s m args below meth c dC dI A nL Q pc' lv (.ref a :: st) ws cs sl) : ic_G p l e R s m args below meth c dC dI A nL Q pc lv st ws cs sl := by
  subst hn
  intro H locs ls hP hD hS hl
  exact lv_aload E.1 E.2.1 hd (ic_lk hl hk) (k H locs ls hP hD hS hl)
theorem ic_iload_n {i : Fin 4} {x : Int32} (E : ic_E own cc nL p s m args c dC dI ka A) (hd : decode cc pc = .ok (.iload_n i, 1)) (hn : pc + 1 = pc') (hk : lv.lookup i.val = some (.int x)) (k : ic_G p l e R s m args below meth c dC dI A nL Q pc' lv (.int x :: st) ws cs sl) : ic_G p l e R s m args below meth c dC dI A nL Q pc lv st ws cs sl := by
  subst hn
  intro H locs ls hP hD hS hl
  exact lv_iload_n E.1 E.2.1 hd rfl (ic_lk hl hk) (k H locs ls hP hD hS hl)
theorem ic_iconst {n : Int} (x : Int32) (E : ic_E own cc nL p s m args c dC dI ka A) (hd : decode cc pc = .ok (.iconst n, 1)) (hn : pc + 1 = pc') (hv : Int32.ofInt n = x) (k : ic_G p l e R s m args below meth c dC dI A nL Q pc' lv (.int x :: st) ws cs sl) : ic_G p l e R s m args below meth c dC dI A nL Q pc lv st ws cs sl := by
  subst hn
  intro H locs ls hP hD hS hl
  exact lv_iconst E.1 E.2.1 hd hv (k H locs ls hP hD hS hl)
theorem ic_bipush {n : Int} (x : Int32) (E : ic_E own cc nL p s m args c dC dI ka A) (hd : decode cc pc = .ok (.bipush n, 2)) (hn : pc + 2 = pc') (hv : (Int8.ofInt n).toInt32 = x) (k : ic_G p l e R s m args below meth c dC dI A nL Q pc' lv (.int x :: st) ws cs sl) : ic_G p l e R s m args below meth c dC dI A nL Q pc lv st ws cs sl := by
  subst hn
  intro H locs ls hP hD hS hl
  exact lv_bipush E.1 E.2.1 hd hv (k H locs ls hP hD hS hl)
theorem ic_sipush {n : Int} (x : Int32) (E : ic_E own cc nL p s m args c dC dI ka A) (hd : decode cc pc = .ok (.sipush n, 3)) (hn : pc + 3 = pc') (hv : (Int16.ofInt n).toInt32 = x) (k : ic_G p l e R s m args below meth c dC dI A nL Q pc' lv (.int x :: st) ws cs sl) : ic_G p l e R s m args below meth c dC dI A nL Q pc lv st ws cs sl := by
  subst hn
  intro H locs ls hP hD hS hl
  exact lv_sipush E.1 E.2.1 hd hv (k H locs ls hP hD hS hl)
theorem ic_lconst {n : Fin 2} (x : Int64) (E : ic_E own cc nL p s m args c dC dI ka A) (hd : decode cc pc = .ok (.lconst n, 1)) (hn : pc + 1 = pc') (hv : Int64.ofNat (n : Nat) = x) (k : ic_G p l e R s m args below meth c dC dI A nL Q pc' lv (.long x :: st) ws cs sl) : ic_G p l e R s m args below meth c dC dI A nL Q pc lv st ws cs sl := by
  subst hn
  intro H locs ls hP hD hS hl
  exact lv_lconst E.1 E.2.1 hd hv (k H locs ls hP hD hS hl)
theorem ic_dup {a : Nat} (E : ic_E own cc nL p s m args c dC dI ka A) (hd : decode cc pc = .ok (.dup, 1)) (hn : pc + 1 = pc') (k : ic_G p l e R s m args below meth c dC dI A nL Q pc' lv (.ref a :: .ref a :: st) ws cs sl) : ic_G p l e R s m args below meth c dC dI A nL Q pc lv (.ref a :: st) ws cs sl := by
  subst hn
  intro H locs ls hP hD hS hl
  exact lv_dup E.1 E.2.1 hd rfl (k H locs ls hP hD hS hl)
theorem ic_istore_n {i : Fin 4} {x : Int32} (E : ic_E own cc nL p s m args c dC dI ka A) (hd : decode cc pc = .ok (.istore_n i, 1)) (hn : pc + 1 = pc') (h1 : i.val < nL) (h2 : (i.val, Value.int x) :: lv.filter (fun q => !(q.1 == i.val) && !(q.1 + 1 == i.val && q.2.category == 2)) = lv') (k : ic_G p l e R s m args below meth c dC dI A nL Q pc' lv' st ws cs sl) : ic_G p l e R s m args below meth c dC dI A nL Q pc lv (.int x :: st) ws cs sl := by
  subst hn
  intro H locs ls hP hD hS hl
  exact lv_istore_n E.1 E.2.1 hd rfl hl h1 h2 (fun ls' hl' => k H locs ls' hP hD hS hl')
theorem ic_astore_n {i : Fin 4} {x : Nat} (E : ic_E own cc nL p s m args c dC dI ka A) (hd : decode cc pc = .ok (.astore_n i, 1)) (hn : pc + 1 = pc') (h1 : i.val < nL) (h2 : (i.val, Value.ref x) :: lv.filter (fun q => !(q.1 == i.val) && !(q.1 + 1 == i.val && q.2.category == 2)) = lv') (k : ic_G p l e R s m args below meth c dC dI A nL Q pc' lv' st ws cs sl) : ic_G p l e R s m args below meth c dC dI A nL Q pc lv (.ref x :: st) ws cs sl := by
  subst hn
  intro H locs ls hP hD hS hl
  exact lv_astore_n E.1 E.2.1 hd rfl hl h1 h2 (fun ls' hl' => k H locs ls' hP hD hS hl')
theorem ic_iinc {i j : Nat} {n : Int} {x : Int32} (v : Int32) (E : ic_E own cc nL p s m args c dC dI ka A) (hd : decode cc pc = .ok (.iinc i n, 3)) (hn : pc + 3 = pc') (hk : lv[j]? = some (i, .int x)) (hv : x + Int32.ofInt n = v) (h1 : i < nL) (h2 : (i, Value.int v) :: lv.filter (fun q => !(q.1 == i) && !(q.1 + 1 == i && q.2.category == 2)) = lv') (k : ic_G p l e R s m args below meth c dC dI A nL Q pc' lv' st ws cs sl) : ic_G p l e R s m args below meth c dC dI A nL Q pc lv st ws cs sl := by
  subst hn
  intro H locs ls hP hD hS hl
  exact lv_iinc E.1 E.2.1 hd hl hk hv h1 h2 (fun ls' hl' => k H locs ls' hP hD hS hl')
theorem ic_goto {off : Int} (E : ic_E own cc nL p s m args c dC dI ka A) (hd : decode cc pc = .ok (.goto off, 3)) (ht : (pc : Int) + off = (pc' : Int)) (k : ic_G p l e R s m args below meth c dC dI A nL Q pc' lv st ws cs sl) : ic_G p l e R s m args below meth c dC dI A nL Q pc lv st ws cs sl := by
  intro H locs ls hP hD hS hl
  exact lv_goto E.1 E.2.1 hd ht (k H locs ls hP hD hS hl)
theorem ic_ge_t {x y : Int32} {off : Int} (E : ic_E own cc nL p s m args c dC dI ka A) (hd : decode cc pc = .ok (.if_icmp .ge off, 3)) (ht : (pc : Int) + off = (pc' : Int)) (h : y ≤ x) (k : ic_G p l e R s m args below meth c dC dI A nL Q pc' lv st ws cs sl) : ic_G p l e R s m args below meth c dC dI A nL Q pc lv (.int y :: .int x :: st) ws cs sl := by
  intro H locs ls hP hD hS hl
  exact lv_icmp_ge E.1 E.2.1 hd ht (fun _ => k H locs ls hP hD hS hl) (fun q => absurd h q)
theorem ic_ge_f {x y : Int32} {off : Int} {tgt : Nat} (E : ic_E own cc nL p s m args c dC dI ka A) (hd : decode cc pc = .ok (.if_icmp .ge off, 3)) (ht : (pc : Int) + off = (tgt : Int)) (hn : pc + 3 = pc') (h : ¬ y ≤ x) (k : ic_G p l e R s m args below meth c dC dI A nL Q pc' lv st ws cs sl) : ic_G p l e R s m args below meth c dC dI A nL Q pc lv (.int y :: .int x :: st) ws cs sl := by
  subst hn
  intro H locs ls hP hD hS hl
  exact lv_icmp_ge E.1 E.2.1 hd ht (fun q => absurd q h) (fun _ => k H locs ls hP hD hS hl)
theorem ic_new {idx ci N : Nat} {fs : List Value} (E : ic_E own cc nL p s m args c dC dI ka A) (hd : decode cc pc = .ok (.new idx, 3)) (hn : pc + 3 = pc') (hN : ic_NW own idx ci fs N) (h1 : cs + 1 ≤ R.cells) (h2 : sl + N ≤ R.slots) (k : ∀ q, ic_G p l e R s m args below meth c dC dI A nL Q pc' lv (.ref q :: st) (ws ++ [(q, .inr (ci, fs))]) (cs + 1) (sl + N)) : ic_G p l e R s m args below meth c dC dI A nL Q pc lv st ws cs sl := by
  subst hn
  intro H locs ls hP hD hS hl
  obtain ⟨q, ty, a1, a2, a3, a4, a5, a6, a7, a8⟩ := hN
  obtain ⟨hx, hb, hml, hown, hts, hA, hK, hX⟩ := id E
  subst a8
  refine va_new (ci := ci) (fs := fs) (Ts := gW) hx hb hts a2 ty a3 hown (hts _ a4) (hts _ a5) (hts _ a6) hK hP hD hS hA a1 a7 h1 h2 hd (fun q H1 hP1 hD1 hS1 => ?_)
  exact k q H1 locs ls hP1 hD1 hS1 hl
theorem ic_ka {t0 : Nat} {t : FieldType} {cA : ClassId} {j : Nat} (hK : va_K (dC, dI) vwCl (ic_ty ka) s) (hK1 : va_K (dC, dI) vwCl (ic_ty ka ++ [(cA, t)]) s) (h0 : (ic_ty ka)[t0]? = some (ka j, t)) : cA = ka j := by
  have g1 := (hK.2 t0 _ h0).2
  have g2 := (hK1.2 5 (cA, t) rfl).2
  cases t with
  | object C =>
    obtain ⟨_, _, _, _, _, e1⟩ := g1
    obtain ⟨_, _, _, _, _, e2⟩ := g2
    exact Option.some.inj (e2.symm.trans e1)
  | _ => exact Option.some.inj (g2.symm.trans g1)
theorem ic_newI {n : Int32} {N : Nat} (E : ic_E own cc nL p s m args c dC dI ka A) (hd : decode cc pc = .ok (.newarray .int, 2)) (hn : pc + 2 = pc') (harr : Cond.arrayClass .int ∈ gW) (h0 : ¬ n < 0) (hN : n.toNatClampNeg = N) (hb1 : N * 4 ≤ 536870912) (h1 : cs + 1 ≤ R.cells) (h2 : sl + N ≤ R.slots) (k : ∀ q, ic_G p l e R s m args below meth c dC dI A nL Q pc' lv (.ref q :: st) (ws ++ [(q, .inl (ka 1, N, .inl (fun _ => 0)))]) (cs + 1) (sl + N)) : ic_G p l e R s m args below meth c dC dI A nL Q pc lv (.int n :: st) ws cs sl := by
  subst hn
  intro H locs ls hP hD hS hl
  obtain ⟨hx, hb, hml, hown, hts, hA, hK, hX⟩ := id E
  refine va_newa (atype := .int) (ty := .int) (a0 := (N, .inl (fun _ => 0))) hx hb (hts _ harr) rfl hK hP hD hS hA (fun cA => rfl) h0 hN hb1 h1 h2 hd (fun q cA H1 hK1 hP1 hD1 hS1 => ?_)
  have e := ic_ka (t0 := 0) (j := 1) hK hK1 rfl
  subst e
  exact k q H1 locs ls hP1 hD1 hS1 hl
theorem ic_newZ {n : Int32} {N : Nat} (E : ic_E own cc nL p s m args c dC dI ka A) (hd : decode cc pc = .ok (.newarray .boolean, 2)) (hn : pc + 2 = pc') (harr : Cond.arrayClass .boolean ∈ gW) (h0 : ¬ n < 0) (hN : n.toNatClampNeg = N) (hb1 : N * 1 ≤ 536870912) (h1 : cs + 1 ≤ R.cells) (h2 : sl + N ≤ R.slots) (k : ∀ q, ic_G p l e R s m args below meth c dC dI A nL Q pc' lv (.ref q :: st) (ws ++ [(q, .inl (ka 3, N, .inl (fun _ => 0)))]) (cs + 1) (sl + N)) : ic_G p l e R s m args below meth c dC dI A nL Q pc lv (.int n :: st) ws cs sl := by
  subst hn
  intro H locs ls hP hD hS hl
  obtain ⟨hx, hb, hml, hown, hts, hA, hK, hX⟩ := id E
  refine va_newa (atype := .boolean) (ty := .boolean) (a0 := (N, .inl (fun _ => 0))) hx hb (hts _ harr) rfl hK hP hD hS hA (fun cA => rfl) h0 hN hb1 h1 h2 hd (fun q cA H1 hK1 hP1 hD1 hS1 => ?_)
  have e := ic_ka (t0 := 2) (j := 3) hK hK1 rfl
  subst e
  exact k q H1 locs ls hP1 hD1 hS1 hl
theorem ic_newJ {n : Int32} {N : Nat} (E : ic_E own cc nL p s m args c dC dI ka A) (hd : decode cc pc = .ok (.newarray .long, 2)) (hn : pc + 2 = pc') (harr : Cond.arrayClass .long ∈ gW) (h0 : ¬ n < 0) (hN : n.toNatClampNeg = N) (hb1 : N * 8 ≤ 536870912) (h1 : cs + 1 ≤ R.cells) (h2 : sl + N ≤ R.slots) (k : ∀ q, ic_G p l e R s m args below meth c dC dI A nL Q pc' lv (.ref q :: st) (ws ++ [(q, .inl (ka 2, N, .inr (.inl (fun _ => 0))))]) (cs + 1) (sl + N)) : ic_G p l e R s m args below meth c dC dI A nL Q pc lv (.int n :: st) ws cs sl := by
  subst hn
  intro H locs ls hP hD hS hl
  obtain ⟨hx, hb, hml, hown, hts, hA, hK, hX⟩ := id E
  refine va_newa (atype := .long) (ty := .long) (a0 := (N, .inr (.inl (fun _ => 0)))) hx hb (hts _ harr) rfl hK hP hD hS hA (fun cA => rfl) h0 hN hb1 h1 h2 hd (fun q cA H1 hK1 hP1 hD1 hS1 => ?_)
  have e := ic_ka (t0 := 1) (j := 2) hK hK1 rfl
  subst e
  exact k q H1 locs ls hP1 hD1 hS1 hl
theorem ic_newq {n : Int32} {N idx j t0 : Nat} {C : String} (E : ic_E own cc nL p s m args c dC dI ka A) (hd : decode cc pc = .ok (.anewarray idx, 3)) (hn : pc + 3 = pc') (hlk : Cond.classLink own idx C ∈ gW) (hAO : va_AO C s) (ht : (ic_ty ka)[t0]? = some (ka j, .object C)) (h0 : ¬ n < 0) (hN : n.toNatClampNeg = N) (hb1 : N * 4 ≤ 536870912) (h1 : cs + 1 ≤ R.cells) (h2 : sl + N ≤ R.slots) (k : ∀ q, ic_G p l e R s m args below meth c dC dI A nL Q pc' lv (.ref q :: st) (ws ++ [(q, .inl (ka j, N, .inr (.inr (.inr (.inr (fun _ => none))))))]) (cs + 1) (sl + N)) : ic_G p l e R s m args below meth c dC dI A nL Q pc lv (.int n :: st) ws cs sl := by
  subst hn
  intro H locs ls hP hD hS hl
  obtain ⟨hx, hb, hml, hown, hts, hA, hK, hX⟩ := id E
  refine va_newq hx hb hown (hts _ hlk) hAO hK hP hD hS hA h0 hN hb1 h1 h2 hd (fun q cA H1 hK1 hP1 hD1 hS1 => ?_)
  have e := ic_ka (t0 := t0) (j := j) hK hK1 ht
  subst e
  exact k q H1 locs ls hP1 hD1 hS1 hl
theorem ic_put {idx ci kf a : Nat} {fs : List Value} {v : Value} {ty : FieldType} (q0 : Nat) (E : ic_E own cc nL p s m args c dC dI ka A) (hnm : meth.name = "<init>") (hd : decode cc pc = .ok (.putfield idx, 3)) (hn : pc + 3 = pc') (hF : ic_FP own idx ci kf ty) (he : ws[q0]? = some (a, .inr (ci, fs))) (hv : narrow ty v = v) (hf : fits ty v = true) (hlen : kf < fs.length) (hw : ws.set q0 (a, .inr (ci, fs.set kf v)) = ws') (k : ic_G p l e R s m args below meth c dC dI A nL Q pc' lv st ws' cs sl) : ic_G p l e R s m args below meth c dC dI A nL Q pc lv (v :: .ref a :: st) ws cs sl := by
  subst hn
  intro H locs ls hP hD hS hl
  obtain ⟨q, tys, a1, a2, a3, a4, a5, a6, a7, a8⟩ := hF
  obtain ⟨hx, hb, hml, hown, hts, hA, hK, hX⟩ := id E
  cases hfin : (q.2.1 kf).2.2.2 with
  | true =>
    refine va_putF (ci := ci) (Ts := gW) hx hb hts a3 tys a5 a6 hown hK hP hD hS q0 he a1 kf a2 (hts _ a4) (fun _ h9 => h9) hfin hnm a7 (by rw [a5 _ a2, a8]) hv hf hlen hd (fun H1 locs1 hP1 hD1 hS1 => ?_)
    rw [hw] at hP1 hD1
    exact k H1 locs1 ls hP1 hD1 hS1 hl
  | false =>
    refine va_put (ci := ci) (Ts := gW) hx hb hts a3 tys a5 a6 hown hK hP hD hS q0 he a1 kf a2 (hts _ a4) (fun _ h9 => h9) hfin (by rw [a5 _ a2, a8]) hv hf hlen hd (fun H1 locs1 hP1 hD1 hS1 => ?_)
    rw [hw] at hP1 hD1
    exact k H1 locs1 ls hP1 hD1 hS1 hl
theorem ic_get {idx ci kf a : Nat} {fs : List Value} {v : Value} {ty : FieldType} (q0 : Nat) (E : ic_E own cc nL p s m args c dC dI ka A) (hd : decode cc pc = .ok (.getfield idx, 3)) (hn : pc + 3 = pc') (hF : ic_FP own idx ci kf ty) (he : ws[q0]? = some (a, .inr (ci, fs))) (hv : fs[kf]? = some v) (k : ic_G p l e R s m args below meth c dC dI A nL Q pc' lv (v :: st) ws cs sl) : ic_G p l e R s m args below meth c dC dI A nL Q pc lv (.ref a :: st) ws cs sl := by
  subst hn
  intro H locs ls hP hD hS hl
  obtain ⟨q, tys, a1, a2, a3, a4, a5, a6, a7, a8⟩ := hF
  obtain ⟨hx, hb, hml, hown, hts, hA, hK, hX⟩ := id E
  exact va_get (ci := ci) (Ts := gW) hx hb hts a3 hown hK hP q0 he a1 kf a2 (hts _ a4) (fun _ h9 => h9) hv hd (k H locs ls hP hD hS hl)
theorem ic_iast {a n : Nat} {f : Nat → Int32} {i x : Int32} (q0 : Nat) (E : ic_E own cc nL p s m args c dC dI ka A) (hd : decode cc pc = .ok (.iastore, 1)) (hn : pc + 1 = pc') (he : ws[q0]? = some (a, .inl (ka 1, n, .inl f))) (hi : vp_in i n) (hw : ws.set q0 (a, .inl (ka 1, n, .inl (upd f i.toNatClampNeg x))) = ws') (k : ic_G p l e R s m args below meth c dC dI A nL Q pc' lv st ws' cs sl) : ic_G p l e R s m args below meth c dC dI A nL Q pc lv (.int x :: .int i :: .ref a :: st) ws cs sl := by
  subst hn
  intro H locs ls hP hD hS hl
  obtain ⟨hx, hb, hml, hown, hts, hA, hK, hX⟩ := id E
  refine va_iast hx hb hK hP hD hS q0 0 he rfl hi hd (fun H1 locs1 hP1 hD1 hS1 => ?_)
  rw [hw] at hP1 hD1
  exact k H1 locs1 ls hP1 hD1 hS1 hl
theorem ic_alen {a n : Nat} {f : Nat → Int32} (x : Int32) (q0 : Nat) (E : ic_E own cc nL p s m args c dC dI ka A) (hd : decode cc pc = .ok (.arraylength, 1)) (hn : pc + 1 = pc') (he : ws[q0]? = some (a, .inl (ka 1, n, .inl f))) (hx0 : Int32.ofNat n = x) (k : ic_G p l e R s m args below meth c dC dI A nL Q pc' lv (.int x :: st) ws cs sl) : ic_G p l e R s m args below meth c dC dI A nL Q pc lv (.ref a :: st) ws cs sl := by
  subst hn
  intro H locs ls hP hD hS hl
  obtain ⟨hx, hb, hml, hown, hts, hA, hK, hX⟩ := id E
  exact va_alen (x := (n, .inl f)) hx hb hK hP q0 0 he rfl hx0 hd (k H locs ls hP hD hS hl)
theorem ic_aast {a n qc v i0 j : Nat} {r : vw_C} {vs : List Value} {f : Nat → Option Nat} {i : Int32} (q0 qk t0 : Nat) (E : ic_E own cc nL p s m args c dC dI ka A) (hd : decode cc pc = .ok (.aastore, 1)) (hn : pc + 1 = pc') (he : ws[q0]? = some (a, .inl (ka j, n, .inr (.inr (.inr (.inr f)))))) (ht : (ic_ty ka)[t0]? = some (ka j, .object r.1)) (hv : ws[qk]? = some (v, .inr (qc, vs))) (hc : vwCl[qc]? = some r) (hi : vp_in i n) (hi0 : i.toNatClampNeg = i0) (hw : ws.set q0 (a, .inl (ka j, n, .inr (.inr (.inr (.inr (va_up f i0 (some v))))))) = ws') (k : ic_G p l e R s m args below meth c dC dI A nL Q pc' lv st ws' cs sl) : ic_G p l e R s m args below meth c dC dI A nL Q pc lv (.ref v :: .int i :: .ref a :: st) ws cs sl := by
  subst hn
  subst hi0
  intro H locs ls hP hD hS hl
  obtain ⟨hx, hb, hml, hown, hts, hA, hK, hX⟩ := id E
  refine va_astq hx hb hK hP hD hS q0 t0 qk qc he ht hv hc hi hd (fun H1 locs1 hP1 hD1 hS1 => ?_)
  rw [hw] at hP1 hD1
  exact k H1 locs1 ls hP1 hD1 hS1 hl
theorem ic_obj {idx a : Nat} (E : ic_E own cc nL p s m args c dC dI ka A) (hd : decode cc pc = .ok (.invokespecial idx, 3)) (hn : pc + 3 = pc') (w1 : Cond.methodLink own idx objectInit ∈ gW) (w2 : Cond.instanceMethod objectInit ∈ gW) (w3 : Cond.code objectInit ⟨#[0xb1]⟩ 1 none ∈ gW) (h1 : 1 ≤ R.frames) (h2 : 12 ≤ R.locals) (k : ic_G p l e R s m args below meth c dC dI A nL Q pc' lv [] ws cs sl) : ic_G p l e R s m args below meth c dC dI A nL Q pc lv [.ref a] ws cs sl := by
  subst hn
  intro H locs ls hP hD hS hl
  obtain ⟨hx, hb, hml, hown, hts, hA, hK, hX⟩ := id E
  refine W.objInit hx hb hown (hts _ w1) (hts _ w2) (hts _ w3) rfl (by rw [hml]; exact hl.1) rfl hd h1 h2 ?_
  refine W.eq (g2 := F0 m (pc + 3) ls []) rfl ?_
  exact k H locs ls hP hD hS hl
theorem ic_call {idx n yd ynL mc ms a : Nat} {y : MethodName} {ycc : ByteArray} {av : List Value} {wc : (Nat → ClassId) → va_W} {wr : va_W} {post : (Nat → ClassId) → va_W → Prop} (isC isR : List Nat) (E : ic_E own cc nL p s m args c dC dI ka A) (hd : decode cc pc = .ok (.invokespecial idx, 3)) (hn : pc + 3 = pc') (hM : ic_MI own idx y ycc ynL n) (hC : ic_C y ycc ynL yd mc ms (.ref a :: av) wc post) (hav : av.length = n) (hR : yd + 1 ≤ R.frames ∧ 8 + (ynL + 11) + 40 * yd ≤ R.locals) (hw : (st.map fun v => v.category).sum ≤ 8) (hc : cs + mc ≤ R.cells ∧ sl + ms ≤ R.slots) (h1 : isC.map (fun i => ws[i]?) = (wc ka).map some) (h2 : isR.map (fun i => ws[i]?) = wr.map some) (h3 : va_nd isR = true) (h4 : ∀ i ∈ isR, i ∉ isC) (h5 : va_nd isC = true) (k : ∀ w1, post ka w1 → ic_G p l e R s m args below meth c dC dI A nL Q pc' lv st (wr ++ w1) (cs + mc) (sl + ms)) : ic_G p l e R s m args below meth c dC dI A nL Q pc lv (av.reverse ++ .ref a :: st) ws cs sl := by
  subst hn
  intro H locs ls hP hD hS hl
  obtain ⟨hx, hb, hml, hown, hts, hA, hK, hX⟩ := id E
  obtain ⟨hm1, hm2, hm3, hm4, hm5, hm6, hm7⟩ := hM
  have hG : GoodIn gW (Cond.code y ycc ynL none :: gW) := gW_in (fun w hw => (List.mem_cons.mp hw).elim (fun h => h ▸ hm4) id)
  have hPc := hP.sub isC (ic_fm h1)
  have hDc := hD.sub isC h5 h1
  have hFc := va_free (wc := wc ka) hD hS hA isC h1
  refine va_callv (va_runI (As := av) (rest := st) ⟨hx, hb, hml, hown, hts⟩ (hC l dC dI ka H.size) (cwI n hts hG rfl rfl rfl (hts _ hm3) (hts _ hm1) (hts _ hm2) hm5 ⟨hm6.1, hm6.2, hm7⟩ hR) ⟨ic_blind, fun U hU hW => ⟨rfl, by rw [hU], by rw [hU]; exact hPc, va_K.moved hW.alike hK, hDc.weaken (fun _ _ _ _ => trivial), by rw [hU]; exact hX.to hS hW hFc⟩⟩ rfl hav hl.1 rfl (lv_room hw) hd hc) hS (fun q _ h => hFc q h) hFc (fun u t H1 locs1 ht hvm hu hB hz1 hk1 hS1 => ?_)
  obtain ⟨hP1, hK1, hD1⟩ := hB
  rw [ht] at hP1
  obtain ⟨hP2, hD2⟩ := va_join hP hD isC isR h1 h2 h3 h4 hk1 hFc hP1 hD1
  exact k u hu H1 locs1 ls hP2 hD2 hS1 hl
theorem ic_callN {idx n yd ynL mc ms a : Nat} {y : MethodName} {host : String} {ycc : ByteArray} {av : List Value} {wc : (Nat → ClassId) → va_W} {wr : va_W} {post : (Nat → ClassId) → va_W → Prop} (isC isR : List Nat) (E : ic_E own cc nL p s m args c dC dI ka A) (hd : decode cc pc = .ok (.invokespecial idx, 3)) (hn : pc + 3 = pc') (hL : va_Nw (.methodLinkNest own idx y host) s) (hM : ic_MN y ycc ynL n) (hC : ic_C y ycc ynL yd mc ms (.ref a :: av) wc post) (hav : av.length = n) (hR : yd + 1 ≤ R.frames ∧ 8 + (ynL + 11) + 40 * yd ≤ R.locals) (hw : (st.map fun v => v.category).sum ≤ 8) (hc : cs + mc ≤ R.cells ∧ sl + ms ≤ R.slots) (h1 : isC.map (fun i => ws[i]?) = (wc ka).map some) (h2 : isR.map (fun i => ws[i]?) = wr.map some) (h3 : va_nd isR = true) (h4 : ∀ i ∈ isR, i ∉ isC) (h5 : va_nd isC = true) (k : ∀ w1, post ka w1 → ic_G p l e R s m args below meth c dC dI A nL Q pc' lv st (wr ++ w1) (cs + mc) (sl + ms)) : ic_G p l e R s m args below meth c dC dI A nL Q pc lv (av.reverse ++ .ref a :: st) ws cs sl := by
  subst hn
  intro H locs ls hP hD hS hl
  obtain ⟨hx, hb, hml, hown, hts, hA, hK, hX⟩ := id E
  obtain ⟨hm2, hm3, hm4, hm5, hm6, hm7⟩ := hM
  have hG : GoodIn gW (Cond.code y ycc ynL none :: gW) := gW_in (fun w hw => (List.mem_cons.mp hw).elim (fun h => h ▸ hm4) id)
  have hPc := hP.sub isC (ic_fm h1)
  have hDc := hD.sub isC h5 h1
  have hFc := va_free (wc := wc ka) hD hS hA isC h1
  refine va_callv (va_runIN (As := av) (rest := st) ⟨hx, hb, hml, hown, hts⟩ (hC l dC dI ka H.size) ⟨va_cnB n hts hG rfl rfl rfl hL (hts _ hm3) ⟨hm6.1, hm6.2, hm7⟩ hR, hm5, hts _ hm2⟩ ⟨ic_blind, fun U hU hW => ⟨rfl, by rw [hU], by rw [hU]; exact hPc, va_K.moved hW.alike hK, hDc.weaken (fun _ _ _ _ => trivial), by rw [hU]; exact hX.to hS hW hFc⟩⟩ rfl hav hl.1 rfl (lv_room hw) hd hc) hS (fun q _ h => hFc q h) hFc (fun u t H1 locs1 ht hvm hu hB hz1 hk1 hS1 => ?_)
  obtain ⟨hP1, hK1, hD1⟩ := hB
  rw [ht] at hP1
  obtain ⟨hP2, hD2⟩ := va_join hP hD isC isR h1 h2 h3 h4 hk1 hFc hP1 hD1
  exact k u hu H1 locs1 ls hP2 hD2 hS1 hl
theorem ic_callS {idx n yd ynL mc ms : Nat} {y : MethodName} {ycc : ByteArray} {av : List Value} {wc : (Nat → ClassId) → va_W} {wr : va_W} {post : (Nat → ClassId) → va_W → Prop} (isC isR : List Nat) (E : ic_E own cc nL p s m args c dC dI ka A) (hd : decode cc pc = .ok (.invokestatic idx, 3)) (hn : pc + 3 = pc') (hM : sr_MS own idx y ycc ynL none n) (hC : ic_C y ycc ynL yd mc ms av wc post) (hav : av.length = n) (hR : yd + 1 ≤ R.frames ∧ 8 + (ynL + 11) + 40 * yd ≤ R.locals) (hw : (st.map fun v => v.category).sum ≤ 8) (hc : cs + mc ≤ R.cells ∧ sl + ms ≤ R.slots) (h1 : isC.map (fun i => ws[i]?) = (wc ka).map some) (h2 : isR.map (fun i => ws[i]?) = wr.map some) (h3 : va_nd isR = true) (h4 : ∀ i ∈ isR, i ∉ isC) (h5 : va_nd isC = true) (k : ∀ w1, post ka w1 → ic_G p l e R s m args below meth c dC dI A nL Q pc' lv st (wr ++ w1) (cs + mc) (sl + ms)) : ic_G p l e R s m args below meth c dC dI A nL Q pc lv (av.reverse ++ st) ws cs sl := by
  subst hn
  intro H locs ls hP hD hS hl
  obtain ⟨hx, hb, hml, hown, hts, hA, hK, hX⟩ := id E
  obtain ⟨hm1, hm2, hm4, hm5, hm6, hm7, hm8⟩ := hM
  have hG : GoodIn gW (va_wsS own idx y (Cond.code y ycc ynL (none) :: gW)) := gW_in (fun w hw => by
    rcases List.mem_append.mp hw with h | h
    · rcases List.mem_cons.mp h with rfl | h
      · exact hm1
      · rcases List.mem_cons.mp h with rfl | h
        · exact hm2
        · rcases List.mem_cons.mp h with rfl | h
          · exact hm4
          · cases h
    · rcases List.mem_cons.mp h with rfl | h
      · exact hm5
      · exact h)
  have hPc := hP.sub isC (ic_fm h1)
  have hDc := hD.sub isC h5 h1
  have hFc := va_free (wc := wc ka) hD hS hA isC h1
  refine va_callv (va_runS (As := av) (rest := st) ⟨hx, hb, hml, hown, hts⟩ (hC l dC dI ka H.size) (va_cwS n hts hG rfl rfl rfl ⟨hm6.1, hm6.2, hm7⟩ hR) ⟨ic_blind, fun U hU hW => ⟨rfl, by rw [hU], by rw [hU]; exact hPc, va_K.moved hW.alike hK, hDc.weaken (fun _ _ _ _ => trivial), by rw [hU]; exact hX.to hS hW hFc⟩⟩ rfl hav hl.1 rfl (lv_room hw) hd hc) hS (fun q _ h => hFc q h) hFc (fun u t H1 locs1 ht hvm hu hB hz1 hk1 hS1 => ?_)
  obtain ⟨hP1, hK1, hD1⟩ := hB
  rw [ht] at hP1
  obtain ⟨hP2, hD2⟩ := va_join hP hD isC isR h1 h2 h3 h4 hk1 hFc hP1 hD1
  exact k u hu H1 locs1 ls hP2 hD2 hS1 hl
theorem ic_ret {post : va_W → Prop} {mc ms : Nat} (E : ic_E own cc nL p s m args c dC dI ka A) (hr : meth.sig.returnType = none) (hlk : meth.locks = false) (hd : decode cc pc = .ok (.return_, 1)) (h1 : cs ≤ mc) (h2 : sl ≤ ms) (hp : post ws) : ic_G p l e R s m args below meth c dC dI A nL (MQ below (va_Qv post (ic_B dC dI ka A) A) args s mc ms A) pc lv [] ws cs sl := by
  intro H locs ls hP hD hS hl
  obtain ⟨hx, hb, hml, hown, hts, hA, hK, hX⟩ := id E
  refine W.widen (k := mc) (n := ms) h1 h2 ?_
  exact W.vret hx hb hr (fun t ht hW => ⟨⟨ws, rfl, hp, by rw [ht]; exact hP, va_K.moved hW.alike hK, hD⟩, hS.F ht⟩) hS.2.2 hd (hlocks := hlk)
/-- a place of TEXT_ROOMS -/
theorem ic_room {idx : Nat} {i : Fin 4} {x : Int32} (v : Int32) (E : ic_E own cc nL p s m args c dC dI ka A) (hd : decode cc pc = .ok (.getstatic idx, 3)) (hd2 : decode cc (pc + 3) = .ok (.iload_n i, 1)) (hd3 : decode cc (pc + 3 + 1) = .ok (.iaload, 1)) (hn : pc + 3 + 1 + 1 = pc') (hw : Cond.fieldLink own idx "SmokeRings" "TEXT_ROOMS" "[I" ∈ gW) (hk : lv.lookup i.val = some (.int x)) (hi : vp_in x 3) (hv : Int32.ofInt (ic_tr x.toNatClampNeg) = v) (k : ic_G p l e R s m args below meth c dC dI A nL Q pc' lv (.int v :: st) ws cs sl) : ic_G p l e R s m args below meth c dC dI A nL Q pc lv st ws cs sl := by
  subst hn
  subst hv
  intro H locs ls hP hD hS hl
  obtain ⟨hx, hb, hml, hown, hts, hA, hK, hX⟩ := id E
  obtain ⟨h0, t, hZ, hT⟩ := hX
  refine va_gets hx hb hZ hS hown (hts _ hw) (fun _ h => h) hd ?_
  refine lv_iload_n hx hb hd2 rfl (ic_lk hl hk) ?_
  exact va_ti hx hb hT hS hi rfl hd3 (k H locs ls hP hD hS hl)
theorem ic_max {idx : Nat} {x y : Int32} (v : Int32) (E : ic_E own cc nL p s m args c dC dI ka A) (hd : decode cc pc = .ok (.invokestatic idx, 3)) (hn : pc + 3 = pc') (w1 : Cond.methodLink own idx Lib.Math.max.name ∈ gW) (w2 : Cond.static Lib.Math.max.name ∈ gW) (w3 : Cond.initialized "java/lang/Math" ∈ gW) (w4 : Cond.code Lib.Math.max.name Lib.Math.max.code 2 (some .int) ∈ gW) (h1 : 1 ≤ R.frames) (h2 : (st.map fun v => v.category).sum + 13 ≤ R.locals) (h3 : cs ≤ R.cells) (h4 : sl ≤ R.slots) (hv : (if x < y then y else x) = v) (k : ic_G p l e R s m args below meth c dC dI A nL Q pc' lv (.int v :: st) ws cs sl) : ic_G p l e R s m args below meth c dC dI A nL Q pc lv (.int y :: .int x :: st) ws cs sl := by
  subst hn
  subst hv
  intro H locs ls hP hD hS hl
  obtain ⟨hx, hb, hml, hown, hts, hA, hK, hX⟩ := id E
  exact va_mmax hx hb (hml.trans hl.1.symm) hown (hts _ w1) (hts _ w2) (hts _ w3) (hts _ w4) h1 h2 h3 h4 hd (k H locs ls hP hD hS hl)
end ic_rules
