
/-! ===== the walk over the store: G, and a method's contract C ===== -/
theorem gW_in {ws : List Cond} (h : ∀ w ∈ ws, w ∈ gW) : GoodIn gW ws := fun w hw => ⟨h w hw, good_of_word (List.mem_filter.mp (h w hw)).2⟩
def sr_ds (j : Nat) : Int := ([0, 4, 9, 19] : List Int).getD j 0
def sr_nest : Cond := .fieldLinkNest "SmokeRings" 318 "SmokeRings$Sheet" "form" "I" "SmokeRings"
def sr_St (A : Nat → Prop) (U : State) (H : Heap) : Prop := va_Nw sr_nest U ∧ ∃ t, va_Z "SmokeRings" "DIGEST_STEPS" "[I" (.ref t) A U H ∧ va_T .int t 4 (fun j => .int (Int32.ofInt (sr_ds j))) A U H
def sr_rm (d : Nat) : Room := { frames := d, cells := 0, slots := 0, locals := 40 * d }
def sr_E (own : String) (cc : ByteArray) (nL : Nat) (ret : Option FieldType) (p : Program) (s : State) (m : MethodId) (args : Array Value) (meth : Method) (c : Code) (dC : Nat → ClassId) (dI : Nat → Nat → Nat) (ad : Nat → Nat) (ca : Nat → ClassId) (A : Nat → Prop) : Prop :=
  p.tables.exec = Jvm.exec ∧ c.code = cc ∧ c.maxLocals = nL ∧ meth.sig.returnType = ret ∧ meth.locks = false ∧ s.vm.findClass own = some m.cls ∧ (∀ w ∈ gW, w.before args s = true) ∧ (∀ q, s.heap.size ≤ q → A q) ∧ va_K (dC, dI) vwCl (tyW ca) s ∧ sr_D A ad ∧ sr_St A s s.heap
def sr_B (dC : Nat → ClassId) (dI : Nat → Nat → Nat) (ad : Nat → Nat) (ca : Nat → ClassId) (u : Sto) (t : State) : Prop := va_P (dC, dI) vwCl (rW ad ca u) t.heap ∧ va_K (dC, dI) vwCl (tyW ca) t
def sr_Q (ret : Option FieldType) (Q : Int → Sto → Prop) (dC : Nat → ClassId) (dI : Nat → Nat → Nat) (ad : Nat → Nat) (ca : Nat → ClassId) (A : Nat → Prop) : Array Value → State → Outcome → State → Prop :=
  match ret with
  | none => va_Qv (fun u : Sto => okS u ∧ Q 0 u) (sr_B dC dI ad ca) A
  | some .long => va_Ql (fun (r : Int64) (u : Sto) => ∃ z, r = Int64.ofInt z ∧ r64 z ∧ okS u ∧ Q z u) (sr_B dC dI ad ca) A
  | some _ => va_Qi (fun (r : Int32) (u : Sto) => ∃ z, r = Int32.ofInt z ∧ r32 z ∧ okS u ∧ Q z u) (sr_B dC dI ad ca) A
def sr_G (own : String) (cc : ByteArray) (nL : Nat) (ret : Option FieldType) (d : Nat) (pc : Nat) (lv : List (Nat × Vl)) (st : List Vl) (σ : Sto) (Q : Int → Sto → Prop) : Prop :=
  ∀ (p : Program) (l : Launch) (e : Env) (s : State) (m : MethodId) (args : Array Value) (below : List Frame) (meth : Method) (c : Code) (dC : Nat → ClassId) (dI : Nat → Nat → Nat) (ad : Nat → Nat) (ca : Nat → ClassId) (A : Nat → Prop) (H : Heap) (locs : List Loc) (ls : Array Slot),
    sr_E own cc nL ret p s m args meth c dC dI ad ca A → va_P (dC, dI) vwCl (rW ad ca σ) H → va_S A s.heap H locs → okS σ → okE lv → okL st → lv_has ls nL (lv.map (fun q => (q.1, sr_rv ad q.2))) →
    W p l e (sr_rm d) s m args below meth c H locs 0 0 (MQ below (sr_Q ret Q dC dI ad ca A) args s 0 0 A) (F0 m pc ls (st.map (sr_rv ad)))
def sr_C (y : MethodName) (cc : ByteArray) (nL : Nat) (ret : Option FieldType) (d : Nat) (av : List Vl) (σ : Sto) (Q : Int → Sto → Prop) : Prop :=
  ∀ (l : Launch) (dC : Nat → ClassId) (dI : Nat → Nat → Nat) (ad : Nat → Nat) (ca : Nat → ClassId) (sz : Nat), okS σ → okL av →
    Met l y (Cond.code y cc nL ret :: gW) (sr_rm d) (va_Pc (av.map (sr_rv ad)) (fun U => U.heap.size = sz ∧ va_P (dC, dI) vwCl (rW ad ca σ) U.heap ∧ va_K (dC, dI) vwCl (tyW ca) U ∧ sr_D (fun _ => True) ad ∧ sr_St (sr_A ad sz) U U.heap)) (sr_Q ret Q dC dI ad ca (sr_A ad sz)) 0 0 (sr_A ad sz)
def sr_sub : List (Nat × Vl) → List (Nat × Vl) → Prop
  | [], _ => True
  | q :: t, lv => lv.lookup q.1 = some q.2 ∧ sr_sub t lv
def sr_lvs : Nat → List Vl → List (Nat × Vl)
  | _, [] => []
  | i, .inl z :: t => (i, .inl z) :: sr_lvs (i + 1) t
  | i, .inr (.inl z) :: t => (i, .inr (.inl z)) :: sr_lvs (i + 2) t
  | i, .inr (.inr z) :: t => (i, .inr (.inr z)) :: sr_lvs (i + 1) t
def sr_wd : List Vl → Nat
  | [] => 0
  | .inl _ :: t => 1 + sr_wd t
  | .inr (.inl _) :: t => 2 + sr_wd t
  | .inr (.inr _) :: t => 1 + sr_wd t
def sr_isL : Vl → Bool
  | .inr (.inl _) => true
  | _ => false
def sr_st1 (lv : List (Nat × Vl)) (i : Nat) (v : Vl) : List (Nat × Vl) := (i, v) :: lv.filter (fun q => !(q.1 == i) && !(q.1 + 1 == i && sr_isL q.2))
def sr_st2 (lv : List (Nat × Vl)) (i : Nat) (v : Vl) : List (Nat × Vl) := (i, v) :: lv.filter (fun q => !(q.1 == i) && (!(q.1 == i + 1) && !(q.1 + 1 == i && sr_isL q.2)))
theorem lk_mem {lv : List (Nat × Vl)} {i : Nat} {v : Vl} (h : lv.lookup i = some v) : (i, v) ∈ lv := by
  induction lv with
  | nil => cases h
  | cons q t ih =>
    obtain ⟨a, b⟩ := q
    rw [List.lookup_cons] at h
    cases hq : (i == a) with
    | true =>
      rw [hq] at h
      cases h
      rw [beq_iff_eq] at hq
      rw [hq]
      exact List.mem_cons_self
    | false =>
      rw [hq] at h
      exact List.mem_cons_of_mem _ (ih h)
theorem okE_mem {lv : List (Nat × Vl)} (h : okE lv) : ∀ q ∈ lv, okV q.2 := by
  induction lv with
  | nil => intro q hq; cases hq
  | cons a t ih =>
    intro q hq
    rcases List.mem_cons.mp hq with rfl | hq
    · exact h.1
    · exact ih h.2 q hq
theorem okE_of {lv : List (Nat × Vl)} (h : ∀ q ∈ lv, okV q.2) : okE lv := by
  induction lv with
  | nil => trivial
  | cons a t ih => exact ⟨h a List.mem_cons_self, ih (fun q hq => h q (List.mem_cons_of_mem _ hq))⟩
theorem okE_lk {lv : List (Nat × Vl)} {i : Nat} {v : Vl} (h : okE lv) (hk : lv.lookup i = some v) : okV v := okE_mem h _ (lk_mem hk)
theorem lv_lk {ad : Nat → Nat} {ls : Array Slot} {n : Nat} {lv : List (Nat × Vl)} {i : Nat} {v : Vl} (hl : lv_has ls n (lv.map (fun q => (q.1, sr_rv ad q.2)))) (hk : lv.lookup i = some v) : ls[i]? = some (.val (sr_rv ad v)) :=
  hl.2.2 (i, sr_rv ad v) (List.mem_map.mpr ⟨(i, v), lk_mem hk, rfl⟩)
theorem sub_mem {lv lv' : List (Nat × Vl)} (h : sr_sub lv' lv) : ∀ q ∈ lv', q ∈ lv := by
  induction lv' with
  | nil => intro q hq; cases hq
  | cons a t ih =>
    intro q hq
    rcases List.mem_cons.mp hq with rfl | hq
    · exact lk_mem h.1
    · exact ih h.2 q hq
theorem cat_rv {ad : Nat → Nat} (v : Vl) : ((sr_rv ad v).category == 2) = sr_isL v := by
  rcases v with z | z | z <;> rfl
theorem st1_map {ad : Nat → Nat} {lv : List (Nat × Vl)} {i : Nat} {v : Vl} : (i, sr_rv ad v) :: (lv.map (fun q => (q.1, sr_rv ad q.2))).filter (fun q => !(q.1 == i) && !(q.1 + 1 == i && q.2.category == 2)) = (sr_st1 lv i v).map (fun q => (q.1, sr_rv ad q.2)) := by
  unfold sr_st1
  rw [List.map_cons, List.filter_map]
  congr 2
  apply List.filter_congr
  intro q _
  simp only [Function.comp, cat_rv]
theorem st2_map {ad : Nat → Nat} {lv : List (Nat × Vl)} {i : Nat} {v : Vl} : (i, sr_rv ad v) :: (lv.map (fun q => (q.1, sr_rv ad q.2))).filter (fun q => !(q.1 == i) && (!(q.1 == i + 1) && !(q.1 + 1 == i && q.2.category == 2))) = (sr_st2 lv i v).map (fun q => (q.1, sr_rv ad q.2)) := by
  unfold sr_st2
  rw [List.map_cons, List.filter_map]
  congr 2
  apply List.filter_congr
  intro q _
  simp only [Function.comp, cat_rv]
theorem okE_st1 {lv : List (Nat × Vl)} {i : Nat} {v : Vl} (h : okE lv) (hv : okV v) : okE (sr_st1 lv i v) := ⟨hv, okE_of (fun q hq => okE_mem h q (List.mem_filter.mp hq).1)⟩
theorem okE_st2 {lv : List (Nat × Vl)} {i : Nat} {v : Vl} (h : okE lv) (hv : okV v) : okE (sr_st2 lv i v) := ⟨hv, okE_of (fun q hq => okE_mem h q (List.mem_filter.mp hq).1)⟩
theorem args_map {ad : Nat → Nat} : ∀ (av : List Vl) (i : Nat), lv_args i (av.map (sr_rv ad)) = (sr_lvs i av).map (fun q => (q.1, sr_rv ad q.2)) := by
  intro av
  induction av with
  | nil => intro i; rfl
  | cons v t ih =>
    intro i
    rcases v with z | z | z
    · show (i, _) :: lv_args (i + 1) _ = _
      rw [ih]; rfl
    · show (i, _) :: lv_args (i + 2) _ = _
      rw [ih]; rfl
    · show (i, _) :: lv_args (i + 1) _ = _
      rw [ih]; rfl
theorem sl_len {ad : Nat → Nat} : ∀ (av : List Vl), (lg_sl (av.map (sr_rv ad))).length = sr_wd av := by
  intro av
  induction av with
  | nil => rfl
  | cons v t ih =>
    rcases v with z | z | z
    · show ([Slot.val (Value.int (Int32.ofInt z))] ++ lg_sl (t.map (sr_rv ad))).length = 1 + sr_wd t
      rw [List.length_append, ih]; rfl
    · show ([Slot.val (Value.long (Int64.ofInt z)), Slot.second] ++ lg_sl (t.map (sr_rv ad))).length = 2 + sr_wd t
      rw [List.length_append, ih]; rfl
    · show ([Slot.val (Value.ref (ad z))] ++ lg_sl (t.map (sr_rv ad))).length = 1 + sr_wd t
      rw [List.length_append, ih]; rfl
theorem okE_lvs : ∀ (av : List Vl) (i : Nat), okL av → okE (sr_lvs i av) := by
  intro av
  induction av with
  | nil => intro i _; trivial
  | cons v t ih =>
    intro i h
    rcases v with z | z | z
    · exact ⟨h.1, ih _ h.2⟩
    · exact ⟨h.1, ih _ h.2⟩
    · exact ⟨h.1, ih _ h.2⟩
theorem sr_St.to {A B : Nat → Prop} {s U : State} {H : Heap} {locs : List Loc} (h : sr_St A s s.heap) (hS : va_S A s.heap H locs) (hW : s.WarmedH U.vm) (hAB : ∀ q, B q → A q) : sr_St B U H := by
  obtain ⟨h0, t, h1, h2⟩ := h
  have hvm := hW.alike
  exact ⟨va_Nw.warmF hW h0, t, ((h1.kept (fun q hq hA => hS.2.1 q hq hA)).moved hvm).narrow hAB, ((h2.kept (fun q hq hA => hS.2.1 q hq hA)).moved hvm).narrow hAB⟩
theorem sr_Af {A : Nat → Prop} {ad : Nat → Nat} {s : State} {H : Heap} {locs : List Loc} (hD : sr_D A ad) (hA : ∀ q, s.heap.size ≤ q → A q) (hS : va_S A s.heap H locs) : ∀ q, sr_A ad H.size q → A q := by
  intro q h
  rcases h with ⟨i, hi, rfl⟩ | h
  · exact hD.2 i hi
  · exact hA q (Nat.le_trans hS.1 h)
section sr_rules
variable {own : String} {cc : ByteArray} {nL : Nat} {ret : Option FieldType} {d pc pc' : Nat} {lv lv' : List (Nat × Vl)} {st : List Vl} {σ : Sto} {Q : Int → Sto → Prop}
theorem sr_G.sub (k : sr_G own cc nL ret d pc lv' st σ Q) (h : sr_sub lv' lv) : sr_G own cc nL ret d pc lv st σ Q := by
  intro p l e s m args below meth c dC dI ad ca A H locs ls E hP hS hσ hlv hst hl
  refine k p l e s m args below meth c dC dI ad ca A H locs ls E hP hS hσ (okE_of (fun q hq => okE_mem hlv q (sub_mem h q hq))) hst ⟨hl.1, hl.2.1, fun q hq => ?_⟩
  obtain ⟨a, ha, rfl⟩ := List.mem_map.mp hq
  exact hl.2.2 _ (List.mem_map.mpr ⟨a, sub_mem h a ha, rfl⟩)
theorem sr_G.to (k : sr_G own cc nL ret d pc lv' st σ Q) (h : sr_sub lv' lv) : sr_G own cc nL ret d pc lv st σ Q := k.sub h
theorem sb_n : sr_sub [] lv := trivial
theorem sb_c {i : Nat} {v : Vl} {t : List (Nat × Vl)} (h1 : lv.lookup i = some v) (h2 : sr_sub t lv) : sr_sub ((i, v) :: t) lv := ⟨h1, h2⟩
theorem sr_C.of {y : MethodName} {av : List Vl} (hy : plainFor y = true) (hw : sr_wd av ≤ nL) (k : sr_G y.cls cc nL ret d 0 (sr_lvs 0 av) [] σ Q) : sr_C y cc nL ret d av σ Q := by
  intro l dC dI ad ca sz hσ hav
  refine va_MetF (cc := cc) (maxL := nL) (ret := ret) hy rfl ?_
  intro p e s m args below meth c s₁ B hml hv
  obtain ⟨rfl, hsz, hP, hK, hD0, hSt⟩ := hv
  have hts := atoms_spec (ws := Cond.code y cc nL ret :: gW) B.pre
  have hown : s.vm.findClass y.cls = some m.cls := findClass_of_methodNamed B.named
  subst hsz
  rw [lg_entry_eq]
  have hl := lv_entry (av.map (sr_rv ad)) (n := nL) (by rw [sl_len]; exact hw)
  rw [args_map] at hl
  exact k p l e s m _ below meth c dC dI ad ca _ s.heap [] _ ⟨B.exec, B.bytes, hml, B.returns, B.notSynchronized, hown, fun w h => hts w (List.mem_cons_of_mem _ h), fun q h => Or.inr h, hK, ⟨hD0.1, fun i hi => Or.inl ⟨i, hi, rfl⟩⟩, hSt⟩ hP va_S.rf hσ (okE_lvs av 0 hav) trivial hl

def iA (x y : Int) : Int := (Int32.ofInt x &&& Int32.ofInt y).toInt
def iO (x y : Int) : Int := (Int32.ofInt x ||| Int32.ofInt y).toInt
def iShl (x y : Int) : Int := (Int32.ofInt x <<< (Int32.ofInt y &&& 31)).toInt
def iShr (x y : Int) : Int := (Int32.ofInt x >>> (Int32.ofInt y &&& 31)).toInt
def iUshr (x y : Int) : Int := ((Int32.ofInt x).toUInt32 >>> ((Int32.ofInt y).toUInt32 &&& Int32.toUInt32 31)).toInt32.toInt
def lA (x y : Int) : Int := (Int64.ofInt x &&& Int64.ofInt y).toInt
def lO (x y : Int) : Int := (Int64.ofInt x ||| Int64.ofInt y).toInt
def lShl (x y : Int) : Int := (Int64.ofInt x <<< ((Int32.ofInt y).toInt64 &&& 63)).toInt
def lShr (x y : Int) : Int := (Int64.ofInt x >>> ((Int32.ofInt y).toInt64 &&& 63)).toInt
def lUshr (x y : Int) : Int := ((Int64.ofInt x).toUInt64 >>> ((Int32.ofInt y).toInt64.toUInt64 &&& Int64.toUInt64 63)).toInt64.toInt
theorem w8_r (x : Int) : r32 (w8 x) := by unfold r32 w8; omega
theorem w16_r (x : Int) : r32 (w16 x) := by unfold r32 w16; omega
def lC (x y : Int) : Int := if x > y then 1 else if x = y then 0 else -1
theorem div32 {x y : Int} (hx : r32 x) (hy : r32 y) : Int32.ofInt (w32 (x.tdiv y)) = Int32.ofInt x / Int32.ofInt y := by
  apply Int32.toInt_inj.mp
  rw [Int32.toInt_div, ofw32, Int32.toInt_ofInt, of32 hx, of32 hy]
theorem div64 {x y : Int} (hx : r64 x) (hy : r64 y) : Int64.ofInt (w64 (x.tdiv y)) = Int64.ofInt x / Int64.ofInt y := by
  apply Int64.toInt_inj.mp
  rw [Int64.toInt_div, ofw64, Int64.toInt_ofInt, of64 hx, of64 hy]
theorem rem32 {x y : Int} (hx : r32 x) (hy : r32 y) : Int32.ofInt (w32 (x.tmod y)) = Int32.ofInt x - Int32.ofInt x / Int32.ofInt y * Int32.ofInt y := by
  rw [← div32 hx hy, ofw32, ofw32, ← Int32.ofInt_mul, ← Int32.ofInt_sub, Int.tmod_def, Int.mul_comm]
theorem rem64 {x y : Int} (hx : r64 x) (hy : r64 y) : Int64.ofInt (w64 (x.tmod y)) = Int64.ofInt x - Int64.ofInt x / Int64.ofInt y * Int64.ofInt y := by
  rw [← div64 hx hy, ofw64, ofw64, ← Int64.ofInt_mul, ← Int64.ofInt_sub, Int.tmod_def, Int.mul_comm]
theorem ne32 {y : Int} (hy : r32 y) (h : y ≠ 0) : ¬ Int32.ofInt y = 0 := fun q => h ((eq32 hy r32_0).mp q)
theorem ne64 {y : Int} (hy : r64 y) (h : y ≠ 0) : ¬ Int64.ofInt y = 0 := fun q => h ((eq64 hy (r32_64 r32_0)).mp q)
theorem lC_r (x y : Int) : r32 (lC x y) := by
  unfold lC r32
  split
  · omega
  · split <;> omega
theorem lC_of {x y : Int} (hx : r64 x) (hy : r64 y) : Int32.ofInt (lC x y) = lg_cmp (Int64.ofInt x) (Int64.ofInt y) := by
  unfold lC lg_cmp
  by_cases h1 : x > y
  · rw [if_pos h1, if_pos ((lt64 hy hx).mpr h1)]
    rfl
  · rw [if_neg h1, if_neg (fun q => h1 ((lt64 hy hx).mp q))]
    by_cases h2 : x = y
    · rw [if_pos h2, if_pos ((eq64 hx hy).mpr h2)]
      rfl
    · rw [if_neg h2, if_neg (fun q => h2 ((eq64 hx hy).mp q))]
      rfl
theorem lC_lt (x y : Int) : lC x y < 0 ↔ x < y := by
  unfold lC
  split
  · omega
  · split <;> omega
theorem lC_eq (x y : Int) : lC x y = 0 ↔ x = y := by
  unfold lC
  split
  · omega
  · split <;> omega
theorem lC_gt (x y : Int) : 0 < lC x y ↔ y < x := by
  unfold lC
  split
  · omega
  · split <;> omega
theorem lC_le (x y : Int) : lC x y ≤ 0 ↔ x ≤ y := by
  unfold lC
  split
  · omega
  · split <;> omega
theorem lC_ge (x y : Int) : 0 ≤ lC x y ↔ y ≤ x := by
  unfold lC
  split
  · omega
  · split <;> omega
theorem g_iload {i : Nat} {x : Int} (hd : decode cc pc = .ok (.iload i, 2)) (hn : pc + 2 = pc') (hk : lv.lookup i = some (vI x)) (k : sr_G own cc nL ret d pc' lv (vI x :: st) σ Q) : sr_G own cc nL ret d pc lv (st) σ Q := by
  subst hn
  intro p l e s m args below meth c dC dI ad ca A H locs ls E hP hS hσ hlv hst hl
  refine lv_iload E.1 E.2.1 hd (lv_lk hl hk) ?_
  exact k p l e s m args below meth c dC dI ad ca A H locs ls E hP hS hσ hlv ⟨okE_lk hlv hk, hst⟩ hl

theorem g_iload_n {i : Fin 4} {x : Int} (hd : decode cc pc = .ok (.iload_n i, 1)) (hn : pc + 1 = pc') (hk : lv.lookup i.val = some (vI x)) (k : sr_G own cc nL ret d pc' lv (vI x :: st) σ Q) : sr_G own cc nL ret d pc lv (st) σ Q := by
  subst hn
  intro p l e s m args below meth c dC dI ad ca A H locs ls E hP hS hσ hlv hst hl
  refine lv_iload_n E.1 E.2.1 hd rfl (lv_lk hl hk) ?_
  exact k p l e s m args below meth c dC dI ad ca A H locs ls E hP hS hσ hlv ⟨okE_lk hlv hk, hst⟩ hl

theorem g_lload {i : Nat} {x : Int} (hd : decode cc pc = .ok (.lload i, 2)) (hn : pc + 2 = pc') (hk : lv.lookup i = some (vL x)) (k : sr_G own cc nL ret d pc' lv (vL x :: st) σ Q) : sr_G own cc nL ret d pc lv (st) σ Q := by
  subst hn
  intro p l e s m args below meth c dC dI ad ca A H locs ls E hP hS hσ hlv hst hl
  refine lv_lload E.1 E.2.1 hd (lv_lk hl hk) ?_
  exact k p l e s m args below meth c dC dI ad ca A H locs ls E hP hS hσ hlv ⟨okE_lk hlv hk, hst⟩ hl

theorem g_lload_n {i : Fin 4} {x : Int} (hd : decode cc pc = .ok (.lload_n i, 1)) (hn : pc + 1 = pc') (hk : lv.lookup i.val = some (vL x)) (k : sr_G own cc nL ret d pc' lv (vL x :: st) σ Q) : sr_G own cc nL ret d pc lv (st) σ Q := by
  subst hn
  intro p l e s m args below meth c dC dI ad ca A H locs ls E hP hS hσ hlv hst hl
  refine lv_lload_n E.1 E.2.1 hd rfl (lv_lk hl hk) ?_
  exact k p l e s m args below meth c dC dI ad ca A H locs ls E hP hS hσ hlv ⟨okE_lk hlv hk, hst⟩ hl

theorem g_aload {i : Nat} {x : Nat} (hd : decode cc pc = .ok (.aload i, 2)) (hn : pc + 2 = pc') (hk : lv.lookup i = some (vR x)) (k : sr_G own cc nL ret d pc' lv (vR x :: st) σ Q) : sr_G own cc nL ret d pc lv (st) σ Q := by
  subst hn
  intro p l e s m args below meth c dC dI ad ca A H locs ls E hP hS hσ hlv hst hl
  refine lv_aload E.1 E.2.1 hd (lv_lk hl hk) ?_
  exact k p l e s m args below meth c dC dI ad ca A H locs ls E hP hS hσ hlv ⟨okE_lk hlv hk, hst⟩ hl

theorem g_aload_n {i : Fin 4} {x : Nat} (hd : decode cc pc = .ok (.aload_n i, 1)) (hn : pc + 1 = pc') (hk : lv.lookup i.val = some (vR x)) (k : sr_G own cc nL ret d pc' lv (vR x :: st) σ Q) : sr_G own cc nL ret d pc lv (st) σ Q := by
  subst hn
  intro p l e s m args below meth c dC dI ad ca A H locs ls E hP hS hσ hlv hst hl
  refine lv_aload_n E.1 E.2.1 hd rfl (lv_lk hl hk) ?_
  exact k p l e s m args below meth c dC dI ad ca A H locs ls E hP hS hσ hlv ⟨okE_lk hlv hk, hst⟩ hl

theorem g_istore {i : Nat} {x : Int} (hd : decode cc pc = .ok (.istore i, 2)) (hn : pc + 2 = pc') (hi : i < nL) (k : sr_G own cc nL ret d pc' (sr_st1 lv i (vI x)) (st) σ Q) : sr_G own cc nL ret d pc lv (vI x :: st) σ Q := by
  subst hn
  intro p l e s m args below meth c dC dI ad ca A H locs ls E hP hS hσ hlv hst hl
  refine lv_istore E.1 E.2.1 hd hl hi (st1_map (v := vI x)) (fun ls2 hl2 => ?_)
  exact k p l e s m args below meth c dC dI ad ca A H locs ls2 E hP hS hσ (okE_st1 hlv hst.1) hst.2 hl2

theorem g_istore_n {i : Fin 4} {x : Int} (hd : decode cc pc = .ok (.istore_n i, 1)) (hn : pc + 1 = pc') (hi : i.val < nL) (k : sr_G own cc nL ret d pc' (sr_st1 lv i.val (vI x)) (st) σ Q) : sr_G own cc nL ret d pc lv (vI x :: st) σ Q := by
  subst hn
  intro p l e s m args below meth c dC dI ad ca A H locs ls E hP hS hσ hlv hst hl
  refine lv_istore_n E.1 E.2.1 hd rfl hl hi (st1_map (v := vI x)) (fun ls2 hl2 => ?_)
  exact k p l e s m args below meth c dC dI ad ca A H locs ls2 E hP hS hσ (okE_st1 hlv hst.1) hst.2 hl2

theorem g_lstore {i : Nat} {x : Int} (hd : decode cc pc = .ok (.lstore i, 2)) (hn : pc + 2 = pc') (hi : i + 1 < nL) (k : sr_G own cc nL ret d pc' (sr_st2 lv i (vL x)) (st) σ Q) : sr_G own cc nL ret d pc lv (vL x :: st) σ Q := by
  subst hn
  intro p l e s m args below meth c dC dI ad ca A H locs ls E hP hS hσ hlv hst hl
  refine lv_lstore E.1 E.2.1 hd hl hi (st2_map (v := vL x)) (fun ls2 hl2 => ?_)
  exact k p l e s m args below meth c dC dI ad ca A H locs ls2 E hP hS hσ (okE_st2 hlv hst.1) hst.2 hl2

theorem g_lstore_n {i : Fin 4} {x : Int} (hd : decode cc pc = .ok (.lstore_n i, 1)) (hn : pc + 1 = pc') (hi : i.val + 1 < nL) (k : sr_G own cc nL ret d pc' (sr_st2 lv i.val (vL x)) (st) σ Q) : sr_G own cc nL ret d pc lv (vL x :: st) σ Q := by
  subst hn
  intro p l e s m args below meth c dC dI ad ca A H locs ls E hP hS hσ hlv hst hl
  refine lv_lstore_n E.1 E.2.1 hd rfl hl hi (st2_map (v := vL x)) (fun ls2 hl2 => ?_)
  exact k p l e s m args below meth c dC dI ad ca A H locs ls2 E hP hS hσ (okE_st2 hlv hst.1) hst.2 hl2

theorem g_astore {i : Nat} {x : Nat} (hd : decode cc pc = .ok (.astore i, 2)) (hn : pc + 2 = pc') (hi : i < nL) (k : sr_G own cc nL ret d pc' (sr_st1 lv i (vR x)) (st) σ Q) : sr_G own cc nL ret d pc lv (vR x :: st) σ Q := by
  subst hn
  intro p l e s m args below meth c dC dI ad ca A H locs ls E hP hS hσ hlv hst hl
  refine lv_astore E.1 E.2.1 hd hl hi (st1_map (v := vR x)) (fun ls2 hl2 => ?_)
  exact k p l e s m args below meth c dC dI ad ca A H locs ls2 E hP hS hσ (okE_st1 hlv hst.1) hst.2 hl2

theorem g_astore_n {i : Fin 4} {x : Nat} (hd : decode cc pc = .ok (.astore_n i, 1)) (hn : pc + 1 = pc') (hi : i.val < nL) (k : sr_G own cc nL ret d pc' (sr_st1 lv i.val (vR x)) (st) σ Q) : sr_G own cc nL ret d pc lv (vR x :: st) σ Q := by
  subst hn
  intro p l e s m args below meth c dC dI ad ca A H locs ls E hP hS hσ hlv hst hl
  refine lv_astore_n E.1 E.2.1 hd rfl hl hi (st1_map (v := vR x)) (fun ls2 hl2 => ?_)
  exact k p l e s m args below meth c dC dI ad ca A H locs ls2 E hP hS hσ (okE_st1 hlv hst.1) hst.2 hl2

theorem g_iinc {i : Nat} {n x : Int} (hd : decode cc pc = .ok (.iinc i n, 3)) (hn : pc + 3 = pc') (hk : lv.lookup i = some (vI x)) (hi : i < nL) (k : sr_G own cc nL ret d pc' (sr_st1 lv i (vI (w32 (x + n)))) (st) σ Q) : sr_G own cc nL ret d pc lv (st) σ Q := by
  subst hn
  intro p l e s m args below meth c dC dI ad ca A H locs ls E hP hS hσ hlv hst hl
  obtain ⟨j, hj⟩ := List.getElem?_of_mem (List.mem_map.mpr ⟨(i, vI x), lk_mem hk, rfl⟩ : (i, sr_rv ad (vI x)) ∈ lv.map (fun q => (q.1, sr_rv ad q.2)))
  refine lv_iinc (v := Int32.ofInt (w32 (x + n))) E.1 E.2.1 hd hl hj (by rw [ofw32, Int32.ofInt_add]) hi (st1_map (v := vI (w32 (x + n)))) (fun ls2 hl2 => ?_)
  exact k p l e s m args below meth c dC dI ad ca A H locs ls2 E hP hS hσ (okE_st1 hlv (w32_r _)) hst hl2

theorem g_iconst {n : Int} (hv : r32 n) (hd : decode cc pc = .ok (.iconst n, 1)) (hn : pc + 1 = pc') (k : sr_G own cc nL ret d pc' lv (vI n :: st) σ Q) : sr_G own cc nL ret d pc lv (st) σ Q := by
  subst hn
  intro p l e s m args below meth c dC dI ad ca A H locs ls E hP hS hσ hlv hst hl
  refine lv_iconst (v := Int32.ofInt n) E.1 E.2.1 hd rfl ?_
  exact k p l e s m args below meth c dC dI ad ca A H locs ls E hP hS hσ hlv ⟨hv, hst⟩ hl

theorem g_bipush {n : Int} (hv : r32 n ∧ (Int8.ofInt n).toInt32 = Int32.ofInt n) (hd : decode cc pc = .ok (.bipush n, 2)) (hn : pc + 2 = pc') (k : sr_G own cc nL ret d pc' lv (vI n :: st) σ Q) : sr_G own cc nL ret d pc lv (st) σ Q := by
  subst hn
  intro p l e s m args below meth c dC dI ad ca A H locs ls E hP hS hσ hlv hst hl
  refine lv_bipush (v := Int32.ofInt n) E.1 E.2.1 hd hv.2 ?_
  exact k p l e s m args below meth c dC dI ad ca A H locs ls E hP hS hσ hlv ⟨hv.1, hst⟩ hl

theorem g_sipush {n : Int} (hv : r32 n ∧ (Int16.ofInt n).toInt32 = Int32.ofInt n) (hd : decode cc pc = .ok (.sipush n, 3)) (hn : pc + 3 = pc') (k : sr_G own cc nL ret d pc' lv (vI n :: st) σ Q) : sr_G own cc nL ret d pc lv (st) σ Q := by
  subst hn
  intro p l e s m args below meth c dC dI ad ca A H locs ls E hP hS hσ hlv hst hl
  refine lv_sipush (v := Int32.ofInt n) E.1 E.2.1 hd hv.2 ?_
  exact k p l e s m args below meth c dC dI ad ca A H locs ls E hP hS hσ hlv ⟨hv.1, hst⟩ hl

theorem g_lconst {n : Fin 2} {z : Int} (hv : r64 z ∧ Int64.ofNat (n : Nat) = Int64.ofInt z) (hd : decode cc pc = .ok (.lconst n, 1)) (hn : pc + 1 = pc') (k : sr_G own cc nL ret d pc' lv (vL z :: st) σ Q) : sr_G own cc nL ret d pc lv (st) σ Q := by
  subst hn
  intro p l e s m args below meth c dC dI ad ca A H locs ls E hP hS hσ hlv hst hl
  refine lv_lconst (v := Int64.ofInt z) E.1 E.2.1 hd hv.2 ?_
  exact k p l e s m args below meth c dC dI ad ca A H locs ls E hP hS hσ hlv ⟨hv.1, hst⟩ hl

theorem g_ldc {idx : Nat} {z : Int} (hv : r32 z) (hw : Cond.constant own idx (Int32.ofInt z) ∈ gW) (hd : decode cc pc = .ok (.ldc idx, 2)) (hn : pc + 2 = pc') (k : sr_G own cc nL ret d pc' lv (vI z :: st) σ Q) : sr_G own cc nL ret d pc lv (st) σ Q := by
  subst hn
  intro p l e s m args below meth c dC dI ad ca A H locs ls E hP hS hσ hlv hst hl
  refine lv_ldc (v := Int32.ofInt z) E.1 E.2.1 E.2.2.2.2.2.1 (E.2.2.2.2.2.2.1 _ hw) hd ?_
  exact k p l e s m args below meth c dC dI ad ca A H locs ls E hP hS hσ hlv ⟨hv, hst⟩ hl

theorem g_ldcw {idx : Nat} {z : Int} (hv : r32 z) (hw : Cond.constant own idx (Int32.ofInt z) ∈ gW) (hd : decode cc pc = .ok (.ldc_w idx, 3)) (hn : pc + 3 = pc') (k : sr_G own cc nL ret d pc' lv (vI z :: st) σ Q) : sr_G own cc nL ret d pc lv (st) σ Q := by
  subst hn
  intro p l e s m args below meth c dC dI ad ca A H locs ls E hP hS hσ hlv hst hl
  refine lv_ldcw (v := Int32.ofInt z) E.1 E.2.1 E.2.2.2.2.2.1 (E.2.2.2.2.2.2.1 _ hw) hd ?_
  exact k p l e s m args below meth c dC dI ad ca A H locs ls E hP hS hσ hlv ⟨hv, hst⟩ hl

theorem g_ldc2 {idx : Nat} {z : Int} (hv : r64 z) (hw : Cond.constantLong own idx (Int64.ofInt z) ∈ gW) (hd : decode cc pc = .ok (.ldc2_w idx, 3)) (hn : pc + 3 = pc') (k : sr_G own cc nL ret d pc' lv (vL z :: st) σ Q) : sr_G own cc nL ret d pc lv (st) σ Q := by
  subst hn
  intro p l e s m args below meth c dC dI ad ca A H locs ls E hP hS hσ hlv hst hl
  refine lv_ldc2 (v := Int64.ofInt z) E.1 E.2.1 E.2.2.2.2.2.1 (E.2.2.2.2.2.2.1 _ hw) hd ?_
  exact k p l e s m args below meth c dC dI ad ca A H locs ls E hP hS hσ hlv ⟨hv, hst⟩ hl

theorem g_iadd {x y : Int} (hd : decode cc pc = .ok (.iadd, 1)) (hn : pc + 1 = pc')  (k : sr_G own cc nL ret d pc' lv (vI (w32 (x + y)) :: st) σ Q) : sr_G own cc nL ret d pc lv (vI y :: vI x :: st) σ Q := by
  subst hn
  intro p l e s m args below meth c dC dI ad ca A H locs ls E hP hS hσ hlv hst hl
  obtain ⟨hy, hx, hst⟩ := hst
  have h9 := k p l e s m args below meth c dC dI ad ca A H locs ls E hP hS hσ hlv ⟨w32_r _, hst⟩ hl
  have e9 : Int32.ofInt (w32 (x + y)) = Int32.ofInt x + Int32.ofInt y := by rw [ofw32, Int32.ofInt_add]
  simp only [List.map_cons, sr_rv] at h9
  rw [e9] at h9
  exact lv_iadd E.1 E.2.1 hd h9

theorem g_isub {x y : Int} (hd : decode cc pc = .ok (.isub, 1)) (hn : pc + 1 = pc')  (k : sr_G own cc nL ret d pc' lv (vI (w32 (x - y)) :: st) σ Q) : sr_G own cc nL ret d pc lv (vI y :: vI x :: st) σ Q := by
  subst hn
  intro p l e s m args below meth c dC dI ad ca A H locs ls E hP hS hσ hlv hst hl
  obtain ⟨hy, hx, hst⟩ := hst
  have h9 := k p l e s m args below meth c dC dI ad ca A H locs ls E hP hS hσ hlv ⟨w32_r _, hst⟩ hl
  have e9 : Int32.ofInt (w32 (x - y)) = Int32.ofInt x - Int32.ofInt y := by rw [ofw32, Int32.ofInt_sub]
  simp only [List.map_cons, sr_rv] at h9
  rw [e9] at h9
  exact lv_isub E.1 E.2.1 hd h9

theorem g_imul {x y : Int} (hd : decode cc pc = .ok (.imul, 1)) (hn : pc + 1 = pc')  (k : sr_G own cc nL ret d pc' lv (vI (w32 (x * y)) :: st) σ Q) : sr_G own cc nL ret d pc lv (vI y :: vI x :: st) σ Q := by
  subst hn
  intro p l e s m args below meth c dC dI ad ca A H locs ls E hP hS hσ hlv hst hl
  obtain ⟨hy, hx, hst⟩ := hst
  have h9 := k p l e s m args below meth c dC dI ad ca A H locs ls E hP hS hσ hlv ⟨w32_r _, hst⟩ hl
  have e9 : Int32.ofInt (w32 (x * y)) = Int32.ofInt x * Int32.ofInt y := by rw [ofw32, Int32.ofInt_mul]
  simp only [List.map_cons, sr_rv] at h9
  rw [e9] at h9
  exact lv_imul E.1 E.2.1 hd h9

theorem g_ladd {x y : Int} (hd : decode cc pc = .ok (.ladd, 1)) (hn : pc + 1 = pc')  (k : sr_G own cc nL ret d pc' lv (vL (w64 (x + y)) :: st) σ Q) : sr_G own cc nL ret d pc lv (vL y :: vL x :: st) σ Q := by
  subst hn
  intro p l e s m args below meth c dC dI ad ca A H locs ls E hP hS hσ hlv hst hl
  obtain ⟨hy, hx, hst⟩ := hst
  have h9 := k p l e s m args below meth c dC dI ad ca A H locs ls E hP hS hσ hlv ⟨w64_r _, hst⟩ hl
  have e9 : Int64.ofInt (w64 (x + y)) = Int64.ofInt x + Int64.ofInt y := by rw [ofw64, Int64.ofInt_add]
  simp only [List.map_cons, sr_rv] at h9
  rw [e9] at h9
  exact lv_ladd E.1 E.2.1 hd h9

theorem g_lsub {x y : Int} (hd : decode cc pc = .ok (.lsub, 1)) (hn : pc + 1 = pc')  (k : sr_G own cc nL ret d pc' lv (vL (w64 (x - y)) :: st) σ Q) : sr_G own cc nL ret d pc lv (vL y :: vL x :: st) σ Q := by
  subst hn
  intro p l e s m args below meth c dC dI ad ca A H locs ls E hP hS hσ hlv hst hl
  obtain ⟨hy, hx, hst⟩ := hst
  have h9 := k p l e s m args below meth c dC dI ad ca A H locs ls E hP hS hσ hlv ⟨w64_r _, hst⟩ hl
  have e9 : Int64.ofInt (w64 (x - y)) = Int64.ofInt x - Int64.ofInt y := by rw [ofw64, Int64.ofInt_sub]
  simp only [List.map_cons, sr_rv] at h9
  rw [e9] at h9
  exact lv_lsub E.1 E.2.1 hd h9

theorem g_lmul {x y : Int} (hd : decode cc pc = .ok (.lmul, 1)) (hn : pc + 1 = pc')  (k : sr_G own cc nL ret d pc' lv (vL (w64 (x * y)) :: st) σ Q) : sr_G own cc nL ret d pc lv (vL y :: vL x :: st) σ Q := by
  subst hn
  intro p l e s m args below meth c dC dI ad ca A H locs ls E hP hS hσ hlv hst hl
  obtain ⟨hy, hx, hst⟩ := hst
  have h9 := k p l e s m args below meth c dC dI ad ca A H locs ls E hP hS hσ hlv ⟨w64_r _, hst⟩ hl
  have e9 : Int64.ofInt (w64 (x * y)) = Int64.ofInt x * Int64.ofInt y := by rw [ofw64, Int64.ofInt_mul]
  simp only [List.map_cons, sr_rv] at h9
  rw [e9] at h9
  exact lv_lmul E.1 E.2.1 hd h9

theorem g_idiv {x y : Int} (hd : decode cc pc = .ok (.idiv, 1)) (hn : pc + 1 = pc') (hne : y ≠ 0) (k : sr_G own cc nL ret d pc' lv (vI (w32 (x.tdiv y)) :: st) σ Q) : sr_G own cc nL ret d pc lv (vI y :: vI x :: st) σ Q := by
  subst hn
  intro p l e s m args below meth c dC dI ad ca A H locs ls E hP hS hσ hlv hst hl
  obtain ⟨hy, hx, hst⟩ := hst
  have h9 := k p l e s m args below meth c dC dI ad ca A H locs ls E hP hS hσ hlv ⟨w32_r _, hst⟩ hl
  have e9 : Int32.ofInt (w32 (x.tdiv y)) = Int32.ofInt x / Int32.ofInt y := div32 hx hy
  simp only [List.map_cons, sr_rv] at h9
  rw [e9] at h9
  exact lv_idiv E.1 E.2.1 hd (ne32 hy hne) h9

theorem g_irem {x y : Int} (hd : decode cc pc = .ok (.irem, 1)) (hn : pc + 1 = pc') (hne : y ≠ 0) (k : sr_G own cc nL ret d pc' lv (vI (w32 (x.tmod y)) :: st) σ Q) : sr_G own cc nL ret d pc lv (vI y :: vI x :: st) σ Q := by
  subst hn
  intro p l e s m args below meth c dC dI ad ca A H locs ls E hP hS hσ hlv hst hl
  obtain ⟨hy, hx, hst⟩ := hst
  have h9 := k p l e s m args below meth c dC dI ad ca A H locs ls E hP hS hσ hlv ⟨w32_r _, hst⟩ hl
  have e9 : Int32.ofInt (w32 (x.tmod y)) = Int32.ofInt x - Int32.ofInt x / Int32.ofInt y * Int32.ofInt y := rem32 hx hy
  simp only [List.map_cons, sr_rv] at h9
  rw [e9] at h9
  exact lv_irem E.1 E.2.1 hd (ne32 hy hne) h9

theorem g_ldiv {x y : Int} (hd : decode cc pc = .ok (.ldiv, 1)) (hn : pc + 1 = pc') (hne : y ≠ 0) (k : sr_G own cc nL ret d pc' lv (vL (w64 (x.tdiv y)) :: st) σ Q) : sr_G own cc nL ret d pc lv (vL y :: vL x :: st) σ Q := by
  subst hn
  intro p l e s m args below meth c dC dI ad ca A H locs ls E hP hS hσ hlv hst hl
  obtain ⟨hy, hx, hst⟩ := hst
  have h9 := k p l e s m args below meth c dC dI ad ca A H locs ls E hP hS hσ hlv ⟨w64_r _, hst⟩ hl
  have e9 : Int64.ofInt (w64 (x.tdiv y)) = Int64.ofInt x / Int64.ofInt y := div64 hx hy
  simp only [List.map_cons, sr_rv] at h9
  rw [e9] at h9
  exact lv_ldiv E.1 E.2.1 hd (ne64 hy hne) h9

theorem g_lrem {x y : Int} (hd : decode cc pc = .ok (.lrem, 1)) (hn : pc + 1 = pc') (hne : y ≠ 0) (k : sr_G own cc nL ret d pc' lv (vL (w64 (x.tmod y)) :: st) σ Q) : sr_G own cc nL ret d pc lv (vL y :: vL x :: st) σ Q := by
  subst hn
  intro p l e s m args below meth c dC dI ad ca A H locs ls E hP hS hσ hlv hst hl
  obtain ⟨hy, hx, hst⟩ := hst
  have h9 := k p l e s m args below meth c dC dI ad ca A H locs ls E hP hS hσ hlv ⟨w64_r _, hst⟩ hl
  have e9 : Int64.ofInt (w64 (x.tmod y)) = Int64.ofInt x - Int64.ofInt x / Int64.ofInt y * Int64.ofInt y := rem64 hx hy
  simp only [List.map_cons, sr_rv] at h9
  rw [e9] at h9
  exact lv_lrem E.1 E.2.1 hd (ne64 hy hne) h9

theorem g_iand {x y : Int} (hd : decode cc pc = .ok (.iand, 1)) (hn : pc + 1 = pc')  (k : sr_G own cc nL ret d pc' lv (vI (iA x y) :: st) σ Q) : sr_G own cc nL ret d pc lv (vI y :: vI x :: st) σ Q := by
  subst hn
  intro p l e s m args below meth c dC dI ad ca A H locs ls E hP hS hσ hlv hst hl
  obtain ⟨hy, hx, hst⟩ := hst
  have h9 := k p l e s m args below meth c dC dI ad ca A H locs ls E hP hS hσ hlv ⟨toInt_r32 _, hst⟩ hl
  have e9 : Int32.ofInt (iA x y) = Int32.ofInt x &&& Int32.ofInt y := Int32.ofInt_toInt _
  simp only [List.map_cons, sr_rv] at h9
  rw [e9] at h9
  exact lv_iand E.1 E.2.1 hd h9

theorem g_ior {x y : Int} (hd : decode cc pc = .ok (.ior, 1)) (hn : pc + 1 = pc')  (k : sr_G own cc nL ret d pc' lv (vI (iO x y) :: st) σ Q) : sr_G own cc nL ret d pc lv (vI y :: vI x :: st) σ Q := by
  subst hn
  intro p l e s m args below meth c dC dI ad ca A H locs ls E hP hS hσ hlv hst hl
  obtain ⟨hy, hx, hst⟩ := hst
  have h9 := k p l e s m args below meth c dC dI ad ca A H locs ls E hP hS hσ hlv ⟨toInt_r32 _, hst⟩ hl
  have e9 : Int32.ofInt (iO x y) = Int32.ofInt x ||| Int32.ofInt y := Int32.ofInt_toInt _
  simp only [List.map_cons, sr_rv] at h9
  rw [e9] at h9
  exact lv_ior E.1 E.2.1 hd h9

theorem g_ishl {x y : Int} (hd : decode cc pc = .ok (.ishl, 1)) (hn : pc + 1 = pc')  (k : sr_G own cc nL ret d pc' lv (vI (iShl x y) :: st) σ Q) : sr_G own cc nL ret d pc lv (vI y :: vI x :: st) σ Q := by
  subst hn
  intro p l e s m args below meth c dC dI ad ca A H locs ls E hP hS hσ hlv hst hl
  obtain ⟨hy, hx, hst⟩ := hst
  have h9 := k p l e s m args below meth c dC dI ad ca A H locs ls E hP hS hσ hlv ⟨toInt_r32 _, hst⟩ hl
  have e9 : Int32.ofInt (iShl x y) = Int32.ofInt x <<< (Int32.ofInt y &&& 31) := Int32.ofInt_toInt _
  simp only [List.map_cons, sr_rv] at h9
  rw [e9] at h9
  exact lv_ishl E.1 E.2.1 hd h9

theorem g_ishr {x y : Int} (hd : decode cc pc = .ok (.ishr, 1)) (hn : pc + 1 = pc')  (k : sr_G own cc nL ret d pc' lv (vI (iShr x y) :: st) σ Q) : sr_G own cc nL ret d pc lv (vI y :: vI x :: st) σ Q := by
  subst hn
  intro p l e s m args below meth c dC dI ad ca A H locs ls E hP hS hσ hlv hst hl
  obtain ⟨hy, hx, hst⟩ := hst
  have h9 := k p l e s m args below meth c dC dI ad ca A H locs ls E hP hS hσ hlv ⟨toInt_r32 _, hst⟩ hl
  have e9 : Int32.ofInt (iShr x y) = Int32.ofInt x >>> (Int32.ofInt y &&& 31) := Int32.ofInt_toInt _
  simp only [List.map_cons, sr_rv] at h9
  rw [e9] at h9
  exact lv_ishr E.1 E.2.1 hd h9

theorem g_iushr {x y : Int} (hd : decode cc pc = .ok (.iushr, 1)) (hn : pc + 1 = pc')  (k : sr_G own cc nL ret d pc' lv (vI (iUshr x y) :: st) σ Q) : sr_G own cc nL ret d pc lv (vI y :: vI x :: st) σ Q := by
  subst hn
  intro p l e s m args below meth c dC dI ad ca A H locs ls E hP hS hσ hlv hst hl
  obtain ⟨hy, hx, hst⟩ := hst
  have h9 := k p l e s m args below meth c dC dI ad ca A H locs ls E hP hS hσ hlv ⟨toInt_r32 _, hst⟩ hl
  have e9 : Int32.ofInt (iUshr x y) = ((Int32.ofInt x).toUInt32 >>> ((Int32.ofInt y).toUInt32 &&& Int32.toUInt32 31)).toInt32 := Int32.ofInt_toInt _
  simp only [List.map_cons, sr_rv] at h9
  rw [e9] at h9
  exact lv_iushr E.1 E.2.1 hd rfl h9

theorem g_land {x y : Int} (hd : decode cc pc = .ok (.land, 1)) (hn : pc + 1 = pc')  (k : sr_G own cc nL ret d pc' lv (vL (lA x y) :: st) σ Q) : sr_G own cc nL ret d pc lv (vL y :: vL x :: st) σ Q := by
  subst hn
  intro p l e s m args below meth c dC dI ad ca A H locs ls E hP hS hσ hlv hst hl
  obtain ⟨hy, hx, hst⟩ := hst
  have h9 := k p l e s m args below meth c dC dI ad ca A H locs ls E hP hS hσ hlv ⟨toInt_r64 _, hst⟩ hl
  have e9 : Int64.ofInt (lA x y) = Int64.ofInt x &&& Int64.ofInt y := Int64.ofInt_toInt _
  simp only [List.map_cons, sr_rv] at h9
  rw [e9] at h9
  exact lv_land E.1 E.2.1 hd h9

theorem g_lor {x y : Int} (hd : decode cc pc = .ok (.lor, 1)) (hn : pc + 1 = pc')  (k : sr_G own cc nL ret d pc' lv (vL (lO x y) :: st) σ Q) : sr_G own cc nL ret d pc lv (vL y :: vL x :: st) σ Q := by
  subst hn
  intro p l e s m args below meth c dC dI ad ca A H locs ls E hP hS hσ hlv hst hl
  obtain ⟨hy, hx, hst⟩ := hst
  have h9 := k p l e s m args below meth c dC dI ad ca A H locs ls E hP hS hσ hlv ⟨toInt_r64 _, hst⟩ hl
  have e9 : Int64.ofInt (lO x y) = Int64.ofInt x ||| Int64.ofInt y := Int64.ofInt_toInt _
  simp only [List.map_cons, sr_rv] at h9
  rw [e9] at h9
  exact lv_lor E.1 E.2.1 hd h9

theorem g_lshl {x y : Int} (hd : decode cc pc = .ok (.lshl, 1)) (hn : pc + 1 = pc')  (k : sr_G own cc nL ret d pc' lv (vL (lShl x y) :: st) σ Q) : sr_G own cc nL ret d pc lv (vI y :: vL x :: st) σ Q := by
  subst hn
  intro p l e s m args below meth c dC dI ad ca A H locs ls E hP hS hσ hlv hst hl
  obtain ⟨hy, hx, hst⟩ := hst
  have h9 := k p l e s m args below meth c dC dI ad ca A H locs ls E hP hS hσ hlv ⟨toInt_r64 _, hst⟩ hl
  have e9 : Int64.ofInt (lShl x y) = Int64.ofInt x <<< ((Int32.ofInt y).toInt64 &&& 63) := Int64.ofInt_toInt _
  simp only [List.map_cons, sr_rv] at h9
  rw [e9] at h9
  exact lv_lshl E.1 E.2.1 hd rfl h9

theorem g_lshr {x y : Int} (hd : decode cc pc = .ok (.lshr, 1)) (hn : pc + 1 = pc')  (k : sr_G own cc nL ret d pc' lv (vL (lShr x y) :: st) σ Q) : sr_G own cc nL ret d pc lv (vI y :: vL x :: st) σ Q := by
  subst hn
  intro p l e s m args below meth c dC dI ad ca A H locs ls E hP hS hσ hlv hst hl
  obtain ⟨hy, hx, hst⟩ := hst
  have h9 := k p l e s m args below meth c dC dI ad ca A H locs ls E hP hS hσ hlv ⟨toInt_r64 _, hst⟩ hl
  have e9 : Int64.ofInt (lShr x y) = Int64.ofInt x >>> ((Int32.ofInt y).toInt64 &&& 63) := Int64.ofInt_toInt _
  simp only [List.map_cons, sr_rv] at h9
  rw [e9] at h9
  exact lv_lshr E.1 E.2.1 hd rfl h9

theorem g_lushr {x y : Int} (hd : decode cc pc = .ok (.lushr, 1)) (hn : pc + 1 = pc')  (k : sr_G own cc nL ret d pc' lv (vL (lUshr x y) :: st) σ Q) : sr_G own cc nL ret d pc lv (vI y :: vL x :: st) σ Q := by
  subst hn
  intro p l e s m args below meth c dC dI ad ca A H locs ls E hP hS hσ hlv hst hl
  obtain ⟨hy, hx, hst⟩ := hst
  have h9 := k p l e s m args below meth c dC dI ad ca A H locs ls E hP hS hσ hlv ⟨toInt_r64 _, hst⟩ hl
  have e9 : Int64.ofInt (lUshr x y) = ((Int64.ofInt x).toUInt64 >>> ((Int32.ofInt y).toInt64.toUInt64 &&& Int64.toUInt64 63)).toInt64 := Int64.ofInt_toInt _
  simp only [List.map_cons, sr_rv] at h9
  rw [e9] at h9
  exact lv_lushr E.1 E.2.1 hd rfl h9

theorem g_lcmp {x y : Int} (hd : decode cc pc = .ok (.lcmp, 1)) (hn : pc + 1 = pc')  (k : sr_G own cc nL ret d pc' lv (vI (lC x y) :: st) σ Q) : sr_G own cc nL ret d pc lv (vL y :: vL x :: st) σ Q := by
  subst hn
  intro p l e s m args below meth c dC dI ad ca A H locs ls E hP hS hσ hlv hst hl
  obtain ⟨hy, hx, hst⟩ := hst
  have h9 := k p l e s m args below meth c dC dI ad ca A H locs ls E hP hS hσ hlv ⟨lC_r x y, hst⟩ hl
  have e9 : Int32.ofInt (lC x y) = lg_cmp (Int64.ofInt x) (Int64.ofInt y) := lC_of hx hy
  simp only [List.map_cons, sr_rv] at h9
  rw [e9] at h9
  exact W.lcmp E.1 E.2.1 hd h9

theorem g_i2l {x : Int} (hd : decode cc pc = .ok (.i2l, 1)) (hn : pc + 1 = pc') (k : sr_G own cc nL ret d pc' lv (vL (x) :: st) σ Q) : sr_G own cc nL ret d pc lv (vI x :: st) σ Q := by
  subst hn
  intro p l e s m args below meth c dC dI ad ca A H locs ls E hP hS hσ hlv hst hl
  obtain ⟨hx, hst⟩ := hst
  have h9 := k p l e s m args below meth c dC dI ad ca A H locs ls E hP hS hσ hlv ⟨r32_64 hx, hst⟩ hl
  refine lv_i2l E.1 E.2.1 hd ?_ h9
  show (Int32.ofInt x).toInt64 = Int64.ofInt x
  apply Int64.toInt_inj.mp
  rw [Int32.toInt_toInt64, of32 hx, of64 (r32_64 hx)]

theorem g_l2i {x : Int} (hd : decode cc pc = .ok (.l2i, 1)) (hn : pc + 1 = pc') (k : sr_G own cc nL ret d pc' lv (vI (w32 x) :: st) σ Q) : sr_G own cc nL ret d pc lv (vL x :: st) σ Q := by
  subst hn
  intro p l e s m args below meth c dC dI ad ca A H locs ls E hP hS hσ hlv hst hl
  obtain ⟨hx, hst⟩ := hst
  have h9 := k p l e s m args below meth c dC dI ad ca A H locs ls E hP hS hσ hlv ⟨w32_r _, hst⟩ hl
  refine lv_l2i E.1 E.2.1 hd ?_ h9
  show (Int64.ofInt x).toInt32 = Int32.ofInt (w32 x)
  apply Int32.toInt_inj.mp
  rw [Int64.toInt_toInt32, of64 hx, ofw32, Int32.toInt_ofInt]

theorem g_i2b {x : Int} (hd : decode cc pc = .ok (.i2b, 1)) (hn : pc + 1 = pc') (k : sr_G own cc nL ret d pc' lv (vI (w8 x) :: st) σ Q) : sr_G own cc nL ret d pc lv (vI x :: st) σ Q := by
  subst hn
  intro p l e s m args below meth c dC dI ad ca A H locs ls E hP hS hσ hlv hst hl
  obtain ⟨hx, hst⟩ := hst
  have h9 := k p l e s m args below meth c dC dI ad ca A H locs ls E hP hS hσ hlv ⟨w8_r x, hst⟩ hl
  refine lv_i2b E.1 E.2.1 hd ?_ h9
  show (Int32.ofInt x).toInt8.toInt32 = Int32.ofInt (w8 x)
  apply Int32.toInt_inj.mp
  rw [Int8.toInt_toInt32, Int32.toInt_toInt8, of32 hx, of32 (by unfold r32 w8; omega), w8_bmod]

theorem g_i2s {x : Int} (hd : decode cc pc = .ok (.i2s, 1)) (hn : pc + 1 = pc') (k : sr_G own cc nL ret d pc' lv (vI (w16 x) :: st) σ Q) : sr_G own cc nL ret d pc lv (vI x :: st) σ Q := by
  subst hn
  intro p l e s m args below meth c dC dI ad ca A H locs ls E hP hS hσ hlv hst hl
  obtain ⟨hx, hst⟩ := hst
  have h9 := k p l e s m args below meth c dC dI ad ca A H locs ls E hP hS hσ hlv ⟨w16_r x, hst⟩ hl
  refine lv_i2s E.1 E.2.1 hd ?_ h9
  show (Int32.ofInt x).toInt16.toInt32 = Int32.ofInt (w16 x)
  apply Int32.toInt_inj.mp
  rw [Int16.toInt_toInt32, Int32.toInt_toInt16, of32 hx, of32 (by unfold r32 w16; omega), w16_bmod]

theorem g_pop {v : Int} (hd : decode cc pc = .ok (.pop, 1)) (hn : pc + 1 = pc') (k : sr_G own cc nL ret d pc' lv (st) σ Q) : sr_G own cc nL ret d pc lv (vI v :: st) σ Q := by
  subst hn
  intro p l e s m args below meth c dC dI ad ca A H locs ls E hP hS hσ hlv hst hl
  refine lv_pop E.1 E.2.1 hd rfl ?_
  exact k p l e s m args below meth c dC dI ad ca A H locs ls E hP hS hσ hlv hst.2 hl

theorem g_dupR {v : Nat} (hd : decode cc pc = .ok (.dup, 1)) (hn : pc + 1 = pc') (k : sr_G own cc nL ret d pc' lv (vR v :: vR v :: st) σ Q) : sr_G own cc nL ret d pc lv (vR v :: st) σ Q := by
  subst hn
  intro p l e s m args below meth c dC dI ad ca A H locs ls E hP hS hσ hlv hst hl
  refine lv_dup E.1 E.2.1 hd rfl ?_
  exact k p l e s m args below meth c dC dI ad ca A H locs ls E hP hS hσ hlv ⟨hst.1, hst⟩ hl

theorem g_dupI {v : Int} (hd : decode cc pc = .ok (.dup, 1)) (hn : pc + 1 = pc') (k : sr_G own cc nL ret d pc' lv (vI v :: vI v :: st) σ Q) : sr_G own cc nL ret d pc lv (vI v :: st) σ Q := by
  subst hn
  intro p l e s m args below meth c dC dI ad ca A H locs ls E hP hS hσ hlv hst hl
  refine lv_dup E.1 E.2.1 hd rfl ?_
  exact k p l e s m args below meth c dC dI ad ca A H locs ls E hP hS hσ hlv ⟨hst.1, hst⟩ hl

theorem g_dup2 {v : Int} {o : Nat} (hd : decode cc pc = .ok (.dup2, 1)) (hn : pc + 1 = pc') (k : sr_G own cc nL ret d pc' lv (vI v :: vR o :: vI v :: vR o :: st) σ Q) : sr_G own cc nL ret d pc lv (vI v :: vR o :: st) σ Q := by
  subst hn
  intro p l e s m args below meth c dC dI ad ca A H locs ls E hP hS hσ hlv hst hl
  refine lv_dup2_11 E.1 E.2.1 hd rfl rfl ?_
  exact k p l e s m args below meth c dC dI ad ca A H locs ls E hP hS hσ hlv ⟨hst.1, hst.2.1, hst⟩ hl

theorem g_goto {off : Int} (hd : decode cc pc = .ok (.goto off, 3)) (ht : (pc : Int) + off = (pc' : Int)) (k : sr_G own cc nL ret d pc' lv (st) σ Q) : sr_G own cc nL ret d pc lv (st) σ Q := by
  intro p l e s m args below meth c dC dI ad ca A H locs ls E hP hS hσ hlv hst hl
  refine lv_goto E.1 E.2.1 hd ht ?_
  exact k p l e s m args below meth c dC dI ad ca A H locs ls E hP hS hσ hlv hst hl

theorem g_if_eq {x : Int} {off : Int} {tgt : Nat} (hd : decode cc pc = .ok (.ifCond .eq off, 3)) (ht : (pc : Int) + off = (tgt : Int)) (hn : pc + 3 = pc') (kt : x = 0 → sr_G own cc nL ret d tgt lv (st) σ Q) (kf : ¬ x = 0 → sr_G own cc nL ret d pc' lv (st) σ Q) : sr_G own cc nL ret d pc lv (vI x :: st) σ Q := by
  subst hn
  intro p l e s m args below meth c dC dI ad ca A H locs ls E hP hS hσ hlv hst hl
  refine lv_if_eq E.1 E.2.1 hd ht (fun h => ?_) (fun h => ?_)
  · exact kt ((eq32 hst.1 r32_0).mp h) p l e s m args below meth c dC dI ad ca A H locs ls E hP hS hσ hlv hst.2 hl
  · exact kf ((not_congr (eq32 hst.1 r32_0)).mp h) p l e s m args below meth c dC dI ad ca A H locs ls E hP hS hσ hlv hst.2 hl

theorem g_if_ne {x : Int} {off : Int} {tgt : Nat} (hd : decode cc pc = .ok (.ifCond .ne off, 3)) (ht : (pc : Int) + off = (tgt : Int)) (hn : pc + 3 = pc') (kt : ¬ x = 0 → sr_G own cc nL ret d tgt lv (st) σ Q) (kf : x = 0 → sr_G own cc nL ret d pc' lv (st) σ Q) : sr_G own cc nL ret d pc lv (vI x :: st) σ Q := by
  subst hn
  intro p l e s m args below meth c dC dI ad ca A H locs ls E hP hS hσ hlv hst hl
  refine lv_if_ne E.1 E.2.1 hd ht (fun h => ?_) (fun h => ?_)
  · exact kt ((not_congr (eq32 hst.1 r32_0)).mp h) p l e s m args below meth c dC dI ad ca A H locs ls E hP hS hσ hlv hst.2 hl
  · exact kf ((eq32 hst.1 r32_0).mp h) p l e s m args below meth c dC dI ad ca A H locs ls E hP hS hσ hlv hst.2 hl

theorem g_if_lt {x : Int} {off : Int} {tgt : Nat} (hd : decode cc pc = .ok (.ifCond .lt off, 3)) (ht : (pc : Int) + off = (tgt : Int)) (hn : pc + 3 = pc') (kt : x < 0 → sr_G own cc nL ret d tgt lv (st) σ Q) (kf : ¬ x < 0 → sr_G own cc nL ret d pc' lv (st) σ Q) : sr_G own cc nL ret d pc lv (vI x :: st) σ Q := by
  subst hn
  intro p l e s m args below meth c dC dI ad ca A H locs ls E hP hS hσ hlv hst hl
  refine lv_if_lt E.1 E.2.1 hd ht (fun h => ?_) (fun h => ?_)
  · exact kt ((lt32 hst.1 r32_0).mp h) p l e s m args below meth c dC dI ad ca A H locs ls E hP hS hσ hlv hst.2 hl
  · exact kf ((not_congr (lt32 hst.1 r32_0)).mp h) p l e s m args below meth c dC dI ad ca A H locs ls E hP hS hσ hlv hst.2 hl

theorem g_if_ge {x : Int} {off : Int} {tgt : Nat} (hd : decode cc pc = .ok (.ifCond .ge off, 3)) (ht : (pc : Int) + off = (tgt : Int)) (hn : pc + 3 = pc') (kt : 0 ≤ x → sr_G own cc nL ret d tgt lv (st) σ Q) (kf : ¬ 0 ≤ x → sr_G own cc nL ret d pc' lv (st) σ Q) : sr_G own cc nL ret d pc lv (vI x :: st) σ Q := by
  subst hn
  intro p l e s m args below meth c dC dI ad ca A H locs ls E hP hS hσ hlv hst hl
  refine lv_if_ge E.1 E.2.1 hd ht (fun h => ?_) (fun h => ?_)
  · exact kt ((le32 r32_0 hst.1).mp h) p l e s m args below meth c dC dI ad ca A H locs ls E hP hS hσ hlv hst.2 hl
  · exact kf ((not_congr (le32 r32_0 hst.1)).mp h) p l e s m args below meth c dC dI ad ca A H locs ls E hP hS hσ hlv hst.2 hl

theorem g_if_gt {x : Int} {off : Int} {tgt : Nat} (hd : decode cc pc = .ok (.ifCond .gt off, 3)) (ht : (pc : Int) + off = (tgt : Int)) (hn : pc + 3 = pc') (kt : 0 < x → sr_G own cc nL ret d tgt lv (st) σ Q) (kf : ¬ 0 < x → sr_G own cc nL ret d pc' lv (st) σ Q) : sr_G own cc nL ret d pc lv (vI x :: st) σ Q := by
  subst hn
  intro p l e s m args below meth c dC dI ad ca A H locs ls E hP hS hσ hlv hst hl
  refine lv_if_gt E.1 E.2.1 hd ht (fun h => ?_) (fun h => ?_)
  · exact kt ((lt32 r32_0 hst.1).mp h) p l e s m args below meth c dC dI ad ca A H locs ls E hP hS hσ hlv hst.2 hl
  · exact kf ((not_congr (lt32 r32_0 hst.1)).mp h) p l e s m args below meth c dC dI ad ca A H locs ls E hP hS hσ hlv hst.2 hl

theorem g_if_le {x : Int} {off : Int} {tgt : Nat} (hd : decode cc pc = .ok (.ifCond .le off, 3)) (ht : (pc : Int) + off = (tgt : Int)) (hn : pc + 3 = pc') (kt : x ≤ 0 → sr_G own cc nL ret d tgt lv (st) σ Q) (kf : ¬ x ≤ 0 → sr_G own cc nL ret d pc' lv (st) σ Q) : sr_G own cc nL ret d pc lv (vI x :: st) σ Q := by
  subst hn
  intro p l e s m args below meth c dC dI ad ca A H locs ls E hP hS hσ hlv hst hl
  refine lv_if_le E.1 E.2.1 hd ht (fun h => ?_) (fun h => ?_)
  · exact kt ((le32 hst.1 r32_0).mp h) p l e s m args below meth c dC dI ad ca A H locs ls E hP hS hσ hlv hst.2 hl
  · exact kf ((not_congr (le32 hst.1 r32_0)).mp h) p l e s m args below meth c dC dI ad ca A H locs ls E hP hS hσ hlv hst.2 hl

theorem g_ic_eq {x y : Int} {off : Int} {tgt : Nat} (hd : decode cc pc = .ok (.if_icmp .eq off, 3)) (ht : (pc : Int) + off = (tgt : Int)) (hn : pc + 3 = pc') (kt : x = y → sr_G own cc nL ret d tgt lv (st) σ Q) (kf : ¬ x = y → sr_G own cc nL ret d pc' lv (st) σ Q) : sr_G own cc nL ret d pc lv (vI y :: vI x :: st) σ Q := by
  subst hn
  intro p l e s m args below meth c dC dI ad ca A H locs ls E hP hS hσ hlv hst hl
  refine lv_icmp_eq E.1 E.2.1 hd ht (fun h => ?_) (fun h => ?_)
  · exact kt ((eq32 hst.2.1 hst.1).mp h) p l e s m args below meth c dC dI ad ca A H locs ls E hP hS hσ hlv hst.2.2 hl
  · exact kf ((not_congr (eq32 hst.2.1 hst.1)).mp h) p l e s m args below meth c dC dI ad ca A H locs ls E hP hS hσ hlv hst.2.2 hl

theorem g_ic_ne {x y : Int} {off : Int} {tgt : Nat} (hd : decode cc pc = .ok (.if_icmp .ne off, 3)) (ht : (pc : Int) + off = (tgt : Int)) (hn : pc + 3 = pc') (kt : ¬ x = y → sr_G own cc nL ret d tgt lv (st) σ Q) (kf : x = y → sr_G own cc nL ret d pc' lv (st) σ Q) : sr_G own cc nL ret d pc lv (vI y :: vI x :: st) σ Q := by
  subst hn
  intro p l e s m args below meth c dC dI ad ca A H locs ls E hP hS hσ hlv hst hl
  refine lv_icmp_ne E.1 E.2.1 hd ht (fun h => ?_) (fun h => ?_)
  · exact kt ((not_congr (eq32 hst.2.1 hst.1)).mp h) p l e s m args below meth c dC dI ad ca A H locs ls E hP hS hσ hlv hst.2.2 hl
  · exact kf ((eq32 hst.2.1 hst.1).mp h) p l e s m args below meth c dC dI ad ca A H locs ls E hP hS hσ hlv hst.2.2 hl

theorem g_ic_lt {x y : Int} {off : Int} {tgt : Nat} (hd : decode cc pc = .ok (.if_icmp .lt off, 3)) (ht : (pc : Int) + off = (tgt : Int)) (hn : pc + 3 = pc') (kt : x < y → sr_G own cc nL ret d tgt lv (st) σ Q) (kf : ¬ x < y → sr_G own cc nL ret d pc' lv (st) σ Q) : sr_G own cc nL ret d pc lv (vI y :: vI x :: st) σ Q := by
  subst hn
  intro p l e s m args below meth c dC dI ad ca A H locs ls E hP hS hσ hlv hst hl
  refine lv_icmp_lt E.1 E.2.1 hd ht (fun h => ?_) (fun h => ?_)
  · exact kt ((lt32 hst.2.1 hst.1).mp h) p l e s m args below meth c dC dI ad ca A H locs ls E hP hS hσ hlv hst.2.2 hl
  · exact kf ((not_congr (lt32 hst.2.1 hst.1)).mp h) p l e s m args below meth c dC dI ad ca A H locs ls E hP hS hσ hlv hst.2.2 hl

theorem g_ic_ge {x y : Int} {off : Int} {tgt : Nat} (hd : decode cc pc = .ok (.if_icmp .ge off, 3)) (ht : (pc : Int) + off = (tgt : Int)) (hn : pc + 3 = pc') (kt : y ≤ x → sr_G own cc nL ret d tgt lv (st) σ Q) (kf : ¬ y ≤ x → sr_G own cc nL ret d pc' lv (st) σ Q) : sr_G own cc nL ret d pc lv (vI y :: vI x :: st) σ Q := by
  subst hn
  intro p l e s m args below meth c dC dI ad ca A H locs ls E hP hS hσ hlv hst hl
  refine lv_icmp_ge E.1 E.2.1 hd ht (fun h => ?_) (fun h => ?_)
  · exact kt ((le32 hst.1 hst.2.1).mp h) p l e s m args below meth c dC dI ad ca A H locs ls E hP hS hσ hlv hst.2.2 hl
  · exact kf ((not_congr (le32 hst.1 hst.2.1)).mp h) p l e s m args below meth c dC dI ad ca A H locs ls E hP hS hσ hlv hst.2.2 hl

theorem g_ic_gt {x y : Int} {off : Int} {tgt : Nat} (hd : decode cc pc = .ok (.if_icmp .gt off, 3)) (ht : (pc : Int) + off = (tgt : Int)) (hn : pc + 3 = pc') (kt : y < x → sr_G own cc nL ret d tgt lv (st) σ Q) (kf : ¬ y < x → sr_G own cc nL ret d pc' lv (st) σ Q) : sr_G own cc nL ret d pc lv (vI y :: vI x :: st) σ Q := by
  subst hn
  intro p l e s m args below meth c dC dI ad ca A H locs ls E hP hS hσ hlv hst hl
  refine lv_icmp_gt E.1 E.2.1 hd ht (fun h => ?_) (fun h => ?_)
  · exact kt ((lt32 hst.1 hst.2.1).mp h) p l e s m args below meth c dC dI ad ca A H locs ls E hP hS hσ hlv hst.2.2 hl
  · exact kf ((not_congr (lt32 hst.1 hst.2.1)).mp h) p l e s m args below meth c dC dI ad ca A H locs ls E hP hS hσ hlv hst.2.2 hl

theorem g_ic_le {x y : Int} {off : Int} {tgt : Nat} (hd : decode cc pc = .ok (.if_icmp .le off, 3)) (ht : (pc : Int) + off = (tgt : Int)) (hn : pc + 3 = pc') (kt : x ≤ y → sr_G own cc nL ret d tgt lv (st) σ Q) (kf : ¬ x ≤ y → sr_G own cc nL ret d pc' lv (st) σ Q) : sr_G own cc nL ret d pc lv (vI y :: vI x :: st) σ Q := by
  subst hn
  intro p l e s m args below meth c dC dI ad ca A H locs ls E hP hS hσ hlv hst hl
  refine lv_icmp_le E.1 E.2.1 hd ht (fun h => ?_) (fun h => ?_)
  · exact kt ((le32 hst.2.1 hst.1).mp h) p l e s m args below meth c dC dI ad ca A H locs ls E hP hS hσ hlv hst.2.2 hl
  · exact kf ((not_congr (le32 hst.2.1 hst.1)).mp h) p l e s m args below meth c dC dI ad ca A H locs ls E hP hS hσ hlv hst.2.2 hl

theorem g_lc_eq {x y : Int} {off : Int} {tgt : Nat} (hd : decode cc pc = .ok (.lcmp, 1)) (hd2 : decode cc (pc + 1) = .ok (.ifCond .eq off, 3)) (ht : ((pc + 1 : Nat) : Int) + off = (tgt : Int)) (hn : pc + 1 + 3 = pc') (kt : x = y → sr_G own cc nL ret d tgt lv (st) σ Q) (kf : ¬ x = y → sr_G own cc nL ret d pc' lv (st) σ Q) : sr_G own cc nL ret d pc lv (vL y :: vL x :: st) σ Q :=
  g_lcmp hd rfl (g_if_eq hd2 ht hn (fun h => kt ((lC_eq x y).mp h)) (fun h => kf (fun q => h ((lC_eq x y).mpr q))))

theorem g_lc_ne {x y : Int} {off : Int} {tgt : Nat} (hd : decode cc pc = .ok (.lcmp, 1)) (hd2 : decode cc (pc + 1) = .ok (.ifCond .ne off, 3)) (ht : ((pc + 1 : Nat) : Int) + off = (tgt : Int)) (hn : pc + 1 + 3 = pc') (kt : ¬ x = y → sr_G own cc nL ret d tgt lv (st) σ Q) (kf : x = y → sr_G own cc nL ret d pc' lv (st) σ Q) : sr_G own cc nL ret d pc lv (vL y :: vL x :: st) σ Q :=
  g_lcmp hd rfl (g_if_ne hd2 ht hn (fun h => kt (fun q => h ((lC_eq x y).mpr q))) (fun h => kf ((lC_eq x y).mp h)))

theorem g_lc_lt {x y : Int} {off : Int} {tgt : Nat} (hd : decode cc pc = .ok (.lcmp, 1)) (hd2 : decode cc (pc + 1) = .ok (.ifCond .lt off, 3)) (ht : ((pc + 1 : Nat) : Int) + off = (tgt : Int)) (hn : pc + 1 + 3 = pc') (kt : x < y → sr_G own cc nL ret d tgt lv (st) σ Q) (kf : ¬ x < y → sr_G own cc nL ret d pc' lv (st) σ Q) : sr_G own cc nL ret d pc lv (vL y :: vL x :: st) σ Q :=
  g_lcmp hd rfl (g_if_lt hd2 ht hn (fun h => kt ((lC_lt x y).mp h)) (fun h => kf (fun q => h ((lC_lt x y).mpr q))))

theorem g_lc_ge {x y : Int} {off : Int} {tgt : Nat} (hd : decode cc pc = .ok (.lcmp, 1)) (hd2 : decode cc (pc + 1) = .ok (.ifCond .ge off, 3)) (ht : ((pc + 1 : Nat) : Int) + off = (tgt : Int)) (hn : pc + 1 + 3 = pc') (kt : y ≤ x → sr_G own cc nL ret d tgt lv (st) σ Q) (kf : ¬ y ≤ x → sr_G own cc nL ret d pc' lv (st) σ Q) : sr_G own cc nL ret d pc lv (vL y :: vL x :: st) σ Q :=
  g_lcmp hd rfl (g_if_ge hd2 ht hn (fun h => kt ((lC_ge x y).mp h)) (fun h => kf (fun q => h ((lC_ge x y).mpr q))))

theorem g_lc_gt {x y : Int} {off : Int} {tgt : Nat} (hd : decode cc pc = .ok (.lcmp, 1)) (hd2 : decode cc (pc + 1) = .ok (.ifCond .gt off, 3)) (ht : ((pc + 1 : Nat) : Int) + off = (tgt : Int)) (hn : pc + 1 + 3 = pc') (kt : y < x → sr_G own cc nL ret d tgt lv (st) σ Q) (kf : ¬ y < x → sr_G own cc nL ret d pc' lv (st) σ Q) : sr_G own cc nL ret d pc lv (vL y :: vL x :: st) σ Q :=
  g_lcmp hd rfl (g_if_gt hd2 ht hn (fun h => kt ((lC_gt x y).mp h)) (fun h => kf (fun q => h ((lC_gt x y).mpr q))))

theorem g_lc_le {x y : Int} {off : Int} {tgt : Nat} (hd : decode cc pc = .ok (.lcmp, 1)) (hd2 : decode cc (pc + 1) = .ok (.ifCond .le off, 3)) (ht : ((pc + 1 : Nat) : Int) + off = (tgt : Int)) (hn : pc + 1 + 3 = pc') (kt : x ≤ y → sr_G own cc nL ret d tgt lv (st) σ Q) (kf : ¬ x ≤ y → sr_G own cc nL ret d pc' lv (st) σ Q) : sr_G own cc nL ret d pc lv (vL y :: vL x :: st) σ Q :=
  g_lcmp hd rfl (g_if_le hd2 ht hn (fun h => kt ((lC_le x y).mp h)) (fun h => kf (fun q => h ((lC_le x y).mpr q))))
end sr_rules
