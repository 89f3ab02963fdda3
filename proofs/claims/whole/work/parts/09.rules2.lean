/-! ===== fields, arrays, calls, ends ===== -/
def sr_FL (own : String) (idx ci k : Nat) : Prop := ∃ q : vw_C, vwCl[ci]? = some q ∧ k < q.2.2 ∧ q.2.2 = nf ci ∧ (∀ w ∈ u_ws q.1 q.2.1 q.2.2, w ∈ gW) ∧ Cond.fieldLink own idx (q.2.1 k).1 (q.2.1 k).2.1 (q.2.1 k).2.2.1 ∈ gW
def sr_FP (own : String) (idx ci k : Nat) : Prop := ∃ (q : vw_C) (ty : Nat → FieldType), vwCl[ci]? = some q ∧ k < q.2.2 ∧ q.2.2 = nf ci ∧ (∀ w ∈ u_ws q.1 q.2.1 q.2.2, w ∈ gW) ∧ Cond.fieldLink own idx (q.2.1 k).1 (q.2.1 k).2.1 (q.2.1 k).2.2.1 ∈ gW ∧ (∀ k, k < q.2.2 → parseFieldDescriptor (q.2.1 k).2.2.1 = some (ty k)) ∧ (∀ a, a < q.2.2 → ∀ b, b < q.2.2 → a ≠ b → (q.2.1 a).2.1 ≠ (q.2.1 b).2.1) ∧ (q.2.1 k).2.2.2 = false ∧ ((fk ci k = 0 ∧ ty k = .int) ∨ (fk ci k = 1 ∧ ty k = .long) ∨ (fk ci k = 3 ∧ ty k = .boolean))
def sr_FN (own : String) (idx ci k : Nat) : Prop := ∃ (q : vw_C) (host : String), vwCl[ci]? = some q ∧ k < q.2.2 ∧ q.2.2 = nf ci ∧ (∀ w ∈ u_ws q.1 q.2.1 q.2.2, w ∈ gW) ∧ Cond.fieldLinkNest own idx (q.2.1 k).1 (q.2.1 k).2.1 (q.2.1 k).2.2.1 host = sr_nest
theorem nar_bool {z : Int} (h : z = 0 ∨ z = 1) : narrow .boolean (.int (Int32.ofInt z)) = .int (Int32.ofInt z) := by
  rcases h with rfl | rfl <;> rfl
theorem vnar_bool {z : Int} (h : z = 0 ∨ z = 1) : vp_nar .boolean (Int32.ofInt z) = Int32.ofInt z := by
  rcases h with rfl | rfl <;> rfl
theorem fits_bool {z : Int} (h : z = 0 ∨ z = 1) : fits .boolean (.int (Int32.ofInt z)) = true := by
  rcases h with rfl | rfl <;> rfl
theorem r32_bool {z : Int} (h : z = 0 ∨ z = 1) : r32 z := by unfold r32; omega
section sr_rules2
variable {own : String} {cc : ByteArray} {nL : Nat} {ret : Option FieldType} {d pc pc' : Nat} {lv lv' : List (Nat × Vl)} {st : List Vl} {σ : Sto} {Q : Int → Sto → Prop}
theorem g_getI {idx ci kf o : Nat} (hd : decode cc pc = .ok (.getfield idx, 3)) (hn : pc + 3 = pc') (hF : sr_FL own idx ci kf) (hko : kd o = 10 + ci) (hf : fk ci kf = 0 ∨ fk ci kf = 3) (k : sr_G own cc nL ret d pc' lv (vI (σ o kf) :: st) σ Q) : sr_G own cc nL ret d pc lv (vR o :: st) σ Q := by
  subst hn
  intro p l e s m args below meth c dC dI ad ca A H locs ls E hP hS hσ hlv hst hl
  obtain ⟨q, h1, h2, h3, h4, h5⟩ := hF
  have hts := E.2.2.2.2.2.2.1
  refine va_get (D := (dC, dI)) (ci := ci) (Ts := gW) E.1 E.2.1 hts h4 E.2.2.2.2.2.1 E.2.2.2.2.2.2.2.2.1 hP o (by rw [rW_get (kd_lt hko (by omega)), cE_obj hko]) h1 _ h2 (hts _ h5) (fun _ h9 => h9) (by rw [objC_get hko (by omega), fV_int hko hf]) hd ?_
  exact k p l e s m args below meth c dC dI ad ca A H locs ls E hP hS hσ hlv ⟨okT_32 (hσ o _) (by rw [sty_obj hko]; omega), hst.2⟩ hl
theorem g_getIN {idx ci kf o : Nat} (hd : decode cc pc = .ok (.getfield idx, 3)) (hn : pc + 3 = pc') (hF : sr_FN own idx ci kf) (hko : kd o = 10 + ci) (hf : fk ci kf = 0 ∨ fk ci kf = 3) (k : sr_G own cc nL ret d pc' lv (vI (σ o kf) :: st) σ Q) : sr_G own cc nL ret d pc lv (vR o :: st) σ Q := by
  subst hn
  intro p l e s m args below meth c dC dI ad ca A H locs ls E hP hS hσ hlv hst hl
  obtain ⟨q, host, h1, h2, h3, h4, h5⟩ := hF
  have hts := E.2.2.2.2.2.2.1
  refine va_getN (D := (dC, dI)) (ci := ci) (Ts := gW) E.1 E.2.1 hts h4 E.2.2.2.2.2.1 E.2.2.2.2.2.2.2.2.1 hP o (by rw [rW_get (kd_lt hko (by omega)), cE_obj hko]) h1 _ h2 (by rw [h5]; exact va_Nw.use rfl E.2.2.2.2.2.2.2.2.2.2.1) (fun _ h9 => h9) (by rw [objC_get hko (by omega), fV_int hko hf]) hd ?_
  exact k p l e s m args below meth c dC dI ad ca A H locs ls E hP hS hσ hlv ⟨okT_32 (hσ o _) (by rw [sty_obj hko]; omega), hst.2⟩ hl
theorem g_getL {idx ci kf o : Nat} (hd : decode cc pc = .ok (.getfield idx, 3)) (hn : pc + 3 = pc') (hF : sr_FL own idx ci kf) (hko : kd o = 10 + ci) (hf : fk ci kf = 1) (k : sr_G own cc nL ret d pc' lv (vL (σ o kf) :: st) σ Q) : sr_G own cc nL ret d pc lv (vR o :: st) σ Q := by
  subst hn
  intro p l e s m args below meth c dC dI ad ca A H locs ls E hP hS hσ hlv hst hl
  obtain ⟨q, h1, h2, h3, h4, h5⟩ := hF
  have hts := E.2.2.2.2.2.2.1
  refine va_get (D := (dC, dI)) (ci := ci) (Ts := gW) E.1 E.2.1 hts h4 E.2.2.2.2.2.1 E.2.2.2.2.2.2.2.2.1 hP o (by rw [rW_get (kd_lt hko (by omega)), cE_obj hko]) h1 _ h2 (hts _ h5) (fun _ h9 => h9) (by rw [objC_get hko (by omega), fV_long hko hf]) hd ?_
  exact k p l e s m args below meth c dC dI ad ca A H locs ls E hP hS hσ hlv ⟨okT_64 (hσ o _) (by rw [sty_obj hko]; exact hf), hst.2⟩ hl
theorem g_getR {idx ci kf o r : Nat} (hd : decode cc pc = .ok (.getfield idx, 3)) (hn : pc + 3 = pc') (hF : sr_FL own idx ci kf) (hko : kd o = 10 + ci) (hf : fk ci kf = 2) (hr : rfn o kf = r) (k : sr_G own cc nL ret d pc' lv (vR r :: st) σ Q) : sr_G own cc nL ret d pc lv (vR o :: st) σ Q := by
  subst hn
  subst hr
  intro p l e s m args below meth c dC dI ad ca A H locs ls E hP hS hσ hlv hst hl
  obtain ⟨q, h1, h2, h3, h4, h5⟩ := hF
  have hts := E.2.2.2.2.2.2.1
  refine va_get (D := (dC, dI)) (ci := ci) (Ts := gW) E.1 E.2.1 hts h4 E.2.2.2.2.2.1 E.2.2.2.2.2.2.2.2.1 hP o (by rw [rW_get (kd_lt hko (by omega)), cE_obj hko]) h1 _ h2 (hts _ h5) (fun _ h9 => h9) (by rw [objC_get hko (by omega), fV_ref hko hf]) hd ?_
  exact k p l e s m args below meth c dC dI ad ca A H locs ls E hP hS hσ hlv ⟨trivial, hst.2⟩ hl
theorem g_putI {idx ci kf o : Nat} {z : Int} (hd : decode cc pc = .ok (.putfield idx, 3)) (hn : pc + 3 = pc') (hF : sr_FP own idx ci kf) (hko : kd o = 10 + ci) (hf : fk ci kf = 0) (k : sr_G own cc nL ret d pc' lv st (up σ o kf z) Q) : sr_G own cc nL ret d pc lv (vI z :: vR o :: st) σ Q := by
  subst hn
  intro p l e s m args below meth c dC dI ad ca A H locs ls E hP hS hσ hlv hst hl
  obtain ⟨q, ty, h1, h2, h3, h4, h5, h6, h7, h8, h9⟩ := hF
  have hts := E.2.2.2.2.2.2.1
  have hoN := kd_lt hko (by omega)
  have hty : ty kf = .int := by
    rcases h9 with h | h | h
    · exact h.2
    · omega
    · omega
  refine va_put (D := (dC, dI)) (ci := ci) (ty := .int) (Ts := gW) E.1 E.2.1 hts h4 ty h6 h7 E.2.2.2.2.2.1 E.2.2.2.2.2.2.2.2.1 hP (E.2.2.2.2.2.2.2.2.2.1.va σ) hS o (by rw [rW_get hoN, cE_obj hko]) h1 _ h2 (hts _ h5) (fun _ h9 => h9) h8 (by rw [h6 _ h2, hty]) rfl rfl (by rw [objC_len hko]; omega) hd (fun H1 locs1 hP1 hD1 hS1 => ?_)
  have e2 : up σ o kf z o kf = z := by unfold up; rw [if_pos ⟨rfl, rfl⟩]
  have e1 : (sr_objC ad σ o).set kf (sr_rv ad (vI z)) = sr_objC ad (up σ o kf z) o := by
    have e0 := objC_set (ad := ad) (σ := σ) (z := z) hko (by omega) (fV_int (ad := ad) (σ := up σ o kf z) hko (Or.inl hf)).symm
    rw [e2] at e0
    exact e0
  rw [e1, rW_set hoN up_ne (cE_obj hko).symm] at hP1
  exact k p l e s m args below meth c dC dI ad ca A H1 locs1 ls E hP1 hS1 (okS_up hσ (by rw [sty_obj hko, hf]; exact hst.1)) hlv hst.2.2 hl
theorem g_putZ {idx ci kf o : Nat} {z : Int} (hd : decode cc pc = .ok (.putfield idx, 3)) (hn : pc + 3 = pc') (hF : sr_FP own idx ci kf) (hko : kd o = 10 + ci) (hf : fk ci kf = 3) (hz : z = 0 ∨ z = 1) (k : sr_G own cc nL ret d pc' lv st (up σ o kf z) Q) : sr_G own cc nL ret d pc lv (vI z :: vR o :: st) σ Q := by
  subst hn
  intro p l e s m args below meth c dC dI ad ca A H locs ls E hP hS hσ hlv hst hl
  obtain ⟨q, ty, h1, h2, h3, h4, h5, h6, h7, h8, h9⟩ := hF
  have hts := E.2.2.2.2.2.2.1
  have hoN := kd_lt hko (by omega)
  have hty : ty kf = .boolean := by
    rcases h9 with h | h | h
    · omega
    · omega
    · exact h.2
  refine va_put (D := (dC, dI)) (ci := ci) (ty := .boolean) (Ts := gW) E.1 E.2.1 hts h4 ty h6 h7 E.2.2.2.2.2.1 E.2.2.2.2.2.2.2.2.1 hP (E.2.2.2.2.2.2.2.2.2.1.va σ) hS o (by rw [rW_get hoN, cE_obj hko]) h1 _ h2 (hts _ h5) (fun _ h9 => h9) h8 (by rw [h6 _ h2, hty]) (nar_bool hz) (fits_bool hz) (by rw [objC_len hko]; omega) hd (fun H1 locs1 hP1 hD1 hS1 => ?_)
  have e2 : up σ o kf z o kf = z := by unfold up; rw [if_pos ⟨rfl, rfl⟩]
  have e1 : (sr_objC ad σ o).set kf (sr_rv ad (vI z)) = sr_objC ad (up σ o kf z) o := by
    have e0 := objC_set (ad := ad) (σ := σ) (z := z) hko (by omega) (fV_int (ad := ad) (σ := up σ o kf z) hko (Or.inr hf)).symm
    rw [e2] at e0
    exact e0
  rw [e1, rW_set hoN up_ne (cE_obj hko).symm] at hP1
  exact k p l e s m args below meth c dC dI ad ca A H1 locs1 ls E hP1 hS1 (okS_up hσ (by rw [sty_obj hko, hf]; exact hz)) hlv hst.2.2 hl
theorem g_putL {idx ci kf o : Nat} {z : Int} (hd : decode cc pc = .ok (.putfield idx, 3)) (hn : pc + 3 = pc') (hF : sr_FP own idx ci kf) (hko : kd o = 10 + ci) (hf : fk ci kf = 1) (k : sr_G own cc nL ret d pc' lv st (up σ o kf z) Q) : sr_G own cc nL ret d pc lv (vL z :: vR o :: st) σ Q := by
  subst hn
  intro p l e s m args below meth c dC dI ad ca A H locs ls E hP hS hσ hlv hst hl
  obtain ⟨q, ty, h1, h2, h3, h4, h5, h6, h7, h8, h9⟩ := hF
  have hts := E.2.2.2.2.2.2.1
  have hoN := kd_lt hko (by omega)
  have hty : ty kf = .long := by
    rcases h9 with h | h | h
    · omega
    · exact h.2
    · omega
  refine va_put (D := (dC, dI)) (ci := ci) (ty := .long) (Ts := gW) E.1 E.2.1 hts h4 ty h6 h7 E.2.2.2.2.2.1 E.2.2.2.2.2.2.2.2.1 hP (E.2.2.2.2.2.2.2.2.2.1.va σ) hS o (by rw [rW_get hoN, cE_obj hko]) h1 _ h2 (hts _ h5) (fun _ h9 => h9) h8 (by rw [h6 _ h2, hty]) rfl rfl (by rw [objC_len hko]; omega) hd (fun H1 locs1 hP1 hD1 hS1 => ?_)
  have e2 : up σ o kf z o kf = z := by unfold up; rw [if_pos ⟨rfl, rfl⟩]
  have e1 : (sr_objC ad σ o).set kf (sr_rv ad (vL z)) = sr_objC ad (up σ o kf z) o := by
    have e0 := objC_set (ad := ad) (σ := σ) (z := z) hko (by omega) (fV_long (ad := ad) (σ := up σ o kf z) hko hf).symm
    rw [e2] at e0
    exact e0
  rw [e1, rW_set hoN up_ne (cE_obj hko).symm] at hP1
  exact k p l e s m args below meth c dC dI ad ca A H1 locs1 ls E hP1 hS1 (okS_up hσ (by rw [sty_obj hko, hf]; exact hst.1)) hlv hst.2.2 hl
theorem g_iald {c0 : Nat} {z : Int} (hd : decode cc pc = .ok (.iaload, 1)) (hn : pc + 1 = pc') (hk : kd c0 = 1) (hi : inb z (al c0)) (k : sr_G own cc nL ret d pc' lv (vI (σ c0 z.toNat) :: st) σ Q) : sr_G own cc nL ret d pc lv (vI z :: vR c0 :: st) σ Q := by
  subst hn
  intro p l e s m args below meth c dC dI ad ca A H locs ls E hP hS hσ hlv hst hl
  have hN := kd_lt hk (by omega)
  obtain ⟨t, ht⟩ := tyW_get (ca := ca) hN (by omega)
  rw [hk] at ht
  refine va_iald (D := (dC, dI)) E.1 E.2.1 E.2.2.2.2.2.2.2.2.1 hP c0 t (by rw [rW_get hN, cE_int hk]) ht (vpin hst.1 hi) hd ?_
  rw [clamp32 hst.1]
  exact k p l e s m args below meth c dC dI ad ca A H locs ls E hP hS hσ hlv ⟨okT_32 (hσ c0 _) (by rw [sty_int hk]; omega), hst.2.2⟩ hl
theorem g_bald {c0 : Nat} {z : Int} (hd : decode cc pc = .ok (.baload, 1)) (hn : pc + 1 = pc') (hk : kd c0 = 3) (hi : inb z (al c0)) (k : sr_G own cc nL ret d pc' lv (vI (σ c0 z.toNat) :: st) σ Q) : sr_G own cc nL ret d pc lv (vI z :: vR c0 :: st) σ Q := by
  subst hn
  intro p l e s m args below meth c dC dI ad ca A H locs ls E hP hS hσ hlv hst hl
  have hN := kd_lt hk (by omega)
  obtain ⟨t, ht⟩ := tyW_get (ca := ca) hN (by omega)
  rw [hk] at ht
  refine va_zald (D := (dC, dI)) E.1 E.2.1 E.2.2.2.2.2.2.2.2.1 hP c0 t (by rw [rW_get hN, cE_bool hk]) ht (vpin hst.1 hi) hd ?_
  rw [clamp32 hst.1]
  exact k p l e s m args below meth c dC dI ad ca A H locs ls E hP hS hσ hlv ⟨okT_32 (hσ c0 _) (by rw [sty_bool hk]; omega), hst.2.2⟩ hl
theorem g_lald {c0 : Nat} {z : Int} (hd : decode cc pc = .ok (.laload, 1)) (hn : pc + 1 = pc') (hk : kd c0 = 2) (hi : inb z (al c0)) (k : sr_G own cc nL ret d pc' lv (vL (σ c0 z.toNat) :: st) σ Q) : sr_G own cc nL ret d pc lv (vI z :: vR c0 :: st) σ Q := by
  subst hn
  intro p l e s m args below meth c dC dI ad ca A H locs ls E hP hS hσ hlv hst hl
  have hN := kd_lt hk (by omega)
  obtain ⟨t, ht⟩ := tyW_get (ca := ca) hN (by omega)
  rw [hk] at ht
  refine va_lald (D := (dC, dI)) E.1 E.2.1 E.2.2.2.2.2.2.2.2.1 hP c0 t (by rw [rW_get hN, cE_long hk]) ht (vpin hst.1 hi) hd ?_
  rw [clamp32 hst.1]
  exact k p l e s m args below meth c dC dI ad ca A H locs ls E hP hS hσ hlv ⟨okT_64 (hσ c0 _) (sty_long hk), hst.2.2⟩ hl
theorem g_aald {c0 r : Nat} {z : Int} (hd : decode cc pc = .ok (.aaload, 1)) (hn : pc + 1 = pc') (hk : kd c0 = 4 ∨ kd c0 = 5) (hi : inb z (al c0)) (hr : rfn c0 z.toNat = r) (k : sr_G own cc nL ret d pc' lv (vR r :: st) σ Q) : sr_G own cc nL ret d pc lv (vI z :: vR c0 :: st) σ Q := by
  subst hn
  subst hr
  intro p l e s m args below meth c dC dI ad ca A H locs ls E hP hS hσ hlv hst hl
  have hN : c0 < NP := by
    rcases hk with h | h
    · exact kd_lt h (by omega)
    · exact kd_lt h (by omega)
  obtain ⟨t, ht⟩ := tyW_get (ca := ca) hN (by omega)
  have hty : ∃ C : String, sr_aty (kd c0) = .object C := by
    rcases hk with h | h
    · exact ⟨_, by rw [h]; rfl⟩
    · exact ⟨_, by rw [h]; rfl⟩
  obtain ⟨C, hC⟩ := hty
  rw [hC] at ht
  refine va_aldq (D := (dC, dI)) E.1 E.2.1 E.2.2.2.2.2.2.2.2.1 hP c0 t (by rw [rW_get hN, cE_ref hk]) ht (vpin hst.1 hi) hd ?_
  rw [clamp32 hst.1]
  exact k p l e s m args below meth c dC dI ad ca A H locs ls E hP hS hσ hlv ⟨trivial, hst.2.2⟩ hl
theorem g_iast {c0 : Nat} {z x : Int} (hd : decode cc pc = .ok (.iastore, 1)) (hn : pc + 1 = pc') (hk : kd c0 = 1) (hi : inb z (al c0)) (k : sr_G own cc nL ret d pc' lv st (up σ c0 z.toNat x) Q) : sr_G own cc nL ret d pc lv (vI x :: vI z :: vR c0 :: st) σ Q := by
  subst hn
  intro p l e s m args below meth c dC dI ad ca A H locs ls E hP hS hσ hlv hst hl
  have hN := kd_lt hk (by omega)
  obtain ⟨t, ht⟩ := tyW_get (ca := ca) hN (by omega)
  rw [hk] at ht
  refine va_iast (D := (dC, dI)) E.1 E.2.1 E.2.2.2.2.2.2.2.2.1 hP (E.2.2.2.2.2.2.2.2.2.1.va σ) hS c0 t (by rw [rW_get hN, cE_int hk]) ht (vpin hst.2.1 hi) hd (fun H1 locs1 hP1 hD1 hS1 => ?_)
  rw [clamp32 hst.2.1, upd32, rW_set hN up_ne (cE_int hk).symm] at hP1
  exact k p l e s m args below meth c dC dI ad ca A H1 locs1 ls E hP1 hS1 (okS_up hσ (by rw [sty_int hk]; exact hst.1)) hlv hst.2.2.2 hl
theorem g_bast {c0 : Nat} {z x : Int} (hd : decode cc pc = .ok (.bastore, 1)) (hn : pc + 1 = pc') (hk : kd c0 = 3) (hi : inb z (al c0)) (hx : x = 0 ∨ x = 1) (k : sr_G own cc nL ret d pc' lv st (up σ c0 z.toNat x) Q) : sr_G own cc nL ret d pc lv (vI x :: vI z :: vR c0 :: st) σ Q := by
  subst hn
  intro p l e s m args below meth c dC dI ad ca A H locs ls E hP hS hσ hlv hst hl
  have hN := kd_lt hk (by omega)
  obtain ⟨t, ht⟩ := tyW_get (ca := ca) hN (by omega)
  rw [hk] at ht
  refine va_zast (D := (dC, dI)) E.1 E.2.1 E.2.2.2.2.2.2.2.2.1 hP (E.2.2.2.2.2.2.2.2.2.1.va σ) hS c0 t (by rw [rW_get hN, cE_bool hk]) ht (vpin hst.2.1 hi) hd (fun H1 locs1 hP1 hD1 hS1 => ?_)
  rw [vnar_bool hx, clamp32 hst.2.1, upd32, rW_set hN up_ne (cE_bool hk).symm] at hP1
  exact k p l e s m args below meth c dC dI ad ca A H1 locs1 ls E hP1 hS1 (okS_up hσ (by rw [sty_bool hk]; exact hx)) hlv hst.2.2.2 hl
theorem g_last {c0 : Nat} {z x : Int} (hd : decode cc pc = .ok (.lastore, 1)) (hn : pc + 1 = pc') (hk : kd c0 = 2) (hi : inb z (al c0)) (k : sr_G own cc nL ret d pc' lv st (up σ c0 z.toNat x) Q) : sr_G own cc nL ret d pc lv (vL x :: vI z :: vR c0 :: st) σ Q := by
  subst hn
  intro p l e s m args below meth c dC dI ad ca A H locs ls E hP hS hσ hlv hst hl
  have hN := kd_lt hk (by omega)
  obtain ⟨t, ht⟩ := tyW_get (ca := ca) hN (by omega)
  rw [hk] at ht
  refine va_last (D := (dC, dI)) E.1 E.2.1 E.2.2.2.2.2.2.2.2.1 hP (E.2.2.2.2.2.2.2.2.2.1.va σ) hS c0 t (by rw [rW_get hN, cE_long hk]) ht (vpin hst.2.1 hi) hd (fun H1 locs1 hP1 hD1 hS1 => ?_)
  rw [clamp32 hst.2.1, upd64, rW_set hN up_ne (cE_long hk).symm] at hP1
  exact k p l e s m args below meth c dC dI ad ca A H1 locs1 ls E hP1 hS1 (okS_up hσ (by rw [sty_long hk]; exact hst.1)) hlv hst.2.2.2 hl
theorem g_alen {c0 : Nat} {n : Int} (hd : decode cc pc = .ok (.arraylength, 1)) (hn : pc + 1 = pc') (hk : kd c0 < 10) (hk0 : kd c0 ≠ 0) (hv : (al c0 : Int) = n) (hr : r32 n) (k : sr_G own cc nL ret d pc' lv (vI n :: st) σ Q) : sr_G own cc nL ret d pc lv (vR c0 :: st) σ Q := by
  subst hn
  intro p l e s m args below meth c dC dI ad ca A H locs ls E hP hS hσ hlv hst hl
  have hN : c0 < NP := kd_lt rfl hk0
  obtain ⟨t, ht⟩ := tyW_get (ca := ca) hN hk
  refine va_alen (D := (dC, dI)) (v := Int32.ofInt n) E.1 E.2.1 E.2.2.2.2.2.2.2.2.1 hP c0 t (by rw [rW_get hN]; unfold sr_cE; rw [if_pos hk]) ht (by rw [← hv]; rfl) hd ?_
  exact k p l e s m args below meth c dC dI ad ca A H locs ls E hP hS hσ hlv ⟨hr, hst.2⟩ hl
theorem g_iret {z : Int} (hd : decode cc pc = .ok (.ireturn, 1)) (hr : ret = some .int) (hq : Q z σ) : sr_G own cc nL ret d pc lv (vI z :: []) σ Q := by
  subst hr
  intro p l e s m args below meth c dC dI ad ca A H locs ls E hP hS hσ hlv hst hl
  exact W.iret (Qc := sr_Q (some .int) Q dC dI ad ca A) E.1 E.2.1 E.2.2.2.1 (fun t ht hW => ⟨⟨_, σ, rfl, ⟨z, rfl, hst.1, hσ, hq⟩, by show va_P _ _ _ t.heap; rw [ht]; exact hP, va_K.moved hW.alike E.2.2.2.2.2.2.2.2.1⟩, hS.F ht⟩) hS.2.2 hd E.2.2.2.2.1
theorem g_zret {z : Int} (hd : decode cc pc = .ok (.ireturn, 1)) (hr : ret = some .boolean) (hz : z = 0 ∨ z = 1) (hq : Q z σ) : sr_G own cc nL ret d pc lv (vI z :: []) σ Q := by
  subst hr
  intro p l e s m args below meth c dC dI ad ca A H locs ls E hP hS hσ hlv hst hl
  exact W.zret (Qc := sr_Q (some .boolean) Q dC dI ad ca A) E.1 E.2.1 E.2.2.2.1 (nar_bool hz) (fun t ht hW => ⟨⟨_, σ, rfl, ⟨z, rfl, hst.1, hσ, hq⟩, by show va_P _ _ _ t.heap; rw [ht]; exact hP, va_K.moved hW.alike E.2.2.2.2.2.2.2.2.1⟩, hS.F ht⟩) hS.2.2 hd E.2.2.2.2.1
theorem g_lret {z : Int} (hd : decode cc pc = .ok (.lreturn, 1)) (hr : ret = some .long) (hq : Q z σ) : sr_G own cc nL ret d pc lv (vL z :: []) σ Q := by
  subst hr
  intro p l e s m args below meth c dC dI ad ca A H locs ls E hP hS hσ hlv hst hl
  exact W.lret (Qc := sr_Q (some .long) Q dC dI ad ca A) E.1 E.2.1 E.2.2.2.1 (fun t ht hW => ⟨⟨_, σ, rfl, ⟨z, rfl, hst.1, hσ, hq⟩, by show va_P _ _ _ t.heap; rw [ht]; exact hP, va_K.moved hW.alike E.2.2.2.2.2.2.2.2.1⟩, hS.F ht⟩) hS.2.2 hd E.2.2.2.2.1
theorem g_vret (hd : decode cc pc = .ok (.return_, 1)) (hr : ret = none) (hq : Q 0 σ) : sr_G own cc nL ret d pc lv [] σ Q := by
  subst hr
  intro p l e s m args below meth c dC dI ad ca A H locs ls E hP hS hσ hlv hst hl
  exact W.vret (Qc := sr_Q none Q dC dI ad ca A) E.1 E.2.1 E.2.2.2.1 (fun t ht hW => ⟨⟨σ, rfl, ⟨hσ, hq⟩, by show va_P _ _ _ t.heap; rw [ht]; exact hP, va_K.moved hW.alike E.2.2.2.2.2.2.2.2.1⟩, hS.F ht⟩) hS.2.2 hd E.2.2.2.2.1
theorem g_tabIn {dflt lo hi : Int} {offs : Array Int} {len : Nat} {x off : Int} (hd : decode cc pc = .ok (.tableswitch dflt lo hi offs, len)) (h1 : lo ≤ x) (h2 : x ≤ hi) (ho : offs[(x - lo).toNat]? = some off) (ht : (pc : Int) + off = (pc' : Int)) (k : sr_G own cc nL ret d pc' lv st σ Q) : sr_G own cc nL ret d pc lv (vI x :: st) σ Q := by
  intro p l e s m args below meth c dC dI ad ca A H locs ls E hP hS hσ hlv hst hl
  have e0 : (Int32.ofInt x).toInt = x := of32 hst.1
  refine lv_tableIn E.1 E.2.1 hd (by rw [e0]; omega) (by rw [e0]; omega) (by rw [e0]; exact ho) ht ?_
  exact k p l e s m args below meth c dC dI ad ca A H locs ls E hP hS hσ hlv hst.2 hl
theorem g_tabOut {dflt lo hi : Int} {offs : Array Int} {len : Nat} {x : Int} (hd : decode cc pc = .ok (.tableswitch dflt lo hi offs, len)) (h : x < lo ∨ hi < x) (ht : (pc : Int) + dflt = (pc' : Int)) (k : sr_G own cc nL ret d pc' lv st σ Q) : sr_G own cc nL ret d pc lv (vI x :: st) σ Q := by
  intro p l e s m args below meth c dC dI ad ca A H locs ls E hP hS hσ hlv hst hl
  have e0 : (Int32.ofInt x).toInt = x := of32 hst.1
  refine lv_tableOut E.1 E.2.1 hd (by rw [e0]; exact h) ht ?_
  exact k p l e s m args below meth c dC dI ad ca A H locs ls E hP hS hσ hlv hst.2 hl
theorem g_look {dflt : Int} {ps : Array (Int × Int)} {len : Nat} {x off : Int} (hd : decode cc pc = .ok (.lookupswitch dflt ps, len)) (hp : (ps.toList.zip (ps.toList.drop 1)).all (fun (a, next) => a.1 < next.1) = true) (ho : Op.lookupswitch.offset ps.toList dflt x = off) (ht : (pc : Int) + off = (pc' : Int)) (k : sr_G own cc nL ret d pc' lv st σ Q) : sr_G own cc nL ret d pc lv (vI x :: st) σ Q := by
  intro p l e s m args below meth c dC dI ad ca A H locs ls E hP hS hσ hlv hst hl
  have e0 : (Int32.ofInt x).toInt = x := of32 hst.1
  refine lv_lookup E.1 E.2.1 hd hp (by rw [e0]; exact ho) ht ?_
  exact k p l e s m args below meth c dC dI ad ca A H locs ls E hP hS hσ hlv hst.2 hl
end sr_rules2
