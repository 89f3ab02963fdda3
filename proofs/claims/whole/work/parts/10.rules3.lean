/-! ===== calls ===== -/
def sr_MV (own : String) (idx : Nat) (y : MethodName) (ycc : ByteArray) (ynL : Nat) (yret : Option FieldType) (n ci : Nat) : Prop :=
  (∃ q : vw_C, vwCl[ci]? = some q ∧ q.1 = y.cls) ∧ Cond.methodLink own idx y ∈ gW ∧ Cond.instanceMethod y ∈ gW ∧ Cond.selects y.cls y y ∈ gW ∧ Cond.initialized y.cls ∈ gW ∧ Cond.code y ycc ynL yret ∈ gW ∧ (y.cls ≠ "java/lang/invoke/MethodHandle" ∧ y.cls ≠ "java/lang/invoke/VarHandle") ∧ (parseMethodDescriptor y.desc).map (fun d => d.parameters.length) = some n ∧ ynL ≤ 21
def sr_MS (own : String) (idx : Nat) (y : MethodName) (ycc : ByteArray) (ynL : Nat) (yret : Option FieldType) (n : Nat) : Prop :=
  Cond.methodLink own idx y ∈ gW ∧ Cond.static y ∈ gW ∧ Cond.initialized y.cls ∈ gW ∧ Cond.code y ycc ynL yret ∈ gW ∧ (y.cls ≠ "java/lang/invoke/MethodHandle" ∧ y.cls ≠ "java/lang/invoke/VarHandle") ∧ (parseMethodDescriptor y.desc).map (fun d => d.parameters.length) = some n ∧ ynL ≤ 21
theorem okL_app : ∀ (a b : List Vl), okL (a ++ b) ↔ okL a ∧ okL b := by
  intro a b
  induction a with
  | nil => exact ⟨fun h => ⟨trivial, h⟩, fun h => h.2⟩
  | cons v t ih => exact ⟨fun h => ⟨⟨h.1, (ih.mp h.2).1⟩, (ih.mp h.2).2⟩, fun h => ⟨h.1.1, ih.mpr ⟨h.1.2, h.2⟩⟩⟩
theorem okL_mem {a : List Vl} (h : okL a) : ∀ v ∈ a, okV v := by
  induction a with
  | nil => intro v hv; cases hv
  | cons b t ih =>
    intro v hv
    rcases List.mem_cons.mp hv with rfl | hv
    · exact h.1
    · exact ih h.2 v hv
theorem okL_of {a : List Vl} (h : ∀ v ∈ a, okV v) : okL a := by
  induction a with
  | nil => trivial
  | cons b t ih => exact ⟨h b List.mem_cons_self, ih (fun v hv => h v (List.mem_cons_of_mem _ hv))⟩
theorem okL_rev {a : List Vl} (h : okL a.reverse) : okL a := okL_of (fun v hv => okL_mem h v (List.mem_reverse.mpr hv))
theorem cat_sum {ad : Nat → Nat} : ∀ st : List Vl, ((st.map (sr_rv ad)).map fun v => v.category).sum = sr_wd st := by
  intro st
  induction st with
  | nil => rfl
  | cons v t ih =>
    rcases v with z | z | z
    · exact congrArg (fun n => 1 + n) ih
    · exact congrArg (fun n => 2 + n) ih
    · exact congrArg (fun n => 1 + n) ih
theorem sr_blind {av : List Value} {dC : Nat → ClassId} {dI : Nat → Nat → Nat} {ad : Nat → Nat} {ca : Nat → ClassId} {σ : Sto} {sz : Nat} : FrameBlind (va_Pc av (fun U => U.heap.size = sz ∧ va_P (dC, dI) vwCl (rW ad ca σ) U.heap ∧ va_K (dC, dI) vwCl (tyW ca) U ∧ sr_D (fun _ => True) ad ∧ sr_St (sr_A ad sz) U U.heap)) := by
  intro a U g mk q
  obtain ⟨q0, q1, qP, qK, qD, qN, t, qS, qT⟩ := q
  exact ⟨q0, q1, qP, va_K.moved (u := U) (U := U.calling g mk a) (Vm.Alike.refl U.vm) qK, qD, va_Nw.same rfl rfl qN, t, va_Z.moved (u := U) (U := U.calling g mk a) (Vm.Alike.refl U.vm) qS, va_T.moved (u := U) (U := U.calling g mk a) (Vm.Alike.refl U.vm) qT⟩
section sr_rules3
variable {own : String} {cc : ByteArray} {nL : Nat} {ret : Option FieldType} {d pc pc' : Nat} {lv lv' : List (Nat × Vl)} {st : List Vl} {σ : Sto} {Q : Int → Sto → Prop} {idx n ci : Nat} {y : MethodName} {ycc : ByteArray} {ynL yd : Nat} {QC : Int → Sto → Prop} {av : List Vl} {o : Nat}
theorem sr_callVi (hd : decode cc pc = .ok (.invokevirtual idx, 3)) (hn : pc + 3 = pc') (hM : sr_MV own idx y ycc ynL (some .int) n ci) (hko : kd o = 10 + ci) (hav : av.length = n) (hdp : yd + 1 ≤ d) (hw : sr_wd st ≤ 8) (hC : sr_C y ycc ynL (some .int) yd (vR o :: av) σ QC) (k : ∀ r σ1, QC r σ1 → sr_G own cc nL ret d pc' lv (vI r :: st) σ1 Q) : sr_G own cc nL ret d pc lv (av.reverse ++ vR o :: st) σ Q := by
  subst hn
  intro p l e s m args below meth c dC dI ad ca A H locs ls E hP hS hσ hlv hst hl
  obtain ⟨hx, hb, hml, hr, hlk, hown, hts, hA, hK, hD, hSt⟩ := id E
  obtain ⟨⟨q, hq1, hq2⟩, hm1, hm2, hm3, hm4, hm5, hm6, hm7, hm8⟩ := hM
  have hok := (okL_app _ _).mp hst
  have hMet := hC l dC dI ad ca H.size hσ ⟨trivial, okL_rev hok.1⟩
  have hG : GoodIn gW (wsV own idx y.cls y (Cond.code y ycc ynL (some .int) :: gW)) := gW_in (fun w hw => by
    rcases List.mem_append.mp hw with h | h
    · rcases List.mem_cons.mp h with rfl | h
      · exact hm1
      · rcases List.mem_cons.mp h with rfl | h
        · exact hm2
        · rcases List.mem_cons.mp h with rfl | h
          · exact hm3
          · rcases List.mem_cons.mp h with rfl | h
            · exact hm4
            · cases h
    · rcases List.mem_cons.mp h with rfl | h
      · exact hm5
      · exact h)
  refine va_calli (va_runV (As := av.map (sr_rv ad)) (rest := st.map (sr_rv ad)) ⟨hx, hb, hml, hown, hts⟩ hMet (cwV n hts hG rfl rfl rfl ⟨rfl, hm6.1, hm6.2, hm7⟩ ⟨by show yd + 1 ≤ d; exact hdp, by show 8 + (ynL + 11) + 40 * yd ≤ 40 * d; omega⟩) ⟨sr_blind, hq2 ▸ va_recv hK hP (ci := ci) (q0 := o) hq1 (by rw [rW_get (kd_lt hko (by omega)), cE_obj hko]), fun U hU hW => ⟨rfl, by rw [hU], by rw [hU]; exact hP, va_K.moved hW.alike hK, ⟨hD.1, fun _ _ => trivial⟩, by rw [hU]; exact hSt.to hS hW (sr_Af hD hA hS)⟩⟩ rfl (by rw [List.length_map]; exact hav) hl.1 (by show List.map (sr_rv ad) (av.reverse ++ vR o :: st) = _; rw [List.map_append, List.map_reverse]; rfl) (lv_room (by rw [cat_sum]; exact hw)) hd ⟨Nat.le_refl _, Nat.le_refl _⟩) hS (fun q _ h => sr_Af hD hA hS q h) (sr_Af hD hA hS) (fun r u t H1 locs1 ht hvm hw hB hz1 hk1 hS1 => ?_)
  obtain ⟨z, rfl, hz, hσ1, hq⟩ := hw
  have hP1 := hB.1
  rw [ht] at hP1
  exact k z u hq p l e s m args below meth c dC dI ad ca A H1 locs1 ls E hP1 hS1 hσ1 hlv ⟨hz, hok.2.2⟩ hl

theorem g_V0i (hd : decode cc pc = .ok (.invokevirtual idx, 3)) (hn : pc + 3 = pc') (hM : sr_MV own idx y ycc ynL (some .int) 0 ci) (hko : kd o = 10 + ci) (hdp : yd + 1 ≤ d) (hw : sr_wd st ≤ 8) (hC : sr_C y ycc ynL (some .int) yd [vR o] σ QC) (k : ∀ r σ1, QC r σ1 → sr_G own cc nL ret d pc' lv (vI r :: st) σ1 Q) : sr_G own cc nL ret d pc lv (vR o :: st) σ Q := sr_callVi (av := []) hd hn hM hko rfl hdp hw hC k

theorem g_V1i {a1 : Vl} (hd : decode cc pc = .ok (.invokevirtual idx, 3)) (hn : pc + 3 = pc') (hM : sr_MV own idx y ycc ynL (some .int) 1 ci) (hko : kd o = 10 + ci) (hdp : yd + 1 ≤ d) (hw : sr_wd st ≤ 8) (hC : sr_C y ycc ynL (some .int) yd [vR o, a1] σ QC) (k : ∀ r σ1, QC r σ1 → sr_G own cc nL ret d pc' lv (vI r :: st) σ1 Q) : sr_G own cc nL ret d pc lv (a1 :: vR o :: st) σ Q := sr_callVi (av := [a1]) hd hn hM hko rfl hdp hw hC k

theorem g_V2i {a1 a2 : Vl} (hd : decode cc pc = .ok (.invokevirtual idx, 3)) (hn : pc + 3 = pc') (hM : sr_MV own idx y ycc ynL (some .int) 2 ci) (hko : kd o = 10 + ci) (hdp : yd + 1 ≤ d) (hw : sr_wd st ≤ 8) (hC : sr_C y ycc ynL (some .int) yd [vR o, a1, a2] σ QC) (k : ∀ r σ1, QC r σ1 → sr_G own cc nL ret d pc' lv (vI r :: st) σ1 Q) : sr_G own cc nL ret d pc lv (a2 :: a1 :: vR o :: st) σ Q := sr_callVi (av := [a1, a2]) hd hn hM hko rfl hdp hw hC k

theorem g_V3i {a1 a2 a3 : Vl} (hd : decode cc pc = .ok (.invokevirtual idx, 3)) (hn : pc + 3 = pc') (hM : sr_MV own idx y ycc ynL (some .int) 3 ci) (hko : kd o = 10 + ci) (hdp : yd + 1 ≤ d) (hw : sr_wd st ≤ 8) (hC : sr_C y ycc ynL (some .int) yd [vR o, a1, a2, a3] σ QC) (k : ∀ r σ1, QC r σ1 → sr_G own cc nL ret d pc' lv (vI r :: st) σ1 Q) : sr_G own cc nL ret d pc lv (a3 :: a2 :: a1 :: vR o :: st) σ Q := sr_callVi (av := [a1, a2, a3]) hd hn hM hko rfl hdp hw hC k

theorem g_V4i {a1 a2 a3 a4 : Vl} (hd : decode cc pc = .ok (.invokevirtual idx, 3)) (hn : pc + 3 = pc') (hM : sr_MV own idx y ycc ynL (some .int) 4 ci) (hko : kd o = 10 + ci) (hdp : yd + 1 ≤ d) (hw : sr_wd st ≤ 8) (hC : sr_C y ycc ynL (some .int) yd [vR o, a1, a2, a3, a4] σ QC) (k : ∀ r σ1, QC r σ1 → sr_G own cc nL ret d pc' lv (vI r :: st) σ1 Q) : sr_G own cc nL ret d pc lv (a4 :: a3 :: a2 :: a1 :: vR o :: st) σ Q := sr_callVi (av := [a1, a2, a3, a4]) hd hn hM hko rfl hdp hw hC k

theorem g_V5i {a1 a2 a3 a4 a5 : Vl} (hd : decode cc pc = .ok (.invokevirtual idx, 3)) (hn : pc + 3 = pc') (hM : sr_MV own idx y ycc ynL (some .int) 5 ci) (hko : kd o = 10 + ci) (hdp : yd + 1 ≤ d) (hw : sr_wd st ≤ 8) (hC : sr_C y ycc ynL (some .int) yd [vR o, a1, a2, a3, a4, a5] σ QC) (k : ∀ r σ1, QC r σ1 → sr_G own cc nL ret d pc' lv (vI r :: st) σ1 Q) : sr_G own cc nL ret d pc lv (a5 :: a4 :: a3 :: a2 :: a1 :: vR o :: st) σ Q := sr_callVi (av := [a1, a2, a3, a4, a5]) hd hn hM hko rfl hdp hw hC k

theorem sr_callVz (hd : decode cc pc = .ok (.invokevirtual idx, 3)) (hn : pc + 3 = pc') (hM : sr_MV own idx y ycc ynL (some .boolean) n ci) (hko : kd o = 10 + ci) (hav : av.length = n) (hdp : yd + 1 ≤ d) (hw : sr_wd st ≤ 8) (hC : sr_C y ycc ynL (some .boolean) yd (vR o :: av) σ QC) (k : ∀ r σ1, QC r σ1 → sr_G own cc nL ret d pc' lv (vI r :: st) σ1 Q) : sr_G own cc nL ret d pc lv (av.reverse ++ vR o :: st) σ Q := by
  subst hn
  intro p l e s m args below meth c dC dI ad ca A H locs ls E hP hS hσ hlv hst hl
  obtain ⟨hx, hb, hml, hr, hlk, hown, hts, hA, hK, hD, hSt⟩ := id E
  obtain ⟨⟨q, hq1, hq2⟩, hm1, hm2, hm3, hm4, hm5, hm6, hm7, hm8⟩ := hM
  have hok := (okL_app _ _).mp hst
  have hMet := hC l dC dI ad ca H.size hσ ⟨trivial, okL_rev hok.1⟩
  have hG : GoodIn gW (wsV own idx y.cls y (Cond.code y ycc ynL (some .boolean) :: gW)) := gW_in (fun w hw => by
    rcases List.mem_append.mp hw with h | h
    · rcases List.mem_cons.mp h with rfl | h
      · exact hm1
      · rcases List.mem_cons.mp h with rfl | h
        · exact hm2
        · rcases List.mem_cons.mp h with rfl | h
          · exact hm3
          · rcases List.mem_cons.mp h with rfl | h
            · exact hm4
            · cases h
    · rcases List.mem_cons.mp h with rfl | h
      · exact hm5
      · exact h)
  refine va_calli (va_runV (As := av.map (sr_rv ad)) (rest := st.map (sr_rv ad)) ⟨hx, hb, hml, hown, hts⟩ hMet (cwV n hts hG rfl rfl rfl ⟨rfl, hm6.1, hm6.2, hm7⟩ ⟨by show yd + 1 ≤ d; exact hdp, by show 8 + (ynL + 11) + 40 * yd ≤ 40 * d; omega⟩) ⟨sr_blind, hq2 ▸ va_recv hK hP (ci := ci) (q0 := o) hq1 (by rw [rW_get (kd_lt hko (by omega)), cE_obj hko]), fun U hU hW => ⟨rfl, by rw [hU], by rw [hU]; exact hP, va_K.moved hW.alike hK, ⟨hD.1, fun _ _ => trivial⟩, by rw [hU]; exact hSt.to hS hW (sr_Af hD hA hS)⟩⟩ rfl (by rw [List.length_map]; exact hav) hl.1 (by show List.map (sr_rv ad) (av.reverse ++ vR o :: st) = _; rw [List.map_append, List.map_reverse]; rfl) (lv_room (by rw [cat_sum]; exact hw)) hd ⟨Nat.le_refl _, Nat.le_refl _⟩) hS (fun q _ h => sr_Af hD hA hS q h) (sr_Af hD hA hS) (fun r u t H1 locs1 ht hvm hw hB hz1 hk1 hS1 => ?_)
  obtain ⟨z, rfl, hz, hσ1, hq⟩ := hw
  have hP1 := hB.1
  rw [ht] at hP1
  exact k z u hq p l e s m args below meth c dC dI ad ca A H1 locs1 ls E hP1 hS1 hσ1 hlv ⟨hz, hok.2.2⟩ hl

theorem g_V0z (hd : decode cc pc = .ok (.invokevirtual idx, 3)) (hn : pc + 3 = pc') (hM : sr_MV own idx y ycc ynL (some .boolean) 0 ci) (hko : kd o = 10 + ci) (hdp : yd + 1 ≤ d) (hw : sr_wd st ≤ 8) (hC : sr_C y ycc ynL (some .boolean) yd [vR o] σ QC) (k : ∀ r σ1, QC r σ1 → sr_G own cc nL ret d pc' lv (vI r :: st) σ1 Q) : sr_G own cc nL ret d pc lv (vR o :: st) σ Q := sr_callVz (av := []) hd hn hM hko rfl hdp hw hC k

theorem g_V1z {a1 : Vl} (hd : decode cc pc = .ok (.invokevirtual idx, 3)) (hn : pc + 3 = pc') (hM : sr_MV own idx y ycc ynL (some .boolean) 1 ci) (hko : kd o = 10 + ci) (hdp : yd + 1 ≤ d) (hw : sr_wd st ≤ 8) (hC : sr_C y ycc ynL (some .boolean) yd [vR o, a1] σ QC) (k : ∀ r σ1, QC r σ1 → sr_G own cc nL ret d pc' lv (vI r :: st) σ1 Q) : sr_G own cc nL ret d pc lv (a1 :: vR o :: st) σ Q := sr_callVz (av := [a1]) hd hn hM hko rfl hdp hw hC k

theorem g_V2z {a1 a2 : Vl} (hd : decode cc pc = .ok (.invokevirtual idx, 3)) (hn : pc + 3 = pc') (hM : sr_MV own idx y ycc ynL (some .boolean) 2 ci) (hko : kd o = 10 + ci) (hdp : yd + 1 ≤ d) (hw : sr_wd st ≤ 8) (hC : sr_C y ycc ynL (some .boolean) yd [vR o, a1, a2] σ QC) (k : ∀ r σ1, QC r σ1 → sr_G own cc nL ret d pc' lv (vI r :: st) σ1 Q) : sr_G own cc nL ret d pc lv (a2 :: a1 :: vR o :: st) σ Q := sr_callVz (av := [a1, a2]) hd hn hM hko rfl hdp hw hC k

theorem g_V3z {a1 a2 a3 : Vl} (hd : decode cc pc = .ok (.invokevirtual idx, 3)) (hn : pc + 3 = pc') (hM : sr_MV own idx y ycc ynL (some .boolean) 3 ci) (hko : kd o = 10 + ci) (hdp : yd + 1 ≤ d) (hw : sr_wd st ≤ 8) (hC : sr_C y ycc ynL (some .boolean) yd [vR o, a1, a2, a3] σ QC) (k : ∀ r σ1, QC r σ1 → sr_G own cc nL ret d pc' lv (vI r :: st) σ1 Q) : sr_G own cc nL ret d pc lv (a3 :: a2 :: a1 :: vR o :: st) σ Q := sr_callVz (av := [a1, a2, a3]) hd hn hM hko rfl hdp hw hC k

theorem g_V4z {a1 a2 a3 a4 : Vl} (hd : decode cc pc = .ok (.invokevirtual idx, 3)) (hn : pc + 3 = pc') (hM : sr_MV own idx y ycc ynL (some .boolean) 4 ci) (hko : kd o = 10 + ci) (hdp : yd + 1 ≤ d) (hw : sr_wd st ≤ 8) (hC : sr_C y ycc ynL (some .boolean) yd [vR o, a1, a2, a3, a4] σ QC) (k : ∀ r σ1, QC r σ1 → sr_G own cc nL ret d pc' lv (vI r :: st) σ1 Q) : sr_G own cc nL ret d pc lv (a4 :: a3 :: a2 :: a1 :: vR o :: st) σ Q := sr_callVz (av := [a1, a2, a3, a4]) hd hn hM hko rfl hdp hw hC k

theorem g_V5z {a1 a2 a3 a4 a5 : Vl} (hd : decode cc pc = .ok (.invokevirtual idx, 3)) (hn : pc + 3 = pc') (hM : sr_MV own idx y ycc ynL (some .boolean) 5 ci) (hko : kd o = 10 + ci) (hdp : yd + 1 ≤ d) (hw : sr_wd st ≤ 8) (hC : sr_C y ycc ynL (some .boolean) yd [vR o, a1, a2, a3, a4, a5] σ QC) (k : ∀ r σ1, QC r σ1 → sr_G own cc nL ret d pc' lv (vI r :: st) σ1 Q) : sr_G own cc nL ret d pc lv (a5 :: a4 :: a3 :: a2 :: a1 :: vR o :: st) σ Q := sr_callVz (av := [a1, a2, a3, a4, a5]) hd hn hM hko rfl hdp hw hC k

theorem sr_callVl (hd : decode cc pc = .ok (.invokevirtual idx, 3)) (hn : pc + 3 = pc') (hM : sr_MV own idx y ycc ynL (some .long) n ci) (hko : kd o = 10 + ci) (hav : av.length = n) (hdp : yd + 1 ≤ d) (hw : sr_wd st ≤ 8) (hC : sr_C y ycc ynL (some .long) yd (vR o :: av) σ QC) (k : ∀ r σ1, QC r σ1 → sr_G own cc nL ret d pc' lv (vL r :: st) σ1 Q) : sr_G own cc nL ret d pc lv (av.reverse ++ vR o :: st) σ Q := by
  subst hn
  intro p l e s m args below meth c dC dI ad ca A H locs ls E hP hS hσ hlv hst hl
  obtain ⟨hx, hb, hml, hr, hlk, hown, hts, hA, hK, hD, hSt⟩ := id E
  obtain ⟨⟨q, hq1, hq2⟩, hm1, hm2, hm3, hm4, hm5, hm6, hm7, hm8⟩ := hM
  have hok := (okL_app _ _).mp hst
  have hMet := hC l dC dI ad ca H.size hσ ⟨trivial, okL_rev hok.1⟩
  have hG : GoodIn gW (wsV own idx y.cls y (Cond.code y ycc ynL (some .long) :: gW)) := gW_in (fun w hw => by
    rcases List.mem_append.mp hw with h | h
    · rcases List.mem_cons.mp h with rfl | h
      · exact hm1
      · rcases List.mem_cons.mp h with rfl | h
        · exact hm2
        · rcases List.mem_cons.mp h with rfl | h
          · exact hm3
          · rcases List.mem_cons.mp h with rfl | h
            · exact hm4
            · cases h
    · rcases List.mem_cons.mp h with rfl | h
      · exact hm5
      · exact h)
  refine va_calll (va_runV (As := av.map (sr_rv ad)) (rest := st.map (sr_rv ad)) ⟨hx, hb, hml, hown, hts⟩ hMet (cwV n hts hG rfl rfl rfl ⟨rfl, hm6.1, hm6.2, hm7⟩ ⟨by show yd + 1 ≤ d; exact hdp, by show 8 + (ynL + 11) + 40 * yd ≤ 40 * d; omega⟩) ⟨sr_blind, hq2 ▸ va_recv hK hP (ci := ci) (q0 := o) hq1 (by rw [rW_get (kd_lt hko (by omega)), cE_obj hko]), fun U hU hW => ⟨rfl, by rw [hU], by rw [hU]; exact hP, va_K.moved hW.alike hK, ⟨hD.1, fun _ _ => trivial⟩, by rw [hU]; exact hSt.to hS hW (sr_Af hD hA hS)⟩⟩ rfl (by rw [List.length_map]; exact hav) hl.1 (by show List.map (sr_rv ad) (av.reverse ++ vR o :: st) = _; rw [List.map_append, List.map_reverse]; rfl) (lv_room (by rw [cat_sum]; exact hw)) hd ⟨Nat.le_refl _, Nat.le_refl _⟩) hS (fun q _ h => sr_Af hD hA hS q h) (sr_Af hD hA hS) (fun r u t H1 locs1 ht hvm hw hB hz1 hk1 hS1 => ?_)
  obtain ⟨z, rfl, hz, hσ1, hq⟩ := hw
  have hP1 := hB.1
  rw [ht] at hP1
  exact k z u hq p l e s m args below meth c dC dI ad ca A H1 locs1 ls E hP1 hS1 hσ1 hlv ⟨hz, hok.2.2⟩ hl

theorem g_V0l (hd : decode cc pc = .ok (.invokevirtual idx, 3)) (hn : pc + 3 = pc') (hM : sr_MV own idx y ycc ynL (some .long) 0 ci) (hko : kd o = 10 + ci) (hdp : yd + 1 ≤ d) (hw : sr_wd st ≤ 8) (hC : sr_C y ycc ynL (some .long) yd [vR o] σ QC) (k : ∀ r σ1, QC r σ1 → sr_G own cc nL ret d pc' lv (vL r :: st) σ1 Q) : sr_G own cc nL ret d pc lv (vR o :: st) σ Q := sr_callVl (av := []) hd hn hM hko rfl hdp hw hC k

theorem g_V1l {a1 : Vl} (hd : decode cc pc = .ok (.invokevirtual idx, 3)) (hn : pc + 3 = pc') (hM : sr_MV own idx y ycc ynL (some .long) 1 ci) (hko : kd o = 10 + ci) (hdp : yd + 1 ≤ d) (hw : sr_wd st ≤ 8) (hC : sr_C y ycc ynL (some .long) yd [vR o, a1] σ QC) (k : ∀ r σ1, QC r σ1 → sr_G own cc nL ret d pc' lv (vL r :: st) σ1 Q) : sr_G own cc nL ret d pc lv (a1 :: vR o :: st) σ Q := sr_callVl (av := [a1]) hd hn hM hko rfl hdp hw hC k

theorem g_V2l {a1 a2 : Vl} (hd : decode cc pc = .ok (.invokevirtual idx, 3)) (hn : pc + 3 = pc') (hM : sr_MV own idx y ycc ynL (some .long) 2 ci) (hko : kd o = 10 + ci) (hdp : yd + 1 ≤ d) (hw : sr_wd st ≤ 8) (hC : sr_C y ycc ynL (some .long) yd [vR o, a1, a2] σ QC) (k : ∀ r σ1, QC r σ1 → sr_G own cc nL ret d pc' lv (vL r :: st) σ1 Q) : sr_G own cc nL ret d pc lv (a2 :: a1 :: vR o :: st) σ Q := sr_callVl (av := [a1, a2]) hd hn hM hko rfl hdp hw hC k

theorem g_V3l {a1 a2 a3 : Vl} (hd : decode cc pc = .ok (.invokevirtual idx, 3)) (hn : pc + 3 = pc') (hM : sr_MV own idx y ycc ynL (some .long) 3 ci) (hko : kd o = 10 + ci) (hdp : yd + 1 ≤ d) (hw : sr_wd st ≤ 8) (hC : sr_C y ycc ynL (some .long) yd [vR o, a1, a2, a3] σ QC) (k : ∀ r σ1, QC r σ1 → sr_G own cc nL ret d pc' lv (vL r :: st) σ1 Q) : sr_G own cc nL ret d pc lv (a3 :: a2 :: a1 :: vR o :: st) σ Q := sr_callVl (av := [a1, a2, a3]) hd hn hM hko rfl hdp hw hC k

theorem g_V4l {a1 a2 a3 a4 : Vl} (hd : decode cc pc = .ok (.invokevirtual idx, 3)) (hn : pc + 3 = pc') (hM : sr_MV own idx y ycc ynL (some .long) 4 ci) (hko : kd o = 10 + ci) (hdp : yd + 1 ≤ d) (hw : sr_wd st ≤ 8) (hC : sr_C y ycc ynL (some .long) yd [vR o, a1, a2, a3, a4] σ QC) (k : ∀ r σ1, QC r σ1 → sr_G own cc nL ret d pc' lv (vL r :: st) σ1 Q) : sr_G own cc nL ret d pc lv (a4 :: a3 :: a2 :: a1 :: vR o :: st) σ Q := sr_callVl (av := [a1, a2, a3, a4]) hd hn hM hko rfl hdp hw hC k

theorem g_V5l {a1 a2 a3 a4 a5 : Vl} (hd : decode cc pc = .ok (.invokevirtual idx, 3)) (hn : pc + 3 = pc') (hM : sr_MV own idx y ycc ynL (some .long) 5 ci) (hko : kd o = 10 + ci) (hdp : yd + 1 ≤ d) (hw : sr_wd st ≤ 8) (hC : sr_C y ycc ynL (some .long) yd [vR o, a1, a2, a3, a4, a5] σ QC) (k : ∀ r σ1, QC r σ1 → sr_G own cc nL ret d pc' lv (vL r :: st) σ1 Q) : sr_G own cc nL ret d pc lv (a5 :: a4 :: a3 :: a2 :: a1 :: vR o :: st) σ Q := sr_callVl (av := [a1, a2, a3, a4, a5]) hd hn hM hko rfl hdp hw hC k

theorem sr_callVv (hd : decode cc pc = .ok (.invokevirtual idx, 3)) (hn : pc + 3 = pc') (hM : sr_MV own idx y ycc ynL (none) n ci) (hko : kd o = 10 + ci) (hav : av.length = n) (hdp : yd + 1 ≤ d) (hw : sr_wd st ≤ 8) (hC : sr_C y ycc ynL (none) yd (vR o :: av) σ QC) (k : ∀ σ1, QC 0 σ1 → sr_G own cc nL ret d pc' lv (st) σ1 Q) : sr_G own cc nL ret d pc lv (av.reverse ++ vR o :: st) σ Q := by
  subst hn
  intro p l e s m args below meth c dC dI ad ca A H locs ls E hP hS hσ hlv hst hl
  obtain ⟨hx, hb, hml, hr, hlk, hown, hts, hA, hK, hD, hSt⟩ := id E
  obtain ⟨⟨q, hq1, hq2⟩, hm1, hm2, hm3, hm4, hm5, hm6, hm7, hm8⟩ := hM
  have hok := (okL_app _ _).mp hst
  have hMet := hC l dC dI ad ca H.size hσ ⟨trivial, okL_rev hok.1⟩
  have hG : GoodIn gW (wsV own idx y.cls y (Cond.code y ycc ynL (none) :: gW)) := gW_in (fun w hw => by
    rcases List.mem_append.mp hw with h | h
    · rcases List.mem_cons.mp h with rfl | h
      · exact hm1
      · rcases List.mem_cons.mp h with rfl | h
        · exact hm2
        · rcases List.mem_cons.mp h with rfl | h
          · exact hm3
          · rcases List.mem_cons.mp h with rfl | h
            · exact hm4
            · cases h
    · rcases List.mem_cons.mp h with rfl | h
      · exact hm5
      · exact h)
  refine va_callv (va_runV (As := av.map (sr_rv ad)) (rest := st.map (sr_rv ad)) ⟨hx, hb, hml, hown, hts⟩ hMet (cwV n hts hG rfl rfl rfl ⟨rfl, hm6.1, hm6.2, hm7⟩ ⟨by show yd + 1 ≤ d; exact hdp, by show 8 + (ynL + 11) + 40 * yd ≤ 40 * d; omega⟩) ⟨sr_blind, hq2 ▸ va_recv hK hP (ci := ci) (q0 := o) hq1 (by rw [rW_get (kd_lt hko (by omega)), cE_obj hko]), fun U hU hW => ⟨rfl, by rw [hU], by rw [hU]; exact hP, va_K.moved hW.alike hK, ⟨hD.1, fun _ _ => trivial⟩, by rw [hU]; exact hSt.to hS hW (sr_Af hD hA hS)⟩⟩ rfl (by rw [List.length_map]; exact hav) hl.1 (by show List.map (sr_rv ad) (av.reverse ++ vR o :: st) = _; rw [List.map_append, List.map_reverse]; rfl) (lv_room (by rw [cat_sum]; exact hw)) hd ⟨Nat.le_refl _, Nat.le_refl _⟩) hS (fun q _ h => sr_Af hD hA hS q h) (sr_Af hD hA hS) (fun u t H1 locs1 ht hvm hw hB hz1 hk1 hS1 => ?_)
  obtain ⟨hσ1, hq⟩ := hw
  have hP1 := hB.1
  rw [ht] at hP1
  exact k u hq p l e s m args below meth c dC dI ad ca A H1 locs1 ls E hP1 hS1 hσ1 hlv hok.2.2 hl

theorem g_V0v (hd : decode cc pc = .ok (.invokevirtual idx, 3)) (hn : pc + 3 = pc') (hM : sr_MV own idx y ycc ynL (none) 0 ci) (hko : kd o = 10 + ci) (hdp : yd + 1 ≤ d) (hw : sr_wd st ≤ 8) (hC : sr_C y ycc ynL (none) yd [vR o] σ QC) (k : ∀ σ1, QC 0 σ1 → sr_G own cc nL ret d pc' lv (st) σ1 Q) : sr_G own cc nL ret d pc lv (vR o :: st) σ Q := sr_callVv (av := []) hd hn hM hko rfl hdp hw hC k

theorem g_V1v {a1 : Vl} (hd : decode cc pc = .ok (.invokevirtual idx, 3)) (hn : pc + 3 = pc') (hM : sr_MV own idx y ycc ynL (none) 1 ci) (hko : kd o = 10 + ci) (hdp : yd + 1 ≤ d) (hw : sr_wd st ≤ 8) (hC : sr_C y ycc ynL (none) yd [vR o, a1] σ QC) (k : ∀ σ1, QC 0 σ1 → sr_G own cc nL ret d pc' lv (st) σ1 Q) : sr_G own cc nL ret d pc lv (a1 :: vR o :: st) σ Q := sr_callVv (av := [a1]) hd hn hM hko rfl hdp hw hC k

theorem g_V2v {a1 a2 : Vl} (hd : decode cc pc = .ok (.invokevirtual idx, 3)) (hn : pc + 3 = pc') (hM : sr_MV own idx y ycc ynL (none) 2 ci) (hko : kd o = 10 + ci) (hdp : yd + 1 ≤ d) (hw : sr_wd st ≤ 8) (hC : sr_C y ycc ynL (none) yd [vR o, a1, a2] σ QC) (k : ∀ σ1, QC 0 σ1 → sr_G own cc nL ret d pc' lv (st) σ1 Q) : sr_G own cc nL ret d pc lv (a2 :: a1 :: vR o :: st) σ Q := sr_callVv (av := [a1, a2]) hd hn hM hko rfl hdp hw hC k

theorem g_V3v {a1 a2 a3 : Vl} (hd : decode cc pc = .ok (.invokevirtual idx, 3)) (hn : pc + 3 = pc') (hM : sr_MV own idx y ycc ynL (none) 3 ci) (hko : kd o = 10 + ci) (hdp : yd + 1 ≤ d) (hw : sr_wd st ≤ 8) (hC : sr_C y ycc ynL (none) yd [vR o, a1, a2, a3] σ QC) (k : ∀ σ1, QC 0 σ1 → sr_G own cc nL ret d pc' lv (st) σ1 Q) : sr_G own cc nL ret d pc lv (a3 :: a2 :: a1 :: vR o :: st) σ Q := sr_callVv (av := [a1, a2, a3]) hd hn hM hko rfl hdp hw hC k

theorem g_V4v {a1 a2 a3 a4 : Vl} (hd : decode cc pc = .ok (.invokevirtual idx, 3)) (hn : pc + 3 = pc') (hM : sr_MV own idx y ycc ynL (none) 4 ci) (hko : kd o = 10 + ci) (hdp : yd + 1 ≤ d) (hw : sr_wd st ≤ 8) (hC : sr_C y ycc ynL (none) yd [vR o, a1, a2, a3, a4] σ QC) (k : ∀ σ1, QC 0 σ1 → sr_G own cc nL ret d pc' lv (st) σ1 Q) : sr_G own cc nL ret d pc lv (a4 :: a3 :: a2 :: a1 :: vR o :: st) σ Q := sr_callVv (av := [a1, a2, a3, a4]) hd hn hM hko rfl hdp hw hC k

theorem g_V5v {a1 a2 a3 a4 a5 : Vl} (hd : decode cc pc = .ok (.invokevirtual idx, 3)) (hn : pc + 3 = pc') (hM : sr_MV own idx y ycc ynL (none) 5 ci) (hko : kd o = 10 + ci) (hdp : yd + 1 ≤ d) (hw : sr_wd st ≤ 8) (hC : sr_C y ycc ynL (none) yd [vR o, a1, a2, a3, a4, a5] σ QC) (k : ∀ σ1, QC 0 σ1 → sr_G own cc nL ret d pc' lv (st) σ1 Q) : sr_G own cc nL ret d pc lv (a5 :: a4 :: a3 :: a2 :: a1 :: vR o :: st) σ Q := sr_callVv (av := [a1, a2, a3, a4, a5]) hd hn hM hko rfl hdp hw hC k

theorem sr_callSi (hd : decode cc pc = .ok (.invokestatic idx, 3)) (hn : pc + 3 = pc') (hM : sr_MS own idx y ycc ynL (some .int) n) (hav : av.length = n) (hdp : yd + 1 ≤ d) (hw : sr_wd st ≤ 8) (hC : sr_C y ycc ynL (some .int) yd (av) σ QC) (k : ∀ r σ1, QC r σ1 → sr_G own cc nL ret d pc' lv (vI r :: st) σ1 Q) : sr_G own cc nL ret d pc lv (av.reverse ++ st) σ Q := by
  subst hn
  intro p l e s m args below meth c dC dI ad ca A H locs ls E hP hS hσ hlv hst hl
  obtain ⟨hx, hb, hml, hr, hlk, hown, hts, hA, hK, hD, hSt⟩ := id E
  obtain ⟨hm1, hm2, hm4, hm5, hm6, hm7, hm8⟩ := hM
  have hok := (okL_app _ _).mp hst
  have hMet := hC l dC dI ad ca H.size hσ (okL_rev hok.1)
  have hG : GoodIn gW (va_wsS own idx y (Cond.code y ycc ynL (some .int) :: gW)) := gW_in (fun w hw => by
    rcases List.mem_append.mp hw with h | h
    · rcases List.mem_cons.mp h with rfl | h
      · exact hm1
      · rcases List.mem_cons.mp h with rfl | h
        · exact hm2
        · rcases List.mem_cons.mp h with rfl | h
          · exact hm4
          · cases h
    · rcases List.mem_cons.mp h with rfl | h
      · exact hm5
      · exact h)
  refine va_calli (va_runS (As := av.map (sr_rv ad)) (rest := st.map (sr_rv ad)) ⟨hx, hb, hml, hown, hts⟩ hMet (va_cwS n hts hG rfl rfl rfl ⟨hm6.1, hm6.2, hm7⟩ ⟨by show yd + 1 ≤ d; exact hdp, by show 8 + (ynL + 11) + 40 * yd ≤ 40 * d; omega⟩) ⟨sr_blind, fun U hU hW => ⟨rfl, by rw [hU], by rw [hU]; exact hP, va_K.moved hW.alike hK, ⟨hD.1, fun _ _ => trivial⟩, by rw [hU]; exact hSt.to hS hW (sr_Af hD hA hS)⟩⟩ rfl (by rw [List.length_map]; exact hav) hl.1 (by show List.map (sr_rv ad) (av.reverse ++ st) = _; rw [List.map_append, List.map_reverse]) (lv_room (by rw [cat_sum]; exact hw)) hd ⟨Nat.le_refl _, Nat.le_refl _⟩) hS (fun q _ h => sr_Af hD hA hS q h) (sr_Af hD hA hS) (fun r u t H1 locs1 ht hvm hw hB hz1 hk1 hS1 => ?_)
  obtain ⟨z, rfl, hz, hσ1, hq⟩ := hw
  have hP1 := hB.1
  rw [ht] at hP1
  exact k z u hq p l e s m args below meth c dC dI ad ca A H1 locs1 ls E hP1 hS1 hσ1 hlv ⟨hz, hok.2⟩ hl

theorem g_S0i (hd : decode cc pc = .ok (.invokestatic idx, 3)) (hn : pc + 3 = pc') (hM : sr_MS own idx y ycc ynL (some .int) 0) (hdp : yd + 1 ≤ d) (hw : sr_wd st ≤ 8) (hC : sr_C y ycc ynL (some .int) yd [] σ QC) (k : ∀ r σ1, QC r σ1 → sr_G own cc nL ret d pc' lv (vI r :: st) σ1 Q) : sr_G own cc nL ret d pc lv (st) σ Q := sr_callSi (av := []) hd hn hM rfl hdp hw hC k

theorem g_S1i {a1 : Vl} (hd : decode cc pc = .ok (.invokestatic idx, 3)) (hn : pc + 3 = pc') (hM : sr_MS own idx y ycc ynL (some .int) 1) (hdp : yd + 1 ≤ d) (hw : sr_wd st ≤ 8) (hC : sr_C y ycc ynL (some .int) yd [a1] σ QC) (k : ∀ r σ1, QC r σ1 → sr_G own cc nL ret d pc' lv (vI r :: st) σ1 Q) : sr_G own cc nL ret d pc lv (a1 :: st) σ Q := sr_callSi (av := [a1]) hd hn hM rfl hdp hw hC k

theorem g_S2i {a1 a2 : Vl} (hd : decode cc pc = .ok (.invokestatic idx, 3)) (hn : pc + 3 = pc') (hM : sr_MS own idx y ycc ynL (some .int) 2) (hdp : yd + 1 ≤ d) (hw : sr_wd st ≤ 8) (hC : sr_C y ycc ynL (some .int) yd [a1, a2] σ QC) (k : ∀ r σ1, QC r σ1 → sr_G own cc nL ret d pc' lv (vI r :: st) σ1 Q) : sr_G own cc nL ret d pc lv (a2 :: a1 :: st) σ Q := sr_callSi (av := [a1, a2]) hd hn hM rfl hdp hw hC k

theorem g_S3i {a1 a2 a3 : Vl} (hd : decode cc pc = .ok (.invokestatic idx, 3)) (hn : pc + 3 = pc') (hM : sr_MS own idx y ycc ynL (some .int) 3) (hdp : yd + 1 ≤ d) (hw : sr_wd st ≤ 8) (hC : sr_C y ycc ynL (some .int) yd [a1, a2, a3] σ QC) (k : ∀ r σ1, QC r σ1 → sr_G own cc nL ret d pc' lv (vI r :: st) σ1 Q) : sr_G own cc nL ret d pc lv (a3 :: a2 :: a1 :: st) σ Q := sr_callSi (av := [a1, a2, a3]) hd hn hM rfl hdp hw hC k

theorem g_S4i {a1 a2 a3 a4 : Vl} (hd : decode cc pc = .ok (.invokestatic idx, 3)) (hn : pc + 3 = pc') (hM : sr_MS own idx y ycc ynL (some .int) 4) (hdp : yd + 1 ≤ d) (hw : sr_wd st ≤ 8) (hC : sr_C y ycc ynL (some .int) yd [a1, a2, a3, a4] σ QC) (k : ∀ r σ1, QC r σ1 → sr_G own cc nL ret d pc' lv (vI r :: st) σ1 Q) : sr_G own cc nL ret d pc lv (a4 :: a3 :: a2 :: a1 :: st) σ Q := sr_callSi (av := [a1, a2, a3, a4]) hd hn hM rfl hdp hw hC k

theorem g_S5i {a1 a2 a3 a4 a5 : Vl} (hd : decode cc pc = .ok (.invokestatic idx, 3)) (hn : pc + 3 = pc') (hM : sr_MS own idx y ycc ynL (some .int) 5) (hdp : yd + 1 ≤ d) (hw : sr_wd st ≤ 8) (hC : sr_C y ycc ynL (some .int) yd [a1, a2, a3, a4, a5] σ QC) (k : ∀ r σ1, QC r σ1 → sr_G own cc nL ret d pc' lv (vI r :: st) σ1 Q) : sr_G own cc nL ret d pc lv (a5 :: a4 :: a3 :: a2 :: a1 :: st) σ Q := sr_callSi (av := [a1, a2, a3, a4, a5]) hd hn hM rfl hdp hw hC k

theorem g_S6i {a1 a2 a3 a4 a5 a6 : Vl} (hd : decode cc pc = .ok (.invokestatic idx, 3)) (hn : pc + 3 = pc') (hM : sr_MS own idx y ycc ynL (some .int) 6) (hdp : yd + 1 ≤ d) (hw : sr_wd st ≤ 8) (hC : sr_C y ycc ynL (some .int) yd [a1, a2, a3, a4, a5, a6] σ QC) (k : ∀ r σ1, QC r σ1 → sr_G own cc nL ret d pc' lv (vI r :: st) σ1 Q) : sr_G own cc nL ret d pc lv (a6 :: a5 :: a4 :: a3 :: a2 :: a1 :: st) σ Q := sr_callSi (av := [a1, a2, a3, a4, a5, a6]) hd hn hM rfl hdp hw hC k

theorem sr_callSz (hd : decode cc pc = .ok (.invokestatic idx, 3)) (hn : pc + 3 = pc') (hM : sr_MS own idx y ycc ynL (some .boolean) n) (hav : av.length = n) (hdp : yd + 1 ≤ d) (hw : sr_wd st ≤ 8) (hC : sr_C y ycc ynL (some .boolean) yd (av) σ QC) (k : ∀ r σ1, QC r σ1 → sr_G own cc nL ret d pc' lv (vI r :: st) σ1 Q) : sr_G own cc nL ret d pc lv (av.reverse ++ st) σ Q := by
  subst hn
  intro p l e s m args below meth c dC dI ad ca A H locs ls E hP hS hσ hlv hst hl
  obtain ⟨hx, hb, hml, hr, hlk, hown, hts, hA, hK, hD, hSt⟩ := id E
  obtain ⟨hm1, hm2, hm4, hm5, hm6, hm7, hm8⟩ := hM
  have hok := (okL_app _ _).mp hst
  have hMet := hC l dC dI ad ca H.size hσ (okL_rev hok.1)
  have hG : GoodIn gW (va_wsS own idx y (Cond.code y ycc ynL (some .boolean) :: gW)) := gW_in (fun w hw => by
    rcases List.mem_append.mp hw with h | h
    · rcases List.mem_cons.mp h with rfl | h
      · exact hm1
      · rcases List.mem_cons.mp h with rfl | h
        · exact hm2
        · rcases List.mem_cons.mp h with rfl | h
          · exact hm4
          · cases h
    · rcases List.mem_cons.mp h with rfl | h
      · exact hm5
      · exact h)
  refine va_calli (va_runS (As := av.map (sr_rv ad)) (rest := st.map (sr_rv ad)) ⟨hx, hb, hml, hown, hts⟩ hMet (va_cwS n hts hG rfl rfl rfl ⟨hm6.1, hm6.2, hm7⟩ ⟨by show yd + 1 ≤ d; exact hdp, by show 8 + (ynL + 11) + 40 * yd ≤ 40 * d; omega⟩) ⟨sr_blind, fun U hU hW => ⟨rfl, by rw [hU], by rw [hU]; exact hP, va_K.moved hW.alike hK, ⟨hD.1, fun _ _ => trivial⟩, by rw [hU]; exact hSt.to hS hW (sr_Af hD hA hS)⟩⟩ rfl (by rw [List.length_map]; exact hav) hl.1 (by show List.map (sr_rv ad) (av.reverse ++ st) = _; rw [List.map_append, List.map_reverse]) (lv_room (by rw [cat_sum]; exact hw)) hd ⟨Nat.le_refl _, Nat.le_refl _⟩) hS (fun q _ h => sr_Af hD hA hS q h) (sr_Af hD hA hS) (fun r u t H1 locs1 ht hvm hw hB hz1 hk1 hS1 => ?_)
  obtain ⟨z, rfl, hz, hσ1, hq⟩ := hw
  have hP1 := hB.1
  rw [ht] at hP1
  exact k z u hq p l e s m args below meth c dC dI ad ca A H1 locs1 ls E hP1 hS1 hσ1 hlv ⟨hz, hok.2⟩ hl

theorem g_S0z (hd : decode cc pc = .ok (.invokestatic idx, 3)) (hn : pc + 3 = pc') (hM : sr_MS own idx y ycc ynL (some .boolean) 0) (hdp : yd + 1 ≤ d) (hw : sr_wd st ≤ 8) (hC : sr_C y ycc ynL (some .boolean) yd [] σ QC) (k : ∀ r σ1, QC r σ1 → sr_G own cc nL ret d pc' lv (vI r :: st) σ1 Q) : sr_G own cc nL ret d pc lv (st) σ Q := sr_callSz (av := []) hd hn hM rfl hdp hw hC k

theorem g_S1z {a1 : Vl} (hd : decode cc pc = .ok (.invokestatic idx, 3)) (hn : pc + 3 = pc') (hM : sr_MS own idx y ycc ynL (some .boolean) 1) (hdp : yd + 1 ≤ d) (hw : sr_wd st ≤ 8) (hC : sr_C y ycc ynL (some .boolean) yd [a1] σ QC) (k : ∀ r σ1, QC r σ1 → sr_G own cc nL ret d pc' lv (vI r :: st) σ1 Q) : sr_G own cc nL ret d pc lv (a1 :: st) σ Q := sr_callSz (av := [a1]) hd hn hM rfl hdp hw hC k

theorem g_S2z {a1 a2 : Vl} (hd : decode cc pc = .ok (.invokestatic idx, 3)) (hn : pc + 3 = pc') (hM : sr_MS own idx y ycc ynL (some .boolean) 2) (hdp : yd + 1 ≤ d) (hw : sr_wd st ≤ 8) (hC : sr_C y ycc ynL (some .boolean) yd [a1, a2] σ QC) (k : ∀ r σ1, QC r σ1 → sr_G own cc nL ret d pc' lv (vI r :: st) σ1 Q) : sr_G own cc nL ret d pc lv (a2 :: a1 :: st) σ Q := sr_callSz (av := [a1, a2]) hd hn hM rfl hdp hw hC k

theorem g_S3z {a1 a2 a3 : Vl} (hd : decode cc pc = .ok (.invokestatic idx, 3)) (hn : pc + 3 = pc') (hM : sr_MS own idx y ycc ynL (some .boolean) 3) (hdp : yd + 1 ≤ d) (hw : sr_wd st ≤ 8) (hC : sr_C y ycc ynL (some .boolean) yd [a1, a2, a3] σ QC) (k : ∀ r σ1, QC r σ1 → sr_G own cc nL ret d pc' lv (vI r :: st) σ1 Q) : sr_G own cc nL ret d pc lv (a3 :: a2 :: a1 :: st) σ Q := sr_callSz (av := [a1, a2, a3]) hd hn hM rfl hdp hw hC k

theorem g_S4z {a1 a2 a3 a4 : Vl} (hd : decode cc pc = .ok (.invokestatic idx, 3)) (hn : pc + 3 = pc') (hM : sr_MS own idx y ycc ynL (some .boolean) 4) (hdp : yd + 1 ≤ d) (hw : sr_wd st ≤ 8) (hC : sr_C y ycc ynL (some .boolean) yd [a1, a2, a3, a4] σ QC) (k : ∀ r σ1, QC r σ1 → sr_G own cc nL ret d pc' lv (vI r :: st) σ1 Q) : sr_G own cc nL ret d pc lv (a4 :: a3 :: a2 :: a1 :: st) σ Q := sr_callSz (av := [a1, a2, a3, a4]) hd hn hM rfl hdp hw hC k

theorem g_S5z {a1 a2 a3 a4 a5 : Vl} (hd : decode cc pc = .ok (.invokestatic idx, 3)) (hn : pc + 3 = pc') (hM : sr_MS own idx y ycc ynL (some .boolean) 5) (hdp : yd + 1 ≤ d) (hw : sr_wd st ≤ 8) (hC : sr_C y ycc ynL (some .boolean) yd [a1, a2, a3, a4, a5] σ QC) (k : ∀ r σ1, QC r σ1 → sr_G own cc nL ret d pc' lv (vI r :: st) σ1 Q) : sr_G own cc nL ret d pc lv (a5 :: a4 :: a3 :: a2 :: a1 :: st) σ Q := sr_callSz (av := [a1, a2, a3, a4, a5]) hd hn hM rfl hdp hw hC k

theorem g_S6z {a1 a2 a3 a4 a5 a6 : Vl} (hd : decode cc pc = .ok (.invokestatic idx, 3)) (hn : pc + 3 = pc') (hM : sr_MS own idx y ycc ynL (some .boolean) 6) (hdp : yd + 1 ≤ d) (hw : sr_wd st ≤ 8) (hC : sr_C y ycc ynL (some .boolean) yd [a1, a2, a3, a4, a5, a6] σ QC) (k : ∀ r σ1, QC r σ1 → sr_G own cc nL ret d pc' lv (vI r :: st) σ1 Q) : sr_G own cc nL ret d pc lv (a6 :: a5 :: a4 :: a3 :: a2 :: a1 :: st) σ Q := sr_callSz (av := [a1, a2, a3, a4, a5, a6]) hd hn hM rfl hdp hw hC k

theorem sr_callSl (hd : decode cc pc = .ok (.invokestatic idx, 3)) (hn : pc + 3 = pc') (hM : sr_MS own idx y ycc ynL (some .long) n) (hav : av.length = n) (hdp : yd + 1 ≤ d) (hw : sr_wd st ≤ 8) (hC : sr_C y ycc ynL (some .long) yd (av) σ QC) (k : ∀ r σ1, QC r σ1 → sr_G own cc nL ret d pc' lv (vL r :: st) σ1 Q) : sr_G own cc nL ret d pc lv (av.reverse ++ st) σ Q := by
  subst hn
  intro p l e s m args below meth c dC dI ad ca A H locs ls E hP hS hσ hlv hst hl
  obtain ⟨hx, hb, hml, hr, hlk, hown, hts, hA, hK, hD, hSt⟩ := id E
  obtain ⟨hm1, hm2, hm4, hm5, hm6, hm7, hm8⟩ := hM
  have hok := (okL_app _ _).mp hst
  have hMet := hC l dC dI ad ca H.size hσ (okL_rev hok.1)
  have hG : GoodIn gW (va_wsS own idx y (Cond.code y ycc ynL (some .long) :: gW)) := gW_in (fun w hw => by
    rcases List.mem_append.mp hw with h | h
    · rcases List.mem_cons.mp h with rfl | h
      · exact hm1
      · rcases List.mem_cons.mp h with rfl | h
        · exact hm2
        · rcases List.mem_cons.mp h with rfl | h
          · exact hm4
          · cases h
    · rcases List.mem_cons.mp h with rfl | h
      · exact hm5
      · exact h)
  refine va_calll (va_runS (As := av.map (sr_rv ad)) (rest := st.map (sr_rv ad)) ⟨hx, hb, hml, hown, hts⟩ hMet (va_cwS n hts hG rfl rfl rfl ⟨hm6.1, hm6.2, hm7⟩ ⟨by show yd + 1 ≤ d; exact hdp, by show 8 + (ynL + 11) + 40 * yd ≤ 40 * d; omega⟩) ⟨sr_blind, fun U hU hW => ⟨rfl, by rw [hU], by rw [hU]; exact hP, va_K.moved hW.alike hK, ⟨hD.1, fun _ _ => trivial⟩, by rw [hU]; exact hSt.to hS hW (sr_Af hD hA hS)⟩⟩ rfl (by rw [List.length_map]; exact hav) hl.1 (by show List.map (sr_rv ad) (av.reverse ++ st) = _; rw [List.map_append, List.map_reverse]) (lv_room (by rw [cat_sum]; exact hw)) hd ⟨Nat.le_refl _, Nat.le_refl _⟩) hS (fun q _ h => sr_Af hD hA hS q h) (sr_Af hD hA hS) (fun r u t H1 locs1 ht hvm hw hB hz1 hk1 hS1 => ?_)
  obtain ⟨z, rfl, hz, hσ1, hq⟩ := hw
  have hP1 := hB.1
  rw [ht] at hP1
  exact k z u hq p l e s m args below meth c dC dI ad ca A H1 locs1 ls E hP1 hS1 hσ1 hlv ⟨hz, hok.2⟩ hl

theorem g_S0l (hd : decode cc pc = .ok (.invokestatic idx, 3)) (hn : pc + 3 = pc') (hM : sr_MS own idx y ycc ynL (some .long) 0) (hdp : yd + 1 ≤ d) (hw : sr_wd st ≤ 8) (hC : sr_C y ycc ynL (some .long) yd [] σ QC) (k : ∀ r σ1, QC r σ1 → sr_G own cc nL ret d pc' lv (vL r :: st) σ1 Q) : sr_G own cc nL ret d pc lv (st) σ Q := sr_callSl (av := []) hd hn hM rfl hdp hw hC k

theorem g_S1l {a1 : Vl} (hd : decode cc pc = .ok (.invokestatic idx, 3)) (hn : pc + 3 = pc') (hM : sr_MS own idx y ycc ynL (some .long) 1) (hdp : yd + 1 ≤ d) (hw : sr_wd st ≤ 8) (hC : sr_C y ycc ynL (some .long) yd [a1] σ QC) (k : ∀ r σ1, QC r σ1 → sr_G own cc nL ret d pc' lv (vL r :: st) σ1 Q) : sr_G own cc nL ret d pc lv (a1 :: st) σ Q := sr_callSl (av := [a1]) hd hn hM rfl hdp hw hC k

theorem g_S2l {a1 a2 : Vl} (hd : decode cc pc = .ok (.invokestatic idx, 3)) (hn : pc + 3 = pc') (hM : sr_MS own idx y ycc ynL (some .long) 2) (hdp : yd + 1 ≤ d) (hw : sr_wd st ≤ 8) (hC : sr_C y ycc ynL (some .long) yd [a1, a2] σ QC) (k : ∀ r σ1, QC r σ1 → sr_G own cc nL ret d pc' lv (vL r :: st) σ1 Q) : sr_G own cc nL ret d pc lv (a2 :: a1 :: st) σ Q := sr_callSl (av := [a1, a2]) hd hn hM rfl hdp hw hC k

theorem g_S3l {a1 a2 a3 : Vl} (hd : decode cc pc = .ok (.invokestatic idx, 3)) (hn : pc + 3 = pc') (hM : sr_MS own idx y ycc ynL (some .long) 3) (hdp : yd + 1 ≤ d) (hw : sr_wd st ≤ 8) (hC : sr_C y ycc ynL (some .long) yd [a1, a2, a3] σ QC) (k : ∀ r σ1, QC r σ1 → sr_G own cc nL ret d pc' lv (vL r :: st) σ1 Q) : sr_G own cc nL ret d pc lv (a3 :: a2 :: a1 :: st) σ Q := sr_callSl (av := [a1, a2, a3]) hd hn hM rfl hdp hw hC k

theorem g_S4l {a1 a2 a3 a4 : Vl} (hd : decode cc pc = .ok (.invokestatic idx, 3)) (hn : pc + 3 = pc') (hM : sr_MS own idx y ycc ynL (some .long) 4) (hdp : yd + 1 ≤ d) (hw : sr_wd st ≤ 8) (hC : sr_C y ycc ynL (some .long) yd [a1, a2, a3, a4] σ QC) (k : ∀ r σ1, QC r σ1 → sr_G own cc nL ret d pc' lv (vL r :: st) σ1 Q) : sr_G own cc nL ret d pc lv (a4 :: a3 :: a2 :: a1 :: st) σ Q := sr_callSl (av := [a1, a2, a3, a4]) hd hn hM rfl hdp hw hC k

theorem g_S5l {a1 a2 a3 a4 a5 : Vl} (hd : decode cc pc = .ok (.invokestatic idx, 3)) (hn : pc + 3 = pc') (hM : sr_MS own idx y ycc ynL (some .long) 5) (hdp : yd + 1 ≤ d) (hw : sr_wd st ≤ 8) (hC : sr_C y ycc ynL (some .long) yd [a1, a2, a3, a4, a5] σ QC) (k : ∀ r σ1, QC r σ1 → sr_G own cc nL ret d pc' lv (vL r :: st) σ1 Q) : sr_G own cc nL ret d pc lv (a5 :: a4 :: a3 :: a2 :: a1 :: st) σ Q := sr_callSl (av := [a1, a2, a3, a4, a5]) hd hn hM rfl hdp hw hC k

theorem g_S6l {a1 a2 a3 a4 a5 a6 : Vl} (hd : decode cc pc = .ok (.invokestatic idx, 3)) (hn : pc + 3 = pc') (hM : sr_MS own idx y ycc ynL (some .long) 6) (hdp : yd + 1 ≤ d) (hw : sr_wd st ≤ 8) (hC : sr_C y ycc ynL (some .long) yd [a1, a2, a3, a4, a5, a6] σ QC) (k : ∀ r σ1, QC r σ1 → sr_G own cc nL ret d pc' lv (vL r :: st) σ1 Q) : sr_G own cc nL ret d pc lv (a6 :: a5 :: a4 :: a3 :: a2 :: a1 :: st) σ Q := sr_callSl (av := [a1, a2, a3, a4, a5, a6]) hd hn hM rfl hdp hw hC k

theorem sr_callSv (hd : decode cc pc = .ok (.invokestatic idx, 3)) (hn : pc + 3 = pc') (hM : sr_MS own idx y ycc ynL (none) n) (hav : av.length = n) (hdp : yd + 1 ≤ d) (hw : sr_wd st ≤ 8) (hC : sr_C y ycc ynL (none) yd (av) σ QC) (k : ∀ σ1, QC 0 σ1 → sr_G own cc nL ret d pc' lv (st) σ1 Q) : sr_G own cc nL ret d pc lv (av.reverse ++ st) σ Q := by
  subst hn
  intro p l e s m args below meth c dC dI ad ca A H locs ls E hP hS hσ hlv hst hl
  obtain ⟨hx, hb, hml, hr, hlk, hown, hts, hA, hK, hD, hSt⟩ := id E
  obtain ⟨hm1, hm2, hm4, hm5, hm6, hm7, hm8⟩ := hM
  have hok := (okL_app _ _).mp hst
  have hMet := hC l dC dI ad ca H.size hσ (okL_rev hok.1)
  have hG : GoodIn gW (va_wsS own idx y (Cond.code y ycc ynL (none) :: gW)) := gW_in (fun w hw => by
    rcases List.mem_append.mp hw with h | h
    · rcases List.mem_cons.mp h with rfl | h
      · exact hm1
      · rcases List.mem_cons.mp h with rfl | h
        · exact hm2
        · rcases List.mem_cons.mp h with rfl | h
          · exact hm4
          · cases h
    · rcases List.mem_cons.mp h with rfl | h
      · exact hm5
      · exact h)
  refine va_callv (va_runS (As := av.map (sr_rv ad)) (rest := st.map (sr_rv ad)) ⟨hx, hb, hml, hown, hts⟩ hMet (va_cwS n hts hG rfl rfl rfl ⟨hm6.1, hm6.2, hm7⟩ ⟨by show yd + 1 ≤ d; exact hdp, by show 8 + (ynL + 11) + 40 * yd ≤ 40 * d; omega⟩) ⟨sr_blind, fun U hU hW => ⟨rfl, by rw [hU], by rw [hU]; exact hP, va_K.moved hW.alike hK, ⟨hD.1, fun _ _ => trivial⟩, by rw [hU]; exact hSt.to hS hW (sr_Af hD hA hS)⟩⟩ rfl (by rw [List.length_map]; exact hav) hl.1 (by show List.map (sr_rv ad) (av.reverse ++ st) = _; rw [List.map_append, List.map_reverse]) (lv_room (by rw [cat_sum]; exact hw)) hd ⟨Nat.le_refl _, Nat.le_refl _⟩) hS (fun q _ h => sr_Af hD hA hS q h) (sr_Af hD hA hS) (fun u t H1 locs1 ht hvm hw hB hz1 hk1 hS1 => ?_)
  obtain ⟨hσ1, hq⟩ := hw
  have hP1 := hB.1
  rw [ht] at hP1
  exact k u hq p l e s m args below meth c dC dI ad ca A H1 locs1 ls E hP1 hS1 hσ1 hlv hok.2 hl

theorem g_S0v (hd : decode cc pc = .ok (.invokestatic idx, 3)) (hn : pc + 3 = pc') (hM : sr_MS own idx y ycc ynL (none) 0) (hdp : yd + 1 ≤ d) (hw : sr_wd st ≤ 8) (hC : sr_C y ycc ynL (none) yd [] σ QC) (k : ∀ σ1, QC 0 σ1 → sr_G own cc nL ret d pc' lv (st) σ1 Q) : sr_G own cc nL ret d pc lv (st) σ Q := sr_callSv (av := []) hd hn hM rfl hdp hw hC k

theorem g_S1v {a1 : Vl} (hd : decode cc pc = .ok (.invokestatic idx, 3)) (hn : pc + 3 = pc') (hM : sr_MS own idx y ycc ynL (none) 1) (hdp : yd + 1 ≤ d) (hw : sr_wd st ≤ 8) (hC : sr_C y ycc ynL (none) yd [a1] σ QC) (k : ∀ σ1, QC 0 σ1 → sr_G own cc nL ret d pc' lv (st) σ1 Q) : sr_G own cc nL ret d pc lv (a1 :: st) σ Q := sr_callSv (av := [a1]) hd hn hM rfl hdp hw hC k

theorem g_S2v {a1 a2 : Vl} (hd : decode cc pc = .ok (.invokestatic idx, 3)) (hn : pc + 3 = pc') (hM : sr_MS own idx y ycc ynL (none) 2) (hdp : yd + 1 ≤ d) (hw : sr_wd st ≤ 8) (hC : sr_C y ycc ynL (none) yd [a1, a2] σ QC) (k : ∀ σ1, QC 0 σ1 → sr_G own cc nL ret d pc' lv (st) σ1 Q) : sr_G own cc nL ret d pc lv (a2 :: a1 :: st) σ Q := sr_callSv (av := [a1, a2]) hd hn hM rfl hdp hw hC k

theorem g_S3v {a1 a2 a3 : Vl} (hd : decode cc pc = .ok (.invokestatic idx, 3)) (hn : pc + 3 = pc') (hM : sr_MS own idx y ycc ynL (none) 3) (hdp : yd + 1 ≤ d) (hw : sr_wd st ≤ 8) (hC : sr_C y ycc ynL (none) yd [a1, a2, a3] σ QC) (k : ∀ σ1, QC 0 σ1 → sr_G own cc nL ret d pc' lv (st) σ1 Q) : sr_G own cc nL ret d pc lv (a3 :: a2 :: a1 :: st) σ Q := sr_callSv (av := [a1, a2, a3]) hd hn hM rfl hdp hw hC k

theorem g_S4v {a1 a2 a3 a4 : Vl} (hd : decode cc pc = .ok (.invokestatic idx, 3)) (hn : pc + 3 = pc') (hM : sr_MS own idx y ycc ynL (none) 4) (hdp : yd + 1 ≤ d) (hw : sr_wd st ≤ 8) (hC : sr_C y ycc ynL (none) yd [a1, a2, a3, a4] σ QC) (k : ∀ σ1, QC 0 σ1 → sr_G own cc nL ret d pc' lv (st) σ1 Q) : sr_G own cc nL ret d pc lv (a4 :: a3 :: a2 :: a1 :: st) σ Q := sr_callSv (av := [a1, a2, a3, a4]) hd hn hM rfl hdp hw hC k

theorem g_S5v {a1 a2 a3 a4 a5 : Vl} (hd : decode cc pc = .ok (.invokestatic idx, 3)) (hn : pc + 3 = pc') (hM : sr_MS own idx y ycc ynL (none) 5) (hdp : yd + 1 ≤ d) (hw : sr_wd st ≤ 8) (hC : sr_C y ycc ynL (none) yd [a1, a2, a3, a4, a5] σ QC) (k : ∀ σ1, QC 0 σ1 → sr_G own cc nL ret d pc' lv (st) σ1 Q) : sr_G own cc nL ret d pc lv (a5 :: a4 :: a3 :: a2 :: a1 :: st) σ Q := sr_callSv (av := [a1, a2, a3, a4, a5]) hd hn hM rfl hdp hw hC k

theorem g_S6v {a1 a2 a3 a4 a5 a6 : Vl} (hd : decode cc pc = .ok (.invokestatic idx, 3)) (hn : pc + 3 = pc') (hM : sr_MS own idx y ycc ynL (none) 6) (hdp : yd + 1 ≤ d) (hw : sr_wd st ≤ 8) (hC : sr_C y ycc ynL (none) yd [a1, a2, a3, a4, a5, a6] σ QC) (k : ∀ σ1, QC 0 σ1 → sr_G own cc nL ret d pc' lv (st) σ1 Q) : sr_G own cc nL ret d pc lv (a6 :: a5 :: a4 :: a3 :: a2 :: a1 :: st) σ Q := sr_callSv (av := [a1, a2, a3, a4, a5, a6]) hd hn hM rfl hdp hw hC k


/-- a number on the stack gets a name -/
theorem g_topI {x : Int} (k : ∀ z, z = x → sr_G own cc nL ret d pc lv (vI z :: st) σ Q) : sr_G own cc nL ret d pc lv (vI x :: st) σ Q := k x rfl
theorem g_topL {x : Int} (k : ∀ z, z = x → sr_G own cc nL ret d pc lv (vL z :: st) σ Q) : sr_G own cc nL ret d pc lv (vL x :: st) σ Q := k x rfl
/-- the store gets a name -/
theorem g_sto (k : ∀ s, s = σ → sr_G own cc nL ret d pc lv st s Q) : sr_G own cc nL ret d pc lv st σ Q := k σ rfl
theorem sr_join {GG : Int → Prop} {goal : Prop} {v : Int} (hj : ∀ x, x = v → GG x) (hp : (∀ x, x = v → GG x) → goal) : goal := hp hj
theorem g_dsl {idx : Nat} (hd : decode cc pc = .ok (.getstatic idx, 3)) (hd2 : decode cc (pc + 3) = .ok (.arraylength, 1)) (hn : pc + 3 + 1 = pc') (hw : Cond.fieldLink own idx "SmokeRings" "DIGEST_STEPS" "[I" ∈ gW) (k : sr_G own cc nL ret d pc' lv (vI 4 :: st) σ Q) : sr_G own cc nL ret d pc lv st σ Q := by
  subst hn
  intro p l e s m args below meth c dC dI ad ca A H locs ls E hP hS hσ hlv hst hl
  obtain ⟨t, hZ, hT⟩ := E.2.2.2.2.2.2.2.2.2.2.2
  refine va_gets E.1 E.2.1 hZ hS E.2.2.2.2.2.1 (E.2.2.2.2.2.2.1 _ hw) (fun _ h => h) hd ?_
  refine va_tlen (v := Int32.ofInt 4) E.1 E.2.1 hT hS rfl hd2 ?_
  exact k p l e s m args below meth c dC dI ad ca A H locs ls E hP hS hσ hlv ⟨(by unfold okV r32; omega), hst⟩ hl
theorem sr_ds_r (n : Nat) : r32 (sr_ds n) := by
  unfold sr_ds
  rcases n with _ | _ | _ | _ | n <;> simp [r32]
theorem g_dsi {idx : Nat} {i : Nat} {z : Int} (hd : decode cc pc = .ok (.getstatic idx, 3)) (hd2 : decode cc (pc + 3) = .ok (.iload i, 2)) (hd3 : decode cc (pc + 3 + 2) = .ok (.iaload, 1)) (hn : pc + 3 + 2 + 1 = pc') (hw : Cond.fieldLink own idx "SmokeRings" "DIGEST_STEPS" "[I" ∈ gW) (hk : lv.lookup i = some (vI z)) (hi : inb z 4) (k : sr_G own cc nL ret d pc' lv (vI (sr_ds z.toNat) :: st) σ Q) : sr_G own cc nL ret d pc lv st σ Q := by
  subst hn
  intro p l e s m args below meth c dC dI ad ca A H locs ls E hP hS hσ hlv hst hl
  obtain ⟨t, hZ, hT⟩ := E.2.2.2.2.2.2.2.2.2.2.2
  refine va_gets E.1 E.2.1 hZ hS E.2.2.2.2.2.1 (E.2.2.2.2.2.2.1 _ hw) (fun _ h => h) hd ?_
  refine lv_iload E.1 E.2.1 hd2 (lv_lk hl hk) ?_
  have hz := okE_lk hlv hk
  refine va_ti E.1 E.2.1 hT hS (vpin hz hi) rfl hd3 ?_
  rw [clamp32 hz]
  exact k p l e s m args below meth c dC dI ad ca A H locs ls E hP hS hσ hlv ⟨sr_ds_r _, hst⟩ hl
def cpy (σ : Sto) (c0 sp c1 dp n : Nat) : Sto := upR σ c1 (fun j => if dp ≤ j ∧ j < dp + n then σ c0 (sp + (j - dp)) else σ c1 j)
theorem g_acpy {idx c0 c1 : Nat} {sp dp n : Int} (hd : decode cc pc = .ok (.invokestatic idx, 3)) (hn : pc + 3 = pc') (hm : Cond.methodLink own idx arraycopyName ∈ gW) (hm2 : Cond.native arraycopyName ∈ gW) (hm3 : Cond.static arraycopyName ∈ gW) (hm4 : Cond.initialized "java/lang/System" ∈ gW) (hk0 : kd c0 = 1) (hk1 : kd c1 = 1) (h1 : 0 ≤ sp) (h2 : 0 ≤ dp) (h3 : 0 ≤ n) (h4 : sp + n ≤ (al c0 : Int)) (h5 : dp + n ≤ (al c1 : Int)) (hdp : 1 ≤ d) (hw : sr_wd st ≤ 8) (k : sr_G own cc nL ret d pc' lv st (cpy σ c0 sp.toNat c1 dp.toNat n.toNat) Q) : sr_G own cc nL ret d pc lv (vI n :: vI dp :: vR c1 :: vI sp :: vR c0 :: st) σ Q := by
  subst hn
  intro p l e s m args below meth c dC dI ad ca A H locs ls E hP hS hσ hlv hst hl
  have hN0 := kd_lt hk0 (by omega)
  have hN1 := kd_lt hk1 (by omega)
  obtain ⟨t0, ht0⟩ := tyW_get (ca := ca) hN0 (by omega)
  obtain ⟨t1, ht1⟩ := tyW_get (ca := ca) hN1 (by omega)
  rw [hk0] at ht0
  rw [hk1] at ht1
  obtain ⟨rn, rdp, -, rsp, -, hst⟩ := hst
  have hts := E.2.2.2.2.2.2.1
  have hfr : 1 ≤ (sr_rm d).frames := hdp
  have e9 : nativeFrameWords "java/lang/System" "arraycopy" 5 + 11 ≤ 32 := by decide +kernel
  have hlo : ((st.map (sr_rv ad)).map fun v => v.category).sum + (nativeFrameWords "java/lang/System" "arraycopy" 5 + 11) ≤ (sr_rm d).locals := by
    rw [cat_sum]
    show sr_wd st + _ ≤ 40 * d
    omega
  refine va_copyi (D := (dC, dI)) (ty := .int) E.1 E.2.1 (by rw [E.2.2.1]; exact hl.1.symm) E.2.2.2.2.2.1 (hts _ hm) (hts _ hm2) (hts _ hm3) (hts _ hm4) E.2.2.2.2.2.2.2.2.1 hP (E.2.2.2.2.2.2.2.2.2.1.va σ) hS c0 c1 t0 t1 (by rw [rW_get hN0, cE_int hk0]) (by rw [rW_get hN1, cE_int hk1]) ht0 ht1 rfl (fun q => absurd ((lt32 rsp r32_0).mp q) (by omega)) (fun q => absurd ((lt32 rdp r32_0).mp q) (by omega)) (fun q => absurd ((lt32 rn r32_0).mp q) (by omega)) (by rw [clamp32 rsp, clamp32 rn]; omega) (by rw [clamp32 rdp, clamp32 rn]; omega) (fun i _ => rfl) hfr hlo hd (fun H1 locs1 hP1 hD1 hS1 => ?_)
  rw [clamp32 rsp, clamp32 rdp, clamp32 rn] at hP1
  have e1 : va_cpy (fun j => Int32.ofInt (σ c0 j)) (fun j => Int32.ofInt (σ c1 j)) sp.toNat dp.toNat n.toNat = fun j => Int32.ofInt (cpy σ c0 sp.toNat c1 dp.toNat n.toNat c1 j) := by
    funext j
    unfold va_cpy cpy upR
    by_cases hc : dp.toNat ≤ j ∧ j < dp.toNat + n.toNat
    · simp only [if_pos hc, if_true]
    · simp only [if_neg hc, if_true]
  rw [e1, rW_set (σ' := cpy σ c0 sp.toNat c1 dp.toNat n.toNat) hN1 upR_ne (cE_int hk1).symm] at hP1
  exact k p l e s m args below meth c dC dI ad ca A H1 locs1 ls E hP1 hS1 (okS_upR hσ (fun j => by
    rw [sty_int hk1]
    have z0 := hσ c0 (sp.toNat + (j - dp.toNat))
    have z1 := hσ c1 j
    rw [sty_int hk0] at z0
    rw [sty_int hk1] at z1
    split
    · exact z0
    · exact z1)) hlv hst hl

end sr_rules3
