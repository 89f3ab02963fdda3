/-! ===== the law's start: tables, statics ===== -/
theorem wi_19 : (Cond.classLink "SmokeRingsLaw" (7 : Nat) "SmokeRings") ∈ gW := mem_t1 19 (by decide +kernel) (by decide +kernel)
theorem wi_20 : (Cond.instantiable "SmokeRings" (13 : Nat)) ∈ gW := mem_t1 20 (by decide +kernel) (by decide +kernel)
theorem iw_RL_7 : ic_NW RL 7 11 [.null, .null, .null, .null, .null, .null, .null, .null, .null, .null, .null, .int 0, .int 0] 13 := ⟨(RX11, TX11, 13), tyX11, rfl, uw_11, tyX11_ok, wi_19, wi_20, wm_1, fun j hj => by
  have hj : j < 13 := hj
  rcases (show j = 0 ∨ j = 1 ∨ j = 2 ∨ j = 3 ∨ j = 4 ∨ j = 5 ∨ j = 6 ∨ j = 7 ∨ j = 8 ∨ j = 9 ∨ j = 10 ∨ j = 11 ∨ j = 12 by omega) with rfl | rfl | rfl | rfl | rfl | rfl | rfl | rfl | rfl | rfl | rfl | rfl | rfl <;> rfl, rfl⟩
theorem wi_22 : (Cond.instanceMethod ({ cls := "SmokeRings", name := "<init>", desc := "()V" } : MethodName)) ∈ gW := mem_t1 22 (by decide +kernel) (by decide +kernel)
theorem wi_23 : (Cond.code ({ cls := "SmokeRings", name := "<init>", desc := "()V" } : MethodName) prog_1_method_1_code (3 : Nat) (Option.none : Option FieldType)) ∈ gW := mem_t1 23 (by decide +kernel) (by decide +kernel)
theorem wi_21 : (Cond.methodLink "SmokeRingsLaw" (9 : Nat) ({ cls := "SmokeRings", name := "<init>", desc := "()V" } : MethodName)) ∈ gW := mem_t1 21 (by decide +kernel) (by decide +kernel)
theorem im_RL_9 : ic_MI RL 9 yX11_init cX11_init 3 0 := ⟨wi_21, wi_22, wm_1, wi_23, rfl, ⟨by decide +kernel, by decide +kernel⟩, by decide +kernel⟩
theorem wi_972 : (Cond.classLink "SmokeRingsLaw" (10 : Nat) "SmokeRingsModel") ∈ gW := mem_t5 12 (by decide +kernel) (by decide +kernel)
theorem wi_973 : (Cond.instantiable "SmokeRingsModel" (32 : Nat)) ∈ gW := mem_t5 13 (by decide +kernel) (by decide +kernel)
theorem iw_RL_10 : ic_NW RL 10 12 [.null, .null, .null, .null, .int 0, .null, .null, .int 0, .int 0, .null, .int 0, .null, .null, .int 0, .int 0, .null, .null, .null, .null, .null, .null, .null, .null, .int 0, .int 0, .int 0, .int 0, .int 0, .null, .null, .int 0, .null] 32 := ⟨(RX12, TX12, 32), tyX12, rfl, uw_12, tyX12_ok, wi_972, wi_973, wm_15, fun j hj => by
  have hj : j < 32 := hj
  rcases (show j = 0 ∨ j = 1 ∨ j = 2 ∨ j = 3 ∨ j = 4 ∨ j = 5 ∨ j = 6 ∨ j = 7 ∨ j = 8 ∨ j = 9 ∨ j = 10 ∨ j = 11 ∨ j = 12 ∨ j = 13 ∨ j = 14 ∨ j = 15 ∨ j = 16 ∨ j = 17 ∨ j = 18 ∨ j = 19 ∨ j = 20 ∨ j = 21 ∨ j = 22 ∨ j = 23 ∨ j = 24 ∨ j = 25 ∨ j = 26 ∨ j = 27 ∨ j = 28 ∨ j = 29 ∨ j = 30 ∨ j = 31 by omega) with rfl | rfl | rfl | rfl | rfl | rfl | rfl | rfl | rfl | rfl | rfl | rfl | rfl | rfl | rfl | rfl | rfl | rfl | rfl | rfl | rfl | rfl | rfl | rfl | rfl | rfl | rfl | rfl | rfl | rfl | rfl | rfl <;> rfl, rfl⟩
theorem wi_975 : (Cond.instanceMethod ({ cls := "SmokeRingsModel", name := "<init>", desc := "()V" } : MethodName)) ∈ gW := mem_t5 15 (by decide +kernel) (by decide +kernel)
theorem wi_976 : (Cond.code ({ cls := "SmokeRingsModel", name := "<init>", desc := "()V" } : MethodName) prog_14_method_1_code (2 : Nat) (Option.none : Option FieldType)) ∈ gW := mem_t5 16 (by decide +kernel) (by decide +kernel)
theorem wi_974 : (Cond.methodLink "SmokeRingsLaw" (12 : Nat) ({ cls := "SmokeRingsModel", name := "<init>", desc := "()V" } : MethodName)) ∈ gW := mem_t5 14 (by decide +kernel) (by decide +kernel)
theorem im_RL_12 : ic_MI RL 12 yX12_init cX12_init 2 0 := ⟨wi_974, wi_975, wm_15, wi_976, rfl, ⟨by decide +kernel, by decide +kernel⟩, by decide +kernel⟩
theorem st_int {s : State} {args : Array Value} (h : (Cond.arrayClass .int).before args s = true) : ∃ cA, ArrOfT s cA .int ∧ va_RA s cA .int := by
  obtain ⟨cA, kA, comp, h1, h2, h3⟩ := Cond.arrayClass_spec h
  exact ⟨cA, fun n z => ⟨fun k h => (by cases h), kA, h2, comp, h3⟩, h1⟩
theorem st_bool {s : State} {args : Array Value} (h : (Cond.arrayClass .boolean).before args s = true) : ∃ cA, ArrOfT s cA .boolean ∧ va_RA s cA .boolean := by
  obtain ⟨cA, kA, comp, h1, h2, h3⟩ := Cond.arrayClass_spec h
  exact ⟨cA, fun n z => ⟨fun k h => (by cases h), kA, h2, comp, h3⟩, h1⟩
theorem st_long {s : State} {args : Array Value} (h : (Cond.arrayClass .long).before args s = true) : ∃ cA, ArrOfT s cA .long ∧ va_RA s cA .long := by
  obtain ⟨cA, kA, comp, h1, h2, h3⟩ := Cond.arrayClass_spec h
  exact ⟨cA, fun n z => ⟨fun k h => (by cases h), kA, h2, comp, h3⟩, h1⟩
theorem st_obj {s : State} {args : Array Value} {C : String} (h : (Cond.arrayOver (.object C)).before args s = true) : ∃ cA, ArrOfT s cA (.object C) ∧ va_RA s cA (.object C) := by
  obtain ⟨comp, cA, kA, hcomp, hidx, hkA, hkindA, hnameA⟩ := Cond.arrayOver_spec h
  exact ⟨cA, fun n z => ⟨fun k h => (by cases h), kA, hkA, comp, hkindA⟩, kA, comp, hkA, hkindA, hcomp, hnameA⟩
theorem st_K {s : State} {args : Array Value} (hts : ∀ w ∈ gW, w.before args s = true) (h4 : (Cond.arrayOver (.object "SmokeRings$Text")).before args s = true) (h5 : (Cond.arrayOver (.object "SmokeRings$Sheet")).before args s = true) : ∃ (dC : Nat → ClassId) (dI : Nat → Nat → Nat) (ka : Nat → ClassId), va_K (dC, dI) vwCl (ic_ty ka) s := by
  have key : ∀ k : Nat, ∃ x : ClassId × (Nat → Nat), ∀ q : vw_C, vwCl[k]? = some q → u_Kn s q.1 q.2.1 q.2.2 x.1 x.2 := by
    intro k
    by_cases hk : k < 13
    · have hc : k = 0 ∨ k = 1 ∨ k = 2 ∨ k = 3 ∨ k = 4 ∨ k = 5 ∨ k = 6 ∨ k = 7 ∨ k = 8 ∨ k = 9 ∨ k = 10 ∨ k = 11 ∨ k = 12 := by omega
      rcases hc with rfl | rfl | rfl | rfl | rfl | rfl | rfl | rfl | rfl | rfl | rfl | rfl | rfl
      · obtain ⟨cC, iS, h⟩ := u_known (C := RX0) (T := TX0) (N := 10) (n := 10) hts uw_0 (hts _ wi_356)
        exact ⟨(cC, iS), fun q hq => by obtain rfl := Option.some.inj (show some (RX0, TX0, 10) = some q from hq); exact h⟩
      · obtain ⟨cC, iS, h⟩ := u_known (C := RX1) (T := TX1) (N := 1) (n := 1) hts uw_1 (hts _ wi_201)
        exact ⟨(cC, iS), fun q hq => by obtain rfl := Option.some.inj (show some (RX1, TX1, 1) = some q from hq); exact h⟩
      · obtain ⟨cC, iS, h⟩ := u_known (C := RX2) (T := TX2) (N := 3) (n := 3) hts uw_2 (hts _ wi_275)
        exact ⟨(cC, iS), fun q hq => by obtain rfl := Option.some.inj (show some (RX2, TX2, 3) = some q from hq); exact h⟩
      · obtain ⟨cC, iS, h⟩ := u_known (C := RX3) (T := TX3) (N := 7) (n := 7) hts uw_3 (hts _ wi_328)
        exact ⟨(cC, iS), fun q hq => by obtain rfl := Option.some.inj (show some (RX3, TX3, 7) = some q from hq); exact h⟩
      · obtain ⟨cC, iS, h⟩ := u_known (C := RX4) (T := TX4) (N := 12) (n := 12) hts uw_4 (hts _ wi_54)
        exact ⟨(cC, iS), fun q hq => by obtain rfl := Option.some.inj (show some (RX4, TX4, 12) = some q from hq); exact h⟩
      · obtain ⟨cC, iS, h⟩ := u_known (C := RX5) (T := TX5) (N := 10) (n := 10) hts uw_5 (hts _ wi_269)
        exact ⟨(cC, iS), fun q hq => by obtain rfl := Option.some.inj (show some (RX5, TX5, 10) = some q from hq); exact h⟩
      · obtain ⟨cC, iS, h⟩ := u_known (C := RX6) (T := TX6) (N := 13) (n := 13) hts uw_6 (hts _ wi_139)
        exact ⟨(cC, iS), fun q hq => by obtain rfl := Option.some.inj (show some (RX6, TX6, 13) = some q from hq); exact h⟩
      · obtain ⟨cC, iS, h⟩ := u_known (C := RX7) (T := TX7) (N := 3) (n := 3) hts uw_7 (hts _ wi_250)
        exact ⟨(cC, iS), fun q hq => by obtain rfl := Option.some.inj (show some (RX7, TX7, 3) = some q from hq); exact h⟩
      · obtain ⟨cC, iS, h⟩ := u_known (C := RX8) (T := TX8) (N := 3) (n := 3) hts uw_8 (hts _ wi_211)
        exact ⟨(cC, iS), fun q hq => by obtain rfl := Option.some.inj (show some (RX8, TX8, 3) = some q from hq); exact h⟩
      · obtain ⟨cC, iS, h⟩ := u_known (C := RX9) (T := TX9) (N := 2) (n := 2) hts uw_9 (hts _ wi_230)
        exact ⟨(cC, iS), fun q hq => by obtain rfl := Option.some.inj (show some (RX9, TX9, 2) = some q from hq); exact h⟩
      · obtain ⟨cC, iS, h⟩ := u_known (C := RX10) (T := TX10) (N := 3) (n := 3) hts uw_10 (hts _ wi_30)
        exact ⟨(cC, iS), fun q hq => by obtain rfl := Option.some.inj (show some (RX10, TX10, 3) = some q from hq); exact h⟩
      · obtain ⟨cC, iS, h⟩ := u_known (C := RX11) (T := TX11) (N := 13) (n := 13) hts uw_11 (hts _ wi_20)
        exact ⟨(cC, iS), fun q hq => by obtain rfl := Option.some.inj (show some (RX11, TX11, 13) = some q from hq); exact h⟩
      · obtain ⟨cC, iS, h⟩ := u_known (C := RX12) (T := TX12) (N := 32) (n := 32) hts uw_12 (hts _ wi_973)
        exact ⟨(cC, iS), fun q hq => by obtain rfl := Option.some.inj (show some (RX12, TX12, 32) = some q from hq); exact h⟩
    · exact ⟨(0, fun _ => 0), fun q hq => by rw [List.getElem?_eq_none (by show 13 ≤ k; omega)] at hq; cases hq⟩
  obtain ⟨f, hf⟩ := Classical.axiomOfChoice key
  obtain ⟨c1, a1, b1⟩ := st_int (hts _ wi_51)
  obtain ⟨c2, a2, b2⟩ := st_long (hts _ wi_394)
  obtain ⟨c3, a3, b3⟩ := st_bool (hts _ wi_52)
  obtain ⟨c4, a4, b4⟩ := st_obj h4
  obtain ⟨c5, a5, b5⟩ := st_obj h5
  refine ⟨fun k => (f k).1, fun k => (f k).2, fun j => ([0, c1, c2, c3, c4, c5] : List Nat).getD j 0, fun c q hq => hf c q hq, fun k q hq => ?_⟩
  by_cases hk : k < 5
  · have hc : k = 0 ∨ k = 1 ∨ k = 2 ∨ k = 3 ∨ k = 4 := by omega
    rcases hc with rfl | rfl | rfl | rfl | rfl
    · obtain rfl := Option.some.inj (show some (c1, FieldType.int) = some q from hq); exact ⟨a1, b1⟩
    · obtain rfl := Option.some.inj (show some (c2, FieldType.long) = some q from hq); exact ⟨a2, b2⟩
    · obtain rfl := Option.some.inj (show some (c3, FieldType.boolean) = some q from hq); exact ⟨a3, b3⟩
    · obtain rfl := Option.some.inj (show some (c4, FieldType.object "SmokeRings$Text") = some q from hq); exact ⟨a4, b4⟩
    · obtain rfl := Option.some.inj (show some (c5, FieldType.object "SmokeRings$Sheet") = some q from hq); exact ⟨a5, b5⟩
  · rw [List.getElem?_eq_none (by show 5 ≤ k; omega)] at hq
    cases hq
theorem st_X {s : State} {b : Nat} (hl : ∀ w ∈ lw_tbl, w.before #[Value.ref b] s = true) (hgv : (Jvm.Cond.and given_1 narrow_1).before #[Value.ref b] s = true) : ic_X (lj_A s) s s.heap ∧ sr_St (lj_A s) s s.heap := by
  have hs := flat_of_before _ hgv
  have hA : ∀ a : Nat, a < s.heap.size → ¬ lj_A s a := fun a h => Nat.not_le.mpr h
  obtain ⟨t1, ht1, hT1⟩ := va_Tof (args := #[Value.ref b]) (s := s) (tm := .static "SmokeRings" "TEXT_ROOMS" "[I") (ty := .int) (N := 3) (f := fun j => .int (Int32.ofInt (ic_tr j))) (A := lj_A s) (by decide) (hs (Cond.arrayOf (.static "SmokeRings" "TEXT_ROOMS" "[I") .int) (by decide +kernel)) (va_eqt (hs (Cond.eq (.length (.static "SmokeRings" "TEXT_ROOMS" "[I")) (.int 3)) (by decide +kernel))) (fun j hj => by
    have hc : j = 0 ∨ j = 1 ∨ j = 2 := by omega
    rcases hc with rfl | rfl | rfl
    · show _ = some (Value.int (Int32.ofInt (ic_tr 0)))
      rw [show Int32.ofInt (ic_tr 0) = 41 from by decide +kernel]
      exact va_eqt (hs (Cond.eq (.elem (.static "SmokeRings" "TEXT_ROOMS" "[I") (.int 0)) (.int 41)) (by decide +kernel))
    · show _ = some (Value.int (Int32.ofInt (ic_tr 1)))
      rw [show Int32.ofInt (ic_tr 1) = 39 from by decide +kernel]
      exact va_eqt (hs (Cond.eq (.elem (.static "SmokeRings" "TEXT_ROOMS" "[I") (.int 1)) (.int 39)) (by decide +kernel))
    · show _ = some (Value.int (Int32.ofInt (ic_tr 2)))
      rw [show Int32.ofInt (ic_tr 2) = 20 from by decide +kernel]
      exact va_eqt (hs (Cond.eq (.elem (.static "SmokeRings" "TEXT_ROOMS" "[I") (.int 2)) (.int 20)) (by decide +kernel))) hA
  obtain ⟨t2, ht2, hT2⟩ := va_Tof (args := #[Value.ref b]) (s := s) (tm := .static "SmokeRings" "DIGEST_STEPS" "[I") (ty := .int) (N := 4) (f := fun j => .int (Int32.ofInt (sr_ds j))) (A := lj_A s) (by decide) (hs (Cond.arrayOf (.static "SmokeRings" "DIGEST_STEPS" "[I") .int) (by decide +kernel)) (va_eqt (hs (Cond.eq (.length (.static "SmokeRings" "DIGEST_STEPS" "[I")) (.int 4)) (by decide +kernel))) (fun j hj => by
    have hc : j = 0 ∨ j = 1 ∨ j = 2 ∨ j = 3 := by omega
    rcases hc with rfl | rfl | rfl | rfl
    · show _ = some (Value.int (Int32.ofInt (sr_ds 0)))
      rw [show Int32.ofInt (sr_ds 0) = 0 from by decide +kernel]
      exact va_eqt (hs (Cond.eq (.elem (.static "SmokeRings" "DIGEST_STEPS" "[I") (.int 0)) (.int 0)) (by decide +kernel))
    · show _ = some (Value.int (Int32.ofInt (sr_ds 1)))
      rw [show Int32.ofInt (sr_ds 1) = 4 from by decide +kernel]
      exact va_eqt (hs (Cond.eq (.elem (.static "SmokeRings" "DIGEST_STEPS" "[I") (.int 1)) (.int 4)) (by decide +kernel))
    · show _ = some (Value.int (Int32.ofInt (sr_ds 2)))
      rw [show Int32.ofInt (sr_ds 2) = 9 from by decide +kernel]
      exact va_eqt (hs (Cond.eq (.elem (.static "SmokeRings" "DIGEST_STEPS" "[I") (.int 2)) (.int 9)) (by decide +kernel))
    · show _ = some (Value.int (Int32.ofInt (sr_ds 3)))
      rw [show Int32.ofInt (sr_ds 3) = 19 from by decide +kernel]
      exact va_eqt (hs (Cond.eq (.elem (.static "SmokeRings" "DIGEST_STEPS" "[I") (.int 3)) (.int 19)) (by decide +kernel))) hA
  refine ⟨⟨⟨⟨?_, ?_, ?_, ?_, ?_⟩, ?_, ?_⟩, t1, va_Zref (hl _ (tin_1 _ (List.mem_of_getElem? (i := 232) (by decide +kernel)))) (hl _ (tin_1 _ (List.mem_of_getElem? (i := 1) (by decide +kernel)))) ht1 hA, hT1⟩, ?_, t2, va_Zref (hl _ (tin_4 _ (List.mem_of_getElem? (i := 234) (by decide +kernel)))) (hl _ (tin_1 _ (List.mem_of_getElem? (i := 1) (by decide +kernel)))) ht2 hA, hT2⟩
  · exact va_Nw.of rfl (hl ic_n1 (tin_1 _ (List.mem_of_getElem? (i := 31) (by decide +kernel))))
  · exact va_Nw.of rfl (hl ic_n2 (tin_1 _ (List.mem_of_getElem? (i := 202) (by decide +kernel))))
  · exact va_Nw.of rfl (hl ic_n3 (tin_1 _ (List.mem_of_getElem? (i := 212) (by decide +kernel))))
  · exact va_Nw.of rfl (hl ic_n4 (tin_2 _ (List.mem_of_getElem? (i := 11) (by decide +kernel))))
  · exact va_Nw.of rfl (hl ic_n5 (tin_2 _ (List.mem_of_getElem? (i := 36) (by decide +kernel))))
  · exact va_AO.of (hl (.arrayOver (.object "SmokeRings$Text")) (tin_1 _ (List.mem_of_getElem? (i := 28) (by decide +kernel))))
  · exact va_AO.of (hl (.arrayOver (.object "SmokeRings$Sheet")) (tin_1 _ (List.mem_of_getElem? (i := 229) (by decide +kernel))))
  · exact va_Nw.of rfl (hl sr_nest (tin_2 _ (List.mem_of_getElem? (i := 16) (by decide +kernel))))
