def P_X12_find (s : Sto) (Q : Int → Sto → Prop) : Prop := (P_X12_readsValley s (fun r2 s1 => (P_X12_readsThings s1 (fun r4 s3 => (P_X12_readsWind s3 (fun r6 s5 => (P_X12_lives s5 (fun _ s7 => Q 0 s7))))))))
set_option maxRecDepth 100000 in
theorem C_X12_find {s : Sto} {Q : Int → Sto → Prop}  (h : P_X12_find s Q) : sr_C yX12_find cX12_find 1 none 5 [vR 69] s Q := by
  refine sr_C.of (by decide +kernel) (Nat.le_of_ble_eq_true rfl) ?_
  show sr_G RX12 cX12_find 1 none 5 0 [(0, vR 69)] [] s Q
  unfold P_X12_find at h
  refine g_aload_n (pc' := 1) dX12_find_0 rfl rfl ?_
  refine g_V0i (pc' := 4) dX12_find_1 rfl mv_RX12_135 kd_69 (by decide) (Nat.le_of_ble_eq_true rfl) (C_X12_readsValley h) (fun r2 s1 h => ?_)
  refine g_pop (pc' := 5) dX12_find_4 rfl ?_
  refine g_aload_n (pc' := 6) dX12_find_5 rfl rfl ?_
  refine g_V0i (pc' := 9) dX12_find_6 rfl mv_RX12_139 kd_69 (by decide) (Nat.le_of_ble_eq_true rfl) (C_X12_readsThings h) (fun r4 s3 h => ?_)
  refine g_pop (pc' := 10) dX12_find_9 rfl ?_
  refine g_aload_n (pc' := 11) dX12_find_10 rfl rfl ?_
  refine g_V0i (pc' := 14) dX12_find_11 rfl mv_RX12_142 kd_69 (by decide) (Nat.le_of_ble_eq_true rfl) (C_X12_readsWind h) (fun r6 s5 h => ?_)
  refine g_pop (pc' := 15) dX12_find_14 rfl ?_
  refine g_aload_n (pc' := 16) dX12_find_15 rfl rfl ?_
  refine g_V0v (pc' := 19) dX12_find_16 rfl mv_RX12_227 kd_69 (by decide) (Nat.le_of_ble_eq_true rfl) (C_X12_lives h) (fun s7 h => ?_)
  exact g_vret dX12_find_19 rfl h
def P_X12_at (v1 : Int) (v2 : Int) (v3 : Int) (s : Sto) (Q : Int → Sto → Prop) : Prop := (P_X12_find s (fun _ s1 => ((F_X12_isStep v1 s1 = 0 → Q ((-2)) s1) ∧ (¬ F_X12_isStep v1 s1 = 0 → ((F_X12_isRing v2 s1 = 0 → Q ((-2)) s1) ∧ (¬ F_X12_isRing v2 s1 = 0 → ((F_X12_in v3 0 3 s1 = 0 → Q ((-2)) s1) ∧ (¬ F_X12_in v3 0 3 s1 = 0 → (inb (w32 ((w32 ((w32 (32 * v1)) + (w32 (4 * v2)))) + v3)) 640 ∧ Q (s1 84 (w32 ((w32 ((w32 (32 * v1)) + (w32 (4 * v2)))) + v3)).toNat) s1)))))))))
set_option maxRecDepth 100000 in
theorem C_X12_at {v1 : Int} {v2 : Int} {v3 : Int} {s : Sto} {Q : Int → Sto → Prop}  (h : P_X12_at v1 v2 v3 s Q) : sr_C yX12_at cX12_at 4 (some .int) 6 [vR 69, vI v1, vI v2, vI v3] s Q := by
  refine sr_C.of (by decide +kernel) (Nat.le_of_ble_eq_true rfl) ?_
  show sr_G RX12 cX12_at 4 (some .int) 6 0 [(0, vR 69), (1, vI v1), (2, vI v2), (3, vI v3)] [] s Q
  unfold P_X12_at at h
  refine g_aload_n (pc' := 1) dX12_at_0 rfl rfl ?_
  refine g_V0v (pc' := 4) dX12_at_1 rfl mv_RX12_230 kd_69 (by decide) (Nat.le_of_ble_eq_true rfl) (C_X12_find h) (fun s1 h => ?_)
  refine g_iload_n (pc' := 5) dX12_at_4 rfl rfl ?_
  refine g_S1z (pc' := 8) dX12_at_5 rfl ms_RX12_155 (by decide) (Nat.le_of_ble_eq_true rfl) C_X12_isStep (sr_purb (fun hb3 => ?_))
  refine g_if_eq (pc' := 11) (tgt := 49) dX12_at_8 rfl rfl (fun c4 => ?_) (fun c4 => ?_)
  · have h := h.1 c4
    refine g_bipush (pc' := 51) ⟨by unfold r32; decide, rfl⟩ dX12_at_49 rfl ?_
    exact g_iret dX12_at_51 rfl h
  · have h := h.2 c4
    refine g_aload_n (pc' := 12) dX12_at_11 rfl rfl ?_
    refine g_iload_n (pc' := 13) dX12_at_12 rfl rfl ?_
    refine g_V1z (pc' := 16) dX12_at_13 rfl mv_RX12_169 kd_69 (by decide) (Nat.le_of_ble_eq_true rfl) C_X12_isRing (sr_purb (fun hb5 => ?_))
    refine g_if_eq (pc' := 19) (tgt := 49) dX12_at_16 rfl rfl (fun c6 => ?_) (fun c6 => ?_)
    · have h := h.1 c6
      refine g_bipush (pc' := 51) ⟨by unfold r32; decide, rfl⟩ dX12_at_49 rfl ?_
      exact g_iret dX12_at_51 rfl h
    · have h := h.2 c6
      refine g_iload_n (pc' := 20) dX12_at_19 rfl rfl ?_
      refine g_i2l (pc' := 21) dX12_at_20 rfl ?_
      refine g_lconst (pc' := 22) (z := 0) ⟨by unfold r64; decide, rfl⟩ dX12_at_21 rfl ?_
      refine g_ldc2 (pc' := 25) (z := 3) (by unfold r64; decide) kc_RX12_83 dX12_at_22 rfl ?_
      refine g_S3z (pc' := 28) dX12_at_25 rfl ms_RX12_76 (by decide) (Nat.le_of_ble_eq_true rfl) C_X12_in (sr_purb (fun hb7 => ?_))
      refine g_if_eq (pc' := 31) (tgt := 49) dX12_at_28 rfl rfl (fun c8 => ?_) (fun c8 => ?_)
      · have h := h.1 c8
        refine g_bipush (pc' := 51) ⟨by unfold r32; decide, rfl⟩ dX12_at_49 rfl ?_
        exact g_iret dX12_at_51 rfl h
      · have h := h.2 c8
        refine g_aload_n (pc' := 32) dX12_at_31 rfl rfl ?_
        refine g_getR (pc' := 35) (r := 84) dX12_at_32 rfl fl_RX12_52 kd_69 rfl rf_69_20 ?_
        refine g_bipush (pc' := 37) ⟨by unfold r32; decide, rfl⟩ dX12_at_35 rfl ?_
        refine g_iload_n (pc' := 38) dX12_at_37 rfl rfl ?_
        refine g_imul (pc' := 39) dX12_at_38 rfl ?_
        refine g_iconst (pc' := 40) (by unfold r32; decide) dX12_at_39 rfl ?_
        refine g_iload_n (pc' := 41) dX12_at_40 rfl rfl ?_
        refine g_imul (pc' := 42) dX12_at_41 rfl ?_
        refine g_iadd (pc' := 43) dX12_at_42 rfl ?_
        refine g_iload_n (pc' := 44) dX12_at_43 rfl rfl ?_
        refine g_iadd (pc' := 45) dX12_at_44 rfl ?_
        obtain ⟨ob9, h⟩ := h
        refine g_iald (pc' := 46) dX12_at_45 rfl kd_84 ob9 ?_
        refine g_goto (pc' := 51) dX12_at_46 rfl ?_
        exact g_iret dX12_at_51 rfl h
def F_X12_whomOf (v1 : Int) (s : Sto) : Int := (if s 85 v1.toNat = (-1) then (-1) else s 79 (w32 ((w32 (5 * (s 85 v1.toNat))) + 4)).toNat)
def O_X12_whomOf (v1 : Int) (s : Sto) : Prop := (inb v1 8 ∧ ((s 85 v1.toNat = (-1) → True) ∧ (¬ s 85 v1.toNat = (-1) → (inb v1 8 ∧ (inb (w32 ((w32 (5 * (s 85 v1.toNat))) + 4)) 40 ∧ True)))))
set_option maxRecDepth 100000 in
theorem C_X12_whomOf {v1 : Int} {s : Sto}  (h : O_X12_whomOf v1 s) : sr_C yX12_whomOf cX12_whomOf 2 (some .int) 0 [vR 69, vI v1] s (fun r s' => r = F_X12_whomOf v1 s ∧ s' = s) := by
  refine sr_C.of (by decide +kernel) (Nat.le_of_ble_eq_true rfl) ?_
  show sr_G RX12 cX12_whomOf 2 (some .int) 0 0 [(0, vR 69), (1, vI v1)] [] s (fun r s' => r = F_X12_whomOf v1 s ∧ s' = s)
  unfold O_X12_whomOf at h
  refine g_aload_n (pc' := 1) dX12_whomOf_0 rfl rfl ?_
  refine g_getR (pc' := 4) (r := 85) dX12_whomOf_1 rfl fl_RX12_55 kd_69 rfl rf_69_21 ?_
  refine g_iload_n (pc' := 5) dX12_whomOf_4 rfl rfl ?_
  obtain ⟨ob1, h⟩ := h
  refine g_iald (pc' := 6) dX12_whomOf_5 rfl kd_85 ob1 ?_
  refine g_iconst (pc' := 7) (by unfold r32; decide) dX12_whomOf_6 rfl ?_
  refine g_ic_ne (pc' := 10) (tgt := 14) dX12_whomOf_7 rfl rfl (fun c2 => ?_) (fun c2 => ?_)
  · have h := h.2 c2
    refine g_aload_n (pc' := 15) dX12_whomOf_14 rfl rfl ?_
    refine g_getR (pc' := 18) (r := 79) dX12_whomOf_15 rfl fl_RX12_37 kd_69 rfl rf_69_15 ?_
    refine g_iconst (pc' := 19) (by unfold r32; decide) dX12_whomOf_18 rfl ?_
    refine g_aload_n (pc' := 20) dX12_whomOf_19 rfl rfl ?_
    refine g_getR (pc' := 23) (r := 85) dX12_whomOf_20 rfl fl_RX12_55 kd_69 rfl rf_69_21 ?_
    refine g_iload_n (pc' := 24) dX12_whomOf_23 rfl rfl ?_
    obtain ⟨ob3, h⟩ := h
    refine g_iald (pc' := 25) dX12_whomOf_24 rfl kd_85 ob3 ?_
    refine g_imul (pc' := 26) dX12_whomOf_25 rfl ?_
    refine g_iconst (pc' := 27) (by unfold r32; decide) dX12_whomOf_26 rfl ?_
    refine g_iadd (pc' := 28) dX12_whomOf_27 rfl ?_
    obtain ⟨ob4, h⟩ := h
    refine g_iald (pc' := 29) dX12_whomOf_28 rfl kd_79 ob4 ?_
    exact g_iret dX12_whomOf_29 rfl ⟨(by simp only [F_X12_whomOf, if_neg c2]), rfl⟩
  · have h := h.1 c2
    refine g_iconst (pc' := 11) (by unfold r32; decide) dX12_whomOf_10 rfl ?_
    refine g_goto (pc' := 29) dX12_whomOf_11 rfl ?_
    exact g_iret dX12_whomOf_29 rfl ⟨(by simp only [F_X12_whomOf, if_pos c2]), rfl⟩
def F_X12_boundOf (v1 : Int) (v2 : Int) (s : Sto) : Int := (if v2 = 0 then s 85 v1.toNat else (if v2 = 1 then s 86 v1.toNat else F_X12_whomOf v1 s))
def O_X12_boundOf (v1 : Int) (v2 : Int) (s : Sto) : Prop := ((v2 = 0 → (inb v1 8 ∧ True)) ∧ (¬ v2 = 0 → ((v2 = 1 → (inb v1 8 ∧ True)) ∧ (¬ v2 = 1 → (O_X12_whomOf v1 s ∧ True)))))
set_option maxRecDepth 100000 in
theorem C_X12_boundOf {v1 : Int} {v2 : Int} {s : Sto}  (h : O_X12_boundOf v1 v2 s) : sr_C yX12_boundOf cX12_boundOf 3 (some .int) 1 [vR 69, vI v1, vI v2] s (fun r s' => r = F_X12_boundOf v1 v2 s ∧ s' = s) := by
  refine sr_C.of (by decide +kernel) (Nat.le_of_ble_eq_true rfl) ?_
  show sr_G RX12 cX12_boundOf 3 (some .int) 1 0 [(0, vR 69), (1, vI v1), (2, vI v2)] [] s (fun r s' => r = F_X12_boundOf v1 v2 s ∧ s' = s)
  unfold O_X12_boundOf at h
  refine g_iload_n (pc' := 1) dX12_boundOf_0 rfl rfl ?_
  refine g_if_ne (pc' := 4) (tgt := 13) dX12_boundOf_1 rfl rfl (fun c1 => ?_) (fun c1 => ?_)
  · have h := h.2 c1
    refine g_iload_n (pc' := 14) dX12_boundOf_13 rfl rfl ?_
    refine g_iconst (pc' := 15) (by unfold r32; decide) dX12_boundOf_14 rfl ?_
    refine g_ic_ne (pc' := 18) (tgt := 27) dX12_boundOf_15 rfl rfl (fun c3 => ?_) (fun c3 => ?_)
    · have h := h.2 c3
      refine g_aload_n (pc' := 28) dX12_boundOf_27 rfl rfl ?_
      refine g_iload_n (pc' := 29) dX12_boundOf_28 rfl rfl ?_
      obtain ⟨ob5, h⟩ := h
      refine g_V1i (pc' := 32) dX12_boundOf_29 rfl mv_RX12_233 kd_69 (by decide) (Nat.le_of_ble_eq_true rfl) (C_X12_whomOf ob5) (sr_pur ?_)
      exact g_iret dX12_boundOf_32 rfl ⟨(by simp only [F_X12_boundOf, if_neg c1, if_neg c3]), rfl⟩
    · have h := h.1 c3
      refine g_aload_n (pc' := 19) dX12_boundOf_18 rfl rfl ?_
      refine g_getR (pc' := 22) (r := 86) dX12_boundOf_19 rfl fl_RX12_58 kd_69 rfl rf_69_22 ?_
      refine g_iload_n (pc' := 23) dX12_boundOf_22 rfl rfl ?_
      obtain ⟨ob4, h⟩ := h
      refine g_iald (pc' := 24) dX12_boundOf_23 rfl kd_86 ob4 ?_
      refine g_goto (pc' := 32) dX12_boundOf_24 rfl ?_
      exact g_iret dX12_boundOf_32 rfl ⟨(by simp only [F_X12_boundOf, if_neg c1, if_pos c3]), rfl⟩
  · have h := h.1 c1
    refine g_aload_n (pc' := 5) dX12_boundOf_4 rfl rfl ?_
    refine g_getR (pc' := 8) (r := 85) dX12_boundOf_5 rfl fl_RX12_55 kd_69 rfl rf_69_21 ?_
    refine g_iload_n (pc' := 9) dX12_boundOf_8 rfl rfl ?_
    obtain ⟨ob2, h⟩ := h
    refine g_iald (pc' := 10) dX12_boundOf_9 rfl kd_85 ob2 ?_
    refine g_goto (pc' := 32) dX12_boundOf_10 rfl ?_
    exact g_iret dX12_boundOf_32 rfl ⟨(by simp only [F_X12_boundOf, if_pos c1]), rfl⟩
def P_X12_bound (v1 : Int) (v2 : Int) (s : Sto) (Q : Int → Sto → Prop) : Prop := (P_X12_find s (fun _ s1 => ((F_X12_isThing v1 s1 = 0 → Q ((-2)) s1) ∧ (¬ F_X12_isThing v1 s1 = 0 → ((F_X12_in v2 0 2 s1 = 0 → Q ((-2)) s1) ∧ (¬ F_X12_in v2 0 2 s1 = 0 → (O_X12_boundOf v1 v2 s1 ∧ Q (F_X12_boundOf v1 v2 s1) s1)))))))
set_option maxRecDepth 100000 in
theorem C_X12_bound {v1 : Int} {v2 : Int} {s : Sto} {Q : Int → Sto → Prop}  (h : P_X12_bound v1 v2 s Q) : sr_C yX12_bound cX12_bound 3 (some .int) 6 [vR 69, vI v1, vI v2] s Q := by
  refine sr_C.of (by decide +kernel) (Nat.le_of_ble_eq_true rfl) ?_
  show sr_G RX12 cX12_bound 3 (some .int) 6 0 [(0, vR 69), (1, vI v1), (2, vI v2)] [] s Q
  unfold P_X12_bound at h
  refine g_aload_n (pc' := 1) dX12_bound_0 rfl rfl ?_
  refine g_V0v (pc' := 4) dX12_bound_1 rfl mv_RX12_230 kd_69 (by decide) (Nat.le_of_ble_eq_true rfl) (C_X12_find h) (fun s1 h => ?_)
  refine g_aload_n (pc' := 5) dX12_bound_4 rfl rfl ?_
  refine g_iload_n (pc' := 6) dX12_bound_5 rfl rfl ?_
  refine g_V1z (pc' := 9) dX12_bound_6 rfl mv_RX12_152 kd_69 (by decide) (Nat.le_of_ble_eq_true rfl) C_X12_isThing (sr_purb (fun hb3 => ?_))
  refine g_if_eq (pc' := 12) (tgt := 33) dX12_bound_9 rfl rfl (fun c4 => ?_) (fun c4 => ?_)
  · have h := h.1 c4
    refine g_bipush (pc' := 35) ⟨by unfold r32; decide, rfl⟩ dX12_bound_33 rfl ?_
    exact g_iret dX12_bound_35 rfl h
  · have h := h.2 c4
    refine g_iload_n (pc' := 13) dX12_bound_12 rfl rfl ?_
    refine g_i2l (pc' := 14) dX12_bound_13 rfl ?_
    refine g_lconst (pc' := 15) (z := 0) ⟨by unfold r64; decide, rfl⟩ dX12_bound_14 rfl ?_
    refine g_ldc2 (pc' := 18) (z := 2) (by unfold r64; decide) kc_RX12_89 dX12_bound_15 rfl ?_
    refine g_S3z (pc' := 21) dX12_bound_18 rfl ms_RX12_76 (by decide) (Nat.le_of_ble_eq_true rfl) C_X12_in (sr_purb (fun hb5 => ?_))
    refine g_if_eq (pc' := 24) (tgt := 33) dX12_bound_21 rfl rfl (fun c6 => ?_) (fun c6 => ?_)
    · have h := h.1 c6
      refine g_bipush (pc' := 35) ⟨by unfold r32; decide, rfl⟩ dX12_bound_33 rfl ?_
      exact g_iret dX12_bound_35 rfl h
    · have h := h.2 c6
      refine g_aload_n (pc' := 25) dX12_bound_24 rfl rfl ?_
      refine g_iload_n (pc' := 26) dX12_bound_25 rfl rfl ?_
      refine g_iload_n (pc' := 27) dX12_bound_26 rfl rfl ?_
      obtain ⟨ob7, h⟩ := h
      refine g_V2i (pc' := 30) dX12_bound_27 rfl mv_RX12_236 kd_69 (by decide) (Nat.le_of_ble_eq_true rfl) (C_X12_boundOf ob7) (sr_pur ?_)
      refine g_goto (pc' := 35) dX12_bound_30 rfl ?_
      exact g_iret dX12_bound_35 rfl h
def F_X12_upkeep (v1 : Int) (s : Sto) : Int := (if s 77 (w32 ((w32 (3 * v1)) + 2)).toNat = 0 then w32 ((s 77 (w32 ((w32 (3 * v1)) + 1)).toNat) * 3) else (if s 77 (w32 ((w32 (3 * v1)) + 2)).toNat = 1 then w32 ((s 77 (w32 ((w32 (3 * v1)) + 1)).toNat) * 2) else w32 ((s 77 (w32 ((w32 (3 * v1)) + 1)).toNat) * 1)))
def O_X12_upkeep (v1 : Int) (s : Sto) : Prop := (inb (w32 ((w32 (3 * v1)) + 1)) 24 ∧ (inb (w32 ((w32 (3 * v1)) + 2)) 24 ∧ ((s 77 (w32 ((w32 (3 * v1)) + 2)).toNat = 0 → True) ∧ (¬ s 77 (w32 ((w32 (3 * v1)) + 2)).toNat = 0 → (inb (w32 ((w32 (3 * v1)) + 2)) 24 ∧ True)))))
set_option maxRecDepth 100000 in
theorem C_X12_upkeep {v1 : Int} {s : Sto}  (h : O_X12_upkeep v1 s) : sr_C yX12_upkeep cX12_upkeep 2 (some .int) 0 [vR 69, vI v1] s (fun r s' => r = F_X12_upkeep v1 s ∧ s' = s) := by
  refine sr_C.of (by decide +kernel) (Nat.le_of_ble_eq_true rfl) ?_
  show sr_G RX12 cX12_upkeep 2 (some .int) 0 0 [(0, vR 69), (1, vI v1)] [] s (fun r s' => r = F_X12_upkeep v1 s ∧ s' = s)
  unfold O_X12_upkeep at h
  refine g_aload_n (pc' := 1) dX12_upkeep_0 rfl rfl ?_
  refine g_getR (pc' := 4) (r := 77) dX12_upkeep_1 rfl fl_RX12_31 kd_69 rfl rf_69_11 ?_
  refine g_iconst (pc' := 5) (by unfold r32; decide) dX12_upkeep_4 rfl ?_
  refine g_iload_n (pc' := 6) dX12_upkeep_5 rfl rfl ?_
  refine g_imul (pc' := 7) dX12_upkeep_6 rfl ?_
  refine g_iconst (pc' := 8) (by unfold r32; decide) dX12_upkeep_7 rfl ?_
  refine g_iadd (pc' := 9) dX12_upkeep_8 rfl ?_
  obtain ⟨ob1, h⟩ := h
  refine g_iald (pc' := 10) dX12_upkeep_9 rfl kd_77 ob1 ?_
  refine g_aload_n (pc' := 11) dX12_upkeep_10 rfl rfl ?_
  refine g_getR (pc' := 14) (r := 77) dX12_upkeep_11 rfl fl_RX12_31 kd_69 rfl rf_69_11 ?_
  refine g_iconst (pc' := 15) (by unfold r32; decide) dX12_upkeep_14 rfl ?_
  refine g_iload_n (pc' := 16) dX12_upkeep_15 rfl rfl ?_
  refine g_imul (pc' := 17) dX12_upkeep_16 rfl ?_
  refine g_iconst (pc' := 18) (by unfold r32; decide) dX12_upkeep_17 rfl ?_
  refine g_iadd (pc' := 19) dX12_upkeep_18 rfl ?_
  obtain ⟨ob2, h⟩ := h
  refine g_iald (pc' := 20) dX12_upkeep_19 rfl kd_77 ob2 ?_
  refine g_if_ne (pc' := 23) (tgt := 27) dX12_upkeep_20 rfl rfl (fun c3 => ?_) (fun c3 => ?_)
  · have h := h.2 c3
    refine g_aload_n (pc' := 28) dX12_upkeep_27 rfl rfl ?_
    refine g_getR (pc' := 31) (r := 77) dX12_upkeep_28 rfl fl_RX12_31 kd_69 rfl rf_69_11 ?_
    refine g_iconst (pc' := 32) (by unfold r32; decide) dX12_upkeep_31 rfl ?_
    refine g_iload_n (pc' := 33) dX12_upkeep_32 rfl rfl ?_
    refine g_imul (pc' := 34) dX12_upkeep_33 rfl ?_
    refine g_iconst (pc' := 35) (by unfold r32; decide) dX12_upkeep_34 rfl ?_
    refine g_iadd (pc' := 36) dX12_upkeep_35 rfl ?_
    obtain ⟨ob4, h⟩ := h
    refine g_iald (pc' := 37) dX12_upkeep_36 rfl kd_77 ob4 ?_
    refine g_iconst (pc' := 38) (by unfold r32; decide) dX12_upkeep_37 rfl ?_
    refine g_ic_ne (pc' := 41) (tgt := 45) dX12_upkeep_38 rfl rfl (fun c5 => ?_) (fun c5 => ?_)
    · refine g_iconst (pc' := 46) (by unfold r32; decide) dX12_upkeep_45 rfl ?_
      refine g_imul (pc' := 47) dX12_upkeep_46 rfl ?_
      exact g_iret dX12_upkeep_47 rfl ⟨(by simp only [F_X12_upkeep, if_neg c3, if_neg c5]), rfl⟩
    · refine g_iconst (pc' := 42) (by unfold r32; decide) dX12_upkeep_41 rfl ?_
      refine g_goto (pc' := 46) dX12_upkeep_42 rfl ?_
      refine g_imul (pc' := 47) dX12_upkeep_46 rfl ?_
      exact g_iret dX12_upkeep_47 rfl ⟨(by simp only [F_X12_upkeep, if_neg c3, if_pos c5]), rfl⟩
  · have h := h.1 c3
    refine g_iconst (pc' := 24) (by unfold r32; decide) dX12_upkeep_23 rfl ?_
    refine g_goto (pc' := 46) dX12_upkeep_24 rfl ?_
    refine g_imul (pc' := 47) dX12_upkeep_46 rfl ?_
    exact g_iret dX12_upkeep_47 rfl ⟨(by simp only [F_X12_upkeep, if_pos c3]), rfl⟩
def L_X12_wedOf_8 (v1 : Int) (v2 : Int) (s : Sto) (K69 : Int → Int → Prop) : Nat → Int → Int → Int → Prop
  | 0, _, _, _ => False
  | n + 1, v3, v4, v5 => ((s 69 10 ≤ v5 → K69 v3 v4) ∧ (¬ s 69 10 ≤ v5 → (O_X12_whomOf v5 s ∧ (∀ x3 : Int, x3 = (if F_X12_whomOf v5 s = v1 then iShl 1 v5 else 0) → (∀ x5 : Int, x5 = iO v3 x3 → (O_X12_whomOf v5 s ∧ (((F_X12_whomOf v5 s = v1 → (O_X12_upkeep v5 s ∧ True)) ∧ (¬ F_X12_whomOf v5 s = v1 → True)) ∧ (∀ x7 : Int, x7 = (if F_X12_whomOf v5 s = v1 then F_X12_upkeep v5 s else 0) → (∀ x10 : Int, x10 = w32 (v4 + x7) → L_X12_wedOf_8 v1 v2 s K69 n x5 x10 (w32 (v5 + 1)))))))))))
set_option maxRecDepth 100000 in
theorem SL_X12_wedOf_8 {v1 : Int} {v2 : Int} {s : Sto} {K69 : Int → Int → Prop} {Q : Int → Sto → Prop}  (hK69 : ∀ v3 v4, K69 v3 v4 → sr_G RX12 cX12_wedOf 6 (some .int) 1 69 [(2, vI v2), (3, vI v3), (4, vI v4)] [] s Q) : ∀ n v3 v4 v5, L_X12_wedOf_8 v1 v2 s K69 n v3 v4 v5 → sr_G RX12 cX12_wedOf 6 (some .int) 1 8 [(0, vR 69), (1, vI v1), (2, vI v2), (3, vI v3), (4, vI v4), (5, vI v5)] [] s Q := by
  intro n
  induction n with
  | zero => intro v3 v4 v5 h; exact h.elim
  | succ n ih =>
    intro v3 v4 v5 h
    unfold L_X12_wedOf_8 at h
    refine g_iload (pc' := 10) dX12_wedOf_8 rfl rfl ?_
    refine g_aload_n (pc' := 11) dX12_wedOf_10 rfl rfl ?_
    refine g_getI (pc' := 14) dX12_wedOf_11 rfl fl_RX12_126 kd_69 (Or.inl rfl) ?_
    refine g_ic_ge (pc' := 17) (tgt := 69) dX12_wedOf_14 rfl rfl (fun c1 => ?_) (fun c1 => ?_)
    · have h := h.1 c1
      exact (hK69 _ _ h).to ((sb_c rfl (sb_c rfl (sb_c rfl sb_n))))
    · have h := h.2 c1
      refine g_iload_n (pc' := 18) dX12_wedOf_17 rfl rfl ?_
      refine g_aload_n (pc' := 19) dX12_wedOf_18 rfl rfl ?_
      refine g_iload (pc' := 21) dX12_wedOf_19 rfl rfl ?_
      obtain ⟨ob2, h⟩ := h
      refine g_V1i (pc' := 24) dX12_wedOf_21 rfl mv_RX12_233 kd_69 (by decide) (Nat.le_of_ble_eq_true rfl) (C_X12_whomOf ob2) (sr_pur ?_)
      refine g_iload_n (pc' := 25) dX12_wedOf_24 rfl rfl ?_
      refine sr_join (v := (if F_X12_whomOf v5 s = v1 then iShl 1 v5 else 0)) (GG := fun x3 => sr_G RX12 cX12_wedOf 6 (some .int) 1 36 [(0, vR 69), (1, vI v1), (2, vI v2), (4, vI v4), (5, vI v5)] [vI x3, vI v3] s Q) (fun x3 ex3 => ?_) (fun hj => ?_)
      · have h := h x3 ex3
        refine g_ior (pc' := 37) dX12_wedOf_36 rfl ?_
        refine g_topI (fun x5 ex5 => ?_)
        have h := h x5 ex5
        refine g_istore_n (pc' := 38) dX12_wedOf_37 rfl (by decide) ?_
        refine g_iload (pc' := 40) dX12_wedOf_38 rfl rfl ?_
        refine g_aload_n (pc' := 41) dX12_wedOf_40 rfl rfl ?_
        refine g_iload (pc' := 43) dX12_wedOf_41 rfl rfl ?_
        obtain ⟨ob6, h⟩ := h
        refine g_V1i (pc' := 46) dX12_wedOf_43 rfl mv_RX12_233 kd_69 (by decide) (Nat.le_of_ble_eq_true rfl) (C_X12_whomOf ob6) (sr_pur ?_)
        refine g_iload_n (pc' := 47) dX12_wedOf_46 rfl rfl ?_
        obtain ⟨ho, h⟩ := h
        refine sr_join (v := (if F_X12_whomOf v5 s = v1 then F_X12_upkeep v5 s else 0)) (GG := fun x7 => sr_G RX12 cX12_wedOf 6 (some .int) 1 60 [(0, vR 69), (1, vI v1), (2, vI v2), (3, vI x5), (5, vI v5)] [vI x7, vI v4] s Q) (fun x7 ex7 => ?_) (fun hj => ?_)
        · have h := h x7 ex7
          refine g_iadd (pc' := 61) dX12_wedOf_60 rfl ?_
          refine g_topI (fun x10 ex10 => ?_)
          have h := h x10 ex10
          refine g_istore (pc' := 63) dX12_wedOf_61 rfl (by decide) ?_
          refine g_iinc (pc' := 66) dX12_wedOf_63 rfl rfl (by decide) ?_
          refine g_goto (pc' := 8) dX12_wedOf_66 rfl ?_
          exact (ih _ _ _ h).to ((sb_c rfl (sb_c rfl (sb_c rfl (sb_c rfl (sb_c rfl (sb_c rfl sb_n)))))))
        · refine g_ic_ne (pc' := 50) (tgt := 59) dX12_wedOf_47 rfl rfl (fun c8 => ?_) (fun c8 => ?_)
          · have ho := ho.2 c8
            refine g_iconst (pc' := 60) (by unfold r32; decide) dX12_wedOf_59 rfl ?_
            exact (hj _ (by rw [if_neg c8])).to ((sb_c rfl (sb_c rfl (sb_c rfl (sb_c rfl (sb_c rfl sb_n))))))
          · have ho := ho.1 c8
            refine g_aload_n (pc' := 51) dX12_wedOf_50 rfl rfl ?_
            refine g_iload (pc' := 53) dX12_wedOf_51 rfl rfl ?_
            obtain ⟨ob9, ho⟩ := ho
            refine g_V1i (pc' := 56) dX12_wedOf_53 rfl mv_RX12_239 kd_69 (by decide) (Nat.le_of_ble_eq_true rfl) (C_X12_upkeep ob9) (sr_pur ?_)
            refine g_goto (pc' := 60) dX12_wedOf_56 rfl ?_
            exact (hj _ (by rw [if_pos c8])).to ((sb_c rfl (sb_c rfl (sb_c rfl (sb_c rfl (sb_c rfl sb_n))))))
      · refine g_ic_ne (pc' := 28) (tgt := 35) dX12_wedOf_25 rfl rfl (fun c4 => ?_) (fun c4 => ?_)
        · refine g_iconst (pc' := 36) (by unfold r32; decide) dX12_wedOf_35 rfl ?_
          exact (hj _ (by rw [if_neg c4])).to ((sb_c rfl (sb_c rfl (sb_c rfl (sb_c rfl (sb_c rfl sb_n))))))
        · refine g_iconst (pc' := 29) (by unfold r32; decide) dX12_wedOf_28 rfl ?_
          refine g_iload (pc' := 31) dX12_wedOf_29 rfl rfl ?_
          refine g_ishl (pc' := 32) dX12_wedOf_31 rfl ?_
          refine g_goto (pc' := 36) dX12_wedOf_32 rfl ?_
          exact (hj _ (by rw [if_pos c4])).to ((sb_c rfl (sb_c rfl (sb_c rfl (sb_c rfl (sb_c rfl sb_n))))))
def P_X12_wedOf (v1 : Int) (v2 : Int) (s : Sto) (Q : Int → Sto → Prop) : Prop := (∃ n4, L_X12_wedOf_8 v1 v2 s (fun x1 x2 => ((v2 = 0 → Q x1 s) ∧ (¬ v2 = 0 → Q x2 s))) n4 0 0 0)
set_option maxRecDepth 100000 in
theorem C_X12_wedOf {v1 : Int} {v2 : Int} {s : Sto} {Q : Int → Sto → Prop}  (h : P_X12_wedOf v1 v2 s Q) : sr_C yX12_wedOf cX12_wedOf 6 (some .int) 1 [vR 69, vI v1, vI v2] s Q := by
  refine sr_C.of (by decide +kernel) (Nat.le_of_ble_eq_true rfl) ?_
  show sr_G RX12 cX12_wedOf 6 (some .int) 1 0 [(0, vR 69), (1, vI v1), (2, vI v2)] [] s Q
  unfold P_X12_wedOf at h
  refine g_iconst (pc' := 1) (by unfold r32; decide) dX12_wedOf_0 rfl ?_
  refine g_istore_n (pc' := 2) dX12_wedOf_1 rfl (by decide) ?_
  refine g_iconst (pc' := 3) (by unfold r32; decide) dX12_wedOf_2 rfl ?_
  refine g_istore (pc' := 5) dX12_wedOf_3 rfl (by decide) ?_
  refine g_iconst (pc' := 6) (by unfold r32; decide) dX12_wedOf_5 rfl ?_
  refine g_istore (pc' := 8) dX12_wedOf_6 rfl (by decide) ?_
  obtain ⟨n4, h⟩ := h
  refine (SL_X12_wedOf_8  (fun x1 x2 h => ?_) n4 _ _ _ h).to ((sb_c rfl (sb_c rfl (sb_c rfl (sb_c rfl (sb_c rfl (sb_c rfl sb_n)))))))
  · refine g_iload_n (pc' := 70) dX12_wedOf_69 rfl rfl ?_
    refine g_if_ne (pc' := 73) (tgt := 77) dX12_wedOf_70 rfl rfl (fun c3 => ?_) (fun c3 => ?_)
    · have h := h.2 c3
      refine g_iload (pc' := 79) dX12_wedOf_77 rfl rfl ?_
      exact g_iret dX12_wedOf_79 rfl h
    · have h := h.1 c3
      refine g_iload_n (pc' := 74) dX12_wedOf_73 rfl rfl ?_
      refine g_goto (pc' := 79) dX12_wedOf_74 rfl ?_
      exact g_iret dX12_wedOf_79 rfl h
def P_X12_wed (v1 : Int) (v2 : Int) (s : Sto) (Q : Int → Sto → Prop) : Prop := (P_X12_find s (fun _ s1 => ((F_X12_in v1 0 3 s1 = 0 → Q ((-2)) s1) ∧ (¬ F_X12_in v1 0 3 s1 = 0 → ((F_X12_isTwo v2 s1 = 0 → Q ((-2)) s1) ∧ (¬ F_X12_isTwo v2 s1 = 0 → (P_X12_wedOf v1 v2 s1 (fun r8 s7 => Q r8 s7))))))))
set_option maxRecDepth 100000 in
theorem C_X12_wed {v1 : Int} {v2 : Int} {s : Sto} {Q : Int → Sto → Prop}  (h : P_X12_wed v1 v2 s Q) : sr_C yX12_wed cX12_wed 3 (some .int) 6 [vR 69, vI v1, vI v2] s Q := by
  refine sr_C.of (by decide +kernel) (Nat.le_of_ble_eq_true rfl) ?_
  show sr_G RX12 cX12_wed 3 (some .int) 6 0 [(0, vR 69), (1, vI v1), (2, vI v2)] [] s Q
  unfold P_X12_wed at h
  refine g_aload_n (pc' := 1) dX12_wed_0 rfl rfl ?_
  refine g_V0v (pc' := 4) dX12_wed_1 rfl mv_RX12_230 kd_69 (by decide) (Nat.le_of_ble_eq_true rfl) (C_X12_find h) (fun s1 h => ?_)
  refine g_iload_n (pc' := 5) dX12_wed_4 rfl rfl ?_
  refine g_i2l (pc' := 6) dX12_wed_5 rfl ?_
  refine g_lconst (pc' := 7) (z := 0) ⟨by unfold r64; decide, rfl⟩ dX12_wed_6 rfl ?_
  refine g_ldc2 (pc' := 10) (z := 3) (by unfold r64; decide) kc_RX12_83 dX12_wed_7 rfl ?_
  refine g_S3z (pc' := 13) dX12_wed_10 rfl ms_RX12_76 (by decide) (Nat.le_of_ble_eq_true rfl) C_X12_in (sr_purb (fun hb3 => ?_))
  refine g_if_eq (pc' := 16) (tgt := 32) dX12_wed_13 rfl rfl (fun c4 => ?_) (fun c4 => ?_)
  · have h := h.1 c4
    refine g_bipush (pc' := 34) ⟨by unfold r32; decide, rfl⟩ dX12_wed_32 rfl ?_
    exact g_iret dX12_wed_34 rfl h
  · have h := h.2 c4
    refine g_iload_n (pc' := 17) dX12_wed_16 rfl rfl ?_
    refine g_S1z (pc' := 20) dX12_wed_17 rfl ms_RX12_242 (by decide) (Nat.le_of_ble_eq_true rfl) C_X12_isTwo (sr_purb (fun hb5 => ?_))
    refine g_if_eq (pc' := 23) (tgt := 32) dX12_wed_20 rfl rfl (fun c6 => ?_) (fun c6 => ?_)
    · have h := h.1 c6
      refine g_bipush (pc' := 34) ⟨by unfold r32; decide, rfl⟩ dX12_wed_32 rfl ?_
      exact g_iret dX12_wed_34 rfl h
    · have h := h.2 c6
      refine g_aload_n (pc' := 24) dX12_wed_23 rfl rfl ?_
      refine g_iload_n (pc' := 25) dX12_wed_24 rfl rfl ?_
      refine g_iload_n (pc' := 26) dX12_wed_25 rfl rfl ?_
      refine g_V2i (pc' := 29) dX12_wed_26 rfl mv_RX12_245 kd_69 (by decide) (Nat.le_of_ble_eq_true rfl) (C_X12_wedOf h) (fun r8 s7 h => ?_)
      refine g_goto (pc' := 34) dX12_wed_29 rfl ?_
      exact g_iret dX12_wed_34 rfl h
def P_X12_throughs (v1 : Int) (s : Sto) (Q : Int → Sto → Prop) : Prop := (P_X12_find s (fun _ s1 => ((F_X12_isTwo v1 s1 = 0 → Q ((-2)) s1) ∧ (¬ F_X12_isTwo v1 s1 = 0 → ((v1 = 0 → Q (s1 69 23) s1) ∧ (¬ v1 = 0 → Q (s1 69 24) s1))))))
set_option maxRecDepth 100000 in
theorem C_X12_throughs {v1 : Int} {s : Sto} {Q : Int → Sto → Prop}  (h : P_X12_throughs v1 s Q) : sr_C yX12_throughs cX12_throughs 2 (some .int) 6 [vR 69, vI v1] s Q := by
  refine sr_C.of (by decide +kernel) (Nat.le_of_ble_eq_true rfl) ?_
  show sr_G RX12 cX12_throughs 2 (some .int) 6 0 [(0, vR 69), (1, vI v1)] [] s Q
  unfold P_X12_throughs at h
  refine g_aload_n (pc' := 1) dX12_throughs_0 rfl rfl ?_
  refine g_V0v (pc' := 4) dX12_throughs_1 rfl mv_RX12_230 kd_69 (by decide) (Nat.le_of_ble_eq_true rfl) (C_X12_find h) (fun s1 h => ?_)
  refine g_iload_n (pc' := 5) dX12_throughs_4 rfl rfl ?_
  refine g_S1z (pc' := 8) dX12_throughs_5 rfl ms_RX12_242 (by decide) (Nat.le_of_ble_eq_true rfl) C_X12_isTwo (sr_purb (fun hb3 => ?_))
  refine g_if_ne (pc' := 11) (tgt := 16) dX12_throughs_8 rfl rfl (fun c4 => ?_) (fun c4 => ?_)
  · have h := h.2 c4
    refine g_iload_n (pc' := 17) dX12_throughs_16 rfl rfl ?_
    refine g_if_ne (pc' := 20) (tgt := 27) dX12_throughs_17 rfl rfl (fun c5 => ?_) (fun c5 => ?_)
    · have h := h.2 c5
      refine g_aload_n (pc' := 28) dX12_throughs_27 rfl rfl ?_
      refine g_getI (pc' := 31) dX12_throughs_28 rfl fl_RX12_196 kd_69 (Or.inl rfl) ?_
      exact g_iret dX12_throughs_31 rfl h
    · have h := h.1 c5
      refine g_aload_n (pc' := 21) dX12_throughs_20 rfl rfl ?_
      refine g_getI (pc' := 24) dX12_throughs_21 rfl fl_RX12_193 kd_69 (Or.inl rfl) ?_
      refine g_goto (pc' := 31) dX12_throughs_24 rfl ?_
      exact g_iret dX12_throughs_31 rfl h
  · have h := h.1 c4
    refine g_bipush (pc' := 13) ⟨by unfold r32; decide, rfl⟩ dX12_throughs_11 rfl ?_
    refine g_goto (pc' := 31) dX12_throughs_13 rfl ?_
    exact g_iret dX12_throughs_31 rfl h
def L_X12_missedNow_4 (s : Sto) (K38 : Int → Prop) : Nat → Int → Int → Prop
  | 0, _, _ => False
  | n + 1, v1, v2 => ((s 69 14 ≤ v2 → K38 v1) ∧ (¬ s 69 14 ≤ v2 → (inb v2 8 ∧ (∀ x3 : Int, x3 = (if s 80 v2.toNat = 2 then 0 else iShl 1 v2) → (∀ x5 : Int, x5 = iO v1 x3 → L_X12_missedNow_4 s K38 n x5 (w32 (v2 + 1)))))))
set_option maxRecDepth 100000 in
theorem SL_X12_missedNow_4 {s : Sto} {K38 : Int → Prop} {Q : Int → Sto → Prop}  (hK38 : ∀ v1, K38 v1 → sr_G RX12 cX12_missedNow 3 (some .int) 0 38 [(1, vI v1)] [] s Q) : ∀ n v1 v2, L_X12_missedNow_4 s K38 n v1 v2 → sr_G RX12 cX12_missedNow 3 (some .int) 0 4 [(0, vR 69), (1, vI v1), (2, vI v2)] [] s Q := by
  intro n
  induction n with
  | zero => intro v1 v2 h; exact h.elim
  | succ n ih =>
    intro v1 v2 h
    unfold L_X12_missedNow_4 at h
    refine g_iload_n (pc' := 5) dX12_missedNow_4 rfl rfl ?_
    refine g_aload_n (pc' := 6) dX12_missedNow_5 rfl rfl ?_
    refine g_getI (pc' := 9) dX12_missedNow_6 rfl fl_RX12_160 kd_69 (Or.inl rfl) ?_
    refine g_ic_ge (pc' := 12) (tgt := 38) dX12_missedNow_9 rfl rfl (fun c1 => ?_) (fun c1 => ?_)
    · have h := h.1 c1
      exact (hK38 _ h).to ((sb_c rfl sb_n))
    · have h := h.2 c1
      refine g_iload_n (pc' := 13) dX12_missedNow_12 rfl rfl ?_
      refine g_aload_n (pc' := 14) dX12_missedNow_13 rfl rfl ?_
      refine g_getR (pc' := 17) (r := 80) dX12_missedNow_14 rfl fl_RX12_40 kd_69 rfl rf_69_16 ?_
      refine g_iload_n (pc' := 18) dX12_missedNow_17 rfl rfl ?_
      obtain ⟨ob2, h⟩ := h
      refine g_iald (pc' := 19) dX12_missedNow_18 rfl kd_80 ob2 ?_
      refine g_iconst (pc' := 20) (by unfold r32; decide) dX12_missedNow_19 rfl ?_
      refine sr_join (v := (if s 80 v2.toNat = 2 then 0 else iShl 1 v2)) (GG := fun x3 => sr_G RX12 cX12_missedNow 3 (some .int) 0 30 [(0, vR 69), (2, vI v2)] [vI x3, vI v1] s Q) (fun x3 ex3 => ?_) (fun hj => ?_)
      · have h := h x3 ex3
        refine g_ior (pc' := 31) dX12_missedNow_30 rfl ?_
        refine g_topI (fun x5 ex5 => ?_)
        have h := h x5 ex5
        refine g_istore_n (pc' := 32) dX12_missedNow_31 rfl (by decide) ?_
        refine g_iinc (pc' := 35) dX12_missedNow_32 rfl rfl (by decide) ?_
        refine g_goto (pc' := 4) dX12_missedNow_35 rfl ?_
        exact (ih _ _ h).to ((sb_c rfl (sb_c rfl (sb_c rfl sb_n))))
      · refine g_ic_ne (pc' := 23) (tgt := 27) dX12_missedNow_20 rfl rfl (fun c4 => ?_) (fun c4 => ?_)
        · refine g_iconst (pc' := 28) (by unfold r32; decide) dX12_missedNow_27 rfl ?_
          refine g_iload_n (pc' := 29) dX12_missedNow_28 rfl rfl ?_
          refine g_ishl (pc' := 30) dX12_missedNow_29 rfl ?_
          exact (hj _ (by rw [if_neg c4])).to ((sb_c rfl (sb_c rfl sb_n)))
        · refine g_iconst (pc' := 24) (by unfold r32; decide) dX12_missedNow_23 rfl ?_
          refine g_goto (pc' := 30) dX12_missedNow_24 rfl ?_
          exact (hj _ (by rw [if_pos c4])).to ((sb_c rfl (sb_c rfl sb_n)))
def P_X12_missedNow (s : Sto) (Q : Int → Sto → Prop) : Prop := (∃ n2, L_X12_missedNow_4 s (fun x1 => Q x1 s) n2 0 0)
set_option maxRecDepth 100000 in
theorem C_X12_missedNow {s : Sto} {Q : Int → Sto → Prop}  (h : P_X12_missedNow s Q) : sr_C yX12_missedNow cX12_missedNow 3 (some .int) 0 [vR 69] s Q := by
  refine sr_C.of (by decide +kernel) (Nat.le_of_ble_eq_true rfl) ?_
  show sr_G RX12 cX12_missedNow 3 (some .int) 0 0 [(0, vR 69)] [] s Q
  unfold P_X12_missedNow at h
  refine g_iconst (pc' := 1) (by unfold r32; decide) dX12_missedNow_0 rfl ?_
  refine g_istore_n (pc' := 2) dX12_missedNow_1 rfl (by decide) ?_
  refine g_iconst (pc' := 3) (by unfold r32; decide) dX12_missedNow_2 rfl ?_
  refine g_istore_n (pc' := 4) dX12_missedNow_3 rfl (by decide) ?_
  obtain ⟨n2, h⟩ := h
  refine (SL_X12_missedNow_4  (fun x1 h => ?_) n2 _ _ h).to ((sb_c rfl (sb_c rfl (sb_c rfl sb_n))))
  · refine g_iload_n (pc' := 39) dX12_missedNow_38 rfl rfl ?_
    exact g_iret dX12_missedNow_39 rfl h
def P_X12_missed (s : Sto) (Q : Int → Sto → Prop) : Prop := (P_X12_find s (fun _ s1 => (P_X12_missedNow s1 (fun r4 s3 => Q r4 s3))))
set_option maxRecDepth 100000 in
theorem C_X12_missed {s : Sto} {Q : Int → Sto → Prop}  (h : P_X12_missed s Q) : sr_C yX12_missed cX12_missed 1 (some .int) 6 [vR 69] s Q := by
  refine sr_C.of (by decide +kernel) (Nat.le_of_ble_eq_true rfl) ?_
  show sr_G RX12 cX12_missed 1 (some .int) 6 0 [(0, vR 69)] [] s Q
  unfold P_X12_missed at h
  refine g_aload_n (pc' := 1) dX12_missed_0 rfl rfl ?_
  refine g_V0v (pc' := 4) dX12_missed_1 rfl mv_RX12_230 kd_69 (by decide) (Nat.le_of_ble_eq_true rfl) (C_X12_find h) (fun s1 h => ?_)
  refine g_aload_n (pc' := 5) dX12_missed_4 rfl rfl ?_
  refine g_V0i (pc' := 8) dX12_missed_5 rfl mv_RX12_248 kd_69 (by decide) (Nat.le_of_ble_eq_true rfl) (C_X12_missedNow h) (fun r4 s3 h => ?_)
  exact g_iret dX12_missed_8 rfl h
def L_X12_richestNow_6  (K47 : Int → Sto → Prop) : Nat → Int → Int → Int → Sto → Prop
  | 0, _, _, _, _ => False
  | n + 1, v1, v2, v3, s => ((4 ≤ v3 → K47 v1 s) ∧ (¬ 4 ≤ v3 → (P_X12_wedOf v3 0 s (fun r3 s2 => (P_X12_ones r3 s2 (fun r5 s4 => (∀ x6 : Int, x6 = (if r5 ≤ v2 then v1 else v3) → (∀ x8 : Int, x8 = F_X12_greater r5 v2 s4 → L_X12_richestNow_6 K47 n x6 x8 (w32 (v3 + 1)) s4))))))))
set_option maxRecDepth 100000 in
theorem SL_X12_richestNow_6  {K47 : Int → Sto → Prop} {Q : Int → Sto → Prop}  (hK47 : ∀ v1 s, K47 v1 s → sr_G RX12 cX12_richestNow 5 (some .int) 2 47 [(1, vI v1)] [] s Q) : ∀ n v1 v2 v3 s, L_X12_richestNow_6 K47 n v1 v2 v3 s → sr_G RX12 cX12_richestNow 5 (some .int) 2 6 [(0, vR 69), (1, vI v1), (2, vI v2), (3, vI v3)] [] s Q := by
  intro n
  induction n with
  | zero => intro v1 v2 v3 s h; exact h.elim
  | succ n ih =>
    intro v1 v2 v3 s h
    unfold L_X12_richestNow_6 at h
    refine g_iload_n (pc' := 7) dX12_richestNow_6 rfl rfl ?_
    refine g_iconst (pc' := 8) (by unfold r32; decide) dX12_richestNow_7 rfl ?_
    refine g_ic_ge (pc' := 11) (tgt := 47) dX12_richestNow_8 rfl rfl (fun c1 => ?_) (fun c1 => ?_)
    · have h := h.1 c1
      exact (hK47 _ _ h).to ((sb_c rfl sb_n))
    · have h := h.2 c1
      refine g_aload_n (pc' := 12) dX12_richestNow_11 rfl rfl ?_
      refine g_iload_n (pc' := 13) dX12_richestNow_12 rfl rfl ?_
      refine g_iconst (pc' := 14) (by unfold r32; decide) dX12_richestNow_13 rfl ?_
      refine g_V2i (pc' := 17) dX12_richestNow_14 rfl mv_RX12_245 kd_69 (by decide) (Nat.le_of_ble_eq_true rfl) (C_X12_wedOf h) (fun r3 s2 h => ?_)
      refine g_S1i (pc' := 20) dX12_richestNow_17 rfl ms_RX12_251 (by decide) (Nat.le_of_ble_eq_true rfl) (C_X12_ones h) (fun r5 s4 h => ?_)
      refine g_istore (pc' := 22) dX12_richestNow_20 rfl (by decide) ?_
      refine g_iload (pc' := 24) dX12_richestNow_22 rfl rfl ?_
      refine g_iload_n (pc' := 25) dX12_richestNow_24 rfl rfl ?_
      refine sr_join (v := (if r5 ≤ v2 then v1 else v3)) (GG := fun x6 => sr_G RX12 cX12_richestNow 5 (some .int) 2 33 [(0, vR 69), (2, vI v2), (3, vI v3), (4, vI r5)] [vI x6] s4 Q) (fun x6 ex6 => ?_) (fun hj => ?_)
      · have h := h x6 ex6
        refine g_istore_n (pc' := 34) dX12_richestNow_33 rfl (by decide) ?_
        refine g_iload (pc' := 36) dX12_richestNow_34 rfl rfl ?_
        refine g_iload_n (pc' := 37) dX12_richestNow_36 rfl rfl ?_
        refine g_S2i (pc' := 40) dX12_richestNow_37 rfl ms_RX12_254 (by decide) (Nat.le_of_ble_eq_true rfl) C_X12_greater (sr_pur ?_)
        refine g_topI (fun x8 ex8 => ?_)
        have h := h x8 ex8
        refine g_istore_n (pc' := 41) dX12_richestNow_40 rfl (by decide) ?_
        refine g_iinc (pc' := 44) dX12_richestNow_41 rfl rfl (by decide) ?_
        refine g_goto (pc' := 6) dX12_richestNow_44 rfl ?_
        exact (ih _ _ _ _ h).to ((sb_c rfl (sb_c rfl (sb_c rfl (sb_c rfl sb_n)))))
      · refine g_ic_le (pc' := 28) (tgt := 32) dX12_richestNow_25 rfl rfl (fun c7 => ?_) (fun c7 => ?_)
        · refine g_iload_n (pc' := 33) dX12_richestNow_32 rfl rfl ?_
          exact (hj _ (by rw [if_pos c7])).to ((sb_c rfl (sb_c rfl (sb_c rfl (sb_c rfl sb_n)))))
        · refine g_iload_n (pc' := 29) dX12_richestNow_28 rfl rfl ?_
          refine g_goto (pc' := 33) dX12_richestNow_29 rfl ?_
          exact (hj _ (by rw [if_neg c7])).to ((sb_c rfl (sb_c rfl (sb_c rfl (sb_c rfl sb_n)))))
def P_X12_richestNow (s : Sto) (Q : Int → Sto → Prop) : Prop := (∃ n3, L_X12_richestNow_6 (fun x1 s2 => Q x1 s2) n3 ((-1)) 0 0 s)
set_option maxRecDepth 100000 in
theorem C_X12_richestNow {s : Sto} {Q : Int → Sto → Prop}  (h : P_X12_richestNow s Q) : sr_C yX12_richestNow cX12_richestNow 5 (some .int) 2 [vR 69] s Q := by
  refine sr_C.of (by decide +kernel) (Nat.le_of_ble_eq_true rfl) ?_
  show sr_G RX12 cX12_richestNow 5 (some .int) 2 0 [(0, vR 69)] [] s Q
  unfold P_X12_richestNow at h
  refine g_iconst (pc' := 1) (by unfold r32; decide) dX12_richestNow_0 rfl ?_
  refine g_istore_n (pc' := 2) dX12_richestNow_1 rfl (by decide) ?_
  refine g_iconst (pc' := 3) (by unfold r32; decide) dX12_richestNow_2 rfl ?_
  refine g_istore_n (pc' := 4) dX12_richestNow_3 rfl (by decide) ?_
  refine g_iconst (pc' := 5) (by unfold r32; decide) dX12_richestNow_4 rfl ?_
  refine g_istore_n (pc' := 6) dX12_richestNow_5 rfl (by decide) ?_
  obtain ⟨n3, h⟩ := h
  refine (SL_X12_richestNow_6  (fun x1 s2 h => ?_) n3 _ _ _ _ h).to ((sb_c rfl (sb_c rfl (sb_c rfl (sb_c rfl sb_n)))))
  · refine g_iload_n (pc' := 48) dX12_richestNow_47 rfl rfl ?_
    exact g_iret dX12_richestNow_48 rfl h
def P_X12_richest (s : Sto) (Q : Int → Sto → Prop) : Prop := (P_X12_find s (fun _ s1 => (P_X12_richestNow s1 (fun r4 s3 => Q r4 s3))))
set_option maxRecDepth 100000 in
theorem C_X12_richest {s : Sto} {Q : Int → Sto → Prop}  (h : P_X12_richest s Q) : sr_C yX12_richest cX12_richest 1 (some .int) 6 [vR 69] s Q := by
  refine sr_C.of (by decide +kernel) (Nat.le_of_ble_eq_true rfl) ?_
  show sr_G RX12 cX12_richest 1 (some .int) 6 0 [(0, vR 69)] [] s Q
  unfold P_X12_richest at h
  refine g_aload_n (pc' := 1) dX12_richest_0 rfl rfl ?_
  refine g_V0v (pc' := 4) dX12_richest_1 rfl mv_RX12_230 kd_69 (by decide) (Nat.le_of_ble_eq_true rfl) (C_X12_find h) (fun s1 h => ?_)
  refine g_aload_n (pc' := 5) dX12_richest_4 rfl rfl ?_
  refine g_V0i (pc' := 8) dX12_richest_5 rfl mv_RX12_257 kd_69 (by decide) (Nat.le_of_ble_eq_true rfl) (C_X12_richestNow h) (fun r4 s3 h => ?_)
  exact g_iret dX12_richest_8 rfl h
def L_X12_lonelyNow_6 (s : Sto) (K47 : Int → Prop) : Nat → Int → Int → Int → Prop
  | 0, _, _, _ => False
  | n + 1, v1, v2, v3 => ((s 69 10 ≤ v3 → K47 v1) ∧ (¬ s 69 10 ≤ v3 → (inb v3 8 ∧ (∀ x3 : Int, x3 = (if s 86 v3.toNat ≤ v2 then v1 else v3) → (inb v3 8 ∧ (∀ x6 : Int, x6 = F_X12_greater (s 86 v3.toNat) v2 s → L_X12_lonelyNow_6 s K47 n x3 x6 (w32 (v3 + 1))))))))
set_option maxRecDepth 100000 in
theorem SL_X12_lonelyNow_6 {s : Sto} {K47 : Int → Prop} {Q : Int → Sto → Prop}  (hK47 : ∀ v1, K47 v1 → sr_G RX12 cX12_lonelyNow 4 (some .int) 1 47 [(1, vI v1)] [] s Q) : ∀ n v1 v2 v3, L_X12_lonelyNow_6 s K47 n v1 v2 v3 → sr_G RX12 cX12_lonelyNow 4 (some .int) 1 6 [(0, vR 69), (1, vI v1), (2, vI v2), (3, vI v3)] [] s Q := by
  intro n
  induction n with
  | zero => intro v1 v2 v3 h; exact h.elim
  | succ n ih =>
    intro v1 v2 v3 h
    unfold L_X12_lonelyNow_6 at h
    refine g_iload_n (pc' := 7) dX12_lonelyNow_6 rfl rfl ?_
    refine g_aload_n (pc' := 8) dX12_lonelyNow_7 rfl rfl ?_
    refine g_getI (pc' := 11) dX12_lonelyNow_8 rfl fl_RX12_126 kd_69 (Or.inl rfl) ?_
    refine g_ic_ge (pc' := 14) (tgt := 47) dX12_lonelyNow_11 rfl rfl (fun c1 => ?_) (fun c1 => ?_)
    · have h := h.1 c1
      exact (hK47 _ h).to ((sb_c rfl sb_n))
    · have h := h.2 c1
      refine g_aload_n (pc' := 15) dX12_lonelyNow_14 rfl rfl ?_
      refine g_getR (pc' := 18) (r := 86) dX12_lonelyNow_15 rfl fl_RX12_58 kd_69 rfl rf_69_22 ?_
      refine g_iload_n (pc' := 19) dX12_lonelyNow_18 rfl rfl ?_
      obtain ⟨ob2, h⟩ := h
      refine g_iald (pc' := 20) dX12_lonelyNow_19 rfl kd_86 ob2 ?_
      refine g_iload_n (pc' := 21) dX12_lonelyNow_20 rfl rfl ?_
      refine sr_join (v := (if s 86 v3.toNat ≤ v2 then v1 else v3)) (GG := fun x3 => sr_G RX12 cX12_lonelyNow 4 (some .int) 1 29 [(0, vR 69), (2, vI v2), (3, vI v3)] [vI x3] s Q) (fun x3 ex3 => ?_) (fun hj => ?_)
      · have h := h x3 ex3
        refine g_istore_n (pc' := 30) dX12_lonelyNow_29 rfl (by decide) ?_
        refine g_aload_n (pc' := 31) dX12_lonelyNow_30 rfl rfl ?_
        refine g_getR (pc' := 34) (r := 86) dX12_lonelyNow_31 rfl fl_RX12_58 kd_69 rfl rf_69_22 ?_
        refine g_iload_n (pc' := 35) dX12_lonelyNow_34 rfl rfl ?_
        obtain ⟨ob5, h⟩ := h
        refine g_iald (pc' := 36) dX12_lonelyNow_35 rfl kd_86 ob5 ?_
        refine g_iload_n (pc' := 37) dX12_lonelyNow_36 rfl rfl ?_
        refine g_S2i (pc' := 40) dX12_lonelyNow_37 rfl ms_RX12_254 (by decide) (Nat.le_of_ble_eq_true rfl) C_X12_greater (sr_pur ?_)
        refine g_topI (fun x6 ex6 => ?_)
        have h := h x6 ex6
        refine g_istore_n (pc' := 41) dX12_lonelyNow_40 rfl (by decide) ?_
        refine g_iinc (pc' := 44) dX12_lonelyNow_41 rfl rfl (by decide) ?_
        refine g_goto (pc' := 6) dX12_lonelyNow_44 rfl ?_
        exact (ih _ _ _ h).to ((sb_c rfl (sb_c rfl (sb_c rfl (sb_c rfl sb_n)))))
      · refine g_ic_le (pc' := 24) (tgt := 28) dX12_lonelyNow_21 rfl rfl (fun c4 => ?_) (fun c4 => ?_)
        · refine g_iload_n (pc' := 29) dX12_lonelyNow_28 rfl rfl ?_
          exact (hj _ (by rw [if_pos c4])).to ((sb_c rfl (sb_c rfl (sb_c rfl sb_n))))
        · refine g_iload_n (pc' := 25) dX12_lonelyNow_24 rfl rfl ?_
          refine g_goto (pc' := 29) dX12_lonelyNow_25 rfl ?_
          exact (hj _ (by rw [if_neg c4])).to ((sb_c rfl (sb_c rfl (sb_c rfl sb_n))))
def P_X12_lonelyNow (s : Sto) (Q : Int → Sto → Prop) : Prop := (∃ n2, L_X12_lonelyNow_6 s (fun x1 => Q x1 s) n2 ((-1)) ((-1)) 0)
set_option maxRecDepth 100000 in
theorem C_X12_lonelyNow {s : Sto} {Q : Int → Sto → Prop}  (h : P_X12_lonelyNow s Q) : sr_C yX12_lonelyNow cX12_lonelyNow 4 (some .int) 1 [vR 69] s Q := by
  refine sr_C.of (by decide +kernel) (Nat.le_of_ble_eq_true rfl) ?_
  show sr_G RX12 cX12_lonelyNow 4 (some .int) 1 0 [(0, vR 69)] [] s Q
  unfold P_X12_lonelyNow at h
  refine g_iconst (pc' := 1) (by unfold r32; decide) dX12_lonelyNow_0 rfl ?_
  refine g_istore_n (pc' := 2) dX12_lonelyNow_1 rfl (by decide) ?_
  refine g_iconst (pc' := 3) (by unfold r32; decide) dX12_lonelyNow_2 rfl ?_
  refine g_istore_n (pc' := 4) dX12_lonelyNow_3 rfl (by decide) ?_
  refine g_iconst (pc' := 5) (by unfold r32; decide) dX12_lonelyNow_4 rfl ?_
  refine g_istore_n (pc' := 6) dX12_lonelyNow_5 rfl (by decide) ?_
  obtain ⟨n2, h⟩ := h
  refine (SL_X12_lonelyNow_6  (fun x1 h => ?_) n2 _ _ _ h).to ((sb_c rfl (sb_c rfl (sb_c rfl (sb_c rfl sb_n)))))
  · refine g_iload_n (pc' := 48) dX12_lonelyNow_47 rfl rfl ?_
    exact g_iret dX12_lonelyNow_48 rfl h
def P_X12_lonely (s : Sto) (Q : Int → Sto → Prop) : Prop := (P_X12_find s (fun _ s1 => (P_X12_lonelyNow s1 (fun r4 s3 => Q r4 s3))))
set_option maxRecDepth 100000 in
theorem C_X12_lonely {s : Sto} {Q : Int → Sto → Prop}  (h : P_X12_lonely s Q) : sr_C yX12_lonely cX12_lonely 1 (some .int) 6 [vR 69] s Q := by
  refine sr_C.of (by decide +kernel) (Nat.le_of_ble_eq_true rfl) ?_
  show sr_G RX12 cX12_lonely 1 (some .int) 6 0 [(0, vR 69)] [] s Q
  unfold P_X12_lonely at h
  refine g_aload_n (pc' := 1) dX12_lonely_0 rfl rfl ?_
  refine g_V0v (pc' := 4) dX12_lonely_1 rfl mv_RX12_230 kd_69 (by decide) (Nat.le_of_ble_eq_true rfl) (C_X12_find h) (fun s1 h => ?_)
  refine g_aload_n (pc' := 5) dX12_lonely_4 rfl rfl ?_
  refine g_V0i (pc' := 8) dX12_lonely_5 rfl mv_RX12_260 kd_69 (by decide) (Nat.le_of_ble_eq_true rfl) (C_X12_lonelyNow h) (fun r4 s3 h => ?_)
  exact g_iret dX12_lonely_8 rfl h
def L_X12_allBound_4 (s : Sto) (K36 : Int → Prop) : Nat → Int → Int → Prop
  | 0, _, _ => False
  | n + 1, v1, v2 => ((s 69 10 ≤ v2 → K36 v1) ∧ (¬ s 69 10 ≤ v2 → (inb v2 8 ∧ (∀ x3 : Int, x3 = (if s 85 v2.toNat = (-1) then 0 else 1) → (∀ x5 : Int, x5 = w32 (v1 + x3) → L_X12_allBound_4 s K36 n x5 (w32 (v2 + 1)))))))
set_option maxRecDepth 100000 in
theorem SL_X12_allBound_4 {s : Sto} {K36 : Int → Prop} {Q : Int → Sto → Prop}  (hK36 : ∀ v1, K36 v1 → sr_G RX12 cX12_allBound 3 (some .int) 0 36 [(1, vI v1)] [] s Q) : ∀ n v1 v2, L_X12_allBound_4 s K36 n v1 v2 → sr_G RX12 cX12_allBound 3 (some .int) 0 4 [(0, vR 69), (1, vI v1), (2, vI v2)] [] s Q := by
  intro n
  induction n with
  | zero => intro v1 v2 h; exact h.elim
  | succ n ih =>
    intro v1 v2 h
    unfold L_X12_allBound_4 at h
    refine g_iload_n (pc' := 5) dX12_allBound_4 rfl rfl ?_
    refine g_aload_n (pc' := 6) dX12_allBound_5 rfl rfl ?_
    refine g_getI (pc' := 9) dX12_allBound_6 rfl fl_RX12_126 kd_69 (Or.inl rfl) ?_
    refine g_ic_ge (pc' := 12) (tgt := 36) dX12_allBound_9 rfl rfl (fun c1 => ?_) (fun c1 => ?_)
    · have h := h.1 c1
      exact (hK36 _ h).to ((sb_c rfl sb_n))
    · have h := h.2 c1
      refine g_iload_n (pc' := 13) dX12_allBound_12 rfl rfl ?_
      refine g_aload_n (pc' := 14) dX12_allBound_13 rfl rfl ?_
      refine g_getR (pc' := 17) (r := 85) dX12_allBound_14 rfl fl_RX12_55 kd_69 rfl rf_69_21 ?_
      refine g_iload_n (pc' := 18) dX12_allBound_17 rfl rfl ?_
      obtain ⟨ob2, h⟩ := h
      refine g_iald (pc' := 19) dX12_allBound_18 rfl kd_85 ob2 ?_
      refine g_iconst (pc' := 20) (by unfold r32; decide) dX12_allBound_19 rfl ?_
      refine sr_join (v := (if s 85 v2.toNat = (-1) then 0 else 1)) (GG := fun x3 => sr_G RX12 cX12_allBound 3 (some .int) 0 28 [(0, vR 69), (2, vI v2)] [vI x3, vI v1] s Q) (fun x3 ex3 => ?_) (fun hj => ?_)
      · have h := h x3 ex3
        refine g_iadd (pc' := 29) dX12_allBound_28 rfl ?_
        refine g_topI (fun x5 ex5 => ?_)
        have h := h x5 ex5
        refine g_istore_n (pc' := 30) dX12_allBound_29 rfl (by decide) ?_
        refine g_iinc (pc' := 33) dX12_allBound_30 rfl rfl (by decide) ?_
        refine g_goto (pc' := 4) dX12_allBound_33 rfl ?_
        exact (ih _ _ h).to ((sb_c rfl (sb_c rfl (sb_c rfl sb_n))))
      · refine g_ic_ne (pc' := 23) (tgt := 27) dX12_allBound_20 rfl rfl (fun c4 => ?_) (fun c4 => ?_)
        · refine g_iconst (pc' := 28) (by unfold r32; decide) dX12_allBound_27 rfl ?_
          exact (hj _ (by rw [if_neg c4])).to ((sb_c rfl (sb_c rfl sb_n)))
        · refine g_iconst (pc' := 24) (by unfold r32; decide) dX12_allBound_23 rfl ?_
          refine g_goto (pc' := 28) dX12_allBound_24 rfl ?_
          exact (hj _ (by rw [if_pos c4])).to ((sb_c rfl (sb_c rfl sb_n)))
def P_X12_allBound (s : Sto) (Q : Int → Sto → Prop) : Prop := (∃ n2, L_X12_allBound_4 s (fun x1 => Q x1 s) n2 0 0)
set_option maxRecDepth 100000 in
theorem C_X12_allBound {s : Sto} {Q : Int → Sto → Prop}  (h : P_X12_allBound s Q) : sr_C yX12_allBound cX12_allBound 3 (some .int) 0 [vR 69] s Q := by
  refine sr_C.of (by decide +kernel) (Nat.le_of_ble_eq_true rfl) ?_
  show sr_G RX12 cX12_allBound 3 (some .int) 0 0 [(0, vR 69)] [] s Q
  unfold P_X12_allBound at h
  refine g_iconst (pc' := 1) (by unfold r32; decide) dX12_allBound_0 rfl ?_
  refine g_istore_n (pc' := 2) dX12_allBound_1 rfl (by decide) ?_
  refine g_iconst (pc' := 3) (by unfold r32; decide) dX12_allBound_2 rfl ?_
  refine g_istore_n (pc' := 4) dX12_allBound_3 rfl (by decide) ?_
  obtain ⟨n2, h⟩ := h
  refine (SL_X12_allBound_4  (fun x1 h => ?_) n2 _ _ h).to ((sb_c rfl (sb_c rfl (sb_c rfl sb_n))))
  · refine g_iload_n (pc' := 37) dX12_allBound_36 rfl rfl ?_
    exact g_iret dX12_allBound_37 rfl h
def L_X12_breathOf_18 (v1 : Int) (v2 : Int) (v3 : Int) (K64 : Int → Sto → Prop) : Nat → Int → Int → Sto → Prop
  | 0, _, _, _ => False
  | n + 1, v4, v5, s => ((v5 ≤ 0 → K64 v4 s) ∧ (¬ v5 ≤ 0 → (inb (w32 ((w32 (5 * v1)) + 3)) 40 ∧ (∀ s3 : Sto, s3 = up s 79 (w32 ((w32 (5 * v1)) + 3)).toNat v5 → (P_X12_lives s3 (fun _ s4 => (inb v2 8 ∧ (∀ x7 : Int, x7 = (if s4 85 v2.toNat = v1 then v5 else v4) → L_X12_breathOf_18 v1 v2 v3 K64 n x7 (w32 (v5 + (-1))) s4))))))))
set_option maxRecDepth 100000 in
theorem SL_X12_breathOf_18 {v1 : Int} {v2 : Int} {v3 : Int} {K64 : Int → Sto → Prop} {Q : Int → Sto → Prop}  (hK64 : ∀ v4 s, K64 v4 s → sr_G RX12 cX12_breathOf 6 (some .int) 5 64 [(0, vR 69), (1, vI v1), (3, vI v3), (4, vI v4)] [] s Q) : ∀ n v4 v5 s, L_X12_breathOf_18 v1 v2 v3 K64 n v4 v5 s → sr_G RX12 cX12_breathOf 6 (some .int) 5 18 [(0, vR 69), (1, vI v1), (2, vI v2), (3, vI v3), (4, vI v4), (5, vI v5)] [] s Q := by
  intro n
  induction n with
  | zero => intro v4 v5 s h; exact h.elim
  | succ n ih =>
    intro v4 v5 s h
    unfold L_X12_breathOf_18 at h
    refine g_iload (pc' := 20) dX12_breathOf_18 rfl rfl ?_
    refine g_if_le (pc' := 23) (tgt := 64) dX12_breathOf_20 rfl rfl (fun c1 => ?_) (fun c1 => ?_)
    · have h := h.1 c1
      exact (hK64 _ _ h).to ((sb_c rfl (sb_c rfl (sb_c rfl (sb_c rfl sb_n)))))
    · have h := h.2 c1
      refine g_aload_n (pc' := 24) dX12_breathOf_23 rfl rfl ?_
      refine g_getR (pc' := 27) (r := 79) dX12_breathOf_24 rfl fl_RX12_37 kd_69 rfl rf_69_15 ?_
      refine g_iconst (pc' := 28) (by unfold r32; decide) dX12_breathOf_27 rfl ?_
      refine g_iload_n (pc' := 29) dX12_breathOf_28 rfl rfl ?_
      refine g_imul (pc' := 30) dX12_breathOf_29 rfl ?_
      refine g_iconst (pc' := 31) (by unfold r32; decide) dX12_breathOf_30 rfl ?_
      refine g_iadd (pc' := 32) dX12_breathOf_31 rfl ?_
      refine g_iload (pc' := 34) dX12_breathOf_32 rfl rfl ?_
      obtain ⟨ob2, h⟩ := h
      refine g_iast (pc' := 35) dX12_breathOf_34 rfl kd_79 ob2 ?_
      refine g_sto (fun s3 es3 => ?_)
      have h := h s3 es3
      refine g_aload_n (pc' := 36) dX12_breathOf_35 rfl rfl ?_
      refine g_V0v (pc' := 39) dX12_breathOf_36 rfl mv_RX12_227 kd_69 (by decide) (Nat.le_of_ble_eq_true rfl) (C_X12_lives h) (fun s4 h => ?_)
      refine g_aload_n (pc' := 40) dX12_breathOf_39 rfl rfl ?_
      refine g_getR (pc' := 43) (r := 85) dX12_breathOf_40 rfl fl_RX12_55 kd_69 rfl rf_69_21 ?_
      refine g_iload_n (pc' := 44) dX12_breathOf_43 rfl rfl ?_
      obtain ⟨ob6, h⟩ := h
      refine g_iald (pc' := 45) dX12_breathOf_44 rfl kd_85 ob6 ?_
      refine g_iload_n (pc' := 46) dX12_breathOf_45 rfl rfl ?_
      refine sr_join (v := (if s4 85 v2.toNat = v1 then v5 else v4)) (GG := fun x7 => sr_G RX12 cX12_breathOf 6 (some .int) 5 56 [(0, vR 69), (1, vI v1), (2, vI v2), (3, vI v3), (5, vI v5)] [vI x7] s4 Q) (fun x7 ex7 => ?_) (fun hj => ?_)
      · have h := h x7 ex7
        refine g_istore (pc' := 58) dX12_breathOf_56 rfl (by decide) ?_
        refine g_iinc (pc' := 61) dX12_breathOf_58 rfl rfl (by decide) ?_
        refine g_goto (pc' := 18) dX12_breathOf_61 rfl ?_
        exact (ih _ _ _ h).to ((sb_c rfl (sb_c rfl (sb_c rfl (sb_c rfl (sb_c rfl (sb_c rfl sb_n)))))))
      · refine g_ic_ne (pc' := 49) (tgt := 54) dX12_breathOf_46 rfl rfl (fun c8 => ?_) (fun c8 => ?_)
        · refine g_iload (pc' := 56) dX12_breathOf_54 rfl rfl ?_
          exact (hj _ (by rw [if_neg c8])).to ((sb_c rfl (sb_c rfl (sb_c rfl (sb_c rfl (sb_c rfl sb_n))))))
        · refine g_iload (pc' := 51) dX12_breathOf_49 rfl rfl ?_
          refine g_goto (pc' := 56) dX12_breathOf_51 rfl ?_
          exact (hj _ (by rw [if_pos c8])).to ((sb_c rfl (sb_c rfl (sb_c rfl (sb_c rfl (sb_c rfl sb_n))))))
def P_X12_breathOf (v1 : Int) (v2 : Int) (s : Sto) (Q : Int → Sto → Prop) : Prop := (inb (w32 ((w32 (5 * v1)) + 3)) 40 ∧ (∀ x2 : Int, x2 = s 79 (w32 ((w32 (5 * v1)) + 3)).toNat → (∃ n7, L_X12_breathOf_18 v1 v2 x2 (fun x3 s4 => (inb (w32 ((w32 (5 * v1)) + 3)) 40 ∧ (∀ s6 : Sto, s6 = up s4 79 (w32 ((w32 (5 * v1)) + 3)).toNat x2 → Q x3 s6))) n7 ((-1)) 9 s)))
set_option maxRecDepth 100000 in
theorem C_X12_breathOf {v1 : Int} {v2 : Int} {s : Sto} {Q : Int → Sto → Prop}  (h : P_X12_breathOf v1 v2 s Q) : sr_C yX12_breathOf cX12_breathOf 6 (some .int) 5 [vR 69, vI v1, vI v2] s Q := by
  refine sr_C.of (by decide +kernel) (Nat.le_of_ble_eq_true rfl) ?_
  show sr_G RX12 cX12_breathOf 6 (some .int) 5 0 [(0, vR 69), (1, vI v1), (2, vI v2)] [] s Q
  unfold P_X12_breathOf at h
  refine g_aload_n (pc' := 1) dX12_breathOf_0 rfl rfl ?_
  refine g_getR (pc' := 4) (r := 79) dX12_breathOf_1 rfl fl_RX12_37 kd_69 rfl rf_69_15 ?_
  refine g_iconst (pc' := 5) (by unfold r32; decide) dX12_breathOf_4 rfl ?_
  refine g_iload_n (pc' := 6) dX12_breathOf_5 rfl rfl ?_
  refine g_imul (pc' := 7) dX12_breathOf_6 rfl ?_
  refine g_iconst (pc' := 8) (by unfold r32; decide) dX12_breathOf_7 rfl ?_
  refine g_iadd (pc' := 9) dX12_breathOf_8 rfl ?_
  obtain ⟨ob1, h⟩ := h
  refine g_iald (pc' := 10) dX12_breathOf_9 rfl kd_79 ob1 ?_
  refine g_topI (fun x2 ex2 => ?_)
  have h := h x2 ex2
  refine g_istore_n (pc' := 11) dX12_breathOf_10 rfl (by decide) ?_
  refine g_iconst (pc' := 12) (by unfold r32; decide) dX12_breathOf_11 rfl ?_
  refine g_istore (pc' := 14) dX12_breathOf_12 rfl (by decide) ?_
  refine g_bipush (pc' := 16) ⟨by unfold r32; decide, rfl⟩ dX12_breathOf_14 rfl ?_
  refine g_istore (pc' := 18) dX12_breathOf_16 rfl (by decide) ?_
  obtain ⟨n7, h⟩ := h
  refine (SL_X12_breathOf_18  (fun x3 s4 h => ?_) n7 _ _ _ h).to ((sb_c rfl (sb_c rfl (sb_c rfl (sb_c rfl (sb_c rfl (sb_c rfl sb_n)))))))
  · refine g_aload_n (pc' := 65) dX12_breathOf_64 rfl rfl ?_
    refine g_getR (pc' := 68) (r := 79) dX12_breathOf_65 rfl fl_RX12_37 kd_69 rfl rf_69_15 ?_
    refine g_iconst (pc' := 69) (by unfold r32; decide) dX12_breathOf_68 rfl ?_
    refine g_iload_n (pc' := 70) dX12_breathOf_69 rfl rfl ?_
    refine g_imul (pc' := 71) dX12_breathOf_70 rfl ?_
    refine g_iconst (pc' := 72) (by unfold r32; decide) dX12_breathOf_71 rfl ?_
    refine g_iadd (pc' := 73) dX12_breathOf_72 rfl ?_
    refine g_iload_n (pc' := 74) dX12_breathOf_73 rfl rfl ?_
    obtain ⟨ob5, h⟩ := h
    refine g_iast (pc' := 75) dX12_breathOf_74 rfl kd_79 ob5 ?_
    refine g_sto (fun s6 es6 => ?_)
    have h := h s6 es6
    refine g_iload (pc' := 77) dX12_breathOf_75 rfl rfl ?_
    exact g_iret dX12_breathOf_77 rfl h
def P_X12_breath (v1 : Int) (v2 : Int) (s : Sto) (Q : Int → Sto → Prop) : Prop := (P_X12_find s (fun _ s1 => ((F_X12_isRing v1 s1 = 0 → Q ((-2)) s1) ∧ (¬ F_X12_isRing v1 s1 = 0 → ((F_X12_isThing v2 s1 = 0 → Q ((-2)) s1) ∧ (¬ F_X12_isThing v2 s1 = 0 → (P_X12_breathOf v1 v2 s1 (fun r8 s7 => Q r8 s7))))))))
set_option maxRecDepth 100000 in
theorem C_X12_breath {v1 : Int} {v2 : Int} {s : Sto} {Q : Int → Sto → Prop}  (h : P_X12_breath v1 v2 s Q) : sr_C yX12_breath cX12_breath 3 (some .int) 6 [vR 69, vI v1, vI v2] s Q := by
  refine sr_C.of (by decide +kernel) (Nat.le_of_ble_eq_true rfl) ?_
  show sr_G RX12 cX12_breath 3 (some .int) 6 0 [(0, vR 69), (1, vI v1), (2, vI v2)] [] s Q
  unfold P_X12_breath at h
  refine g_aload_n (pc' := 1) dX12_breath_0 rfl rfl ?_
  refine g_V0v (pc' := 4) dX12_breath_1 rfl mv_RX12_230 kd_69 (by decide) (Nat.le_of_ble_eq_true rfl) (C_X12_find h) (fun s1 h => ?_)
  refine g_aload_n (pc' := 5) dX12_breath_4 rfl rfl ?_
  refine g_iload_n (pc' := 6) dX12_breath_5 rfl rfl ?_
  refine g_V1z (pc' := 9) dX12_breath_6 rfl mv_RX12_169 kd_69 (by decide) (Nat.le_of_ble_eq_true rfl) C_X12_isRing (sr_purb (fun hb3 => ?_))
  refine g_if_eq (pc' := 12) (tgt := 29) dX12_breath_9 rfl rfl (fun c4 => ?_) (fun c4 => ?_)
  · have h := h.1 c4
    refine g_bipush (pc' := 31) ⟨by unfold r32; decide, rfl⟩ dX12_breath_29 rfl ?_
    exact g_iret dX12_breath_31 rfl h
  · have h := h.2 c4
    refine g_aload_n (pc' := 13) dX12_breath_12 rfl rfl ?_
    refine g_iload_n (pc' := 14) dX12_breath_13 rfl rfl ?_
    refine g_V1z (pc' := 17) dX12_breath_14 rfl mv_RX12_152 kd_69 (by decide) (Nat.le_of_ble_eq_true rfl) C_X12_isThing (sr_purb (fun hb5 => ?_))
    refine g_if_eq (pc' := 20) (tgt := 29) dX12_breath_17 rfl rfl (fun c6 => ?_) (fun c6 => ?_)
    · have h := h.1 c6
      refine g_bipush (pc' := 31) ⟨by unfold r32; decide, rfl⟩ dX12_breath_29 rfl ?_
      exact g_iret dX12_breath_31 rfl h
    · have h := h.2 c6
      refine g_aload_n (pc' := 21) dX12_breath_20 rfl rfl ?_
      refine g_iload_n (pc' := 22) dX12_breath_21 rfl rfl ?_
      refine g_iload_n (pc' := 23) dX12_breath_22 rfl rfl ?_
      refine g_V2i (pc' := 26) dX12_breath_23 rfl mv_RX12_263 kd_69 (by decide) (Nat.le_of_ble_eq_true rfl) (C_X12_breathOf h) (fun r8 s7 h => ?_)
      refine g_goto (pc' := 31) dX12_breath_26 rfl ?_
      exact g_iret dX12_breath_31 rfl h
def L_X12_aimOf_32 (v1 : Int) (v2 : Int) (v3 : Int) (v4 : Int) (K112 : Int → Int → Sto → Prop) : Nat → Int → Int → Int → Sto → Prop
  | 0, _, _, _, _ => False
  | n + 1, v5, v6, v7, s => ((36 ≤ v7 → K112 v5 v6 s) ∧ (¬ 36 ≤ v7 → (inb (w32 ((w32 (5 * v1)) + 2)) 40 ∧ (∀ s3 : Sto, s3 = up s 79 (w32 ((w32 (5 * v1)) + 2)).toNat (w32 (v7.tdiv 9)) → (inb (w32 ((w32 (5 * v1)) + 3)) 40 ∧ (∀ s5 : Sto, s5 = up s3 79 (w32 ((w32 (5 * v1)) + 3)).toNat (w32 ((w32 (v7.tmod 9)) + 1)) → (P_X12_lives s5 (fun _ s6 => (P_X12_allBound s6 (fun r9 s8 => (∀ x10 : Int, x10 = (if r9 ≤ v6 then v5 else v7) → (∀ x12 : Int, x12 = F_X12_greater r9 v6 s8 → L_X12_aimOf_32 v1 v2 v3 v4 K112 n x10 x12 (w32 (v7 + 1)) s8))))))))))))
set_option maxRecDepth 100000 in
theorem SL_X12_aimOf_32 {v1 : Int} {v2 : Int} {v3 : Int} {v4 : Int} {K112 : Int → Int → Sto → Prop} {Q : Int → Sto → Prop}  (hK112 : ∀ v5 v6 s, K112 v5 v6 s → sr_G RX12 cX12_aimOf 9 (some .int) 5 112 [(0, vR 69), (1, vI v1), (2, vI v2), (3, vI v3), (4, vI v4), (5, vI v5), (6, vI v6)] [] s Q) : ∀ n v5 v6 v7 s, L_X12_aimOf_32 v1 v2 v3 v4 K112 n v5 v6 v7 s → sr_G RX12 cX12_aimOf 9 (some .int) 5 32 [(0, vR 69), (1, vI v1), (2, vI v2), (3, vI v3), (4, vI v4), (5, vI v5), (6, vI v6), (7, vI v7)] [] s Q := by
  intro n
  induction n with
  | zero => intro v5 v6 v7 s h; exact h.elim
  | succ n ih =>
    intro v5 v6 v7 s h
    unfold L_X12_aimOf_32 at h
    refine g_iload (pc' := 34) dX12_aimOf_32 rfl rfl ?_
    refine g_bipush (pc' := 36) ⟨by unfold r32; decide, rfl⟩ dX12_aimOf_34 rfl ?_
    refine g_ic_ge (pc' := 39) (tgt := 112) dX12_aimOf_36 rfl rfl (fun c1 => ?_) (fun c1 => ?_)
    · have h := h.1 c1
      exact (hK112 _ _ _ h).to ((sb_c rfl (sb_c rfl (sb_c rfl (sb_c rfl (sb_c rfl (sb_c rfl (sb_c rfl sb_n))))))))
    · have h := h.2 c1
      refine g_aload_n (pc' := 40) dX12_aimOf_39 rfl rfl ?_
      refine g_getR (pc' := 43) (r := 79) dX12_aimOf_40 rfl fl_RX12_37 kd_69 rfl rf_69_15 ?_
      refine g_iconst (pc' := 44) (by unfold r32; decide) dX12_aimOf_43 rfl ?_
      refine g_iload_n (pc' := 45) dX12_aimOf_44 rfl rfl ?_
      refine g_imul (pc' := 46) dX12_aimOf_45 rfl ?_
      refine g_iconst (pc' := 47) (by unfold r32; decide) dX12_aimOf_46 rfl ?_
      refine g_iadd (pc' := 48) dX12_aimOf_47 rfl ?_
      refine g_iload (pc' := 50) dX12_aimOf_48 rfl rfl ?_
      refine g_bipush (pc' := 52) ⟨by unfold r32; decide, rfl⟩ dX12_aimOf_50 rfl ?_
      refine g_idiv (pc' := 53) dX12_aimOf_52 rfl (by decide) ?_
      obtain ⟨ob2, h⟩ := h
      refine g_iast (pc' := 54) dX12_aimOf_53 rfl kd_79 ob2 ?_
      refine g_sto (fun s3 es3 => ?_)
      have h := h s3 es3
      refine g_aload_n (pc' := 55) dX12_aimOf_54 rfl rfl ?_
      refine g_getR (pc' := 58) (r := 79) dX12_aimOf_55 rfl fl_RX12_37 kd_69 rfl rf_69_15 ?_
      refine g_iconst (pc' := 59) (by unfold r32; decide) dX12_aimOf_58 rfl ?_
      refine g_iload_n (pc' := 60) dX12_aimOf_59 rfl rfl ?_
      refine g_imul (pc' := 61) dX12_aimOf_60 rfl ?_
      refine g_iconst (pc' := 62) (by unfold r32; decide) dX12_aimOf_61 rfl ?_
      refine g_iadd (pc' := 63) dX12_aimOf_62 rfl ?_
      refine g_iload (pc' := 65) dX12_aimOf_63 rfl rfl ?_
      refine g_bipush (pc' := 67) ⟨by unfold r32; decide, rfl⟩ dX12_aimOf_65 rfl ?_
      refine g_irem (pc' := 68) dX12_aimOf_67 rfl (by decide) ?_
      refine g_iconst (pc' := 69) (by unfold r32; decide) dX12_aimOf_68 rfl ?_
      refine g_iadd (pc' := 70) dX12_aimOf_69 rfl ?_
      obtain ⟨ob4, h⟩ := h
      refine g_iast (pc' := 71) dX12_aimOf_70 rfl kd_79 ob4 ?_
      refine g_sto (fun s5 es5 => ?_)
      have h := h s5 es5
      refine g_aload_n (pc' := 72) dX12_aimOf_71 rfl rfl ?_
      refine g_V0v (pc' := 75) dX12_aimOf_72 rfl mv_RX12_227 kd_69 (by decide) (Nat.le_of_ble_eq_true rfl) (C_X12_lives h) (fun s6 h => ?_)
      refine g_aload_n (pc' := 76) dX12_aimOf_75 rfl rfl ?_
      refine g_V0i (pc' := 79) dX12_aimOf_76 rfl mv_RX12_266 kd_69 (by decide) (Nat.le_of_ble_eq_true rfl) (C_X12_allBound h) (fun r9 s8 h => ?_)
      refine g_istore (pc' := 81) dX12_aimOf_79 rfl (by decide) ?_
      refine g_iload (pc' := 83) dX12_aimOf_81 rfl rfl ?_
      refine g_iload (pc' := 85) dX12_aimOf_83 rfl rfl ?_
      refine sr_join (v := (if r9 ≤ v6 then v5 else v7)) (GG := fun x10 => sr_G RX12 cX12_aimOf 9 (some .int) 5 95 [(0, vR 69), (1, vI v1), (2, vI v2), (3, vI v3), (4, vI v4), (6, vI v6), (7, vI v7), (8, vI r9)] [vI x10] s8 Q) (fun x10 ex10 => ?_) (fun hj => ?_)
      · have h := h x10 ex10
        refine g_istore (pc' := 97) dX12_aimOf_95 rfl (by decide) ?_
        refine g_iload (pc' := 99) dX12_aimOf_97 rfl rfl ?_
        refine g_iload (pc' := 101) dX12_aimOf_99 rfl rfl ?_
        refine g_S2i (pc' := 104) dX12_aimOf_101 rfl ms_RX12_254 (by decide) (Nat.le_of_ble_eq_true rfl) C_X12_greater (sr_pur ?_)
        refine g_topI (fun x12 ex12 => ?_)
        have h := h x12 ex12
        refine g_istore (pc' := 106) dX12_aimOf_104 rfl (by decide) ?_
        refine g_iinc (pc' := 109) dX12_aimOf_106 rfl rfl (by decide) ?_
        refine g_goto (pc' := 32) dX12_aimOf_109 rfl ?_
        exact (ih _ _ _ _ h).to ((sb_c rfl (sb_c rfl (sb_c rfl (sb_c rfl (sb_c rfl (sb_c rfl (sb_c rfl (sb_c rfl sb_n)))))))))
      · refine g_ic_le (pc' := 88) (tgt := 93) dX12_aimOf_85 rfl rfl (fun c11 => ?_) (fun c11 => ?_)
        · refine g_iload (pc' := 95) dX12_aimOf_93 rfl rfl ?_
          exact (hj _ (by rw [if_pos c11])).to ((sb_c rfl (sb_c rfl (sb_c rfl (sb_c rfl (sb_c rfl (sb_c rfl (sb_c rfl (sb_c rfl sb_n)))))))))
        · refine g_iload (pc' := 90) dX12_aimOf_88 rfl rfl ?_
          refine g_goto (pc' := 95) dX12_aimOf_90 rfl ?_
          exact (hj _ (by rw [if_neg c11])).to ((sb_c rfl (sb_c rfl (sb_c rfl (sb_c rfl (sb_c rfl (sb_c rfl (sb_c rfl (sb_c rfl sb_n)))))))))
def P_X12_aimOf (v1 : Int) (v2 : Int) (s : Sto) (Q : Int → Sto → Prop) : Prop := (inb (w32 ((w32 (5 * v1)) + 2)) 40 ∧ (∀ x2 : Int, x2 = s 79 (w32 ((w32 (5 * v1)) + 2)).toNat → (inb (w32 ((w32 (5 * v1)) + 3)) 40 ∧ (∀ x4 : Int, x4 = s 79 (w32 ((w32 (5 * v1)) + 3)).toNat → (∃ n14, L_X12_aimOf_32 v1 v2 x2 x4 (fun x5 x6 s7 => (inb (w32 ((w32 (5 * v1)) + 2)) 40 ∧ (∀ s9 : Sto, s9 = up s7 79 (w32 ((w32 (5 * v1)) + 2)).toNat x2 → (inb (w32 ((w32 (5 * v1)) + 3)) 40 ∧ (∀ s11 : Sto, s11 = up s9 79 (w32 ((w32 (5 * v1)) + 3)).toNat x4 → ((v2 = 0 → Q (w32 (x5.tdiv 9)) s11) ∧ (¬ v2 = 0 → ((v2 = 1 → Q (w32 ((w32 (x5.tmod 9)) + 1)) s11) ∧ (¬ v2 = 1 → Q x6 s11))))))))) n14 ((-1)) ((-1)) 0 s)))))
set_option maxRecDepth 100000 in
theorem C_X12_aimOf {v1 : Int} {v2 : Int} {s : Sto} {Q : Int → Sto → Prop}  (h : P_X12_aimOf v1 v2 s Q) : sr_C yX12_aimOf cX12_aimOf 9 (some .int) 5 [vR 69, vI v1, vI v2] s Q := by
  refine sr_C.of (by decide +kernel) (Nat.le_of_ble_eq_true rfl) ?_
  show sr_G RX12 cX12_aimOf 9 (some .int) 5 0 [(0, vR 69), (1, vI v1), (2, vI v2)] [] s Q
  unfold P_X12_aimOf at h
  refine g_aload_n (pc' := 1) dX12_aimOf_0 rfl rfl ?_
  refine g_getR (pc' := 4) (r := 79) dX12_aimOf_1 rfl fl_RX12_37 kd_69 rfl rf_69_15 ?_
  refine g_iconst (pc' := 5) (by unfold r32; decide) dX12_aimOf_4 rfl ?_
  refine g_iload_n (pc' := 6) dX12_aimOf_5 rfl rfl ?_
  refine g_imul (pc' := 7) dX12_aimOf_6 rfl ?_
  refine g_iconst (pc' := 8) (by unfold r32; decide) dX12_aimOf_7 rfl ?_
  refine g_iadd (pc' := 9) dX12_aimOf_8 rfl ?_
  obtain ⟨ob1, h⟩ := h
  refine g_iald (pc' := 10) dX12_aimOf_9 rfl kd_79 ob1 ?_
  refine g_topI (fun x2 ex2 => ?_)
  have h := h x2 ex2
  refine g_istore_n (pc' := 11) dX12_aimOf_10 rfl (by decide) ?_
  refine g_aload_n (pc' := 12) dX12_aimOf_11 rfl rfl ?_
  refine g_getR (pc' := 15) (r := 79) dX12_aimOf_12 rfl fl_RX12_37 kd_69 rfl rf_69_15 ?_
  refine g_iconst (pc' := 16) (by unfold r32; decide) dX12_aimOf_15 rfl ?_
  refine g_iload_n (pc' := 17) dX12_aimOf_16 rfl rfl ?_
  refine g_imul (pc' := 18) dX12_aimOf_17 rfl ?_
  refine g_iconst (pc' := 19) (by unfold r32; decide) dX12_aimOf_18 rfl ?_
  refine g_iadd (pc' := 20) dX12_aimOf_19 rfl ?_
  obtain ⟨ob3, h⟩ := h
  refine g_iald (pc' := 21) dX12_aimOf_20 rfl kd_79 ob3 ?_
  refine g_topI (fun x4 ex4 => ?_)
  have h := h x4 ex4
  refine g_istore (pc' := 23) dX12_aimOf_21 rfl (by decide) ?_
  refine g_iconst (pc' := 24) (by unfold r32; decide) dX12_aimOf_23 rfl ?_
  refine g_istore (pc' := 26) dX12_aimOf_24 rfl (by decide) ?_
  refine g_iconst (pc' := 27) (by unfold r32; decide) dX12_aimOf_26 rfl ?_
  refine g_istore (pc' := 29) dX12_aimOf_27 rfl (by decide) ?_
  refine g_iconst (pc' := 30) (by unfold r32; decide) dX12_aimOf_29 rfl ?_
  refine g_istore (pc' := 32) dX12_aimOf_30 rfl (by decide) ?_
  obtain ⟨n14, h⟩ := h
  refine (SL_X12_aimOf_32  (fun x5 x6 s7 h => ?_) n14 _ _ _ _ h).to ((sb_c rfl (sb_c rfl (sb_c rfl (sb_c rfl (sb_c rfl (sb_c rfl (sb_c rfl (sb_c rfl sb_n)))))))))
  · refine g_aload_n (pc' := 113) dX12_aimOf_112 rfl rfl ?_
    refine g_getR (pc' := 116) (r := 79) dX12_aimOf_113 rfl fl_RX12_37 kd_69 rfl rf_69_15 ?_
    refine g_iconst (pc' := 117) (by unfold r32; decide) dX12_aimOf_116 rfl ?_
    refine g_iload_n (pc' := 118) dX12_aimOf_117 rfl rfl ?_
    refine g_imul (pc' := 119) dX12_aimOf_118 rfl ?_
    refine g_iconst (pc' := 120) (by unfold r32; decide) dX12_aimOf_119 rfl ?_
    refine g_iadd (pc' := 121) dX12_aimOf_120 rfl ?_
    refine g_iload_n (pc' := 122) dX12_aimOf_121 rfl rfl ?_
    obtain ⟨ob8, h⟩ := h
    refine g_iast (pc' := 123) dX12_aimOf_122 rfl kd_79 ob8 ?_
    refine g_sto (fun s9 es9 => ?_)
    have h := h s9 es9
    refine g_aload_n (pc' := 124) dX12_aimOf_123 rfl rfl ?_
    refine g_getR (pc' := 127) (r := 79) dX12_aimOf_124 rfl fl_RX12_37 kd_69 rfl rf_69_15 ?_
    refine g_iconst (pc' := 128) (by unfold r32; decide) dX12_aimOf_127 rfl ?_
    refine g_iload_n (pc' := 129) dX12_aimOf_128 rfl rfl ?_
    refine g_imul (pc' := 130) dX12_aimOf_129 rfl ?_
    refine g_iconst (pc' := 131) (by unfold r32; decide) dX12_aimOf_130 rfl ?_
    refine g_iadd (pc' := 132) dX12_aimOf_131 rfl ?_
    refine g_iload (pc' := 134) dX12_aimOf_132 rfl rfl ?_
    obtain ⟨ob10, h⟩ := h
    refine g_iast (pc' := 135) dX12_aimOf_134 rfl kd_79 ob10 ?_
    refine g_sto (fun s11 es11 => ?_)
    have h := h s11 es11
    refine g_iload_n (pc' := 136) dX12_aimOf_135 rfl rfl ?_
    refine g_if_ne (pc' := 139) (tgt := 147) dX12_aimOf_136 rfl rfl (fun c12 => ?_) (fun c12 => ?_)
    · have h := h.2 c12
      refine g_iload_n (pc' := 148) dX12_aimOf_147 rfl rfl ?_
      refine g_iconst (pc' := 149) (by unfold r32; decide) dX12_aimOf_148 rfl ?_
      refine g_ic_ne (pc' := 152) (tgt := 162) dX12_aimOf_149 rfl rfl (fun c13 => ?_) (fun c13 => ?_)
      · have h := h.2 c13
        refine g_iload (pc' := 164) dX12_aimOf_162 rfl rfl ?_
        exact g_iret dX12_aimOf_164 rfl h
      · have h := h.1 c13
        refine g_iload (pc' := 154) dX12_aimOf_152 rfl rfl ?_
        refine g_bipush (pc' := 156) ⟨by unfold r32; decide, rfl⟩ dX12_aimOf_154 rfl ?_
        refine g_irem (pc' := 157) dX12_aimOf_156 rfl (by decide) ?_
        refine g_iconst (pc' := 158) (by unfold r32; decide) dX12_aimOf_157 rfl ?_
        refine g_iadd (pc' := 159) dX12_aimOf_158 rfl ?_
        refine g_goto (pc' := 164) dX12_aimOf_159 rfl ?_
        exact g_iret dX12_aimOf_164 rfl h
    · have h := h.1 c12
      refine g_iload (pc' := 141) dX12_aimOf_139 rfl rfl ?_
      refine g_bipush (pc' := 143) ⟨by unfold r32; decide, rfl⟩ dX12_aimOf_141 rfl ?_
      refine g_idiv (pc' := 144) dX12_aimOf_143 rfl (by decide) ?_
      refine g_goto (pc' := 164) dX12_aimOf_144 rfl ?_
      exact g_iret dX12_aimOf_164 rfl h
def P_X12_aim (v1 : Int) (v2 : Int) (s : Sto) (Q : Int → Sto → Prop) : Prop := (P_X12_find s (fun _ s1 => ((F_X12_isRing v1 s1 = 0 → Q ((-2)) s1) ∧ (¬ F_X12_isRing v1 s1 = 0 → ((F_X12_in v2 0 2 s1 = 0 → Q ((-2)) s1) ∧ (¬ F_X12_in v2 0 2 s1 = 0 → (P_X12_aimOf v1 v2 s1 (fun r8 s7 => Q r8 s7))))))))
set_option maxRecDepth 100000 in
theorem C_X12_aim {v1 : Int} {v2 : Int} {s : Sto} {Q : Int → Sto → Prop}  (h : P_X12_aim v1 v2 s Q) : sr_C yX12_aim cX12_aim 3 (some .int) 6 [vR 69, vI v1, vI v2] s Q := by
  refine sr_C.of (by decide +kernel) (Nat.le_of_ble_eq_true rfl) ?_
  show sr_G RX12 cX12_aim 3 (some .int) 6 0 [(0, vR 69), (1, vI v1), (2, vI v2)] [] s Q
  unfold P_X12_aim at h
  refine g_aload_n (pc' := 1) dX12_aim_0 rfl rfl ?_
  refine g_V0v (pc' := 4) dX12_aim_1 rfl mv_RX12_230 kd_69 (by decide) (Nat.le_of_ble_eq_true rfl) (C_X12_find h) (fun s1 h => ?_)
  refine g_aload_n (pc' := 5) dX12_aim_4 rfl rfl ?_
  refine g_iload_n (pc' := 6) dX12_aim_5 rfl rfl ?_
  refine g_V1z (pc' := 9) dX12_aim_6 rfl mv_RX12_169 kd_69 (by decide) (Nat.le_of_ble_eq_true rfl) C_X12_isRing (sr_purb (fun hb3 => ?_))
  refine g_if_eq (pc' := 12) (tgt := 33) dX12_aim_9 rfl rfl (fun c4 => ?_) (fun c4 => ?_)
  · have h := h.1 c4
    refine g_bipush (pc' := 35) ⟨by unfold r32; decide, rfl⟩ dX12_aim_33 rfl ?_
    exact g_iret dX12_aim_35 rfl h
  · have h := h.2 c4
    refine g_iload_n (pc' := 13) dX12_aim_12 rfl rfl ?_
    refine g_i2l (pc' := 14) dX12_aim_13 rfl ?_
    refine g_lconst (pc' := 15) (z := 0) ⟨by unfold r64; decide, rfl⟩ dX12_aim_14 rfl ?_
    refine g_ldc2 (pc' := 18) (z := 2) (by unfold r64; decide) kc_RX12_89 dX12_aim_15 rfl ?_
    refine g_S3z (pc' := 21) dX12_aim_18 rfl ms_RX12_76 (by decide) (Nat.le_of_ble_eq_true rfl) C_X12_in (sr_purb (fun hb5 => ?_))
    refine g_if_eq (pc' := 24) (tgt := 33) dX12_aim_21 rfl rfl (fun c6 => ?_) (fun c6 => ?_)
    · have h := h.1 c6
      refine g_bipush (pc' := 35) ⟨by unfold r32; decide, rfl⟩ dX12_aim_33 rfl ?_
      exact g_iret dX12_aim_35 rfl h
    · have h := h.2 c6
      refine g_aload_n (pc' := 25) dX12_aim_24 rfl rfl ?_
      refine g_iload_n (pc' := 26) dX12_aim_25 rfl rfl ?_
      refine g_iload_n (pc' := 27) dX12_aim_26 rfl rfl ?_
      refine g_V2i (pc' := 30) dX12_aim_27 rfl mv_RX12_269 kd_69 (by decide) (Nat.le_of_ble_eq_true rfl) (C_X12_aimOf h) (fun r8 s7 h => ?_)
      refine g_goto (pc' := 35) dX12_aim_30 rfl ?_
      exact g_iret dX12_aim_35 rfl h
def L_X12_standOf_19 (v1 : Int) (v2 : Int) (K71 : Int → Sto → Prop) : Nat → Int → Int → Sto → Prop
  | 0, _, _, _ => False
  | n + 1, v3, v4, s => ((v4 < 0 → K71 v3 s) ∧ (¬ v4 < 0 → (inb v4 36 ∧ ((s 76 v4.toNat = 0 → (inb (w32 (3 * v1)) 24 ∧ (∀ s5 : Sto, s5 = up s 77 (w32 (3 * v1)).toNat v4 → (P_X12_lives s5 (fun _ s6 => (inb v1 8 ∧ (∀ x9 : Int, x9 = (if s6 85 v1.toNat = (-1) then v4 else v3) → L_X12_standOf_19 v1 v2 K71 n x9 (w32 (v4 + (-1))) s6))))))) ∧ (¬ s 76 v4.toNat = 0 → L_X12_standOf_19 v1 v2 K71 n v3 (w32 (v4 + (-1))) s)))))
set_option maxRecDepth 100000 in
theorem SL_X12_standOf_19 {v1 : Int} {v2 : Int} {K71 : Int → Sto → Prop} {Q : Int → Sto → Prop}  (hK71 : ∀ v3 s, K71 v3 s → sr_G RX12 cX12_standOf 5 (some .int) 5 71 [(0, vR 69), (1, vI v1), (2, vI v2), (3, vI v3)] [] s Q) : ∀ n v3 v4 s, L_X12_standOf_19 v1 v2 K71 n v3 v4 s → sr_G RX12 cX12_standOf 5 (some .int) 5 19 [(0, vR 69), (1, vI v1), (2, vI v2), (3, vI v3), (4, vI v4)] [] s Q := by
  intro n
  induction n with
  | zero => intro v3 v4 s h; exact h.elim
  | succ n ih =>
    intro v3 v4 s h
    unfold L_X12_standOf_19 at h
    refine g_iload (pc' := 21) dX12_standOf_19 rfl rfl ?_
    refine g_if_lt (pc' := 24) (tgt := 71) dX12_standOf_21 rfl rfl (fun c1 => ?_) (fun c1 => ?_)
    · have h := h.1 c1
      exact (hK71 _ _ h).to ((sb_c rfl (sb_c rfl (sb_c rfl (sb_c rfl sb_n)))))
    · have h := h.2 c1
      refine g_aload_n (pc' := 25) dX12_standOf_24 rfl rfl ?_
      refine g_getR (pc' := 28) (r := 76) dX12_standOf_25 rfl fl_RX12_28 kd_69 rfl rf_69_9 ?_
      refine g_iload (pc' := 30) dX12_standOf_28 rfl rfl ?_
      obtain ⟨ob2, h⟩ := h
      refine g_iald (pc' := 31) dX12_standOf_30 rfl kd_76 ob2 ?_
      refine g_if_ne (pc' := 34) (tgt := 65) dX12_standOf_31 rfl rfl (fun c3 => ?_) (fun c3 => ?_)
      · have h := h.2 c3
        refine g_iinc (pc' := 68) dX12_standOf_65 rfl rfl (by decide) ?_
        refine g_goto (pc' := 19) dX12_standOf_68 rfl ?_
        exact (ih _ _ _ h).to ((sb_c rfl (sb_c rfl (sb_c rfl (sb_c rfl (sb_c rfl sb_n))))))
      · have h := h.1 c3
        refine g_aload_n (pc' := 35) dX12_standOf_34 rfl rfl ?_
        refine g_getR (pc' := 38) (r := 77) dX12_standOf_35 rfl fl_RX12_31 kd_69 rfl rf_69_11 ?_
        refine g_iconst (pc' := 39) (by unfold r32; decide) dX12_standOf_38 rfl ?_
        refine g_iload_n (pc' := 40) dX12_standOf_39 rfl rfl ?_
        refine g_imul (pc' := 41) dX12_standOf_40 rfl ?_
        refine g_iload (pc' := 43) dX12_standOf_41 rfl rfl ?_
        obtain ⟨ob4, h⟩ := h
        refine g_iast (pc' := 44) dX12_standOf_43 rfl kd_77 ob4 ?_
        refine g_sto (fun s5 es5 => ?_)
        have h := h s5 es5
        refine g_aload_n (pc' := 45) dX12_standOf_44 rfl rfl ?_
        refine g_V0v (pc' := 48) dX12_standOf_45 rfl mv_RX12_227 kd_69 (by decide) (Nat.le_of_ble_eq_true rfl) (C_X12_lives h) (fun s6 h => ?_)
        refine g_aload_n (pc' := 49) dX12_standOf_48 rfl rfl ?_
        refine g_getR (pc' := 52) (r := 85) dX12_standOf_49 rfl fl_RX12_55 kd_69 rfl rf_69_21 ?_
        refine g_iload_n (pc' := 53) dX12_standOf_52 rfl rfl ?_
        obtain ⟨ob8, h⟩ := h
        refine g_iald (pc' := 54) dX12_standOf_53 rfl kd_85 ob8 ?_
        refine g_iconst (pc' := 55) (by unfold r32; decide) dX12_standOf_54 rfl ?_
        refine sr_join (v := (if s6 85 v1.toNat = (-1) then v4 else v3)) (GG := fun x9 => sr_G RX12 cX12_standOf 5 (some .int) 5 64 [(0, vR 69), (1, vI v1), (2, vI v2), (4, vI v4)] [vI x9] s6 Q) (fun x9 ex9 => ?_) (fun hj => ?_)
        · have h := h x9 ex9
          refine g_istore_n (pc' := 65) dX12_standOf_64 rfl (by decide) ?_
          refine g_iinc (pc' := 68) dX12_standOf_65 rfl rfl (by decide) ?_
          refine g_goto (pc' := 19) dX12_standOf_68 rfl ?_
          exact (ih _ _ _ h).to ((sb_c rfl (sb_c rfl (sb_c rfl (sb_c rfl (sb_c rfl sb_n))))))
        · refine g_ic_ne (pc' := 58) (tgt := 63) dX12_standOf_55 rfl rfl (fun c10 => ?_) (fun c10 => ?_)
          · refine g_iload_n (pc' := 64) dX12_standOf_63 rfl rfl ?_
            exact (hj _ (by rw [if_neg c10])).to ((sb_c rfl (sb_c rfl (sb_c rfl (sb_c rfl sb_n)))))
          · refine g_iload (pc' := 60) dX12_standOf_58 rfl rfl ?_
            refine g_goto (pc' := 64) dX12_standOf_60 rfl ?_
            exact (hj _ (by rw [if_pos c10])).to ((sb_c rfl (sb_c rfl (sb_c rfl (sb_c rfl sb_n)))))
def P_X12_standOf (v1 : Int) (s : Sto) (Q : Int → Sto → Prop) : Prop := (inb (w32 (3 * v1)) 24 ∧ (∀ x2 : Int, x2 = s 77 (w32 (3 * v1)).toNat → (∀ x3 : Int, x3 = w32 ((s 69 7) - 1) → (∃ n8, L_X12_standOf_19 v1 x2 (fun x4 s5 => (inb (w32 (3 * v1)) 24 ∧ (∀ s7 : Sto, s7 = up s5 77 (w32 (3 * v1)).toNat x2 → Q x4 s7))) n8 ((-1)) x3 s))))
set_option maxRecDepth 100000 in
theorem C_X12_standOf {v1 : Int} {s : Sto} {Q : Int → Sto → Prop}  (h : P_X12_standOf v1 s Q) : sr_C yX12_standOf cX12_standOf 5 (some .int) 5 [vR 69, vI v1] s Q := by
  refine sr_C.of (by decide +kernel) (Nat.le_of_ble_eq_true rfl) ?_
  show sr_G RX12 cX12_standOf 5 (some .int) 5 0 [(0, vR 69), (1, vI v1)] [] s Q
  unfold P_X12_standOf at h
  refine g_aload_n (pc' := 1) dX12_standOf_0 rfl rfl ?_
  refine g_getR (pc' := 4) (r := 77) dX12_standOf_1 rfl fl_RX12_31 kd_69 rfl rf_69_11 ?_
  refine g_iconst (pc' := 5) (by unfold r32; decide) dX12_standOf_4 rfl ?_
  refine g_iload_n (pc' := 6) dX12_standOf_5 rfl rfl ?_
  refine g_imul (pc' := 7) dX12_standOf_6 rfl ?_
  obtain ⟨ob1, h⟩ := h
  refine g_iald (pc' := 8) dX12_standOf_7 rfl kd_77 ob1 ?_
  refine g_topI (fun x2 ex2 => ?_)
  have h := h x2 ex2
  refine g_istore_n (pc' := 9) dX12_standOf_8 rfl (by decide) ?_
  refine g_iconst (pc' := 10) (by unfold r32; decide) dX12_standOf_9 rfl ?_
  refine g_istore_n (pc' := 11) dX12_standOf_10 rfl (by decide) ?_
  refine g_aload_n (pc' := 12) dX12_standOf_11 rfl rfl ?_
  refine g_getI (pc' := 15) dX12_standOf_12 rfl fl_RX12_109 kd_69 (Or.inl rfl) ?_
  refine g_iconst (pc' := 16) (by unfold r32; decide) dX12_standOf_15 rfl ?_
  refine g_isub (pc' := 17) dX12_standOf_16 rfl ?_
  refine g_topI (fun x3 ex3 => ?_)
  have h := h x3 ex3
  refine g_istore (pc' := 19) dX12_standOf_17 rfl (by decide) ?_
  obtain ⟨n8, h⟩ := h
  refine (SL_X12_standOf_19  (fun x4 s5 h => ?_) n8 _ _ _ h).to ((sb_c rfl (sb_c rfl (sb_c rfl (sb_c rfl (sb_c rfl sb_n))))))
  · refine g_aload_n (pc' := 72) dX12_standOf_71 rfl rfl ?_
    refine g_getR (pc' := 75) (r := 77) dX12_standOf_72 rfl fl_RX12_31 kd_69 rfl rf_69_11 ?_
    refine g_iconst (pc' := 76) (by unfold r32; decide) dX12_standOf_75 rfl ?_
    refine g_iload_n (pc' := 77) dX12_standOf_76 rfl rfl ?_
    refine g_imul (pc' := 78) dX12_standOf_77 rfl ?_
    refine g_iload_n (pc' := 79) dX12_standOf_78 rfl rfl ?_
    obtain ⟨ob6, h⟩ := h
    refine g_iast (pc' := 80) dX12_standOf_79 rfl kd_77 ob6 ?_
    refine g_sto (fun s7 es7 => ?_)
    have h := h s7 es7
    refine g_iload_n (pc' := 81) dX12_standOf_80 rfl rfl ?_
    exact g_iret dX12_standOf_81 rfl h
def P_X12_stand (v1 : Int) (s : Sto) (Q : Int → Sto → Prop) : Prop := (P_X12_find s (fun _ s1 => ((F_X12_isThing v1 s1 = 0 → Q ((-2)) s1) ∧ (¬ F_X12_isThing v1 s1 = 0 → (P_X12_standOf v1 s1 (fun r6 s5 => Q r6 s5))))))
set_option maxRecDepth 100000 in
theorem C_X12_stand {v1 : Int} {s : Sto} {Q : Int → Sto → Prop}  (h : P_X12_stand v1 s Q) : sr_C yX12_stand cX12_stand 2 (some .int) 6 [vR 69, vI v1] s Q := by
  refine sr_C.of (by decide +kernel) (Nat.le_of_ble_eq_true rfl) ?_
  show sr_G RX12 cX12_stand 2 (some .int) 6 0 [(0, vR 69), (1, vI v1)] [] s Q
  unfold P_X12_stand at h
  refine g_aload_n (pc' := 1) dX12_stand_0 rfl rfl ?_
  refine g_V0v (pc' := 4) dX12_stand_1 rfl mv_RX12_230 kd_69 (by decide) (Nat.le_of_ble_eq_true rfl) (C_X12_find h) (fun s1 h => ?_)
  refine g_aload_n (pc' := 5) dX12_stand_4 rfl rfl ?_
  refine g_iload_n (pc' := 6) dX12_stand_5 rfl rfl ?_
  refine g_V1z (pc' := 9) dX12_stand_6 rfl mv_RX12_152 kd_69 (by decide) (Nat.le_of_ble_eq_true rfl) C_X12_isThing (sr_purb (fun hb3 => ?_))
  refine g_if_eq (pc' := 12) (tgt := 20) dX12_stand_9 rfl rfl (fun c4 => ?_) (fun c4 => ?_)
  · have h := h.1 c4
    refine g_bipush (pc' := 22) ⟨by unfold r32; decide, rfl⟩ dX12_stand_20 rfl ?_
    exact g_iret dX12_stand_22 rfl h
  · have h := h.2 c4
    refine g_aload_n (pc' := 13) dX12_stand_12 rfl rfl ?_
    refine g_iload_n (pc' := 14) dX12_stand_13 rfl rfl ?_
    refine g_V1i (pc' := 17) dX12_stand_14 rfl mv_RX12_272 kd_69 (by decide) (Nat.le_of_ble_eq_true rfl) (C_X12_standOf h) (fun r6 s5 h => ?_)
    refine g_goto (pc' := 22) dX12_stand_17 rfl ?_
    exact g_iret dX12_stand_22 rfl h
def P_X12_isSpared (v1 : Int) (v2 : Int) (s : Sto) (Q : Int → Sto → Prop) : Prop := (∀ s1 : Sto, s1 = up s 69 25 v2 → (P_X12_lives s1 (fun _ s2 => (∀ s4 : Sto, s4 = up s2 69 25 0 → (inb v1 8 ∧ ((s4 85 v1.toNat = (-1) → Q 1 s4) ∧ (¬ s4 85 v1.toNat = (-1) → Q 0 s4)))))))
set_option maxRecDepth 100000 in
theorem C_X12_isSpared {v1 : Int} {v2 : Int} {s : Sto} {Q : Int → Sto → Prop}  (h : P_X12_isSpared v1 v2 s Q) : sr_C yX12_isSpared cX12_isSpared 3 (some .boolean) 5 [vR 69, vI v1, vI v2] s Q := by
  refine sr_C.of (by decide +kernel) (Nat.le_of_ble_eq_true rfl) ?_
  show sr_G RX12 cX12_isSpared 3 (some .boolean) 5 0 [(0, vR 69), (1, vI v1), (2, vI v2)] [] s Q
  unfold P_X12_isSpared at h
  refine g_aload_n (pc' := 1) dX12_isSpared_0 rfl rfl ?_
  refine g_iload_n (pc' := 2) dX12_isSpared_1 rfl rfl ?_
  refine g_putI (pc' := 5) dX12_isSpared_2 rfl fp_RX12_205 kd_69 rfl ?_
  refine g_sto (fun s1 es1 => ?_)
  have h := h s1 es1
  refine g_aload_n (pc' := 6) dX12_isSpared_5 rfl rfl ?_
  refine g_V0v (pc' := 9) dX12_isSpared_6 rfl mv_RX12_227 kd_69 (by decide) (Nat.le_of_ble_eq_true rfl) (C_X12_lives h) (fun s2 h => ?_)
  refine g_aload_n (pc' := 10) dX12_isSpared_9 rfl rfl ?_
  refine g_iconst (pc' := 11) (by unfold r32; decide) dX12_isSpared_10 rfl ?_
  refine g_putI (pc' := 14) dX12_isSpared_11 rfl fp_RX12_205 kd_69 rfl ?_
  refine g_sto (fun s4 es4 => ?_)
  have h := h s4 es4
  refine g_aload_n (pc' := 15) dX12_isSpared_14 rfl rfl ?_
  refine g_getR (pc' := 18) (r := 85) dX12_isSpared_15 rfl fl_RX12_55 kd_69 rfl rf_69_21 ?_
  refine g_iload_n (pc' := 19) dX12_isSpared_18 rfl rfl ?_
  obtain ⟨ob5, h⟩ := h
  refine g_iald (pc' := 20) dX12_isSpared_19 rfl kd_85 ob5 ?_
  refine g_iconst (pc' := 21) (by unfold r32; decide) dX12_isSpared_20 rfl ?_
  refine g_ic_ne (pc' := 24) (tgt := 28) dX12_isSpared_21 rfl rfl (fun c6 => ?_) (fun c6 => ?_)
  · have h := h.2 c6
    refine g_iconst (pc' := 29) (by unfold r32; decide) dX12_isSpared_28 rfl ?_
    exact g_zret dX12_isSpared_29 rfl (Or.inl rfl) h
  · have h := h.1 c6
    refine g_iconst (pc' := 25) (by unfold r32; decide) dX12_isSpared_24 rfl ?_
    refine g_goto (pc' := 29) dX12_isSpared_25 rfl ?_
    exact g_zret dX12_isSpared_29 rfl (Or.inr rfl) h
def L_X12_hushOf_22 (v1 : Int) (v2 : Int) (K41 : Int → Sto → Prop) (K66 : Sto → Prop) : Nat → Int → Sto → Prop
  | 0, _, _ => False
  | n + 1, v3, s => ((s 69 14 ≤ v3 → K66 s) ∧ (¬ s 69 14 ≤ v3 → (P_X12_isSpared v1 (iShl 1 v3) s (fun r3 s2 => ((r3 = 0 → L_X12_hushOf_22 v1 v2 K41 K66 n (w32 (v3 + 1)) s2) ∧ (¬ r3 = 0 → K41 v3 s2))))))
set_option maxRecDepth 100000 in
theorem SL_X12_hushOf_22 {v1 : Int} {v2 : Int} {K41 : Int → Sto → Prop} {K66 : Sto → Prop} {Q : Int → Sto → Prop}  (hK41 : ∀ v3 s, K41 v3 s → sr_G RX12 cX12_hushOf 5 (some .int) 6 41 [(2, vI v2), (3, vI v3)] [] s Q) (hK66 : ∀ s, K66 s → sr_G RX12 cX12_hushOf 5 (some .int) 6 66 [(0, vR 69), (1, vI v1), (2, vI v2)] [] s Q) : ∀ n v3 s, L_X12_hushOf_22 v1 v2 K41 K66 n v3 s → sr_G RX12 cX12_hushOf 5 (some .int) 6 22 [(0, vR 69), (1, vI v1), (2, vI v2), (3, vI v3)] [] s Q := by
  intro n
  induction n with
  | zero => intro v3 s h; exact h.elim
  | succ n ih =>
    intro v3 s h
    unfold L_X12_hushOf_22 at h
    refine g_iload_n (pc' := 23) dX12_hushOf_22 rfl rfl ?_
    refine g_aload_n (pc' := 24) dX12_hushOf_23 rfl rfl ?_
    refine g_getI (pc' := 27) dX12_hushOf_24 rfl fl_RX12_160 kd_69 (Or.inl rfl) ?_
    refine g_ic_ge (pc' := 30) (tgt := 66) dX12_hushOf_27 rfl rfl (fun c1 => ?_) (fun c1 => ?_)
    · have h := h.1 c1
      exact (hK66 _ h).to ((sb_c rfl (sb_c rfl (sb_c rfl sb_n))))
    · have h := h.2 c1
      refine g_aload_n (pc' := 31) dX12_hushOf_30 rfl rfl ?_
      refine g_iload_n (pc' := 32) dX12_hushOf_31 rfl rfl ?_
      refine g_iconst (pc' := 33) (by unfold r32; decide) dX12_hushOf_32 rfl ?_
      refine g_iload_n (pc' := 34) dX12_hushOf_33 rfl rfl ?_
      refine g_ishl (pc' := 35) dX12_hushOf_34 rfl ?_
      refine g_V2z (pc' := 38) dX12_hushOf_35 rfl mv_RX12_275 kd_69 (by decide) (Nat.le_of_ble_eq_true rfl) (C_X12_isSpared h) (fun r3 s2 h => ?_)
      refine g_if_eq (pc' := 41) (tgt := 60) dX12_hushOf_38 rfl rfl (fun c4 => ?_) (fun c4 => ?_)
      · have h := h.1 c4
        refine g_iinc (pc' := 63) dX12_hushOf_60 rfl rfl (by decide) ?_
        refine g_goto (pc' := 22) dX12_hushOf_63 rfl ?_
        exact (ih _ _ h).to ((sb_c rfl (sb_c rfl (sb_c rfl (sb_c rfl sb_n)))))
      · have h := h.2 c4
        exact (hK41 _ _ h).to ((sb_c rfl (sb_c rfl sb_n)))
def L_X12_hushOf_81 (v1 : Int) (v2 : Int) (v3 : Int) (K106 : Int → Sto → Prop) (K132 : Sto → Prop) : Nat → Int → Sto → Prop
  | 0, _, _ => False
  | n + 1, v4, s => ((s 69 14 ≤ v4 → K132 s) ∧ (¬ s 69 14 ≤ v4 → (P_X12_isSpared v1 (iO (iShl 1 v3) (iShl 1 v4)) s (fun r3 s2 => ((r3 = 0 → L_X12_hushOf_81 v1 v2 v3 K106 K132 n (w32 (v4 + 1)) s2) ∧ (¬ r3 = 0 → K106 v4 s2))))))
set_option maxRecDepth 100000 in
theorem SL_X12_hushOf_81 {v1 : Int} {v2 : Int} {v3 : Int} {K106 : Int → Sto → Prop} {K132 : Sto → Prop} {Q : Int → Sto → Prop}  (hK106 : ∀ v4 s, K106 v4 s → sr_G RX12 cX12_hushOf 5 (some .int) 6 106 [(2, vI v2), (3, vI v3), (4, vI v4)] [] s Q) (hK132 : ∀ s, K132 s → sr_G RX12 cX12_hushOf 5 (some .int) 6 132 [(0, vR 69), (1, vI v1), (2, vI v2), (3, vI v3)] [] s Q) : ∀ n v4 s, L_X12_hushOf_81 v1 v2 v3 K106 K132 n v4 s → sr_G RX12 cX12_hushOf 5 (some .int) 6 81 [(0, vR 69), (1, vI v1), (2, vI v2), (3, vI v3), (4, vI v4)] [] s Q := by
  intro n
  induction n with
  | zero => intro v4 s h; exact h.elim
  | succ n ih =>
    intro v4 s h
    unfold L_X12_hushOf_81 at h
    refine g_iload (pc' := 83) dX12_hushOf_81 rfl rfl ?_
    refine g_aload_n (pc' := 84) dX12_hushOf_83 rfl rfl ?_
    refine g_getI (pc' := 87) dX12_hushOf_84 rfl fl_RX12_160 kd_69 (Or.inl rfl) ?_
    refine g_ic_ge (pc' := 90) (tgt := 132) dX12_hushOf_87 rfl rfl (fun c1 => ?_) (fun c1 => ?_)
    · have h := h.1 c1
      exact (hK132 _ h).to ((sb_c rfl (sb_c rfl (sb_c rfl (sb_c rfl sb_n)))))
    · have h := h.2 c1
      refine g_aload_n (pc' := 91) dX12_hushOf_90 rfl rfl ?_
      refine g_iload_n (pc' := 92) dX12_hushOf_91 rfl rfl ?_
      refine g_iconst (pc' := 93) (by unfold r32; decide) dX12_hushOf_92 rfl ?_
      refine g_iload_n (pc' := 94) dX12_hushOf_93 rfl rfl ?_
      refine g_ishl (pc' := 95) dX12_hushOf_94 rfl ?_
      refine g_iconst (pc' := 96) (by unfold r32; decide) dX12_hushOf_95 rfl ?_
      refine g_iload (pc' := 98) dX12_hushOf_96 rfl rfl ?_
      refine g_ishl (pc' := 99) dX12_hushOf_98 rfl ?_
      refine g_ior (pc' := 100) dX12_hushOf_99 rfl ?_
      refine g_V2z (pc' := 103) dX12_hushOf_100 rfl mv_RX12_275 kd_69 (by decide) (Nat.le_of_ble_eq_true rfl) (C_X12_isSpared h) (fun r3 s2 h => ?_)
      refine g_if_eq (pc' := 106) (tgt := 126) dX12_hushOf_103 rfl rfl (fun c4 => ?_) (fun c4 => ?_)
      · have h := h.1 c4
        refine g_iinc (pc' := 129) dX12_hushOf_126 rfl rfl (by decide) ?_
        refine g_goto (pc' := 81) dX12_hushOf_129 rfl ?_
        exact (ih _ _ h).to ((sb_c rfl (sb_c rfl (sb_c rfl (sb_c rfl (sb_c rfl sb_n))))))
      · have h := h.2 c4
        exact (hK106 _ _ h).to ((sb_c rfl (sb_c rfl (sb_c rfl sb_n))))
def L_X12_hushOf_68 (v1 : Int) (v2 : Int) (K106 : Int → Int → Sto → Prop) (K138 : Sto → Prop) : Nat → Int → Sto → Prop
  | 0, _, _ => False
  | n + 1, v3, s => ((s 69 14 ≤ v3 → K138 s) ∧ (¬ s 69 14 ≤ v3 → (∀ x2 : Int, x2 = w32 (v3 + 1) → (∃ n6, L_X12_hushOf_81 v1 v2 v3 (fun x3 s4 => K106 v3 x3 s4) (fun s5 => L_X12_hushOf_68 v1 v2 K106 K138 n (w32 (v3 + 1)) s5) n6 x2 s))))
set_option maxRecDepth 100000 in
theorem SL_X12_hushOf_68 {v1 : Int} {v2 : Int} {K106 : Int → Int → Sto → Prop} {K138 : Sto → Prop} {Q : Int → Sto → Prop}  (hK106 : ∀ v3 v4 s, K106 v3 v4 s → sr_G RX12 cX12_hushOf 5 (some .int) 6 106 [(2, vI v2), (3, vI v3), (4, vI v4)] [] s Q) (hK138 : ∀ s, K138 s → sr_G RX12 cX12_hushOf 5 (some .int) 6 138 [] [] s Q) : ∀ n v3 s, L_X12_hushOf_68 v1 v2 K106 K138 n v3 s → sr_G RX12 cX12_hushOf 5 (some .int) 6 68 [(0, vR 69), (1, vI v1), (2, vI v2), (3, vI v3)] [] s Q := by
  intro n
  induction n with
  | zero => intro v3 s h; exact h.elim
  | succ n ih =>
    intro v3 s h
    unfold L_X12_hushOf_68 at h
    refine g_iload_n (pc' := 69) dX12_hushOf_68 rfl rfl ?_
    refine g_aload_n (pc' := 70) dX12_hushOf_69 rfl rfl ?_
    refine g_getI (pc' := 73) dX12_hushOf_70 rfl fl_RX12_160 kd_69 (Or.inl rfl) ?_
    refine g_ic_ge (pc' := 76) (tgt := 138) dX12_hushOf_73 rfl rfl (fun c1 => ?_) (fun c1 => ?_)
    · have h := h.1 c1
      exact (hK138 _ h).to (sb_n)
    · have h := h.2 c1
      refine g_iload_n (pc' := 77) dX12_hushOf_76 rfl rfl ?_
      refine g_iconst (pc' := 78) (by unfold r32; decide) dX12_hushOf_77 rfl ?_
      refine g_iadd (pc' := 79) dX12_hushOf_78 rfl ?_
      refine g_topI (fun x2 ex2 => ?_)
      have h := h x2 ex2
      refine g_istore (pc' := 81) dX12_hushOf_79 rfl (by decide) ?_
      obtain ⟨n6, h⟩ := h
      refine (SL_X12_hushOf_81  (fun x3 s4 h => ?_) (fun s5 h => ?_) n6 _ _ h).to ((sb_c rfl (sb_c rfl (sb_c rfl (sb_c rfl (sb_c rfl sb_n))))))
      · exact (hK106 _ _ _ h).to ((sb_c rfl (sb_c rfl (sb_c rfl sb_n))))
      · refine g_iinc (pc' := 135) dX12_hushOf_132 rfl rfl (by decide) ?_
        refine g_goto (pc' := 68) dX12_hushOf_135 rfl ?_
        exact (ih _ _ h).to ((sb_c rfl (sb_c rfl (sb_c rfl (sb_c rfl sb_n)))))
def P_X12_hushOf (v1 : Int) (v2 : Int) (s : Sto) (Q : Int → Sto → Prop) : Prop := (P_X12_isSpared v1 0 s (fun r2 s1 => ((r2 = 0 → (∃ n16, L_X12_hushOf_22 v1 v2 (fun x4 s5 => ((v2 = (-1) → Q 1 s5) ∧ (¬ v2 = (-1) → ((v2 = 0 → Q x4 s5) ∧ (¬ v2 = 0 → Q ((-1)) s5))))) (fun s8 => (∃ n15, L_X12_hushOf_68 v1 v2 (fun x9 x10 s11 => ((v2 = (-1) → Q 2 s11) ∧ (¬ v2 = (-1) → ((v2 = 0 → Q x9 s11) ∧ (¬ v2 = 0 → Q x10 s11))))) (fun s14 => Q ((-1)) s14) n15 0 s8)) n16 0 s1)) ∧ (¬ r2 = 0 → ((v2 = (-1) → Q 0 s1) ∧ (¬ v2 = (-1) → Q ((-1)) s1))))))
set_option maxRecDepth 100000 in
theorem C_X12_hushOf {v1 : Int} {v2 : Int} {s : Sto} {Q : Int → Sto → Prop}  (h : P_X12_hushOf v1 v2 s Q) : sr_C yX12_hushOf cX12_hushOf 5 (some .int) 6 [vR 69, vI v1, vI v2] s Q := by
  refine sr_C.of (by decide +kernel) (Nat.le_of_ble_eq_true rfl) ?_
  show sr_G RX12 cX12_hushOf 5 (some .int) 6 0 [(0, vR 69), (1, vI v1), (2, vI v2)] [] s Q
  unfold P_X12_hushOf at h
  refine g_aload_n (pc' := 1) dX12_hushOf_0 rfl rfl ?_
  refine g_iload_n (pc' := 2) dX12_hushOf_1 rfl rfl ?_
  refine g_iconst (pc' := 3) (by unfold r32; decide) dX12_hushOf_2 rfl ?_
  refine g_V2z (pc' := 6) dX12_hushOf_3 rfl mv_RX12_275 kd_69 (by decide) (Nat.le_of_ble_eq_true rfl) (C_X12_isSpared h) (fun r2 s1 h => ?_)
  refine g_if_eq (pc' := 9) (tgt := 20) dX12_hushOf_6 rfl rfl (fun c3 => ?_) (fun c3 => ?_)
  · have h := h.1 c3
    refine g_iconst (pc' := 21) (by unfold r32; decide) dX12_hushOf_20 rfl ?_
    refine g_istore_n (pc' := 22) dX12_hushOf_21 rfl (by decide) ?_
    obtain ⟨n16, h⟩ := h
    refine (SL_X12_hushOf_22  (fun x4 s5 h => ?_) (fun s8 h => ?_) n16 _ _ h).to ((sb_c rfl (sb_c rfl (sb_c rfl (sb_c rfl sb_n)))))
    · refine g_iload_n (pc' := 42) dX12_hushOf_41 rfl rfl ?_
      refine g_iconst (pc' := 43) (by unfold r32; decide) dX12_hushOf_42 rfl ?_
      refine g_ic_ne (pc' := 46) (tgt := 50) dX12_hushOf_43 rfl rfl (fun c6 => ?_) (fun c6 => ?_)
      · have h := h.2 c6
        refine g_iload_n (pc' := 51) dX12_hushOf_50 rfl rfl ?_
        refine g_if_ne (pc' := 54) (tgt := 58) dX12_hushOf_51 rfl rfl (fun c7 => ?_) (fun c7 => ?_)
        · have h := h.2 c7
          refine g_iconst (pc' := 59) (by unfold r32; decide) dX12_hushOf_58 rfl ?_
          exact g_iret dX12_hushOf_59 rfl h
        · have h := h.1 c7
          refine g_iload_n (pc' := 55) dX12_hushOf_54 rfl rfl ?_
          refine g_goto (pc' := 59) dX12_hushOf_55 rfl ?_
          exact g_iret dX12_hushOf_59 rfl h
      · have h := h.1 c6
        refine g_iconst (pc' := 47) (by unfold r32; decide) dX12_hushOf_46 rfl ?_
        refine g_goto (pc' := 59) dX12_hushOf_47 rfl ?_
        exact g_iret dX12_hushOf_59 rfl h
    · refine g_iconst (pc' := 67) (by unfold r32; decide) dX12_hushOf_66 rfl ?_
      refine g_istore_n (pc' := 68) dX12_hushOf_67 rfl (by decide) ?_
      obtain ⟨n15, h⟩ := h
      refine (SL_X12_hushOf_68  (fun x9 x10 s11 h => ?_) (fun s14 h => ?_) n15 _ _ h).to ((sb_c rfl (sb_c rfl (sb_c rfl (sb_c rfl sb_n)))))
      · refine g_iload_n (pc' := 107) dX12_hushOf_106 rfl rfl ?_
        refine g_iconst (pc' := 108) (by unfold r32; decide) dX12_hushOf_107 rfl ?_
        refine g_ic_ne (pc' := 111) (tgt := 115) dX12_hushOf_108 rfl rfl (fun c12 => ?_) (fun c12 => ?_)
        · have h := h.2 c12
          refine g_iload_n (pc' := 116) dX12_hushOf_115 rfl rfl ?_
          refine g_if_ne (pc' := 119) (tgt := 123) dX12_hushOf_116 rfl rfl (fun c13 => ?_) (fun c13 => ?_)
          · have h := h.2 c13
            refine g_iload (pc' := 125) dX12_hushOf_123 rfl rfl ?_
            exact g_iret dX12_hushOf_125 rfl h
          · have h := h.1 c13
            refine g_iload_n (pc' := 120) dX12_hushOf_119 rfl rfl ?_
            refine g_goto (pc' := 125) dX12_hushOf_120 rfl ?_
            exact g_iret dX12_hushOf_125 rfl h
        · have h := h.1 c12
          refine g_iconst (pc' := 112) (by unfold r32; decide) dX12_hushOf_111 rfl ?_
          refine g_goto (pc' := 125) dX12_hushOf_112 rfl ?_
          exact g_iret dX12_hushOf_125 rfl h
      · refine g_iconst (pc' := 139) (by unfold r32; decide) dX12_hushOf_138 rfl ?_
        exact g_iret dX12_hushOf_139 rfl h
  · have h := h.2 c3
    refine g_iload_n (pc' := 10) dX12_hushOf_9 rfl rfl ?_
    refine g_iconst (pc' := 11) (by unfold r32; decide) dX12_hushOf_10 rfl ?_
    refine g_ic_ne (pc' := 14) (tgt := 18) dX12_hushOf_11 rfl rfl (fun c17 => ?_) (fun c17 => ?_)
    · have h := h.2 c17
      refine g_iconst (pc' := 19) (by unfold r32; decide) dX12_hushOf_18 rfl ?_
      exact g_iret dX12_hushOf_19 rfl h
    · have h := h.1 c17
      refine g_iconst (pc' := 15) (by unfold r32; decide) dX12_hushOf_14 rfl ?_
      refine g_goto (pc' := 19) dX12_hushOf_15 rfl ?_
      exact g_iret dX12_hushOf_19 rfl h
def P_X12_hush (v1 : Int) (v2 : Int) (s : Sto) (Q : Int → Sto → Prop) : Prop := (P_X12_find s (fun _ s1 => ((F_X12_isThing v1 s1 = 0 → Q ((-2)) s1) ∧ (¬ F_X12_isThing v1 s1 = 0 → ((F_X12_in v2 ((-1)) 1 s1 = 0 → Q ((-2)) s1) ∧ (¬ F_X12_in v2 ((-1)) 1 s1 = 0 → (P_X12_hushOf v1 v2 s1 (fun r8 s7 => Q r8 s7))))))))
set_option maxRecDepth 100000 in
theorem C_X12_hush {v1 : Int} {v2 : Int} {s : Sto} {Q : Int → Sto → Prop}  (h : P_X12_hush v1 v2 s Q) : sr_C yX12_hush cX12_hush 3 (some .int) 7 [vR 69, vI v1, vI v2] s Q := by
  refine sr_C.of (by decide +kernel) (Nat.le_of_ble_eq_true rfl) ?_
  show sr_G RX12 cX12_hush 3 (some .int) 7 0 [(0, vR 69), (1, vI v1), (2, vI v2)] [] s Q
  unfold P_X12_hush at h
  refine g_aload_n (pc' := 1) dX12_hush_0 rfl rfl ?_
  refine g_V0v (pc' := 4) dX12_hush_1 rfl mv_RX12_230 kd_69 (by decide) (Nat.le_of_ble_eq_true rfl) (C_X12_find h) (fun s1 h => ?_)
  refine g_aload_n (pc' := 5) dX12_hush_4 rfl rfl ?_
  refine g_iload_n (pc' := 6) dX12_hush_5 rfl rfl ?_
  refine g_V1z (pc' := 9) dX12_hush_6 rfl mv_RX12_152 kd_69 (by decide) (Nat.le_of_ble_eq_true rfl) C_X12_isThing (sr_purb (fun hb3 => ?_))
  refine g_if_eq (pc' := 12) (tgt := 33) dX12_hush_9 rfl rfl (fun c4 => ?_) (fun c4 => ?_)
  · have h := h.1 c4
    refine g_bipush (pc' := 35) ⟨by unfold r32; decide, rfl⟩ dX12_hush_33 rfl ?_
    exact g_iret dX12_hush_35 rfl h
  · have h := h.2 c4
    refine g_iload_n (pc' := 13) dX12_hush_12 rfl rfl ?_
    refine g_i2l (pc' := 14) dX12_hush_13 rfl ?_
    refine g_ldc2 (pc' := 17) (z := (-1)) (by unfold r64; decide) kc_RX12_278 dX12_hush_14 rfl ?_
    refine g_lconst (pc' := 18) (z := 1) ⟨by unfold r64; decide, rfl⟩ dX12_hush_17 rfl ?_
    refine g_S3z (pc' := 21) dX12_hush_18 rfl ms_RX12_76 (by decide) (Nat.le_of_ble_eq_true rfl) C_X12_in (sr_purb (fun hb5 => ?_))
    refine g_if_eq (pc' := 24) (tgt := 33) dX12_hush_21 rfl rfl (fun c6 => ?_) (fun c6 => ?_)
    · have h := h.1 c6
      refine g_bipush (pc' := 35) ⟨by unfold r32; decide, rfl⟩ dX12_hush_33 rfl ?_
      exact g_iret dX12_hush_35 rfl h
    · have h := h.2 c6
      refine g_aload_n (pc' := 25) dX12_hush_24 rfl rfl ?_
      refine g_iload_n (pc' := 26) dX12_hush_25 rfl rfl ?_
      refine g_iload_n (pc' := 27) dX12_hush_26 rfl rfl ?_
      refine g_V2i (pc' := 30) dX12_hush_27 rfl mv_RX12_280 kd_69 (by decide) (Nat.le_of_ble_eq_true rfl) (C_X12_hushOf h) (fun r8 s7 h => ?_)
      refine g_goto (pc' := 35) dX12_hush_30 rfl ?_
      exact g_iret dX12_hush_35 rfl h
def L_X12_calmBy_7 (v1 : Int) (K58 : Int → Int → Sto → Prop) : Nat → Int → Int → Int → Sto → Prop
  | 0, _, _, _, _ => False
  | n + 1, v2, v3, v4, s => ((20 ≤ v4 → K58 v2 v3 s) ∧ (¬ 20 ≤ v4 → (∀ s2 : Sto, s2 = up s 69 26 (iShl 1 v4) → (P_X12_lives s2 (fun _ s3 => (P_X12_allBound s3 (fun r6 s5 => (∀ x7 : Int, x7 = (if r6 ≤ v3 then v2 else v4) → (∀ x9 : Int, x9 = F_X12_greater r6 v3 s5 → L_X12_calmBy_7 v1 K58 n x7 x9 (w32 (v4 + 1)) s5)))))))))
set_option maxRecDepth 100000 in
theorem SL_X12_calmBy_7 {v1 : Int} {K58 : Int → Int → Sto → Prop} {Q : Int → Sto → Prop}  (hK58 : ∀ v2 v3 s, K58 v2 v3 s → sr_G RX12 cX12_calmBy 6 (some .int) 5 58 [(0, vR 69), (1, vI v1), (2, vI v2), (3, vI v3)] [] s Q) : ∀ n v2 v3 v4 s, L_X12_calmBy_7 v1 K58 n v2 v3 v4 s → sr_G RX12 cX12_calmBy 6 (some .int) 5 7 [(0, vR 69), (1, vI v1), (2, vI v2), (3, vI v3), (4, vI v4)] [] s Q := by
  intro n
  induction n with
  | zero => intro v2 v3 v4 s h; exact h.elim
  | succ n ih =>
    intro v2 v3 v4 s h
    unfold L_X12_calmBy_7 at h
    refine g_iload (pc' := 9) dX12_calmBy_7 rfl rfl ?_
    refine g_bipush (pc' := 11) ⟨by unfold r32; decide, rfl⟩ dX12_calmBy_9 rfl ?_
    refine g_ic_ge (pc' := 14) (tgt := 58) dX12_calmBy_11 rfl rfl (fun c1 => ?_) (fun c1 => ?_)
    · have h := h.1 c1
      exact (hK58 _ _ _ h).to ((sb_c rfl (sb_c rfl (sb_c rfl (sb_c rfl sb_n)))))
    · have h := h.2 c1
      refine g_aload_n (pc' := 15) dX12_calmBy_14 rfl rfl ?_
      refine g_iconst (pc' := 16) (by unfold r32; decide) dX12_calmBy_15 rfl ?_
      refine g_iload (pc' := 18) dX12_calmBy_16 rfl rfl ?_
      refine g_ishl (pc' := 19) dX12_calmBy_18 rfl ?_
      refine g_putI (pc' := 22) dX12_calmBy_19 rfl fp_RX12_183 kd_69 rfl ?_
      refine g_sto (fun s2 es2 => ?_)
      have h := h s2 es2
      refine g_aload_n (pc' := 23) dX12_calmBy_22 rfl rfl ?_
      refine g_V0v (pc' := 26) dX12_calmBy_23 rfl mv_RX12_227 kd_69 (by decide) (Nat.le_of_ble_eq_true rfl) (C_X12_lives h) (fun s3 h => ?_)
      refine g_aload_n (pc' := 27) dX12_calmBy_26 rfl rfl ?_
      refine g_V0i (pc' := 30) dX12_calmBy_27 rfl mv_RX12_266 kd_69 (by decide) (Nat.le_of_ble_eq_true rfl) (C_X12_allBound h) (fun r6 s5 h => ?_)
      refine g_istore (pc' := 32) dX12_calmBy_30 rfl (by decide) ?_
      refine g_iload (pc' := 34) dX12_calmBy_32 rfl rfl ?_
      refine g_iload_n (pc' := 35) dX12_calmBy_34 rfl rfl ?_
      refine sr_join (v := (if r6 ≤ v3 then v2 else v4)) (GG := fun x7 => sr_G RX12 cX12_calmBy 6 (some .int) 5 44 [(0, vR 69), (1, vI v1), (3, vI v3), (4, vI v4), (5, vI r6)] [vI x7] s5 Q) (fun x7 ex7 => ?_) (fun hj => ?_)
      · have h := h x7 ex7
        refine g_istore_n (pc' := 45) dX12_calmBy_44 rfl (by decide) ?_
        refine g_iload (pc' := 47) dX12_calmBy_45 rfl rfl ?_
        refine g_iload_n (pc' := 48) dX12_calmBy_47 rfl rfl ?_
        refine g_S2i (pc' := 51) dX12_calmBy_48 rfl ms_RX12_254 (by decide) (Nat.le_of_ble_eq_true rfl) C_X12_greater (sr_pur ?_)
        refine g_topI (fun x9 ex9 => ?_)
        have h := h x9 ex9
        refine g_istore_n (pc' := 52) dX12_calmBy_51 rfl (by decide) ?_
        refine g_iinc (pc' := 55) dX12_calmBy_52 rfl rfl (by decide) ?_
        refine g_goto (pc' := 7) dX12_calmBy_55 rfl ?_
        exact (ih _ _ _ _ h).to ((sb_c rfl (sb_c rfl (sb_c rfl (sb_c rfl (sb_c rfl sb_n))))))
      · refine g_ic_le (pc' := 38) (tgt := 43) dX12_calmBy_35 rfl rfl (fun c8 => ?_) (fun c8 => ?_)
        · refine g_iload_n (pc' := 44) dX12_calmBy_43 rfl rfl ?_
          exact (hj _ (by rw [if_pos c8])).to ((sb_c rfl (sb_c rfl (sb_c rfl (sb_c rfl (sb_c rfl sb_n))))))
        · refine g_iload (pc' := 40) dX12_calmBy_38 rfl rfl ?_
          refine g_goto (pc' := 44) dX12_calmBy_40 rfl ?_
          exact (hj _ (by rw [if_neg c8])).to ((sb_c rfl (sb_c rfl (sb_c rfl (sb_c rfl (sb_c rfl sb_n))))))
def P_X12_calmBy (v1 : Int) (s : Sto) (Q : Int → Sto → Prop) : Prop := (∃ n6, L_X12_calmBy_7 v1 (fun x1 x2 s3 => (∀ s4 : Sto, s4 = up s3 69 26 0 → ((v1 = 0 → Q x1 s4) ∧ (¬ v1 = 0 → Q x2 s4)))) n6 ((-1)) ((-1)) 0 s)
set_option maxRecDepth 100000 in
theorem C_X12_calmBy {v1 : Int} {s : Sto} {Q : Int → Sto → Prop}  (h : P_X12_calmBy v1 s Q) : sr_C yX12_calmBy cX12_calmBy 6 (some .int) 5 [vR 69, vI v1] s Q := by
  refine sr_C.of (by decide +kernel) (Nat.le_of_ble_eq_true rfl) ?_
  show sr_G RX12 cX12_calmBy 6 (some .int) 5 0 [(0, vR 69), (1, vI v1)] [] s Q
  unfold P_X12_calmBy at h
  refine g_iconst (pc' := 1) (by unfold r32; decide) dX12_calmBy_0 rfl ?_
  refine g_istore_n (pc' := 2) dX12_calmBy_1 rfl (by decide) ?_
  refine g_iconst (pc' := 3) (by unfold r32; decide) dX12_calmBy_2 rfl ?_
  refine g_istore_n (pc' := 4) dX12_calmBy_3 rfl (by decide) ?_
  refine g_iconst (pc' := 5) (by unfold r32; decide) dX12_calmBy_4 rfl ?_
  refine g_istore (pc' := 7) dX12_calmBy_5 rfl (by decide) ?_
  obtain ⟨n6, h⟩ := h
  refine (SL_X12_calmBy_7  (fun x1 x2 s3 h => ?_) n6 _ _ _ _ h).to ((sb_c rfl (sb_c rfl (sb_c rfl (sb_c rfl (sb_c rfl sb_n))))))
  · refine g_aload_n (pc' := 59) dX12_calmBy_58 rfl rfl ?_
    refine g_iconst (pc' := 60) (by unfold r32; decide) dX12_calmBy_59 rfl ?_
    refine g_putI (pc' := 63) dX12_calmBy_60 rfl fp_RX12_183 kd_69 rfl ?_
    refine g_sto (fun s4 es4 => ?_)
    have h := h s4 es4
    refine g_iload_n (pc' := 64) dX12_calmBy_63 rfl rfl ?_
    refine g_if_ne (pc' := 67) (tgt := 71) dX12_calmBy_64 rfl rfl (fun c5 => ?_) (fun c5 => ?_)
    · have h := h.2 c5
      refine g_iload_n (pc' := 72) dX12_calmBy_71 rfl rfl ?_
      exact g_iret dX12_calmBy_72 rfl h
    · have h := h.1 c5
      refine g_iload_n (pc' := 68) dX12_calmBy_67 rfl rfl ?_
      refine g_goto (pc' := 72) dX12_calmBy_68 rfl ?_
      exact g_iret dX12_calmBy_72 rfl h
def P_X12_calm (v1 : Int) (s : Sto) (Q : Int → Sto → Prop) : Prop := (P_X12_find s (fun _ s1 => ((F_X12_isTwo v1 s1 = 0 → Q ((-2)) s1) ∧ (¬ F_X12_isTwo v1 s1 = 0 → (P_X12_calmBy v1 s1 (fun r6 s5 => Q r6 s5))))))
set_option maxRecDepth 100000 in
theorem C_X12_calm {v1 : Int} {s : Sto} {Q : Int → Sto → Prop}  (h : P_X12_calm v1 s Q) : sr_C yX12_calm cX12_calm 2 (some .int) 6 [vR 69, vI v1] s Q := by
  refine sr_C.of (by decide +kernel) (Nat.le_of_ble_eq_true rfl) ?_
  show sr_G RX12 cX12_calm 2 (some .int) 6 0 [(0, vR 69), (1, vI v1)] [] s Q
  unfold P_X12_calm at h
  refine g_aload_n (pc' := 1) dX12_calm_0 rfl rfl ?_
  refine g_V0v (pc' := 4) dX12_calm_1 rfl mv_RX12_230 kd_69 (by decide) (Nat.le_of_ble_eq_true rfl) (C_X12_find h) (fun s1 h => ?_)
  refine g_iload_n (pc' := 5) dX12_calm_4 rfl rfl ?_
  refine g_S1z (pc' := 8) dX12_calm_5 rfl ms_RX12_242 (by decide) (Nat.le_of_ble_eq_true rfl) C_X12_isTwo (sr_purb (fun hb3 => ?_))
  refine g_if_eq (pc' := 11) (tgt := 19) dX12_calm_8 rfl rfl (fun c4 => ?_) (fun c4 => ?_)
  · have h := h.1 c4
    refine g_bipush (pc' := 21) ⟨by unfold r32; decide, rfl⟩ dX12_calm_19 rfl ?_
    exact g_iret dX12_calm_21 rfl h
  · have h := h.2 c4
    refine g_aload_n (pc' := 12) dX12_calm_11 rfl rfl ?_
    refine g_iload_n (pc' := 13) dX12_calm_12 rfl rfl ?_
    refine g_V1i (pc' := 16) dX12_calm_13 rfl mv_RX12_283 kd_69 (by decide) (Nat.le_of_ble_eq_true rfl) (C_X12_calmBy h) (fun r6 s5 h => ?_)
    refine g_goto (pc' := 21) dX12_calm_16 rfl ?_
    exact g_iret dX12_calm_21 rfl h
def F_X12_costOf (v1 : Int) (v2 : Int) (s : Sto) : Int := (if F_X12_whomOf v1 s = v2 then F_X12_upkeep v1 s else 0)
def O_X12_costOf (v1 : Int) (v2 : Int) (s : Sto) : Prop := (O_X12_whomOf v1 s ∧ ((F_X12_whomOf v1 s = v2 → (O_X12_upkeep v1 s ∧ True)) ∧ (¬ F_X12_whomOf v1 s = v2 → True)))
set_option maxRecDepth 100000 in
theorem C_X12_costOf {v1 : Int} {v2 : Int} {s : Sto}  (h : O_X12_costOf v1 v2 s) : sr_C yX12_costOf cX12_costOf 3 (some .int) 1 [vR 69, vI v1, vI v2] s (fun r s' => r = F_X12_costOf v1 v2 s ∧ s' = s) := by
  refine sr_C.of (by decide +kernel) (Nat.le_of_ble_eq_true rfl) ?_
  show sr_G RX12 cX12_costOf 3 (some .int) 1 0 [(0, vR 69), (1, vI v1), (2, vI v2)] [] s (fun r s' => r = F_X12_costOf v1 v2 s ∧ s' = s)
  unfold O_X12_costOf at h
  refine g_aload_n (pc' := 1) dX12_costOf_0 rfl rfl ?_
  refine g_iload_n (pc' := 2) dX12_costOf_1 rfl rfl ?_
  obtain ⟨ob1, h⟩ := h
  refine g_V1i (pc' := 5) dX12_costOf_2 rfl mv_RX12_233 kd_69 (by decide) (Nat.le_of_ble_eq_true rfl) (C_X12_whomOf ob1) (sr_pur ?_)
  refine g_iload_n (pc' := 6) dX12_costOf_5 rfl rfl ?_
  refine g_ic_ne (pc' := 9) (tgt := 17) dX12_costOf_6 rfl rfl (fun c2 => ?_) (fun c2 => ?_)
  · have h := h.2 c2
    refine g_iconst (pc' := 18) (by unfold r32; decide) dX12_costOf_17 rfl ?_
    exact g_iret dX12_costOf_18 rfl ⟨(by simp only [F_X12_costOf, if_neg c2]), rfl⟩
  · have h := h.1 c2
    refine g_aload_n (pc' := 10) dX12_costOf_9 rfl rfl ?_
    refine g_iload_n (pc' := 11) dX12_costOf_10 rfl rfl ?_
    obtain ⟨ob3, h⟩ := h
    refine g_V1i (pc' := 14) dX12_costOf_11 rfl mv_RX12_239 kd_69 (by decide) (Nat.le_of_ble_eq_true rfl) (C_X12_upkeep ob3) (sr_pur ?_)
    refine g_goto (pc' := 18) dX12_costOf_14 rfl ?_
    exact g_iret dX12_costOf_18 rfl ⟨(by simp only [F_X12_costOf, if_pos c2]), rfl⟩
