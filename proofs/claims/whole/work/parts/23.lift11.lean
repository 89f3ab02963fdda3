def P_X12_evening (v1 : Int) (v2 : Int) (v3 : Int) (s : Sto) (Q : Int → Sto → Prop) : Prop := (P_X12_find s (fun _ s1 => ((F_X12_in v2 1 8 s1 = 0 → Q ((-2)) s1) ∧ (¬ F_X12_in v2 1 8 s1 = 0 → ((F_X12_isTwo v3 s1 = 0 → Q ((-2)) s1) ∧ (¬ F_X12_isTwo v3 s1 = 0 → (P_X12_eveningOf v1 v2 v3 s1 (fun r8 s7 => Q r8 s7))))))))
set_option maxRecDepth 100000 in
theorem C_X12_evening {v1 : Int} {v2 : Int} {v3 : Int} {s : Sto} {Q : Int → Sto → Prop}  (h : P_X12_evening v1 v2 v3 s Q) : sr_C yX12_evening cX12_evening 4 (some .int) 6 [vR 69, vI v1, vI v2, vI v3] s Q := by
  refine sr_C.of (by decide +kernel) (Nat.le_of_ble_eq_true rfl) ?_
  show sr_G RX12 cX12_evening 4 (some .int) 6 0 [(0, vR 69), (1, vI v1), (2, vI v2), (3, vI v3)] [] s Q
  unfold P_X12_evening at h
  refine g_aload_n (pc' := 1) dX12_evening_0 rfl rfl ?_
  refine g_V0v (pc' := 4) dX12_evening_1 rfl mv_RX12_230 kd_69 (by decide) (Nat.le_of_ble_eq_true rfl) (C_X12_find h) (fun s1 h => ?_)
  refine g_iload_n (pc' := 5) dX12_evening_4 rfl rfl ?_
  refine g_i2l (pc' := 6) dX12_evening_5 rfl ?_
  refine g_lconst (pc' := 7) (z := 1) ⟨by unfold r64; decide, rfl⟩ dX12_evening_6 rfl ?_
  refine g_ldc2 (pc' := 10) (z := 8) (by unfold r64; decide) kc_RX12_336 dX12_evening_7 rfl ?_
  refine g_S3z (pc' := 13) dX12_evening_10 rfl ms_RX12_76 (by decide) (Nat.le_of_ble_eq_true rfl) C_X12_in (sr_purb (fun hb3 => ?_))
  refine g_if_eq (pc' := 16) (tgt := 33) dX12_evening_13 rfl rfl (fun c4 => ?_) (fun c4 => ?_)
  · have h := h.1 c4
    refine g_bipush (pc' := 35) ⟨by unfold r32; decide, rfl⟩ dX12_evening_33 rfl ?_
    exact g_iret dX12_evening_35 rfl h
  · have h := h.2 c4
    refine g_iload_n (pc' := 17) dX12_evening_16 rfl rfl ?_
    refine g_S1z (pc' := 20) dX12_evening_17 rfl ms_RX12_242 (by decide) (Nat.le_of_ble_eq_true rfl) C_X12_isTwo (sr_purb (fun hb5 => ?_))
    refine g_if_eq (pc' := 23) (tgt := 33) dX12_evening_20 rfl rfl (fun c6 => ?_) (fun c6 => ?_)
    · have h := h.1 c6
      refine g_bipush (pc' := 35) ⟨by unfold r32; decide, rfl⟩ dX12_evening_33 rfl ?_
      exact g_iret dX12_evening_35 rfl h
    · have h := h.2 c6
      refine g_aload_n (pc' := 24) dX12_evening_23 rfl rfl ?_
      refine g_iload_n (pc' := 25) dX12_evening_24 rfl rfl ?_
      refine g_iload_n (pc' := 26) dX12_evening_25 rfl rfl ?_
      refine g_iload_n (pc' := 27) dX12_evening_26 rfl rfl ?_
      refine g_V3i (pc' := 30) dX12_evening_27 rfl mv_RX12_338 kd_69 (by decide) (Nat.le_of_ble_eq_true rfl) (C_X12_eveningOf h) (fun r8 s7 h => ?_)
      refine g_goto (pc' := 35) dX12_evening_30 rfl ?_
      exact g_iret dX12_evening_35 rfl h
def L_X12_write_52 (v1 : Int) (v2 : Int) (v3 : Int) (K101 : Sto → Prop) : Nat → Int → Sto → Prop
  | 0, _, _ => False
  | n + 1, v4, s => ((v3 ≤ v4 → K101 s) ∧ (¬ v3 ≤ v4 → (inb v2 4 ∧ (inb (w32 ((w32 ((w32 (32 * v4)) + (w32 (4 * v1)))) + 1)) 640 ∧ (inb (w32 ((w32 (60 * v2)) + v4)) 240 ∧ (∀ s5 : Sto, s5 = up s 72 (w32 ((w32 (60 * v2)) + v4)).toNat (F_X12_cut (s 70 v2.toNat) (s 84 (w32 ((w32 ((w32 (32 * v4)) + (w32 (4 * v1)))) + 1)).toNat) s) → L_X12_write_52 v1 v2 v3 K101 n (w32 (v4 + 1)) s5))))))
set_option maxRecDepth 100000 in
theorem SL_X12_write_52 {v1 : Int} {v2 : Int} {v3 : Int} {K101 : Sto → Prop} {Q : Int → Sto → Prop}  (hK101 : ∀ s, K101 s → sr_G RX12 cX12_write 5 (some .int) 6 101 [(3, vI v3)] [] s Q) : ∀ n v4 s, L_X12_write_52 v1 v2 v3 K101 n v4 s → sr_G RX12 cX12_write 5 (some .int) 6 52 [(0, vR 69), (1, vI v1), (2, vI v2), (3, vI v3), (4, vI v4)] [] s Q := by
  intro n
  induction n with
  | zero => intro v4 s h; exact h.elim
  | succ n ih =>
    intro v4 s h
    unfold L_X12_write_52 at h
    refine g_iload (pc' := 54) dX12_write_52 rfl rfl ?_
    refine g_iload_n (pc' := 55) dX12_write_54 rfl rfl ?_
    refine g_ic_ge (pc' := 58) (tgt := 101) dX12_write_55 rfl rfl (fun c1 => ?_) (fun c1 => ?_)
    · have h := h.1 c1
      exact (hK101 _ h).to ((sb_c rfl sb_n))
    · have h := h.2 c1
      refine g_aload_n (pc' := 59) dX12_write_58 rfl rfl ?_
      refine g_getR (pc' := 62) (r := 72) dX12_write_59 rfl fl_RX12_16 kd_69 rfl rf_69_2 ?_
      refine g_bipush (pc' := 64) ⟨by unfold r32; decide, rfl⟩ dX12_write_62 rfl ?_
      refine g_iload_n (pc' := 65) dX12_write_64 rfl rfl ?_
      refine g_imul (pc' := 66) dX12_write_65 rfl ?_
      refine g_iload (pc' := 68) dX12_write_66 rfl rfl ?_
      refine g_iadd (pc' := 69) dX12_write_68 rfl ?_
      refine g_aload_n (pc' := 70) dX12_write_69 rfl rfl ?_
      refine g_getR (pc' := 73) (r := 70) dX12_write_70 rfl fl_RX12_7 kd_69 rfl rf_69_0 ?_
      refine g_iload_n (pc' := 74) dX12_write_73 rfl rfl ?_
      obtain ⟨ob2, h⟩ := h
      refine g_iald (pc' := 75) dX12_write_74 rfl kd_70 ob2 ?_
      refine g_aload_n (pc' := 76) dX12_write_75 rfl rfl ?_
      refine g_getR (pc' := 79) (r := 84) dX12_write_76 rfl fl_RX12_52 kd_69 rfl rf_69_20 ?_
      refine g_bipush (pc' := 81) ⟨by unfold r32; decide, rfl⟩ dX12_write_79 rfl ?_
      refine g_iload (pc' := 83) dX12_write_81 rfl rfl ?_
      refine g_imul (pc' := 84) dX12_write_83 rfl ?_
      refine g_iconst (pc' := 85) (by unfold r32; decide) dX12_write_84 rfl ?_
      refine g_iload_n (pc' := 86) dX12_write_85 rfl rfl ?_
      refine g_imul (pc' := 87) dX12_write_86 rfl ?_
      refine g_iadd (pc' := 88) dX12_write_87 rfl ?_
      refine g_iconst (pc' := 89) (by unfold r32; decide) dX12_write_88 rfl ?_
      refine g_iadd (pc' := 90) dX12_write_89 rfl ?_
      obtain ⟨ob3, h⟩ := h
      refine g_iald (pc' := 91) dX12_write_90 rfl kd_84 ob3 ?_
      refine g_S2i (pc' := 94) dX12_write_91 rfl ms_RX12_99 (by decide) (Nat.le_of_ble_eq_true rfl) C_X12_cut (sr_pur ?_)
      obtain ⟨ob4, h⟩ := h
      refine g_iast (pc' := 95) dX12_write_94 rfl kd_72 ob4 ?_
      refine g_sto (fun s5 es5 => ?_)
      have h := h s5 es5
      refine g_iinc (pc' := 98) dX12_write_95 rfl rfl (by decide) ?_
      refine g_goto (pc' := 52) dX12_write_98 rfl ?_
      exact (ih _ _ h).to ((sb_c rfl (sb_c rfl (sb_c rfl (sb_c rfl (sb_c rfl sb_n))))))
def P_X12_write (v1 : Int) (v2 : Int) (s : Sto) (Q : Int → Sto → Prop) : Prop := ((F_X12_isRing v1 s = 0 → Q ((-2)) s) ∧ (¬ F_X12_isRing v1 s = 0 → ((F_X12_isSheet v2 s = 0 → Q ((-2)) s) ∧ (¬ F_X12_isSheet v2 s = 0 → (inb v2 4 ∧ ((0 ≤ s 70 v2.toNat → (P_X12_find s (fun _ s7 => (inb v2 4 ∧ (∀ x10 : Int, x10 = F_X12_lesser (s7 71 v2.toNat) 20 s7 → (∃ n12, L_X12_write_52 v1 v2 x10 (fun s11 => Q x10 s11) n12 0 s7)))))) ∧ (¬ 0 ≤ s 70 v2.toNat → (∀ s13 : Sto, s13 = S_X12_finds 1 s → Q (F_X12_finds 1 s) s13))))))))
set_option maxRecDepth 100000 in
theorem C_X12_write {v1 : Int} {v2 : Int} {s : Sto} {Q : Int → Sto → Prop}  (h : P_X12_write v1 v2 s Q) : sr_C yX12_write cX12_write 5 (some .int) 6 [vR 69, vI v1, vI v2] s Q := by
  refine sr_C.of (by decide +kernel) (Nat.le_of_ble_eq_true rfl) ?_
  show sr_G RX12 cX12_write 5 (some .int) 6 0 [(0, vR 69), (1, vI v1), (2, vI v2)] [] s Q
  unfold P_X12_write at h
  refine g_aload_n (pc' := 1) dX12_write_0 rfl rfl ?_
  refine g_iload_n (pc' := 2) dX12_write_1 rfl rfl ?_
  refine g_V1z (pc' := 5) dX12_write_2 rfl mv_RX12_169 kd_69 (by decide) (Nat.le_of_ble_eq_true rfl) C_X12_isRing (sr_purb (fun hb1 => ?_))
  refine g_if_eq (pc' := 8) (tgt := 15) dX12_write_5 rfl rfl (fun c2 => ?_) (fun c2 => ?_)
  · have h := h.1 c2
    refine g_bipush (pc' := 17) ⟨by unfold r32; decide, rfl⟩ dX12_write_15 rfl ?_
    exact g_iret dX12_write_17 rfl h
  · have h := h.2 c2
    refine g_iload_n (pc' := 9) dX12_write_8 rfl rfl ?_
    refine g_S1z (pc' := 12) dX12_write_9 rfl ms_RX12_85 (by decide) (Nat.le_of_ble_eq_true rfl) C_X12_isSheet (sr_purb (fun hb3 => ?_))
    refine g_if_ne (pc' := 15) (tgt := 18) dX12_write_12 rfl rfl (fun c4 => ?_) (fun c4 => ?_)
    · have h := h.2 c4
      refine g_aload_n (pc' := 19) dX12_write_18 rfl rfl ?_
      refine g_getR (pc' := 22) (r := 70) dX12_write_19 rfl fl_RX12_7 kd_69 rfl rf_69_0 ?_
      refine g_iload_n (pc' := 23) dX12_write_22 rfl rfl ?_
      obtain ⟨ob5, h⟩ := h
      refine g_iald (pc' := 24) dX12_write_23 rfl kd_70 ob5 ?_
      refine g_if_ge (pc' := 27) (tgt := 33) dX12_write_24 rfl rfl (fun c6 => ?_) (fun c6 => ?_)
      · have h := h.1 c6
        refine g_aload_n (pc' := 34) dX12_write_33 rfl rfl ?_
        refine g_V0v (pc' := 37) dX12_write_34 rfl mv_RX12_230 kd_69 (by decide) (Nat.le_of_ble_eq_true rfl) (C_X12_find h) (fun s7 h => ?_)
        refine g_aload_n (pc' := 38) dX12_write_37 rfl rfl ?_
        refine g_getR (pc' := 41) (r := 71) dX12_write_38 rfl fl_RX12_13 kd_69 rfl rf_69_1 ?_
        refine g_iload_n (pc' := 42) dX12_write_41 rfl rfl ?_
        obtain ⟨ob9, h⟩ := h
        refine g_iald (pc' := 43) dX12_write_42 rfl kd_71 ob9 ?_
        refine g_bipush (pc' := 45) ⟨by unfold r32; decide, rfl⟩ dX12_write_43 rfl ?_
        refine g_S2i (pc' := 48) dX12_write_45 rfl ms_RX12_341 (by decide) (Nat.le_of_ble_eq_true rfl) C_X12_lesser (sr_pur ?_)
        refine g_topI (fun x10 ex10 => ?_)
        have h := h x10 ex10
        refine g_istore_n (pc' := 49) dX12_write_48 rfl (by decide) ?_
        refine g_iconst (pc' := 50) (by unfold r32; decide) dX12_write_49 rfl ?_
        refine g_istore (pc' := 52) dX12_write_50 rfl (by decide) ?_
        obtain ⟨n12, h⟩ := h
        refine (SL_X12_write_52  (fun s11 h => ?_) n12 _ _ h).to ((sb_c rfl (sb_c rfl (sb_c rfl (sb_c rfl (sb_c rfl sb_n))))))
        · refine g_iload_n (pc' := 102) dX12_write_101 rfl rfl ?_
          exact g_iret dX12_write_102 rfl h
      · have h := h.2 c6
        refine g_aload_n (pc' := 28) dX12_write_27 rfl rfl ?_
        refine g_iconst (pc' := 29) (by unfold r32; decide) dX12_write_28 rfl ?_
        refine g_V1i (pc' := 32) dX12_write_29 rfl mv_RX12_91 kd_69 (by decide) (Nat.le_of_ble_eq_true rfl) C_X12_finds (sr_pur ?_)
        refine g_sto (fun s13 es13 => ?_)
        have h := h s13 es13
        exact g_iret dX12_write_32 rfl h
    · have h := h.1 c4
      refine g_bipush (pc' := 17) ⟨by unfold r32; decide, rfl⟩ dX12_write_15 rfl ?_
      exact g_iret dX12_write_17 rfl h
def P_X12_count (v1 : Int) (s : Sto) (Q : Int → Sto → Prop) : Prop := (P_X12_find s (fun _ s1 => ((v1 = 0 → Q (s1 69 7) s1) ∧ (¬ v1 = 0 → ((v1 = 1 → Q (s1 69 10) s1) ∧ (¬ v1 = 1 → ((v1 = 2 → (inb (w32 (v1 - 2)) 3 ∧ Q (s1 75 (w32 (v1 - 2)).toNat) s1)) ∧ (¬ v1 = 2 → ((v1 = 3 → (inb (w32 (v1 - 2)) 3 ∧ Q (s1 75 (w32 (v1 - 2)).toNat) s1)) ∧ (¬ v1 = 3 → ((v1 = 4 → (inb (w32 (v1 - 2)) 3 ∧ Q (s1 75 (w32 (v1 - 2)).toNat) s1)) ∧ (¬ v1 = 4 → ((v1 = 5 → Q (s1 69 14) s1) ∧ (¬ v1 = 5 → ((v1 = 6 → (P_X12_allBound s1 (fun r14 s13 => Q r14 s13))) ∧ (¬ v1 = 6 → ((v1 = 7 → Q (s1 69 27) s1) ∧ (¬ v1 = 7 → ((v1 = 8 → Q (s1 69 4) s1) ∧ (¬ v1 = 8 → Q ((-2)) s1))))))))))))))))))))
set_option maxRecDepth 100000 in
theorem C_X12_count {v1 : Int} {s : Sto} {Q : Int → Sto → Prop}  (h : P_X12_count v1 s Q) : sr_C yX12_count cX12_count 2 (some .int) 6 [vR 69, vI v1] s Q := by
  refine sr_C.of (by decide +kernel) (Nat.le_of_ble_eq_true rfl) ?_
  show sr_G RX12 cX12_count 2 (some .int) 6 0 [(0, vR 69), (1, vI v1)] [] s Q
  unfold P_X12_count at h
  refine g_aload_n (pc' := 1) dX12_count_0 rfl rfl ?_
  refine g_V0v (pc' := 4) dX12_count_1 rfl mv_RX12_230 kd_69 (by decide) (Nat.le_of_ble_eq_true rfl) (C_X12_find h) (fun s1 h => ?_)
  refine g_iload_n (pc' := 5) dX12_count_4 rfl rfl ?_
  by_cases c3 : v1 = 0
  · have h := h.1 c3
    refine g_tabIn (pc' := 56) dX12_count_5 (le_of_le_of_eq (by decide) c3.symm) (le_of_eq_of_le c3 (by decide)) (by rw [c3]; rfl) rfl ?_
    refine g_aload_n (pc' := 57) dX12_count_56 rfl rfl ?_
    refine g_getI (pc' := 60) dX12_count_57 rfl fl_RX12_109 kd_69 (Or.inl rfl) ?_
    exact g_iret dX12_count_60 rfl h
  · have h := h.2 c3
    by_cases c4 : v1 = 1
    · have h := h.1 c4
      refine g_tabIn (pc' := 61) dX12_count_5 (le_of_le_of_eq (by decide) c4.symm) (le_of_eq_of_le c4 (by decide)) (by rw [c4]; rfl) rfl ?_
      refine g_aload_n (pc' := 62) dX12_count_61 rfl rfl ?_
      refine g_getI (pc' := 65) dX12_count_62 rfl fl_RX12_126 kd_69 (Or.inl rfl) ?_
      exact g_iret dX12_count_65 rfl h
    · have h := h.2 c4
      by_cases c5 : v1 = 2
      · have h := h.1 c5
        refine g_tabIn (pc' := 66) dX12_count_5 (le_of_le_of_eq (by decide) c5.symm) (le_of_eq_of_le c5 (by decide)) (by rw [c5]; rfl) rfl ?_
        refine g_aload_n (pc' := 67) dX12_count_66 rfl rfl ?_
        refine g_getR (pc' := 70) (r := 75) dX12_count_67 rfl fl_RX12_25 kd_69 rfl rf_69_6 ?_
        refine g_iload_n (pc' := 71) dX12_count_70 rfl rfl ?_
        refine g_iconst (pc' := 72) (by unfold r32; decide) dX12_count_71 rfl ?_
        refine g_isub (pc' := 73) dX12_count_72 rfl ?_
        obtain ⟨ob6, h⟩ := h
        refine g_iald (pc' := 74) dX12_count_73 rfl kd_75 ob6 ?_
        exact g_iret dX12_count_74 rfl h
      · have h := h.2 c5
        by_cases c7 : v1 = 3
        · have h := h.1 c7
          refine g_tabIn (pc' := 66) dX12_count_5 (le_of_le_of_eq (by decide) c7.symm) (le_of_eq_of_le c7 (by decide)) (by rw [c7]; rfl) rfl ?_
          refine g_aload_n (pc' := 67) dX12_count_66 rfl rfl ?_
          refine g_getR (pc' := 70) (r := 75) dX12_count_67 rfl fl_RX12_25 kd_69 rfl rf_69_6 ?_
          refine g_iload_n (pc' := 71) dX12_count_70 rfl rfl ?_
          refine g_iconst (pc' := 72) (by unfold r32; decide) dX12_count_71 rfl ?_
          refine g_isub (pc' := 73) dX12_count_72 rfl ?_
          obtain ⟨ob8, h⟩ := h
          refine g_iald (pc' := 74) dX12_count_73 rfl kd_75 ob8 ?_
          exact g_iret dX12_count_74 rfl h
        · have h := h.2 c7
          by_cases c9 : v1 = 4
          · have h := h.1 c9
            refine g_tabIn (pc' := 66) dX12_count_5 (le_of_le_of_eq (by decide) c9.symm) (le_of_eq_of_le c9 (by decide)) (by rw [c9]; rfl) rfl ?_
            refine g_aload_n (pc' := 67) dX12_count_66 rfl rfl ?_
            refine g_getR (pc' := 70) (r := 75) dX12_count_67 rfl fl_RX12_25 kd_69 rfl rf_69_6 ?_
            refine g_iload_n (pc' := 71) dX12_count_70 rfl rfl ?_
            refine g_iconst (pc' := 72) (by unfold r32; decide) dX12_count_71 rfl ?_
            refine g_isub (pc' := 73) dX12_count_72 rfl ?_
            obtain ⟨ob10, h⟩ := h
            refine g_iald (pc' := 74) dX12_count_73 rfl kd_75 ob10 ?_
            exact g_iret dX12_count_74 rfl h
          · have h := h.2 c9
            by_cases c11 : v1 = 5
            · have h := h.1 c11
              refine g_tabIn (pc' := 75) dX12_count_5 (le_of_le_of_eq (by decide) c11.symm) (le_of_eq_of_le c11 (by decide)) (by rw [c11]; rfl) rfl ?_
              refine g_aload_n (pc' := 76) dX12_count_75 rfl rfl ?_
              refine g_getI (pc' := 79) dX12_count_76 rfl fl_RX12_160 kd_69 (Or.inl rfl) ?_
              exact g_iret dX12_count_79 rfl h
            · have h := h.2 c11
              by_cases c12 : v1 = 6
              · have h := h.1 c12
                refine g_tabIn (pc' := 80) dX12_count_5 (le_of_le_of_eq (by decide) c12.symm) (le_of_eq_of_le c12 (by decide)) (by rw [c12]; rfl) rfl ?_
                refine g_aload_n (pc' := 81) dX12_count_80 rfl rfl ?_
                refine g_V0i (pc' := 84) dX12_count_81 rfl mv_RX12_266 kd_69 (by decide) (Nat.le_of_ble_eq_true rfl) (C_X12_allBound h) (fun r14 s13 h => ?_)
                exact g_iret dX12_count_84 rfl h
              · have h := h.2 c12
                by_cases c15 : v1 = 7
                · have h := h.1 c15
                  refine g_tabIn (pc' := 85) dX12_count_5 (le_of_le_of_eq (by decide) c15.symm) (le_of_eq_of_le c15 (by decide)) (by rw [c15]; rfl) rfl ?_
                  refine g_aload_n (pc' := 86) dX12_count_85 rfl rfl ?_
                  refine g_getI (pc' := 89) dX12_count_86 rfl fl_RX12_296 kd_69 (Or.inl rfl) ?_
                  exact g_iret dX12_count_89 rfl h
                · have h := h.2 c15
                  by_cases c16 : v1 = 8
                  · have h := h.1 c16
                    refine g_tabIn (pc' := 90) dX12_count_5 (le_of_le_of_eq (by decide) c16.symm) (le_of_eq_of_le c16 (by decide)) (by rw [c16]; rfl) rfl ?_
                    refine g_aload_n (pc' := 91) dX12_count_90 rfl rfl ?_
                    refine g_getI (pc' := 94) dX12_count_91 rfl fl_RX12_80 kd_69 (Or.inl rfl) ?_
                    exact g_iret dX12_count_94 rfl h
                  · have h := h.2 c16
                    refine g_tabOut (pc' := 95) dX12_count_5 (tout_0_8 c3 c4 c5 c7 c9 c11 c12 c15 c16) rfl ?_
                    refine g_bipush (pc' := 97) ⟨by unfold r32; decide, rfl⟩ dX12_count_95 rfl ?_
                    exact g_iret dX12_count_97 rfl h
def L_X12_tellsStep_6 (v3 : Int) (v4 : Int) (s : Sto) (K45 : Int → Prop) : Nat → Int → Int → Prop
  | 0, _, _ => False
  | n + 1, v5, v7 => ((4 ≤ v7 → K45 v5) ∧ (¬ 4 ≤ v7 → (inb (w32 ((w32 ((w32 (32 * v4)) + (w32 (4 * v3)))) + v7)) 640 ∧ (∀ x3 : Int, x3 = w64 ((w64 (31 * v5)) + (s 84 (w32 ((w32 ((w32 (32 * v4)) + (w32 (4 * v3)))) + v7)).toNat)) → L_X12_tellsStep_6 v3 v4 s K45 n x3 (w32 (v7 + 1))))))
set_option maxRecDepth 100000 in
theorem SL_X12_tellsStep_6 {v3 : Int} {v4 : Int} {s : Sto} {K45 : Int → Prop} {Q : Int → Sto → Prop}  (hK45 : ∀ v5, K45 v5 → sr_G RX12 cX12_tellsStep 8 (some .long) 0 45 [(5, vL v5)] [] s Q) : ∀ n v5 v7, L_X12_tellsStep_6 v3 v4 s K45 n v5 v7 → sr_G RX12 cX12_tellsStep 8 (some .long) 0 6 [(0, vR 69), (3, vI v3), (4, vI v4), (5, vL v5), (7, vI v7)] [] s Q := by
  intro n
  induction n with
  | zero => intro v5 v7 h; exact h.elim
  | succ n ih =>
    intro v5 v7 h
    unfold L_X12_tellsStep_6 at h
    refine g_iload (pc' := 8) dX12_tellsStep_6 rfl rfl ?_
    refine g_iconst (pc' := 9) (by unfold r32; decide) dX12_tellsStep_8 rfl ?_
    refine g_ic_ge (pc' := 12) (tgt := 45) dX12_tellsStep_9 rfl rfl (fun c1 => ?_) (fun c1 => ?_)
    · have h := h.1 c1
      exact (hK45 _ h).to ((sb_c rfl sb_n))
    · have h := h.2 c1
      refine g_ldc2 (pc' := 15) (z := 31) (by unfold r64; decide) kc_RX12_344 dX12_tellsStep_12 rfl ?_
      refine g_lload (pc' := 17) dX12_tellsStep_15 rfl rfl ?_
      refine g_lmul (pc' := 18) dX12_tellsStep_17 rfl ?_
      refine g_aload_n (pc' := 19) dX12_tellsStep_18 rfl rfl ?_
      refine g_getR (pc' := 22) (r := 84) dX12_tellsStep_19 rfl fl_RX12_52 kd_69 rfl rf_69_20 ?_
      refine g_bipush (pc' := 24) ⟨by unfold r32; decide, rfl⟩ dX12_tellsStep_22 rfl ?_
      refine g_iload (pc' := 26) dX12_tellsStep_24 rfl rfl ?_
      refine g_imul (pc' := 27) dX12_tellsStep_26 rfl ?_
      refine g_iconst (pc' := 28) (by unfold r32; decide) dX12_tellsStep_27 rfl ?_
      refine g_iload_n (pc' := 29) dX12_tellsStep_28 rfl rfl ?_
      refine g_imul (pc' := 30) dX12_tellsStep_29 rfl ?_
      refine g_iadd (pc' := 31) dX12_tellsStep_30 rfl ?_
      refine g_iload (pc' := 33) dX12_tellsStep_31 rfl rfl ?_
      refine g_iadd (pc' := 34) dX12_tellsStep_33 rfl ?_
      obtain ⟨ob2, h⟩ := h
      refine g_iald (pc' := 35) dX12_tellsStep_34 rfl kd_84 ob2 ?_
      refine g_i2l (pc' := 36) dX12_tellsStep_35 rfl ?_
      refine g_ladd (pc' := 37) dX12_tellsStep_36 rfl ?_
      refine g_topL (fun x3 ex3 => ?_)
      have h := h x3 ex3
      refine g_lstore (pc' := 39) dX12_tellsStep_37 rfl (by decide) ?_
      refine g_iinc (pc' := 42) dX12_tellsStep_39 rfl rfl (by decide) ?_
      refine g_goto (pc' := 6) dX12_tellsStep_42 rfl ?_
      exact (ih _ _ h).to ((sb_c rfl (sb_c rfl (sb_c rfl (sb_c rfl (sb_c rfl sb_n))))))
def P_X12_tellsStep (v1 : Int) (v3 : Int) (v4 : Int) (s : Sto) (Q : Int → Sto → Prop) : Prop := (∃ n2, L_X12_tellsStep_6 v3 v4 s (fun x1 => Q x1 s) n2 v1 0)
set_option maxRecDepth 100000 in
theorem C_X12_tellsStep {v1 : Int} {v3 : Int} {v4 : Int} {s : Sto} {Q : Int → Sto → Prop}  (h : P_X12_tellsStep v1 v3 v4 s Q) : sr_C yX12_tellsStep cX12_tellsStep 8 (some .long) 0 [vR 69, vL v1, vI v3, vI v4] s Q := by
  refine sr_C.of (by decide +kernel) (Nat.le_of_ble_eq_true rfl) ?_
  show sr_G RX12 cX12_tellsStep 8 (some .long) 0 0 [(0, vR 69), (1, vL v1), (3, vI v3), (4, vI v4)] [] s Q
  unfold P_X12_tellsStep at h
  refine g_lload_n (pc' := 1) dX12_tellsStep_0 rfl rfl ?_
  refine g_lstore (pc' := 3) dX12_tellsStep_1 rfl (by decide) ?_
  refine g_iconst (pc' := 4) (by unfold r32; decide) dX12_tellsStep_3 rfl ?_
  refine g_istore (pc' := 6) dX12_tellsStep_4 rfl (by decide) ?_
  obtain ⟨n2, h⟩ := h
  refine (SL_X12_tellsStep_6  (fun x1 h => ?_) n2 _ _ h).to ((sb_c rfl (sb_c rfl (sb_c rfl (sb_c rfl (sb_c rfl sb_n))))))
  · refine g_lload (pc' := 47) dX12_tellsStep_45 rfl rfl ?_
    exact g_lret dX12_tellsStep_47 rfl h
def L_X12_tellsRing_10 (v3 : Int) (s : Sto) (K43 : Int → Prop) : Nat → Int → Int → Prop
  | 0, _, _ => False
  | n + 1, v4, v6 => ((5 ≤ v6 → K43 v4) ∧ (¬ 5 ≤ v6 → (inb (w32 ((w32 (5 * v3)) + v6)) 40 ∧ (∀ x3 : Int, x3 = w64 ((w64 (31 * v4)) + (s 79 (w32 ((w32 (5 * v3)) + v6)).toNat)) → L_X12_tellsRing_10 v3 s K43 n x3 (w32 (v6 + 1))))))
set_option maxRecDepth 100000 in
theorem SL_X12_tellsRing_10 {v3 : Int} {s : Sto} {K43 : Int → Prop} {Q : Int → Sto → Prop}  (hK43 : ∀ v4, K43 v4 → sr_G RX12 cX12_tellsRing 7 (some .long) 7 43 [(0, vR 69), (3, vI v3), (4, vL v4)] [] s Q) : ∀ n v4 v6, L_X12_tellsRing_10 v3 s K43 n v4 v6 → sr_G RX12 cX12_tellsRing 7 (some .long) 7 10 [(0, vR 69), (3, vI v3), (4, vL v4), (6, vI v6)] [] s Q := by
  intro n
  induction n with
  | zero => intro v4 v6 h; exact h.elim
  | succ n ih =>
    intro v4 v6 h
    unfold L_X12_tellsRing_10 at h
    refine g_iload (pc' := 12) dX12_tellsRing_10 rfl rfl ?_
    refine g_iconst (pc' := 13) (by unfold r32; decide) dX12_tellsRing_12 rfl ?_
    refine g_ic_ge (pc' := 16) (tgt := 43) dX12_tellsRing_13 rfl rfl (fun c1 => ?_) (fun c1 => ?_)
    · have h := h.1 c1
      exact (hK43 _ h).to ((sb_c rfl (sb_c rfl (sb_c rfl sb_n))))
    · have h := h.2 c1
      refine g_ldc2 (pc' := 19) (z := 31) (by unfold r64; decide) kc_RX12_344 dX12_tellsRing_16 rfl ?_
      refine g_lload (pc' := 21) dX12_tellsRing_19 rfl rfl ?_
      refine g_lmul (pc' := 22) dX12_tellsRing_21 rfl ?_
      refine g_aload_n (pc' := 23) dX12_tellsRing_22 rfl rfl ?_
      refine g_getR (pc' := 26) (r := 79) dX12_tellsRing_23 rfl fl_RX12_37 kd_69 rfl rf_69_15 ?_
      refine g_iconst (pc' := 27) (by unfold r32; decide) dX12_tellsRing_26 rfl ?_
      refine g_iload_n (pc' := 28) dX12_tellsRing_27 rfl rfl ?_
      refine g_imul (pc' := 29) dX12_tellsRing_28 rfl ?_
      refine g_iload (pc' := 31) dX12_tellsRing_29 rfl rfl ?_
      refine g_iadd (pc' := 32) dX12_tellsRing_31 rfl ?_
      obtain ⟨ob2, h⟩ := h
      refine g_iald (pc' := 33) dX12_tellsRing_32 rfl kd_79 ob2 ?_
      refine g_i2l (pc' := 34) dX12_tellsRing_33 rfl ?_
      refine g_ladd (pc' := 35) dX12_tellsRing_34 rfl ?_
      refine g_topL (fun x3 ex3 => ?_)
      have h := h x3 ex3
      refine g_lstore (pc' := 37) dX12_tellsRing_35 rfl (by decide) ?_
      refine g_iinc (pc' := 40) dX12_tellsRing_37 rfl rfl (by decide) ?_
      refine g_goto (pc' := 10) dX12_tellsRing_40 rfl ?_
      exact (ih _ _ h).to ((sb_c rfl (sb_c rfl (sb_c rfl (sb_c rfl sb_n)))))
def L_X12_tellsRing_76 (v3 : Int) (K105 : Int → Sto → Prop) : Nat → Int → Int → Sto → Prop
  | 0, _, _, _ => False
  | n + 1, v4, v6, s => ((3 ≤ v6 → K105 v4 s) ∧ (¬ 3 ≤ v6 → (P_X12_aimOf v3 v6 s (fun r3 s2 => (∀ x4 : Int, x4 = w64 ((w64 (31 * v4)) + r3) → L_X12_tellsRing_76 v3 K105 n x4 (w32 (v6 + 1)) s2)))))
set_option maxRecDepth 100000 in
theorem SL_X12_tellsRing_76 {v3 : Int} {K105 : Int → Sto → Prop} {Q : Int → Sto → Prop}  (hK105 : ∀ v4 s, K105 v4 s → sr_G RX12 cX12_tellsRing 7 (some .long) 7 105 [(0, vR 69), (3, vI v3), (4, vL v4)] [] s Q) : ∀ n v4 v6 s, L_X12_tellsRing_76 v3 K105 n v4 v6 s → sr_G RX12 cX12_tellsRing 7 (some .long) 7 76 [(0, vR 69), (3, vI v3), (4, vL v4), (6, vI v6)] [] s Q := by
  intro n
  induction n with
  | zero => intro v4 v6 s h; exact h.elim
  | succ n ih =>
    intro v4 v6 s h
    unfold L_X12_tellsRing_76 at h
    refine g_iload (pc' := 78) dX12_tellsRing_76 rfl rfl ?_
    refine g_iconst (pc' := 79) (by unfold r32; decide) dX12_tellsRing_78 rfl ?_
    refine g_ic_ge (pc' := 82) (tgt := 105) dX12_tellsRing_79 rfl rfl (fun c1 => ?_) (fun c1 => ?_)
    · have h := h.1 c1
      exact (hK105 _ _ h).to ((sb_c rfl (sb_c rfl (sb_c rfl sb_n))))
    · have h := h.2 c1
      refine g_ldc2 (pc' := 85) (z := 31) (by unfold r64; decide) kc_RX12_344 dX12_tellsRing_82 rfl ?_
      refine g_lload (pc' := 87) dX12_tellsRing_85 rfl rfl ?_
      refine g_lmul (pc' := 88) dX12_tellsRing_87 rfl ?_
      refine g_aload_n (pc' := 89) dX12_tellsRing_88 rfl rfl ?_
      refine g_iload_n (pc' := 90) dX12_tellsRing_89 rfl rfl ?_
      refine g_iload (pc' := 92) dX12_tellsRing_90 rfl rfl ?_
      refine g_V2i (pc' := 95) dX12_tellsRing_92 rfl mv_RX12_269 kd_69 (by decide) (Nat.le_of_ble_eq_true rfl) (C_X12_aimOf h) (fun r3 s2 h => ?_)
      refine g_i2l (pc' := 96) dX12_tellsRing_95 rfl ?_
      refine g_ladd (pc' := 97) dX12_tellsRing_96 rfl ?_
      refine g_topL (fun x4 ex4 => ?_)
      have h := h x4 ex4
      refine g_lstore (pc' := 99) dX12_tellsRing_97 rfl (by decide) ?_
      refine g_iinc (pc' := 102) dX12_tellsRing_99 rfl rfl (by decide) ?_
      refine g_goto (pc' := 76) dX12_tellsRing_102 rfl ?_
      exact (ih _ _ _ h).to ((sb_c rfl (sb_c rfl (sb_c rfl (sb_c rfl sb_n)))))
def P_X12_tellsRing (v1 : Int) (v3 : Int) (s : Sto) (Q : Int → Sto → Prop) : Prop := (P_X12_lives s (fun _ s1 => (∃ n30, L_X12_tellsRing_10 v3 s1 (fun x3 => (P_X12_tellsStep x3 v3 0 s1 (fun r5 s4 => (P_X12_tellsStep r5 v3 4 s4 (fun r7 s6 => (P_X12_tellsStep r7 v3 9 s6 (fun r9 s8 => (P_X12_tellsStep r9 v3 19 s8 (fun r11 s10 => (∃ n29, L_X12_tellsRing_76 v3 (fun x12 s13 => ((s13 69 10 ≤ 0 → (∀ x15 : Int, x15 = w64 ((w64 (31 * x12)) + ((-2))) → (P_X12_whenceOf v3 ((-1)) s13 (fun r17 s16 => (∀ x18 : Int, x18 = w64 ((w64 (31 * x15)) + r17) → (P_X12_whenceOf v3 0 s16 (fun r20 s19 => Q (w64 ((w64 (31 * x18)) + r20)) s19))))))) ∧ (¬ s13 69 10 ≤ 0 → (P_X12_breathOf v3 0 s13 (fun r22 s21 => (∀ x23 : Int, x23 = w64 ((w64 (31 * x12)) + r22) → (P_X12_whenceOf v3 ((-1)) s21 (fun r25 s24 => (∀ x26 : Int, x26 = w64 ((w64 (31 * x23)) + r25) → (P_X12_whenceOf v3 0 s24 (fun r28 s27 => Q (w64 ((w64 (31 * x26)) + r28)) s27))))))))))) n29 r11 0 s10)))))))))) n30 v1 0)))
set_option maxRecDepth 100000 in
theorem C_X12_tellsRing {v1 : Int} {v3 : Int} {s : Sto} {Q : Int → Sto → Prop}  (h : P_X12_tellsRing v1 v3 s Q) : sr_C yX12_tellsRing cX12_tellsRing 7 (some .long) 7 [vR 69, vL v1, vI v3] s Q := by
  refine sr_C.of (by decide +kernel) (Nat.le_of_ble_eq_true rfl) ?_
  show sr_G RX12 cX12_tellsRing 7 (some .long) 7 0 [(0, vR 69), (1, vL v1), (3, vI v3)] [] s Q
  unfold P_X12_tellsRing at h
  refine g_aload_n (pc' := 1) dX12_tellsRing_0 rfl rfl ?_
  refine g_V0v (pc' := 4) dX12_tellsRing_1 rfl mv_RX12_227 kd_69 (by decide) (Nat.le_of_ble_eq_true rfl) (C_X12_lives h) (fun s1 h => ?_)
  refine g_lload_n (pc' := 5) dX12_tellsRing_4 rfl rfl ?_
  refine g_lstore (pc' := 7) dX12_tellsRing_5 rfl (by decide) ?_
  refine g_iconst (pc' := 8) (by unfold r32; decide) dX12_tellsRing_7 rfl ?_
  refine g_istore (pc' := 10) dX12_tellsRing_8 rfl (by decide) ?_
  obtain ⟨n30, h⟩ := h
  refine (SL_X12_tellsRing_10  (fun x3 h => ?_) n30 _ _ h).to ((sb_c rfl (sb_c rfl (sb_c rfl (sb_c rfl sb_n)))))
  · refine g_aload_n (pc' := 44) dX12_tellsRing_43 rfl rfl ?_
    refine g_aload_n (pc' := 45) dX12_tellsRing_44 rfl rfl ?_
    refine g_aload_n (pc' := 46) dX12_tellsRing_45 rfl rfl ?_
    refine g_aload_n (pc' := 47) dX12_tellsRing_46 rfl rfl ?_
    refine g_lload (pc' := 49) dX12_tellsRing_47 rfl rfl ?_
    refine g_iload_n (pc' := 50) dX12_tellsRing_49 rfl rfl ?_
    refine g_iconst (pc' := 51) (by unfold r32; decide) dX12_tellsRing_50 rfl ?_
    refine g_V3l (pc' := 54) dX12_tellsRing_51 rfl mv_RX12_346 kd_69 (by decide) (Nat.le_of_ble_eq_true rfl) (C_X12_tellsStep h) (fun r5 s4 h => ?_)
    refine g_iload_n (pc' := 55) dX12_tellsRing_54 rfl rfl ?_
    refine g_iconst (pc' := 56) (by unfold r32; decide) dX12_tellsRing_55 rfl ?_
    refine g_V3l (pc' := 59) dX12_tellsRing_56 rfl mv_RX12_346 kd_69 (by decide) (Nat.le_of_ble_eq_true rfl) (C_X12_tellsStep h) (fun r7 s6 h => ?_)
    refine g_iload_n (pc' := 60) dX12_tellsRing_59 rfl rfl ?_
    refine g_bipush (pc' := 62) ⟨by unfold r32; decide, rfl⟩ dX12_tellsRing_60 rfl ?_
    refine g_V3l (pc' := 65) dX12_tellsRing_62 rfl mv_RX12_346 kd_69 (by decide) (Nat.le_of_ble_eq_true rfl) (C_X12_tellsStep h) (fun r9 s8 h => ?_)
    refine g_iload_n (pc' := 66) dX12_tellsRing_65 rfl rfl ?_
    refine g_bipush (pc' := 68) ⟨by unfold r32; decide, rfl⟩ dX12_tellsRing_66 rfl ?_
    refine g_V3l (pc' := 71) dX12_tellsRing_68 rfl mv_RX12_346 kd_69 (by decide) (Nat.le_of_ble_eq_true rfl) (C_X12_tellsStep h) (fun r11 s10 h => ?_)
    refine g_lstore (pc' := 73) dX12_tellsRing_71 rfl (by decide) ?_
    refine g_iconst (pc' := 74) (by unfold r32; decide) dX12_tellsRing_73 rfl ?_
    refine g_istore (pc' := 76) dX12_tellsRing_74 rfl (by decide) ?_
    obtain ⟨n29, h⟩ := h
    refine (SL_X12_tellsRing_76  (fun x12 s13 h => ?_) n29 _ _ _ h).to ((sb_c rfl (sb_c rfl (sb_c rfl (sb_c rfl sb_n)))))
    · refine g_ldc2 (pc' := 108) (z := 31) (by unfold r64; decide) kc_RX12_344 dX12_tellsRing_105 rfl ?_
      refine g_lload (pc' := 110) dX12_tellsRing_108 rfl rfl ?_
      refine g_lmul (pc' := 111) dX12_tellsRing_110 rfl ?_
      refine g_aload_n (pc' := 112) dX12_tellsRing_111 rfl rfl ?_
      refine g_getI (pc' := 115) dX12_tellsRing_112 rfl fl_RX12_126 kd_69 (Or.inl rfl) ?_
      refine g_if_le (pc' := 118) (tgt := 127) dX12_tellsRing_115 rfl rfl (fun c14 => ?_) (fun c14 => ?_)
      · have h := h.1 c14
        refine g_bipush (pc' := 129) ⟨by unfold r32; decide, rfl⟩ dX12_tellsRing_127 rfl ?_
        refine g_i2l (pc' := 130) dX12_tellsRing_129 rfl ?_
        refine g_ladd (pc' := 131) dX12_tellsRing_130 rfl ?_
        refine g_topL (fun x15 ex15 => ?_)
        have h := h x15 ex15
        refine g_lstore (pc' := 133) dX12_tellsRing_131 rfl (by decide) ?_
        refine g_ldc2 (pc' := 136) (z := 31) (by unfold r64; decide) kc_RX12_344 dX12_tellsRing_133 rfl ?_
        refine g_lload (pc' := 138) dX12_tellsRing_136 rfl rfl ?_
        refine g_lmul (pc' := 139) dX12_tellsRing_138 rfl ?_
        refine g_aload_n (pc' := 140) dX12_tellsRing_139 rfl rfl ?_
        refine g_iload_n (pc' := 141) dX12_tellsRing_140 rfl rfl ?_
        refine g_iconst (pc' := 142) (by unfold r32; decide) dX12_tellsRing_141 rfl ?_
        refine g_V2i (pc' := 145) dX12_tellsRing_142 rfl mv_RX12_306 kd_69 (by decide) (Nat.le_of_ble_eq_true rfl) (C_X12_whenceOf h) (fun r17 s16 h => ?_)
        refine g_i2l (pc' := 146) dX12_tellsRing_145 rfl ?_
        refine g_ladd (pc' := 147) dX12_tellsRing_146 rfl ?_
        refine g_topL (fun x18 ex18 => ?_)
        have h := h x18 ex18
        refine g_lstore (pc' := 149) dX12_tellsRing_147 rfl (by decide) ?_
        refine g_ldc2 (pc' := 152) (z := 31) (by unfold r64; decide) kc_RX12_344 dX12_tellsRing_149 rfl ?_
        refine g_lload (pc' := 154) dX12_tellsRing_152 rfl rfl ?_
        refine g_lmul (pc' := 155) dX12_tellsRing_154 rfl ?_
        refine g_aload_n (pc' := 156) dX12_tellsRing_155 rfl rfl ?_
        refine g_iload_n (pc' := 157) dX12_tellsRing_156 rfl rfl ?_
        refine g_iconst (pc' := 158) (by unfold r32; decide) dX12_tellsRing_157 rfl ?_
        refine g_V2i (pc' := 161) dX12_tellsRing_158 rfl mv_RX12_306 kd_69 (by decide) (Nat.le_of_ble_eq_true rfl) (C_X12_whenceOf h) (fun r20 s19 h => ?_)
        refine g_i2l (pc' := 162) dX12_tellsRing_161 rfl ?_
        refine g_ladd (pc' := 163) dX12_tellsRing_162 rfl ?_
        exact g_lret dX12_tellsRing_163 rfl h
      · have h := h.2 c14
        refine g_aload_n (pc' := 119) dX12_tellsRing_118 rfl rfl ?_
        refine g_iload_n (pc' := 120) dX12_tellsRing_119 rfl rfl ?_
        refine g_iconst (pc' := 121) (by unfold r32; decide) dX12_tellsRing_120 rfl ?_
        refine g_V2i (pc' := 124) dX12_tellsRing_121 rfl mv_RX12_263 kd_69 (by decide) (Nat.le_of_ble_eq_true rfl) (C_X12_breathOf h) (fun r22 s21 h => ?_)
        refine g_goto (pc' := 129) dX12_tellsRing_124 rfl ?_
        refine g_i2l (pc' := 130) dX12_tellsRing_129 rfl ?_
        refine g_ladd (pc' := 131) dX12_tellsRing_130 rfl ?_
        refine g_topL (fun x23 ex23 => ?_)
        have h := h x23 ex23
        refine g_lstore (pc' := 133) dX12_tellsRing_131 rfl (by decide) ?_
        refine g_ldc2 (pc' := 136) (z := 31) (by unfold r64; decide) kc_RX12_344 dX12_tellsRing_133 rfl ?_
        refine g_lload (pc' := 138) dX12_tellsRing_136 rfl rfl ?_
        refine g_lmul (pc' := 139) dX12_tellsRing_138 rfl ?_
        refine g_aload_n (pc' := 140) dX12_tellsRing_139 rfl rfl ?_
        refine g_iload_n (pc' := 141) dX12_tellsRing_140 rfl rfl ?_
        refine g_iconst (pc' := 142) (by unfold r32; decide) dX12_tellsRing_141 rfl ?_
        refine g_V2i (pc' := 145) dX12_tellsRing_142 rfl mv_RX12_306 kd_69 (by decide) (Nat.le_of_ble_eq_true rfl) (C_X12_whenceOf h) (fun r25 s24 h => ?_)
        refine g_i2l (pc' := 146) dX12_tellsRing_145 rfl ?_
        refine g_ladd (pc' := 147) dX12_tellsRing_146 rfl ?_
        refine g_topL (fun x26 ex26 => ?_)
        have h := h x26 ex26
        refine g_lstore (pc' := 149) dX12_tellsRing_147 rfl (by decide) ?_
        refine g_ldc2 (pc' := 152) (z := 31) (by unfold r64; decide) kc_RX12_344 dX12_tellsRing_149 rfl ?_
        refine g_lload (pc' := 154) dX12_tellsRing_152 rfl rfl ?_
        refine g_lmul (pc' := 155) dX12_tellsRing_154 rfl ?_
        refine g_aload_n (pc' := 156) dX12_tellsRing_155 rfl rfl ?_
        refine g_iload_n (pc' := 157) dX12_tellsRing_156 rfl rfl ?_
        refine g_iconst (pc' := 158) (by unfold r32; decide) dX12_tellsRing_157 rfl ?_
        refine g_V2i (pc' := 161) dX12_tellsRing_158 rfl mv_RX12_306 kd_69 (by decide) (Nat.le_of_ble_eq_true rfl) (C_X12_whenceOf h) (fun r28 s27 h => ?_)
        refine g_i2l (pc' := 162) dX12_tellsRing_161 rfl ?_
        refine g_ladd (pc' := 163) dX12_tellsRing_162 rfl ?_
        exact g_lret dX12_tellsRing_163 rfl h
def L_X12_tellsThing_10 (v3 : Int) (s : Sto) (K43 : Int → Prop) : Nat → Int → Int → Prop
  | 0, _, _ => False
  | n + 1, v4, v6 => ((3 ≤ v6 → K43 v4) ∧ (¬ 3 ≤ v6 → (inb (w32 ((w32 (3 * v3)) + v6)) 24 ∧ (∀ x3 : Int, x3 = w64 ((w64 (31 * v4)) + (s 77 (w32 ((w32 (3 * v3)) + v6)).toNat)) → L_X12_tellsThing_10 v3 s K43 n x3 (w32 (v6 + 1))))))
set_option maxRecDepth 100000 in
theorem SL_X12_tellsThing_10 {v3 : Int} {s : Sto} {K43 : Int → Prop} {Q : Int → Sto → Prop}  (hK43 : ∀ v4, K43 v4 → sr_G RX12 cX12_tellsThing 7 (some .long) 7 43 [(0, vR 69), (3, vI v3), (4, vL v4)] [] s Q) : ∀ n v4 v6, L_X12_tellsThing_10 v3 s K43 n v4 v6 → sr_G RX12 cX12_tellsThing 7 (some .long) 7 10 [(0, vR 69), (3, vI v3), (4, vL v4), (6, vI v6)] [] s Q := by
  intro n
  induction n with
  | zero => intro v4 v6 h; exact h.elim
  | succ n ih =>
    intro v4 v6 h
    unfold L_X12_tellsThing_10 at h
    refine g_iload (pc' := 12) dX12_tellsThing_10 rfl rfl ?_
    refine g_iconst (pc' := 13) (by unfold r32; decide) dX12_tellsThing_12 rfl ?_
    refine g_ic_ge (pc' := 16) (tgt := 43) dX12_tellsThing_13 rfl rfl (fun c1 => ?_) (fun c1 => ?_)
    · have h := h.1 c1
      exact (hK43 _ h).to ((sb_c rfl (sb_c rfl (sb_c rfl sb_n))))
    · have h := h.2 c1
      refine g_ldc2 (pc' := 19) (z := 31) (by unfold r64; decide) kc_RX12_344 dX12_tellsThing_16 rfl ?_
      refine g_lload (pc' := 21) dX12_tellsThing_19 rfl rfl ?_
      refine g_lmul (pc' := 22) dX12_tellsThing_21 rfl ?_
      refine g_aload_n (pc' := 23) dX12_tellsThing_22 rfl rfl ?_
      refine g_getR (pc' := 26) (r := 77) dX12_tellsThing_23 rfl fl_RX12_31 kd_69 rfl rf_69_11 ?_
      refine g_iconst (pc' := 27) (by unfold r32; decide) dX12_tellsThing_26 rfl ?_
      refine g_iload_n (pc' := 28) dX12_tellsThing_27 rfl rfl ?_
      refine g_imul (pc' := 29) dX12_tellsThing_28 rfl ?_
      refine g_iload (pc' := 31) dX12_tellsThing_29 rfl rfl ?_
      refine g_iadd (pc' := 32) dX12_tellsThing_31 rfl ?_
      obtain ⟨ob2, h⟩ := h
      refine g_iald (pc' := 33) dX12_tellsThing_32 rfl kd_77 ob2 ?_
      refine g_i2l (pc' := 34) dX12_tellsThing_33 rfl ?_
      refine g_ladd (pc' := 35) dX12_tellsThing_34 rfl ?_
      refine g_topL (fun x3 ex3 => ?_)
      have h := h x3 ex3
      refine g_lstore (pc' := 37) dX12_tellsThing_35 rfl (by decide) ?_
      refine g_iinc (pc' := 40) dX12_tellsThing_37 rfl rfl (by decide) ?_
      refine g_goto (pc' := 10) dX12_tellsThing_40 rfl ?_
      exact (ih _ _ h).to ((sb_c rfl (sb_c rfl (sb_c rfl (sb_c rfl sb_n)))))
def L_X12_tellsThing_46 (v3 : Int) (s : Sto) (K75 : Int → Prop) : Nat → Int → Int → Prop
  | 0, _, _ => False
  | n + 1, v4, v6 => ((3 ≤ v6 → K75 v4) ∧ (¬ 3 ≤ v6 → (O_X12_boundOf v3 v6 s ∧ (∀ x3 : Int, x3 = w64 ((w64 (31 * v4)) + (F_X12_boundOf v3 v6 s)) → L_X12_tellsThing_46 v3 s K75 n x3 (w32 (v6 + 1))))))
set_option maxRecDepth 100000 in
theorem SL_X12_tellsThing_46 {v3 : Int} {s : Sto} {K75 : Int → Prop} {Q : Int → Sto → Prop}  (hK75 : ∀ v4, K75 v4 → sr_G RX12 cX12_tellsThing 7 (some .long) 7 75 [(0, vR 69), (3, vI v3), (4, vL v4)] [] s Q) : ∀ n v4 v6, L_X12_tellsThing_46 v3 s K75 n v4 v6 → sr_G RX12 cX12_tellsThing 7 (some .long) 7 46 [(0, vR 69), (3, vI v3), (4, vL v4), (6, vI v6)] [] s Q := by
  intro n
  induction n with
  | zero => intro v4 v6 h; exact h.elim
  | succ n ih =>
    intro v4 v6 h
    unfold L_X12_tellsThing_46 at h
    refine g_iload (pc' := 48) dX12_tellsThing_46 rfl rfl ?_
    refine g_iconst (pc' := 49) (by unfold r32; decide) dX12_tellsThing_48 rfl ?_
    refine g_ic_ge (pc' := 52) (tgt := 75) dX12_tellsThing_49 rfl rfl (fun c1 => ?_) (fun c1 => ?_)
    · have h := h.1 c1
      exact (hK75 _ h).to ((sb_c rfl (sb_c rfl (sb_c rfl sb_n))))
    · have h := h.2 c1
      refine g_ldc2 (pc' := 55) (z := 31) (by unfold r64; decide) kc_RX12_344 dX12_tellsThing_52 rfl ?_
      refine g_lload (pc' := 57) dX12_tellsThing_55 rfl rfl ?_
      refine g_lmul (pc' := 58) dX12_tellsThing_57 rfl ?_
      refine g_aload_n (pc' := 59) dX12_tellsThing_58 rfl rfl ?_
      refine g_iload_n (pc' := 60) dX12_tellsThing_59 rfl rfl ?_
      refine g_iload (pc' := 62) dX12_tellsThing_60 rfl rfl ?_
      obtain ⟨ob2, h⟩ := h
      refine g_V2i (pc' := 65) dX12_tellsThing_62 rfl mv_RX12_236 kd_69 (by decide) (Nat.le_of_ble_eq_true rfl) (C_X12_boundOf ob2) (sr_pur ?_)
      refine g_i2l (pc' := 66) dX12_tellsThing_65 rfl ?_
      refine g_ladd (pc' := 67) dX12_tellsThing_66 rfl ?_
      refine g_topL (fun x3 ex3 => ?_)
      have h := h x3 ex3
      refine g_lstore (pc' := 69) dX12_tellsThing_67 rfl (by decide) ?_
      refine g_iinc (pc' := 72) dX12_tellsThing_69 rfl rfl (by decide) ?_
      refine g_goto (pc' := 46) dX12_tellsThing_72 rfl ?_
      exact (ih _ _ h).to ((sb_c rfl (sb_c rfl (sb_c rfl (sb_c rfl sb_n)))))
def P_X12_tellsThing (v1 : Int) (v3 : Int) (s : Sto) (Q : Int → Sto → Prop) : Prop := (P_X12_lives s (fun _ s1 => (∃ n20, L_X12_tellsThing_10 v3 s1 (fun x3 => (∃ n19, L_X12_tellsThing_46 v3 s1 (fun x4 => (P_X12_standOf v3 s1 (fun r6 s5 => (∀ x7 : Int, x7 = w64 ((w64 (31 * x4)) + r6) → (P_X12_hushOf v3 ((-1)) s5 (fun r9 s8 => (∀ x10 : Int, x10 = w64 ((w64 (31 * x7)) + r9) → (P_X12_hushOf v3 0 s8 (fun r12 s11 => (∀ x13 : Int, x13 = w64 ((w64 (31 * x10)) + r12) → (P_X12_stillOf 5 5 v3 0 0 s11 (fun r15 s14 => (∀ x16 : Int, x16 = w64 ((w64 (31 * x13)) + r15) → (P_X12_stillOf 5 5 v3 0 1 s14 (fun r18 s17 => Q (w64 ((w64 (31 * x16)) + r18)) s17))))))))))))))) n19 x3 0)) n20 v1 0)))
set_option maxRecDepth 100000 in
theorem C_X12_tellsThing {v1 : Int} {v3 : Int} {s : Sto} {Q : Int → Sto → Prop}  (h : P_X12_tellsThing v1 v3 s Q) : sr_C yX12_tellsThing cX12_tellsThing 7 (some .long) 7 [vR 69, vL v1, vI v3] s Q := by
  refine sr_C.of (by decide +kernel) (Nat.le_of_ble_eq_true rfl) ?_
  show sr_G RX12 cX12_tellsThing 7 (some .long) 7 0 [(0, vR 69), (1, vL v1), (3, vI v3)] [] s Q
  unfold P_X12_tellsThing at h
  refine g_aload_n (pc' := 1) dX12_tellsThing_0 rfl rfl ?_
  refine g_V0v (pc' := 4) dX12_tellsThing_1 rfl mv_RX12_227 kd_69 (by decide) (Nat.le_of_ble_eq_true rfl) (C_X12_lives h) (fun s1 h => ?_)
  refine g_lload_n (pc' := 5) dX12_tellsThing_4 rfl rfl ?_
  refine g_lstore (pc' := 7) dX12_tellsThing_5 rfl (by decide) ?_
  refine g_iconst (pc' := 8) (by unfold r32; decide) dX12_tellsThing_7 rfl ?_
  refine g_istore (pc' := 10) dX12_tellsThing_8 rfl (by decide) ?_
  obtain ⟨n20, h⟩ := h
  refine (SL_X12_tellsThing_10  (fun x3 h => ?_) n20 _ _ h).to ((sb_c rfl (sb_c rfl (sb_c rfl (sb_c rfl sb_n)))))
  · refine g_iconst (pc' := 44) (by unfold r32; decide) dX12_tellsThing_43 rfl ?_
    refine g_istore (pc' := 46) dX12_tellsThing_44 rfl (by decide) ?_
    obtain ⟨n19, h⟩ := h
    refine (SL_X12_tellsThing_46  (fun x4 h => ?_) n19 _ _ h).to ((sb_c rfl (sb_c rfl (sb_c rfl (sb_c rfl sb_n)))))
    · refine g_ldc2 (pc' := 78) (z := 31) (by unfold r64; decide) kc_RX12_344 dX12_tellsThing_75 rfl ?_
      refine g_lload (pc' := 80) dX12_tellsThing_78 rfl rfl ?_
      refine g_lmul (pc' := 81) dX12_tellsThing_80 rfl ?_
      refine g_aload_n (pc' := 82) dX12_tellsThing_81 rfl rfl ?_
      refine g_iload_n (pc' := 83) dX12_tellsThing_82 rfl rfl ?_
      refine g_V1i (pc' := 86) dX12_tellsThing_83 rfl mv_RX12_272 kd_69 (by decide) (Nat.le_of_ble_eq_true rfl) (C_X12_standOf h) (fun r6 s5 h => ?_)
      refine g_i2l (pc' := 87) dX12_tellsThing_86 rfl ?_
      refine g_ladd (pc' := 88) dX12_tellsThing_87 rfl ?_
      refine g_topL (fun x7 ex7 => ?_)
      have h := h x7 ex7
      refine g_lstore (pc' := 90) dX12_tellsThing_88 rfl (by decide) ?_
      refine g_ldc2 (pc' := 93) (z := 31) (by unfold r64; decide) kc_RX12_344 dX12_tellsThing_90 rfl ?_
      refine g_lload (pc' := 95) dX12_tellsThing_93 rfl rfl ?_
      refine g_lmul (pc' := 96) dX12_tellsThing_95 rfl ?_
      refine g_aload_n (pc' := 97) dX12_tellsThing_96 rfl rfl ?_
      refine g_iload_n (pc' := 98) dX12_tellsThing_97 rfl rfl ?_
      refine g_iconst (pc' := 99) (by unfold r32; decide) dX12_tellsThing_98 rfl ?_
      refine g_V2i (pc' := 102) dX12_tellsThing_99 rfl mv_RX12_280 kd_69 (by decide) (Nat.le_of_ble_eq_true rfl) (C_X12_hushOf h) (fun r9 s8 h => ?_)
      refine g_i2l (pc' := 103) dX12_tellsThing_102 rfl ?_
      refine g_ladd (pc' := 104) dX12_tellsThing_103 rfl ?_
      refine g_topL (fun x10 ex10 => ?_)
      have h := h x10 ex10
      refine g_lstore (pc' := 106) dX12_tellsThing_104 rfl (by decide) ?_
      refine g_ldc2 (pc' := 109) (z := 31) (by unfold r64; decide) kc_RX12_344 dX12_tellsThing_106 rfl ?_
      refine g_lload (pc' := 111) dX12_tellsThing_109 rfl rfl ?_
      refine g_lmul (pc' := 112) dX12_tellsThing_111 rfl ?_
      refine g_aload_n (pc' := 113) dX12_tellsThing_112 rfl rfl ?_
      refine g_iload_n (pc' := 114) dX12_tellsThing_113 rfl rfl ?_
      refine g_iconst (pc' := 115) (by unfold r32; decide) dX12_tellsThing_114 rfl ?_
      refine g_V2i (pc' := 118) dX12_tellsThing_115 rfl mv_RX12_280 kd_69 (by decide) (Nat.le_of_ble_eq_true rfl) (C_X12_hushOf h) (fun r12 s11 h => ?_)
      refine g_i2l (pc' := 119) dX12_tellsThing_118 rfl ?_
      refine g_ladd (pc' := 120) dX12_tellsThing_119 rfl ?_
      refine g_topL (fun x13 ex13 => ?_)
      have h := h x13 ex13
      refine g_lstore (pc' := 122) dX12_tellsThing_120 rfl (by decide) ?_
      refine g_ldc2 (pc' := 125) (z := 31) (by unfold r64; decide) kc_RX12_344 dX12_tellsThing_122 rfl ?_
      refine g_lload (pc' := 127) dX12_tellsThing_125 rfl rfl ?_
      refine g_lmul (pc' := 128) dX12_tellsThing_127 rfl ?_
      refine g_aload_n (pc' := 129) dX12_tellsThing_128 rfl rfl ?_
      refine g_iconst (pc' := 130) (by unfold r32; decide) dX12_tellsThing_129 rfl ?_
      refine g_iconst (pc' := 131) (by unfold r32; decide) dX12_tellsThing_130 rfl ?_
      refine g_iload_n (pc' := 132) dX12_tellsThing_131 rfl rfl ?_
      refine g_iconst (pc' := 133) (by unfold r32; decide) dX12_tellsThing_132 rfl ?_
      refine g_iconst (pc' := 134) (by unfold r32; decide) dX12_tellsThing_133 rfl ?_
      refine g_V5l (pc' := 137) dX12_tellsThing_134 rfl mv_RX12_321 kd_69 (by decide) (Nat.le_of_ble_eq_true rfl) (C_X12_stillOf h) (fun r15 s14 h => ?_)
      refine g_ladd (pc' := 138) dX12_tellsThing_137 rfl ?_
      refine g_topL (fun x16 ex16 => ?_)
      have h := h x16 ex16
      refine g_lstore (pc' := 140) dX12_tellsThing_138 rfl (by decide) ?_
      refine g_ldc2 (pc' := 143) (z := 31) (by unfold r64; decide) kc_RX12_344 dX12_tellsThing_140 rfl ?_
      refine g_lload (pc' := 145) dX12_tellsThing_143 rfl rfl ?_
      refine g_lmul (pc' := 146) dX12_tellsThing_145 rfl ?_
      refine g_aload_n (pc' := 147) dX12_tellsThing_146 rfl rfl ?_
      refine g_iconst (pc' := 148) (by unfold r32; decide) dX12_tellsThing_147 rfl ?_
      refine g_iconst (pc' := 149) (by unfold r32; decide) dX12_tellsThing_148 rfl ?_
      refine g_iload_n (pc' := 150) dX12_tellsThing_149 rfl rfl ?_
      refine g_iconst (pc' := 151) (by unfold r32; decide) dX12_tellsThing_150 rfl ?_
      refine g_iconst (pc' := 152) (by unfold r32; decide) dX12_tellsThing_151 rfl ?_
      refine g_V5l (pc' := 155) dX12_tellsThing_152 rfl mv_RX12_321 kd_69 (by decide) (Nat.le_of_ble_eq_true rfl) (C_X12_stillOf h) (fun r18 s17 h => ?_)
      refine g_ladd (pc' := 156) dX12_tellsThing_155 rfl ?_
      exact g_lret dX12_tellsThing_156 rfl h
def L_X12_digest_6  (K31 : Int → Sto → Prop) : Nat → Int → Int → Sto → Prop
  | 0, _, _, _ => False
  | n + 1, v1, v3, s => ((8 ≤ v3 → K31 v1 s) ∧ (¬ 8 ≤ v3 → (P_X12_count v3 s (fun r3 s2 => (∀ x4 : Int, x4 = w64 ((w64 (31 * v1)) + r3) → L_X12_digest_6 K31 n x4 (w32 (v3 + 1)) s2)))))
set_option maxRecDepth 100000 in
theorem SL_X12_digest_6  {K31 : Int → Sto → Prop} {Q : Int → Sto → Prop}  (hK31 : ∀ v1 s, K31 v1 s → sr_G RX12 cX12_digest 4 (some .long) 8 31 [(0, vR 69), (1, vL v1)] [] s Q) : ∀ n v1 v3 s, L_X12_digest_6 K31 n v1 v3 s → sr_G RX12 cX12_digest 4 (some .long) 8 6 [(0, vR 69), (1, vL v1), (3, vI v3)] [] s Q := by
  intro n
  induction n with
  | zero => intro v1 v3 s h; exact h.elim
  | succ n ih =>
    intro v1 v3 s h
    unfold L_X12_digest_6 at h
    refine g_iload_n (pc' := 7) dX12_digest_6 rfl rfl ?_
    refine g_bipush (pc' := 9) ⟨by unfold r32; decide, rfl⟩ dX12_digest_7 rfl ?_
    refine g_ic_ge (pc' := 12) (tgt := 31) dX12_digest_9 rfl rfl (fun c1 => ?_) (fun c1 => ?_)
    · have h := h.1 c1
      exact (hK31 _ _ h).to ((sb_c rfl (sb_c rfl sb_n)))
    · have h := h.2 c1
      refine g_ldc2 (pc' := 15) (z := 31) (by unfold r64; decide) kc_RX12_344 dX12_digest_12 rfl ?_
      refine g_lload_n (pc' := 16) dX12_digest_15 rfl rfl ?_
      refine g_lmul (pc' := 17) dX12_digest_16 rfl ?_
      refine g_aload_n (pc' := 18) dX12_digest_17 rfl rfl ?_
      refine g_iload_n (pc' := 19) dX12_digest_18 rfl rfl ?_
      refine g_V1i (pc' := 22) dX12_digest_19 rfl mv_RX12_352 kd_69 (by decide) (Nat.le_of_ble_eq_true rfl) (C_X12_count h) (fun r3 s2 h => ?_)
      refine g_i2l (pc' := 23) dX12_digest_22 rfl ?_
      refine g_ladd (pc' := 24) dX12_digest_23 rfl ?_
      refine g_topL (fun x4 ex4 => ?_)
      have h := h x4 ex4
      refine g_lstore_n (pc' := 25) dX12_digest_24 rfl (by decide) ?_
      refine g_iinc (pc' := 28) dX12_digest_25 rfl rfl (by decide) ?_
      refine g_goto (pc' := 6) dX12_digest_28 rfl ?_
      exact (ih _ _ _ h).to ((sb_c rfl (sb_c rfl (sb_c rfl sb_n))))
def L_X12_digest_33  (K57 : Int → Sto → Prop) : Nat → Int → Int → Sto → Prop
  | 0, _, _, _ => False
  | n + 1, v1, v3, s => ((3 ≤ v3 → K57 v1 s) ∧ (¬ 3 ≤ v3 → (P_X12_readsText v3 s (fun r3 s2 => (∀ x4 : Int, x4 = w64 ((w64 (31 * v1)) + r3) → L_X12_digest_33 K57 n x4 (w32 (v3 + 1)) s2)))))
set_option maxRecDepth 100000 in
theorem SL_X12_digest_33  {K57 : Int → Sto → Prop} {Q : Int → Sto → Prop}  (hK57 : ∀ v1 s, K57 v1 s → sr_G RX12 cX12_digest 4 (some .long) 8 57 [(0, vR 69), (1, vL v1)] [] s Q) : ∀ n v1 v3 s, L_X12_digest_33 K57 n v1 v3 s → sr_G RX12 cX12_digest 4 (some .long) 8 33 [(0, vR 69), (1, vL v1), (3, vI v3)] [] s Q := by
  intro n
  induction n with
  | zero => intro v1 v3 s h; exact h.elim
  | succ n ih =>
    intro v1 v3 s h
    unfold L_X12_digest_33 at h
    refine g_iload_n (pc' := 34) dX12_digest_33 rfl rfl ?_
    refine g_iconst (pc' := 35) (by unfold r32; decide) dX12_digest_34 rfl ?_
    refine g_ic_ge (pc' := 38) (tgt := 57) dX12_digest_35 rfl rfl (fun c1 => ?_) (fun c1 => ?_)
    · have h := h.1 c1
      exact (hK57 _ _ h).to ((sb_c rfl (sb_c rfl sb_n)))
    · have h := h.2 c1
      refine g_ldc2 (pc' := 41) (z := 31) (by unfold r64; decide) kc_RX12_344 dX12_digest_38 rfl ?_
      refine g_lload_n (pc' := 42) dX12_digest_41 rfl rfl ?_
      refine g_lmul (pc' := 43) dX12_digest_42 rfl ?_
      refine g_aload_n (pc' := 44) dX12_digest_43 rfl rfl ?_
      refine g_iload_n (pc' := 45) dX12_digest_44 rfl rfl ?_
      refine g_V1i (pc' := 48) dX12_digest_45 rfl mv_RX12_145 kd_69 (by decide) (Nat.le_of_ble_eq_true rfl) (C_X12_readsText h) (fun r3 s2 h => ?_)
      refine g_i2l (pc' := 49) dX12_digest_48 rfl ?_
      refine g_ladd (pc' := 50) dX12_digest_49 rfl ?_
      refine g_topL (fun x4 ex4 => ?_)
      have h := h x4 ex4
      refine g_lstore_n (pc' := 51) dX12_digest_50 rfl (by decide) ?_
      refine g_iinc (pc' := 54) dX12_digest_51 rfl rfl (by decide) ?_
      refine g_goto (pc' := 33) dX12_digest_54 rfl ?_
      exact (ih _ _ _ h).to ((sb_c rfl (sb_c rfl (sb_c rfl sb_n))))
def L_X12_digest_59 (s : Sto) (K87 : Int → Prop) : Nat → Int → Int → Prop
  | 0, _, _ => False
  | n + 1, v1, v3 => ((s 69 7 ≤ v3 → K87 v1) ∧ (¬ s 69 7 ≤ v3 → (inb v3 36 ∧ (∀ x3 : Int, x3 = w64 ((w64 (31 * v1)) + (s 76 v3.toNat)) → L_X12_digest_59 s K87 n x3 (w32 (v3 + 1))))))
set_option maxRecDepth 100000 in
theorem SL_X12_digest_59 {s : Sto} {K87 : Int → Prop} {Q : Int → Sto → Prop}  (hK87 : ∀ v1, K87 v1 → sr_G RX12 cX12_digest 4 (some .long) 8 87 [(0, vR 69), (1, vL v1)] [] s Q) : ∀ n v1 v3, L_X12_digest_59 s K87 n v1 v3 → sr_G RX12 cX12_digest 4 (some .long) 8 59 [(0, vR 69), (1, vL v1), (3, vI v3)] [] s Q := by
  intro n
  induction n with
  | zero => intro v1 v3 h; exact h.elim
  | succ n ih =>
    intro v1 v3 h
    unfold L_X12_digest_59 at h
    refine g_iload_n (pc' := 60) dX12_digest_59 rfl rfl ?_
    refine g_aload_n (pc' := 61) dX12_digest_60 rfl rfl ?_
    refine g_getI (pc' := 64) dX12_digest_61 rfl fl_RX12_109 kd_69 (Or.inl rfl) ?_
    refine g_ic_ge (pc' := 67) (tgt := 87) dX12_digest_64 rfl rfl (fun c1 => ?_) (fun c1 => ?_)
    · have h := h.1 c1
      exact (hK87 _ h).to ((sb_c rfl (sb_c rfl sb_n)))
    · have h := h.2 c1
      refine g_ldc2 (pc' := 70) (z := 31) (by unfold r64; decide) kc_RX12_344 dX12_digest_67 rfl ?_
      refine g_lload_n (pc' := 71) dX12_digest_70 rfl rfl ?_
      refine g_lmul (pc' := 72) dX12_digest_71 rfl ?_
      refine g_aload_n (pc' := 73) dX12_digest_72 rfl rfl ?_
      refine g_getR (pc' := 76) (r := 76) dX12_digest_73 rfl fl_RX12_28 kd_69 rfl rf_69_9 ?_
      refine g_iload_n (pc' := 77) dX12_digest_76 rfl rfl ?_
      obtain ⟨ob2, h⟩ := h
      refine g_iald (pc' := 78) dX12_digest_77 rfl kd_76 ob2 ?_
      refine g_i2l (pc' := 79) dX12_digest_78 rfl ?_
      refine g_ladd (pc' := 80) dX12_digest_79 rfl ?_
      refine g_topL (fun x3 ex3 => ?_)
      have h := h x3 ex3
      refine g_lstore_n (pc' := 81) dX12_digest_80 rfl (by decide) ?_
      refine g_iinc (pc' := 84) dX12_digest_81 rfl rfl (by decide) ?_
      refine g_goto (pc' := 59) dX12_digest_84 rfl ?_
      exact (ih _ _ h).to ((sb_c rfl (sb_c rfl (sb_c rfl sb_n))))
def L_X12_digest_89 (s : Sto) (K115 : Int → Prop) : Nat → Int → Int → Prop
  | 0, _, _ => False
  | n + 1, v1, v3 => ((20 ≤ v3 → K115 v1) ∧ (¬ 20 ≤ v3 → (inb v3 20 ∧ (∀ x3 : Int, x3 = w64 ((w64 (31 * v1)) + (s 78 v3.toNat)) → L_X12_digest_89 s K115 n x3 (w32 (v3 + 1))))))
set_option maxRecDepth 100000 in
theorem SL_X12_digest_89 {s : Sto} {K115 : Int → Prop} {Q : Int → Sto → Prop}  (hK115 : ∀ v1, K115 v1 → sr_G RX12 cX12_digest 4 (some .long) 8 115 [(0, vR 69), (1, vL v1)] [] s Q) : ∀ n v1 v3, L_X12_digest_89 s K115 n v1 v3 → sr_G RX12 cX12_digest 4 (some .long) 8 89 [(0, vR 69), (1, vL v1), (3, vI v3)] [] s Q := by
  intro n
  induction n with
  | zero => intro v1 v3 h; exact h.elim
  | succ n ih =>
    intro v1 v3 h
    unfold L_X12_digest_89 at h
    refine g_iload_n (pc' := 90) dX12_digest_89 rfl rfl ?_
    refine g_bipush (pc' := 92) ⟨by unfold r32; decide, rfl⟩ dX12_digest_90 rfl ?_
    refine g_ic_ge (pc' := 95) (tgt := 115) dX12_digest_92 rfl rfl (fun c1 => ?_) (fun c1 => ?_)
    · have h := h.1 c1
      exact (hK115 _ h).to ((sb_c rfl (sb_c rfl sb_n)))
    · have h := h.2 c1
      refine g_ldc2 (pc' := 98) (z := 31) (by unfold r64; decide) kc_RX12_344 dX12_digest_95 rfl ?_
      refine g_lload_n (pc' := 99) dX12_digest_98 rfl rfl ?_
      refine g_lmul (pc' := 100) dX12_digest_99 rfl ?_
      refine g_aload_n (pc' := 101) dX12_digest_100 rfl rfl ?_
      refine g_getR (pc' := 104) (r := 78) dX12_digest_101 rfl fl_RX12_34 kd_69 rfl rf_69_12 ?_
      refine g_iload_n (pc' := 105) dX12_digest_104 rfl rfl ?_
      obtain ⟨ob2, h⟩ := h
      refine g_iald (pc' := 106) dX12_digest_105 rfl kd_78 ob2 ?_
      refine g_i2l (pc' := 107) dX12_digest_106 rfl ?_
      refine g_ladd (pc' := 108) dX12_digest_107 rfl ?_
      refine g_topL (fun x3 ex3 => ?_)
      have h := h x3 ex3
      refine g_lstore_n (pc' := 109) dX12_digest_108 rfl (by decide) ?_
      refine g_iinc (pc' := 112) dX12_digest_109 rfl rfl (by decide) ?_
      refine g_goto (pc' := 89) dX12_digest_112 rfl ?_
      exact (ih _ _ h).to ((sb_c rfl (sb_c rfl (sb_c rfl sb_n))))
def L_X12_digest_117  (K138 : Int → Sto → Prop) : Nat → Int → Int → Sto → Prop
  | 0, _, _, _ => False
  | n + 1, v1, v3, s => ((s 69 14 ≤ v3 → K138 v1 s) ∧ (¬ s 69 14 ≤ v3 → (P_X12_tellsRing v1 v3 s (fun r3 s2 => L_X12_digest_117 K138 n r3 (w32 (v3 + 1)) s2))))
set_option maxRecDepth 100000 in
theorem SL_X12_digest_117  {K138 : Int → Sto → Prop} {Q : Int → Sto → Prop}  (hK138 : ∀ v1 s, K138 v1 s → sr_G RX12 cX12_digest 4 (some .long) 8 138 [(0, vR 69), (1, vL v1)] [] s Q) : ∀ n v1 v3 s, L_X12_digest_117 K138 n v1 v3 s → sr_G RX12 cX12_digest 4 (some .long) 8 117 [(0, vR 69), (1, vL v1), (3, vI v3)] [] s Q := by
  intro n
  induction n with
  | zero => intro v1 v3 s h; exact h.elim
  | succ n ih =>
    intro v1 v3 s h
    unfold L_X12_digest_117 at h
    refine g_iload_n (pc' := 118) dX12_digest_117 rfl rfl ?_
    refine g_aload_n (pc' := 119) dX12_digest_118 rfl rfl ?_
    refine g_getI (pc' := 122) dX12_digest_119 rfl fl_RX12_160 kd_69 (Or.inl rfl) ?_
    refine g_ic_ge (pc' := 125) (tgt := 138) dX12_digest_122 rfl rfl (fun c1 => ?_) (fun c1 => ?_)
    · have h := h.1 c1
      exact (hK138 _ _ h).to ((sb_c rfl (sb_c rfl sb_n)))
    · have h := h.2 c1
      refine g_aload_n (pc' := 126) dX12_digest_125 rfl rfl ?_
      refine g_lload_n (pc' := 127) dX12_digest_126 rfl rfl ?_
      refine g_iload_n (pc' := 128) dX12_digest_127 rfl rfl ?_
      refine g_V2l (pc' := 131) dX12_digest_128 rfl mv_RX12_355 kd_69 (by decide) (Nat.le_of_ble_eq_true rfl) (C_X12_tellsRing h) (fun r3 s2 h => ?_)
      refine g_lstore_n (pc' := 132) dX12_digest_131 rfl (by decide) ?_
      refine g_iinc (pc' := 135) dX12_digest_132 rfl rfl (by decide) ?_
      refine g_goto (pc' := 117) dX12_digest_135 rfl ?_
      exact (ih _ _ _ h).to ((sb_c rfl (sb_c rfl (sb_c rfl sb_n))))
def L_X12_digest_140  (K161 : Int → Sto → Prop) : Nat → Int → Int → Sto → Prop
  | 0, _, _, _ => False
  | n + 1, v1, v3, s => ((s 69 10 ≤ v3 → K161 v1 s) ∧ (¬ s 69 10 ≤ v3 → (P_X12_tellsThing v1 v3 s (fun r3 s2 => L_X12_digest_140 K161 n r3 (w32 (v3 + 1)) s2))))
set_option maxRecDepth 100000 in
theorem SL_X12_digest_140  {K161 : Int → Sto → Prop} {Q : Int → Sto → Prop}  (hK161 : ∀ v1 s, K161 v1 s → sr_G RX12 cX12_digest 4 (some .long) 8 161 [(0, vR 69), (1, vL v1)] [] s Q) : ∀ n v1 v3 s, L_X12_digest_140 K161 n v1 v3 s → sr_G RX12 cX12_digest 4 (some .long) 8 140 [(0, vR 69), (1, vL v1), (3, vI v3)] [] s Q := by
  intro n
  induction n with
  | zero => intro v1 v3 s h; exact h.elim
  | succ n ih =>
    intro v1 v3 s h
    unfold L_X12_digest_140 at h
    refine g_iload_n (pc' := 141) dX12_digest_140 rfl rfl ?_
    refine g_aload_n (pc' := 142) dX12_digest_141 rfl rfl ?_
    refine g_getI (pc' := 145) dX12_digest_142 rfl fl_RX12_126 kd_69 (Or.inl rfl) ?_
    refine g_ic_ge (pc' := 148) (tgt := 161) dX12_digest_145 rfl rfl (fun c1 => ?_) (fun c1 => ?_)
    · have h := h.1 c1
      exact (hK161 _ _ h).to ((sb_c rfl (sb_c rfl sb_n)))
    · have h := h.2 c1
      refine g_aload_n (pc' := 149) dX12_digest_148 rfl rfl ?_
      refine g_lload_n (pc' := 150) dX12_digest_149 rfl rfl ?_
      refine g_iload_n (pc' := 151) dX12_digest_150 rfl rfl ?_
      refine g_V2l (pc' := 154) dX12_digest_151 rfl mv_RX12_359 kd_69 (by decide) (Nat.le_of_ble_eq_true rfl) (C_X12_tellsThing h) (fun r3 s2 h => ?_)
      refine g_lstore_n (pc' := 155) dX12_digest_154 rfl (by decide) ?_
      refine g_iinc (pc' := 158) dX12_digest_155 rfl rfl (by decide) ?_
      refine g_goto (pc' := 140) dX12_digest_158 rfl ?_
      exact (ih _ _ _ h).to ((sb_c rfl (sb_c rfl (sb_c rfl sb_n))))
def L_X12_digest_167  (K238 : Int → Sto → Prop) : Nat → Int → Int → Sto → Prop
  | 0, _, _, _ => False
  | n + 1, v1, v3, s => ((4 ≤ v3 → K238 v1 s) ∧ (¬ 4 ≤ v3 → (P_X12_wedOf v3 0 s (fun r3 s2 => (∀ x4 : Int, x4 = w64 ((w64 (31 * v1)) + r3) → (P_X12_wedOf v3 1 s2 (fun r6 s5 => (∀ x7 : Int, x7 = w64 ((w64 (31 * x4)) + r6) → (P_X12_freeOf v3 9 ((-1)) s5 (fun r9 s8 => (∀ x10 : Int, x10 = w64 ((w64 (31 * x7)) + r9) → (P_X12_freeOf v3 9 0 s8 (fun r12 s11 => (∀ x13 : Int, x13 = w64 ((w64 (31 * x10)) + r12) → L_X12_digest_167 K238 n x13 (w32 (v3 + 1)) s11))))))))))))))
set_option maxRecDepth 100000 in
theorem SL_X12_digest_167  {K238 : Int → Sto → Prop} {Q : Int → Sto → Prop}  (hK238 : ∀ v1 s, K238 v1 s → sr_G RX12 cX12_digest 4 (some .long) 8 238 [(0, vR 69), (1, vL v1)] [] s Q) : ∀ n v1 v3 s, L_X12_digest_167 K238 n v1 v3 s → sr_G RX12 cX12_digest 4 (some .long) 8 167 [(0, vR 69), (1, vL v1), (3, vI v3)] [] s Q := by
  intro n
  induction n with
  | zero => intro v1 v3 s h; exact h.elim
  | succ n ih =>
    intro v1 v3 s h
    unfold L_X12_digest_167 at h
    refine g_iload_n (pc' := 168) dX12_digest_167 rfl rfl ?_
    refine g_iconst (pc' := 169) (by unfold r32; decide) dX12_digest_168 rfl ?_
    refine g_ic_ge (pc' := 172) (tgt := 238) dX12_digest_169 rfl rfl (fun c1 => ?_) (fun c1 => ?_)
    · have h := h.1 c1
      exact (hK238 _ _ h).to ((sb_c rfl (sb_c rfl sb_n)))
    · have h := h.2 c1
      refine g_ldc2 (pc' := 175) (z := 31) (by unfold r64; decide) kc_RX12_344 dX12_digest_172 rfl ?_
      refine g_lload_n (pc' := 176) dX12_digest_175 rfl rfl ?_
      refine g_lmul (pc' := 177) dX12_digest_176 rfl ?_
      refine g_aload_n (pc' := 178) dX12_digest_177 rfl rfl ?_
      refine g_iload_n (pc' := 179) dX12_digest_178 rfl rfl ?_
      refine g_iconst (pc' := 180) (by unfold r32; decide) dX12_digest_179 rfl ?_
      refine g_V2i (pc' := 183) dX12_digest_180 rfl mv_RX12_245 kd_69 (by decide) (Nat.le_of_ble_eq_true rfl) (C_X12_wedOf h) (fun r3 s2 h => ?_)
      refine g_i2l (pc' := 184) dX12_digest_183 rfl ?_
      refine g_ladd (pc' := 185) dX12_digest_184 rfl ?_
      refine g_topL (fun x4 ex4 => ?_)
      have h := h x4 ex4
      refine g_lstore_n (pc' := 186) dX12_digest_185 rfl (by decide) ?_
      refine g_ldc2 (pc' := 189) (z := 31) (by unfold r64; decide) kc_RX12_344 dX12_digest_186 rfl ?_
      refine g_lload_n (pc' := 190) dX12_digest_189 rfl rfl ?_
      refine g_lmul (pc' := 191) dX12_digest_190 rfl ?_
      refine g_aload_n (pc' := 192) dX12_digest_191 rfl rfl ?_
      refine g_iload_n (pc' := 193) dX12_digest_192 rfl rfl ?_
      refine g_iconst (pc' := 194) (by unfold r32; decide) dX12_digest_193 rfl ?_
      refine g_V2i (pc' := 197) dX12_digest_194 rfl mv_RX12_245 kd_69 (by decide) (Nat.le_of_ble_eq_true rfl) (C_X12_wedOf h) (fun r6 s5 h => ?_)
      refine g_i2l (pc' := 198) dX12_digest_197 rfl ?_
      refine g_ladd (pc' := 199) dX12_digest_198 rfl ?_
      refine g_topL (fun x7 ex7 => ?_)
      have h := h x7 ex7
      refine g_lstore_n (pc' := 200) dX12_digest_199 rfl (by decide) ?_
      refine g_ldc2 (pc' := 203) (z := 31) (by unfold r64; decide) kc_RX12_344 dX12_digest_200 rfl ?_
      refine g_lload_n (pc' := 204) dX12_digest_203 rfl rfl ?_
      refine g_lmul (pc' := 205) dX12_digest_204 rfl ?_
      refine g_aload_n (pc' := 206) dX12_digest_205 rfl rfl ?_
      refine g_iload_n (pc' := 207) dX12_digest_206 rfl rfl ?_
      refine g_bipush (pc' := 209) ⟨by unfold r32; decide, rfl⟩ dX12_digest_207 rfl ?_
      refine g_iconst (pc' := 210) (by unfold r32; decide) dX12_digest_209 rfl ?_
      refine g_V3i (pc' := 213) dX12_digest_210 rfl mv_RX12_291 kd_69 (by decide) (Nat.le_of_ble_eq_true rfl) (C_X12_freeOf h) (fun r9 s8 h => ?_)
      refine g_i2l (pc' := 214) dX12_digest_213 rfl ?_
      refine g_ladd (pc' := 215) dX12_digest_214 rfl ?_
      refine g_topL (fun x10 ex10 => ?_)
      have h := h x10 ex10
      refine g_lstore_n (pc' := 216) dX12_digest_215 rfl (by decide) ?_
      refine g_ldc2 (pc' := 219) (z := 31) (by unfold r64; decide) kc_RX12_344 dX12_digest_216 rfl ?_
      refine g_lload_n (pc' := 220) dX12_digest_219 rfl rfl ?_
      refine g_lmul (pc' := 221) dX12_digest_220 rfl ?_
      refine g_aload_n (pc' := 222) dX12_digest_221 rfl rfl ?_
      refine g_iload_n (pc' := 223) dX12_digest_222 rfl rfl ?_
      refine g_bipush (pc' := 225) ⟨by unfold r32; decide, rfl⟩ dX12_digest_223 rfl ?_
      refine g_iconst (pc' := 226) (by unfold r32; decide) dX12_digest_225 rfl ?_
      refine g_V3i (pc' := 229) dX12_digest_226 rfl mv_RX12_291 kd_69 (by decide) (Nat.le_of_ble_eq_true rfl) (C_X12_freeOf h) (fun r12 s11 h => ?_)
      refine g_i2l (pc' := 230) dX12_digest_229 rfl ?_
      refine g_ladd (pc' := 231) dX12_digest_230 rfl ?_
      refine g_topL (fun x13 ex13 => ?_)
      have h := h x13 ex13
      refine g_lstore_n (pc' := 232) dX12_digest_231 rfl (by decide) ?_
      refine g_iinc (pc' := 235) dX12_digest_232 rfl rfl (by decide) ?_
      refine g_goto (pc' := 167) dX12_digest_235 rfl ?_
      exact (ih _ _ _ h).to ((sb_c rfl (sb_c rfl (sb_c rfl sb_n))))
def P_X12_digest (s : Sto) (Q : Int → Sto → Prop) : Prop := (∃ n52, L_X12_digest_6 (fun x1 s2 => (∃ n51, L_X12_digest_33 (fun x3 s4 => (∃ n50, L_X12_digest_59 s4 (fun x5 => (∃ n49, L_X12_digest_89 s4 (fun x6 => (∃ n48, L_X12_digest_117 (fun x7 s8 => (∃ n47, L_X12_digest_140 (fun x9 s10 => (P_X12_lives s10 (fun _ s11 => (∃ n46, L_X12_digest_167 (fun x13 s14 => (∀ x15 : Int, x15 = w64 ((w64 (31 * x13)) + (s14 69 23)) → (∀ x16 : Int, x16 = w64 ((w64 (31 * x15)) + (s14 69 24)) → (P_X12_missedNow s14 (fun r18 s17 => (∀ x19 : Int, x19 = w64 ((w64 (31 * x16)) + r18) → (P_X12_richestNow s17 (fun r21 s20 => (∀ x22 : Int, x22 = w64 ((w64 (31 * x19)) + r21) → (P_X12_lonelyNow s20 (fun r24 s23 => (∀ x25 : Int, x25 = w64 ((w64 (31 * x22)) + r24) → (P_X12_calmBy 0 s23 (fun r27 s26 => (∀ x28 : Int, x28 = w64 ((w64 (31 * x25)) + r27) → (P_X12_calmBy 1 s26 (fun r30 s29 => (∀ x31 : Int, x31 = w64 ((w64 (31 * x28)) + r30) → (P_X12_neverNow s29 (fun r33 s32 => (∀ x34 : Int, x34 = w64 ((w64 (31 * x31)) + r33) → (P_X12_pacesNow s32 (fun r36 s35 => (∀ x37 : Int, x37 = w64 ((w64 (31 * x34)) + r36) → (P_X12_askNow s35 (fun r39 s38 => (∀ x40 : Int, x40 = w64 ((w64 (31 * x37)) + r39) → (P_X12_eveningOf 7 6 0 s38 (fun r42 s41 => (∀ x43 : Int, x43 = w64 ((w64 (31 * x40)) + r42) → (P_X12_eveningOf 7 6 1 s41 (fun r45 s44 => Q (w64 ((w64 (31 * x43)) + r45)) s44)))))))))))))))))))))))))))))))) n46 x9 0 s11)))) n47 x7 0 s8)) n48 x6 0 s4)) n49 x5 0)) n50 x3 0)) n51 x1 0 s2)) n52 17 0 s)
set_option maxRecDepth 100000 in
theorem C_X12_digest {s : Sto} {Q : Int → Sto → Prop}  (h : P_X12_digest s Q) : sr_C yX12_digest cX12_digest 4 (some .long) 8 [vR 69] s Q := by
  refine sr_C.of (by decide +kernel) (Nat.le_of_ble_eq_true rfl) ?_
  show sr_G RX12 cX12_digest 4 (some .long) 8 0 [(0, vR 69)] [] s Q
  unfold P_X12_digest at h
  refine g_ldc2 (pc' := 3) (z := 17) (by unfold r64; decide) kc_RX12_350 dX12_digest_0 rfl ?_
  refine g_lstore_n (pc' := 4) dX12_digest_3 rfl (by decide) ?_
  refine g_iconst (pc' := 5) (by unfold r32; decide) dX12_digest_4 rfl ?_
  refine g_istore_n (pc' := 6) dX12_digest_5 rfl (by decide) ?_
  obtain ⟨n52, h⟩ := h
  refine (SL_X12_digest_6  (fun x1 s2 h => ?_) n52 _ _ _ h).to ((sb_c rfl (sb_c rfl (sb_c rfl sb_n))))
  · refine g_iconst (pc' := 32) (by unfold r32; decide) dX12_digest_31 rfl ?_
    refine g_istore_n (pc' := 33) dX12_digest_32 rfl (by decide) ?_
    obtain ⟨n51, h⟩ := h
    refine (SL_X12_digest_33  (fun x3 s4 h => ?_) n51 _ _ _ h).to ((sb_c rfl (sb_c rfl (sb_c rfl sb_n))))
    · refine g_iconst (pc' := 58) (by unfold r32; decide) dX12_digest_57 rfl ?_
      refine g_istore_n (pc' := 59) dX12_digest_58 rfl (by decide) ?_
      obtain ⟨n50, h⟩ := h
      refine (SL_X12_digest_59  (fun x5 h => ?_) n50 _ _ h).to ((sb_c rfl (sb_c rfl (sb_c rfl sb_n))))
      · refine g_iconst (pc' := 88) (by unfold r32; decide) dX12_digest_87 rfl ?_
        refine g_istore_n (pc' := 89) dX12_digest_88 rfl (by decide) ?_
        obtain ⟨n49, h⟩ := h
        refine (SL_X12_digest_89  (fun x6 h => ?_) n49 _ _ h).to ((sb_c rfl (sb_c rfl (sb_c rfl sb_n))))
        · refine g_iconst (pc' := 116) (by unfold r32; decide) dX12_digest_115 rfl ?_
          refine g_istore_n (pc' := 117) dX12_digest_116 rfl (by decide) ?_
          obtain ⟨n48, h⟩ := h
          refine (SL_X12_digest_117  (fun x7 s8 h => ?_) n48 _ _ _ h).to ((sb_c rfl (sb_c rfl (sb_c rfl sb_n))))
          · refine g_iconst (pc' := 139) (by unfold r32; decide) dX12_digest_138 rfl ?_
            refine g_istore_n (pc' := 140) dX12_digest_139 rfl (by decide) ?_
            obtain ⟨n47, h⟩ := h
            refine (SL_X12_digest_140  (fun x9 s10 h => ?_) n47 _ _ _ h).to ((sb_c rfl (sb_c rfl (sb_c rfl sb_n))))
            · refine g_aload_n (pc' := 162) dX12_digest_161 rfl rfl ?_
              refine g_V0v (pc' := 165) dX12_digest_162 rfl mv_RX12_227 kd_69 (by decide) (Nat.le_of_ble_eq_true rfl) (C_X12_lives h) (fun s11 h => ?_)
              refine g_iconst (pc' := 166) (by unfold r32; decide) dX12_digest_165 rfl ?_
              refine g_istore_n (pc' := 167) dX12_digest_166 rfl (by decide) ?_
              obtain ⟨n46, h⟩ := h
              refine (SL_X12_digest_167  (fun x13 s14 h => ?_) n46 _ _ _ h).to ((sb_c rfl (sb_c rfl (sb_c rfl sb_n))))
              · refine g_ldc2 (pc' := 241) (z := 31) (by unfold r64; decide) kc_RX12_344 dX12_digest_238 rfl ?_
                refine g_lload_n (pc' := 242) dX12_digest_241 rfl rfl ?_
                refine g_lmul (pc' := 243) dX12_digest_242 rfl ?_
                refine g_aload_n (pc' := 244) dX12_digest_243 rfl rfl ?_
                refine g_getI (pc' := 247) dX12_digest_244 rfl fl_RX12_193 kd_69 (Or.inl rfl) ?_
                refine g_i2l (pc' := 248) dX12_digest_247 rfl ?_
                refine g_ladd (pc' := 249) dX12_digest_248 rfl ?_
                refine g_topL (fun x15 ex15 => ?_)
                have h := h x15 ex15
                refine g_lstore_n (pc' := 250) dX12_digest_249 rfl (by decide) ?_
                refine g_ldc2 (pc' := 253) (z := 31) (by unfold r64; decide) kc_RX12_344 dX12_digest_250 rfl ?_
                refine g_lload_n (pc' := 254) dX12_digest_253 rfl rfl ?_
                refine g_lmul (pc' := 255) dX12_digest_254 rfl ?_
                refine g_aload_n (pc' := 256) dX12_digest_255 rfl rfl ?_
                refine g_getI (pc' := 259) dX12_digest_256 rfl fl_RX12_196 kd_69 (Or.inl rfl) ?_
                refine g_i2l (pc' := 260) dX12_digest_259 rfl ?_
                refine g_ladd (pc' := 261) dX12_digest_260 rfl ?_
                refine g_topL (fun x16 ex16 => ?_)
                have h := h x16 ex16
                refine g_lstore_n (pc' := 262) dX12_digest_261 rfl (by decide) ?_
                refine g_ldc2 (pc' := 265) (z := 31) (by unfold r64; decide) kc_RX12_344 dX12_digest_262 rfl ?_
                refine g_lload_n (pc' := 266) dX12_digest_265 rfl rfl ?_
                refine g_lmul (pc' := 267) dX12_digest_266 rfl ?_
                refine g_aload_n (pc' := 268) dX12_digest_267 rfl rfl ?_
                refine g_V0i (pc' := 271) dX12_digest_268 rfl mv_RX12_248 kd_69 (by decide) (Nat.le_of_ble_eq_true rfl) (C_X12_missedNow h) (fun r18 s17 h => ?_)
                refine g_i2l (pc' := 272) dX12_digest_271 rfl ?_
                refine g_ladd (pc' := 273) dX12_digest_272 rfl ?_
                refine g_topL (fun x19 ex19 => ?_)
                have h := h x19 ex19
                refine g_lstore_n (pc' := 274) dX12_digest_273 rfl (by decide) ?_
                refine g_ldc2 (pc' := 277) (z := 31) (by unfold r64; decide) kc_RX12_344 dX12_digest_274 rfl ?_
                refine g_lload_n (pc' := 278) dX12_digest_277 rfl rfl ?_
                refine g_lmul (pc' := 279) dX12_digest_278 rfl ?_
                refine g_aload_n (pc' := 280) dX12_digest_279 rfl rfl ?_
                refine g_V0i (pc' := 283) dX12_digest_280 rfl mv_RX12_257 kd_69 (by decide) (Nat.le_of_ble_eq_true rfl) (C_X12_richestNow h) (fun r21 s20 h => ?_)
                refine g_i2l (pc' := 284) dX12_digest_283 rfl ?_
                refine g_ladd (pc' := 285) dX12_digest_284 rfl ?_
                refine g_topL (fun x22 ex22 => ?_)
                have h := h x22 ex22
                refine g_lstore_n (pc' := 286) dX12_digest_285 rfl (by decide) ?_
                refine g_ldc2 (pc' := 289) (z := 31) (by unfold r64; decide) kc_RX12_344 dX12_digest_286 rfl ?_
                refine g_lload_n (pc' := 290) dX12_digest_289 rfl rfl ?_
                refine g_lmul (pc' := 291) dX12_digest_290 rfl ?_
                refine g_aload_n (pc' := 292) dX12_digest_291 rfl rfl ?_
                refine g_V0i (pc' := 295) dX12_digest_292 rfl mv_RX12_260 kd_69 (by decide) (Nat.le_of_ble_eq_true rfl) (C_X12_lonelyNow h) (fun r24 s23 h => ?_)
                refine g_i2l (pc' := 296) dX12_digest_295 rfl ?_
                refine g_ladd (pc' := 297) dX12_digest_296 rfl ?_
                refine g_topL (fun x25 ex25 => ?_)
                have h := h x25 ex25
                refine g_lstore_n (pc' := 298) dX12_digest_297 rfl (by decide) ?_
                refine g_ldc2 (pc' := 301) (z := 31) (by unfold r64; decide) kc_RX12_344 dX12_digest_298 rfl ?_
                refine g_lload_n (pc' := 302) dX12_digest_301 rfl rfl ?_
                refine g_lmul (pc' := 303) dX12_digest_302 rfl ?_
                refine g_aload_n (pc' := 304) dX12_digest_303 rfl rfl ?_
                refine g_iconst (pc' := 305) (by unfold r32; decide) dX12_digest_304 rfl ?_
                refine g_V1i (pc' := 308) dX12_digest_305 rfl mv_RX12_283 kd_69 (by decide) (Nat.le_of_ble_eq_true rfl) (C_X12_calmBy h) (fun r27 s26 h => ?_)
                refine g_i2l (pc' := 309) dX12_digest_308 rfl ?_
                refine g_ladd (pc' := 310) dX12_digest_309 rfl ?_
                refine g_topL (fun x28 ex28 => ?_)
                have h := h x28 ex28
                refine g_lstore_n (pc' := 311) dX12_digest_310 rfl (by decide) ?_
                refine g_ldc2 (pc' := 314) (z := 31) (by unfold r64; decide) kc_RX12_344 dX12_digest_311 rfl ?_
                refine g_lload_n (pc' := 315) dX12_digest_314 rfl rfl ?_
                refine g_lmul (pc' := 316) dX12_digest_315 rfl ?_
                refine g_aload_n (pc' := 317) dX12_digest_316 rfl rfl ?_
                refine g_iconst (pc' := 318) (by unfold r32; decide) dX12_digest_317 rfl ?_
                refine g_V1i (pc' := 321) dX12_digest_318 rfl mv_RX12_283 kd_69 (by decide) (Nat.le_of_ble_eq_true rfl) (C_X12_calmBy h) (fun r30 s29 h => ?_)
                refine g_i2l (pc' := 322) dX12_digest_321 rfl ?_
                refine g_ladd (pc' := 323) dX12_digest_322 rfl ?_
                refine g_topL (fun x31 ex31 => ?_)
                have h := h x31 ex31
                refine g_lstore_n (pc' := 324) dX12_digest_323 rfl (by decide) ?_
                refine g_ldc2 (pc' := 327) (z := 31) (by unfold r64; decide) kc_RX12_344 dX12_digest_324 rfl ?_
                refine g_lload_n (pc' := 328) dX12_digest_327 rfl rfl ?_
                refine g_lmul (pc' := 329) dX12_digest_328 rfl ?_
                refine g_aload_n (pc' := 330) dX12_digest_329 rfl rfl ?_
                refine g_V0i (pc' := 333) dX12_digest_330 rfl mv_RX12_303 kd_69 (by decide) (Nat.le_of_ble_eq_true rfl) (C_X12_neverNow h) (fun r33 s32 h => ?_)
                refine g_i2l (pc' := 334) dX12_digest_333 rfl ?_
                refine g_ladd (pc' := 335) dX12_digest_334 rfl ?_
                refine g_topL (fun x34 ex34 => ?_)
                have h := h x34 ex34
                refine g_lstore_n (pc' := 336) dX12_digest_335 rfl (by decide) ?_
                refine g_ldc2 (pc' := 339) (z := 31) (by unfold r64; decide) kc_RX12_344 dX12_digest_336 rfl ?_
                refine g_lload_n (pc' := 340) dX12_digest_339 rfl rfl ?_
                refine g_lmul (pc' := 341) dX12_digest_340 rfl ?_
                refine g_aload_n (pc' := 342) dX12_digest_341 rfl rfl ?_
                refine g_V0i (pc' := 345) dX12_digest_342 rfl mv_RX12_309 kd_69 (by decide) (Nat.le_of_ble_eq_true rfl) (C_X12_pacesNow h) (fun r36 s35 h => ?_)
                refine g_i2l (pc' := 346) dX12_digest_345 rfl ?_
                refine g_ladd (pc' := 347) dX12_digest_346 rfl ?_
                refine g_topL (fun x37 ex37 => ?_)
                have h := h x37 ex37
                refine g_lstore_n (pc' := 348) dX12_digest_347 rfl (by decide) ?_
                refine g_ldc2 (pc' := 351) (z := 31) (by unfold r64; decide) kc_RX12_344 dX12_digest_348 rfl ?_
                refine g_lload_n (pc' := 352) dX12_digest_351 rfl rfl ?_
                refine g_lmul (pc' := 353) dX12_digest_352 rfl ?_
                refine g_aload_n (pc' := 354) dX12_digest_353 rfl rfl ?_
                refine g_V0i (pc' := 357) dX12_digest_354 rfl mv_RX12_312 kd_69 (by decide) (Nat.le_of_ble_eq_true rfl) (C_X12_askNow h) (fun r39 s38 h => ?_)
                refine g_i2l (pc' := 358) dX12_digest_357 rfl ?_
                refine g_ladd (pc' := 359) dX12_digest_358 rfl ?_
                refine g_topL (fun x40 ex40 => ?_)
                have h := h x40 ex40
                refine g_lstore_n (pc' := 360) dX12_digest_359 rfl (by decide) ?_
                refine g_ldc2 (pc' := 363) (z := 31) (by unfold r64; decide) kc_RX12_344 dX12_digest_360 rfl ?_
                refine g_lload_n (pc' := 364) dX12_digest_363 rfl rfl ?_
                refine g_lmul (pc' := 365) dX12_digest_364 rfl ?_
                refine g_aload_n (pc' := 366) dX12_digest_365 rfl rfl ?_
                refine g_bipush (pc' := 368) ⟨by unfold r32; decide, rfl⟩ dX12_digest_366 rfl ?_
                refine g_bipush (pc' := 370) ⟨by unfold r32; decide, rfl⟩ dX12_digest_368 rfl ?_
                refine g_iconst (pc' := 371) (by unfold r32; decide) dX12_digest_370 rfl ?_
                refine g_V3i (pc' := 374) dX12_digest_371 rfl mv_RX12_338 kd_69 (by decide) (Nat.le_of_ble_eq_true rfl) (C_X12_eveningOf h) (fun r42 s41 h => ?_)
                refine g_i2l (pc' := 375) dX12_digest_374 rfl ?_
                refine g_ladd (pc' := 376) dX12_digest_375 rfl ?_
                refine g_topL (fun x43 ex43 => ?_)
                have h := h x43 ex43
                refine g_lstore_n (pc' := 377) dX12_digest_376 rfl (by decide) ?_
                refine g_ldc2 (pc' := 380) (z := 31) (by unfold r64; decide) kc_RX12_344 dX12_digest_377 rfl ?_
                refine g_lload_n (pc' := 381) dX12_digest_380 rfl rfl ?_
                refine g_lmul (pc' := 382) dX12_digest_381 rfl ?_
                refine g_aload_n (pc' := 383) dX12_digest_382 rfl rfl ?_
                refine g_bipush (pc' := 385) ⟨by unfold r32; decide, rfl⟩ dX12_digest_383 rfl ?_
                refine g_bipush (pc' := 387) ⟨by unfold r32; decide, rfl⟩ dX12_digest_385 rfl ?_
                refine g_iconst (pc' := 388) (by unfold r32; decide) dX12_digest_387 rfl ?_
                refine g_V3i (pc' := 391) dX12_digest_388 rfl mv_RX12_338 kd_69 (by decide) (Nat.le_of_ble_eq_true rfl) (C_X12_eveningOf h) (fun r45 s44 h => ?_)
                refine g_i2l (pc' := 392) dX12_digest_391 rfl ?_
                refine g_ladd (pc' := 393) dX12_digest_392 rfl ?_
                exact g_lret dX12_digest_393 rfl h
