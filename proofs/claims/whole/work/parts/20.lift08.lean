def F_X12_beside (v1 : Int) (v2 : Int) (s : Sto) : Int := (if v2 = 0 then (if v1 < s 69 8 then (-1) else (if w32 (v1 - (s 69 8)) = (-1) then w32 (v1 - (s 69 8)) else (if s 76 (w32 (v1 - (s 69 8))).toNat = 1 then (-1) else w32 (v1 - (s 69 8))))) else (if v2 = 1 then (if w32 ((w32 (v1 + 1)).tmod (s 69 8)) ≤ 0 then (-1) else (if w32 (v1 + 1) = (-1) then w32 (v1 + 1) else (if s 76 (w32 (v1 + 1)).toNat = 1 then (-1) else w32 (v1 + 1)))) else (if v2 = 2 then (if s 69 7 ≤ w32 (v1 + (s 69 8)) then (-1) else (if w32 (v1 + (s 69 8)) = (-1) then w32 (v1 + (s 69 8)) else (if s 76 (w32 (v1 + (s 69 8))).toNat = 1 then (-1) else w32 (v1 + (s 69 8))))) else (if w32 (v1.tmod (s 69 8)) ≤ 0 then (-1) else (if w32 (v1 - 1) = (-1) then w32 (v1 - 1) else (if s 76 (w32 (v1 - 1)).toNat = 1 then (-1) else w32 (v1 - 1)))))))
def O_X12_beside (v1 : Int) (v2 : Int) (s : Sto) : Prop := ((v2 = 0 → ((v1 < s 69 8 → True) ∧ (¬ v1 < s 69 8 → ((w32 (v1 - (s 69 8)) = (-1) → True) ∧ (¬ w32 (v1 - (s 69 8)) = (-1) → (inb (w32 (v1 - (s 69 8))) 36 ∧ True)))))) ∧ (¬ v2 = 0 → ((v2 = 1 → ((s 69 8) ≠ 0 ∧ ((w32 ((w32 (v1 + 1)).tmod (s 69 8)) ≤ 0 → True) ∧ (¬ w32 ((w32 (v1 + 1)).tmod (s 69 8)) ≤ 0 → ((w32 (v1 + 1) = (-1) → True) ∧ (¬ w32 (v1 + 1) = (-1) → (inb (w32 (v1 + 1)) 36 ∧ True))))))) ∧ (¬ v2 = 1 → ((v2 = 2 → ((s 69 7 ≤ w32 (v1 + (s 69 8)) → True) ∧ (¬ s 69 7 ≤ w32 (v1 + (s 69 8)) → ((w32 (v1 + (s 69 8)) = (-1) → True) ∧ (¬ w32 (v1 + (s 69 8)) = (-1) → (inb (w32 (v1 + (s 69 8))) 36 ∧ True)))))) ∧ (¬ v2 = 2 → ((s 69 8) ≠ 0 ∧ ((w32 (v1.tmod (s 69 8)) ≤ 0 → True) ∧ (¬ w32 (v1.tmod (s 69 8)) ≤ 0 → ((w32 (v1 - 1) = (-1) → True) ∧ (¬ w32 (v1 - 1) = (-1) → (inb (w32 (v1 - 1)) 36 ∧ True))))))))))))
set_option maxRecDepth 100000 in
theorem C_X12_beside {v1 : Int} {v2 : Int} {s : Sto}  (h : O_X12_beside v1 v2 s) : sr_C yX12_beside cX12_beside 4 (some .int) 0 [vR 69, vI v1, vI v2] s (fun r s' => r = F_X12_beside v1 v2 s ∧ s' = s) := by
  refine sr_C.of (by decide +kernel) (Nat.le_of_ble_eq_true rfl) ?_
  show sr_G RX12 cX12_beside 4 (some .int) 0 0 [(0, vR 69), (1, vI v1), (2, vI v2)] [] s (fun r s' => r = F_X12_beside v1 v2 s ∧ s' = s)
  unfold O_X12_beside at h
  refine g_iconst (pc' := 1) (by unfold r32; decide) dX12_beside_0 rfl ?_
  refine g_istore_n (pc' := 2) dX12_beside_1 rfl (by decide) ?_
  refine g_iload_n (pc' := 3) dX12_beside_2 rfl rfl ?_
  refine g_if_ne (pc' := 6) (tgt := 28) dX12_beside_3 rfl rfl (fun c1 => ?_) (fun c1 => ?_)
  · have h := h.2 c1
    refine g_iload_n (pc' := 29) dX12_beside_28 rfl rfl ?_
    refine g_iconst (pc' := 30) (by unfold r32; decide) dX12_beside_29 rfl ?_
    refine g_ic_ne (pc' := 33) (tgt := 55) dX12_beside_30 rfl rfl (fun c7 => ?_) (fun c7 => ?_)
    · have h := h.2 c7
      refine g_iload_n (pc' := 56) dX12_beside_55 rfl rfl ?_
      refine g_iconst (pc' := 57) (by unfold r32; decide) dX12_beside_56 rfl ?_
      refine g_ic_ne (pc' := 60) (tgt := 87) dX12_beside_57 rfl rfl (fun c14 => ?_) (fun c14 => ?_)
      · have h := h.2 c14
        refine g_iload_n (pc' := 88) dX12_beside_87 rfl rfl ?_
        refine g_aload_n (pc' := 89) dX12_beside_88 rfl rfl ?_
        refine g_getI (pc' := 92) dX12_beside_89 rfl fl_RX12_112 kd_69 (Or.inl rfl) ?_
        obtain ⟨ob20, h⟩ := h
        refine g_irem (pc' := 93) dX12_beside_92 rfl ob20 ?_
        refine g_if_le (pc' := 96) (tgt := 102) dX12_beside_93 rfl rfl (fun c21 => ?_) (fun c21 => ?_)
        · have h := h.1 c21
          refine g_iconst (pc' := 103) (by unfold r32; decide) dX12_beside_102 rfl ?_
          refine g_istore_n (pc' := 104) dX12_beside_103 rfl (by decide) ?_
          refine g_iload_n (pc' := 105) dX12_beside_104 rfl rfl ?_
          refine g_iconst (pc' := 106) (by unfold r32; decide) dX12_beside_105 rfl ?_
          refine g_ic_eq (pc' := 109) (tgt := 123) dX12_beside_106 rfl rfl (fun c22 => ?_) (fun c22 => absurd (by decide) c22)
          refine g_iload_n (pc' := 124) dX12_beside_123 rfl rfl ?_
          exact g_iret dX12_beside_124 rfl ⟨(by simp only [F_X12_beside, if_neg c1, if_neg c7, if_neg c14, if_pos c21]), rfl⟩
        · have h := h.2 c21
          refine g_iload_n (pc' := 97) dX12_beside_96 rfl rfl ?_
          refine g_iconst (pc' := 98) (by unfold r32; decide) dX12_beside_97 rfl ?_
          refine g_isub (pc' := 99) dX12_beside_98 rfl ?_
          refine g_goto (pc' := 103) dX12_beside_99 rfl ?_
          refine g_istore_n (pc' := 104) dX12_beside_103 rfl (by decide) ?_
          refine g_iload_n (pc' := 105) dX12_beside_104 rfl rfl ?_
          refine g_iconst (pc' := 106) (by unfold r32; decide) dX12_beside_105 rfl ?_
          refine g_ic_eq (pc' := 109) (tgt := 123) dX12_beside_106 rfl rfl (fun c23 => ?_) (fun c23 => ?_)
          · have h := h.1 c23
            refine g_iload_n (pc' := 124) dX12_beside_123 rfl rfl ?_
            exact g_iret dX12_beside_124 rfl ⟨(by simp only [F_X12_beside, if_neg c1, if_neg c7, if_neg c14, if_neg c21, if_pos c23]), rfl⟩
          · have h := h.2 c23
            refine g_aload_n (pc' := 110) dX12_beside_109 rfl rfl ?_
            refine g_getR (pc' := 113) (r := 76) dX12_beside_110 rfl fl_RX12_28 kd_69 rfl rf_69_9 ?_
            refine g_iload_n (pc' := 114) dX12_beside_113 rfl rfl ?_
            obtain ⟨ob24, h⟩ := h
            refine g_iald (pc' := 115) dX12_beside_114 rfl kd_76 ob24 ?_
            refine g_iconst (pc' := 116) (by unfold r32; decide) dX12_beside_115 rfl ?_
            refine g_ic_ne (pc' := 119) (tgt := 123) dX12_beside_116 rfl rfl (fun c25 => ?_) (fun c25 => ?_)
            · refine g_iload_n (pc' := 124) dX12_beside_123 rfl rfl ?_
              exact g_iret dX12_beside_124 rfl ⟨(by simp only [F_X12_beside, if_neg c1, if_neg c7, if_neg c14, if_neg c21, if_neg c23, if_neg c25]), rfl⟩
            · refine g_iconst (pc' := 120) (by unfold r32; decide) dX12_beside_119 rfl ?_
              refine g_goto (pc' := 124) dX12_beside_120 rfl ?_
              exact g_iret dX12_beside_124 rfl ⟨(by simp only [F_X12_beside, if_neg c1, if_neg c7, if_neg c14, if_neg c21, if_neg c23, if_pos c25]), rfl⟩
      · have h := h.1 c14
        refine g_iload_n (pc' := 61) dX12_beside_60 rfl rfl ?_
        refine g_aload_n (pc' := 62) dX12_beside_61 rfl rfl ?_
        refine g_getI (pc' := 65) dX12_beside_62 rfl fl_RX12_112 kd_69 (Or.inl rfl) ?_
        refine g_iadd (pc' := 66) dX12_beside_65 rfl ?_
        refine g_aload_n (pc' := 67) dX12_beside_66 rfl rfl ?_
        refine g_getI (pc' := 70) dX12_beside_67 rfl fl_RX12_109 kd_69 (Or.inl rfl) ?_
        refine g_ic_ge (pc' := 73) (tgt := 82) dX12_beside_70 rfl rfl (fun c15 => ?_) (fun c15 => ?_)
        · have h := h.1 c15
          refine g_iconst (pc' := 83) (by unfold r32; decide) dX12_beside_82 rfl ?_
          refine g_istore_n (pc' := 84) dX12_beside_83 rfl (by decide) ?_
          refine g_goto (pc' := 104) dX12_beside_84 rfl ?_
          refine g_iload_n (pc' := 105) dX12_beside_104 rfl rfl ?_
          refine g_iconst (pc' := 106) (by unfold r32; decide) dX12_beside_105 rfl ?_
          refine g_ic_eq (pc' := 109) (tgt := 123) dX12_beside_106 rfl rfl (fun c16 => ?_) (fun c16 => absurd (by decide) c16)
          refine g_iload_n (pc' := 124) dX12_beside_123 rfl rfl ?_
          exact g_iret dX12_beside_124 rfl ⟨(by simp only [F_X12_beside, if_neg c1, if_neg c7, if_pos c14, if_pos c15]), rfl⟩
        · have h := h.2 c15
          refine g_iload_n (pc' := 74) dX12_beside_73 rfl rfl ?_
          refine g_aload_n (pc' := 75) dX12_beside_74 rfl rfl ?_
          refine g_getI (pc' := 78) dX12_beside_75 rfl fl_RX12_112 kd_69 (Or.inl rfl) ?_
          refine g_iadd (pc' := 79) dX12_beside_78 rfl ?_
          refine g_goto (pc' := 83) dX12_beside_79 rfl ?_
          refine g_istore_n (pc' := 84) dX12_beside_83 rfl (by decide) ?_
          refine g_goto (pc' := 104) dX12_beside_84 rfl ?_
          refine g_iload_n (pc' := 105) dX12_beside_104 rfl rfl ?_
          refine g_iconst (pc' := 106) (by unfold r32; decide) dX12_beside_105 rfl ?_
          refine g_ic_eq (pc' := 109) (tgt := 123) dX12_beside_106 rfl rfl (fun c17 => ?_) (fun c17 => ?_)
          · have h := h.1 c17
            refine g_iload_n (pc' := 124) dX12_beside_123 rfl rfl ?_
            exact g_iret dX12_beside_124 rfl ⟨(by simp only [F_X12_beside, if_neg c1, if_neg c7, if_pos c14, if_neg c15, if_pos c17]), rfl⟩
          · have h := h.2 c17
            refine g_aload_n (pc' := 110) dX12_beside_109 rfl rfl ?_
            refine g_getR (pc' := 113) (r := 76) dX12_beside_110 rfl fl_RX12_28 kd_69 rfl rf_69_9 ?_
            refine g_iload_n (pc' := 114) dX12_beside_113 rfl rfl ?_
            obtain ⟨ob18, h⟩ := h
            refine g_iald (pc' := 115) dX12_beside_114 rfl kd_76 ob18 ?_
            refine g_iconst (pc' := 116) (by unfold r32; decide) dX12_beside_115 rfl ?_
            refine g_ic_ne (pc' := 119) (tgt := 123) dX12_beside_116 rfl rfl (fun c19 => ?_) (fun c19 => ?_)
            · refine g_iload_n (pc' := 124) dX12_beside_123 rfl rfl ?_
              exact g_iret dX12_beside_124 rfl ⟨(by simp only [F_X12_beside, if_neg c1, if_neg c7, if_pos c14, if_neg c15, if_neg c17, if_neg c19]), rfl⟩
            · refine g_iconst (pc' := 120) (by unfold r32; decide) dX12_beside_119 rfl ?_
              refine g_goto (pc' := 124) dX12_beside_120 rfl ?_
              exact g_iret dX12_beside_124 rfl ⟨(by simp only [F_X12_beside, if_neg c1, if_neg c7, if_pos c14, if_neg c15, if_neg c17, if_pos c19]), rfl⟩
    · have h := h.1 c7
      refine g_iload_n (pc' := 34) dX12_beside_33 rfl rfl ?_
      refine g_iconst (pc' := 35) (by unfold r32; decide) dX12_beside_34 rfl ?_
      refine g_iadd (pc' := 36) dX12_beside_35 rfl ?_
      refine g_aload_n (pc' := 37) dX12_beside_36 rfl rfl ?_
      refine g_getI (pc' := 40) dX12_beside_37 rfl fl_RX12_112 kd_69 (Or.inl rfl) ?_
      obtain ⟨ob8, h⟩ := h
      refine g_irem (pc' := 41) dX12_beside_40 rfl ob8 ?_
      refine g_if_le (pc' := 44) (tgt := 50) dX12_beside_41 rfl rfl (fun c9 => ?_) (fun c9 => ?_)
      · have h := h.1 c9
        refine g_iconst (pc' := 51) (by unfold r32; decide) dX12_beside_50 rfl ?_
        refine g_istore_n (pc' := 52) dX12_beside_51 rfl (by decide) ?_
        refine g_goto (pc' := 104) dX12_beside_52 rfl ?_
        refine g_iload_n (pc' := 105) dX12_beside_104 rfl rfl ?_
        refine g_iconst (pc' := 106) (by unfold r32; decide) dX12_beside_105 rfl ?_
        refine g_ic_eq (pc' := 109) (tgt := 123) dX12_beside_106 rfl rfl (fun c10 => ?_) (fun c10 => absurd (by decide) c10)
        refine g_iload_n (pc' := 124) dX12_beside_123 rfl rfl ?_
        exact g_iret dX12_beside_124 rfl ⟨(by simp only [F_X12_beside, if_neg c1, if_pos c7, if_pos c9]), rfl⟩
      · have h := h.2 c9
        refine g_iload_n (pc' := 45) dX12_beside_44 rfl rfl ?_
        refine g_iconst (pc' := 46) (by unfold r32; decide) dX12_beside_45 rfl ?_
        refine g_iadd (pc' := 47) dX12_beside_46 rfl ?_
        refine g_goto (pc' := 51) dX12_beside_47 rfl ?_
        refine g_istore_n (pc' := 52) dX12_beside_51 rfl (by decide) ?_
        refine g_goto (pc' := 104) dX12_beside_52 rfl ?_
        refine g_iload_n (pc' := 105) dX12_beside_104 rfl rfl ?_
        refine g_iconst (pc' := 106) (by unfold r32; decide) dX12_beside_105 rfl ?_
        refine g_ic_eq (pc' := 109) (tgt := 123) dX12_beside_106 rfl rfl (fun c11 => ?_) (fun c11 => ?_)
        · have h := h.1 c11
          refine g_iload_n (pc' := 124) dX12_beside_123 rfl rfl ?_
          exact g_iret dX12_beside_124 rfl ⟨(by simp only [F_X12_beside, if_neg c1, if_pos c7, if_neg c9, if_pos c11]), rfl⟩
        · have h := h.2 c11
          refine g_aload_n (pc' := 110) dX12_beside_109 rfl rfl ?_
          refine g_getR (pc' := 113) (r := 76) dX12_beside_110 rfl fl_RX12_28 kd_69 rfl rf_69_9 ?_
          refine g_iload_n (pc' := 114) dX12_beside_113 rfl rfl ?_
          obtain ⟨ob12, h⟩ := h
          refine g_iald (pc' := 115) dX12_beside_114 rfl kd_76 ob12 ?_
          refine g_iconst (pc' := 116) (by unfold r32; decide) dX12_beside_115 rfl ?_
          refine g_ic_ne (pc' := 119) (tgt := 123) dX12_beside_116 rfl rfl (fun c13 => ?_) (fun c13 => ?_)
          · refine g_iload_n (pc' := 124) dX12_beside_123 rfl rfl ?_
            exact g_iret dX12_beside_124 rfl ⟨(by simp only [F_X12_beside, if_neg c1, if_pos c7, if_neg c9, if_neg c11, if_neg c13]), rfl⟩
          · refine g_iconst (pc' := 120) (by unfold r32; decide) dX12_beside_119 rfl ?_
            refine g_goto (pc' := 124) dX12_beside_120 rfl ?_
            exact g_iret dX12_beside_124 rfl ⟨(by simp only [F_X12_beside, if_neg c1, if_pos c7, if_neg c9, if_neg c11, if_pos c13]), rfl⟩
  · have h := h.1 c1
    refine g_iload_n (pc' := 7) dX12_beside_6 rfl rfl ?_
    refine g_aload_n (pc' := 8) dX12_beside_7 rfl rfl ?_
    refine g_getI (pc' := 11) dX12_beside_8 rfl fl_RX12_112 kd_69 (Or.inl rfl) ?_
    refine g_ic_lt (pc' := 14) (tgt := 23) dX12_beside_11 rfl rfl (fun c2 => ?_) (fun c2 => ?_)
    · have h := h.1 c2
      refine g_iconst (pc' := 24) (by unfold r32; decide) dX12_beside_23 rfl ?_
      refine g_istore_n (pc' := 25) dX12_beside_24 rfl (by decide) ?_
      refine g_goto (pc' := 104) dX12_beside_25 rfl ?_
      refine g_iload_n (pc' := 105) dX12_beside_104 rfl rfl ?_
      refine g_iconst (pc' := 106) (by unfold r32; decide) dX12_beside_105 rfl ?_
      refine g_ic_eq (pc' := 109) (tgt := 123) dX12_beside_106 rfl rfl (fun c3 => ?_) (fun c3 => absurd (by decide) c3)
      refine g_iload_n (pc' := 124) dX12_beside_123 rfl rfl ?_
      exact g_iret dX12_beside_124 rfl ⟨(by simp only [F_X12_beside, if_pos c1, if_pos c2]), rfl⟩
    · have h := h.2 c2
      refine g_iload_n (pc' := 15) dX12_beside_14 rfl rfl ?_
      refine g_aload_n (pc' := 16) dX12_beside_15 rfl rfl ?_
      refine g_getI (pc' := 19) dX12_beside_16 rfl fl_RX12_112 kd_69 (Or.inl rfl) ?_
      refine g_isub (pc' := 20) dX12_beside_19 rfl ?_
      refine g_goto (pc' := 24) dX12_beside_20 rfl ?_
      refine g_istore_n (pc' := 25) dX12_beside_24 rfl (by decide) ?_
      refine g_goto (pc' := 104) dX12_beside_25 rfl ?_
      refine g_iload_n (pc' := 105) dX12_beside_104 rfl rfl ?_
      refine g_iconst (pc' := 106) (by unfold r32; decide) dX12_beside_105 rfl ?_
      refine g_ic_eq (pc' := 109) (tgt := 123) dX12_beside_106 rfl rfl (fun c4 => ?_) (fun c4 => ?_)
      · have h := h.1 c4
        refine g_iload_n (pc' := 124) dX12_beside_123 rfl rfl ?_
        exact g_iret dX12_beside_124 rfl ⟨(by simp only [F_X12_beside, if_pos c1, if_neg c2, if_pos c4]), rfl⟩
      · have h := h.2 c4
        refine g_aload_n (pc' := 110) dX12_beside_109 rfl rfl ?_
        refine g_getR (pc' := 113) (r := 76) dX12_beside_110 rfl fl_RX12_28 kd_69 rfl rf_69_9 ?_
        refine g_iload_n (pc' := 114) dX12_beside_113 rfl rfl ?_
        obtain ⟨ob5, h⟩ := h
        refine g_iald (pc' := 115) dX12_beside_114 rfl kd_76 ob5 ?_
        refine g_iconst (pc' := 116) (by unfold r32; decide) dX12_beside_115 rfl ?_
        refine g_ic_ne (pc' := 119) (tgt := 123) dX12_beside_116 rfl rfl (fun c6 => ?_) (fun c6 => ?_)
        · refine g_iload_n (pc' := 124) dX12_beside_123 rfl rfl ?_
          exact g_iret dX12_beside_124 rfl ⟨(by simp only [F_X12_beside, if_pos c1, if_neg c2, if_neg c4, if_neg c6]), rfl⟩
        · refine g_iconst (pc' := 120) (by unfold r32; decide) dX12_beside_119 rfl ?_
          refine g_goto (pc' := 124) dX12_beside_120 rfl ?_
          exact g_iret dX12_beside_124 rfl ⟨(by simp only [F_X12_beside, if_pos c1, if_neg c2, if_neg c4, if_pos c6]), rfl⟩
def S_X12_goes (v1 : Int) (v2 : Int) (s : Sto) : Sto := (if F_X12_beside (s 81 v1.toNat) v2 s = (-1) then up s 80 v1.toNat 3 else up s 81 v1.toNat (F_X12_beside (s 81 v1.toNat) v2 s))
def O_X12_goes (v1 : Int) (v2 : Int) (s : Sto) : Prop := (inb v1 8 ∧ (O_X12_beside (s 81 v1.toNat) v2 s ∧ ((F_X12_beside (s 81 v1.toNat) v2 s = (-1) → (inb v1 8 ∧ True)) ∧ (¬ F_X12_beside (s 81 v1.toNat) v2 s = (-1) → (inb v1 8 ∧ True)))))
set_option maxRecDepth 100000 in
theorem C_X12_goes {v1 : Int} {v2 : Int} {s : Sto}  (h : O_X12_goes v1 v2 s) : sr_C yX12_goes cX12_goes 4 none 1 [vR 69, vI v1, vI v2] s (fun r s' => r = 0 ∧ s' = S_X12_goes v1 v2 s) := by
  refine sr_C.of (by decide +kernel) (Nat.le_of_ble_eq_true rfl) ?_
  show sr_G RX12 cX12_goes 4 none 1 0 [(0, vR 69), (1, vI v1), (2, vI v2)] [] s (fun r s' => r = 0 ∧ s' = S_X12_goes v1 v2 s)
  unfold O_X12_goes at h
  refine g_aload_n (pc' := 1) dX12_goes_0 rfl rfl ?_
  refine g_aload_n (pc' := 2) dX12_goes_1 rfl rfl ?_
  refine g_getR (pc' := 5) (r := 81) dX12_goes_2 rfl fl_RX12_43 kd_69 rfl rf_69_17 ?_
  refine g_iload_n (pc' := 6) dX12_goes_5 rfl rfl ?_
  obtain ⟨ob1, h⟩ := h
  refine g_iald (pc' := 7) dX12_goes_6 rfl kd_81 ob1 ?_
  refine g_iload_n (pc' := 8) dX12_goes_7 rfl rfl ?_
  obtain ⟨ob2, h⟩ := h
  refine g_V2i (pc' := 11) dX12_goes_8 rfl mv_RX12_176 kd_69 (by decide) (Nat.le_of_ble_eq_true rfl) (C_X12_beside ob2) (sr_pur ?_)
  refine g_istore_n (pc' := 12) dX12_goes_11 rfl (by decide) ?_
  refine g_iload_n (pc' := 13) dX12_goes_12 rfl rfl ?_
  refine g_iconst (pc' := 14) (by unfold r32; decide) dX12_goes_13 rfl ?_
  refine g_ic_ne (pc' := 17) (tgt := 27) dX12_goes_14 rfl rfl (fun c3 => ?_) (fun c3 => ?_)
  · have h := h.2 c3
    refine g_aload_n (pc' := 28) dX12_goes_27 rfl rfl ?_
    refine g_getR (pc' := 31) (r := 81) dX12_goes_28 rfl fl_RX12_43 kd_69 rfl rf_69_17 ?_
    refine g_iload_n (pc' := 32) dX12_goes_31 rfl rfl ?_
    refine g_iload_n (pc' := 33) dX12_goes_32 rfl rfl ?_
    obtain ⟨ob5, h⟩ := h
    refine g_iast (pc' := 34) dX12_goes_33 rfl kd_81 ob5 ?_
    exact g_vret dX12_goes_34 rfl ⟨rfl, (by simp only [S_X12_goes, if_neg c3])⟩
  · have h := h.1 c3
    refine g_aload_n (pc' := 18) dX12_goes_17 rfl rfl ?_
    refine g_getR (pc' := 21) (r := 80) dX12_goes_18 rfl fl_RX12_40 kd_69 rfl rf_69_16 ?_
    refine g_iload_n (pc' := 22) dX12_goes_21 rfl rfl ?_
    refine g_iconst (pc' := 23) (by unfold r32; decide) dX12_goes_22 rfl ?_
    obtain ⟨ob4, h⟩ := h
    refine g_iast (pc' := 24) dX12_goes_23 rfl kd_80 ob4 ?_
    refine g_goto (pc' := 34) dX12_goes_24 rfl ?_
    exact g_vret dX12_goes_34 rfl ⟨rfl, (by simp only [S_X12_goes, if_pos c3])⟩
def S_X12_moves (v1 : Int) (v2 : Int) (s : Sto) : Sto := (if s 83 v1.toNat ≤ 0 then (if F_X12_isIn (s 69 26) v2 s = 0 then (if s 80 v1.toNat = 1 then (if s 78 v2.toNat = (-1) then s else S_X12_goes v1 (s 78 v2.toNat) s) else s) else (if s 80 v1.toNat = 1 then s else s)) else (if F_X12_isIn (S_X12_goes v1 (up s 83 v1.toNat (w32 ((s 83 v1.toNat) - 1)) 79 (w32 ((w32 (5 * v1)) + 2)).toNat) (up s 83 v1.toNat (w32 ((s 83 v1.toNat) - 1))) 69 26) v2 (S_X12_goes v1 (up s 83 v1.toNat (w32 ((s 83 v1.toNat) - 1)) 79 (w32 ((w32 (5 * v1)) + 2)).toNat) (up s 83 v1.toNat (w32 ((s 83 v1.toNat) - 1)))) = 0 then (if S_X12_goes v1 (up s 83 v1.toNat (w32 ((s 83 v1.toNat) - 1)) 79 (w32 ((w32 (5 * v1)) + 2)).toNat) (up s 83 v1.toNat (w32 ((s 83 v1.toNat) - 1))) 80 v1.toNat = 1 then (if S_X12_goes v1 (up s 83 v1.toNat (w32 ((s 83 v1.toNat) - 1)) 79 (w32 ((w32 (5 * v1)) + 2)).toNat) (up s 83 v1.toNat (w32 ((s 83 v1.toNat) - 1))) 78 v2.toNat = (-1) then S_X12_goes v1 (up s 83 v1.toNat (w32 ((s 83 v1.toNat) - 1)) 79 (w32 ((w32 (5 * v1)) + 2)).toNat) (up s 83 v1.toNat (w32 ((s 83 v1.toNat) - 1))) else S_X12_goes v1 (S_X12_goes v1 (up s 83 v1.toNat (w32 ((s 83 v1.toNat) - 1)) 79 (w32 ((w32 (5 * v1)) + 2)).toNat) (up s 83 v1.toNat (w32 ((s 83 v1.toNat) - 1))) 78 v2.toNat) (S_X12_goes v1 (up s 83 v1.toNat (w32 ((s 83 v1.toNat) - 1)) 79 (w32 ((w32 (5 * v1)) + 2)).toNat) (up s 83 v1.toNat (w32 ((s 83 v1.toNat) - 1))))) else S_X12_goes v1 (up s 83 v1.toNat (w32 ((s 83 v1.toNat) - 1)) 79 (w32 ((w32 (5 * v1)) + 2)).toNat) (up s 83 v1.toNat (w32 ((s 83 v1.toNat) - 1)))) else (if S_X12_goes v1 (up s 83 v1.toNat (w32 ((s 83 v1.toNat) - 1)) 79 (w32 ((w32 (5 * v1)) + 2)).toNat) (up s 83 v1.toNat (w32 ((s 83 v1.toNat) - 1))) 80 v1.toNat = 1 then S_X12_goes v1 (up s 83 v1.toNat (w32 ((s 83 v1.toNat) - 1)) 79 (w32 ((w32 (5 * v1)) + 2)).toNat) (up s 83 v1.toNat (w32 ((s 83 v1.toNat) - 1))) else S_X12_goes v1 (up s 83 v1.toNat (w32 ((s 83 v1.toNat) - 1)) 79 (w32 ((w32 (5 * v1)) + 2)).toNat) (up s 83 v1.toNat (w32 ((s 83 v1.toNat) - 1))))))
def O_X12_moves (v1 : Int) (v2 : Int) (s : Sto) : Prop := (inb v1 8 ∧ ((s 83 v1.toNat ≤ 0 → ((F_X12_isIn (s 69 26) v2 s = 0 → (inb v2 20 ∧ (inb v1 8 ∧ ((s 80 v1.toNat = 1 → ((s 78 v2.toNat = (-1) → True) ∧ (¬ s 78 v2.toNat = (-1) → (O_X12_goes v1 (s 78 v2.toNat) s ∧ True)))) ∧ (¬ s 80 v1.toNat = 1 → True))))) ∧ (¬ F_X12_isIn (s 69 26) v2 s = 0 → (inb v1 8 ∧ True)))) ∧ (¬ s 83 v1.toNat ≤ 0 → (inb v1 8 ∧ (inb v1 8 ∧ (inb (w32 ((w32 (5 * v1)) + 2)) 40 ∧ (O_X12_goes v1 (up s 83 v1.toNat (w32 ((s 83 v1.toNat) - 1)) 79 (w32 ((w32 (5 * v1)) + 2)).toNat) (up s 83 v1.toNat (w32 ((s 83 v1.toNat) - 1))) ∧ ((F_X12_isIn (S_X12_goes v1 (up s 83 v1.toNat (w32 ((s 83 v1.toNat) - 1)) 79 (w32 ((w32 (5 * v1)) + 2)).toNat) (up s 83 v1.toNat (w32 ((s 83 v1.toNat) - 1))) 69 26) v2 (S_X12_goes v1 (up s 83 v1.toNat (w32 ((s 83 v1.toNat) - 1)) 79 (w32 ((w32 (5 * v1)) + 2)).toNat) (up s 83 v1.toNat (w32 ((s 83 v1.toNat) - 1)))) = 0 → (inb v2 20 ∧ (inb v1 8 ∧ ((S_X12_goes v1 (up s 83 v1.toNat (w32 ((s 83 v1.toNat) - 1)) 79 (w32 ((w32 (5 * v1)) + 2)).toNat) (up s 83 v1.toNat (w32 ((s 83 v1.toNat) - 1))) 80 v1.toNat = 1 → ((S_X12_goes v1 (up s 83 v1.toNat (w32 ((s 83 v1.toNat) - 1)) 79 (w32 ((w32 (5 * v1)) + 2)).toNat) (up s 83 v1.toNat (w32 ((s 83 v1.toNat) - 1))) 78 v2.toNat = (-1) → True) ∧ (¬ S_X12_goes v1 (up s 83 v1.toNat (w32 ((s 83 v1.toNat) - 1)) 79 (w32 ((w32 (5 * v1)) + 2)).toNat) (up s 83 v1.toNat (w32 ((s 83 v1.toNat) - 1))) 78 v2.toNat = (-1) → (O_X12_goes v1 (S_X12_goes v1 (up s 83 v1.toNat (w32 ((s 83 v1.toNat) - 1)) 79 (w32 ((w32 (5 * v1)) + 2)).toNat) (up s 83 v1.toNat (w32 ((s 83 v1.toNat) - 1))) 78 v2.toNat) (S_X12_goes v1 (up s 83 v1.toNat (w32 ((s 83 v1.toNat) - 1)) 79 (w32 ((w32 (5 * v1)) + 2)).toNat) (up s 83 v1.toNat (w32 ((s 83 v1.toNat) - 1)))) ∧ True)))) ∧ (¬ S_X12_goes v1 (up s 83 v1.toNat (w32 ((s 83 v1.toNat) - 1)) 79 (w32 ((w32 (5 * v1)) + 2)).toNat) (up s 83 v1.toNat (w32 ((s 83 v1.toNat) - 1))) 80 v1.toNat = 1 → True))))) ∧ (¬ F_X12_isIn (S_X12_goes v1 (up s 83 v1.toNat (w32 ((s 83 v1.toNat) - 1)) 79 (w32 ((w32 (5 * v1)) + 2)).toNat) (up s 83 v1.toNat (w32 ((s 83 v1.toNat) - 1))) 69 26) v2 (S_X12_goes v1 (up s 83 v1.toNat (w32 ((s 83 v1.toNat) - 1)) 79 (w32 ((w32 (5 * v1)) + 2)).toNat) (up s 83 v1.toNat (w32 ((s 83 v1.toNat) - 1)))) = 0 → (inb v1 8 ∧ True))))))))))
set_option maxRecDepth 100000 in
theorem C_X12_moves {v1 : Int} {v2 : Int} {s : Sto}  (h : O_X12_moves v1 v2 s) : sr_C yX12_moves cX12_moves 4 none 2 [vR 69, vI v1, vI v2] s (fun r s' => r = 0 ∧ s' = S_X12_moves v1 v2 s) := by
  refine sr_C.of (by decide +kernel) (Nat.le_of_ble_eq_true rfl) ?_
  show sr_G RX12 cX12_moves 4 none 2 0 [(0, vR 69), (1, vI v1), (2, vI v2)] [] s (fun r s' => r = 0 ∧ s' = S_X12_moves v1 v2 s)
  unfold O_X12_moves at h
  refine g_aload_n (pc' := 1) dX12_moves_0 rfl rfl ?_
  refine g_getR (pc' := 4) (r := 83) dX12_moves_1 rfl fl_RX12_49 kd_69 rfl rf_69_19 ?_
  refine g_iload_n (pc' := 5) dX12_moves_4 rfl rfl ?_
  obtain ⟨ob1, h⟩ := h
  refine g_iald (pc' := 6) dX12_moves_5 rfl kd_83 ob1 ?_
  refine g_if_le (pc' := 9) (tgt := 34) dX12_moves_6 rfl rfl (fun c2 => ?_) (fun c2 => ?_)
  · have h := h.1 c2
    refine g_aload_n (pc' := 35) dX12_moves_34 rfl rfl ?_
    refine g_getI (pc' := 38) dX12_moves_35 rfl fl_RX12_183 kd_69 (Or.inl rfl) ?_
    refine g_iload_n (pc' := 39) dX12_moves_38 rfl rfl ?_
    refine g_S2z (pc' := 42) dX12_moves_39 rfl ms_RX12_186 (by decide) (Nat.le_of_ble_eq_true rfl) C_X12_isIn (sr_purb (fun hb3 => ?_))
    refine g_if_eq (pc' := 45) (tgt := 49) dX12_moves_42 rfl rfl (fun c4 => ?_) (fun c4 => ?_)
    · have h := h.1 c4
      refine g_aload_n (pc' := 50) dX12_moves_49 rfl rfl ?_
      refine g_getR (pc' := 53) (r := 78) dX12_moves_50 rfl fl_RX12_34 kd_69 rfl rf_69_12 ?_
      refine g_iload_n (pc' := 54) dX12_moves_53 rfl rfl ?_
      obtain ⟨ob5, h⟩ := h
      refine g_iald (pc' := 55) dX12_moves_54 rfl kd_78 ob5 ?_
      refine g_istore_n (pc' := 56) dX12_moves_55 rfl (by decide) ?_
      refine g_aload_n (pc' := 57) dX12_moves_56 rfl rfl ?_
      refine g_getR (pc' := 60) (r := 80) dX12_moves_57 rfl fl_RX12_40 kd_69 rfl rf_69_16 ?_
      refine g_iload_n (pc' := 61) dX12_moves_60 rfl rfl ?_
      obtain ⟨ob6, h⟩ := h
      refine g_iald (pc' := 62) dX12_moves_61 rfl kd_80 ob6 ?_
      refine g_iconst (pc' := 63) (by unfold r32; decide) dX12_moves_62 rfl ?_
      refine g_ic_ne (pc' := 66) (tgt := 77) dX12_moves_63 rfl rfl (fun c7 => ?_) (fun c7 => ?_)
      · have h := h.2 c7
        exact g_vret dX12_moves_77 rfl ⟨rfl, (by simp only [S_X12_moves, if_pos c2, if_pos c4, if_neg c7])⟩
      · have h := h.1 c7
        refine g_iload_n (pc' := 67) dX12_moves_66 rfl rfl ?_
        refine g_iconst (pc' := 68) (by unfold r32; decide) dX12_moves_67 rfl ?_
        refine g_ic_eq (pc' := 71) (tgt := 77) dX12_moves_68 rfl rfl (fun c8 => ?_) (fun c8 => ?_)
        · have h := h.1 c8
          exact g_vret dX12_moves_77 rfl ⟨rfl, (by simp only [S_X12_moves, if_pos c2, if_pos c4, if_pos c7, if_pos c8])⟩
        · have h := h.2 c8
          refine g_aload_n (pc' := 72) dX12_moves_71 rfl rfl ?_
          refine g_iload_n (pc' := 73) dX12_moves_72 rfl rfl ?_
          refine g_iload_n (pc' := 74) dX12_moves_73 rfl rfl ?_
          obtain ⟨ob9, h⟩ := h
          refine g_V2v (pc' := 77) dX12_moves_74 rfl mv_RX12_179 kd_69 (by decide) (Nat.le_of_ble_eq_true rfl) (C_X12_goes ob9) (sr_purv ?_)
          exact g_vret dX12_moves_77 rfl ⟨rfl, (by simp only [S_X12_moves, if_pos c2, if_pos c4, if_pos c7, if_neg c8])⟩
    · have h := h.2 c4
      refine g_iconst (pc' := 46) (by unfold r32; decide) dX12_moves_45 rfl ?_
      refine g_goto (pc' := 55) dX12_moves_46 rfl ?_
      refine g_istore_n (pc' := 56) dX12_moves_55 rfl (by decide) ?_
      refine g_aload_n (pc' := 57) dX12_moves_56 rfl rfl ?_
      refine g_getR (pc' := 60) (r := 80) dX12_moves_57 rfl fl_RX12_40 kd_69 rfl rf_69_16 ?_
      refine g_iload_n (pc' := 61) dX12_moves_60 rfl rfl ?_
      obtain ⟨ob10, h⟩ := h
      refine g_iald (pc' := 62) dX12_moves_61 rfl kd_80 ob10 ?_
      refine g_iconst (pc' := 63) (by unfold r32; decide) dX12_moves_62 rfl ?_
      refine g_ic_ne (pc' := 66) (tgt := 77) dX12_moves_63 rfl rfl (fun c11 => ?_) (fun c11 => ?_)
      · exact g_vret dX12_moves_77 rfl ⟨rfl, (by simp only [S_X12_moves, if_pos c2, if_neg c4, if_neg c11])⟩
      · refine g_iload_n (pc' := 67) dX12_moves_66 rfl rfl ?_
        refine g_iconst (pc' := 68) (by unfold r32; decide) dX12_moves_67 rfl ?_
        refine g_ic_eq (pc' := 71) (tgt := 77) dX12_moves_68 rfl rfl (fun c12 => ?_) (fun c12 => absurd (by decide) c12)
        exact g_vret dX12_moves_77 rfl ⟨rfl, (by simp only [S_X12_moves, if_pos c2, if_neg c4, if_pos c11])⟩
  · have h := h.2 c2
    refine g_aload_n (pc' := 10) dX12_moves_9 rfl rfl ?_
    refine g_getR (pc' := 13) (r := 83) dX12_moves_10 rfl fl_RX12_49 kd_69 rfl rf_69_19 ?_
    refine g_iload_n (pc' := 14) dX12_moves_13 rfl rfl ?_
    refine g_dup2 (pc' := 15) dX12_moves_14 rfl ?_
    obtain ⟨ob13, h⟩ := h
    refine g_iald (pc' := 16) dX12_moves_15 rfl kd_83 ob13 ?_
    refine g_iconst (pc' := 17) (by unfold r32; decide) dX12_moves_16 rfl ?_
    refine g_isub (pc' := 18) dX12_moves_17 rfl ?_
    obtain ⟨ob14, h⟩ := h
    refine g_iast (pc' := 19) dX12_moves_18 rfl kd_83 ob14 ?_
    refine g_aload_n (pc' := 20) dX12_moves_19 rfl rfl ?_
    refine g_iload_n (pc' := 21) dX12_moves_20 rfl rfl ?_
    refine g_aload_n (pc' := 22) dX12_moves_21 rfl rfl ?_
    refine g_getR (pc' := 25) (r := 79) dX12_moves_22 rfl fl_RX12_37 kd_69 rfl rf_69_15 ?_
    refine g_iconst (pc' := 26) (by unfold r32; decide) dX12_moves_25 rfl ?_
    refine g_iload_n (pc' := 27) dX12_moves_26 rfl rfl ?_
    refine g_imul (pc' := 28) dX12_moves_27 rfl ?_
    refine g_iconst (pc' := 29) (by unfold r32; decide) dX12_moves_28 rfl ?_
    refine g_iadd (pc' := 30) dX12_moves_29 rfl ?_
    obtain ⟨ob15, h⟩ := h
    refine g_iald (pc' := 31) dX12_moves_30 rfl kd_79 ob15 ?_
    obtain ⟨ob16, h⟩ := h
    refine g_V2v (pc' := 34) dX12_moves_31 rfl mv_RX12_179 kd_69 (by decide) (Nat.le_of_ble_eq_true rfl) (C_X12_goes ob16) (sr_purv ?_)
    refine g_aload_n (pc' := 35) dX12_moves_34 rfl rfl ?_
    refine g_getI (pc' := 38) dX12_moves_35 rfl fl_RX12_183 kd_69 (Or.inl rfl) ?_
    refine g_iload_n (pc' := 39) dX12_moves_38 rfl rfl ?_
    refine g_S2z (pc' := 42) dX12_moves_39 rfl ms_RX12_186 (by decide) (Nat.le_of_ble_eq_true rfl) C_X12_isIn (sr_purb (fun hb17 => ?_))
    refine g_if_eq (pc' := 45) (tgt := 49) dX12_moves_42 rfl rfl (fun c18 => ?_) (fun c18 => ?_)
    · have h := h.1 c18
      refine g_aload_n (pc' := 50) dX12_moves_49 rfl rfl ?_
      refine g_getR (pc' := 53) (r := 78) dX12_moves_50 rfl fl_RX12_34 kd_69 rfl rf_69_12 ?_
      refine g_iload_n (pc' := 54) dX12_moves_53 rfl rfl ?_
      obtain ⟨ob19, h⟩ := h
      refine g_iald (pc' := 55) dX12_moves_54 rfl kd_78 ob19 ?_
      refine g_istore_n (pc' := 56) dX12_moves_55 rfl (by decide) ?_
      refine g_aload_n (pc' := 57) dX12_moves_56 rfl rfl ?_
      refine g_getR (pc' := 60) (r := 80) dX12_moves_57 rfl fl_RX12_40 kd_69 rfl rf_69_16 ?_
      refine g_iload_n (pc' := 61) dX12_moves_60 rfl rfl ?_
      obtain ⟨ob20, h⟩ := h
      refine g_iald (pc' := 62) dX12_moves_61 rfl kd_80 ob20 ?_
      refine g_iconst (pc' := 63) (by unfold r32; decide) dX12_moves_62 rfl ?_
      refine g_ic_ne (pc' := 66) (tgt := 77) dX12_moves_63 rfl rfl (fun c21 => ?_) (fun c21 => ?_)
      · have h := h.2 c21
        exact g_vret dX12_moves_77 rfl ⟨rfl, (by simp only [S_X12_moves, if_neg c2, if_pos c18, if_neg c21])⟩
      · have h := h.1 c21
        refine g_iload_n (pc' := 67) dX12_moves_66 rfl rfl ?_
        refine g_iconst (pc' := 68) (by unfold r32; decide) dX12_moves_67 rfl ?_
        refine g_ic_eq (pc' := 71) (tgt := 77) dX12_moves_68 rfl rfl (fun c22 => ?_) (fun c22 => ?_)
        · have h := h.1 c22
          exact g_vret dX12_moves_77 rfl ⟨rfl, (by simp only [S_X12_moves, if_neg c2, if_pos c18, if_pos c21, if_pos c22])⟩
        · have h := h.2 c22
          refine g_aload_n (pc' := 72) dX12_moves_71 rfl rfl ?_
          refine g_iload_n (pc' := 73) dX12_moves_72 rfl rfl ?_
          refine g_iload_n (pc' := 74) dX12_moves_73 rfl rfl ?_
          obtain ⟨ob23, h⟩ := h
          refine g_V2v (pc' := 77) dX12_moves_74 rfl mv_RX12_179 kd_69 (by decide) (Nat.le_of_ble_eq_true rfl) (C_X12_goes ob23) (sr_purv ?_)
          exact g_vret dX12_moves_77 rfl ⟨rfl, (by simp only [S_X12_moves, if_neg c2, if_pos c18, if_pos c21, if_neg c22])⟩
    · have h := h.2 c18
      refine g_iconst (pc' := 46) (by unfold r32; decide) dX12_moves_45 rfl ?_
      refine g_goto (pc' := 55) dX12_moves_46 rfl ?_
      refine g_istore_n (pc' := 56) dX12_moves_55 rfl (by decide) ?_
      refine g_aload_n (pc' := 57) dX12_moves_56 rfl rfl ?_
      refine g_getR (pc' := 60) (r := 80) dX12_moves_57 rfl fl_RX12_40 kd_69 rfl rf_69_16 ?_
      refine g_iload_n (pc' := 61) dX12_moves_60 rfl rfl ?_
      obtain ⟨ob24, h⟩ := h
      refine g_iald (pc' := 62) dX12_moves_61 rfl kd_80 ob24 ?_
      refine g_iconst (pc' := 63) (by unfold r32; decide) dX12_moves_62 rfl ?_
      refine g_ic_ne (pc' := 66) (tgt := 77) dX12_moves_63 rfl rfl (fun c25 => ?_) (fun c25 => ?_)
      · exact g_vret dX12_moves_77 rfl ⟨rfl, (by simp only [S_X12_moves, if_neg c2, if_neg c18, if_neg c25])⟩
      · refine g_iload_n (pc' := 67) dX12_moves_66 rfl rfl ?_
        refine g_iconst (pc' := 68) (by unfold r32; decide) dX12_moves_67 rfl ?_
        refine g_ic_eq (pc' := 71) (tgt := 77) dX12_moves_68 rfl rfl (fun c26 => ?_) (fun c26 => absurd (by decide) c26)
        exact g_vret dX12_moves_77 rfl ⟨rfl, (by simp only [S_X12_moves, if_neg c2, if_neg c18, if_pos c25])⟩
def S_X12_isBlown (v1 : Int) (s : Sto) : Sto := (if F_X12_isCell (s 79 (w32 ((w32 (5 * v1)) + 1)).toNat) s = 0 then (if F_X12_isCell (s 79 (w32 ((w32 (5 * v1)) + 1)).toNat) (up s 81 v1.toNat ((-1))) = 0 then up (up (up s 81 v1.toNat ((-1))) 80 v1.toNat 3) 82 v1.toNat 1 else (if up s 81 v1.toNat ((-1)) 76 (s 79 (w32 ((w32 (5 * v1)) + 1)).toNat).toNat = 0 then up (up (up s 81 v1.toNat ((-1))) 80 v1.toNat 1) 82 v1.toNat 1 else up (up (up s 81 v1.toNat ((-1))) 80 v1.toNat 3) 82 v1.toNat 1)) else (if F_X12_isCell (s 79 (w32 ((w32 (5 * v1)) + 1)).toNat) (up s 81 v1.toNat (s 79 (w32 ((w32 (5 * v1)) + 1)).toNat)) = 0 then up (up (up s 81 v1.toNat (s 79 (w32 ((w32 (5 * v1)) + 1)).toNat)) 80 v1.toNat 3) 82 v1.toNat 1 else (if up s 81 v1.toNat (s 79 (w32 ((w32 (5 * v1)) + 1)).toNat) 76 (s 79 (w32 ((w32 (5 * v1)) + 1)).toNat).toNat = 0 then up (up (up s 81 v1.toNat (s 79 (w32 ((w32 (5 * v1)) + 1)).toNat)) 80 v1.toNat 1) 82 v1.toNat 1 else up (up (up s 81 v1.toNat (s 79 (w32 ((w32 (5 * v1)) + 1)).toNat)) 80 v1.toNat 3) 82 v1.toNat 1)))
def O_X12_isBlown (v1 : Int) (s : Sto) : Prop := (inb (w32 ((w32 (5 * v1)) + 1)) 40 ∧ ((F_X12_isCell (s 79 (w32 ((w32 (5 * v1)) + 1)).toNat) s = 0 → (inb v1 8 ∧ ((F_X12_isCell (s 79 (w32 ((w32 (5 * v1)) + 1)).toNat) (up s 81 v1.toNat ((-1))) = 0 → (inb v1 8 ∧ (inb v1 8 ∧ True))) ∧ (¬ F_X12_isCell (s 79 (w32 ((w32 (5 * v1)) + 1)).toNat) (up s 81 v1.toNat ((-1))) = 0 → (inb (s 79 (w32 ((w32 (5 * v1)) + 1)).toNat) 36 ∧ ((up s 81 v1.toNat ((-1)) 76 (s 79 (w32 ((w32 (5 * v1)) + 1)).toNat).toNat = 0 → (inb v1 8 ∧ (inb v1 8 ∧ True))) ∧ (¬ up s 81 v1.toNat ((-1)) 76 (s 79 (w32 ((w32 (5 * v1)) + 1)).toNat).toNat = 0 → (inb v1 8 ∧ (inb v1 8 ∧ True))))))))) ∧ (¬ F_X12_isCell (s 79 (w32 ((w32 (5 * v1)) + 1)).toNat) s = 0 → (inb v1 8 ∧ ((F_X12_isCell (s 79 (w32 ((w32 (5 * v1)) + 1)).toNat) (up s 81 v1.toNat (s 79 (w32 ((w32 (5 * v1)) + 1)).toNat)) = 0 → (inb v1 8 ∧ (inb v1 8 ∧ True))) ∧ (¬ F_X12_isCell (s 79 (w32 ((w32 (5 * v1)) + 1)).toNat) (up s 81 v1.toNat (s 79 (w32 ((w32 (5 * v1)) + 1)).toNat)) = 0 → (inb (s 79 (w32 ((w32 (5 * v1)) + 1)).toNat) 36 ∧ ((up s 81 v1.toNat (s 79 (w32 ((w32 (5 * v1)) + 1)).toNat) 76 (s 79 (w32 ((w32 (5 * v1)) + 1)).toNat).toNat = 0 → (inb v1 8 ∧ (inb v1 8 ∧ True))) ∧ (¬ up s 81 v1.toNat (s 79 (w32 ((w32 (5 * v1)) + 1)).toNat) 76 (s 79 (w32 ((w32 (5 * v1)) + 1)).toNat).toNat = 0 → (inb v1 8 ∧ (inb v1 8 ∧ True)))))))))))
set_option maxRecDepth 100000 in
theorem C_X12_isBlown {v1 : Int} {s : Sto}  (h : O_X12_isBlown v1 s) : sr_C yX12_isBlown cX12_isBlown 3 none 2 [vR 69, vI v1] s (fun r s' => r = 0 ∧ s' = S_X12_isBlown v1 s) := by
  refine sr_C.of (by decide +kernel) (Nat.le_of_ble_eq_true rfl) ?_
  show sr_G RX12 cX12_isBlown 3 none 2 0 [(0, vR 69), (1, vI v1)] [] s (fun r s' => r = 0 ∧ s' = S_X12_isBlown v1 s)
  unfold O_X12_isBlown at h
  refine g_aload_n (pc' := 1) dX12_isBlown_0 rfl rfl ?_
  refine g_getR (pc' := 4) (r := 79) dX12_isBlown_1 rfl fl_RX12_37 kd_69 rfl rf_69_15 ?_
  refine g_iconst (pc' := 5) (by unfold r32; decide) dX12_isBlown_4 rfl ?_
  refine g_iload_n (pc' := 6) dX12_isBlown_5 rfl rfl ?_
  refine g_imul (pc' := 7) dX12_isBlown_6 rfl ?_
  refine g_iconst (pc' := 8) (by unfold r32; decide) dX12_isBlown_7 rfl ?_
  refine g_iadd (pc' := 9) dX12_isBlown_8 rfl ?_
  obtain ⟨ob1, h⟩ := h
  refine g_iald (pc' := 10) dX12_isBlown_9 rfl kd_79 ob1 ?_
  refine g_istore_n (pc' := 11) dX12_isBlown_10 rfl (by decide) ?_
  refine g_aload_n (pc' := 12) dX12_isBlown_11 rfl rfl ?_
  refine g_getR (pc' := 15) (r := 81) dX12_isBlown_12 rfl fl_RX12_43 kd_69 rfl rf_69_17 ?_
  refine g_iload_n (pc' := 16) dX12_isBlown_15 rfl rfl ?_
  refine g_aload_n (pc' := 17) dX12_isBlown_16 rfl rfl ?_
  refine g_iload_n (pc' := 18) dX12_isBlown_17 rfl rfl ?_
  refine g_V1z (pc' := 21) dX12_isBlown_18 rfl mv_RX12_190 kd_69 (by decide) (Nat.le_of_ble_eq_true rfl) C_X12_isCell (sr_purb (fun hb2 => ?_))
  refine g_if_eq (pc' := 24) (tgt := 28) dX12_isBlown_21 rfl rfl (fun c3 => ?_) (fun c3 => ?_)
  · have h := h.1 c3
    refine g_iconst (pc' := 29) (by unfold r32; decide) dX12_isBlown_28 rfl ?_
    obtain ⟨ob4, h⟩ := h
    refine g_iast (pc' := 30) dX12_isBlown_29 rfl kd_81 ob4 ?_
    refine g_aload_n (pc' := 31) dX12_isBlown_30 rfl rfl ?_
    refine g_getR (pc' := 34) (r := 80) dX12_isBlown_31 rfl fl_RX12_40 kd_69 rfl rf_69_16 ?_
    refine g_iload_n (pc' := 35) dX12_isBlown_34 rfl rfl ?_
    refine g_aload_n (pc' := 36) dX12_isBlown_35 rfl rfl ?_
    refine g_iload_n (pc' := 37) dX12_isBlown_36 rfl rfl ?_
    refine g_V1z (pc' := 40) dX12_isBlown_37 rfl mv_RX12_190 kd_69 (by decide) (Nat.le_of_ble_eq_true rfl) C_X12_isCell (sr_purb (fun hb5 => ?_))
    refine g_if_eq (pc' := 43) (tgt := 56) dX12_isBlown_40 rfl rfl (fun c6 => ?_) (fun c6 => ?_)
    · have h := h.1 c6
      refine g_iconst (pc' := 57) (by unfold r32; decide) dX12_isBlown_56 rfl ?_
      obtain ⟨ob7, h⟩ := h
      refine g_iast (pc' := 58) dX12_isBlown_57 rfl kd_80 ob7 ?_
      refine g_aload_n (pc' := 59) dX12_isBlown_58 rfl rfl ?_
      refine g_getR (pc' := 62) (r := 82) dX12_isBlown_59 rfl fl_RX12_46 kd_69 rfl rf_69_18 ?_
      refine g_iload_n (pc' := 63) dX12_isBlown_62 rfl rfl ?_
      refine g_iconst (pc' := 64) (by unfold r32; decide) dX12_isBlown_63 rfl ?_
      obtain ⟨ob8, h⟩ := h
      refine g_iast (pc' := 65) dX12_isBlown_64 rfl kd_82 ob8 ?_
      exact g_vret dX12_isBlown_65 rfl ⟨rfl, (by simp only [S_X12_isBlown, if_pos c3, if_pos c6])⟩
    · have h := h.2 c6
      refine g_aload_n (pc' := 44) dX12_isBlown_43 rfl rfl ?_
      refine g_getR (pc' := 47) (r := 76) dX12_isBlown_44 rfl fl_RX12_28 kd_69 rfl rf_69_9 ?_
      refine g_iload_n (pc' := 48) dX12_isBlown_47 rfl rfl ?_
      obtain ⟨ob9, h⟩ := h
      refine g_iald (pc' := 49) dX12_isBlown_48 rfl kd_76 ob9 ?_
      refine g_if_ne (pc' := 52) (tgt := 56) dX12_isBlown_49 rfl rfl (fun c10 => ?_) (fun c10 => ?_)
      · have h := h.2 c10
        refine g_iconst (pc' := 57) (by unfold r32; decide) dX12_isBlown_56 rfl ?_
        obtain ⟨ob13, h⟩ := h
        refine g_iast (pc' := 58) dX12_isBlown_57 rfl kd_80 ob13 ?_
        refine g_aload_n (pc' := 59) dX12_isBlown_58 rfl rfl ?_
        refine g_getR (pc' := 62) (r := 82) dX12_isBlown_59 rfl fl_RX12_46 kd_69 rfl rf_69_18 ?_
        refine g_iload_n (pc' := 63) dX12_isBlown_62 rfl rfl ?_
        refine g_iconst (pc' := 64) (by unfold r32; decide) dX12_isBlown_63 rfl ?_
        obtain ⟨ob14, h⟩ := h
        refine g_iast (pc' := 65) dX12_isBlown_64 rfl kd_82 ob14 ?_
        exact g_vret dX12_isBlown_65 rfl ⟨rfl, (by simp only [S_X12_isBlown, if_pos c3, if_neg c6, if_neg c10])⟩
      · have h := h.1 c10
        refine g_iconst (pc' := 53) (by unfold r32; decide) dX12_isBlown_52 rfl ?_
        refine g_goto (pc' := 57) dX12_isBlown_53 rfl ?_
        obtain ⟨ob11, h⟩ := h
        refine g_iast (pc' := 58) dX12_isBlown_57 rfl kd_80 ob11 ?_
        refine g_aload_n (pc' := 59) dX12_isBlown_58 rfl rfl ?_
        refine g_getR (pc' := 62) (r := 82) dX12_isBlown_59 rfl fl_RX12_46 kd_69 rfl rf_69_18 ?_
        refine g_iload_n (pc' := 63) dX12_isBlown_62 rfl rfl ?_
        refine g_iconst (pc' := 64) (by unfold r32; decide) dX12_isBlown_63 rfl ?_
        obtain ⟨ob12, h⟩ := h
        refine g_iast (pc' := 65) dX12_isBlown_64 rfl kd_82 ob12 ?_
        exact g_vret dX12_isBlown_65 rfl ⟨rfl, (by simp only [S_X12_isBlown, if_pos c3, if_neg c6, if_pos c10])⟩
  · have h := h.2 c3
    refine g_iload_n (pc' := 25) dX12_isBlown_24 rfl rfl ?_
    refine g_goto (pc' := 29) dX12_isBlown_25 rfl ?_
    obtain ⟨ob15, h⟩ := h
    refine g_iast (pc' := 30) dX12_isBlown_29 rfl kd_81 ob15 ?_
    refine g_aload_n (pc' := 31) dX12_isBlown_30 rfl rfl ?_
    refine g_getR (pc' := 34) (r := 80) dX12_isBlown_31 rfl fl_RX12_40 kd_69 rfl rf_69_16 ?_
    refine g_iload_n (pc' := 35) dX12_isBlown_34 rfl rfl ?_
    refine g_aload_n (pc' := 36) dX12_isBlown_35 rfl rfl ?_
    refine g_iload_n (pc' := 37) dX12_isBlown_36 rfl rfl ?_
    refine g_V1z (pc' := 40) dX12_isBlown_37 rfl mv_RX12_190 kd_69 (by decide) (Nat.le_of_ble_eq_true rfl) C_X12_isCell (sr_purb (fun hb16 => ?_))
    refine g_if_eq (pc' := 43) (tgt := 56) dX12_isBlown_40 rfl rfl (fun c17 => ?_) (fun c17 => ?_)
    · have h := h.1 c17
      refine g_iconst (pc' := 57) (by unfold r32; decide) dX12_isBlown_56 rfl ?_
      obtain ⟨ob18, h⟩ := h
      refine g_iast (pc' := 58) dX12_isBlown_57 rfl kd_80 ob18 ?_
      refine g_aload_n (pc' := 59) dX12_isBlown_58 rfl rfl ?_
      refine g_getR (pc' := 62) (r := 82) dX12_isBlown_59 rfl fl_RX12_46 kd_69 rfl rf_69_18 ?_
      refine g_iload_n (pc' := 63) dX12_isBlown_62 rfl rfl ?_
      refine g_iconst (pc' := 64) (by unfold r32; decide) dX12_isBlown_63 rfl ?_
      obtain ⟨ob19, h⟩ := h
      refine g_iast (pc' := 65) dX12_isBlown_64 rfl kd_82 ob19 ?_
      exact g_vret dX12_isBlown_65 rfl ⟨rfl, (by simp only [S_X12_isBlown, if_neg c3, if_pos c17])⟩
    · have h := h.2 c17
      refine g_aload_n (pc' := 44) dX12_isBlown_43 rfl rfl ?_
      refine g_getR (pc' := 47) (r := 76) dX12_isBlown_44 rfl fl_RX12_28 kd_69 rfl rf_69_9 ?_
      refine g_iload_n (pc' := 48) dX12_isBlown_47 rfl rfl ?_
      obtain ⟨ob20, h⟩ := h
      refine g_iald (pc' := 49) dX12_isBlown_48 rfl kd_76 ob20 ?_
      refine g_if_ne (pc' := 52) (tgt := 56) dX12_isBlown_49 rfl rfl (fun c21 => ?_) (fun c21 => ?_)
      · have h := h.2 c21
        refine g_iconst (pc' := 57) (by unfold r32; decide) dX12_isBlown_56 rfl ?_
        obtain ⟨ob24, h⟩ := h
        refine g_iast (pc' := 58) dX12_isBlown_57 rfl kd_80 ob24 ?_
        refine g_aload_n (pc' := 59) dX12_isBlown_58 rfl rfl ?_
        refine g_getR (pc' := 62) (r := 82) dX12_isBlown_59 rfl fl_RX12_46 kd_69 rfl rf_69_18 ?_
        refine g_iload_n (pc' := 63) dX12_isBlown_62 rfl rfl ?_
        refine g_iconst (pc' := 64) (by unfold r32; decide) dX12_isBlown_63 rfl ?_
        obtain ⟨ob25, h⟩ := h
        refine g_iast (pc' := 65) dX12_isBlown_64 rfl kd_82 ob25 ?_
        exact g_vret dX12_isBlown_65 rfl ⟨rfl, (by simp only [S_X12_isBlown, if_neg c3, if_neg c17, if_neg c21])⟩
      · have h := h.1 c21
        refine g_iconst (pc' := 53) (by unfold r32; decide) dX12_isBlown_52 rfl ?_
        refine g_goto (pc' := 57) dX12_isBlown_53 rfl ?_
        obtain ⟨ob22, h⟩ := h
        refine g_iast (pc' := 58) dX12_isBlown_57 rfl kd_80 ob22 ?_
        refine g_aload_n (pc' := 59) dX12_isBlown_58 rfl rfl ?_
        refine g_getR (pc' := 62) (r := 82) dX12_isBlown_59 rfl fl_RX12_46 kd_69 rfl rf_69_18 ?_
        refine g_iload_n (pc' := 63) dX12_isBlown_62 rfl rfl ?_
        refine g_iconst (pc' := 64) (by unfold r32; decide) dX12_isBlown_63 rfl ?_
        obtain ⟨ob23, h⟩ := h
        refine g_iast (pc' := 65) dX12_isBlown_64 rfl kd_82 ob23 ?_
        exact g_vret dX12_isBlown_65 rfl ⟨rfl, (by simp only [S_X12_isBlown, if_neg c3, if_neg c17, if_pos c21])⟩
def S_X12_grows (v1 : Int) (v2 : Int) (s : Sto) : Sto := (if up s 82 v1.toNat (w32 (1 + (w32 ((w32 (v2 - (s 79 (w32 (5 * v1)).toNat))).tdiv (s 69 13))))) 82 v1.toNat ≤ 9 then up (up s 82 v1.toNat (w32 (1 + (w32 ((w32 (v2 - (s 79 (w32 (5 * v1)).toNat))).tdiv (s 69 13)))))) 80 v1.toNat 1 else up (up s 82 v1.toNat (w32 (1 + (w32 ((w32 (v2 - (s 79 (w32 (5 * v1)).toNat))).tdiv (s 69 13)))))) 80 v1.toNat 4)
def O_X12_grows (v1 : Int) (v2 : Int) (s : Sto) : Prop := (inb (w32 (5 * v1)) 40 ∧ ((s 69 13) ≠ 0 ∧ (inb v1 8 ∧ (inb v1 8 ∧ ((up s 82 v1.toNat (w32 (1 + (w32 ((w32 (v2 - (s 79 (w32 (5 * v1)).toNat))).tdiv (s 69 13))))) 82 v1.toNat ≤ 9 → (inb v1 8 ∧ True)) ∧ (¬ up s 82 v1.toNat (w32 (1 + (w32 ((w32 (v2 - (s 79 (w32 (5 * v1)).toNat))).tdiv (s 69 13))))) 82 v1.toNat ≤ 9 → (inb v1 8 ∧ True)))))))
set_option maxRecDepth 100000 in
theorem C_X12_grows {v1 : Int} {v2 : Int} {s : Sto}  (h : O_X12_grows v1 v2 s) : sr_C yX12_grows cX12_grows 3 none 0 [vR 69, vI v1, vI v2] s (fun r s' => r = 0 ∧ s' = S_X12_grows v1 v2 s) := by
  refine sr_C.of (by decide +kernel) (Nat.le_of_ble_eq_true rfl) ?_
  show sr_G RX12 cX12_grows 3 none 0 0 [(0, vR 69), (1, vI v1), (2, vI v2)] [] s (fun r s' => r = 0 ∧ s' = S_X12_grows v1 v2 s)
  unfold O_X12_grows at h
  refine g_aload_n (pc' := 1) dX12_grows_0 rfl rfl ?_
  refine g_getR (pc' := 4) (r := 82) dX12_grows_1 rfl fl_RX12_46 kd_69 rfl rf_69_18 ?_
  refine g_iload_n (pc' := 5) dX12_grows_4 rfl rfl ?_
  refine g_iconst (pc' := 6) (by unfold r32; decide) dX12_grows_5 rfl ?_
  refine g_iload_n (pc' := 7) dX12_grows_6 rfl rfl ?_
  refine g_aload_n (pc' := 8) dX12_grows_7 rfl rfl ?_
  refine g_getR (pc' := 11) (r := 79) dX12_grows_8 rfl fl_RX12_37 kd_69 rfl rf_69_15 ?_
  refine g_iconst (pc' := 12) (by unfold r32; decide) dX12_grows_11 rfl ?_
  refine g_iload_n (pc' := 13) dX12_grows_12 rfl rfl ?_
  refine g_imul (pc' := 14) dX12_grows_13 rfl ?_
  obtain ⟨ob1, h⟩ := h
  refine g_iald (pc' := 15) dX12_grows_14 rfl kd_79 ob1 ?_
  refine g_isub (pc' := 16) dX12_grows_15 rfl ?_
  refine g_aload_n (pc' := 17) dX12_grows_16 rfl rfl ?_
  refine g_getI (pc' := 20) dX12_grows_17 rfl fl_RX12_70 kd_69 (Or.inl rfl) ?_
  obtain ⟨ob2, h⟩ := h
  refine g_idiv (pc' := 21) dX12_grows_20 rfl ob2 ?_
  refine g_iadd (pc' := 22) dX12_grows_21 rfl ?_
  obtain ⟨ob3, h⟩ := h
  refine g_iast (pc' := 23) dX12_grows_22 rfl kd_82 ob3 ?_
  refine g_aload_n (pc' := 24) dX12_grows_23 rfl rfl ?_
  refine g_getR (pc' := 27) (r := 80) dX12_grows_24 rfl fl_RX12_40 kd_69 rfl rf_69_16 ?_
  refine g_iload_n (pc' := 28) dX12_grows_27 rfl rfl ?_
  refine g_aload_n (pc' := 29) dX12_grows_28 rfl rfl ?_
  refine g_getR (pc' := 32) (r := 82) dX12_grows_29 rfl fl_RX12_46 kd_69 rfl rf_69_18 ?_
  refine g_iload_n (pc' := 33) dX12_grows_32 rfl rfl ?_
  obtain ⟨ob4, h⟩ := h
  refine g_iald (pc' := 34) dX12_grows_33 rfl kd_82 ob4 ?_
  refine g_bipush (pc' := 36) ⟨by unfold r32; decide, rfl⟩ dX12_grows_34 rfl ?_
  refine g_ic_le (pc' := 39) (tgt := 43) dX12_grows_36 rfl rfl (fun c5 => ?_) (fun c5 => ?_)
  · have h := h.1 c5
    refine g_iconst (pc' := 44) (by unfold r32; decide) dX12_grows_43 rfl ?_
    obtain ⟨ob6, h⟩ := h
    refine g_iast (pc' := 45) dX12_grows_44 rfl kd_80 ob6 ?_
    exact g_vret dX12_grows_45 rfl ⟨rfl, (by simp only [S_X12_grows, if_pos c5])⟩
  · have h := h.2 c5
    refine g_iconst (pc' := 40) (by unfold r32; decide) dX12_grows_39 rfl ?_
    refine g_goto (pc' := 44) dX12_grows_40 rfl ?_
    obtain ⟨ob7, h⟩ := h
    refine g_iast (pc' := 45) dX12_grows_44 rfl kd_80 ob7 ?_
    exact g_vret dX12_grows_45 rfl ⟨rfl, (by simp only [S_X12_grows, if_neg c5])⟩
def L_X12_meet_15 (v1 : Int) (v3 : Int) (K189 : Int → Sto → Prop) : Nat → Int → Int → Sto → Prop
  | 0, _, _, _ => False
  | n + 1, v2, v4, s => ((s 69 14 ≤ v4 → K189 v2 s) ∧ (¬ s 69 14 ≤ v4 → (((v3 = v4 → True) ∧ (¬ v3 = v4 → (inb v3 8 ∧ ((s 80 v3.toNat = 1 → (inb v4 8 ∧ ((s 80 v4.toNat = 1 → (inb v3 8 ∧ (inb v4 8 ∧ True))) ∧ (¬ s 80 v4.toNat = 1 → True)))) ∧ (¬ s 80 v3.toNat = 1 → True))))) ∧ (∀ x2 : Int, x2 = (if v3 = v4 then 0 else (if s 80 v3.toNat = 1 then (if s 80 v4.toNat = 1 then (if s 81 v3.toNat = s 81 v4.toNat then 1 else 0) else 0) else 0)) → (((x2 = 0 → True) ∧ (¬ x2 = 0 → ((v4 ≤ v3 → True) ∧ (¬ v4 ≤ v3 → (inb v3 8 ∧ (inb v4 8 ∧ True)))))) ∧ (∀ x11 : Int, x11 = (if x2 = 0 then 0 else (if v4 ≤ v3 then 0 else (if s 82 v3.toNat = s 82 v4.toNat then 0 else 1))) → (((x2 = 0 → True) ∧ (¬ x2 = 0 → (inb v3 8 ∧ (inb v4 8 ∧ True)))) ∧ (∀ x17 : Int, x17 = (if x2 = 0 then 0 else (if s 82 v3.toNat = s 82 v4.toNat then iShl 1 v3 else 0)) → (∀ x22 : Int, x22 = iO v2 x17 → (∀ x23 : Int, x23 = (if x11 = 0 then 0 else 1) → (∀ s25 : Sto, s25 = up s 69 23 (w32 ((s 69 23) + x23)) → (∀ x26 : Int, x26 = (if x11 = 0 then s25 69 24 else (if s25 69 24 = (-1) then v1 else s25 69 24)) → (∀ s29 : Sto, s29 = up s25 69 24 x26 → L_X12_meet_15 v1 v3 K189 n x22 (w32 (v4 + 1)) s29)))))))))))))
set_option maxRecDepth 100000 in
theorem SL_X12_meet_15 {v1 : Int} {v3 : Int} {K189 : Int → Sto → Prop} {Q : Int → Sto → Prop}  (hK189 : ∀ v2 s, K189 v2 s → sr_G RX12 cX12_meet 7 none 1 189 [(0, vR 69), (1, vI v1), (2, vI v2), (3, vI v3)] [] s Q) : ∀ n v2 v4 s, L_X12_meet_15 v1 v3 K189 n v2 v4 s → sr_G RX12 cX12_meet 7 none 1 15 [(0, vR 69), (1, vI v1), (2, vI v2), (3, vI v3), (4, vI v4)] [] s Q := by
  intro n
  induction n with
  | zero => intro v2 v4 s h; exact h.elim
  | succ n ih =>
    intro v2 v4 s h
    unfold L_X12_meet_15 at h
    refine g_iload (pc' := 17) dX12_meet_15 rfl rfl ?_
    refine g_aload_n (pc' := 18) dX12_meet_17 rfl rfl ?_
    refine g_getI (pc' := 21) dX12_meet_18 rfl fl_RX12_160 kd_69 (Or.inl rfl) ?_
    refine g_ic_ge (pc' := 24) (tgt := 189) dX12_meet_21 rfl rfl (fun c1 => ?_) (fun c1 => ?_)
    · have h := h.1 c1
      exact (hK189 _ _ h).to ((sb_c rfl (sb_c rfl (sb_c rfl (sb_c rfl sb_n)))))
    · have h := h.2 c1
      refine g_iload_n (pc' := 25) dX12_meet_24 rfl rfl ?_
      refine g_iload (pc' := 27) dX12_meet_25 rfl rfl ?_
      obtain ⟨ho, h⟩ := h
      refine sr_join (v := (if v3 = v4 then 0 else (if s 80 v3.toNat = 1 then (if s 80 v4.toNat = 1 then (if s 81 v3.toNat = s 81 v4.toNat then 1 else 0) else 0) else 0))) (GG := fun x2 => sr_G RX12 cX12_meet 7 none 1 72 [(0, vR 69), (1, vI v1), (2, vI v2), (3, vI v3), (4, vI v4)] [vI x2] s Q) (fun x2 ex2 => ?_) (fun hj => ?_)
      · have h := h x2 ex2
        refine g_istore (pc' := 74) dX12_meet_72 rfl (by decide) ?_
        refine g_iload (pc' := 76) dX12_meet_74 rfl rfl ?_
        obtain ⟨ho, h⟩ := h
        refine sr_join (v := (if x2 = 0 then 0 else (if v4 ≤ v3 then 0 else (if s 82 v3.toNat = s 82 v4.toNat then 0 else 1)))) (GG := fun x11 => sr_G RX12 cX12_meet 7 none 1 106 [(0, vR 69), (1, vI v1), (2, vI v2), (3, vI v3), (4, vI v4), (5, vI x2)] [vI x11] s Q) (fun x11 ex11 => ?_) (fun hj => ?_)
        · have h := h x11 ex11
          refine g_istore (pc' := 108) dX12_meet_106 rfl (by decide) ?_
          refine g_iload_n (pc' := 109) dX12_meet_108 rfl rfl ?_
          refine g_iload (pc' := 111) dX12_meet_109 rfl rfl ?_
          obtain ⟨ho, h⟩ := h
          refine sr_join (v := (if x2 = 0 then 0 else (if s 82 v3.toNat = s 82 v4.toNat then iShl 1 v3 else 0))) (GG := fun x17 => sr_G RX12 cX12_meet 7 none 1 137 [(0, vR 69), (1, vI v1), (3, vI v3), (4, vI v4), (6, vI x11)] [vI x17, vI v2] s Q) (fun x17 ex17 => ?_) (fun hj => ?_)
          · have h := h x17 ex17
            refine g_ior (pc' := 138) dX12_meet_137 rfl ?_
            refine g_topI (fun x22 ex22 => ?_)
            have h := h x22 ex22
            refine g_istore_n (pc' := 139) dX12_meet_138 rfl (by decide) ?_
            refine g_aload_n (pc' := 140) dX12_meet_139 rfl rfl ?_
            refine g_dupR (pc' := 141) dX12_meet_140 rfl ?_
            refine g_getI (pc' := 144) dX12_meet_141 rfl fl_RX12_193 kd_69 (Or.inl rfl) ?_
            refine g_iload (pc' := 146) dX12_meet_144 rfl rfl ?_
            refine sr_join (v := (if x11 = 0 then 0 else 1)) (GG := fun x23 => sr_G RX12 cX12_meet 7 none 1 154 [(0, vR 69), (1, vI v1), (2, vI x22), (3, vI v3), (4, vI v4), (6, vI x11)] [vI x23, vI (s 69 23), vR 69] s Q) (fun x23 ex23 => ?_) (fun hj => ?_)
            · have h := h x23 ex23
              refine g_iadd (pc' := 155) dX12_meet_154 rfl ?_
              refine g_putI (pc' := 158) dX12_meet_155 rfl fp_RX12_193 kd_69 rfl ?_
              refine g_sto (fun s25 es25 => ?_)
              have h := h s25 es25
              refine g_aload_n (pc' := 159) dX12_meet_158 rfl rfl ?_
              refine g_iload (pc' := 161) dX12_meet_159 rfl rfl ?_
              refine sr_join (v := (if x11 = 0 then s25 69 24 else (if s25 69 24 = (-1) then v1 else s25 69 24))) (GG := fun x26 => sr_G RX12 cX12_meet 7 none 1 180 [(0, vR 69), (1, vI v1), (2, vI x22), (3, vI v3), (4, vI v4)] [vI x26, vR 69] s25 Q) (fun x26 ex26 => ?_) (fun hj => ?_)
              · have h := h x26 ex26
                refine g_putI (pc' := 183) dX12_meet_180 rfl fp_RX12_196 kd_69 rfl ?_
                refine g_sto (fun s29 es29 => ?_)
                have h := h s29 es29
                refine g_iinc (pc' := 186) dX12_meet_183 rfl rfl (by decide) ?_
                refine g_goto (pc' := 15) dX12_meet_186 rfl ?_
                exact (ih _ _ _ h).to ((sb_c rfl (sb_c rfl (sb_c rfl (sb_c rfl (sb_c rfl sb_n))))))
              · refine g_if_eq (pc' := 164) (tgt := 176) dX12_meet_161 rfl rfl (fun c27 => ?_) (fun c27 => ?_)
                · refine g_aload_n (pc' := 177) dX12_meet_176 rfl rfl ?_
                  refine g_getI (pc' := 180) dX12_meet_177 rfl fl_RX12_196 kd_69 (Or.inl rfl) ?_
                  exact (hj _ (by rw [if_pos c27])).to ((sb_c rfl (sb_c rfl (sb_c rfl (sb_c rfl (sb_c rfl sb_n))))))
                · refine g_aload_n (pc' := 165) dX12_meet_164 rfl rfl ?_
                  refine g_getI (pc' := 168) dX12_meet_165 rfl fl_RX12_196 kd_69 (Or.inl rfl) ?_
                  refine g_iconst (pc' := 169) (by unfold r32; decide) dX12_meet_168 rfl ?_
                  refine g_ic_ne (pc' := 172) (tgt := 176) dX12_meet_169 rfl rfl (fun c28 => ?_) (fun c28 => ?_)
                  · refine g_aload_n (pc' := 177) dX12_meet_176 rfl rfl ?_
                    refine g_getI (pc' := 180) dX12_meet_177 rfl fl_RX12_196 kd_69 (Or.inl rfl) ?_
                    exact (hj _ (by rw [if_neg c27, if_neg c28])).to ((sb_c rfl (sb_c rfl (sb_c rfl (sb_c rfl (sb_c rfl sb_n))))))
                  · refine g_iload_n (pc' := 173) dX12_meet_172 rfl rfl ?_
                    refine g_goto (pc' := 180) dX12_meet_173 rfl ?_
                    exact (hj _ (by rw [if_neg c27, if_pos c28])).to ((sb_c rfl (sb_c rfl (sb_c rfl (sb_c rfl (sb_c rfl sb_n))))))
            · refine g_if_eq (pc' := 149) (tgt := 153) dX12_meet_146 rfl rfl (fun c24 => ?_) (fun c24 => ?_)
              · refine g_iconst (pc' := 154) (by unfold r32; decide) dX12_meet_153 rfl ?_
                exact (hj _ (by rw [if_pos c24])).to ((sb_c rfl (sb_c rfl (sb_c rfl (sb_c rfl (sb_c rfl (sb_c rfl sb_n)))))))
              · refine g_iconst (pc' := 150) (by unfold r32; decide) dX12_meet_149 rfl ?_
                refine g_goto (pc' := 154) dX12_meet_150 rfl ?_
                exact (hj _ (by rw [if_neg c24])).to ((sb_c rfl (sb_c rfl (sb_c rfl (sb_c rfl (sb_c rfl (sb_c rfl sb_n)))))))
          · refine g_if_eq (pc' := 114) (tgt := 136) dX12_meet_111 rfl rfl (fun c18 => ?_) (fun c18 => ?_)
            · have ho := ho.1 c18
              refine g_iconst (pc' := 137) (by unfold r32; decide) dX12_meet_136 rfl ?_
              exact (hj _ (by rw [if_pos c18])).to ((sb_c rfl (sb_c rfl (sb_c rfl (sb_c rfl (sb_c rfl sb_n))))))
            · have ho := ho.2 c18
              refine g_aload_n (pc' := 115) dX12_meet_114 rfl rfl ?_
              refine g_getR (pc' := 118) (r := 82) dX12_meet_115 rfl fl_RX12_46 kd_69 rfl rf_69_18 ?_
              refine g_iload_n (pc' := 119) dX12_meet_118 rfl rfl ?_
              obtain ⟨ob19, ho⟩ := ho
              refine g_iald (pc' := 120) dX12_meet_119 rfl kd_82 ob19 ?_
              refine g_aload_n (pc' := 121) dX12_meet_120 rfl rfl ?_
              refine g_getR (pc' := 124) (r := 82) dX12_meet_121 rfl fl_RX12_46 kd_69 rfl rf_69_18 ?_
              refine g_iload (pc' := 126) dX12_meet_124 rfl rfl ?_
              obtain ⟨ob20, ho⟩ := ho
              refine g_iald (pc' := 127) dX12_meet_126 rfl kd_82 ob20 ?_
              refine g_ic_ne (pc' := 130) (tgt := 136) dX12_meet_127 rfl rfl (fun c21 => ?_) (fun c21 => ?_)
              · refine g_iconst (pc' := 137) (by unfold r32; decide) dX12_meet_136 rfl ?_
                exact (hj _ (by rw [if_neg c18, if_neg c21])).to ((sb_c rfl (sb_c rfl (sb_c rfl (sb_c rfl (sb_c rfl sb_n))))))
              · refine g_iconst (pc' := 131) (by unfold r32; decide) dX12_meet_130 rfl ?_
                refine g_iload_n (pc' := 132) dX12_meet_131 rfl rfl ?_
                refine g_ishl (pc' := 133) dX12_meet_132 rfl ?_
                refine g_goto (pc' := 137) dX12_meet_133 rfl ?_
                exact (hj _ (by rw [if_neg c18, if_pos c21])).to ((sb_c rfl (sb_c rfl (sb_c rfl (sb_c rfl (sb_c rfl sb_n))))))
        · refine g_if_eq (pc' := 79) (tgt := 105) dX12_meet_76 rfl rfl (fun c12 => ?_) (fun c12 => ?_)
          · have ho := ho.1 c12
            refine g_iconst (pc' := 106) (by unfold r32; decide) dX12_meet_105 rfl ?_
            exact (hj _ (by rw [if_pos c12])).to ((sb_c rfl (sb_c rfl (sb_c rfl (sb_c rfl (sb_c rfl (sb_c rfl sb_n)))))))
          · have ho := ho.2 c12
            refine g_iload_n (pc' := 80) dX12_meet_79 rfl rfl ?_
            refine g_iload (pc' := 82) dX12_meet_80 rfl rfl ?_
            refine g_ic_ge (pc' := 85) (tgt := 105) dX12_meet_82 rfl rfl (fun c13 => ?_) (fun c13 => ?_)
            · have ho := ho.1 c13
              refine g_iconst (pc' := 106) (by unfold r32; decide) dX12_meet_105 rfl ?_
              exact (hj _ (by rw [if_neg c12, if_pos c13])).to ((sb_c rfl (sb_c rfl (sb_c rfl (sb_c rfl (sb_c rfl (sb_c rfl sb_n)))))))
            · have ho := ho.2 c13
              refine g_aload_n (pc' := 86) dX12_meet_85 rfl rfl ?_
              refine g_getR (pc' := 89) (r := 82) dX12_meet_86 rfl fl_RX12_46 kd_69 rfl rf_69_18 ?_
              refine g_iload_n (pc' := 90) dX12_meet_89 rfl rfl ?_
              obtain ⟨ob14, ho⟩ := ho
              refine g_iald (pc' := 91) dX12_meet_90 rfl kd_82 ob14 ?_
              refine g_aload_n (pc' := 92) dX12_meet_91 rfl rfl ?_
              refine g_getR (pc' := 95) (r := 82) dX12_meet_92 rfl fl_RX12_46 kd_69 rfl rf_69_18 ?_
              refine g_iload (pc' := 97) dX12_meet_95 rfl rfl ?_
              obtain ⟨ob15, ho⟩ := ho
              refine g_iald (pc' := 98) dX12_meet_97 rfl kd_82 ob15 ?_
              refine g_ic_eq (pc' := 101) (tgt := 105) dX12_meet_98 rfl rfl (fun c16 => ?_) (fun c16 => ?_)
              · refine g_iconst (pc' := 106) (by unfold r32; decide) dX12_meet_105 rfl ?_
                exact (hj _ (by rw [if_neg c12, if_neg c13, if_pos c16])).to ((sb_c rfl (sb_c rfl (sb_c rfl (sb_c rfl (sb_c rfl (sb_c rfl sb_n)))))))
              · refine g_iconst (pc' := 102) (by unfold r32; decide) dX12_meet_101 rfl ?_
                refine g_goto (pc' := 106) dX12_meet_102 rfl ?_
                exact (hj _ (by rw [if_neg c12, if_neg c13, if_neg c16])).to ((sb_c rfl (sb_c rfl (sb_c rfl (sb_c rfl (sb_c rfl (sb_c rfl sb_n)))))))
      · refine g_ic_eq (pc' := 30) (tgt := 71) dX12_meet_27 rfl rfl (fun c3 => ?_) (fun c3 => ?_)
        · have ho := ho.1 c3
          refine g_iconst (pc' := 72) (by unfold r32; decide) dX12_meet_71 rfl ?_
          exact (hj _ (by rw [if_pos c3])).to ((sb_c rfl (sb_c rfl (sb_c rfl (sb_c rfl (sb_c rfl sb_n))))))
        · have ho := ho.2 c3
          refine g_aload_n (pc' := 31) dX12_meet_30 rfl rfl ?_
          refine g_getR (pc' := 34) (r := 80) dX12_meet_31 rfl fl_RX12_40 kd_69 rfl rf_69_16 ?_
          refine g_iload_n (pc' := 35) dX12_meet_34 rfl rfl ?_
          obtain ⟨ob4, ho⟩ := ho
          refine g_iald (pc' := 36) dX12_meet_35 rfl kd_80 ob4 ?_
          refine g_iconst (pc' := 37) (by unfold r32; decide) dX12_meet_36 rfl ?_
          refine g_ic_ne (pc' := 40) (tgt := 71) dX12_meet_37 rfl rfl (fun c5 => ?_) (fun c5 => ?_)
          · have ho := ho.2 c5
            refine g_iconst (pc' := 72) (by unfold r32; decide) dX12_meet_71 rfl ?_
            exact (hj _ (by rw [if_neg c3, if_neg c5])).to ((sb_c rfl (sb_c rfl (sb_c rfl (sb_c rfl (sb_c rfl sb_n))))))
          · have ho := ho.1 c5
            refine g_aload_n (pc' := 41) dX12_meet_40 rfl rfl ?_
            refine g_getR (pc' := 44) (r := 80) dX12_meet_41 rfl fl_RX12_40 kd_69 rfl rf_69_16 ?_
            refine g_iload (pc' := 46) dX12_meet_44 rfl rfl ?_
            obtain ⟨ob6, ho⟩ := ho
            refine g_iald (pc' := 47) dX12_meet_46 rfl kd_80 ob6 ?_
            refine g_iconst (pc' := 48) (by unfold r32; decide) dX12_meet_47 rfl ?_
            refine g_ic_ne (pc' := 51) (tgt := 71) dX12_meet_48 rfl rfl (fun c7 => ?_) (fun c7 => ?_)
            · have ho := ho.2 c7
              refine g_iconst (pc' := 72) (by unfold r32; decide) dX12_meet_71 rfl ?_
              exact (hj _ (by rw [if_neg c3, if_pos c5, if_neg c7])).to ((sb_c rfl (sb_c rfl (sb_c rfl (sb_c rfl (sb_c rfl sb_n))))))
            · have ho := ho.1 c7
              refine g_aload_n (pc' := 52) dX12_meet_51 rfl rfl ?_
              refine g_getR (pc' := 55) (r := 81) dX12_meet_52 rfl fl_RX12_43 kd_69 rfl rf_69_17 ?_
              refine g_iload_n (pc' := 56) dX12_meet_55 rfl rfl ?_
              obtain ⟨ob8, ho⟩ := ho
              refine g_iald (pc' := 57) dX12_meet_56 rfl kd_81 ob8 ?_
              refine g_aload_n (pc' := 58) dX12_meet_57 rfl rfl ?_
              refine g_getR (pc' := 61) (r := 81) dX12_meet_58 rfl fl_RX12_43 kd_69 rfl rf_69_17 ?_
              refine g_iload (pc' := 63) dX12_meet_61 rfl rfl ?_
              obtain ⟨ob9, ho⟩ := ho
              refine g_iald (pc' := 64) dX12_meet_63 rfl kd_81 ob9 ?_
              refine g_ic_ne (pc' := 67) (tgt := 71) dX12_meet_64 rfl rfl (fun c10 => ?_) (fun c10 => ?_)
              · refine g_iconst (pc' := 72) (by unfold r32; decide) dX12_meet_71 rfl ?_
                exact (hj _ (by rw [if_neg c3, if_pos c5, if_pos c7, if_neg c10])).to ((sb_c rfl (sb_c rfl (sb_c rfl (sb_c rfl (sb_c rfl sb_n))))))
              · refine g_iconst (pc' := 68) (by unfold r32; decide) dX12_meet_67 rfl ?_
                refine g_goto (pc' := 72) dX12_meet_68 rfl ?_
                exact (hj _ (by rw [if_neg c3, if_pos c5, if_pos c7, if_pos c10])).to ((sb_c rfl (sb_c rfl (sb_c rfl (sb_c rfl (sb_c rfl sb_n))))))
def L_X12_meet_4 (v1 : Int) (K195 : Int → Sto → Prop) : Nat → Int → Int → Sto → Prop
  | 0, _, _, _ => False
  | n + 1, v2, v3, s => ((s 69 14 ≤ v3 → K195 v2 s) ∧ (¬ s 69 14 ≤ v3 → (∃ n4, L_X12_meet_15 v1 v3 (fun x2 s3 => L_X12_meet_4 v1 K195 n x2 (w32 (v3 + 1)) s3) n4 v2 0 s)))
set_option maxRecDepth 100000 in
theorem SL_X12_meet_4 {v1 : Int} {K195 : Int → Sto → Prop} {Q : Int → Sto → Prop}  (hK195 : ∀ v2 s, K195 v2 s → sr_G RX12 cX12_meet 7 none 1 195 [(0, vR 69), (2, vI v2)] [] s Q) : ∀ n v2 v3 s, L_X12_meet_4 v1 K195 n v2 v3 s → sr_G RX12 cX12_meet 7 none 1 4 [(0, vR 69), (1, vI v1), (2, vI v2), (3, vI v3)] [] s Q := by
  intro n
  induction n with
  | zero => intro v2 v3 s h; exact h.elim
  | succ n ih =>
    intro v2 v3 s h
    unfold L_X12_meet_4 at h
    refine g_iload_n (pc' := 5) dX12_meet_4 rfl rfl ?_
    refine g_aload_n (pc' := 6) dX12_meet_5 rfl rfl ?_
    refine g_getI (pc' := 9) dX12_meet_6 rfl fl_RX12_160 kd_69 (Or.inl rfl) ?_
    refine g_ic_ge (pc' := 12) (tgt := 195) dX12_meet_9 rfl rfl (fun c1 => ?_) (fun c1 => ?_)
    · have h := h.1 c1
      exact (hK195 _ _ h).to ((sb_c rfl (sb_c rfl sb_n)))
    · have h := h.2 c1
      refine g_iconst (pc' := 13) (by unfold r32; decide) dX12_meet_12 rfl ?_
      refine g_istore (pc' := 15) dX12_meet_13 rfl (by decide) ?_
      obtain ⟨n4, h⟩ := h
      refine (SL_X12_meet_15  (fun x2 s3 h => ?_) n4 _ _ _ h).to ((sb_c rfl (sb_c rfl (sb_c rfl (sb_c rfl (sb_c rfl sb_n))))))
      · refine g_iinc (pc' := 192) dX12_meet_189 rfl rfl (by decide) ?_
        refine g_goto (pc' := 4) dX12_meet_192 rfl ?_
        exact (ih _ _ _ h).to ((sb_c rfl (sb_c rfl (sb_c rfl (sb_c rfl sb_n)))))
def L_X12_meet_197 (v2 : Int) (K235 : Sto → Prop) : Nat → Int → Sto → Prop
  | 0, _, _ => False
  | n + 1, v3, s => ((s 69 14 ≤ v3 → K235 s) ∧ (¬ s 69 14 ≤ v3 → (((F_X12_isIn v2 v3 s = 0 → (inb v3 8 ∧ True)) ∧ (¬ F_X12_isIn v2 v3 s = 0 → True)) ∧ (∀ x3 : Int, x3 = (if F_X12_isIn v2 v3 s = 0 then s 80 v3.toNat else 3) → (inb v3 8 ∧ (∀ s7 : Sto, s7 = up s 80 v3.toNat x3 → L_X12_meet_197 v2 K235 n (w32 (v3 + 1)) s7))))))
set_option maxRecDepth 100000 in
theorem SL_X12_meet_197 {v2 : Int} {K235 : Sto → Prop} {Q : Int → Sto → Prop}  (hK235 : ∀ s, K235 s → sr_G RX12 cX12_meet 7 none 1 235 [] [] s Q) : ∀ n v3 s, L_X12_meet_197 v2 K235 n v3 s → sr_G RX12 cX12_meet 7 none 1 197 [(0, vR 69), (2, vI v2), (3, vI v3)] [] s Q := by
  intro n
  induction n with
  | zero => intro v3 s h; exact h.elim
  | succ n ih =>
    intro v3 s h
    unfold L_X12_meet_197 at h
    refine g_iload_n (pc' := 198) dX12_meet_197 rfl rfl ?_
    refine g_aload_n (pc' := 199) dX12_meet_198 rfl rfl ?_
    refine g_getI (pc' := 202) dX12_meet_199 rfl fl_RX12_160 kd_69 (Or.inl rfl) ?_
    refine g_ic_ge (pc' := 205) (tgt := 235) dX12_meet_202 rfl rfl (fun c1 => ?_) (fun c1 => ?_)
    · have h := h.1 c1
      exact (hK235 _ h).to (sb_n)
    · have h := h.2 c1
      refine g_aload_n (pc' := 206) dX12_meet_205 rfl rfl ?_
      refine g_getR (pc' := 209) (r := 80) dX12_meet_206 rfl fl_RX12_40 kd_69 rfl rf_69_16 ?_
      refine g_iload_n (pc' := 210) dX12_meet_209 rfl rfl ?_
      refine g_iload_n (pc' := 211) dX12_meet_210 rfl rfl ?_
      refine g_iload_n (pc' := 212) dX12_meet_211 rfl rfl ?_
      refine g_S2z (pc' := 215) dX12_meet_212 rfl ms_RX12_186 (by decide) (Nat.le_of_ble_eq_true rfl) C_X12_isIn (sr_purb (fun hb2 => ?_))
      obtain ⟨ho, h⟩ := h
      refine sr_join (v := (if F_X12_isIn v2 v3 s = 0 then s 80 v3.toNat else 3)) (GG := fun x3 => sr_G RX12 cX12_meet 7 none 1 228 [(0, vR 69), (2, vI v2), (3, vI v3)] [vI x3, vI v3, vR 80] s Q) (fun x3 ex3 => ?_) (fun hj => ?_)
      · have h := h x3 ex3
        obtain ⟨ob6, h⟩ := h
        refine g_iast (pc' := 229) dX12_meet_228 rfl kd_80 ob6 ?_
        refine g_sto (fun s7 es7 => ?_)
        have h := h s7 es7
        refine g_iinc (pc' := 232) dX12_meet_229 rfl rfl (by decide) ?_
        refine g_goto (pc' := 197) dX12_meet_232 rfl ?_
        exact (ih _ _ h).to ((sb_c rfl (sb_c rfl (sb_c rfl sb_n))))
      · refine g_if_eq (pc' := 218) (tgt := 222) dX12_meet_215 rfl rfl (fun c4 => ?_) (fun c4 => ?_)
        · have ho := ho.1 c4
          refine g_aload_n (pc' := 223) dX12_meet_222 rfl rfl ?_
          refine g_getR (pc' := 226) (r := 80) dX12_meet_223 rfl fl_RX12_40 kd_69 rfl rf_69_16 ?_
          refine g_iload_n (pc' := 227) dX12_meet_226 rfl rfl ?_
          obtain ⟨ob5, ho⟩ := ho
          refine g_iald (pc' := 228) dX12_meet_227 rfl kd_80 ob5 ?_
          exact (hj _ (by rw [if_pos c4])).to ((sb_c rfl (sb_c rfl (sb_c rfl sb_n))))
        · have ho := ho.2 c4
          refine g_iconst (pc' := 219) (by unfold r32; decide) dX12_meet_218 rfl ?_
          refine g_goto (pc' := 228) dX12_meet_219 rfl ?_
          exact (hj _ (by rw [if_neg c4])).to ((sb_c rfl (sb_c rfl (sb_c rfl sb_n))))
def P_X12_meet (v1 : Int) (s : Sto) (Q : Int → Sto → Prop) : Prop := (∃ n5, L_X12_meet_4 v1 (fun x1 s2 => (∃ n4, L_X12_meet_197 x1 (fun s3 => Q 0 s3) n4 0 s2)) n5 0 0 s)
set_option maxRecDepth 100000 in
theorem C_X12_meet {v1 : Int} {s : Sto} {Q : Int → Sto → Prop}  (h : P_X12_meet v1 s Q) : sr_C yX12_meet cX12_meet 7 none 1 [vR 69, vI v1] s Q := by
  refine sr_C.of (by decide +kernel) (Nat.le_of_ble_eq_true rfl) ?_
  show sr_G RX12 cX12_meet 7 none 1 0 [(0, vR 69), (1, vI v1)] [] s Q
  unfold P_X12_meet at h
  refine g_iconst (pc' := 1) (by unfold r32; decide) dX12_meet_0 rfl ?_
  refine g_istore_n (pc' := 2) dX12_meet_1 rfl (by decide) ?_
  refine g_iconst (pc' := 3) (by unfold r32; decide) dX12_meet_2 rfl ?_
  refine g_istore_n (pc' := 4) dX12_meet_3 rfl (by decide) ?_
  obtain ⟨n5, h⟩ := h
  refine (SL_X12_meet_4  (fun x1 s2 h => ?_) n5 _ _ _ h).to ((sb_c rfl (sb_c rfl (sb_c rfl (sb_c rfl sb_n)))))
  · refine g_iconst (pc' := 196) (by unfold r32; decide) dX12_meet_195 rfl ?_
    refine g_istore_n (pc' := 197) dX12_meet_196 rfl (by decide) ?_
    obtain ⟨n4, h⟩ := h
    refine (SL_X12_meet_197  (fun s3 h => ?_) n4 _ _ h).to ((sb_c rfl (sb_c rfl (sb_c rfl sb_n))))
    · exact g_vret dX12_meet_235 rfl h
def F_X12_fits (v1 : Int) (v2 : Int) (s : Sto) : Int := (if w32 ((s 82 v1.toNat) - (s 77 (w32 ((w32 (3 * v2)) + 1)).toNat)) < 0 then 0 else (if s 77 (w32 ((w32 (3 * v2)) + 2)).toNat = 0 then 1 else (if s 77 (w32 ((w32 (3 * v2)) + 2)).toNat = 1 then (if 1 < w32 ((s 82 v1.toNat) - (s 77 (w32 ((w32 (3 * v2)) + 1)).toNat)) then 0 else 1) else (if 3 < w32 ((s 82 v1.toNat) - (s 77 (w32 ((w32 (3 * v2)) + 1)).toNat)) then 0 else 1))))
def O_X12_fits (v1 : Int) (v2 : Int) (s : Sto) : Prop := (inb v1 8 ∧ (inb (w32 ((w32 (3 * v2)) + 1)) 24 ∧ ((w32 ((s 82 v1.toNat) - (s 77 (w32 ((w32 (3 * v2)) + 1)).toNat)) < 0 → True) ∧ (¬ w32 ((s 82 v1.toNat) - (s 77 (w32 ((w32 (3 * v2)) + 1)).toNat)) < 0 → (inb (w32 ((w32 (3 * v2)) + 2)) 24 ∧ ((s 77 (w32 ((w32 (3 * v2)) + 2)).toNat = 0 → True) ∧ (¬ s 77 (w32 ((w32 (3 * v2)) + 2)).toNat = 0 → (inb (w32 ((w32 (3 * v2)) + 2)) 24 ∧ True))))))))
set_option maxRecDepth 100000 in
theorem C_X12_fits {v1 : Int} {v2 : Int} {s : Sto}  (h : O_X12_fits v1 v2 s) : sr_C yX12_fits cX12_fits 4 (some .boolean) 0 [vR 69, vI v1, vI v2] s (fun r s' => r = F_X12_fits v1 v2 s ∧ s' = s ∧ (r = 0 ∨ r = 1)) := by
  refine sr_C.of (by decide +kernel) (Nat.le_of_ble_eq_true rfl) ?_
  show sr_G RX12 cX12_fits 4 (some .boolean) 0 0 [(0, vR 69), (1, vI v1), (2, vI v2)] [] s (fun r s' => r = F_X12_fits v1 v2 s ∧ s' = s ∧ (r = 0 ∨ r = 1))
  unfold O_X12_fits at h
  refine g_aload_n (pc' := 1) dX12_fits_0 rfl rfl ?_
  refine g_getR (pc' := 4) (r := 82) dX12_fits_1 rfl fl_RX12_46 kd_69 rfl rf_69_18 ?_
  refine g_iload_n (pc' := 5) dX12_fits_4 rfl rfl ?_
  obtain ⟨ob1, h⟩ := h
  refine g_iald (pc' := 6) dX12_fits_5 rfl kd_82 ob1 ?_
  refine g_aload_n (pc' := 7) dX12_fits_6 rfl rfl ?_
  refine g_getR (pc' := 10) (r := 77) dX12_fits_7 rfl fl_RX12_31 kd_69 rfl rf_69_11 ?_
  refine g_iconst (pc' := 11) (by unfold r32; decide) dX12_fits_10 rfl ?_
  refine g_iload_n (pc' := 12) dX12_fits_11 rfl rfl ?_
  refine g_imul (pc' := 13) dX12_fits_12 rfl ?_
  refine g_iconst (pc' := 14) (by unfold r32; decide) dX12_fits_13 rfl ?_
  refine g_iadd (pc' := 15) dX12_fits_14 rfl ?_
  obtain ⟨ob2, h⟩ := h
  refine g_iald (pc' := 16) dX12_fits_15 rfl kd_77 ob2 ?_
  refine g_isub (pc' := 17) dX12_fits_16 rfl ?_
  refine g_istore_n (pc' := 18) dX12_fits_17 rfl (by decide) ?_
  refine g_iload_n (pc' := 19) dX12_fits_18 rfl rfl ?_
  refine g_if_lt (pc' := 22) (tgt := 62) dX12_fits_19 rfl rfl (fun c3 => ?_) (fun c3 => ?_)
  · have h := h.1 c3
    refine g_iconst (pc' := 63) (by unfold r32; decide) dX12_fits_62 rfl ?_
    exact g_zret dX12_fits_63 rfl (Or.inl rfl) ⟨(by simp only [F_X12_fits, if_pos c3]), rfl, (Or.inl rfl)⟩
  · have h := h.2 c3
    refine g_aload_n (pc' := 23) dX12_fits_22 rfl rfl ?_
    refine g_getR (pc' := 26) (r := 77) dX12_fits_23 rfl fl_RX12_31 kd_69 rfl rf_69_11 ?_
    refine g_iconst (pc' := 27) (by unfold r32; decide) dX12_fits_26 rfl ?_
    refine g_iload_n (pc' := 28) dX12_fits_27 rfl rfl ?_
    refine g_imul (pc' := 29) dX12_fits_28 rfl ?_
    refine g_iconst (pc' := 30) (by unfold r32; decide) dX12_fits_29 rfl ?_
    refine g_iadd (pc' := 31) dX12_fits_30 rfl ?_
    obtain ⟨ob4, h⟩ := h
    refine g_iald (pc' := 32) dX12_fits_31 rfl kd_77 ob4 ?_
    refine g_if_eq (pc' := 35) (tgt := 58) dX12_fits_32 rfl rfl (fun c5 => ?_) (fun c5 => ?_)
    · have h := h.1 c5
      refine g_iconst (pc' := 59) (by unfold r32; decide) dX12_fits_58 rfl ?_
      refine g_goto (pc' := 63) dX12_fits_59 rfl ?_
      exact g_zret dX12_fits_63 rfl (Or.inr rfl) ⟨(by simp only [F_X12_fits, if_neg c3, if_pos c5]), rfl, (Or.inr rfl)⟩
    · have h := h.2 c5
      refine g_iload_n (pc' := 36) dX12_fits_35 rfl rfl ?_
      refine g_aload_n (pc' := 37) dX12_fits_36 rfl rfl ?_
      refine g_getR (pc' := 40) (r := 77) dX12_fits_37 rfl fl_RX12_31 kd_69 rfl rf_69_11 ?_
      refine g_iconst (pc' := 41) (by unfold r32; decide) dX12_fits_40 rfl ?_
      refine g_iload_n (pc' := 42) dX12_fits_41 rfl rfl ?_
      refine g_imul (pc' := 43) dX12_fits_42 rfl ?_
      refine g_iconst (pc' := 44) (by unfold r32; decide) dX12_fits_43 rfl ?_
      refine g_iadd (pc' := 45) dX12_fits_44 rfl ?_
      obtain ⟨ob6, h⟩ := h
      refine g_iald (pc' := 46) dX12_fits_45 rfl kd_77 ob6 ?_
      refine g_iconst (pc' := 47) (by unfold r32; decide) dX12_fits_46 rfl ?_
      refine g_ic_ne (pc' := 50) (tgt := 54) dX12_fits_47 rfl rfl (fun c7 => ?_) (fun c7 => ?_)
      · refine g_iconst (pc' := 55) (by unfold r32; decide) dX12_fits_54 rfl ?_
        refine g_ic_gt (pc' := 58) (tgt := 62) dX12_fits_55 rfl rfl (fun c9 => ?_) (fun c9 => ?_)
        · refine g_iconst (pc' := 63) (by unfold r32; decide) dX12_fits_62 rfl ?_
          exact g_zret dX12_fits_63 rfl (Or.inl rfl) ⟨(by simp only [F_X12_fits, if_neg c3, if_neg c5, if_neg c7, if_pos c9]), rfl, (Or.inl rfl)⟩
        · refine g_iconst (pc' := 59) (by unfold r32; decide) dX12_fits_58 rfl ?_
          refine g_goto (pc' := 63) dX12_fits_59 rfl ?_
          exact g_zret dX12_fits_63 rfl (Or.inr rfl) ⟨(by simp only [F_X12_fits, if_neg c3, if_neg c5, if_neg c7, if_neg c9]), rfl, (Or.inr rfl)⟩
      · refine g_iconst (pc' := 51) (by unfold r32; decide) dX12_fits_50 rfl ?_
        refine g_goto (pc' := 55) dX12_fits_51 rfl ?_
        refine g_ic_gt (pc' := 58) (tgt := 62) dX12_fits_55 rfl rfl (fun c8 => ?_) (fun c8 => ?_)
        · refine g_iconst (pc' := 63) (by unfold r32; decide) dX12_fits_62 rfl ?_
          exact g_zret dX12_fits_63 rfl (Or.inl rfl) ⟨(by simp only [F_X12_fits, if_neg c3, if_neg c5, if_pos c7, if_pos c8]), rfl, (Or.inl rfl)⟩
        · refine g_iconst (pc' := 59) (by unfold r32; decide) dX12_fits_58 rfl ?_
          refine g_goto (pc' := 63) dX12_fits_59 rfl ?_
          exact g_zret dX12_fits_63 rfl (Or.inr rfl) ⟨(by simp only [F_X12_fits, if_neg c3, if_neg c5, if_pos c7, if_neg c8]), rfl, (Or.inr rfl)⟩
def L_X12_falls_2 (v1 : Int) (v2 : Int) (K83 : Sto → Prop) : Nat → Int → Sto → Prop
  | 0, _, _ => False
  | n + 1, v3, s => ((s 69 10 ≤ v3 → K83 s) ∧ (¬ s 69 10 ≤ v3 → (inb v1 8 ∧ ((s 80 v1.toNat = 1 → (inb (w32 (3 * v3)) 24 ∧ (inb v1 8 ∧ ((s 77 (w32 (3 * v3)).toNat = s 81 v1.toNat → (inb v3 8 ∧ ((s 85 v3.toNat = (-1) → (O_X12_fits v1 v3 s ∧ ((F_X12_fits v1 v3 s = 0 → L_X12_falls_2 v1 v2 K83 n (w32 (v3 + 1)) s) ∧ (¬ F_X12_fits v1 v3 s = 0 → (inb v3 8 ∧ (∀ s13 : Sto, s13 = up s 85 v3.toNat v1 → (inb v3 8 ∧ (∀ s15 : Sto, s15 = up s13 86 v3.toNat v2 → (inb v1 8 ∧ (∀ s17 : Sto, s17 = up s15 80 v1.toNat 2 → L_X12_falls_2 v1 v2 K83 n (w32 (v3 + 1)) s17)))))))))) ∧ (¬ s 85 v3.toNat = (-1) → L_X12_falls_2 v1 v2 K83 n (w32 (v3 + 1)) s)))) ∧ (¬ s 77 (w32 (3 * v3)).toNat = s 81 v1.toNat → L_X12_falls_2 v1 v2 K83 n (w32 (v3 + 1)) s))))) ∧ (¬ s 80 v1.toNat = 1 → K83 s)))))
set_option maxRecDepth 100000 in
theorem SL_X12_falls_2 {v1 : Int} {v2 : Int} {K83 : Sto → Prop} {Q : Int → Sto → Prop}  (hK83 : ∀ s, K83 s → sr_G RX12 cX12_falls 4 none 1 83 [] [] s Q) : ∀ n v3 s, L_X12_falls_2 v1 v2 K83 n v3 s → sr_G RX12 cX12_falls 4 none 1 2 [(0, vR 69), (1, vI v1), (2, vI v2), (3, vI v3)] [] s Q := by
  intro n
  induction n with
  | zero => intro v3 s h; exact h.elim
  | succ n ih =>
    intro v3 s h
    unfold L_X12_falls_2 at h
    refine g_iload_n (pc' := 3) dX12_falls_2 rfl rfl ?_
    refine g_aload_n (pc' := 4) dX12_falls_3 rfl rfl ?_
    refine g_getI (pc' := 7) dX12_falls_4 rfl fl_RX12_126 kd_69 (Or.inl rfl) ?_
    refine g_ic_ge (pc' := 10) (tgt := 83) dX12_falls_7 rfl rfl (fun c1 => ?_) (fun c1 => ?_)
    · have h := h.1 c1
      exact (hK83 _ h).to (sb_n)
    · have h := h.2 c1
      refine g_aload_n (pc' := 11) dX12_falls_10 rfl rfl ?_
      refine g_getR (pc' := 14) (r := 80) dX12_falls_11 rfl fl_RX12_40 kd_69 rfl rf_69_16 ?_
      refine g_iload_n (pc' := 15) dX12_falls_14 rfl rfl ?_
      obtain ⟨ob2, h⟩ := h
      refine g_iald (pc' := 16) dX12_falls_15 rfl kd_80 ob2 ?_
      refine g_iconst (pc' := 17) (by unfold r32; decide) dX12_falls_16 rfl ?_
      refine g_ic_ne (pc' := 20) (tgt := 83) dX12_falls_17 rfl rfl (fun c3 => ?_) (fun c3 => ?_)
      · have h := h.2 c3
        exact (hK83 _ h).to (sb_n)
      · have h := h.1 c3
        refine g_aload_n (pc' := 21) dX12_falls_20 rfl rfl ?_
        refine g_getR (pc' := 24) (r := 77) dX12_falls_21 rfl fl_RX12_31 kd_69 rfl rf_69_11 ?_
        refine g_iconst (pc' := 25) (by unfold r32; decide) dX12_falls_24 rfl ?_
        refine g_iload_n (pc' := 26) dX12_falls_25 rfl rfl ?_
        refine g_imul (pc' := 27) dX12_falls_26 rfl ?_
        obtain ⟨ob4, h⟩ := h
        refine g_iald (pc' := 28) dX12_falls_27 rfl kd_77 ob4 ?_
        refine g_aload_n (pc' := 29) dX12_falls_28 rfl rfl ?_
        refine g_getR (pc' := 32) (r := 81) dX12_falls_29 rfl fl_RX12_43 kd_69 rfl rf_69_17 ?_
        refine g_iload_n (pc' := 33) dX12_falls_32 rfl rfl ?_
        obtain ⟨ob5, h⟩ := h
        refine g_iald (pc' := 34) dX12_falls_33 rfl kd_81 ob5 ?_
        refine g_ic_ne (pc' := 37) (tgt := 77) dX12_falls_34 rfl rfl (fun c6 => ?_) (fun c6 => ?_)
        · have h := h.2 c6
          refine g_iinc (pc' := 80) dX12_falls_77 rfl rfl (by decide) ?_
          refine g_goto (pc' := 2) dX12_falls_80 rfl ?_
          exact (ih _ _ h).to ((sb_c rfl (sb_c rfl (sb_c rfl (sb_c rfl sb_n)))))
        · have h := h.1 c6
          refine g_aload_n (pc' := 38) dX12_falls_37 rfl rfl ?_
          refine g_getR (pc' := 41) (r := 85) dX12_falls_38 rfl fl_RX12_55 kd_69 rfl rf_69_21 ?_
          refine g_iload_n (pc' := 42) dX12_falls_41 rfl rfl ?_
          obtain ⟨ob7, h⟩ := h
          refine g_iald (pc' := 43) dX12_falls_42 rfl kd_85 ob7 ?_
          refine g_iconst (pc' := 44) (by unfold r32; decide) dX12_falls_43 rfl ?_
          refine g_ic_ne (pc' := 47) (tgt := 77) dX12_falls_44 rfl rfl (fun c8 => ?_) (fun c8 => ?_)
          · have h := h.2 c8
            refine g_iinc (pc' := 80) dX12_falls_77 rfl rfl (by decide) ?_
            refine g_goto (pc' := 2) dX12_falls_80 rfl ?_
            exact (ih _ _ h).to ((sb_c rfl (sb_c rfl (sb_c rfl (sb_c rfl sb_n)))))
          · have h := h.1 c8
            refine g_aload_n (pc' := 48) dX12_falls_47 rfl rfl ?_
            refine g_iload_n (pc' := 49) dX12_falls_48 rfl rfl ?_
            refine g_iload_n (pc' := 50) dX12_falls_49 rfl rfl ?_
            obtain ⟨ob9, h⟩ := h
            refine g_V2z (pc' := 53) dX12_falls_50 rfl mv_RX12_199 kd_69 (by decide) (Nat.le_of_ble_eq_true rfl) (C_X12_fits ob9) (sr_purb (fun hb10 => ?_))
            refine g_if_eq (pc' := 56) (tgt := 77) dX12_falls_53 rfl rfl (fun c11 => ?_) (fun c11 => ?_)
            · have h := h.1 c11
              refine g_iinc (pc' := 80) dX12_falls_77 rfl rfl (by decide) ?_
              refine g_goto (pc' := 2) dX12_falls_80 rfl ?_
              exact (ih _ _ h).to ((sb_c rfl (sb_c rfl (sb_c rfl (sb_c rfl sb_n)))))
            · have h := h.2 c11
              refine g_aload_n (pc' := 57) dX12_falls_56 rfl rfl ?_
              refine g_getR (pc' := 60) (r := 85) dX12_falls_57 rfl fl_RX12_55 kd_69 rfl rf_69_21 ?_
              refine g_iload_n (pc' := 61) dX12_falls_60 rfl rfl ?_
              refine g_iload_n (pc' := 62) dX12_falls_61 rfl rfl ?_
              obtain ⟨ob12, h⟩ := h
              refine g_iast (pc' := 63) dX12_falls_62 rfl kd_85 ob12 ?_
              refine g_sto (fun s13 es13 => ?_)
              have h := h s13 es13
              refine g_aload_n (pc' := 64) dX12_falls_63 rfl rfl ?_
              refine g_getR (pc' := 67) (r := 86) dX12_falls_64 rfl fl_RX12_58 kd_69 rfl rf_69_22 ?_
              refine g_iload_n (pc' := 68) dX12_falls_67 rfl rfl ?_
              refine g_iload_n (pc' := 69) dX12_falls_68 rfl rfl ?_
              obtain ⟨ob14, h⟩ := h
              refine g_iast (pc' := 70) dX12_falls_69 rfl kd_86 ob14 ?_
              refine g_sto (fun s15 es15 => ?_)
              have h := h s15 es15
              refine g_aload_n (pc' := 71) dX12_falls_70 rfl rfl ?_
              refine g_getR (pc' := 74) (r := 80) dX12_falls_71 rfl fl_RX12_40 kd_69 rfl rf_69_16 ?_
              refine g_iload_n (pc' := 75) dX12_falls_74 rfl rfl ?_
              refine g_iconst (pc' := 76) (by unfold r32; decide) dX12_falls_75 rfl ?_
              obtain ⟨ob16, h⟩ := h
              refine g_iast (pc' := 77) dX12_falls_76 rfl kd_80 ob16 ?_
              refine g_sto (fun s17 es17 => ?_)
              have h := h s17 es17
              refine g_iinc (pc' := 80) dX12_falls_77 rfl rfl (by decide) ?_
              refine g_goto (pc' := 2) dX12_falls_80 rfl ?_
              exact (ih _ _ h).to ((sb_c rfl (sb_c rfl (sb_c rfl (sb_c rfl sb_n)))))
def P_X12_falls (v1 : Int) (v2 : Int) (s : Sto) (Q : Int → Sto → Prop) : Prop := (∃ n2, L_X12_falls_2 v1 v2 (fun s1 => Q 0 s1) n2 0 s)
set_option maxRecDepth 100000 in
theorem C_X12_falls {v1 : Int} {v2 : Int} {s : Sto} {Q : Int → Sto → Prop}  (h : P_X12_falls v1 v2 s Q) : sr_C yX12_falls cX12_falls 4 none 1 [vR 69, vI v1, vI v2] s Q := by
  refine sr_C.of (by decide +kernel) (Nat.le_of_ble_eq_true rfl) ?_
  show sr_G RX12 cX12_falls 4 none 1 0 [(0, vR 69), (1, vI v1), (2, vI v2)] [] s Q
  unfold P_X12_falls at h
  refine g_iconst (pc' := 1) (by unfold r32; decide) dX12_falls_0 rfl ?_
  refine g_istore_n (pc' := 2) dX12_falls_1 rfl (by decide) ?_
  obtain ⟨n2, h⟩ := h
  refine (SL_X12_falls_2  (fun s1 h => ?_) n2 _ _ h).to ((sb_c rfl (sb_c rfl (sb_c rfl (sb_c rfl sb_n)))))
  · exact g_vret dX12_falls_83 rfl h
def L_X12_keeps_2 (v1 : Int) (K98 : Sto → Prop) : Nat → Int → Sto → Prop
  | 0, _, _ => False
  | n + 1, v2, s => ((s 69 14 ≤ v2 → K98 s) ∧ (¬ s 69 14 ≤ v2 → (inb v2 8 ∧ (inb (w32 ((w32 (32 * v1)) + (w32 (4 * v2)))) 640 ∧ (∀ s4 : Sto, s4 = up s 84 (w32 ((w32 (32 * v1)) + (w32 (4 * v2)))).toNat (s 80 v2.toNat) → (inb v2 8 ∧ (inb (w32 ((w32 ((w32 (32 * v1)) + (w32 (4 * v2)))) + 1)) 640 ∧ (∀ s7 : Sto, s7 = up s4 84 (w32 ((w32 ((w32 (32 * v1)) + (w32 (4 * v2)))) + 1)).toNat (s4 81 v2.toNat) → (inb v2 8 ∧ (inb (w32 ((w32 ((w32 (32 * v1)) + (w32 (4 * v2)))) + 2)) 640 ∧ (∀ s10 : Sto, s10 = up s7 84 (w32 ((w32 ((w32 (32 * v1)) + (w32 (4 * v2)))) + 2)).toNat (s7 82 v2.toNat) → (inb v2 8 ∧ (inb (w32 ((w32 ((w32 (32 * v1)) + (w32 (4 * v2)))) + 3)) 640 ∧ (∀ s13 : Sto, s13 = up s10 84 (w32 ((w32 ((w32 (32 * v1)) + (w32 (4 * v2)))) + 3)).toNat (s10 83 v2.toNat) → L_X12_keeps_2 v1 K98 n (w32 (v2 + 1)) s13))))))))))))))
set_option maxRecDepth 100000 in
theorem SL_X12_keeps_2 {v1 : Int} {K98 : Sto → Prop} {Q : Int → Sto → Prop}  (hK98 : ∀ s, K98 s → sr_G RX12 cX12_keeps 3 none 0 98 [] [] s Q) : ∀ n v2 s, L_X12_keeps_2 v1 K98 n v2 s → sr_G RX12 cX12_keeps 3 none 0 2 [(0, vR 69), (1, vI v1), (2, vI v2)] [] s Q := by
  intro n
  induction n with
  | zero => intro v2 s h; exact h.elim
  | succ n ih =>
    intro v2 s h
    unfold L_X12_keeps_2 at h
    refine g_iload_n (pc' := 3) dX12_keeps_2 rfl rfl ?_
    refine g_aload_n (pc' := 4) dX12_keeps_3 rfl rfl ?_
    refine g_getI (pc' := 7) dX12_keeps_4 rfl fl_RX12_160 kd_69 (Or.inl rfl) ?_
    refine g_ic_ge (pc' := 10) (tgt := 98) dX12_keeps_7 rfl rfl (fun c1 => ?_) (fun c1 => ?_)
    · have h := h.1 c1
      exact (hK98 _ h).to (sb_n)
    · have h := h.2 c1
      refine g_aload_n (pc' := 11) dX12_keeps_10 rfl rfl ?_
      refine g_getR (pc' := 14) (r := 84) dX12_keeps_11 rfl fl_RX12_52 kd_69 rfl rf_69_20 ?_
      refine g_bipush (pc' := 16) ⟨by unfold r32; decide, rfl⟩ dX12_keeps_14 rfl ?_
      refine g_iload_n (pc' := 17) dX12_keeps_16 rfl rfl ?_
      refine g_imul (pc' := 18) dX12_keeps_17 rfl ?_
      refine g_iconst (pc' := 19) (by unfold r32; decide) dX12_keeps_18 rfl ?_
      refine g_iload_n (pc' := 20) dX12_keeps_19 rfl rfl ?_
      refine g_imul (pc' := 21) dX12_keeps_20 rfl ?_
      refine g_iadd (pc' := 22) dX12_keeps_21 rfl ?_
      refine g_aload_n (pc' := 23) dX12_keeps_22 rfl rfl ?_
      refine g_getR (pc' := 26) (r := 80) dX12_keeps_23 rfl fl_RX12_40 kd_69 rfl rf_69_16 ?_
      refine g_iload_n (pc' := 27) dX12_keeps_26 rfl rfl ?_
      obtain ⟨ob2, h⟩ := h
      refine g_iald (pc' := 28) dX12_keeps_27 rfl kd_80 ob2 ?_
      obtain ⟨ob3, h⟩ := h
      refine g_iast (pc' := 29) dX12_keeps_28 rfl kd_84 ob3 ?_
      refine g_sto (fun s4 es4 => ?_)
      have h := h s4 es4
      refine g_aload_n (pc' := 30) dX12_keeps_29 rfl rfl ?_
      refine g_getR (pc' := 33) (r := 84) dX12_keeps_30 rfl fl_RX12_52 kd_69 rfl rf_69_20 ?_
      refine g_bipush (pc' := 35) ⟨by unfold r32; decide, rfl⟩ dX12_keeps_33 rfl ?_
      refine g_iload_n (pc' := 36) dX12_keeps_35 rfl rfl ?_
      refine g_imul (pc' := 37) dX12_keeps_36 rfl ?_
      refine g_iconst (pc' := 38) (by unfold r32; decide) dX12_keeps_37 rfl ?_
      refine g_iload_n (pc' := 39) dX12_keeps_38 rfl rfl ?_
      refine g_imul (pc' := 40) dX12_keeps_39 rfl ?_
      refine g_iadd (pc' := 41) dX12_keeps_40 rfl ?_
      refine g_iconst (pc' := 42) (by unfold r32; decide) dX12_keeps_41 rfl ?_
      refine g_iadd (pc' := 43) dX12_keeps_42 rfl ?_
      refine g_aload_n (pc' := 44) dX12_keeps_43 rfl rfl ?_
      refine g_getR (pc' := 47) (r := 81) dX12_keeps_44 rfl fl_RX12_43 kd_69 rfl rf_69_17 ?_
      refine g_iload_n (pc' := 48) dX12_keeps_47 rfl rfl ?_
      obtain ⟨ob5, h⟩ := h
      refine g_iald (pc' := 49) dX12_keeps_48 rfl kd_81 ob5 ?_
      obtain ⟨ob6, h⟩ := h
      refine g_iast (pc' := 50) dX12_keeps_49 rfl kd_84 ob6 ?_
      refine g_sto (fun s7 es7 => ?_)
      have h := h s7 es7
      refine g_aload_n (pc' := 51) dX12_keeps_50 rfl rfl ?_
      refine g_getR (pc' := 54) (r := 84) dX12_keeps_51 rfl fl_RX12_52 kd_69 rfl rf_69_20 ?_
      refine g_bipush (pc' := 56) ⟨by unfold r32; decide, rfl⟩ dX12_keeps_54 rfl ?_
      refine g_iload_n (pc' := 57) dX12_keeps_56 rfl rfl ?_
      refine g_imul (pc' := 58) dX12_keeps_57 rfl ?_
      refine g_iconst (pc' := 59) (by unfold r32; decide) dX12_keeps_58 rfl ?_
      refine g_iload_n (pc' := 60) dX12_keeps_59 rfl rfl ?_
      refine g_imul (pc' := 61) dX12_keeps_60 rfl ?_
      refine g_iadd (pc' := 62) dX12_keeps_61 rfl ?_
      refine g_iconst (pc' := 63) (by unfold r32; decide) dX12_keeps_62 rfl ?_
      refine g_iadd (pc' := 64) dX12_keeps_63 rfl ?_
      refine g_aload_n (pc' := 65) dX12_keeps_64 rfl rfl ?_
      refine g_getR (pc' := 68) (r := 82) dX12_keeps_65 rfl fl_RX12_46 kd_69 rfl rf_69_18 ?_
      refine g_iload_n (pc' := 69) dX12_keeps_68 rfl rfl ?_
      obtain ⟨ob8, h⟩ := h
      refine g_iald (pc' := 70) dX12_keeps_69 rfl kd_82 ob8 ?_
      obtain ⟨ob9, h⟩ := h
      refine g_iast (pc' := 71) dX12_keeps_70 rfl kd_84 ob9 ?_
      refine g_sto (fun s10 es10 => ?_)
      have h := h s10 es10
      refine g_aload_n (pc' := 72) dX12_keeps_71 rfl rfl ?_
      refine g_getR (pc' := 75) (r := 84) dX12_keeps_72 rfl fl_RX12_52 kd_69 rfl rf_69_20 ?_
      refine g_bipush (pc' := 77) ⟨by unfold r32; decide, rfl⟩ dX12_keeps_75 rfl ?_
      refine g_iload_n (pc' := 78) dX12_keeps_77 rfl rfl ?_
      refine g_imul (pc' := 79) dX12_keeps_78 rfl ?_
      refine g_iconst (pc' := 80) (by unfold r32; decide) dX12_keeps_79 rfl ?_
      refine g_iload_n (pc' := 81) dX12_keeps_80 rfl rfl ?_
      refine g_imul (pc' := 82) dX12_keeps_81 rfl ?_
      refine g_iadd (pc' := 83) dX12_keeps_82 rfl ?_
      refine g_iconst (pc' := 84) (by unfold r32; decide) dX12_keeps_83 rfl ?_
      refine g_iadd (pc' := 85) dX12_keeps_84 rfl ?_
      refine g_aload_n (pc' := 86) dX12_keeps_85 rfl rfl ?_
      refine g_getR (pc' := 89) (r := 83) dX12_keeps_86 rfl fl_RX12_49 kd_69 rfl rf_69_19 ?_
      refine g_iload_n (pc' := 90) dX12_keeps_89 rfl rfl ?_
      obtain ⟨ob11, h⟩ := h
      refine g_iald (pc' := 91) dX12_keeps_90 rfl kd_83 ob11 ?_
      obtain ⟨ob12, h⟩ := h
      refine g_iast (pc' := 92) dX12_keeps_91 rfl kd_84 ob12 ?_
      refine g_sto (fun s13 es13 => ?_)
      have h := h s13 es13
      refine g_iinc (pc' := 95) dX12_keeps_92 rfl rfl (by decide) ?_
      refine g_goto (pc' := 2) dX12_keeps_95 rfl ?_
      exact (ih _ _ h).to ((sb_c rfl (sb_c rfl (sb_c rfl sb_n))))
def P_X12_keeps (v1 : Int) (s : Sto) (Q : Int → Sto → Prop) : Prop := (∃ n2, L_X12_keeps_2 v1 (fun s1 => Q 0 s1) n2 0 s)
set_option maxRecDepth 100000 in
theorem C_X12_keeps {v1 : Int} {s : Sto} {Q : Int → Sto → Prop}  (h : P_X12_keeps v1 s Q) : sr_C yX12_keeps cX12_keeps 3 none 0 [vR 69, vI v1] s Q := by
  refine sr_C.of (by decide +kernel) (Nat.le_of_ble_eq_true rfl) ?_
  show sr_G RX12 cX12_keeps 3 none 0 0 [(0, vR 69), (1, vI v1)] [] s Q
  unfold P_X12_keeps at h
  refine g_iconst (pc' := 1) (by unfold r32; decide) dX12_keeps_0 rfl ?_
  refine g_istore_n (pc' := 2) dX12_keeps_1 rfl (by decide) ?_
  obtain ⟨n2, h⟩ := h
  refine (SL_X12_keeps_2  (fun s1 h => ?_) n2 _ _ h).to ((sb_c rfl (sb_c rfl (sb_c rfl sb_n))))
  · exact g_vret dX12_keeps_98 rfl h
def L_X12_steps_2 (v1 : Int) (K32 : Sto → Prop) : Nat → Int → Sto → Prop
  | 0, _, _ => False
  | n + 1, v2, s => ((s 69 14 ≤ v2 → K32 s) ∧ (¬ s 69 14 ≤ v2 → (inb v2 8 ∧ ((s 80 v2.toNat = 1 → (O_X12_moves v2 v1 s ∧ (∀ s5 : Sto, s5 = S_X12_moves v2 v1 s → L_X12_steps_2 v1 K32 n (w32 (v2 + 1)) s5))) ∧ (¬ s 80 v2.toNat = 1 → L_X12_steps_2 v1 K32 n (w32 (v2 + 1)) s)))))
set_option maxRecDepth 100000 in
theorem SL_X12_steps_2 {v1 : Int} {K32 : Sto → Prop} {Q : Int → Sto → Prop}  (hK32 : ∀ s, K32 s → sr_G RX12 cX12_steps 3 none 3 32 [(0, vR 69), (1, vI v1)] [] s Q) : ∀ n v2 s, L_X12_steps_2 v1 K32 n v2 s → sr_G RX12 cX12_steps 3 none 3 2 [(0, vR 69), (1, vI v1), (2, vI v2)] [] s Q := by
  intro n
  induction n with
  | zero => intro v2 s h; exact h.elim
  | succ n ih =>
    intro v2 s h
    unfold L_X12_steps_2 at h
    refine g_iload_n (pc' := 3) dX12_steps_2 rfl rfl ?_
    refine g_aload_n (pc' := 4) dX12_steps_3 rfl rfl ?_
    refine g_getI (pc' := 7) dX12_steps_4 rfl fl_RX12_160 kd_69 (Or.inl rfl) ?_
    refine g_ic_ge (pc' := 10) (tgt := 32) dX12_steps_7 rfl rfl (fun c1 => ?_) (fun c1 => ?_)
    · have h := h.1 c1
      exact (hK32 _ h).to ((sb_c rfl (sb_c rfl sb_n)))
    · have h := h.2 c1
      refine g_aload_n (pc' := 11) dX12_steps_10 rfl rfl ?_
      refine g_getR (pc' := 14) (r := 80) dX12_steps_11 rfl fl_RX12_40 kd_69 rfl rf_69_16 ?_
      refine g_iload_n (pc' := 15) dX12_steps_14 rfl rfl ?_
      obtain ⟨ob2, h⟩ := h
      refine g_iald (pc' := 16) dX12_steps_15 rfl kd_80 ob2 ?_
      refine g_iconst (pc' := 17) (by unfold r32; decide) dX12_steps_16 rfl ?_
      refine g_ic_ne (pc' := 20) (tgt := 26) dX12_steps_17 rfl rfl (fun c3 => ?_) (fun c3 => ?_)
      · have h := h.2 c3
        refine g_iinc (pc' := 29) dX12_steps_26 rfl rfl (by decide) ?_
        refine g_goto (pc' := 2) dX12_steps_29 rfl ?_
        exact (ih _ _ h).to ((sb_c rfl (sb_c rfl (sb_c rfl sb_n))))
      · have h := h.1 c3
        refine g_aload_n (pc' := 21) dX12_steps_20 rfl rfl ?_
        refine g_iload_n (pc' := 22) dX12_steps_21 rfl rfl ?_
        refine g_iload_n (pc' := 23) dX12_steps_22 rfl rfl ?_
        obtain ⟨ob4, h⟩ := h
        refine g_V2v (pc' := 26) dX12_steps_23 rfl mv_RX12_202 kd_69 (by decide) (Nat.le_of_ble_eq_true rfl) (C_X12_moves ob4) (sr_purv ?_)
        refine g_sto (fun s5 es5 => ?_)
        have h := h s5 es5
        refine g_iinc (pc' := 29) dX12_steps_26 rfl rfl (by decide) ?_
        refine g_goto (pc' := 2) dX12_steps_29 rfl ?_
        exact (ih _ _ h).to ((sb_c rfl (sb_c rfl (sb_c rfl sb_n))))
def L_X12_steps_34 (v1 : Int) (K76 : Sto → Prop) : Nat → Int → Sto → Prop
  | 0, _, _ => False
  | n + 1, v2, s => ((s 69 14 ≤ v2 → K76 s) ∧ (¬ s 69 14 ≤ v2 → (inb (w32 (5 * v2)) 40 ∧ ((s 79 (w32 (5 * v2)).toNat = v1 → ((F_X12_isIn (s 69 25) v2 s = 0 → (O_X12_isBlown v2 s ∧ (∀ s7 : Sto, s7 = S_X12_isBlown v2 s → L_X12_steps_34 v1 K76 n (w32 (v2 + 1)) s7))) ∧ (¬ F_X12_isIn (s 69 25) v2 s = 0 → L_X12_steps_34 v1 K76 n (w32 (v2 + 1)) s))) ∧ (¬ s 79 (w32 (5 * v2)).toNat = v1 → L_X12_steps_34 v1 K76 n (w32 (v2 + 1)) s)))))
set_option maxRecDepth 100000 in
theorem SL_X12_steps_34 {v1 : Int} {K76 : Sto → Prop} {Q : Int → Sto → Prop}  (hK76 : ∀ s, K76 s → sr_G RX12 cX12_steps 3 none 3 76 [(0, vR 69), (1, vI v1)] [] s Q) : ∀ n v2 s, L_X12_steps_34 v1 K76 n v2 s → sr_G RX12 cX12_steps 3 none 3 34 [(0, vR 69), (1, vI v1), (2, vI v2)] [] s Q := by
  intro n
  induction n with
  | zero => intro v2 s h; exact h.elim
  | succ n ih =>
    intro v2 s h
    unfold L_X12_steps_34 at h
    refine g_iload_n (pc' := 35) dX12_steps_34 rfl rfl ?_
    refine g_aload_n (pc' := 36) dX12_steps_35 rfl rfl ?_
    refine g_getI (pc' := 39) dX12_steps_36 rfl fl_RX12_160 kd_69 (Or.inl rfl) ?_
    refine g_ic_ge (pc' := 42) (tgt := 76) dX12_steps_39 rfl rfl (fun c1 => ?_) (fun c1 => ?_)
    · have h := h.1 c1
      exact (hK76 _ h).to ((sb_c rfl (sb_c rfl sb_n)))
    · have h := h.2 c1
      refine g_aload_n (pc' := 43) dX12_steps_42 rfl rfl ?_
      refine g_getR (pc' := 46) (r := 79) dX12_steps_43 rfl fl_RX12_37 kd_69 rfl rf_69_15 ?_
      refine g_iconst (pc' := 47) (by unfold r32; decide) dX12_steps_46 rfl ?_
      refine g_iload_n (pc' := 48) dX12_steps_47 rfl rfl ?_
      refine g_imul (pc' := 49) dX12_steps_48 rfl ?_
      obtain ⟨ob2, h⟩ := h
      refine g_iald (pc' := 50) dX12_steps_49 rfl kd_79 ob2 ?_
      refine g_iload_n (pc' := 51) dX12_steps_50 rfl rfl ?_
      refine g_ic_ne (pc' := 54) (tgt := 70) dX12_steps_51 rfl rfl (fun c3 => ?_) (fun c3 => ?_)
      · have h := h.2 c3
        refine g_iinc (pc' := 73) dX12_steps_70 rfl rfl (by decide) ?_
        refine g_goto (pc' := 34) dX12_steps_73 rfl ?_
        exact (ih _ _ h).to ((sb_c rfl (sb_c rfl (sb_c rfl sb_n))))
      · have h := h.1 c3
        refine g_aload_n (pc' := 55) dX12_steps_54 rfl rfl ?_
        refine g_getI (pc' := 58) dX12_steps_55 rfl fl_RX12_205 kd_69 (Or.inl rfl) ?_
        refine g_iload_n (pc' := 59) dX12_steps_58 rfl rfl ?_
        refine g_S2z (pc' := 62) dX12_steps_59 rfl ms_RX12_186 (by decide) (Nat.le_of_ble_eq_true rfl) C_X12_isIn (sr_purb (fun hb4 => ?_))
        refine g_if_ne (pc' := 65) (tgt := 70) dX12_steps_62 rfl rfl (fun c5 => ?_) (fun c5 => ?_)
        · have h := h.2 c5
          refine g_iinc (pc' := 73) dX12_steps_70 rfl rfl (by decide) ?_
          refine g_goto (pc' := 34) dX12_steps_73 rfl ?_
          exact (ih _ _ h).to ((sb_c rfl (sb_c rfl (sb_c rfl sb_n))))
        · have h := h.1 c5
          refine g_aload_n (pc' := 66) dX12_steps_65 rfl rfl ?_
          refine g_iload_n (pc' := 67) dX12_steps_66 rfl rfl ?_
          obtain ⟨ob6, h⟩ := h
          refine g_V1v (pc' := 70) dX12_steps_67 rfl mv_RX12_208 kd_69 (by decide) (Nat.le_of_ble_eq_true rfl) (C_X12_isBlown ob6) (sr_purv ?_)
          refine g_sto (fun s7 es7 => ?_)
          have h := h s7 es7
          refine g_iinc (pc' := 73) dX12_steps_70 rfl rfl (by decide) ?_
          refine g_goto (pc' := 34) dX12_steps_73 rfl ?_
          exact (ih _ _ h).to ((sb_c rfl (sb_c rfl (sb_c rfl sb_n))))
def L_X12_steps_78 (v1 : Int) (K108 : Sto → Prop) : Nat → Int → Sto → Prop
  | 0, _, _ => False
  | n + 1, v2, s => ((s 69 14 ≤ v2 → K108 s) ∧ (¬ s 69 14 ≤ v2 → (inb v2 8 ∧ ((s 80 v2.toNat = 1 → (O_X12_grows v2 v1 s ∧ (∀ s5 : Sto, s5 = S_X12_grows v2 v1 s → L_X12_steps_78 v1 K108 n (w32 (v2 + 1)) s5))) ∧ (¬ s 80 v2.toNat = 1 → L_X12_steps_78 v1 K108 n (w32 (v2 + 1)) s)))))
set_option maxRecDepth 100000 in
theorem SL_X12_steps_78 {v1 : Int} {K108 : Sto → Prop} {Q : Int → Sto → Prop}  (hK108 : ∀ s, K108 s → sr_G RX12 cX12_steps 3 none 3 108 [(0, vR 69), (1, vI v1)] [] s Q) : ∀ n v2 s, L_X12_steps_78 v1 K108 n v2 s → sr_G RX12 cX12_steps 3 none 3 78 [(0, vR 69), (1, vI v1), (2, vI v2)] [] s Q := by
  intro n
  induction n with
  | zero => intro v2 s h; exact h.elim
  | succ n ih =>
    intro v2 s h
    unfold L_X12_steps_78 at h
    refine g_iload_n (pc' := 79) dX12_steps_78 rfl rfl ?_
    refine g_aload_n (pc' := 80) dX12_steps_79 rfl rfl ?_
    refine g_getI (pc' := 83) dX12_steps_80 rfl fl_RX12_160 kd_69 (Or.inl rfl) ?_
    refine g_ic_ge (pc' := 86) (tgt := 108) dX12_steps_83 rfl rfl (fun c1 => ?_) (fun c1 => ?_)
    · have h := h.1 c1
      exact (hK108 _ h).to ((sb_c rfl (sb_c rfl sb_n)))
    · have h := h.2 c1
      refine g_aload_n (pc' := 87) dX12_steps_86 rfl rfl ?_
      refine g_getR (pc' := 90) (r := 80) dX12_steps_87 rfl fl_RX12_40 kd_69 rfl rf_69_16 ?_
      refine g_iload_n (pc' := 91) dX12_steps_90 rfl rfl ?_
      obtain ⟨ob2, h⟩ := h
      refine g_iald (pc' := 92) dX12_steps_91 rfl kd_80 ob2 ?_
      refine g_iconst (pc' := 93) (by unfold r32; decide) dX12_steps_92 rfl ?_
      refine g_ic_ne (pc' := 96) (tgt := 102) dX12_steps_93 rfl rfl (fun c3 => ?_) (fun c3 => ?_)
      · have h := h.2 c3
        refine g_iinc (pc' := 105) dX12_steps_102 rfl rfl (by decide) ?_
        refine g_goto (pc' := 78) dX12_steps_105 rfl ?_
        exact (ih _ _ h).to ((sb_c rfl (sb_c rfl (sb_c rfl sb_n))))
      · have h := h.1 c3
        refine g_aload_n (pc' := 97) dX12_steps_96 rfl rfl ?_
        refine g_iload_n (pc' := 98) dX12_steps_97 rfl rfl ?_
        refine g_iload_n (pc' := 99) dX12_steps_98 rfl rfl ?_
        obtain ⟨ob4, h⟩ := h
        refine g_V2v (pc' := 102) dX12_steps_99 rfl mv_RX12_212 kd_69 (by decide) (Nat.le_of_ble_eq_true rfl) (C_X12_grows ob4) (sr_purv ?_)
        refine g_sto (fun s5 es5 => ?_)
        have h := h s5 es5
        refine g_iinc (pc' := 105) dX12_steps_102 rfl rfl (by decide) ?_
        refine g_goto (pc' := 78) dX12_steps_105 rfl ?_
        exact (ih _ _ h).to ((sb_c rfl (sb_c rfl (sb_c rfl sb_n))))
def L_X12_steps_115 (v1 : Int) (K135 : Sto → Prop) : Nat → Int → Sto → Prop
  | 0, _, _ => False
  | n + 1, v2, s => ((s 69 14 ≤ v2 → K135 s) ∧ (¬ s 69 14 ≤ v2 → (P_X12_falls v2 v1 s (fun _ s2 => L_X12_steps_115 v1 K135 n (w32 (v2 + 1)) s2))))
set_option maxRecDepth 100000 in
theorem SL_X12_steps_115 {v1 : Int} {K135 : Sto → Prop} {Q : Int → Sto → Prop}  (hK135 : ∀ s, K135 s → sr_G RX12 cX12_steps 3 none 3 135 [(0, vR 69), (1, vI v1)] [] s Q) : ∀ n v2 s, L_X12_steps_115 v1 K135 n v2 s → sr_G RX12 cX12_steps 3 none 3 115 [(0, vR 69), (1, vI v1), (2, vI v2)] [] s Q := by
  intro n
  induction n with
  | zero => intro v2 s h; exact h.elim
  | succ n ih =>
    intro v2 s h
    unfold L_X12_steps_115 at h
    refine g_iload_n (pc' := 116) dX12_steps_115 rfl rfl ?_
    refine g_aload_n (pc' := 117) dX12_steps_116 rfl rfl ?_
    refine g_getI (pc' := 120) dX12_steps_117 rfl fl_RX12_160 kd_69 (Or.inl rfl) ?_
    refine g_ic_ge (pc' := 123) (tgt := 135) dX12_steps_120 rfl rfl (fun c1 => ?_) (fun c1 => ?_)
    · have h := h.1 c1
      exact (hK135 _ h).to ((sb_c rfl (sb_c rfl sb_n)))
    · have h := h.2 c1
      refine g_aload_n (pc' := 124) dX12_steps_123 rfl rfl ?_
      refine g_iload_n (pc' := 125) dX12_steps_124 rfl rfl ?_
      refine g_iload_n (pc' := 126) dX12_steps_125 rfl rfl ?_
      refine g_V2v (pc' := 129) dX12_steps_126 rfl mv_RX12_218 kd_69 (by decide) (Nat.le_of_ble_eq_true rfl) (C_X12_falls h) (fun s2 h => ?_)
      refine g_iinc (pc' := 132) dX12_steps_129 rfl rfl (by decide) ?_
      refine g_goto (pc' := 115) dX12_steps_132 rfl ?_
      exact (ih _ _ h).to ((sb_c rfl (sb_c rfl (sb_c rfl sb_n))))
def P_X12_steps (v1 : Int) (s : Sto) (Q : Int → Sto → Prop) : Prop := (∃ n12, L_X12_steps_2 v1 (fun s1 => (∃ n11, L_X12_steps_34 v1 (fun s2 => (∃ n10, L_X12_steps_78 v1 (fun s3 => (P_X12_meet v1 s3 (fun _ s4 => (∃ n9, L_X12_steps_115 v1 (fun s6 => (P_X12_keeps v1 s6 (fun _ s7 => Q 0 s7))) n9 0 s4)))) n10 0 s2)) n11 0 s1)) n12 0 s)
set_option maxRecDepth 100000 in
theorem C_X12_steps {v1 : Int} {s : Sto} {Q : Int → Sto → Prop}  (h : P_X12_steps v1 s Q) : sr_C yX12_steps cX12_steps 3 none 3 [vR 69, vI v1] s Q := by
  refine sr_C.of (by decide +kernel) (Nat.le_of_ble_eq_true rfl) ?_
  show sr_G RX12 cX12_steps 3 none 3 0 [(0, vR 69), (1, vI v1)] [] s Q
  unfold P_X12_steps at h
  refine g_iconst (pc' := 1) (by unfold r32; decide) dX12_steps_0 rfl ?_
  refine g_istore_n (pc' := 2) dX12_steps_1 rfl (by decide) ?_
  obtain ⟨n12, h⟩ := h
  refine (SL_X12_steps_2  (fun s1 h => ?_) n12 _ _ h).to ((sb_c rfl (sb_c rfl (sb_c rfl sb_n))))
  · refine g_iconst (pc' := 33) (by unfold r32; decide) dX12_steps_32 rfl ?_
    refine g_istore_n (pc' := 34) dX12_steps_33 rfl (by decide) ?_
    obtain ⟨n11, h⟩ := h
    refine (SL_X12_steps_34  (fun s2 h => ?_) n11 _ _ h).to ((sb_c rfl (sb_c rfl (sb_c rfl sb_n))))
    · refine g_iconst (pc' := 77) (by unfold r32; decide) dX12_steps_76 rfl ?_
      refine g_istore_n (pc' := 78) dX12_steps_77 rfl (by decide) ?_
      obtain ⟨n10, h⟩ := h
      refine (SL_X12_steps_78  (fun s3 h => ?_) n10 _ _ h).to ((sb_c rfl (sb_c rfl (sb_c rfl sb_n))))
      · refine g_aload_n (pc' := 109) dX12_steps_108 rfl rfl ?_
        refine g_iload_n (pc' := 110) dX12_steps_109 rfl rfl ?_
        refine g_V1v (pc' := 113) dX12_steps_110 rfl mv_RX12_215 kd_69 (by decide) (Nat.le_of_ble_eq_true rfl) (C_X12_meet h) (fun s4 h => ?_)
        refine g_iconst (pc' := 114) (by unfold r32; decide) dX12_steps_113 rfl ?_
        refine g_istore_n (pc' := 115) dX12_steps_114 rfl (by decide) ?_
        obtain ⟨n9, h⟩ := h
        refine (SL_X12_steps_115  (fun s6 h => ?_) n9 _ _ h).to ((sb_c rfl (sb_c rfl (sb_c rfl sb_n))))
        · refine g_aload_n (pc' := 136) dX12_steps_135 rfl rfl ?_
          refine g_iload_n (pc' := 137) dX12_steps_136 rfl rfl ?_
          refine g_V1v (pc' := 140) dX12_steps_137 rfl mv_RX12_221 kd_69 (by decide) (Nat.le_of_ble_eq_true rfl) (C_X12_keeps h) (fun s7 h => ?_)
          exact g_vret dX12_steps_140 rfl h
def L_X12_lives_2  (K53 : Sto → Prop) : Nat → Int → Sto → Prop
  | 0, _, _ => False
  | n + 1, v1, s => ((s 69 14 ≤ v1 → K53 s) ∧ (¬ s 69 14 ≤ v1 → (inb v1 8 ∧ (∀ s3 : Sto, s3 = up s 80 v1.toNat 0 → (inb v1 8 ∧ (∀ s5 : Sto, s5 = up s3 81 v1.toNat ((-1)) → (inb v1 8 ∧ (∀ s7 : Sto, s7 = up s5 82 v1.toNat 0 → (inb (w32 ((w32 (5 * v1)) + 3)) 40 ∧ (inb v1 8 ∧ (∀ s10 : Sto, s10 = up s7 83 v1.toNat (s7 79 (w32 ((w32 (5 * v1)) + 3)).toNat) → L_X12_lives_2 K53 n (w32 (v1 + 1)) s10)))))))))))
set_option maxRecDepth 100000 in
theorem SL_X12_lives_2  {K53 : Sto → Prop} {Q : Int → Sto → Prop}  (hK53 : ∀ s, K53 s → sr_G RX12 cX12_lives 2 none 4 53 [(0, vR 69)] [] s Q) : ∀ n v1 s, L_X12_lives_2 K53 n v1 s → sr_G RX12 cX12_lives 2 none 4 2 [(0, vR 69), (1, vI v1)] [] s Q := by
  intro n
  induction n with
  | zero => intro v1 s h; exact h.elim
  | succ n ih =>
    intro v1 s h
    unfold L_X12_lives_2 at h
    refine g_iload_n (pc' := 3) dX12_lives_2 rfl rfl ?_
    refine g_aload_n (pc' := 4) dX12_lives_3 rfl rfl ?_
    refine g_getI (pc' := 7) dX12_lives_4 rfl fl_RX12_160 kd_69 (Or.inl rfl) ?_
    refine g_ic_ge (pc' := 10) (tgt := 53) dX12_lives_7 rfl rfl (fun c1 => ?_) (fun c1 => ?_)
    · have h := h.1 c1
      exact (hK53 _ h).to ((sb_c rfl sb_n))
    · have h := h.2 c1
      refine g_aload_n (pc' := 11) dX12_lives_10 rfl rfl ?_
      refine g_getR (pc' := 14) (r := 80) dX12_lives_11 rfl fl_RX12_40 kd_69 rfl rf_69_16 ?_
      refine g_iload_n (pc' := 15) dX12_lives_14 rfl rfl ?_
      refine g_iconst (pc' := 16) (by unfold r32; decide) dX12_lives_15 rfl ?_
      obtain ⟨ob2, h⟩ := h
      refine g_iast (pc' := 17) dX12_lives_16 rfl kd_80 ob2 ?_
      refine g_sto (fun s3 es3 => ?_)
      have h := h s3 es3
      refine g_aload_n (pc' := 18) dX12_lives_17 rfl rfl ?_
      refine g_getR (pc' := 21) (r := 81) dX12_lives_18 rfl fl_RX12_43 kd_69 rfl rf_69_17 ?_
      refine g_iload_n (pc' := 22) dX12_lives_21 rfl rfl ?_
      refine g_iconst (pc' := 23) (by unfold r32; decide) dX12_lives_22 rfl ?_
      obtain ⟨ob4, h⟩ := h
      refine g_iast (pc' := 24) dX12_lives_23 rfl kd_81 ob4 ?_
      refine g_sto (fun s5 es5 => ?_)
      have h := h s5 es5
      refine g_aload_n (pc' := 25) dX12_lives_24 rfl rfl ?_
      refine g_getR (pc' := 28) (r := 82) dX12_lives_25 rfl fl_RX12_46 kd_69 rfl rf_69_18 ?_
      refine g_iload_n (pc' := 29) dX12_lives_28 rfl rfl ?_
      refine g_iconst (pc' := 30) (by unfold r32; decide) dX12_lives_29 rfl ?_
      obtain ⟨ob6, h⟩ := h
      refine g_iast (pc' := 31) dX12_lives_30 rfl kd_82 ob6 ?_
      refine g_sto (fun s7 es7 => ?_)
      have h := h s7 es7
      refine g_aload_n (pc' := 32) dX12_lives_31 rfl rfl ?_
      refine g_getR (pc' := 35) (r := 83) dX12_lives_32 rfl fl_RX12_49 kd_69 rfl rf_69_19 ?_
      refine g_iload_n (pc' := 36) dX12_lives_35 rfl rfl ?_
      refine g_aload_n (pc' := 37) dX12_lives_36 rfl rfl ?_
      refine g_getR (pc' := 40) (r := 79) dX12_lives_37 rfl fl_RX12_37 kd_69 rfl rf_69_15 ?_
      refine g_iconst (pc' := 41) (by unfold r32; decide) dX12_lives_40 rfl ?_
      refine g_iload_n (pc' := 42) dX12_lives_41 rfl rfl ?_
      refine g_imul (pc' := 43) dX12_lives_42 rfl ?_
      refine g_iconst (pc' := 44) (by unfold r32; decide) dX12_lives_43 rfl ?_
      refine g_iadd (pc' := 45) dX12_lives_44 rfl ?_
      obtain ⟨ob8, h⟩ := h
      refine g_iald (pc' := 46) dX12_lives_45 rfl kd_79 ob8 ?_
      obtain ⟨ob9, h⟩ := h
      refine g_iast (pc' := 47) dX12_lives_46 rfl kd_83 ob9 ?_
      refine g_sto (fun s10 es10 => ?_)
      have h := h s10 es10
      refine g_iinc (pc' := 50) dX12_lives_47 rfl rfl (by decide) ?_
      refine g_goto (pc' := 2) dX12_lives_50 rfl ?_
      exact (ih _ _ h).to ((sb_c rfl (sb_c rfl sb_n)))
def L_X12_lives_55  (K83 : Sto → Prop) : Nat → Int → Sto → Prop
  | 0, _, _ => False
  | n + 1, v1, s => ((s 69 10 ≤ v1 → K83 s) ∧ (¬ s 69 10 ≤ v1 → (inb v1 8 ∧ (∀ s3 : Sto, s3 = up s 85 v1.toNat ((-1)) → (inb v1 8 ∧ (∀ s5 : Sto, s5 = up s3 86 v1.toNat ((-1)) → L_X12_lives_55 K83 n (w32 (v1 + 1)) s5))))))
set_option maxRecDepth 100000 in
theorem SL_X12_lives_55  {K83 : Sto → Prop} {Q : Int → Sto → Prop}  (hK83 : ∀ s, K83 s → sr_G RX12 cX12_lives 2 none 4 83 [(0, vR 69)] [] s Q) : ∀ n v1 s, L_X12_lives_55 K83 n v1 s → sr_G RX12 cX12_lives 2 none 4 55 [(0, vR 69), (1, vI v1)] [] s Q := by
  intro n
  induction n with
  | zero => intro v1 s h; exact h.elim
  | succ n ih =>
    intro v1 s h
    unfold L_X12_lives_55 at h
    refine g_iload_n (pc' := 56) dX12_lives_55 rfl rfl ?_
    refine g_aload_n (pc' := 57) dX12_lives_56 rfl rfl ?_
    refine g_getI (pc' := 60) dX12_lives_57 rfl fl_RX12_126 kd_69 (Or.inl rfl) ?_
    refine g_ic_ge (pc' := 63) (tgt := 83) dX12_lives_60 rfl rfl (fun c1 => ?_) (fun c1 => ?_)
    · have h := h.1 c1
      exact (hK83 _ h).to ((sb_c rfl sb_n))
    · have h := h.2 c1
      refine g_aload_n (pc' := 64) dX12_lives_63 rfl rfl ?_
      refine g_getR (pc' := 67) (r := 85) dX12_lives_64 rfl fl_RX12_55 kd_69 rfl rf_69_21 ?_
      refine g_iload_n (pc' := 68) dX12_lives_67 rfl rfl ?_
      refine g_iconst (pc' := 69) (by unfold r32; decide) dX12_lives_68 rfl ?_
      obtain ⟨ob2, h⟩ := h
      refine g_iast (pc' := 70) dX12_lives_69 rfl kd_85 ob2 ?_
      refine g_sto (fun s3 es3 => ?_)
      have h := h s3 es3
      refine g_aload_n (pc' := 71) dX12_lives_70 rfl rfl ?_
      refine g_getR (pc' := 74) (r := 86) dX12_lives_71 rfl fl_RX12_58 kd_69 rfl rf_69_22 ?_
      refine g_iload_n (pc' := 75) dX12_lives_74 rfl rfl ?_
      refine g_iconst (pc' := 76) (by unfold r32; decide) dX12_lives_75 rfl ?_
      obtain ⟨ob4, h⟩ := h
      refine g_iast (pc' := 77) dX12_lives_76 rfl kd_86 ob4 ?_
      refine g_sto (fun s5 es5 => ?_)
      have h := h s5 es5
      refine g_iinc (pc' := 80) dX12_lives_77 rfl rfl (by decide) ?_
      refine g_goto (pc' := 55) dX12_lives_80 rfl ?_
      exact (ih _ _ h).to ((sb_c rfl (sb_c rfl sb_n)))
def L_X12_lives_95  (K112 : Sto → Prop) : Nat → Int → Sto → Prop
  | 0, _, _ => False
  | n + 1, v1, s => ((20 ≤ v1 → K112 s) ∧ (¬ 20 ≤ v1 → (P_X12_steps v1 s (fun _ s2 => L_X12_lives_95 K112 n (w32 (v1 + 1)) s2))))
set_option maxRecDepth 100000 in
theorem SL_X12_lives_95  {K112 : Sto → Prop} {Q : Int → Sto → Prop}  (hK112 : ∀ s, K112 s → sr_G RX12 cX12_lives 2 none 4 112 [] [] s Q) : ∀ n v1 s, L_X12_lives_95 K112 n v1 s → sr_G RX12 cX12_lives 2 none 4 95 [(0, vR 69), (1, vI v1)] [] s Q := by
  intro n
  induction n with
  | zero => intro v1 s h; exact h.elim
  | succ n ih =>
    intro v1 s h
    unfold L_X12_lives_95 at h
    refine g_iload_n (pc' := 96) dX12_lives_95 rfl rfl ?_
    refine g_bipush (pc' := 98) ⟨by unfold r32; decide, rfl⟩ dX12_lives_96 rfl ?_
    refine g_ic_ge (pc' := 101) (tgt := 112) dX12_lives_98 rfl rfl (fun c1 => ?_) (fun c1 => ?_)
    · have h := h.1 c1
      exact (hK112 _ h).to (sb_n)
    · have h := h.2 c1
      refine g_aload_n (pc' := 102) dX12_lives_101 rfl rfl ?_
      refine g_iload_n (pc' := 103) dX12_lives_102 rfl rfl ?_
      refine g_V1v (pc' := 106) dX12_lives_103 rfl mv_RX12_224 kd_69 (by decide) (Nat.le_of_ble_eq_true rfl) (C_X12_steps h) (fun s2 h => ?_)
      refine g_iinc (pc' := 109) dX12_lives_106 rfl rfl (by decide) ?_
      refine g_goto (pc' := 95) dX12_lives_109 rfl ?_
      exact (ih _ _ h).to ((sb_c rfl (sb_c rfl sb_n)))
def P_X12_lives (s : Sto) (Q : Int → Sto → Prop) : Prop := (∃ n8, L_X12_lives_2 (fun s1 => (∃ n7, L_X12_lives_55 (fun s2 => (∀ s3 : Sto, s3 = up s2 69 23 0 → (∀ s4 : Sto, s4 = up s3 69 24 ((-1)) → (∃ n6, L_X12_lives_95 (fun s5 => Q 0 s5) n6 0 s4)))) n7 0 s1)) n8 0 s)
set_option maxRecDepth 100000 in
theorem C_X12_lives {s : Sto} {Q : Int → Sto → Prop}  (h : P_X12_lives s Q) : sr_C yX12_lives cX12_lives 2 none 4 [vR 69] s Q := by
  refine sr_C.of (by decide +kernel) (Nat.le_of_ble_eq_true rfl) ?_
  show sr_G RX12 cX12_lives 2 none 4 0 [(0, vR 69)] [] s Q
  unfold P_X12_lives at h
  refine g_iconst (pc' := 1) (by unfold r32; decide) dX12_lives_0 rfl ?_
  refine g_istore_n (pc' := 2) dX12_lives_1 rfl (by decide) ?_
  obtain ⟨n8, h⟩ := h
  refine (SL_X12_lives_2  (fun s1 h => ?_) n8 _ _ h).to ((sb_c rfl (sb_c rfl sb_n)))
  · refine g_iconst (pc' := 54) (by unfold r32; decide) dX12_lives_53 rfl ?_
    refine g_istore_n (pc' := 55) dX12_lives_54 rfl (by decide) ?_
    obtain ⟨n7, h⟩ := h
    refine (SL_X12_lives_55  (fun s2 h => ?_) n7 _ _ h).to ((sb_c rfl (sb_c rfl sb_n)))
    · refine g_aload_n (pc' := 84) dX12_lives_83 rfl rfl ?_
      refine g_iconst (pc' := 85) (by unfold r32; decide) dX12_lives_84 rfl ?_
      refine g_putI (pc' := 88) dX12_lives_85 rfl fp_RX12_193 kd_69 rfl ?_
      refine g_sto (fun s3 es3 => ?_)
      have h := h s3 es3
      refine g_aload_n (pc' := 89) dX12_lives_88 rfl rfl ?_
      refine g_iconst (pc' := 90) (by unfold r32; decide) dX12_lives_89 rfl ?_
      refine g_putI (pc' := 93) dX12_lives_90 rfl fp_RX12_196 kd_69 rfl ?_
      refine g_sto (fun s4 es4 => ?_)
      have h := h s4 es4
      refine g_iconst (pc' := 94) (by unfold r32; decide) dX12_lives_93 rfl ?_
      refine g_istore_n (pc' := 95) dX12_lives_94 rfl (by decide) ?_
      obtain ⟨n6, h⟩ := h
      refine (SL_X12_lives_95  (fun s5 h => ?_) n6 _ _ h).to ((sb_c rfl (sb_c rfl sb_n)))
      · exact g_vret dX12_lives_112 rfl h
