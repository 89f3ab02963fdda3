def S_X10_link (v1 : Int) (v2 : Int) (s : Sto) : Sto := (if v2 ≤ 0 then (if w32 (v2 - 1) ≤ 0 then S_X10_link_ v1 3 (w32 (v1 - 1)) 0 (S_X10_link_ v1 2 (w32 (v1 + v2)) 1 (S_X10_link_ v1 1 (w32 (v1 + 1)) 0 (S_X10_link_ v1 0 (w32 (v1 - v2)) 1 s))) else S_X10_link_ v1 3 (w32 (v1 - 1)) 0 (S_X10_link_ v1 2 (w32 (v1 + v2)) 1 (S_X10_link_ v1 1 (w32 (v1 + 1)) 1 (S_X10_link_ v1 0 (w32 (v1 - v2)) 1 s)))) else (if w32 (v2 - 1) ≤ w32 (v1.tmod v2) then (if w32 (v1.tmod v2) ≤ 0 then S_X10_link_ v1 3 (w32 (v1 - 1)) 0 (S_X10_link_ v1 2 (w32 (v1 + v2)) 1 (S_X10_link_ v1 1 (w32 (v1 + 1)) 0 (S_X10_link_ v1 0 (w32 (v1 - v2)) 1 s))) else S_X10_link_ v1 3 (w32 (v1 - 1)) 1 (S_X10_link_ v1 2 (w32 (v1 + v2)) 1 (S_X10_link_ v1 1 (w32 (v1 + 1)) 0 (S_X10_link_ v1 0 (w32 (v1 - v2)) 1 s)))) else (if w32 (v1.tmod v2) ≤ 0 then S_X10_link_ v1 3 (w32 (v1 - 1)) 0 (S_X10_link_ v1 2 (w32 (v1 + v2)) 1 (S_X10_link_ v1 1 (w32 (v1 + 1)) 1 (S_X10_link_ v1 0 (w32 (v1 - v2)) 1 s))) else S_X10_link_ v1 3 (w32 (v1 - 1)) 1 (S_X10_link_ v1 2 (w32 (v1 + v2)) 1 (S_X10_link_ v1 1 (w32 (v1 + 1)) 1 (S_X10_link_ v1 0 (w32 (v1 - v2)) 1 s))))))
def O_X10_link (v1 : Int) (v2 : Int) (s : Sto) : Prop := ((v2 ≤ 0 → (O_X10_link_ v1 0 (w32 (v1 - v2)) 1 s ∧ ((w32 (v2 - 1) ≤ 0 → (O_X10_link_ v1 1 (w32 (v1 + 1)) 0 (S_X10_link_ v1 0 (w32 (v1 - v2)) 1 s) ∧ (O_X10_link_ v1 2 (w32 (v1 + v2)) 1 (S_X10_link_ v1 1 (w32 (v1 + 1)) 0 (S_X10_link_ v1 0 (w32 (v1 - v2)) 1 s)) ∧ (O_X10_link_ v1 3 (w32 (v1 - 1)) 0 (S_X10_link_ v1 2 (w32 (v1 + v2)) 1 (S_X10_link_ v1 1 (w32 (v1 + 1)) 0 (S_X10_link_ v1 0 (w32 (v1 - v2)) 1 s))) ∧ True)))) ∧ (¬ w32 (v2 - 1) ≤ 0 → (O_X10_link_ v1 1 (w32 (v1 + 1)) 1 (S_X10_link_ v1 0 (w32 (v1 - v2)) 1 s) ∧ (O_X10_link_ v1 2 (w32 (v1 + v2)) 1 (S_X10_link_ v1 1 (w32 (v1 + 1)) 1 (S_X10_link_ v1 0 (w32 (v1 - v2)) 1 s)) ∧ (O_X10_link_ v1 3 (w32 (v1 - 1)) 0 (S_X10_link_ v1 2 (w32 (v1 + v2)) 1 (S_X10_link_ v1 1 (w32 (v1 + 1)) 1 (S_X10_link_ v1 0 (w32 (v1 - v2)) 1 s))) ∧ True))))))) ∧ (¬ v2 ≤ 0 → (v2 ≠ 0 ∧ (O_X10_link_ v1 0 (w32 (v1 - v2)) 1 s ∧ ((w32 (v2 - 1) ≤ w32 (v1.tmod v2) → (O_X10_link_ v1 1 (w32 (v1 + 1)) 0 (S_X10_link_ v1 0 (w32 (v1 - v2)) 1 s) ∧ (O_X10_link_ v1 2 (w32 (v1 + v2)) 1 (S_X10_link_ v1 1 (w32 (v1 + 1)) 0 (S_X10_link_ v1 0 (w32 (v1 - v2)) 1 s)) ∧ ((w32 (v1.tmod v2) ≤ 0 → (O_X10_link_ v1 3 (w32 (v1 - 1)) 0 (S_X10_link_ v1 2 (w32 (v1 + v2)) 1 (S_X10_link_ v1 1 (w32 (v1 + 1)) 0 (S_X10_link_ v1 0 (w32 (v1 - v2)) 1 s))) ∧ True)) ∧ (¬ w32 (v1.tmod v2) ≤ 0 → (O_X10_link_ v1 3 (w32 (v1 - 1)) 1 (S_X10_link_ v1 2 (w32 (v1 + v2)) 1 (S_X10_link_ v1 1 (w32 (v1 + 1)) 0 (S_X10_link_ v1 0 (w32 (v1 - v2)) 1 s))) ∧ True)))))) ∧ (¬ w32 (v2 - 1) ≤ w32 (v1.tmod v2) → (O_X10_link_ v1 1 (w32 (v1 + 1)) 1 (S_X10_link_ v1 0 (w32 (v1 - v2)) 1 s) ∧ (O_X10_link_ v1 2 (w32 (v1 + v2)) 1 (S_X10_link_ v1 1 (w32 (v1 + 1)) 1 (S_X10_link_ v1 0 (w32 (v1 - v2)) 1 s)) ∧ ((w32 (v1.tmod v2) ≤ 0 → (O_X10_link_ v1 3 (w32 (v1 - 1)) 0 (S_X10_link_ v1 2 (w32 (v1 + v2)) 1 (S_X10_link_ v1 1 (w32 (v1 + 1)) 1 (S_X10_link_ v1 0 (w32 (v1 - v2)) 1 s))) ∧ True)) ∧ (¬ w32 (v1.tmod v2) ≤ 0 → (O_X10_link_ v1 3 (w32 (v1 - 1)) 1 (S_X10_link_ v1 2 (w32 (v1 + v2)) 1 (S_X10_link_ v1 1 (w32 (v1 + 1)) 1 (S_X10_link_ v1 0 (w32 (v1 - v2)) 1 s))) ∧ True)))))))))))
set_option maxRecDepth 100000 in
theorem C_X10_link {v1 : Int} {v2 : Int} {s : Sto}  (h : O_X10_link v1 v2 s) : sr_C yX10_link cX10_link 4 none 2 [vR 3, vI v1, vI v2] s (fun r s' => r = 0 ∧ s' = S_X10_link v1 v2 s) := by
  refine sr_C.of (by decide +kernel) (Nat.le_of_ble_eq_true rfl) ?_
  show sr_G RX10 cX10_link 4 none 2 0 [(0, vR 3), (1, vI v1), (2, vI v2)] [] s (fun r s' => r = 0 ∧ s' = S_X10_link v1 v2 s)
  unfold O_X10_link at h
  refine g_iload_n (pc' := 1) dX10_link_0 rfl rfl ?_
  refine g_if_le (pc' := 4) (tgt := 10) dX10_link_1 rfl rfl (fun c1 => ?_) (fun c1 => ?_)
  · have h := h.1 c1
    refine g_iconst (pc' := 11) (by unfold r32; decide) dX10_link_10 rfl ?_
    refine g_istore_n (pc' := 12) dX10_link_11 rfl (by decide) ?_
    refine g_aload_n (pc' := 13) dX10_link_12 rfl rfl ?_
    refine g_iload_n (pc' := 14) dX10_link_13 rfl rfl ?_
    refine g_iconst (pc' := 15) (by unfold r32; decide) dX10_link_14 rfl ?_
    refine g_iload_n (pc' := 16) dX10_link_15 rfl rfl ?_
    refine g_iload_n (pc' := 17) dX10_link_16 rfl rfl ?_
    refine g_isub (pc' := 18) dX10_link_17 rfl ?_
    refine g_iconst (pc' := 19) (by unfold r32; decide) dX10_link_18 rfl ?_
    obtain ⟨ob2, h⟩ := h
    refine g_V4v (pc' := 22) dX10_link_19 rfl mv_RX10_43 kd_3 (by decide) (Nat.le_of_ble_eq_true rfl) (C_X10_link_ ob2) (sr_purv ?_)
    refine g_aload_n (pc' := 23) dX10_link_22 rfl rfl ?_
    refine g_iload_n (pc' := 24) dX10_link_23 rfl rfl ?_
    refine g_iconst (pc' := 25) (by unfold r32; decide) dX10_link_24 rfl ?_
    refine g_iload_n (pc' := 26) dX10_link_25 rfl rfl ?_
    refine g_iconst (pc' := 27) (by unfold r32; decide) dX10_link_26 rfl ?_
    refine g_iadd (pc' := 28) dX10_link_27 rfl ?_
    refine g_iload_n (pc' := 29) dX10_link_28 rfl rfl ?_
    refine g_iload_n (pc' := 30) dX10_link_29 rfl rfl ?_
    refine g_iconst (pc' := 31) (by unfold r32; decide) dX10_link_30 rfl ?_
    refine g_isub (pc' := 32) dX10_link_31 rfl ?_
    refine g_ic_ge (pc' := 35) (tgt := 39) dX10_link_32 rfl rfl (fun c3 => ?_) (fun c3 => ?_)
    · have h := h.1 c3
      refine g_iconst (pc' := 40) (by unfold r32; decide) dX10_link_39 rfl ?_
      obtain ⟨ob4, h⟩ := h
      refine g_V4v (pc' := 43) dX10_link_40 rfl mv_RX10_43 kd_3 (by decide) (Nat.le_of_ble_eq_true rfl) (C_X10_link_ ob4) (sr_purv ?_)
      refine g_aload_n (pc' := 44) dX10_link_43 rfl rfl ?_
      refine g_iload_n (pc' := 45) dX10_link_44 rfl rfl ?_
      refine g_iconst (pc' := 46) (by unfold r32; decide) dX10_link_45 rfl ?_
      refine g_iload_n (pc' := 47) dX10_link_46 rfl rfl ?_
      refine g_iload_n (pc' := 48) dX10_link_47 rfl rfl ?_
      refine g_iadd (pc' := 49) dX10_link_48 rfl ?_
      refine g_iconst (pc' := 50) (by unfold r32; decide) dX10_link_49 rfl ?_
      obtain ⟨ob5, h⟩ := h
      refine g_V4v (pc' := 53) dX10_link_50 rfl mv_RX10_43 kd_3 (by decide) (Nat.le_of_ble_eq_true rfl) (C_X10_link_ ob5) (sr_purv ?_)
      refine g_aload_n (pc' := 54) dX10_link_53 rfl rfl ?_
      refine g_iload_n (pc' := 55) dX10_link_54 rfl rfl ?_
      refine g_iconst (pc' := 56) (by unfold r32; decide) dX10_link_55 rfl ?_
      refine g_iload_n (pc' := 57) dX10_link_56 rfl rfl ?_
      refine g_iconst (pc' := 58) (by unfold r32; decide) dX10_link_57 rfl ?_
      refine g_isub (pc' := 59) dX10_link_58 rfl ?_
      refine g_iload_n (pc' := 60) dX10_link_59 rfl rfl ?_
      refine g_if_le (pc' := 63) (tgt := 67) dX10_link_60 rfl rfl (fun c6 => ?_) (fun c6 => absurd (by decide) c6)
      refine g_iconst (pc' := 68) (by unfold r32; decide) dX10_link_67 rfl ?_
      obtain ⟨ob7, h⟩ := h
      refine g_V4v (pc' := 71) dX10_link_68 rfl mv_RX10_43 kd_3 (by decide) (Nat.le_of_ble_eq_true rfl) (C_X10_link_ ob7) (sr_purv ?_)
      exact g_vret dX10_link_71 rfl ⟨rfl, (by simp only [S_X10_link, if_pos c1, if_pos c3])⟩
    · have h := h.2 c3
      refine g_iconst (pc' := 36) (by unfold r32; decide) dX10_link_35 rfl ?_
      refine g_goto (pc' := 40) dX10_link_36 rfl ?_
      obtain ⟨ob8, h⟩ := h
      refine g_V4v (pc' := 43) dX10_link_40 rfl mv_RX10_43 kd_3 (by decide) (Nat.le_of_ble_eq_true rfl) (C_X10_link_ ob8) (sr_purv ?_)
      refine g_aload_n (pc' := 44) dX10_link_43 rfl rfl ?_
      refine g_iload_n (pc' := 45) dX10_link_44 rfl rfl ?_
      refine g_iconst (pc' := 46) (by unfold r32; decide) dX10_link_45 rfl ?_
      refine g_iload_n (pc' := 47) dX10_link_46 rfl rfl ?_
      refine g_iload_n (pc' := 48) dX10_link_47 rfl rfl ?_
      refine g_iadd (pc' := 49) dX10_link_48 rfl ?_
      refine g_iconst (pc' := 50) (by unfold r32; decide) dX10_link_49 rfl ?_
      obtain ⟨ob9, h⟩ := h
      refine g_V4v (pc' := 53) dX10_link_50 rfl mv_RX10_43 kd_3 (by decide) (Nat.le_of_ble_eq_true rfl) (C_X10_link_ ob9) (sr_purv ?_)
      refine g_aload_n (pc' := 54) dX10_link_53 rfl rfl ?_
      refine g_iload_n (pc' := 55) dX10_link_54 rfl rfl ?_
      refine g_iconst (pc' := 56) (by unfold r32; decide) dX10_link_55 rfl ?_
      refine g_iload_n (pc' := 57) dX10_link_56 rfl rfl ?_
      refine g_iconst (pc' := 58) (by unfold r32; decide) dX10_link_57 rfl ?_
      refine g_isub (pc' := 59) dX10_link_58 rfl ?_
      refine g_iload_n (pc' := 60) dX10_link_59 rfl rfl ?_
      refine g_if_le (pc' := 63) (tgt := 67) dX10_link_60 rfl rfl (fun c10 => ?_) (fun c10 => absurd (by decide) c10)
      refine g_iconst (pc' := 68) (by unfold r32; decide) dX10_link_67 rfl ?_
      obtain ⟨ob11, h⟩ := h
      refine g_V4v (pc' := 71) dX10_link_68 rfl mv_RX10_43 kd_3 (by decide) (Nat.le_of_ble_eq_true rfl) (C_X10_link_ ob11) (sr_purv ?_)
      exact g_vret dX10_link_71 rfl ⟨rfl, (by simp only [S_X10_link, if_pos c1, if_neg c3])⟩
  · have h := h.2 c1
    refine g_iload_n (pc' := 5) dX10_link_4 rfl rfl ?_
    refine g_iload_n (pc' := 6) dX10_link_5 rfl rfl ?_
    obtain ⟨ob12, h⟩ := h
    refine g_irem (pc' := 7) dX10_link_6 rfl ob12 ?_
    refine g_goto (pc' := 11) dX10_link_7 rfl ?_
    refine g_istore_n (pc' := 12) dX10_link_11 rfl (by decide) ?_
    refine g_aload_n (pc' := 13) dX10_link_12 rfl rfl ?_
    refine g_iload_n (pc' := 14) dX10_link_13 rfl rfl ?_
    refine g_iconst (pc' := 15) (by unfold r32; decide) dX10_link_14 rfl ?_
    refine g_iload_n (pc' := 16) dX10_link_15 rfl rfl ?_
    refine g_iload_n (pc' := 17) dX10_link_16 rfl rfl ?_
    refine g_isub (pc' := 18) dX10_link_17 rfl ?_
    refine g_iconst (pc' := 19) (by unfold r32; decide) dX10_link_18 rfl ?_
    obtain ⟨ob13, h⟩ := h
    refine g_V4v (pc' := 22) dX10_link_19 rfl mv_RX10_43 kd_3 (by decide) (Nat.le_of_ble_eq_true rfl) (C_X10_link_ ob13) (sr_purv ?_)
    refine g_aload_n (pc' := 23) dX10_link_22 rfl rfl ?_
    refine g_iload_n (pc' := 24) dX10_link_23 rfl rfl ?_
    refine g_iconst (pc' := 25) (by unfold r32; decide) dX10_link_24 rfl ?_
    refine g_iload_n (pc' := 26) dX10_link_25 rfl rfl ?_
    refine g_iconst (pc' := 27) (by unfold r32; decide) dX10_link_26 rfl ?_
    refine g_iadd (pc' := 28) dX10_link_27 rfl ?_
    refine g_iload_n (pc' := 29) dX10_link_28 rfl rfl ?_
    refine g_iload_n (pc' := 30) dX10_link_29 rfl rfl ?_
    refine g_iconst (pc' := 31) (by unfold r32; decide) dX10_link_30 rfl ?_
    refine g_isub (pc' := 32) dX10_link_31 rfl ?_
    refine g_ic_ge (pc' := 35) (tgt := 39) dX10_link_32 rfl rfl (fun c14 => ?_) (fun c14 => ?_)
    · have h := h.1 c14
      refine g_iconst (pc' := 40) (by unfold r32; decide) dX10_link_39 rfl ?_
      obtain ⟨ob15, h⟩ := h
      refine g_V4v (pc' := 43) dX10_link_40 rfl mv_RX10_43 kd_3 (by decide) (Nat.le_of_ble_eq_true rfl) (C_X10_link_ ob15) (sr_purv ?_)
      refine g_aload_n (pc' := 44) dX10_link_43 rfl rfl ?_
      refine g_iload_n (pc' := 45) dX10_link_44 rfl rfl ?_
      refine g_iconst (pc' := 46) (by unfold r32; decide) dX10_link_45 rfl ?_
      refine g_iload_n (pc' := 47) dX10_link_46 rfl rfl ?_
      refine g_iload_n (pc' := 48) dX10_link_47 rfl rfl ?_
      refine g_iadd (pc' := 49) dX10_link_48 rfl ?_
      refine g_iconst (pc' := 50) (by unfold r32; decide) dX10_link_49 rfl ?_
      obtain ⟨ob16, h⟩ := h
      refine g_V4v (pc' := 53) dX10_link_50 rfl mv_RX10_43 kd_3 (by decide) (Nat.le_of_ble_eq_true rfl) (C_X10_link_ ob16) (sr_purv ?_)
      refine g_aload_n (pc' := 54) dX10_link_53 rfl rfl ?_
      refine g_iload_n (pc' := 55) dX10_link_54 rfl rfl ?_
      refine g_iconst (pc' := 56) (by unfold r32; decide) dX10_link_55 rfl ?_
      refine g_iload_n (pc' := 57) dX10_link_56 rfl rfl ?_
      refine g_iconst (pc' := 58) (by unfold r32; decide) dX10_link_57 rfl ?_
      refine g_isub (pc' := 59) dX10_link_58 rfl ?_
      refine g_iload_n (pc' := 60) dX10_link_59 rfl rfl ?_
      refine g_if_le (pc' := 63) (tgt := 67) dX10_link_60 rfl rfl (fun c17 => ?_) (fun c17 => ?_)
      · have h := h.1 c17
        refine g_iconst (pc' := 68) (by unfold r32; decide) dX10_link_67 rfl ?_
        obtain ⟨ob18, h⟩ := h
        refine g_V4v (pc' := 71) dX10_link_68 rfl mv_RX10_43 kd_3 (by decide) (Nat.le_of_ble_eq_true rfl) (C_X10_link_ ob18) (sr_purv ?_)
        exact g_vret dX10_link_71 rfl ⟨rfl, (by simp only [S_X10_link, if_neg c1, if_pos c14, if_pos c17])⟩
      · have h := h.2 c17
        refine g_iconst (pc' := 64) (by unfold r32; decide) dX10_link_63 rfl ?_
        refine g_goto (pc' := 68) dX10_link_64 rfl ?_
        obtain ⟨ob19, h⟩ := h
        refine g_V4v (pc' := 71) dX10_link_68 rfl mv_RX10_43 kd_3 (by decide) (Nat.le_of_ble_eq_true rfl) (C_X10_link_ ob19) (sr_purv ?_)
        exact g_vret dX10_link_71 rfl ⟨rfl, (by simp only [S_X10_link, if_neg c1, if_pos c14, if_neg c17])⟩
    · have h := h.2 c14
      refine g_iconst (pc' := 36) (by unfold r32; decide) dX10_link_35 rfl ?_
      refine g_goto (pc' := 40) dX10_link_36 rfl ?_
      obtain ⟨ob20, h⟩ := h
      refine g_V4v (pc' := 43) dX10_link_40 rfl mv_RX10_43 kd_3 (by decide) (Nat.le_of_ble_eq_true rfl) (C_X10_link_ ob20) (sr_purv ?_)
      refine g_aload_n (pc' := 44) dX10_link_43 rfl rfl ?_
      refine g_iload_n (pc' := 45) dX10_link_44 rfl rfl ?_
      refine g_iconst (pc' := 46) (by unfold r32; decide) dX10_link_45 rfl ?_
      refine g_iload_n (pc' := 47) dX10_link_46 rfl rfl ?_
      refine g_iload_n (pc' := 48) dX10_link_47 rfl rfl ?_
      refine g_iadd (pc' := 49) dX10_link_48 rfl ?_
      refine g_iconst (pc' := 50) (by unfold r32; decide) dX10_link_49 rfl ?_
      obtain ⟨ob21, h⟩ := h
      refine g_V4v (pc' := 53) dX10_link_50 rfl mv_RX10_43 kd_3 (by decide) (Nat.le_of_ble_eq_true rfl) (C_X10_link_ ob21) (sr_purv ?_)
      refine g_aload_n (pc' := 54) dX10_link_53 rfl rfl ?_
      refine g_iload_n (pc' := 55) dX10_link_54 rfl rfl ?_
      refine g_iconst (pc' := 56) (by unfold r32; decide) dX10_link_55 rfl ?_
      refine g_iload_n (pc' := 57) dX10_link_56 rfl rfl ?_
      refine g_iconst (pc' := 58) (by unfold r32; decide) dX10_link_57 rfl ?_
      refine g_isub (pc' := 59) dX10_link_58 rfl ?_
      refine g_iload_n (pc' := 60) dX10_link_59 rfl rfl ?_
      refine g_if_le (pc' := 63) (tgt := 67) dX10_link_60 rfl rfl (fun c22 => ?_) (fun c22 => ?_)
      · have h := h.1 c22
        refine g_iconst (pc' := 68) (by unfold r32; decide) dX10_link_67 rfl ?_
        obtain ⟨ob23, h⟩ := h
        refine g_V4v (pc' := 71) dX10_link_68 rfl mv_RX10_43 kd_3 (by decide) (Nat.le_of_ble_eq_true rfl) (C_X10_link_ ob23) (sr_purv ?_)
        exact g_vret dX10_link_71 rfl ⟨rfl, (by simp only [S_X10_link, if_neg c1, if_neg c14, if_pos c22])⟩
      · have h := h.2 c22
        refine g_iconst (pc' := 64) (by unfold r32; decide) dX10_link_63 rfl ?_
        refine g_goto (pc' := 68) dX10_link_64 rfl ?_
        obtain ⟨ob24, h⟩ := h
        refine g_V4v (pc' := 71) dX10_link_68 rfl mv_RX10_43 kd_3 (by decide) (Nat.le_of_ble_eq_true rfl) (C_X10_link_ ob24) (sr_purv ?_)
        exact g_vret dX10_link_71 rfl ⟨rfl, (by simp only [S_X10_link, if_neg c1, if_neg c14, if_neg c22])⟩
def L_X10_reread_26 (v2 : Int) (v3 : Int) (K46 : Sto → Prop) : Nat → Int → Sto → Prop
  | 0, _, _ => False
  | n + 1, v4, s => ((36 ≤ v4 → K46 s) ∧ (¬ 36 ≤ v4 → (O_X10_link v4 v3 s ∧ (∀ s3 : Sto, s3 = S_X10_link v4 v3 s → L_X10_reread_26 v2 v3 K46 n (w32 (v4 + 1)) s3))))
set_option maxRecDepth 100000 in
theorem SL_X10_reread_26 {v2 : Int} {v3 : Int} {K46 : Sto → Prop} {Q : Int → Sto → Prop}  (hK46 : ∀ s, K46 s → sr_G RX10 cX10_reread 5 (some .int) 3 46 [(2, vI v2)] [] s Q) : ∀ n v4 s, L_X10_reread_26 v2 v3 K46 n v4 s → sr_G RX10 cX10_reread 5 (some .int) 3 26 [(0, vR 3), (2, vI v2), (3, vI v3), (4, vI v4)] [] s Q := by
  intro n
  induction n with
  | zero => intro v4 s h; exact h.elim
  | succ n ih =>
    intro v4 s h
    unfold L_X10_reread_26 at h
    refine g_iload (pc' := 28) dX10_reread_26 rfl rfl ?_
    refine g_bipush (pc' := 30) ⟨by unfold r32; decide, rfl⟩ dX10_reread_28 rfl ?_
    refine g_ic_ge (pc' := 33) (tgt := 46) dX10_reread_30 rfl rfl (fun c1 => ?_) (fun c1 => ?_)
    · have h := h.1 c1
      exact (hK46 _ h).to ((sb_c rfl sb_n))
    · have h := h.2 c1
      refine g_aload_n (pc' := 34) dX10_reread_33 rfl rfl ?_
      refine g_iload (pc' := 36) dX10_reread_34 rfl rfl ?_
      refine g_iload_n (pc' := 37) dX10_reread_36 rfl rfl ?_
      obtain ⟨ob2, h⟩ := h
      refine g_V2v (pc' := 40) dX10_reread_37 rfl mv_RX10_30 kd_3 (by decide) (Nat.le_of_ble_eq_true rfl) (C_X10_link ob2) (sr_purv ?_)
      refine g_sto (fun s3 es3 => ?_)
      have h := h s3 es3
      refine g_iinc (pc' := 43) dX10_reread_40 rfl rfl (by decide) ?_
      refine g_goto (pc' := 26) dX10_reread_43 rfl ?_
      exact (ih _ _ h).to ((sb_c rfl (sb_c rfl (sb_c rfl (sb_c rfl sb_n)))))
def P_X10_reread (p1 : Nat) (s : Sto) (Q : Int → Sto → Prop) : Prop := (P_X10_firstFault p1 s (fun r2 s1 => (∀ s3 : Sto, s3 = up s1 3 0 0 → ((r2 = (-1) → (P_X10_fill p1 s3 (fun r6 s5 => (∃ n8, L_X10_reread_26 r2 r6 (fun s7 => Q r2 s7) n8 0 s5)))) ∧ (¬ r2 = (-1) → (∃ n10, L_X10_reread_26 r2 0 (fun s9 => Q r2 s9) n10 0 s3))))))
set_option maxRecDepth 100000 in
theorem C_X10_reread {p1 : Nat} {s : Sto} {Q : Int → Sto → Prop} (hp1 : kd p1 = 19) (h : P_X10_reread p1 s Q) : sr_C yX10_reread cX10_reread 5 (some .int) 3 [vR 3, vR p1] s Q := by
  refine sr_C.of (by decide +kernel) (Nat.le_of_ble_eq_true rfl) ?_
  show sr_G RX10 cX10_reread 5 (some .int) 3 0 [(0, vR 3), (1, vR p1)] [] s Q
  unfold P_X10_reread at h
  refine g_aload_n (pc' := 1) dX10_reread_0 rfl rfl ?_
  refine g_S1i (pc' := 4) dX10_reread_1 rfl ms_RX10_23 (by decide) (Nat.le_of_ble_eq_true rfl) (C_X10_firstFault hp1 h) (fun r2 s1 h => ?_)
  refine g_istore_n (pc' := 5) dX10_reread_4 rfl (by decide) ?_
  refine g_iconst (pc' := 6) (by unfold r32; decide) dX10_reread_5 rfl ?_
  refine g_istore_n (pc' := 7) dX10_reread_6 rfl (by decide) ?_
  refine g_aload_n (pc' := 8) dX10_reread_7 rfl rfl ?_
  refine g_iconst (pc' := 9) (by unfold r32; decide) dX10_reread_8 rfl ?_
  refine g_putI (pc' := 12) dX10_reread_9 rfl fp_RX10_9 kd_3 rfl ?_
  refine g_sto (fun s3 es3 => ?_)
  have h := h s3 es3
  refine g_iload_n (pc' := 13) dX10_reread_12 rfl rfl ?_
  refine g_iconst (pc' := 14) (by unfold r32; decide) dX10_reread_13 rfl ?_
  refine g_ic_ne (pc' := 17) (tgt := 23) dX10_reread_14 rfl rfl (fun c4 => ?_) (fun c4 => ?_)
  · have h := h.2 c4
    refine g_iconst (pc' := 24) (by unfold r32; decide) dX10_reread_23 rfl ?_
    refine g_istore (pc' := 26) dX10_reread_24 rfl (by decide) ?_
    obtain ⟨n10, h⟩ := h
    refine (SL_X10_reread_26  (fun s9 h => ?_) n10 _ _ h).to ((sb_c rfl (sb_c rfl (sb_c rfl (sb_c rfl sb_n)))))
    · refine g_iload_n (pc' := 47) dX10_reread_46 rfl rfl ?_
      exact g_iret dX10_reread_47 rfl h
  · have h := h.1 c4
    refine g_aload_n (pc' := 18) dX10_reread_17 rfl rfl ?_
    refine g_aload_n (pc' := 19) dX10_reread_18 rfl rfl ?_
    refine g_V1i (pc' := 22) dX10_reread_19 rfl mv_RX10_27 kd_3 (by decide) (Nat.le_of_ble_eq_true rfl) (C_X10_fill hp1 h) (fun r6 s5 h => ?_)
    refine g_istore_n (pc' := 23) dX10_reread_22 rfl (by decide) ?_
    refine g_iconst (pc' := 24) (by unfold r32; decide) dX10_reread_23 rfl ?_
    refine g_istore (pc' := 26) dX10_reread_24 rfl (by decide) ?_
    obtain ⟨n8, h⟩ := h
    refine (SL_X10_reread_26  (fun s7 h => ?_) n8 _ _ h).to ((sb_c rfl (sb_c rfl (sb_c rfl (sb_c rfl sb_n)))))
    · refine g_iload_n (pc' := 47) dX10_reread_46 rfl rfl ?_
      exact g_iret dX10_reread_47 rfl h
def F_X11_within (v0 : Int) (v1 : Int) (v2 : Int) (s : Sto) : Int := (if v0 < v1 then 0 else (if v2 < v0 then 0 else 1))
set_option maxRecDepth 100000 in
theorem C_X11_within {v0 : Int} {v1 : Int} {v2 : Int} {s : Sto}   : sr_C yX11_within cX11_within 3 (some .boolean) 0 [vI v0, vI v1, vI v2] s (fun r s' => r = F_X11_within v0 v1 v2 s ∧ s' = s ∧ (r = 0 ∨ r = 1)) := by
  refine sr_C.of (by decide +kernel) (Nat.le_of_ble_eq_true rfl) ?_
  show sr_G RX11 cX11_within 3 (some .boolean) 0 0 [(0, vI v0), (1, vI v1), (2, vI v2)] [] s (fun r s' => r = F_X11_within v0 v1 v2 s ∧ s' = s ∧ (r = 0 ∨ r = 1))
  refine g_iload_n (pc' := 1) dX11_within_0 rfl rfl ?_
  refine g_iload_n (pc' := 2) dX11_within_1 rfl rfl ?_
  refine g_ic_lt (pc' := 5) (tgt := 14) dX11_within_2 rfl rfl (fun c1 => ?_) (fun c1 => ?_)
  · refine g_iconst (pc' := 15) (by unfold r32; decide) dX11_within_14 rfl ?_
    exact g_zret dX11_within_15 rfl (Or.inl rfl) ⟨(by simp only [F_X11_within, if_pos c1]), rfl, (Or.inl rfl)⟩
  · refine g_iload_n (pc' := 6) dX11_within_5 rfl rfl ?_
    refine g_iload_n (pc' := 7) dX11_within_6 rfl rfl ?_
    refine g_ic_gt (pc' := 10) (tgt := 14) dX11_within_7 rfl rfl (fun c2 => ?_) (fun c2 => ?_)
    · refine g_iconst (pc' := 15) (by unfold r32; decide) dX11_within_14 rfl ?_
      exact g_zret dX11_within_15 rfl (Or.inl rfl) ⟨(by simp only [F_X11_within, if_neg c1, if_pos c2]), rfl, (Or.inl rfl)⟩
    · refine g_iconst (pc' := 11) (by unfold r32; decide) dX11_within_10 rfl ?_
      refine g_goto (pc' := 15) dX11_within_11 rfl ?_
      exact g_zret dX11_within_15 rfl (Or.inr rfl) ⟨(by simp only [F_X11_within, if_neg c1, if_neg c2]), rfl, (Or.inr rfl)⟩
def P_X11_reread (v1 : Int) (s : Sto) (Q : Int → Sto → Prop) : Prop := ((v1 = 0 → (inb v1 3 ∧ (P_X10_reread (30 + 2 * v1.toNat) s (fun r4 s3 => (inb v1 3 ∧ (∀ s6 : Sto, s6 = up s3 2 v1.toNat r4 → (∀ s7 : Sto, s7 = up s6 0 12 0 → Q 0 s7))))))) ∧ (¬ v1 = 0 → ((v1 = 1 → (inb v1 3 ∧ (P_X4_rereadThings 6 (30 + 2 * v1.toNat) s (fun r11 s10 => (inb v1 3 ∧ (∀ s13 : Sto, s13 = up s10 2 v1.toNat r11 → (∀ s14 : Sto, s14 = up s13 0 12 0 → Q 0 s14))))))) ∧ (¬ v1 = 1 → (inb v1 3 ∧ (P_X4_rereadWind 6 (30 + 2 * v1.toNat) s (fun r17 s16 => (inb v1 3 ∧ (∀ s19 : Sto, s19 = up s16 2 v1.toNat r17 → (∀ s20 : Sto, s20 = up s19 0 12 0 → Q 0 s20))))))))))
set_option maxRecDepth 100000 in
theorem C_X11_reread {v1 : Int} {s : Sto} {Q : Int → Sto → Prop}  (h : P_X11_reread v1 s Q) : sr_C yX11_reread cX11_reread 2 none 4 [vR 0, vI v1] s Q := by
  refine sr_C.of (by decide +kernel) (Nat.le_of_ble_eq_true rfl) ?_
  show sr_G RX11 cX11_reread 2 none 4 0 [(0, vR 0), (1, vI v1)] [] s Q
  unfold P_X11_reread at h
  refine g_iload_n (pc' := 1) dX11_reread_0 rfl rfl ?_
  refine g_if_ne (pc' := 4) (tgt := 26) dX11_reread_1 rfl rfl (fun c1 => ?_) (fun c1 => ?_)
  · have h := h.2 c1
    refine g_iload_n (pc' := 27) dX11_reread_26 rfl rfl ?_
    refine g_iconst (pc' := 28) (by unfold r32; decide) dX11_reread_27 rfl ?_
    refine g_ic_ne (pc' := 31) (tgt := 53) dX11_reread_28 rfl rfl (fun c8 => ?_) (fun c8 => ?_)
    · have h := h.2 c8
      refine g_aload_n (pc' := 54) dX11_reread_53 rfl rfl ?_
      refine g_getR (pc' := 57) (r := 2) dX11_reread_54 rfl fl_RX11_15 kd_0 rfl rf_0_1 ?_
      refine g_iload_n (pc' := 58) dX11_reread_57 rfl rfl ?_
      refine g_aload_n (pc' := 59) dX11_reread_58 rfl rfl ?_
      refine g_getR (pc' := 62) (r := 6) dX11_reread_59 rfl fl_RX11_29 kd_0 rfl rf_0_3 ?_
      refine g_aload_n (pc' := 63) dX11_reread_62 rfl rfl ?_
      refine g_getR (pc' := 66) (r := 1) dX11_reread_63 rfl fl_RX11_11 kd_0 rfl rf_0_0 ?_
      refine g_iload_n (pc' := 67) dX11_reread_66 rfl rfl ?_
      obtain ⟨ob15, h⟩ := h
      refine g_aald (pc' := 68) (r := 30 + 2 * v1.toNat) dX11_reread_67 rfl (Or.inl rfl) ob15 (ra_1 ob15).1 ?_
      refine g_V1i (pc' := 71) dX11_reread_68 rfl mv_RX11_395 kd_6 (by decide) (Nat.le_of_ble_eq_true rfl) (C_X4_rereadWind kd_6 (ra_1 ob15).2 h) (fun r17 s16 h => ?_)
      obtain ⟨ob18, h⟩ := h
      refine g_iast (pc' := 72) dX11_reread_71 rfl kd_2 ob18 ?_
      refine g_sto (fun s19 es19 => ?_)
      have h := h s19 es19
      refine g_aload_n (pc' := 73) dX11_reread_72 rfl rfl ?_
      refine g_iconst (pc' := 74) (by unfold r32; decide) dX11_reread_73 rfl ?_
      refine g_putZ (pc' := 77) dX11_reread_74 rfl fp_RX11_66 kd_0 rfl (Or.inl rfl) ?_
      refine g_sto (fun s20 es20 => ?_)
      have h := h s20 es20
      exact g_vret dX11_reread_77 rfl h
    · have h := h.1 c8
      refine g_aload_n (pc' := 32) dX11_reread_31 rfl rfl ?_
      refine g_getR (pc' := 35) (r := 2) dX11_reread_32 rfl fl_RX11_15 kd_0 rfl rf_0_1 ?_
      refine g_iload_n (pc' := 36) dX11_reread_35 rfl rfl ?_
      refine g_aload_n (pc' := 37) dX11_reread_36 rfl rfl ?_
      refine g_getR (pc' := 40) (r := 6) dX11_reread_37 rfl fl_RX11_29 kd_0 rfl rf_0_3 ?_
      refine g_aload_n (pc' := 41) dX11_reread_40 rfl rfl ?_
      refine g_getR (pc' := 44) (r := 1) dX11_reread_41 rfl fl_RX11_11 kd_0 rfl rf_0_0 ?_
      refine g_iload_n (pc' := 45) dX11_reread_44 rfl rfl ?_
      obtain ⟨ob9, h⟩ := h
      refine g_aald (pc' := 46) (r := 30 + 2 * v1.toNat) dX11_reread_45 rfl (Or.inl rfl) ob9 (ra_1 ob9).1 ?_
      refine g_V1i (pc' := 49) dX11_reread_46 rfl mv_RX11_392 kd_6 (by decide) (Nat.le_of_ble_eq_true rfl) (C_X4_rereadThings kd_6 (ra_1 ob9).2 h) (fun r11 s10 h => ?_)
      obtain ⟨ob12, h⟩ := h
      refine g_iast (pc' := 50) dX11_reread_49 rfl kd_2 ob12 ?_
      refine g_sto (fun s13 es13 => ?_)
      have h := h s13 es13
      refine g_goto (pc' := 72) dX11_reread_50 rfl ?_
      refine g_aload_n (pc' := 73) dX11_reread_72 rfl rfl ?_
      refine g_iconst (pc' := 74) (by unfold r32; decide) dX11_reread_73 rfl ?_
      refine g_putZ (pc' := 77) dX11_reread_74 rfl fp_RX11_66 kd_0 rfl (Or.inl rfl) ?_
      refine g_sto (fun s14 es14 => ?_)
      have h := h s14 es14
      exact g_vret dX11_reread_77 rfl h
  · have h := h.1 c1
    refine g_aload_n (pc' := 5) dX11_reread_4 rfl rfl ?_
    refine g_getR (pc' := 8) (r := 2) dX11_reread_5 rfl fl_RX11_15 kd_0 rfl rf_0_1 ?_
    refine g_iload_n (pc' := 9) dX11_reread_8 rfl rfl ?_
    refine g_aload_n (pc' := 10) dX11_reread_9 rfl rfl ?_
    refine g_getR (pc' := 13) (r := 3) dX11_reread_10 rfl fl_RX11_22 kd_0 rfl rf_0_2 ?_
    refine g_aload_n (pc' := 14) dX11_reread_13 rfl rfl ?_
    refine g_getR (pc' := 17) (r := 1) dX11_reread_14 rfl fl_RX11_11 kd_0 rfl rf_0_0 ?_
    refine g_iload_n (pc' := 18) dX11_reread_17 rfl rfl ?_
    obtain ⟨ob2, h⟩ := h
    refine g_aald (pc' := 19) (r := 30 + 2 * v1.toNat) dX11_reread_18 rfl (Or.inl rfl) ob2 (ra_1 ob2).1 ?_
    refine g_V1i (pc' := 22) dX11_reread_19 rfl mv_RX11_389 kd_3 (by decide) (Nat.le_of_ble_eq_true rfl) (C_X10_reread (ra_1 ob2).2 h) (fun r4 s3 h => ?_)
    obtain ⟨ob5, h⟩ := h
    refine g_iast (pc' := 23) dX11_reread_22 rfl kd_2 ob5 ?_
    refine g_sto (fun s6 es6 => ?_)
    have h := h s6 es6
    refine g_goto (pc' := 72) dX11_reread_23 rfl ?_
    refine g_aload_n (pc' := 73) dX11_reread_72 rfl rfl ?_
    refine g_iconst (pc' := 74) (by unfold r32; decide) dX11_reread_73 rfl ?_
    refine g_putZ (pc' := 77) dX11_reread_74 rfl fp_RX11_66 kd_0 rfl (Or.inl rfl) ?_
    refine g_sto (fun s7 es7 => ?_)
    have h := h s7 es7
    exact g_vret dX11_reread_77 rfl h
def P_X11_type (v1 : Int) (v2 : Int) (s : Sto) (Q : Int → Sto → Prop) : Prop := ((F_X11_within v1 0 2 s = 0 → Q ((-2)) s) ∧ (¬ F_X11_within v1 0 2 s = 0 → ((F_X11_within v2 0 255 s = 0 → Q ((-2)) s) ∧ (¬ F_X11_within v2 0 255 s = 0 → (inb v1 3 ∧ (O_X9_append (30 + 2 * v1.toNat) v2 s ∧ (∀ s8 : Sto, s8 = S_X9_append (30 + 2 * v1.toNat) v2 s → ((F_X9_append (30 + 2 * v1.toNat) v2 s = 0 → Q ((-4)) s8) ∧ (¬ F_X9_append (30 + 2 * v1.toNat) v2 s = 0 → (P_X11_reread v1 s8 (fun _ s10 => (inb v1 3 ∧ Q (s10 (30 + 2 * v1.toNat) 1) s10))))))))))))
set_option maxRecDepth 100000 in
theorem C_X11_type {v1 : Int} {v2 : Int} {s : Sto} {Q : Int → Sto → Prop}  (h : P_X11_type v1 v2 s Q) : sr_C yX11_type cX11_type 3 (some .int) 5 [vR 0, vI v1, vI v2] s Q := by
  refine sr_C.of (by decide +kernel) (Nat.le_of_ble_eq_true rfl) ?_
  show sr_G RX11 cX11_type 3 (some .int) 5 0 [(0, vR 0), (1, vI v1), (2, vI v2)] [] s Q
  unfold P_X11_type at h
  refine g_iload_n (pc' := 1) dX11_type_0 rfl rfl ?_
  refine g_iconst (pc' := 2) (by unfold r32; decide) dX11_type_1 rfl ?_
  refine g_iconst (pc' := 3) (by unfold r32; decide) dX11_type_2 rfl ?_
  refine g_S3z (pc' := 6) dX11_type_3 rfl ms_RX11_102 (by decide) (Nat.le_of_ble_eq_true rfl) C_X11_within (sr_purb (fun hb1 => ?_))
  refine g_if_eq (pc' := 9) (tgt := 20) dX11_type_6 rfl rfl (fun c2 => ?_) (fun c2 => ?_)
  · have h := h.1 c2
    refine g_bipush (pc' := 22) ⟨by unfold r32; decide, rfl⟩ dX11_type_20 rfl ?_
    exact g_iret dX11_type_22 rfl h
  · have h := h.2 c2
    refine g_iload_n (pc' := 10) dX11_type_9 rfl rfl ?_
    refine g_iconst (pc' := 11) (by unfold r32; decide) dX11_type_10 rfl ?_
    refine g_sipush (pc' := 14) ⟨by unfold r32; decide, rfl⟩ dX11_type_11 rfl ?_
    refine g_S3z (pc' := 17) dX11_type_14 rfl ms_RX11_102 (by decide) (Nat.le_of_ble_eq_true rfl) C_X11_within (sr_purb (fun hb3 => ?_))
    refine g_if_ne (pc' := 20) (tgt := 23) dX11_type_17 rfl rfl (fun c4 => ?_) (fun c4 => ?_)
    · have h := h.2 c4
      refine g_aload_n (pc' := 24) dX11_type_23 rfl rfl ?_
      refine g_getR (pc' := 27) (r := 1) dX11_type_24 rfl fl_RX11_11 kd_0 rfl rf_0_0 ?_
      refine g_iload_n (pc' := 28) dX11_type_27 rfl rfl ?_
      obtain ⟨ob5, h⟩ := h
      refine g_aald (pc' := 29) (r := 30 + 2 * v1.toNat) dX11_type_28 rfl (Or.inl rfl) ob5 (ra_1 ob5).1 ?_
      refine g_iload_n (pc' := 30) dX11_type_29 rfl rfl ?_
      obtain ⟨ob6, h⟩ := h
      refine g_V1z (pc' := 33) dX11_type_30 rfl mv_RX11_106 (ra_1 ob5).2 (by decide) (Nat.le_of_ble_eq_true rfl) (C_X9_append (ra_1 ob5).2 ob6) (sr_purb (fun hb7 => ?_))
      refine g_sto (fun s8 es8 => ?_)
      have h := h s8 es8
      refine g_if_ne (pc' := 36) (tgt := 39) dX11_type_33 rfl rfl (fun c9 => ?_) (fun c9 => ?_)
      · have h := h.2 c9
        refine g_aload_n (pc' := 40) dX11_type_39 rfl rfl ?_
        refine g_iload_n (pc' := 41) dX11_type_40 rfl rfl ?_
        refine g_V1v (pc' := 44) dX11_type_41 rfl mv_RX11_110 kd_0 (by decide) (Nat.le_of_ble_eq_true rfl) (C_X11_reread h) (fun s10 h => ?_)
        refine g_aload_n (pc' := 45) dX11_type_44 rfl rfl ?_
        refine g_getR (pc' := 48) (r := 1) dX11_type_45 rfl fl_RX11_11 kd_0 rfl rf_0_0 ?_
        refine g_iload_n (pc' := 49) dX11_type_48 rfl rfl ?_
        obtain ⟨ob12, h⟩ := h
        refine g_aald (pc' := 50) (r := 30 + 2 * v1.toNat) dX11_type_49 rfl (Or.inl rfl) ob12 (ra_1 ob12).1 ?_
        refine g_getI (pc' := 53) dX11_type_50 rfl fl_RX11_113 (ra_1 ob12).2 (Or.inl rfl) ?_
        exact g_iret dX11_type_53 rfl h
      · have h := h.1 c9
        refine g_bipush (pc' := 38) ⟨by unfold r32; decide, rfl⟩ dX11_type_36 rfl ?_
        exact g_iret dX11_type_38 rfl h
    · have h := h.1 c4
      refine g_bipush (pc' := 22) ⟨by unfold r32; decide, rfl⟩ dX11_type_20 rfl ?_
      exact g_iret dX11_type_22 rfl h
def P_X11_wipe (v1 : Int) (s : Sto) (Q : Int → Sto → Prop) : Prop := ((F_X11_within v1 0 2 s = 0 → Q ((-2)) s) ∧ (¬ F_X11_within v1 0 2 s = 0 → (inb v1 3 ∧ (∀ x4 : Int, x4 = s (30 + 2 * v1.toNat) 1 → (inb v1 3 ∧ (∀ s6 : Sto, s6 = up s (30 + 2 * v1.toNat) 1 0 → (P_X11_reread v1 s6 (fun _ s7 => Q x4 s7))))))))
set_option maxRecDepth 100000 in
theorem C_X11_wipe {v1 : Int} {s : Sto} {Q : Int → Sto → Prop}  (h : P_X11_wipe v1 s Q) : sr_C yX11_wipe cX11_wipe 3 (some .int) 5 [vR 0, vI v1] s Q := by
  refine sr_C.of (by decide +kernel) (Nat.le_of_ble_eq_true rfl) ?_
  show sr_G RX11 cX11_wipe 3 (some .int) 5 0 [(0, vR 0), (1, vI v1)] [] s Q
  unfold P_X11_wipe at h
  refine g_iload_n (pc' := 1) dX11_wipe_0 rfl rfl ?_
  refine g_iconst (pc' := 2) (by unfold r32; decide) dX11_wipe_1 rfl ?_
  refine g_iconst (pc' := 3) (by unfold r32; decide) dX11_wipe_2 rfl ?_
  refine g_S3z (pc' := 6) dX11_wipe_3 rfl ms_RX11_102 (by decide) (Nat.le_of_ble_eq_true rfl) C_X11_within (sr_purb (fun hb1 => ?_))
  refine g_if_ne (pc' := 9) (tgt := 12) dX11_wipe_6 rfl rfl (fun c2 => ?_) (fun c2 => ?_)
  · have h := h.2 c2
    refine g_aload_n (pc' := 13) dX11_wipe_12 rfl rfl ?_
    refine g_getR (pc' := 16) (r := 1) dX11_wipe_13 rfl fl_RX11_11 kd_0 rfl rf_0_0 ?_
    refine g_iload_n (pc' := 17) dX11_wipe_16 rfl rfl ?_
    obtain ⟨ob3, h⟩ := h
    refine g_aald (pc' := 18) (r := 30 + 2 * v1.toNat) dX11_wipe_17 rfl (Or.inl rfl) ob3 (ra_1 ob3).1 ?_
    refine g_getI (pc' := 21) dX11_wipe_18 rfl fl_RX11_113 (ra_1 ob3).2 (Or.inl rfl) ?_
    refine g_topI (fun x4 ex4 => ?_)
    have h := h x4 ex4
    refine g_istore_n (pc' := 22) dX11_wipe_21 rfl (by decide) ?_
    refine g_aload_n (pc' := 23) dX11_wipe_22 rfl rfl ?_
    refine g_getR (pc' := 26) (r := 1) dX11_wipe_23 rfl fl_RX11_11 kd_0 rfl rf_0_0 ?_
    refine g_iload_n (pc' := 27) dX11_wipe_26 rfl rfl ?_
    obtain ⟨ob5, h⟩ := h
    refine g_aald (pc' := 28) (r := 30 + 2 * v1.toNat) dX11_wipe_27 rfl (Or.inl rfl) ob5 (ra_1 ob5).1 ?_
    refine g_iconst (pc' := 29) (by unfold r32; decide) dX11_wipe_28 rfl ?_
    refine g_putI (pc' := 32) dX11_wipe_29 rfl fp_RX11_113 (ra_1 ob5).2 rfl ?_
    refine g_sto (fun s6 es6 => ?_)
    have h := h s6 es6
    refine g_aload_n (pc' := 33) dX11_wipe_32 rfl rfl ?_
    refine g_iload_n (pc' := 34) dX11_wipe_33 rfl rfl ?_
    refine g_V1v (pc' := 37) dX11_wipe_34 rfl mv_RX11_110 kd_0 (by decide) (Nat.le_of_ble_eq_true rfl) (C_X11_reread h) (fun s7 h => ?_)
    refine g_iload_n (pc' := 38) dX11_wipe_37 rfl rfl ?_
    exact g_iret dX11_wipe_38 rfl h
  · have h := h.1 c2
    refine g_bipush (pc' := 11) ⟨by unfold r32; decide, rfl⟩ dX11_wipe_9 rfl ?_
    exact g_iret dX11_wipe_11 rfl h
def P_X11_undo (v1 : Int) (s : Sto) (Q : Int → Sto → Prop) : Prop := ((F_X11_within v1 0 2 s = 0 → Q ((-2)) s) ∧ (¬ F_X11_within v1 0 2 s = 0 → (inb v1 3 ∧ ((0 < s (30 + 2 * v1.toNat) 1 → (inb v1 3 ∧ (∀ s6 : Sto, s6 = up s (30 + 2 * v1.toNat) 1 (w32 ((s (30 + 2 * v1.toNat) 1) - 1)) → (P_X11_reread v1 s6 (fun _ s7 => (inb v1 3 ∧ Q (s7 (30 + 2 * v1.toNat) 1) s7)))))) ∧ (¬ 0 < s (30 + 2 * v1.toNat) 1 → Q ((-3)) s)))))
set_option maxRecDepth 100000 in
theorem C_X11_undo {v1 : Int} {s : Sto} {Q : Int → Sto → Prop}  (h : P_X11_undo v1 s Q) : sr_C yX11_undo cX11_undo 2 (some .int) 5 [vR 0, vI v1] s Q := by
  refine sr_C.of (by decide +kernel) (Nat.le_of_ble_eq_true rfl) ?_
  show sr_G RX11 cX11_undo 2 (some .int) 5 0 [(0, vR 0), (1, vI v1)] [] s Q
  unfold P_X11_undo at h
  refine g_iload_n (pc' := 1) dX11_undo_0 rfl rfl ?_
  refine g_iconst (pc' := 2) (by unfold r32; decide) dX11_undo_1 rfl ?_
  refine g_iconst (pc' := 3) (by unfold r32; decide) dX11_undo_2 rfl ?_
  refine g_S3z (pc' := 6) dX11_undo_3 rfl ms_RX11_102 (by decide) (Nat.le_of_ble_eq_true rfl) C_X11_within (sr_purb (fun hb1 => ?_))
  refine g_if_ne (pc' := 9) (tgt := 12) dX11_undo_6 rfl rfl (fun c2 => ?_) (fun c2 => ?_)
  · have h := h.2 c2
    refine g_aload_n (pc' := 13) dX11_undo_12 rfl rfl ?_
    refine g_getR (pc' := 16) (r := 1) dX11_undo_13 rfl fl_RX11_11 kd_0 rfl rf_0_0 ?_
    refine g_iload_n (pc' := 17) dX11_undo_16 rfl rfl ?_
    obtain ⟨ob3, h⟩ := h
    refine g_aald (pc' := 18) (r := 30 + 2 * v1.toNat) dX11_undo_17 rfl (Or.inl rfl) ob3 (ra_1 ob3).1 ?_
    refine g_getI (pc' := 21) dX11_undo_18 rfl fl_RX11_113 (ra_1 ob3).2 (Or.inl rfl) ?_
    refine g_if_gt (pc' := 24) (tgt := 27) dX11_undo_21 rfl rfl (fun c4 => ?_) (fun c4 => ?_)
    · have h := h.1 c4
      refine g_aload_n (pc' := 28) dX11_undo_27 rfl rfl ?_
      refine g_getR (pc' := 31) (r := 1) dX11_undo_28 rfl fl_RX11_11 kd_0 rfl rf_0_0 ?_
      refine g_iload_n (pc' := 32) dX11_undo_31 rfl rfl ?_
      obtain ⟨ob5, h⟩ := h
      refine g_aald (pc' := 33) (r := 30 + 2 * v1.toNat) dX11_undo_32 rfl (Or.inl rfl) ob5 (ra_1 ob5).1 ?_
      refine g_dupR (pc' := 34) dX11_undo_33 rfl ?_
      refine g_getI (pc' := 37) dX11_undo_34 rfl fl_RX11_113 (ra_1 ob5).2 (Or.inl rfl) ?_
      refine g_iconst (pc' := 38) (by unfold r32; decide) dX11_undo_37 rfl ?_
      refine g_isub (pc' := 39) dX11_undo_38 rfl ?_
      refine g_putI (pc' := 42) dX11_undo_39 rfl fp_RX11_113 (ra_1 ob5).2 rfl ?_
      refine g_sto (fun s6 es6 => ?_)
      have h := h s6 es6
      refine g_aload_n (pc' := 43) dX11_undo_42 rfl rfl ?_
      refine g_iload_n (pc' := 44) dX11_undo_43 rfl rfl ?_
      refine g_V1v (pc' := 47) dX11_undo_44 rfl mv_RX11_110 kd_0 (by decide) (Nat.le_of_ble_eq_true rfl) (C_X11_reread h) (fun s7 h => ?_)
      refine g_aload_n (pc' := 48) dX11_undo_47 rfl rfl ?_
      refine g_getR (pc' := 51) (r := 1) dX11_undo_48 rfl fl_RX11_11 kd_0 rfl rf_0_0 ?_
      refine g_iload_n (pc' := 52) dX11_undo_51 rfl rfl ?_
      obtain ⟨ob9, h⟩ := h
      refine g_aald (pc' := 53) (r := 30 + 2 * v1.toNat) dX11_undo_52 rfl (Or.inl rfl) ob9 (ra_1 ob9).1 ?_
      refine g_getI (pc' := 56) dX11_undo_53 rfl fl_RX11_113 (ra_1 ob9).2 (Or.inl rfl) ?_
      exact g_iret dX11_undo_56 rfl h
    · have h := h.2 c4
      refine g_bipush (pc' := 26) ⟨by unfold r32; decide, rfl⟩ dX11_undo_24 rfl ?_
      exact g_iret dX11_undo_26 rfl h
  · have h := h.1 c2
    refine g_bipush (pc' := 11) ⟨by unfold r32; decide, rfl⟩ dX11_undo_9 rfl ?_
    exact g_iret dX11_undo_11 rfl h
def F_X11_fault (v1 : Int) (s : Sto) : Int := (if F_X11_within v1 0 2 s = 0 then (-2) else s 2 v1.toNat)
def O_X11_fault (v1 : Int) (s : Sto) : Prop := ((F_X11_within v1 0 2 s = 0 → True) ∧ (¬ F_X11_within v1 0 2 s = 0 → (inb v1 3 ∧ True)))
set_option maxRecDepth 100000 in
theorem C_X11_fault {v1 : Int} {s : Sto}  (h : O_X11_fault v1 s) : sr_C yX11_fault cX11_fault 2 (some .int) 1 [vR 0, vI v1] s (fun r s' => r = F_X11_fault v1 s ∧ s' = s) := by
  refine sr_C.of (by decide +kernel) (Nat.le_of_ble_eq_true rfl) ?_
  show sr_G RX11 cX11_fault 2 (some .int) 1 0 [(0, vR 0), (1, vI v1)] [] s (fun r s' => r = F_X11_fault v1 s ∧ s' = s)
  unfold O_X11_fault at h
  refine g_iload_n (pc' := 1) dX11_fault_0 rfl rfl ?_
  refine g_iconst (pc' := 2) (by unfold r32; decide) dX11_fault_1 rfl ?_
  refine g_iconst (pc' := 3) (by unfold r32; decide) dX11_fault_2 rfl ?_
  refine g_S3z (pc' := 6) dX11_fault_3 rfl ms_RX11_102 (by decide) (Nat.le_of_ble_eq_true rfl) C_X11_within (sr_purb (fun hb1 => ?_))
  refine g_if_eq (pc' := 9) (tgt := 18) dX11_fault_6 rfl rfl (fun c2 => ?_) (fun c2 => ?_)
  · have h := h.1 c2
    refine g_bipush (pc' := 20) ⟨by unfold r32; decide, rfl⟩ dX11_fault_18 rfl ?_
    exact g_iret dX11_fault_20 rfl ⟨(by simp only [F_X11_fault, if_pos c2]), rfl⟩
  · have h := h.2 c2
    refine g_aload_n (pc' := 10) dX11_fault_9 rfl rfl ?_
    refine g_getR (pc' := 13) (r := 2) dX11_fault_10 rfl fl_RX11_15 kd_0 rfl rf_0_1 ?_
    refine g_iload_n (pc' := 14) dX11_fault_13 rfl rfl ?_
    obtain ⟨ob3, h⟩ := h
    refine g_iald (pc' := 15) dX11_fault_14 rfl kd_2 ob3 ?_
    refine g_goto (pc' := 20) dX11_fault_15 rfl ?_
    exact g_iret dX11_fault_20 rfl ⟨(by simp only [F_X11_fault, if_neg c2]), rfl⟩
def F_X11_cell (v1 : Int) (s : Sto) : Int := (if F_X11_within v1 0 35 s = 0 then (-2) else (if v1 < s 3 0 then (if F_X10_isOpen v1 s = 0 then 1 else 0) else (-1)))
def O_X11_cell (v1 : Int) (s : Sto) : Prop := ((F_X11_within v1 0 35 s = 0 → True) ∧ (¬ F_X11_within v1 0 35 s = 0 → ((v1 < s 3 0 → (O_X10_isOpen v1 s ∧ True)) ∧ (¬ v1 < s 3 0 → True))))
set_option maxRecDepth 100000 in
theorem C_X11_cell {v1 : Int} {s : Sto}  (h : O_X11_cell v1 s) : sr_C yX11_cell cX11_cell 2 (some .int) 1 [vR 0, vI v1] s (fun r s' => r = F_X11_cell v1 s ∧ s' = s) := by
  refine sr_C.of (by decide +kernel) (Nat.le_of_ble_eq_true rfl) ?_
  show sr_G RX11 cX11_cell 2 (some .int) 1 0 [(0, vR 0), (1, vI v1)] [] s (fun r s' => r = F_X11_cell v1 s ∧ s' = s)
  unfold O_X11_cell at h
  refine g_iload_n (pc' := 1) dX11_cell_0 rfl rfl ?_
  refine g_iconst (pc' := 2) (by unfold r32; decide) dX11_cell_1 rfl ?_
  refine g_bipush (pc' := 4) ⟨by unfold r32; decide, rfl⟩ dX11_cell_2 rfl ?_
  refine g_S3z (pc' := 7) dX11_cell_4 rfl ms_RX11_102 (by decide) (Nat.le_of_ble_eq_true rfl) C_X11_within (sr_purb (fun hb1 => ?_))
  refine g_if_ne (pc' := 10) (tgt := 13) dX11_cell_7 rfl rfl (fun c2 => ?_) (fun c2 => ?_)
  · have h := h.2 c2
    refine g_iload_n (pc' := 14) dX11_cell_13 rfl rfl ?_
    refine g_aload_n (pc' := 15) dX11_cell_14 rfl rfl ?_
    refine g_getR (pc' := 18) (r := 3) dX11_cell_15 rfl fl_RX11_22 kd_0 rfl rf_0_2 ?_
    refine g_getI (pc' := 21) dX11_cell_18 rfl fl_RX11_116 kd_3 (Or.inl rfl) ?_
    refine g_ic_lt (pc' := 24) (tgt := 26) dX11_cell_21 rfl rfl (fun c3 => ?_) (fun c3 => ?_)
    · have h := h.1 c3
      refine g_aload_n (pc' := 27) dX11_cell_26 rfl rfl ?_
      refine g_getR (pc' := 30) (r := 3) dX11_cell_27 rfl fl_RX11_22 kd_0 rfl rf_0_2 ?_
      refine g_iload_n (pc' := 31) dX11_cell_30 rfl rfl ?_
      obtain ⟨ob4, h⟩ := h
      refine g_V1z (pc' := 34) dX11_cell_31 rfl mv_RX11_119 kd_3 (by decide) (Nat.le_of_ble_eq_true rfl) (C_X10_isOpen ob4) (sr_purb (fun hb5 => ?_))
      refine g_if_eq (pc' := 37) (tgt := 41) dX11_cell_34 rfl rfl (fun c6 => ?_) (fun c6 => ?_)
      · refine g_iconst (pc' := 42) (by unfold r32; decide) dX11_cell_41 rfl ?_
        exact g_iret dX11_cell_42 rfl ⟨(by simp only [F_X11_cell, if_neg c2, if_pos c3, if_pos c6]), rfl⟩
      · refine g_iconst (pc' := 38) (by unfold r32; decide) dX11_cell_37 rfl ?_
        refine g_goto (pc' := 42) dX11_cell_38 rfl ?_
        exact g_iret dX11_cell_42 rfl ⟨(by simp only [F_X11_cell, if_neg c2, if_pos c3, if_neg c6]), rfl⟩
    · have h := h.2 c3
      refine g_iconst (pc' := 25) (by unfold r32; decide) dX11_cell_24 rfl ?_
      exact g_iret dX11_cell_25 rfl ⟨(by simp only [F_X11_cell, if_neg c2, if_neg c3]), rfl⟩
  · have h := h.1 c2
    refine g_bipush (pc' := 12) ⟨by unfold r32; decide, rfl⟩ dX11_cell_10 rfl ?_
    exact g_iret dX11_cell_12 rfl ⟨(by simp only [F_X11_cell, if_pos c2]), rfl⟩
def F_X11_isThing (v1 : Int) (s : Sto) : Int := F_X11_within v1 0 (w32 ((s 6 6) - 1)) s
set_option maxRecDepth 100000 in
theorem C_X11_isThing {v1 : Int} {s : Sto}   : sr_C yX11_isThing cX11_isThing 2 (some .boolean) 1 [vR 0, vI v1] s (fun r s' => r = F_X11_isThing v1 s ∧ s' = s ∧ (r = 0 ∨ r = 1)) := by
  refine sr_C.of (by decide +kernel) (Nat.le_of_ble_eq_true rfl) ?_
  show sr_G RX11 cX11_isThing 2 (some .boolean) 1 0 [(0, vR 0), (1, vI v1)] [] s (fun r s' => r = F_X11_isThing v1 s ∧ s' = s ∧ (r = 0 ∨ r = 1))
  refine g_iload_n (pc' := 1) dX11_isThing_0 rfl rfl ?_
  refine g_iconst (pc' := 2) (by unfold r32; decide) dX11_isThing_1 rfl ?_
  refine g_aload_n (pc' := 3) dX11_isThing_2 rfl rfl ?_
  refine g_getR (pc' := 6) (r := 6) dX11_isThing_3 rfl fl_RX11_29 kd_0 rfl rf_0_3 ?_
  refine g_getI (pc' := 9) dX11_isThing_6 rfl fl_RX11_218 kd_6 (Or.inl rfl) ?_
  refine g_iconst (pc' := 10) (by unfold r32; decide) dX11_isThing_9 rfl ?_
  refine g_isub (pc' := 11) dX11_isThing_10 rfl ?_
  refine g_S3z (pc' := 14) dX11_isThing_11 rfl ms_RX11_102 (by decide) (Nat.le_of_ble_eq_true rfl) C_X11_within (sr_purb (fun hb1 => ?_))
  exact g_zret dX11_isThing_14 rfl hb1 ⟨rfl, rfl, hb1⟩
def F_X11_thing (v1 : Int) (v2 : Int) (s : Sto) : Int := (if F_X11_isThing v1 s = 0 then (-2) else (if v2 = 0 then s 12 v1.toNat else (if v2 = 1 then s 13 v1.toNat else (if v2 = 2 then s 14 v1.toNat else (-2)))))
def O_X11_thing (v1 : Int) (v2 : Int) (s : Sto) : Prop := ((F_X11_isThing v1 s = 0 → True) ∧ (¬ F_X11_isThing v1 s = 0 → ((v2 = 0 → (inb v1 8 ∧ True)) ∧ (¬ v2 = 0 → ((v2 = 1 → (inb v1 8 ∧ True)) ∧ (¬ v2 = 1 → ((v2 = 2 → (inb v1 8 ∧ True)) ∧ (¬ v2 = 2 → True))))))))
set_option maxRecDepth 100000 in
theorem C_X11_thing {v1 : Int} {v2 : Int} {s : Sto}  (h : O_X11_thing v1 v2 s) : sr_C yX11_thing cX11_thing 3 (some .int) 2 [vR 0, vI v1, vI v2] s (fun r s' => r = F_X11_thing v1 v2 s ∧ s' = s) := by
  refine sr_C.of (by decide +kernel) (Nat.le_of_ble_eq_true rfl) ?_
  show sr_G RX11 cX11_thing 3 (some .int) 2 0 [(0, vR 0), (1, vI v1), (2, vI v2)] [] s (fun r s' => r = F_X11_thing v1 v2 s ∧ s' = s)
  unfold O_X11_thing at h
  refine g_aload_n (pc' := 1) dX11_thing_0 rfl rfl ?_
  refine g_iload_n (pc' := 2) dX11_thing_1 rfl rfl ?_
  refine g_V1z (pc' := 5) dX11_thing_2 rfl mv_RX11_122 kd_0 (by decide) (Nat.le_of_ble_eq_true rfl) C_X11_isThing (sr_purb (fun hb1 => ?_))
  refine g_if_ne (pc' := 8) (tgt := 11) dX11_thing_5 rfl rfl (fun c2 => ?_) (fun c2 => ?_)
  · have h := h.2 c2
    refine g_iload_n (pc' := 12) dX11_thing_11 rfl rfl ?_
    by_cases c3 : v2 = 0
    · have h := h.1 c3
      refine g_tabIn (pc' := 40) dX11_thing_12 (le_of_le_of_eq (by decide) c3.symm) (le_of_eq_of_le c3 (by decide)) (by rw [c3]; rfl) rfl ?_
      refine g_aload_n (pc' := 41) dX11_thing_40 rfl rfl ?_
      refine g_getR (pc' := 44) (r := 6) dX11_thing_41 rfl fl_RX11_29 kd_0 rfl rf_0_3 ?_
      refine g_getR (pc' := 47) (r := 12) dX11_thing_44 rfl fl_RX11_125 kd_6 rfl rf_6_7 ?_
      refine g_iload_n (pc' := 48) dX11_thing_47 rfl rfl ?_
      obtain ⟨ob4, h⟩ := h
      refine g_iald (pc' := 49) dX11_thing_48 rfl kd_12 ob4 ?_
      exact g_iret dX11_thing_49 rfl ⟨(by simp only [F_X11_thing, if_neg c2, if_pos c3]), rfl⟩
    · have h := h.2 c3
      by_cases c5 : v2 = 1
      · have h := h.1 c5
        refine g_tabIn (pc' := 50) dX11_thing_12 (le_of_le_of_eq (by decide) c5.symm) (le_of_eq_of_le c5 (by decide)) (by rw [c5]; rfl) rfl ?_
        refine g_aload_n (pc' := 51) dX11_thing_50 rfl rfl ?_
        refine g_getR (pc' := 54) (r := 6) dX11_thing_51 rfl fl_RX11_29 kd_0 rfl rf_0_3 ?_
        refine g_getR (pc' := 57) (r := 13) dX11_thing_54 rfl fl_RX11_128 kd_6 rfl rf_6_8 ?_
        refine g_iload_n (pc' := 58) dX11_thing_57 rfl rfl ?_
        obtain ⟨ob6, h⟩ := h
        refine g_iald (pc' := 59) dX11_thing_58 rfl kd_13 ob6 ?_
        exact g_iret dX11_thing_59 rfl ⟨(by simp only [F_X11_thing, if_neg c2, if_neg c3, if_pos c5]), rfl⟩
      · have h := h.2 c5
        by_cases c7 : v2 = 2
        · have h := h.1 c7
          refine g_tabIn (pc' := 60) dX11_thing_12 (le_of_le_of_eq (by decide) c7.symm) (le_of_eq_of_le c7 (by decide)) (by rw [c7]; rfl) rfl ?_
          refine g_aload_n (pc' := 61) dX11_thing_60 rfl rfl ?_
          refine g_getR (pc' := 64) (r := 6) dX11_thing_61 rfl fl_RX11_29 kd_0 rfl rf_0_3 ?_
          refine g_getR (pc' := 67) (r := 14) dX11_thing_64 rfl fl_RX11_131 kd_6 rfl rf_6_9 ?_
          refine g_iload_n (pc' := 68) dX11_thing_67 rfl rfl ?_
          obtain ⟨ob8, h⟩ := h
          refine g_iald (pc' := 69) dX11_thing_68 rfl kd_14 ob8 ?_
          exact g_iret dX11_thing_69 rfl ⟨(by simp only [F_X11_thing, if_neg c2, if_neg c3, if_neg c5, if_pos c7]), rfl⟩
        · have h := h.2 c7
          refine g_tabOut (pc' := 70) dX11_thing_12 (tout_0_2 c3 c5 c7) rfl ?_
          refine g_bipush (pc' := 72) ⟨by unfold r32; decide, rfl⟩ dX11_thing_70 rfl ?_
          exact g_iret dX11_thing_72 rfl ⟨(by simp only [F_X11_thing, if_neg c2, if_neg c3, if_neg c5, if_neg c7]), rfl⟩
  · have h := h.1 c2
    refine g_bipush (pc' := 10) ⟨by unfold r32; decide, rfl⟩ dX11_thing_8 rfl ?_
    exact g_iret dX11_thing_10 rfl ⟨(by simp only [F_X11_thing, if_pos c2]), rfl⟩
def F_X11_wind (v1 : Int) (s : Sto) : Int := (if F_X11_within v1 0 19 s = 0 then (-2) else s 15 v1.toNat)
def O_X11_wind (v1 : Int) (s : Sto) : Prop := ((F_X11_within v1 0 19 s = 0 → True) ∧ (¬ F_X11_within v1 0 19 s = 0 → (inb v1 20 ∧ True)))
set_option maxRecDepth 100000 in
theorem C_X11_wind {v1 : Int} {s : Sto}  (h : O_X11_wind v1 s) : sr_C yX11_wind cX11_wind 2 (some .int) 1 [vR 0, vI v1] s (fun r s' => r = F_X11_wind v1 s ∧ s' = s) := by
  refine sr_C.of (by decide +kernel) (Nat.le_of_ble_eq_true rfl) ?_
  show sr_G RX11 cX11_wind 2 (some .int) 1 0 [(0, vR 0), (1, vI v1)] [] s (fun r s' => r = F_X11_wind v1 s ∧ s' = s)
  unfold O_X11_wind at h
  refine g_iload_n (pc' := 1) dX11_wind_0 rfl rfl ?_
  refine g_iconst (pc' := 2) (by unfold r32; decide) dX11_wind_1 rfl ?_
  refine g_bipush (pc' := 4) ⟨by unfold r32; decide, rfl⟩ dX11_wind_2 rfl ?_
  refine g_S3z (pc' := 7) dX11_wind_4 rfl ms_RX11_102 (by decide) (Nat.le_of_ble_eq_true rfl) C_X11_within (sr_purb (fun hb1 => ?_))
  refine g_if_eq (pc' := 10) (tgt := 22) dX11_wind_7 rfl rfl (fun c2 => ?_) (fun c2 => ?_)
  · have h := h.1 c2
    refine g_bipush (pc' := 24) ⟨by unfold r32; decide, rfl⟩ dX11_wind_22 rfl ?_
    exact g_iret dX11_wind_24 rfl ⟨(by simp only [F_X11_wind, if_pos c2]), rfl⟩
  · have h := h.2 c2
    refine g_aload_n (pc' := 11) dX11_wind_10 rfl rfl ?_
    refine g_getR (pc' := 14) (r := 6) dX11_wind_11 rfl fl_RX11_29 kd_0 rfl rf_0_3 ?_
    refine g_getR (pc' := 17) (r := 15) dX11_wind_14 rfl fl_RX11_134 kd_6 rfl rf_6_10 ?_
    refine g_iload_n (pc' := 18) dX11_wind_17 rfl rfl ?_
    obtain ⟨ob3, h⟩ := h
    refine g_iald (pc' := 19) dX11_wind_18 rfl kd_15 ob3 ?_
    refine g_goto (pc' := 24) dX11_wind_19 rfl ?_
    exact g_iret dX11_wind_24 rfl ⟨(by simp only [F_X11_wind, if_neg c2]), rfl⟩
def F_X11_widens (v1 : Int) (s : Sto) : Int := (if F_X11_within v1 1 4 s = 0 then (-2) else s 6 11)
def S_X11_widens (v1 : Int) (s : Sto) : Sto := (if F_X11_within v1 1 4 s = 0 then s else up (up s 6 11 v1) 0 12 0)
set_option maxRecDepth 100000 in
theorem C_X11_widens {v1 : Int} {s : Sto}   : sr_C yX11_widens cX11_widens 3 (some .int) 1 [vR 0, vI v1] s (fun r s' => r = F_X11_widens v1 s ∧ s' = S_X11_widens v1 s) := by
  refine sr_C.of (by decide +kernel) (Nat.le_of_ble_eq_true rfl) ?_
  show sr_G RX11 cX11_widens 3 (some .int) 1 0 [(0, vR 0), (1, vI v1)] [] s (fun r s' => r = F_X11_widens v1 s ∧ s' = S_X11_widens v1 s)
  refine g_iload_n (pc' := 1) dX11_widens_0 rfl rfl ?_
  refine g_iconst (pc' := 2) (by unfold r32; decide) dX11_widens_1 rfl ?_
  refine g_iconst (pc' := 3) (by unfold r32; decide) dX11_widens_2 rfl ?_
  refine g_S3z (pc' := 6) dX11_widens_3 rfl ms_RX11_102 (by decide) (Nat.le_of_ble_eq_true rfl) C_X11_within (sr_purb (fun hb1 => ?_))
  refine g_if_ne (pc' := 9) (tgt := 12) dX11_widens_6 rfl rfl (fun c2 => ?_) (fun c2 => ?_)
  · refine g_aload_n (pc' := 13) dX11_widens_12 rfl rfl ?_
    refine g_getR (pc' := 16) (r := 6) dX11_widens_13 rfl fl_RX11_29 kd_0 rfl rf_0_3 ?_
    refine g_getI (pc' := 19) dX11_widens_16 rfl fl_RX11_137 kd_6 (Or.inl rfl) ?_
    refine g_istore_n (pc' := 20) dX11_widens_19 rfl (by decide) ?_
    refine g_aload_n (pc' := 21) dX11_widens_20 rfl rfl ?_
    refine g_getR (pc' := 24) (r := 6) dX11_widens_21 rfl fl_RX11_29 kd_0 rfl rf_0_3 ?_
    refine g_iload_n (pc' := 25) dX11_widens_24 rfl rfl ?_
    refine g_putI (pc' := 28) dX11_widens_25 rfl fp_RX11_137 kd_6 rfl ?_
    refine g_aload_n (pc' := 29) dX11_widens_28 rfl rfl ?_
    refine g_iconst (pc' := 30) (by unfold r32; decide) dX11_widens_29 rfl ?_
    refine g_putZ (pc' := 33) dX11_widens_30 rfl fp_RX11_66 kd_0 rfl (Or.inl rfl) ?_
    refine g_iload_n (pc' := 34) dX11_widens_33 rfl rfl ?_
    exact g_iret dX11_widens_34 rfl ⟨(by simp only [F_X11_widens, if_neg c2]), (by simp only [S_X11_widens, if_neg c2])⟩
  · refine g_bipush (pc' := 11) ⟨by unfold r32; decide, rfl⟩ dX11_widens_9 rfl ?_
    exact g_iret dX11_widens_11 rfl ⟨(by simp only [F_X11_widens, if_pos c2]), (by simp only [S_X11_widens, if_pos c2])⟩
def F_X11_mayBlow (v0 : Int) (v1 : Int) (v2 : Int) (v3 : Int) (v4 : Int) (s : Sto) : Int := (if F_X11_within v0 0 19 s = 0 then 0 else (if F_X11_within v1 0 35 s = 0 then 0 else (if F_X11_within v2 0 3 s = 0 then 0 else (if F_X11_within v3 1 9 s = 0 then 0 else (if F_X11_within v4 0 3 s = 0 then 0 else 1)))))
set_option maxRecDepth 100000 in
theorem C_X11_mayBlow {v0 : Int} {v1 : Int} {v2 : Int} {v3 : Int} {v4 : Int} {s : Sto}   : sr_C yX11_mayBlow cX11_mayBlow 5 (some .boolean) 1 [vI v0, vI v1, vI v2, vI v3, vI v4] s (fun r s' => r = F_X11_mayBlow v0 v1 v2 v3 v4 s ∧ s' = s ∧ (r = 0 ∨ r = 1)) := by
  refine sr_C.of (by decide +kernel) (Nat.le_of_ble_eq_true rfl) ?_
  show sr_G RX11 cX11_mayBlow 5 (some .boolean) 1 0 [(0, vI v0), (1, vI v1), (2, vI v2), (3, vI v3), (4, vI v4)] [] s (fun r s' => r = F_X11_mayBlow v0 v1 v2 v3 v4 s ∧ s' = s ∧ (r = 0 ∨ r = 1))
  refine g_iload_n (pc' := 1) dX11_mayBlow_0 rfl rfl ?_
  refine g_iconst (pc' := 2) (by unfold r32; decide) dX11_mayBlow_1 rfl ?_
  refine g_bipush (pc' := 4) ⟨by unfold r32; decide, rfl⟩ dX11_mayBlow_2 rfl ?_
  refine g_S3z (pc' := 7) dX11_mayBlow_4 rfl ms_RX11_102 (by decide) (Nat.le_of_ble_eq_true rfl) C_X11_within (sr_purb (fun hb1 => ?_))
  refine g_if_eq (pc' := 10) (tgt := 53) dX11_mayBlow_7 rfl rfl (fun c2 => ?_) (fun c2 => ?_)
  · refine g_iconst (pc' := 54) (by unfold r32; decide) dX11_mayBlow_53 rfl ?_
    exact g_zret dX11_mayBlow_54 rfl (Or.inl rfl) ⟨(by simp only [F_X11_mayBlow, if_pos c2]), rfl, (Or.inl rfl)⟩
  · refine g_iload_n (pc' := 11) dX11_mayBlow_10 rfl rfl ?_
    refine g_iconst (pc' := 12) (by unfold r32; decide) dX11_mayBlow_11 rfl ?_
    refine g_bipush (pc' := 14) ⟨by unfold r32; decide, rfl⟩ dX11_mayBlow_12 rfl ?_
    refine g_S3z (pc' := 17) dX11_mayBlow_14 rfl ms_RX11_102 (by decide) (Nat.le_of_ble_eq_true rfl) C_X11_within (sr_purb (fun hb3 => ?_))
    refine g_if_eq (pc' := 20) (tgt := 53) dX11_mayBlow_17 rfl rfl (fun c4 => ?_) (fun c4 => ?_)
    · refine g_iconst (pc' := 54) (by unfold r32; decide) dX11_mayBlow_53 rfl ?_
      exact g_zret dX11_mayBlow_54 rfl (Or.inl rfl) ⟨(by simp only [F_X11_mayBlow, if_neg c2, if_pos c4]), rfl, (Or.inl rfl)⟩
    · refine g_iload_n (pc' := 21) dX11_mayBlow_20 rfl rfl ?_
      refine g_iconst (pc' := 22) (by unfold r32; decide) dX11_mayBlow_21 rfl ?_
      refine g_iconst (pc' := 23) (by unfold r32; decide) dX11_mayBlow_22 rfl ?_
      refine g_S3z (pc' := 26) dX11_mayBlow_23 rfl ms_RX11_102 (by decide) (Nat.le_of_ble_eq_true rfl) C_X11_within (sr_purb (fun hb5 => ?_))
      refine g_if_eq (pc' := 29) (tgt := 53) dX11_mayBlow_26 rfl rfl (fun c6 => ?_) (fun c6 => ?_)
      · refine g_iconst (pc' := 54) (by unfold r32; decide) dX11_mayBlow_53 rfl ?_
        exact g_zret dX11_mayBlow_54 rfl (Or.inl rfl) ⟨(by simp only [F_X11_mayBlow, if_neg c2, if_neg c4, if_pos c6]), rfl, (Or.inl rfl)⟩
      · refine g_iload_n (pc' := 30) dX11_mayBlow_29 rfl rfl ?_
        refine g_iconst (pc' := 31) (by unfold r32; decide) dX11_mayBlow_30 rfl ?_
        refine g_bipush (pc' := 33) ⟨by unfold r32; decide, rfl⟩ dX11_mayBlow_31 rfl ?_
        refine g_S3z (pc' := 36) dX11_mayBlow_33 rfl ms_RX11_102 (by decide) (Nat.le_of_ble_eq_true rfl) C_X11_within (sr_purb (fun hb7 => ?_))
        refine g_if_eq (pc' := 39) (tgt := 53) dX11_mayBlow_36 rfl rfl (fun c8 => ?_) (fun c8 => ?_)
        · refine g_iconst (pc' := 54) (by unfold r32; decide) dX11_mayBlow_53 rfl ?_
          exact g_zret dX11_mayBlow_54 rfl (Or.inl rfl) ⟨(by simp only [F_X11_mayBlow, if_neg c2, if_neg c4, if_neg c6, if_pos c8]), rfl, (Or.inl rfl)⟩
        · refine g_iload (pc' := 41) dX11_mayBlow_39 rfl rfl ?_
          refine g_iconst (pc' := 42) (by unfold r32; decide) dX11_mayBlow_41 rfl ?_
          refine g_iconst (pc' := 43) (by unfold r32; decide) dX11_mayBlow_42 rfl ?_
          refine g_S3z (pc' := 46) dX11_mayBlow_43 rfl ms_RX11_102 (by decide) (Nat.le_of_ble_eq_true rfl) C_X11_within (sr_purb (fun hb9 => ?_))
          refine g_if_eq (pc' := 49) (tgt := 53) dX11_mayBlow_46 rfl rfl (fun c10 => ?_) (fun c10 => ?_)
          · refine g_iconst (pc' := 54) (by unfold r32; decide) dX11_mayBlow_53 rfl ?_
            exact g_zret dX11_mayBlow_54 rfl (Or.inl rfl) ⟨(by simp only [F_X11_mayBlow, if_neg c2, if_neg c4, if_neg c6, if_neg c8, if_pos c10]), rfl, (Or.inl rfl)⟩
          · refine g_iconst (pc' := 50) (by unfold r32; decide) dX11_mayBlow_49 rfl ?_
            refine g_goto (pc' := 54) dX11_mayBlow_50 rfl ?_
            exact g_zret dX11_mayBlow_54 rfl (Or.inr rfl) ⟨(by simp only [F_X11_mayBlow, if_neg c2, if_neg c4, if_neg c6, if_neg c8, if_neg c10]), rfl, (Or.inr rfl)⟩
def F_X11_blow (v1 : Int) (v2 : Int) (v3 : Int) (v4 : Int) (v5 : Int) (s : Sto) : Int := (if F_X11_mayBlow v1 v2 v3 v4 v5 s = 0 then (-2) else (if s 6 0 < 8 then up (S_X4_addRing 6 v1 v2 v3 v4 v5 s) 0 12 0 6 0 else (-4)))
def S_X11_blow (v1 : Int) (v2 : Int) (v3 : Int) (v4 : Int) (v5 : Int) (s : Sto) : Sto := (if F_X11_mayBlow v1 v2 v3 v4 v5 s = 0 then s else (if s 6 0 < 8 then up (S_X4_addRing 6 v1 v2 v3 v4 v5 s) 0 12 0 else s))
def O_X11_blow (v1 : Int) (v2 : Int) (v3 : Int) (v4 : Int) (v5 : Int) (s : Sto) : Prop := ((F_X11_mayBlow v1 v2 v3 v4 v5 s = 0 → True) ∧ (¬ F_X11_mayBlow v1 v2 v3 v4 v5 s = 0 → ((s 6 0 < 8 → (O_X4_addRing 6 v1 v2 v3 v4 v5 s ∧ True)) ∧ (¬ s 6 0 < 8 → True))))
set_option maxRecDepth 100000 in
theorem C_X11_blow {v1 : Int} {v2 : Int} {v3 : Int} {v4 : Int} {v5 : Int} {s : Sto}  (h : O_X11_blow v1 v2 v3 v4 v5 s) : sr_C yX11_blow cX11_blow 6 (some .int) 2 [vR 0, vI v1, vI v2, vI v3, vI v4, vI v5] s (fun r s' => r = F_X11_blow v1 v2 v3 v4 v5 s ∧ s' = S_X11_blow v1 v2 v3 v4 v5 s) := by
  refine sr_C.of (by decide +kernel) (Nat.le_of_ble_eq_true rfl) ?_
  show sr_G RX11 cX11_blow 6 (some .int) 2 0 [(0, vR 0), (1, vI v1), (2, vI v2), (3, vI v3), (4, vI v4), (5, vI v5)] [] s (fun r s' => r = F_X11_blow v1 v2 v3 v4 v5 s ∧ s' = S_X11_blow v1 v2 v3 v4 v5 s)
  unfold O_X11_blow at h
  refine g_iload_n (pc' := 1) dX11_blow_0 rfl rfl ?_
  refine g_iload_n (pc' := 2) dX11_blow_1 rfl rfl ?_
  refine g_iload_n (pc' := 3) dX11_blow_2 rfl rfl ?_
  refine g_iload (pc' := 5) dX11_blow_3 rfl rfl ?_
  refine g_iload (pc' := 7) dX11_blow_5 rfl rfl ?_
  refine g_S5z (pc' := 10) dX11_blow_7 rfl ms_RX11_140 (by decide) (Nat.le_of_ble_eq_true rfl) C_X11_mayBlow (sr_purb (fun hb1 => ?_))
  refine g_if_ne (pc' := 13) (tgt := 16) dX11_blow_10 rfl rfl (fun c2 => ?_) (fun c2 => ?_)
  · have h := h.2 c2
    refine g_aload_n (pc' := 17) dX11_blow_16 rfl rfl ?_
    refine g_getR (pc' := 20) (r := 6) dX11_blow_17 rfl fl_RX11_29 kd_0 rfl rf_0_3 ?_
    refine g_getI (pc' := 23) dX11_blow_20 rfl fl_RX11_144 kd_6 (Or.inl rfl) ?_
    refine g_bipush (pc' := 25) ⟨by unfold r32; decide, rfl⟩ dX11_blow_23 rfl ?_
    refine g_ic_lt (pc' := 28) (tgt := 31) dX11_blow_25 rfl rfl (fun c3 => ?_) (fun c3 => ?_)
    · have h := h.1 c3
      refine g_aload_n (pc' := 32) dX11_blow_31 rfl rfl ?_
      refine g_getR (pc' := 35) (r := 6) dX11_blow_32 rfl fl_RX11_29 kd_0 rfl rf_0_3 ?_
      refine g_iload_n (pc' := 36) dX11_blow_35 rfl rfl ?_
      refine g_iload_n (pc' := 37) dX11_blow_36 rfl rfl ?_
      refine g_iload_n (pc' := 38) dX11_blow_37 rfl rfl ?_
      refine g_iload (pc' := 40) dX11_blow_38 rfl rfl ?_
      refine g_iload (pc' := 42) dX11_blow_40 rfl rfl ?_
      obtain ⟨ob4, h⟩ := h
      refine g_V5v (pc' := 45) dX11_blow_42 rfl mv_RX11_147 kd_6 (by decide) (Nat.le_of_ble_eq_true rfl) (C_X4_addRing kd_6 ob4) (sr_purv ?_)
      refine g_aload_n (pc' := 46) dX11_blow_45 rfl rfl ?_
      refine g_iconst (pc' := 47) (by unfold r32; decide) dX11_blow_46 rfl ?_
      refine g_putZ (pc' := 50) dX11_blow_47 rfl fp_RX11_66 kd_0 rfl (Or.inl rfl) ?_
      refine g_aload_n (pc' := 51) dX11_blow_50 rfl rfl ?_
      refine g_getR (pc' := 54) (r := 6) dX11_blow_51 rfl fl_RX11_29 kd_0 rfl rf_0_3 ?_
      refine g_getI (pc' := 57) dX11_blow_54 rfl fl_RX11_144 kd_6 (Or.inl rfl) ?_
      exact g_iret dX11_blow_57 rfl ⟨(by simp only [F_X11_blow, if_neg c2, if_pos c3]), (by simp only [S_X11_blow, if_neg c2, if_pos c3])⟩
    · have h := h.2 c3
      refine g_bipush (pc' := 30) ⟨by unfold r32; decide, rfl⟩ dX11_blow_28 rfl ?_
      exact g_iret dX11_blow_30 rfl ⟨(by simp only [F_X11_blow, if_neg c2, if_neg c3]), (by simp only [S_X11_blow, if_neg c2, if_neg c3])⟩
  · have h := h.1 c2
    refine g_bipush (pc' := 15) ⟨by unfold r32; decide, rfl⟩ dX11_blow_13 rfl ?_
    exact g_iret dX11_blow_15 rfl ⟨(by simp only [F_X11_blow, if_pos c2]), (by simp only [S_X11_blow, if_pos c2])⟩
def F_X11_isRing (v1 : Int) (s : Sto) : Int := F_X11_within v1 0 (w32 ((s 6 0) - 1)) s
set_option maxRecDepth 100000 in
theorem C_X11_isRing {v1 : Int} {s : Sto}   : sr_C yX11_isRing cX11_isRing 2 (some .boolean) 1 [vR 0, vI v1] s (fun r s' => r = F_X11_isRing v1 s ∧ s' = s ∧ (r = 0 ∨ r = 1)) := by
  refine sr_C.of (by decide +kernel) (Nat.le_of_ble_eq_true rfl) ?_
  show sr_G RX11 cX11_isRing 2 (some .boolean) 1 0 [(0, vR 0), (1, vI v1)] [] s (fun r s' => r = F_X11_isRing v1 s ∧ s' = s ∧ (r = 0 ∨ r = 1))
  refine g_iload_n (pc' := 1) dX11_isRing_0 rfl rfl ?_
  refine g_iconst (pc' := 2) (by unfold r32; decide) dX11_isRing_1 rfl ?_
  refine g_aload_n (pc' := 3) dX11_isRing_2 rfl rfl ?_
  refine g_getR (pc' := 6) (r := 6) dX11_isRing_3 rfl fl_RX11_29 kd_0 rfl rf_0_3 ?_
  refine g_getI (pc' := 9) dX11_isRing_6 rfl fl_RX11_144 kd_6 (Or.inl rfl) ?_
  refine g_iconst (pc' := 10) (by unfold r32; decide) dX11_isRing_9 rfl ?_
  refine g_isub (pc' := 11) dX11_isRing_10 rfl ?_
  refine g_S3z (pc' := 14) dX11_isRing_11 rfl ms_RX11_102 (by decide) (Nat.le_of_ble_eq_true rfl) C_X11_within (sr_purb (fun hb1 => ?_))
  exact g_zret dX11_isRing_14 rfl hb1 ⟨rfl, rfl, hb1⟩
def F_X11_ring (v1 : Int) (v2 : Int) (s : Sto) : Int := (if F_X11_isRing v1 s = 0 then (-2) else (if v2 = 0 then s 7 v1.toNat else (if v2 = 1 then s 8 v1.toNat else (if v2 = 2 then s 9 v1.toNat else (if v2 = 3 then s 10 v1.toNat else (if v2 = 4 then s 11 v1.toNat else (-2)))))))
def O_X11_ring (v1 : Int) (v2 : Int) (s : Sto) : Prop := ((F_X11_isRing v1 s = 0 → True) ∧ (¬ F_X11_isRing v1 s = 0 → ((v2 = 0 → (inb v1 8 ∧ True)) ∧ (¬ v2 = 0 → ((v2 = 1 → (inb v1 8 ∧ True)) ∧ (¬ v2 = 1 → ((v2 = 2 → (inb v1 8 ∧ True)) ∧ (¬ v2 = 2 → ((v2 = 3 → (inb v1 8 ∧ True)) ∧ (¬ v2 = 3 → ((v2 = 4 → (inb v1 8 ∧ True)) ∧ (¬ v2 = 4 → True))))))))))))
set_option maxRecDepth 100000 in
theorem C_X11_ring {v1 : Int} {v2 : Int} {s : Sto}  (h : O_X11_ring v1 v2 s) : sr_C yX11_ring cX11_ring 3 (some .int) 2 [vR 0, vI v1, vI v2] s (fun r s' => r = F_X11_ring v1 v2 s ∧ s' = s) := by
  refine sr_C.of (by decide +kernel) (Nat.le_of_ble_eq_true rfl) ?_
  show sr_G RX11 cX11_ring 3 (some .int) 2 0 [(0, vR 0), (1, vI v1), (2, vI v2)] [] s (fun r s' => r = F_X11_ring v1 v2 s ∧ s' = s)
  unfold O_X11_ring at h
  refine g_aload_n (pc' := 1) dX11_ring_0 rfl rfl ?_
  refine g_iload_n (pc' := 2) dX11_ring_1 rfl rfl ?_
  refine g_V1z (pc' := 5) dX11_ring_2 rfl mv_RX11_151 kd_0 (by decide) (Nat.le_of_ble_eq_true rfl) C_X11_isRing (sr_purb (fun hb1 => ?_))
  refine g_if_ne (pc' := 8) (tgt := 11) dX11_ring_5 rfl rfl (fun c2 => ?_) (fun c2 => ?_)
  · have h := h.2 c2
    refine g_iload_n (pc' := 12) dX11_ring_11 rfl rfl ?_
    by_cases c3 : v2 = 0
    · have h := h.1 c3
      refine g_tabIn (pc' := 48) dX11_ring_12 (le_of_le_of_eq (by decide) c3.symm) (le_of_eq_of_le c3 (by decide)) (by rw [c3]; rfl) rfl ?_
      refine g_aload_n (pc' := 49) dX11_ring_48 rfl rfl ?_
      refine g_getR (pc' := 52) (r := 6) dX11_ring_49 rfl fl_RX11_29 kd_0 rfl rf_0_3 ?_
      refine g_getR (pc' := 55) (r := 7) dX11_ring_52 rfl fl_RX11_154 kd_6 rfl rf_6_1 ?_
      refine g_iload_n (pc' := 56) dX11_ring_55 rfl rfl ?_
      obtain ⟨ob4, h⟩ := h
      refine g_iald (pc' := 57) dX11_ring_56 rfl kd_7 ob4 ?_
      exact g_iret dX11_ring_57 rfl ⟨(by simp only [F_X11_ring, if_neg c2, if_pos c3]), rfl⟩
    · have h := h.2 c3
      by_cases c5 : v2 = 1
      · have h := h.1 c5
        refine g_tabIn (pc' := 58) dX11_ring_12 (le_of_le_of_eq (by decide) c5.symm) (le_of_eq_of_le c5 (by decide)) (by rw [c5]; rfl) rfl ?_
        refine g_aload_n (pc' := 59) dX11_ring_58 rfl rfl ?_
        refine g_getR (pc' := 62) (r := 6) dX11_ring_59 rfl fl_RX11_29 kd_0 rfl rf_0_3 ?_
        refine g_getR (pc' := 65) (r := 8) dX11_ring_62 rfl fl_RX11_157 kd_6 rfl rf_6_2 ?_
        refine g_iload_n (pc' := 66) dX11_ring_65 rfl rfl ?_
        obtain ⟨ob6, h⟩ := h
        refine g_iald (pc' := 67) dX11_ring_66 rfl kd_8 ob6 ?_
        exact g_iret dX11_ring_67 rfl ⟨(by simp only [F_X11_ring, if_neg c2, if_neg c3, if_pos c5]), rfl⟩
      · have h := h.2 c5
        by_cases c7 : v2 = 2
        · have h := h.1 c7
          refine g_tabIn (pc' := 68) dX11_ring_12 (le_of_le_of_eq (by decide) c7.symm) (le_of_eq_of_le c7 (by decide)) (by rw [c7]; rfl) rfl ?_
          refine g_aload_n (pc' := 69) dX11_ring_68 rfl rfl ?_
          refine g_getR (pc' := 72) (r := 6) dX11_ring_69 rfl fl_RX11_29 kd_0 rfl rf_0_3 ?_
          refine g_getR (pc' := 75) (r := 9) dX11_ring_72 rfl fl_RX11_160 kd_6 rfl rf_6_3 ?_
          refine g_iload_n (pc' := 76) dX11_ring_75 rfl rfl ?_
          obtain ⟨ob8, h⟩ := h
          refine g_iald (pc' := 77) dX11_ring_76 rfl kd_9 ob8 ?_
          exact g_iret dX11_ring_77 rfl ⟨(by simp only [F_X11_ring, if_neg c2, if_neg c3, if_neg c5, if_pos c7]), rfl⟩
        · have h := h.2 c7
          by_cases c9 : v2 = 3
          · have h := h.1 c9
            refine g_tabIn (pc' := 78) dX11_ring_12 (le_of_le_of_eq (by decide) c9.symm) (le_of_eq_of_le c9 (by decide)) (by rw [c9]; rfl) rfl ?_
            refine g_aload_n (pc' := 79) dX11_ring_78 rfl rfl ?_
            refine g_getR (pc' := 82) (r := 6) dX11_ring_79 rfl fl_RX11_29 kd_0 rfl rf_0_3 ?_
            refine g_getR (pc' := 85) (r := 10) dX11_ring_82 rfl fl_RX11_163 kd_6 rfl rf_6_4 ?_
            refine g_iload_n (pc' := 86) dX11_ring_85 rfl rfl ?_
            obtain ⟨ob10, h⟩ := h
            refine g_iald (pc' := 87) dX11_ring_86 rfl kd_10 ob10 ?_
            exact g_iret dX11_ring_87 rfl ⟨(by simp only [F_X11_ring, if_neg c2, if_neg c3, if_neg c5, if_neg c7, if_pos c9]), rfl⟩
          · have h := h.2 c9
            by_cases c11 : v2 = 4
            · have h := h.1 c11
              refine g_tabIn (pc' := 88) dX11_ring_12 (le_of_le_of_eq (by decide) c11.symm) (le_of_eq_of_le c11 (by decide)) (by rw [c11]; rfl) rfl ?_
              refine g_aload_n (pc' := 89) dX11_ring_88 rfl rfl ?_
              refine g_getR (pc' := 92) (r := 6) dX11_ring_89 rfl fl_RX11_29 kd_0 rfl rf_0_3 ?_
              refine g_getR (pc' := 95) (r := 11) dX11_ring_92 rfl fl_RX11_166 kd_6 rfl rf_6_5 ?_
              refine g_iload_n (pc' := 96) dX11_ring_95 rfl rfl ?_
              obtain ⟨ob12, h⟩ := h
              refine g_iald (pc' := 97) dX11_ring_96 rfl kd_11 ob12 ?_
              exact g_iret dX11_ring_97 rfl ⟨(by simp only [F_X11_ring, if_neg c2, if_neg c3, if_neg c5, if_neg c7, if_neg c9, if_pos c11]), rfl⟩
            · have h := h.2 c11
              refine g_tabOut (pc' := 98) dX11_ring_12 (tout_0_4 c3 c5 c7 c9 c11) rfl ?_
              refine g_bipush (pc' := 100) ⟨by unfold r32; decide, rfl⟩ dX11_ring_98 rfl ?_
              exact g_iret dX11_ring_100 rfl ⟨(by simp only [F_X11_ring, if_neg c2, if_neg c3, if_neg c5, if_neg c7, if_neg c9, if_neg c11]), rfl⟩
  · have h := h.1 c2
    refine g_bipush (pc' := 10) ⟨by unfold r32; decide, rfl⟩ dX11_ring_8 rfl ?_
    exact g_iret dX11_ring_10 rfl ⟨(by simp only [F_X11_ring, if_pos c2]), rfl⟩
def F_X11_back (s : Sto) : Int := (if 0 < s 6 0 then up (up s 6 0 (w32 ((s 6 0) - 1))) 0 12 0 6 0 else (-3))
def S_X11_back (s : Sto) : Sto := (if 0 < s 6 0 then up (up s 6 0 (w32 ((s 6 0) - 1))) 0 12 0 else s)
set_option maxRecDepth 100000 in
theorem C_X11_back {s : Sto}   : sr_C yX11_back cX11_back 1 (some .int) 0 [vR 0] s (fun r s' => r = F_X11_back s ∧ s' = S_X11_back s) := by
  refine sr_C.of (by decide +kernel) (Nat.le_of_ble_eq_true rfl) ?_
  show sr_G RX11 cX11_back 1 (some .int) 0 0 [(0, vR 0)] [] s (fun r s' => r = F_X11_back s ∧ s' = S_X11_back s)
  refine g_aload_n (pc' := 1) dX11_back_0 rfl rfl ?_
  refine g_getR (pc' := 4) (r := 6) dX11_back_1 rfl fl_RX11_29 kd_0 rfl rf_0_3 ?_
  refine g_getI (pc' := 7) dX11_back_4 rfl fl_RX11_144 kd_6 (Or.inl rfl) ?_
  refine g_if_gt (pc' := 10) (tgt := 13) dX11_back_7 rfl rfl (fun c1 => ?_) (fun c1 => ?_)
  · refine g_aload_n (pc' := 14) dX11_back_13 rfl rfl ?_
    refine g_getR (pc' := 17) (r := 6) dX11_back_14 rfl fl_RX11_29 kd_0 rfl rf_0_3 ?_
    refine g_dupR (pc' := 18) dX11_back_17 rfl ?_
    refine g_getI (pc' := 21) dX11_back_18 rfl fl_RX11_144 kd_6 (Or.inl rfl) ?_
    refine g_iconst (pc' := 22) (by unfold r32; decide) dX11_back_21 rfl ?_
    refine g_isub (pc' := 23) dX11_back_22 rfl ?_
    refine g_putI (pc' := 26) dX11_back_23 rfl fp_RX11_144 kd_6 rfl ?_
    refine g_aload_n (pc' := 27) dX11_back_26 rfl rfl ?_
    refine g_iconst (pc' := 28) (by unfold r32; decide) dX11_back_27 rfl ?_
    refine g_putZ (pc' := 31) dX11_back_28 rfl fp_RX11_66 kd_0 rfl (Or.inl rfl) ?_
    refine g_aload_n (pc' := 32) dX11_back_31 rfl rfl ?_
    refine g_getR (pc' := 35) (r := 6) dX11_back_32 rfl fl_RX11_29 kd_0 rfl rf_0_3 ?_
    refine g_getI (pc' := 38) dX11_back_35 rfl fl_RX11_144 kd_6 (Or.inl rfl) ?_
    exact g_iret dX11_back_38 rfl ⟨(by simp only [F_X11_back, if_pos c1]), (by simp only [S_X11_back, if_pos c1])⟩
  · refine g_bipush (pc' := 12) ⟨by unfold r32; decide, rfl⟩ dX11_back_10 rfl ?_
    exact g_iret dX11_back_12 rfl ⟨(by simp only [F_X11_back, if_neg c1]), (by simp only [S_X11_back, if_neg c1])⟩
def F_X11_found (v1 : Int) (s : Sto) : Int := w32 (((-10)) - v1)
def S_X11_found (v1 : Int) (s : Sto) : Sto := up s 0 11 v1
set_option maxRecDepth 100000 in
theorem C_X11_found {v1 : Int} {s : Sto}   : sr_C yX11_found cX11_found 2 (some .int) 0 [vR 0, vI v1] s (fun r s' => r = F_X11_found v1 s ∧ s' = S_X11_found v1 s) := by
  refine sr_C.of (by decide +kernel) (Nat.le_of_ble_eq_true rfl) ?_
  show sr_G RX11 cX11_found 2 (some .int) 0 0 [(0, vR 0), (1, vI v1)] [] s (fun r s' => r = F_X11_found v1 s ∧ s' = S_X11_found v1 s)
  refine g_aload_n (pc' := 1) dX11_found_0 rfl rfl ?_
  refine g_iload_n (pc' := 2) dX11_found_1 rfl rfl ?_
  refine g_putI (pc' := 5) dX11_found_2 rfl fp_RX11_62 kd_0 rfl ?_
  refine g_bipush (pc' := 7) ⟨by unfold r32; decide, rfl⟩ dX11_found_5 rfl ?_
  refine g_iload_n (pc' := 8) dX11_found_7 rfl rfl ?_
  refine g_isub (pc' := 9) dX11_found_8 rfl ?_
  exact g_iret dX11_found_9 rfl ⟨rfl, rfl⟩
def L_X11_read_37 (p2 : Nat) (K124 : Int → Sto → Prop) (K153 : Int → Sto → Prop) : Nat → Int → Int → Sto → Prop
  | 0, _, _, _ => False
  | n + 1, v3, v4, s => ((s p2 1 < w32 (v4 + 5) → K153 v3 s) ∧ (¬ s p2 1 < w32 (v4 + 5) → ((8 ≤ s 6 0 → K153 v3 s) ∧ (¬ 8 ≤ s 6 0 → (O_X7_item p2 v4 s ∧ (∀ x4 : Int, x4 = F_X7_item p2 v4 s → (O_X7_item p2 (w32 (v4 + 1)) s ∧ (∀ x6 : Int, x6 = F_X7_item p2 (w32 (v4 + 1)) s → (O_X7_item p2 (w32 (v4 + 2)) s ∧ (∀ x8 : Int, x8 = F_X7_item p2 (w32 (v4 + 2)) s → (O_X7_item p2 (w32 (v4 + 3)) s ∧ (∀ x10 : Int, x10 = F_X7_item p2 (w32 (v4 + 3)) s → (O_X7_item p2 (w32 (v4 + 4)) s ∧ (∀ x12 : Int, x12 = F_X7_item p2 (w32 (v4 + 4)) s → ((F_X11_mayBlow x4 x6 x8 x10 x12 s = 0 → K124 v3 s) ∧ (¬ F_X11_mayBlow x4 x6 x8 x10 x12 s = 0 → (O_X4_addRing 6 x4 x6 x8 x10 x12 s ∧ (∀ s16 : Sto, s16 = S_X4_addRing 6 x4 x6 x8 x10 x12 s → L_X11_read_37 p2 K124 K153 n (w32 (v3 + 1)) (w32 (v4 + 5)) s16))))))))))))))))))
set_option maxRecDepth 100000 in
theorem SL_X11_read_37 {p2 : Nat} {K124 : Int → Sto → Prop} {K153 : Int → Sto → Prop} {Q : Int → Sto → Prop} (hp2 : kd p2 = 17) (hK124 : ∀ v3 s, K124 v3 s → sr_G RX11 cX11_read 10 (some .int) 2 124 [(0, vR 0), (3, vI v3)] [] s Q) (hK153 : ∀ v3 s, K153 v3 s → sr_G RX11 cX11_read 10 (some .int) 2 153 [(0, vR 0), (3, vI v3)] [] s Q) : ∀ n v3 v4 s, L_X11_read_37 p2 K124 K153 n v3 v4 s → sr_G RX11 cX11_read 10 (some .int) 2 37 [(0, vR 0), (2, vR p2), (3, vI v3), (4, vI v4)] [] s Q := by
  intro n
  induction n with
  | zero => intro v3 v4 s h; exact h.elim
  | succ n ih =>
    intro v3 v4 s h
    unfold L_X11_read_37 at h
    refine g_iload (pc' := 39) dX11_read_37 rfl rfl ?_
    refine g_iconst (pc' := 40) (by unfold r32; decide) dX11_read_39 rfl ?_
    refine g_iadd (pc' := 41) dX11_read_40 rfl ?_
    refine g_aload_n (pc' := 42) dX11_read_41 rfl rfl ?_
    refine g_getI (pc' := 45) dX11_read_42 rfl fl_RX11_177 hp2 (Or.inl rfl) ?_
    refine g_ic_gt (pc' := 48) (tgt := 153) dX11_read_45 rfl rfl (fun c1 => ?_) (fun c1 => ?_)
    · have h := h.1 c1
      exact (hK153 _ _ h).to ((sb_c rfl (sb_c rfl sb_n)))
    · have h := h.2 c1
      refine g_aload_n (pc' := 49) dX11_read_48 rfl rfl ?_
      refine g_getR (pc' := 52) (r := 6) dX11_read_49 rfl fl_RX11_29 kd_0 rfl rf_0_3 ?_
      refine g_getI (pc' := 55) dX11_read_52 rfl fl_RX11_144 kd_6 (Or.inl rfl) ?_
      refine g_bipush (pc' := 57) ⟨by unfold r32; decide, rfl⟩ dX11_read_55 rfl ?_
      refine g_ic_ge (pc' := 60) (tgt := 153) dX11_read_57 rfl rfl (fun c2 => ?_) (fun c2 => ?_)
      · have h := h.1 c2
        exact (hK153 _ _ h).to ((sb_c rfl (sb_c rfl sb_n)))
      · have h := h.2 c2
        refine g_aload_n (pc' := 61) dX11_read_60 rfl rfl ?_
        refine g_iload (pc' := 63) dX11_read_61 rfl rfl ?_
        obtain ⟨ob3, h⟩ := h
        refine g_V1i (pc' := 66) dX11_read_63 rfl mv_RX11_178 hp2 (by decide) (Nat.le_of_ble_eq_true rfl) (C_X7_item hp2 ob3) (sr_pur ?_)
        refine g_topI (fun x4 ex4 => ?_)
        have h := h x4 ex4
        refine g_istore (pc' := 68) dX11_read_66 rfl (by decide) ?_
        refine g_aload_n (pc' := 69) dX11_read_68 rfl rfl ?_
        refine g_iload (pc' := 71) dX11_read_69 rfl rfl ?_
        refine g_iconst (pc' := 72) (by unfold r32; decide) dX11_read_71 rfl ?_
        refine g_iadd (pc' := 73) dX11_read_72 rfl ?_
        obtain ⟨ob5, h⟩ := h
        refine g_V1i (pc' := 76) dX11_read_73 rfl mv_RX11_178 hp2 (by decide) (Nat.le_of_ble_eq_true rfl) (C_X7_item hp2 ob5) (sr_pur ?_)
        refine g_topI (fun x6 ex6 => ?_)
        have h := h x6 ex6
        refine g_istore (pc' := 78) dX11_read_76 rfl (by decide) ?_
        refine g_aload_n (pc' := 79) dX11_read_78 rfl rfl ?_
        refine g_iload (pc' := 81) dX11_read_79 rfl rfl ?_
        refine g_iconst (pc' := 82) (by unfold r32; decide) dX11_read_81 rfl ?_
        refine g_iadd (pc' := 83) dX11_read_82 rfl ?_
        obtain ⟨ob7, h⟩ := h
        refine g_V1i (pc' := 86) dX11_read_83 rfl mv_RX11_178 hp2 (by decide) (Nat.le_of_ble_eq_true rfl) (C_X7_item hp2 ob7) (sr_pur ?_)
        refine g_topI (fun x8 ex8 => ?_)
        have h := h x8 ex8
        refine g_istore (pc' := 88) dX11_read_86 rfl (by decide) ?_
        refine g_aload_n (pc' := 89) dX11_read_88 rfl rfl ?_
        refine g_iload (pc' := 91) dX11_read_89 rfl rfl ?_
        refine g_iconst (pc' := 92) (by unfold r32; decide) dX11_read_91 rfl ?_
        refine g_iadd (pc' := 93) dX11_read_92 rfl ?_
        obtain ⟨ob9, h⟩ := h
        refine g_V1i (pc' := 96) dX11_read_93 rfl mv_RX11_178 hp2 (by decide) (Nat.le_of_ble_eq_true rfl) (C_X7_item hp2 ob9) (sr_pur ?_)
        refine g_topI (fun x10 ex10 => ?_)
        have h := h x10 ex10
        refine g_istore (pc' := 98) dX11_read_96 rfl (by decide) ?_
        refine g_aload_n (pc' := 99) dX11_read_98 rfl rfl ?_
        refine g_iload (pc' := 101) dX11_read_99 rfl rfl ?_
        refine g_iconst (pc' := 102) (by unfold r32; decide) dX11_read_101 rfl ?_
        refine g_iadd (pc' := 103) dX11_read_102 rfl ?_
        obtain ⟨ob11, h⟩ := h
        refine g_V1i (pc' := 106) dX11_read_103 rfl mv_RX11_178 hp2 (by decide) (Nat.le_of_ble_eq_true rfl) (C_X7_item hp2 ob11) (sr_pur ?_)
        refine g_topI (fun x12 ex12 => ?_)
        have h := h x12 ex12
        refine g_istore (pc' := 108) dX11_read_106 rfl (by decide) ?_
        refine g_iload (pc' := 110) dX11_read_108 rfl rfl ?_
        refine g_iload (pc' := 112) dX11_read_110 rfl rfl ?_
        refine g_iload (pc' := 114) dX11_read_112 rfl rfl ?_
        refine g_iload (pc' := 116) dX11_read_114 rfl rfl ?_
        refine g_iload (pc' := 118) dX11_read_116 rfl rfl ?_
        refine g_S5z (pc' := 121) dX11_read_118 rfl ms_RX11_140 (by decide) (Nat.le_of_ble_eq_true rfl) C_X11_mayBlow (sr_purb (fun hb13 => ?_))
        refine g_if_ne (pc' := 124) (tgt := 127) dX11_read_121 rfl rfl (fun c14 => ?_) (fun c14 => ?_)
        · have h := h.2 c14
          refine g_aload_n (pc' := 128) dX11_read_127 rfl rfl ?_
          refine g_getR (pc' := 131) (r := 6) dX11_read_128 rfl fl_RX11_29 kd_0 rfl rf_0_3 ?_
          refine g_iload (pc' := 133) dX11_read_131 rfl rfl ?_
          refine g_iload (pc' := 135) dX11_read_133 rfl rfl ?_
          refine g_iload (pc' := 137) dX11_read_135 rfl rfl ?_
          refine g_iload (pc' := 139) dX11_read_137 rfl rfl ?_
          refine g_iload (pc' := 141) dX11_read_139 rfl rfl ?_
          obtain ⟨ob15, h⟩ := h
          refine g_V5v (pc' := 144) dX11_read_141 rfl mv_RX11_147 kd_6 (by decide) (Nat.le_of_ble_eq_true rfl) (C_X4_addRing kd_6 ob15) (sr_purv ?_)
          refine g_sto (fun s16 es16 => ?_)
          have h := h s16 es16
          refine g_iinc (pc' := 147) dX11_read_144 rfl rfl (by decide) ?_
          refine g_iinc (pc' := 150) dX11_read_147 rfl rfl (by decide) ?_
          refine g_goto (pc' := 37) dX11_read_150 rfl ?_
          exact (ih _ _ _ h).to ((sb_c rfl (sb_c rfl (sb_c rfl (sb_c rfl sb_n)))))
        · have h := h.1 c14
          exact (hK124 _ _ h).to ((sb_c rfl (sb_c rfl sb_n)))
def P_X11_read (v1 : Int) (s : Sto) (Q : Int → Sto → Prop) : Prop := ((F_X11_within v1 0 3 s = 0 → Q ((-2)) s) ∧ (¬ F_X11_within v1 0 3 s = 0 → (inb v1 4 ∧ ((F_X7_isLost (36 + 2 * v1.toNat) s = 0 → (∃ n12, L_X11_read_37 (36 + 2 * v1.toNat) (fun x6 s7 => (∀ s8 : Sto, s8 = up s7 0 12 0 → Q x6 s8)) (fun x9 s10 => (∀ s11 : Sto, s11 = up s10 0 12 0 → Q x9 s11)) n12 0 0 s)) ∧ (¬ F_X7_isLost (36 + 2 * v1.toNat) s = 0 → (∀ s13 : Sto, s13 = S_X11_found 1 s → Q (F_X11_found 1 s) s13))))))
set_option maxRecDepth 100000 in
theorem C_X11_read {v1 : Int} {s : Sto} {Q : Int → Sto → Prop}  (h : P_X11_read v1 s Q) : sr_C yX11_read cX11_read 10 (some .int) 2 [vR 0, vI v1] s Q := by
  refine sr_C.of (by decide +kernel) (Nat.le_of_ble_eq_true rfl) ?_
  show sr_G RX11 cX11_read 10 (some .int) 2 0 [(0, vR 0), (1, vI v1)] [] s Q
  unfold P_X11_read at h
  refine g_iload_n (pc' := 1) dX11_read_0 rfl rfl ?_
  refine g_iconst (pc' := 2) (by unfold r32; decide) dX11_read_1 rfl ?_
  refine g_iconst (pc' := 3) (by unfold r32; decide) dX11_read_2 rfl ?_
  refine g_S3z (pc' := 6) dX11_read_3 rfl ms_RX11_102 (by decide) (Nat.le_of_ble_eq_true rfl) C_X11_within (sr_purb (fun hb1 => ?_))
  refine g_if_ne (pc' := 9) (tgt := 12) dX11_read_6 rfl rfl (fun c2 => ?_) (fun c2 => ?_)
  · have h := h.2 c2
    refine g_aload_n (pc' := 13) dX11_read_12 rfl rfl ?_
    refine g_getR (pc' := 16) (r := 29) dX11_read_13 rfl fl_RX11_58 kd_0 rfl rf_0_10 ?_
    refine g_iload_n (pc' := 17) dX11_read_16 rfl rfl ?_
    obtain ⟨ob3, h⟩ := h
    refine g_aald (pc' := 18) (r := 36 + 2 * v1.toNat) dX11_read_17 rfl (Or.inr rfl) ob3 (ra_29 ob3).1 ?_
    refine g_astore_n (pc' := 19) dX11_read_18 rfl (by decide) ?_
    refine g_aload_n (pc' := 20) dX11_read_19 rfl rfl ?_
    refine g_V0z (pc' := 23) dX11_read_20 rfl mv_RX11_169 (ra_29 ob3).2 (by decide) (Nat.le_of_ble_eq_true rfl) (C_X7_isLost (ra_29 ob3).2) (sr_purb (fun hb4 => ?_))
    refine g_if_eq (pc' := 26) (tgt := 32) dX11_read_23 rfl rfl (fun c5 => ?_) (fun c5 => ?_)
    · have h := h.1 c5
      refine g_iconst (pc' := 33) (by unfold r32; decide) dX11_read_32 rfl ?_
      refine g_istore_n (pc' := 34) dX11_read_33 rfl (by decide) ?_
      refine g_iconst (pc' := 35) (by unfold r32; decide) dX11_read_34 rfl ?_
      refine g_istore (pc' := 37) dX11_read_35 rfl (by decide) ?_
      obtain ⟨n12, h⟩ := h
      refine (SL_X11_read_37 (ra_29 ob3).2 (fun x6 s7 h => ?_) (fun x9 s10 h => ?_) n12 _ _ _ h).to ((sb_c rfl (sb_c rfl (sb_c rfl (sb_c rfl sb_n)))))
      · refine g_goto (pc' := 153) dX11_read_124 rfl ?_
        refine g_aload_n (pc' := 154) dX11_read_153 rfl rfl ?_
        refine g_iconst (pc' := 155) (by unfold r32; decide) dX11_read_154 rfl ?_
        refine g_putZ (pc' := 158) dX11_read_155 rfl fp_RX11_66 kd_0 rfl (Or.inl rfl) ?_
        refine g_sto (fun s8 es8 => ?_)
        have h := h s8 es8
        refine g_iload_n (pc' := 159) dX11_read_158 rfl rfl ?_
        exact g_iret dX11_read_159 rfl h
      · refine g_aload_n (pc' := 154) dX11_read_153 rfl rfl ?_
        refine g_iconst (pc' := 155) (by unfold r32; decide) dX11_read_154 rfl ?_
        refine g_putZ (pc' := 158) dX11_read_155 rfl fp_RX11_66 kd_0 rfl (Or.inl rfl) ?_
        refine g_sto (fun s11 es11 => ?_)
        have h := h s11 es11
        refine g_iload_n (pc' := 159) dX11_read_158 rfl rfl ?_
        exact g_iret dX11_read_159 rfl h
    · have h := h.2 c5
      refine g_aload_n (pc' := 27) dX11_read_26 rfl rfl ?_
      refine g_iconst (pc' := 28) (by unfold r32; decide) dX11_read_27 rfl ?_
      refine g_V1i (pc' := 31) dX11_read_28 rfl mv_RX11_173 kd_0 (by decide) (Nat.le_of_ble_eq_true rfl) C_X11_found (sr_pur ?_)
      refine g_sto (fun s13 es13 => ?_)
      have h := h s13 es13
      exact g_iret dX11_read_31 rfl h
  · have h := h.1 c2
    refine g_bipush (pc' := 11) ⟨by unfold r32; decide, rfl⟩ dX11_read_9 rfl ?_
    exact g_iret dX11_read_11 rfl h
def L_X11_playTold_21  (K57 : Sto → Prop) : Nat → Int → Sto → Prop
  | 0, _, _ => False
  | n + 1, v1, s => ((20 ≤ v1 → K57 s) ∧ (¬ 20 ≤ v1 → (P_X6_takeStep 16 6 v1 s (fun _ s2 => (P_X1_keep v1 16 s2 (fun _ s4 => L_X11_playTold_21 K57 n (w32 (v1 + 1)) s4))))))
set_option maxRecDepth 100000 in
theorem SL_X11_playTold_21  {K57 : Sto → Prop} {Q : Int → Sto → Prop}  (hK57 : ∀ s, K57 s → sr_G RX11 cX11_playTold 2 none 3 57 [(0, vR 0)] [] s Q) : ∀ n v1 s, L_X11_playTold_21 K57 n v1 s → sr_G RX11 cX11_playTold 2 none 3 21 [(0, vR 0), (1, vI v1)] [] s Q := by
  intro n
  induction n with
  | zero => intro v1 s h; exact h.elim
  | succ n ih =>
    intro v1 s h
    unfold L_X11_playTold_21 at h
    refine g_iload_n (pc' := 22) dX11_playTold_21 rfl rfl ?_
    refine g_bipush (pc' := 24) ⟨by unfold r32; decide, rfl⟩ dX11_playTold_22 rfl ?_
    refine g_ic_ge (pc' := 27) (tgt := 57) dX11_playTold_24 rfl rfl (fun c1 => ?_) (fun c1 => ?_)
    · have h := h.1 c1
      exact (hK57 _ h).to ((sb_c rfl sb_n))
    · have h := h.2 c1
      refine g_aload_n (pc' := 28) dX11_playTold_27 rfl rfl ?_
      refine g_getR (pc' := 31) (r := 16) dX11_playTold_28 rfl fl_RX11_38 kd_0 rfl rf_0_4 ?_
      refine g_aload_n (pc' := 32) dX11_playTold_31 rfl rfl ?_
      refine g_getR (pc' := 35) (r := 6) dX11_playTold_32 rfl fl_RX11_29 kd_0 rfl rf_0_3 ?_
      refine g_iload_n (pc' := 36) dX11_playTold_35 rfl rfl ?_
      refine g_V2v (pc' := 39) dX11_playTold_36 rfl mv_RX11_402 kd_16 (by decide) (Nat.le_of_ble_eq_true rfl) (C_X6_takeStep kd_16 kd_6 h) (fun s2 h => ?_)
      refine g_aload_n (pc' := 40) dX11_playTold_39 rfl rfl ?_
      refine g_getR (pc' := 43) (r := 24) dX11_playTold_40 rfl fl_RX11_45 kd_0 rfl rf_0_5 ?_
      refine g_iload_n (pc' := 44) dX11_playTold_43 rfl rfl ?_
      refine g_aload_n (pc' := 45) dX11_playTold_44 rfl rfl ?_
      refine g_getR (pc' := 48) (r := 16) dX11_playTold_45 rfl fl_RX11_38 kd_0 rfl rf_0_4 ?_
      refine g_V2v (pc' := 51) dX11_playTold_48 rfl mv_RX11_406 kd_24 (by decide) (Nat.le_of_ble_eq_true rfl) (C_X1_keep kd_16 h) (fun s4 h => ?_)
      refine g_iinc (pc' := 54) dX11_playTold_51 rfl rfl (by decide) ?_
      refine g_goto (pc' := 21) dX11_playTold_54 rfl ?_
      exact (ih _ _ h).to ((sb_c rfl (sb_c rfl sb_n)))
def P_X11_playTold (s : Sto) (Q : Int → Sto → Prop) : Prop := ((s 0 12 = 0 → (P_X6_begin 16 6 s (fun _ s2 => (∃ n6, L_X11_playTold_21 (fun s4 => (∀ s5 : Sto, s5 = up s4 0 12 1 → Q 0 s5)) n6 0 s2)))) ∧ (¬ s 0 12 = 0 → Q 0 s))
set_option maxRecDepth 100000 in
theorem C_X11_playTold {s : Sto} {Q : Int → Sto → Prop}  (h : P_X11_playTold s Q) : sr_C yX11_playTold cX11_playTold 2 none 3 [vR 0] s Q := by
  refine sr_C.of (by decide +kernel) (Nat.le_of_ble_eq_true rfl) ?_
  show sr_G RX11 cX11_playTold 2 none 3 0 [(0, vR 0)] [] s Q
  unfold P_X11_playTold at h
  refine g_aload_n (pc' := 1) dX11_playTold_0 rfl rfl ?_
  refine g_getI (pc' := 4) dX11_playTold_1 rfl fl_RX11_66 kd_0 (Or.inr rfl) ?_
  refine g_if_eq (pc' := 7) (tgt := 8) dX11_playTold_4 rfl rfl (fun c1 => ?_) (fun c1 => ?_)
  · have h := h.1 c1
    refine g_aload_n (pc' := 9) dX11_playTold_8 rfl rfl ?_
    refine g_getR (pc' := 12) (r := 16) dX11_playTold_9 rfl fl_RX11_38 kd_0 rfl rf_0_4 ?_
    refine g_aload_n (pc' := 13) dX11_playTold_12 rfl rfl ?_
    refine g_getR (pc' := 16) (r := 6) dX11_playTold_13 rfl fl_RX11_29 kd_0 rfl rf_0_3 ?_
    refine g_V1v (pc' := 19) dX11_playTold_16 rfl mv_RX11_398 kd_16 (by decide) (Nat.le_of_ble_eq_true rfl) (C_X6_begin kd_16 kd_6 h) (fun s2 h => ?_)
    refine g_iconst (pc' := 20) (by unfold r32; decide) dX11_playTold_19 rfl ?_
    refine g_istore_n (pc' := 21) dX11_playTold_20 rfl (by decide) ?_
    obtain ⟨n6, h⟩ := h
    refine (SL_X11_playTold_21  (fun s4 h => ?_) n6 _ _ h).to ((sb_c rfl (sb_c rfl sb_n)))
    · refine g_aload_n (pc' := 58) dX11_playTold_57 rfl rfl ?_
      refine g_iconst (pc' := 59) (by unfold r32; decide) dX11_playTold_58 rfl ?_
      refine g_putZ (pc' := 62) dX11_playTold_59 rfl fp_RX11_66 kd_0 rfl (Or.inr rfl) ?_
      refine g_sto (fun s5 es5 => ?_)
      have h := h s5 es5
      exact g_vret dX11_playTold_62 rfl h
  · have h := h.2 c1
    exact g_vret dX11_playTold_7 rfl h
def P_X11_at (v1 : Int) (v2 : Int) (v3 : Int) (s : Sto) (Q : Int → Sto → Prop) : Prop := ((F_X11_within v1 0 19 s = 0 → Q ((-2)) s) ∧ (¬ F_X11_within v1 0 19 s = 0 → ((F_X11_isRing v2 s = 0 → Q ((-2)) s) ∧ (¬ F_X11_isRing v2 s = 0 → ((F_X11_within v3 0 3 s = 0 → Q ((-2)) s) ∧ (¬ F_X11_within v3 0 3 s = 0 → (P_X11_playTold s (fun _ s7 => (O_X1_look v1 v2 v3 s7 ∧ Q (F_X1_look v1 v2 v3 s7) s7)))))))))
set_option maxRecDepth 100000 in
theorem C_X11_at {v1 : Int} {v2 : Int} {v3 : Int} {s : Sto} {Q : Int → Sto → Prop}  (h : P_X11_at v1 v2 v3 s Q) : sr_C yX11_at cX11_at 4 (some .int) 4 [vR 0, vI v1, vI v2, vI v3] s Q := by
  refine sr_C.of (by decide +kernel) (Nat.le_of_ble_eq_true rfl) ?_
  show sr_G RX11 cX11_at 4 (some .int) 4 0 [(0, vR 0), (1, vI v1), (2, vI v2), (3, vI v3)] [] s Q
  unfold P_X11_at at h
  refine g_iload_n (pc' := 1) dX11_at_0 rfl rfl ?_
  refine g_iconst (pc' := 2) (by unfold r32; decide) dX11_at_1 rfl ?_
  refine g_bipush (pc' := 4) ⟨by unfold r32; decide, rfl⟩ dX11_at_2 rfl ?_
  refine g_S3z (pc' := 7) dX11_at_4 rfl ms_RX11_102 (by decide) (Nat.le_of_ble_eq_true rfl) C_X11_within (sr_purb (fun hb1 => ?_))
  refine g_if_eq (pc' := 10) (tgt := 27) dX11_at_7 rfl rfl (fun c2 => ?_) (fun c2 => ?_)
  · have h := h.1 c2
    refine g_bipush (pc' := 29) ⟨by unfold r32; decide, rfl⟩ dX11_at_27 rfl ?_
    exact g_iret dX11_at_29 rfl h
  · have h := h.2 c2
    refine g_aload_n (pc' := 11) dX11_at_10 rfl rfl ?_
    refine g_iload_n (pc' := 12) dX11_at_11 rfl rfl ?_
    refine g_V1z (pc' := 15) dX11_at_12 rfl mv_RX11_151 kd_0 (by decide) (Nat.le_of_ble_eq_true rfl) C_X11_isRing (sr_purb (fun hb3 => ?_))
    refine g_if_eq (pc' := 18) (tgt := 27) dX11_at_15 rfl rfl (fun c4 => ?_) (fun c4 => ?_)
    · have h := h.1 c4
      refine g_bipush (pc' := 29) ⟨by unfold r32; decide, rfl⟩ dX11_at_27 rfl ?_
      exact g_iret dX11_at_29 rfl h
    · have h := h.2 c4
      refine g_iload_n (pc' := 19) dX11_at_18 rfl rfl ?_
      refine g_iconst (pc' := 20) (by unfold r32; decide) dX11_at_19 rfl ?_
      refine g_iconst (pc' := 21) (by unfold r32; decide) dX11_at_20 rfl ?_
      refine g_S3z (pc' := 24) dX11_at_21 rfl ms_RX11_102 (by decide) (Nat.le_of_ble_eq_true rfl) C_X11_within (sr_purb (fun hb5 => ?_))
      refine g_if_ne (pc' := 27) (tgt := 30) dX11_at_24 rfl rfl (fun c6 => ?_) (fun c6 => ?_)
      · have h := h.2 c6
        refine g_aload_n (pc' := 31) dX11_at_30 rfl rfl ?_
        refine g_V0v (pc' := 34) dX11_at_31 rfl mv_RX11_181 kd_0 (by decide) (Nat.le_of_ble_eq_true rfl) (C_X11_playTold h) (fun s7 h => ?_)
        refine g_aload_n (pc' := 35) dX11_at_34 rfl rfl ?_
        refine g_getR (pc' := 38) (r := 24) dX11_at_35 rfl fl_RX11_45 kd_0 rfl rf_0_5 ?_
        refine g_iload_n (pc' := 39) dX11_at_38 rfl rfl ?_
        refine g_iload_n (pc' := 40) dX11_at_39 rfl rfl ?_
        refine g_iload_n (pc' := 41) dX11_at_40 rfl rfl ?_
        obtain ⟨ob9, h⟩ := h
        refine g_V3i (pc' := 44) dX11_at_41 rfl mv_RX11_184 kd_24 (by decide) (Nat.le_of_ble_eq_true rfl) (C_X1_look ob9) (sr_pur ?_)
        exact g_iret dX11_at_44 rfl h
      · have h := h.1 c6
        refine g_bipush (pc' := 29) ⟨by unfold r32; decide, rfl⟩ dX11_at_27 rfl ?_
        exact g_iret dX11_at_29 rfl h
def P_X11_bound (v1 : Int) (v2 : Int) (s : Sto) (Q : Int → Sto → Prop) : Prop := ((F_X11_isThing v1 s = 0 → Q ((-2)) s) ∧ (¬ F_X11_isThing v1 s = 0 → (P_X11_playTold s (fun _ s3 => ((v2 = 0 → (inb v1 8 ∧ Q (s3 21 v1.toNat) s3)) ∧ (¬ v2 = 0 → ((v2 = 1 → (inb v1 8 ∧ Q (s3 22 v1.toNat) s3)) ∧ (¬ v2 = 1 → ((v2 = 2 → (inb v1 8 ∧ Q (s3 23 v1.toNat) s3)) ∧ (¬ v2 = 2 → Q ((-2)) s3))))))))))
set_option maxRecDepth 100000 in
theorem C_X11_bound {v1 : Int} {v2 : Int} {s : Sto} {Q : Int → Sto → Prop}  (h : P_X11_bound v1 v2 s Q) : sr_C yX11_bound cX11_bound 3 (some .int) 4 [vR 0, vI v1, vI v2] s Q := by
  refine sr_C.of (by decide +kernel) (Nat.le_of_ble_eq_true rfl) ?_
  show sr_G RX11 cX11_bound 3 (some .int) 4 0 [(0, vR 0), (1, vI v1), (2, vI v2)] [] s Q
  unfold P_X11_bound at h
  refine g_aload_n (pc' := 1) dX11_bound_0 rfl rfl ?_
  refine g_iload_n (pc' := 2) dX11_bound_1 rfl rfl ?_
  refine g_V1z (pc' := 5) dX11_bound_2 rfl mv_RX11_122 kd_0 (by decide) (Nat.le_of_ble_eq_true rfl) C_X11_isThing (sr_purb (fun hb1 => ?_))
  refine g_if_ne (pc' := 8) (tgt := 11) dX11_bound_5 rfl rfl (fun c2 => ?_) (fun c2 => ?_)
  · have h := h.2 c2
    refine g_aload_n (pc' := 12) dX11_bound_11 rfl rfl ?_
    refine g_V0v (pc' := 15) dX11_bound_12 rfl mv_RX11_181 kd_0 (by decide) (Nat.le_of_ble_eq_true rfl) (C_X11_playTold h) (fun s3 h => ?_)
    refine g_iload_n (pc' := 16) dX11_bound_15 rfl rfl ?_
    by_cases c5 : v2 = 0
    · have h := h.1 c5
      refine g_tabIn (pc' := 44) dX11_bound_16 (le_of_le_of_eq (by decide) c5.symm) (le_of_eq_of_le c5 (by decide)) (by rw [c5]; rfl) rfl ?_
      refine g_aload_n (pc' := 45) dX11_bound_44 rfl rfl ?_
      refine g_getR (pc' := 48) (r := 16) dX11_bound_45 rfl fl_RX11_38 kd_0 rfl rf_0_4 ?_
      refine g_getR (pc' := 51) (r := 21) dX11_bound_48 rfl fl_RX11_188 kd_16 rfl rf_16_5 ?_
      refine g_iload_n (pc' := 52) dX11_bound_51 rfl rfl ?_
      obtain ⟨ob6, h⟩ := h
      refine g_iald (pc' := 53) dX11_bound_52 rfl kd_21 ob6 ?_
      exact g_iret dX11_bound_53 rfl h
    · have h := h.2 c5
      by_cases c7 : v2 = 1
      · have h := h.1 c7
        refine g_tabIn (pc' := 54) dX11_bound_16 (le_of_le_of_eq (by decide) c7.symm) (le_of_eq_of_le c7 (by decide)) (by rw [c7]; rfl) rfl ?_
        refine g_aload_n (pc' := 55) dX11_bound_54 rfl rfl ?_
        refine g_getR (pc' := 58) (r := 16) dX11_bound_55 rfl fl_RX11_38 kd_0 rfl rf_0_4 ?_
        refine g_getR (pc' := 61) (r := 22) dX11_bound_58 rfl fl_RX11_191 kd_16 rfl rf_16_6 ?_
        refine g_iload_n (pc' := 62) dX11_bound_61 rfl rfl ?_
        obtain ⟨ob8, h⟩ := h
        refine g_iald (pc' := 63) dX11_bound_62 rfl kd_22 ob8 ?_
        exact g_iret dX11_bound_63 rfl h
      · have h := h.2 c7
        by_cases c9 : v2 = 2
        · have h := h.1 c9
          refine g_tabIn (pc' := 64) dX11_bound_16 (le_of_le_of_eq (by decide) c9.symm) (le_of_eq_of_le c9 (by decide)) (by rw [c9]; rfl) rfl ?_
          refine g_aload_n (pc' := 65) dX11_bound_64 rfl rfl ?_
          refine g_getR (pc' := 68) (r := 16) dX11_bound_65 rfl fl_RX11_38 kd_0 rfl rf_0_4 ?_
          refine g_getR (pc' := 71) (r := 23) dX11_bound_68 rfl fl_RX11_194 kd_16 rfl rf_16_7 ?_
          refine g_iload_n (pc' := 72) dX11_bound_71 rfl rfl ?_
          obtain ⟨ob10, h⟩ := h
          refine g_iald (pc' := 73) dX11_bound_72 rfl kd_23 ob10 ?_
          exact g_iret dX11_bound_73 rfl h
        · have h := h.2 c9
          refine g_tabOut (pc' := 74) dX11_bound_16 (tout_0_2 c5 c7 c9) rfl ?_
          refine g_bipush (pc' := 76) ⟨by unfold r32; decide, rfl⟩ dX11_bound_74 rfl ?_
          exact g_iret dX11_bound_76 rfl h
  · have h := h.1 c2
    refine g_bipush (pc' := 10) ⟨by unfold r32; decide, rfl⟩ dX11_bound_8 rfl ?_
    exact g_iret dX11_bound_10 rfl h
def P_X11_wed (v1 : Int) (v2 : Int) (s : Sto) (Q : Int → Sto → Prop) : Prop := ((F_X11_within v1 0 3 s = 0 → Q ((-2)) s) ∧ (¬ F_X11_within v1 0 3 s = 0 → ((F_X11_within v2 0 1 s = 0 → Q ((-2)) s) ∧ (¬ F_X11_within v2 0 1 s = 0 → (P_X11_playTold s (fun _ s5 => ((v2 = 0 → (P_X6_wedBits 16 6 v1 s5 (fun r9 s8 => Q r9 s8))) ∧ (¬ v2 = 0 → (P_X6_upkeepOf 16 6 v1 s5 (fun r11 s10 => Q r11 s10))))))))))
set_option maxRecDepth 100000 in
theorem C_X11_wed {v1 : Int} {v2 : Int} {s : Sto} {Q : Int → Sto → Prop}  (h : P_X11_wed v1 v2 s Q) : sr_C yX11_wed cX11_wed 3 (some .int) 4 [vR 0, vI v1, vI v2] s Q := by
  refine sr_C.of (by decide +kernel) (Nat.le_of_ble_eq_true rfl) ?_
  show sr_G RX11 cX11_wed 3 (some .int) 4 0 [(0, vR 0), (1, vI v1), (2, vI v2)] [] s Q
  unfold P_X11_wed at h
  refine g_iload_n (pc' := 1) dX11_wed_0 rfl rfl ?_
  refine g_iconst (pc' := 2) (by unfold r32; decide) dX11_wed_1 rfl ?_
  refine g_iconst (pc' := 3) (by unfold r32; decide) dX11_wed_2 rfl ?_
  refine g_S3z (pc' := 6) dX11_wed_3 rfl ms_RX11_102 (by decide) (Nat.le_of_ble_eq_true rfl) C_X11_within (sr_purb (fun hb1 => ?_))
  refine g_if_eq (pc' := 9) (tgt := 18) dX11_wed_6 rfl rfl (fun c2 => ?_) (fun c2 => ?_)
  · have h := h.1 c2
    refine g_bipush (pc' := 20) ⟨by unfold r32; decide, rfl⟩ dX11_wed_18 rfl ?_
    exact g_iret dX11_wed_20 rfl h
  · have h := h.2 c2
    refine g_iload_n (pc' := 10) dX11_wed_9 rfl rfl ?_
    refine g_iconst (pc' := 11) (by unfold r32; decide) dX11_wed_10 rfl ?_
    refine g_iconst (pc' := 12) (by unfold r32; decide) dX11_wed_11 rfl ?_
    refine g_S3z (pc' := 15) dX11_wed_12 rfl ms_RX11_102 (by decide) (Nat.le_of_ble_eq_true rfl) C_X11_within (sr_purb (fun hb3 => ?_))
    refine g_if_ne (pc' := 18) (tgt := 21) dX11_wed_15 rfl rfl (fun c4 => ?_) (fun c4 => ?_)
    · have h := h.2 c4
      refine g_aload_n (pc' := 22) dX11_wed_21 rfl rfl ?_
      refine g_V0v (pc' := 25) dX11_wed_22 rfl mv_RX11_181 kd_0 (by decide) (Nat.le_of_ble_eq_true rfl) (C_X11_playTold h) (fun s5 h => ?_)
      refine g_iload_n (pc' := 26) dX11_wed_25 rfl rfl ?_
      refine g_if_ne (pc' := 29) (tgt := 44) dX11_wed_26 rfl rfl (fun c7 => ?_) (fun c7 => ?_)
      · have h := h.2 c7
        refine g_aload_n (pc' := 45) dX11_wed_44 rfl rfl ?_
        refine g_getR (pc' := 48) (r := 16) dX11_wed_45 rfl fl_RX11_38 kd_0 rfl rf_0_4 ?_
        refine g_aload_n (pc' := 49) dX11_wed_48 rfl rfl ?_
        refine g_getR (pc' := 52) (r := 6) dX11_wed_49 rfl fl_RX11_29 kd_0 rfl rf_0_3 ?_
        refine g_iload_n (pc' := 53) dX11_wed_52 rfl rfl ?_
        refine g_V2i (pc' := 56) dX11_wed_53 rfl mv_RX11_201 kd_16 (by decide) (Nat.le_of_ble_eq_true rfl) (C_X6_upkeepOf kd_16 kd_6 h) (fun r11 s10 h => ?_)
        exact g_iret dX11_wed_56 rfl h
      · have h := h.1 c7
        refine g_aload_n (pc' := 30) dX11_wed_29 rfl rfl ?_
        refine g_getR (pc' := 33) (r := 16) dX11_wed_30 rfl fl_RX11_38 kd_0 rfl rf_0_4 ?_
        refine g_aload_n (pc' := 34) dX11_wed_33 rfl rfl ?_
        refine g_getR (pc' := 37) (r := 6) dX11_wed_34 rfl fl_RX11_29 kd_0 rfl rf_0_3 ?_
        refine g_iload_n (pc' := 38) dX11_wed_37 rfl rfl ?_
        refine g_V2i (pc' := 41) dX11_wed_38 rfl mv_RX11_197 kd_16 (by decide) (Nat.le_of_ble_eq_true rfl) (C_X6_wedBits kd_16 kd_6 h) (fun r9 s8 h => ?_)
        refine g_goto (pc' := 56) dX11_wed_41 rfl ?_
        exact g_iret dX11_wed_56 rfl h
    · have h := h.1 c4
      refine g_bipush (pc' := 20) ⟨by unfold r32; decide, rfl⟩ dX11_wed_18 rfl ?_
      exact g_iret dX11_wed_20 rfl h
def P_X11_throughs (v1 : Int) (s : Sto) (Q : Int → Sto → Prop) : Prop := ((F_X11_within v1 0 1 s = 0 → Q ((-2)) s) ∧ (¬ F_X11_within v1 0 1 s = 0 → (P_X11_playTold s (fun _ s3 => ((v1 = 0 → Q (s3 16 9) s3) ∧ (¬ v1 = 0 → Q (s3 16 10) s3))))))
set_option maxRecDepth 100000 in
theorem C_X11_throughs {v1 : Int} {s : Sto} {Q : Int → Sto → Prop}  (h : P_X11_throughs v1 s Q) : sr_C yX11_throughs cX11_throughs 2 (some .int) 4 [vR 0, vI v1] s Q := by
  refine sr_C.of (by decide +kernel) (Nat.le_of_ble_eq_true rfl) ?_
  show sr_G RX11 cX11_throughs 2 (some .int) 4 0 [(0, vR 0), (1, vI v1)] [] s Q
  unfold P_X11_throughs at h
  refine g_iload_n (pc' := 1) dX11_throughs_0 rfl rfl ?_
  refine g_iconst (pc' := 2) (by unfold r32; decide) dX11_throughs_1 rfl ?_
  refine g_iconst (pc' := 3) (by unfold r32; decide) dX11_throughs_2 rfl ?_
  refine g_S3z (pc' := 6) dX11_throughs_3 rfl ms_RX11_102 (by decide) (Nat.le_of_ble_eq_true rfl) C_X11_within (sr_purb (fun hb1 => ?_))
  refine g_if_ne (pc' := 9) (tgt := 12) dX11_throughs_6 rfl rfl (fun c2 => ?_) (fun c2 => ?_)
  · have h := h.2 c2
    refine g_aload_n (pc' := 13) dX11_throughs_12 rfl rfl ?_
    refine g_V0v (pc' := 16) dX11_throughs_13 rfl mv_RX11_181 kd_0 (by decide) (Nat.le_of_ble_eq_true rfl) (C_X11_playTold h) (fun s3 h => ?_)
    refine g_iload_n (pc' := 17) dX11_throughs_16 rfl rfl ?_
    refine g_if_ne (pc' := 20) (tgt := 30) dX11_throughs_17 rfl rfl (fun c5 => ?_) (fun c5 => ?_)
    · have h := h.2 c5
      refine g_aload_n (pc' := 31) dX11_throughs_30 rfl rfl ?_
      refine g_getR (pc' := 34) (r := 16) dX11_throughs_31 rfl fl_RX11_38 kd_0 rfl rf_0_4 ?_
      refine g_getI (pc' := 37) dX11_throughs_34 rfl fl_RX11_207 kd_16 (Or.inl rfl) ?_
      exact g_iret dX11_throughs_37 rfl h
    · have h := h.1 c5
      refine g_aload_n (pc' := 21) dX11_throughs_20 rfl rfl ?_
      refine g_getR (pc' := 24) (r := 16) dX11_throughs_21 rfl fl_RX11_38 kd_0 rfl rf_0_4 ?_
      refine g_getI (pc' := 27) dX11_throughs_24 rfl fl_RX11_204 kd_16 (Or.inl rfl) ?_
      refine g_goto (pc' := 37) dX11_throughs_27 rfl ?_
      exact g_iret dX11_throughs_37 rfl h
  · have h := h.1 c2
    refine g_bipush (pc' := 11) ⟨by unfold r32; decide, rfl⟩ dX11_throughs_9 rfl ?_
    exact g_iret dX11_throughs_11 rfl h
def L_X11_missed_8 (s : Sto) (K44 : Int → Prop) : Nat → Int → Int → Prop
  | 0, _, _ => False
  | n + 1, v1, v2 => ((s 6 0 ≤ v2 → K44 v1) ∧ (¬ s 6 0 ≤ v2 → (inb v2 8 ∧ ((s 17 v2.toNat = 2 → L_X11_missed_8 s K44 n v1 (w32 (v2 + 1))) ∧ (¬ s 17 v2.toNat = 2 → (∀ x4 : Int, x4 = iO v1 (iShl 1 v2) → L_X11_missed_8 s K44 n x4 (w32 (v2 + 1))))))))
set_option maxRecDepth 100000 in
theorem SL_X11_missed_8 {s : Sto} {K44 : Int → Prop} {Q : Int → Sto → Prop}  (hK44 : ∀ v1, K44 v1 → sr_G RX11 cX11_missed 3 (some .int) 4 44 [(1, vI v1)] [] s Q) : ∀ n v1 v2, L_X11_missed_8 s K44 n v1 v2 → sr_G RX11 cX11_missed 3 (some .int) 4 8 [(0, vR 0), (1, vI v1), (2, vI v2)] [] s Q := by
  intro n
  induction n with
  | zero => intro v1 v2 h; exact h.elim
  | succ n ih =>
    intro v1 v2 h
    unfold L_X11_missed_8 at h
    refine g_iload_n (pc' := 9) dX11_missed_8 rfl rfl ?_
    refine g_aload_n (pc' := 10) dX11_missed_9 rfl rfl ?_
    refine g_getR (pc' := 13) (r := 6) dX11_missed_10 rfl fl_RX11_29 kd_0 rfl rf_0_3 ?_
    refine g_getI (pc' := 16) dX11_missed_13 rfl fl_RX11_144 kd_6 (Or.inl rfl) ?_
    refine g_ic_ge (pc' := 19) (tgt := 44) dX11_missed_16 rfl rfl (fun c1 => ?_) (fun c1 => ?_)
    · have h := h.1 c1
      exact (hK44 _ h).to ((sb_c rfl sb_n))
    · have h := h.2 c1
      refine g_aload_n (pc' := 20) dX11_missed_19 rfl rfl ?_
      refine g_getR (pc' := 23) (r := 16) dX11_missed_20 rfl fl_RX11_38 kd_0 rfl rf_0_4 ?_
      refine g_getR (pc' := 26) (r := 17) dX11_missed_23 rfl fl_RX11_210 kd_16 rfl rf_16_1 ?_
      refine g_iload_n (pc' := 27) dX11_missed_26 rfl rfl ?_
      obtain ⟨ob2, h⟩ := h
      refine g_iald (pc' := 28) dX11_missed_27 rfl kd_17 ob2 ?_
      refine g_iconst (pc' := 29) (by unfold r32; decide) dX11_missed_28 rfl ?_
      refine g_ic_eq (pc' := 32) (tgt := 38) dX11_missed_29 rfl rfl (fun c3 => ?_) (fun c3 => ?_)
      · have h := h.1 c3
        refine g_iinc (pc' := 41) dX11_missed_38 rfl rfl (by decide) ?_
        refine g_goto (pc' := 8) dX11_missed_41 rfl ?_
        exact (ih _ _ h).to ((sb_c rfl (sb_c rfl (sb_c rfl sb_n))))
      · have h := h.2 c3
        refine g_iload_n (pc' := 33) dX11_missed_32 rfl rfl ?_
        refine g_iconst (pc' := 34) (by unfold r32; decide) dX11_missed_33 rfl ?_
        refine g_iload_n (pc' := 35) dX11_missed_34 rfl rfl ?_
        refine g_ishl (pc' := 36) dX11_missed_35 rfl ?_
        refine g_ior (pc' := 37) dX11_missed_36 rfl ?_
        refine g_topI (fun x4 ex4 => ?_)
        have h := h x4 ex4
        refine g_istore_n (pc' := 38) dX11_missed_37 rfl (by decide) ?_
        refine g_iinc (pc' := 41) dX11_missed_38 rfl rfl (by decide) ?_
        refine g_goto (pc' := 8) dX11_missed_41 rfl ?_
        exact (ih _ _ h).to ((sb_c rfl (sb_c rfl (sb_c rfl sb_n))))
def P_X11_missed (s : Sto) (Q : Int → Sto → Prop) : Prop := (P_X11_playTold s (fun _ s1 => (∃ n4, L_X11_missed_8 s1 (fun x3 => Q x3 s1) n4 0 0)))
set_option maxRecDepth 100000 in
theorem C_X11_missed {s : Sto} {Q : Int → Sto → Prop}  (h : P_X11_missed s Q) : sr_C yX11_missed cX11_missed 3 (some .int) 4 [vR 0] s Q := by
  refine sr_C.of (by decide +kernel) (Nat.le_of_ble_eq_true rfl) ?_
  show sr_G RX11 cX11_missed 3 (some .int) 4 0 [(0, vR 0)] [] s Q
  unfold P_X11_missed at h
  refine g_aload_n (pc' := 1) dX11_missed_0 rfl rfl ?_
  refine g_V0v (pc' := 4) dX11_missed_1 rfl mv_RX11_181 kd_0 (by decide) (Nat.le_of_ble_eq_true rfl) (C_X11_playTold h) (fun s1 h => ?_)
  refine g_iconst (pc' := 5) (by unfold r32; decide) dX11_missed_4 rfl ?_
  refine g_istore_n (pc' := 6) dX11_missed_5 rfl (by decide) ?_
  refine g_iconst (pc' := 7) (by unfold r32; decide) dX11_missed_6 rfl ?_
  refine g_istore_n (pc' := 8) dX11_missed_7 rfl (by decide) ?_
  obtain ⟨n4, h⟩ := h
  refine (SL_X11_missed_8  (fun x3 h => ?_) n4 _ _ h).to ((sb_c rfl (sb_c rfl (sb_c rfl sb_n))))
  · refine g_iload_n (pc' := 45) dX11_missed_44 rfl rfl ?_
    exact g_iret dX11_missed_45 rfl h
def L_X11_richest_10  (K49 : Int → Sto → Prop) : Nat → Int → Int → Int → Sto → Prop
  | 0, _, _, _, _ => False
  | n + 1, v1, v2, v3, s => ((4 ≤ v3 → K49 v1 s) ∧ (¬ 4 ≤ v3 → (P_X6_wedBits 16 6 v3 s (fun r3 s2 => (∀ x4 : Int, x4 = F_J6_bitCount_0f7a4 r3 s2 → ((x4 ≤ v2 → L_X11_richest_10 K49 n v1 v2 (w32 (v3 + 1)) s2) ∧ (¬ x4 ≤ v2 → L_X11_richest_10 K49 n v3 x4 (w32 (v3 + 1)) s2)))))))
set_option maxRecDepth 100000 in
theorem SL_X11_richest_10  {K49 : Int → Sto → Prop} {Q : Int → Sto → Prop}  (hK49 : ∀ v1 s, K49 v1 s → sr_G RX11 cX11_richest 5 (some .int) 4 49 [(1, vI v1)] [] s Q) : ∀ n v1 v2 v3 s, L_X11_richest_10 K49 n v1 v2 v3 s → sr_G RX11 cX11_richest 5 (some .int) 4 10 [(0, vR 0), (1, vI v1), (2, vI v2), (3, vI v3)] [] s Q := by
  intro n
  induction n with
  | zero => intro v1 v2 v3 s h; exact h.elim
  | succ n ih =>
    intro v1 v2 v3 s h
    unfold L_X11_richest_10 at h
    refine g_iload_n (pc' := 11) dX11_richest_10 rfl rfl ?_
    refine g_iconst (pc' := 12) (by unfold r32; decide) dX11_richest_11 rfl ?_
    refine g_ic_ge (pc' := 15) (tgt := 49) dX11_richest_12 rfl rfl (fun c1 => ?_) (fun c1 => ?_)
    · have h := h.1 c1
      exact (hK49 _ _ h).to ((sb_c rfl sb_n))
    · have h := h.2 c1
      refine g_aload_n (pc' := 16) dX11_richest_15 rfl rfl ?_
      refine g_getR (pc' := 19) (r := 16) dX11_richest_16 rfl fl_RX11_38 kd_0 rfl rf_0_4 ?_
      refine g_aload_n (pc' := 20) dX11_richest_19 rfl rfl ?_
      refine g_getR (pc' := 23) (r := 6) dX11_richest_20 rfl fl_RX11_29 kd_0 rfl rf_0_3 ?_
      refine g_iload_n (pc' := 24) dX11_richest_23 rfl rfl ?_
      refine g_V2i (pc' := 27) dX11_richest_24 rfl mv_RX11_197 kd_16 (by decide) (Nat.le_of_ble_eq_true rfl) (C_X6_wedBits kd_16 kd_6 h) (fun r3 s2 h => ?_)
      refine g_S1i (pc' := 30) dX11_richest_27 rfl ms_RX11_213 (by decide) (Nat.le_of_ble_eq_true rfl) C_J6_bitCount_0f7a4 (sr_pur ?_)
      refine g_topI (fun x4 ex4 => ?_)
      have h := h x4 ex4
      refine g_istore (pc' := 32) dX11_richest_30 rfl (by decide) ?_
      refine g_iload (pc' := 34) dX11_richest_32 rfl rfl ?_
      refine g_iload_n (pc' := 35) dX11_richest_34 rfl rfl ?_
      refine g_ic_le (pc' := 38) (tgt := 43) dX11_richest_35 rfl rfl (fun c5 => ?_) (fun c5 => ?_)
      · have h := h.1 c5
        refine g_iinc (pc' := 46) dX11_richest_43 rfl rfl (by decide) ?_
        refine g_goto (pc' := 10) dX11_richest_46 rfl ?_
        exact (ih _ _ _ _ h).to ((sb_c rfl (sb_c rfl (sb_c rfl (sb_c rfl sb_n)))))
      · have h := h.2 c5
        refine g_iload (pc' := 40) dX11_richest_38 rfl rfl ?_
        refine g_istore_n (pc' := 41) dX11_richest_40 rfl (by decide) ?_
        refine g_iload_n (pc' := 42) dX11_richest_41 rfl rfl ?_
        refine g_istore_n (pc' := 43) dX11_richest_42 rfl (by decide) ?_
        refine g_iinc (pc' := 46) dX11_richest_43 rfl rfl (by decide) ?_
        refine g_goto (pc' := 10) dX11_richest_46 rfl ?_
        exact (ih _ _ _ _ h).to ((sb_c rfl (sb_c rfl (sb_c rfl (sb_c rfl sb_n)))))
def P_X11_richest (s : Sto) (Q : Int → Sto → Prop) : Prop := (P_X11_playTold s (fun _ s1 => (∃ n5, L_X11_richest_10 (fun x3 s4 => Q x3 s4) n5 ((-1)) 0 0 s1)))
set_option maxRecDepth 100000 in
theorem C_X11_richest {s : Sto} {Q : Int → Sto → Prop}  (h : P_X11_richest s Q) : sr_C yX11_richest cX11_richest 5 (some .int) 4 [vR 0] s Q := by
  refine sr_C.of (by decide +kernel) (Nat.le_of_ble_eq_true rfl) ?_
  show sr_G RX11 cX11_richest 5 (some .int) 4 0 [(0, vR 0)] [] s Q
  unfold P_X11_richest at h
  refine g_aload_n (pc' := 1) dX11_richest_0 rfl rfl ?_
  refine g_V0v (pc' := 4) dX11_richest_1 rfl mv_RX11_181 kd_0 (by decide) (Nat.le_of_ble_eq_true rfl) (C_X11_playTold h) (fun s1 h => ?_)
  refine g_iconst (pc' := 5) (by unfold r32; decide) dX11_richest_4 rfl ?_
  refine g_istore_n (pc' := 6) dX11_richest_5 rfl (by decide) ?_
  refine g_iconst (pc' := 7) (by unfold r32; decide) dX11_richest_6 rfl ?_
  refine g_istore_n (pc' := 8) dX11_richest_7 rfl (by decide) ?_
  refine g_iconst (pc' := 9) (by unfold r32; decide) dX11_richest_8 rfl ?_
  refine g_istore_n (pc' := 10) dX11_richest_9 rfl (by decide) ?_
  obtain ⟨n5, h⟩ := h
  refine (SL_X11_richest_10  (fun x3 s4 h => ?_) n5 _ _ _ _ h).to ((sb_c rfl (sb_c rfl (sb_c rfl (sb_c rfl sb_n)))))
  · refine g_iload_n (pc' := 50) dX11_richest_49 rfl rfl ?_
    exact g_iret dX11_richest_50 rfl h
def L_X11_lonely_10 (s : Sto) (K52 : Int → Prop) : Nat → Int → Int → Int → Prop
  | 0, _, _, _ => False
  | n + 1, v1, v2, v3 => ((s 6 6 ≤ v3 → K52 v1) ∧ (¬ s 6 6 ≤ v3 → (inb v3 8 ∧ ((s 22 v3.toNat ≤ v2 → L_X11_lonely_10 s K52 n v1 v2 (w32 (v3 + 1))) ∧ (¬ s 22 v3.toNat ≤ v2 → (inb v3 8 ∧ (∀ x5 : Int, x5 = s 22 v3.toNat → L_X11_lonely_10 s K52 n v3 x5 (w32 (v3 + 1)))))))))
set_option maxRecDepth 100000 in
theorem SL_X11_lonely_10 {s : Sto} {K52 : Int → Prop} {Q : Int → Sto → Prop}  (hK52 : ∀ v1, K52 v1 → sr_G RX11 cX11_lonely 4 (some .int) 4 52 [(1, vI v1)] [] s Q) : ∀ n v1 v2 v3, L_X11_lonely_10 s K52 n v1 v2 v3 → sr_G RX11 cX11_lonely 4 (some .int) 4 10 [(0, vR 0), (1, vI v1), (2, vI v2), (3, vI v3)] [] s Q := by
  intro n
  induction n with
  | zero => intro v1 v2 v3 h; exact h.elim
  | succ n ih =>
    intro v1 v2 v3 h
    unfold L_X11_lonely_10 at h
    refine g_iload_n (pc' := 11) dX11_lonely_10 rfl rfl ?_
    refine g_aload_n (pc' := 12) dX11_lonely_11 rfl rfl ?_
    refine g_getR (pc' := 15) (r := 6) dX11_lonely_12 rfl fl_RX11_29 kd_0 rfl rf_0_3 ?_
    refine g_getI (pc' := 18) dX11_lonely_15 rfl fl_RX11_218 kd_6 (Or.inl rfl) ?_
    refine g_ic_ge (pc' := 21) (tgt := 52) dX11_lonely_18 rfl rfl (fun c1 => ?_) (fun c1 => ?_)
    · have h := h.1 c1
      exact (hK52 _ h).to ((sb_c rfl sb_n))
    · have h := h.2 c1
      refine g_aload_n (pc' := 22) dX11_lonely_21 rfl rfl ?_
      refine g_getR (pc' := 25) (r := 16) dX11_lonely_22 rfl fl_RX11_38 kd_0 rfl rf_0_4 ?_
      refine g_getR (pc' := 28) (r := 22) dX11_lonely_25 rfl fl_RX11_191 kd_16 rfl rf_16_6 ?_
      refine g_iload_n (pc' := 29) dX11_lonely_28 rfl rfl ?_
      obtain ⟨ob2, h⟩ := h
      refine g_iald (pc' := 30) dX11_lonely_29 rfl kd_22 ob2 ?_
      refine g_iload_n (pc' := 31) dX11_lonely_30 rfl rfl ?_
      refine g_ic_le (pc' := 34) (tgt := 46) dX11_lonely_31 rfl rfl (fun c3 => ?_) (fun c3 => ?_)
      · have h := h.1 c3
        refine g_iinc (pc' := 49) dX11_lonely_46 rfl rfl (by decide) ?_
        refine g_goto (pc' := 10) dX11_lonely_49 rfl ?_
        exact (ih _ _ _ h).to ((sb_c rfl (sb_c rfl (sb_c rfl (sb_c rfl sb_n)))))
      · have h := h.2 c3
        refine g_aload_n (pc' := 35) dX11_lonely_34 rfl rfl ?_
        refine g_getR (pc' := 38) (r := 16) dX11_lonely_35 rfl fl_RX11_38 kd_0 rfl rf_0_4 ?_
        refine g_getR (pc' := 41) (r := 22) dX11_lonely_38 rfl fl_RX11_191 kd_16 rfl rf_16_6 ?_
        refine g_iload_n (pc' := 42) dX11_lonely_41 rfl rfl ?_
        obtain ⟨ob4, h⟩ := h
        refine g_iald (pc' := 43) dX11_lonely_42 rfl kd_22 ob4 ?_
        refine g_topI (fun x5 ex5 => ?_)
        have h := h x5 ex5
        refine g_istore_n (pc' := 44) dX11_lonely_43 rfl (by decide) ?_
        refine g_iload_n (pc' := 45) dX11_lonely_44 rfl rfl ?_
        refine g_istore_n (pc' := 46) dX11_lonely_45 rfl (by decide) ?_
        refine g_iinc (pc' := 49) dX11_lonely_46 rfl rfl (by decide) ?_
        refine g_goto (pc' := 10) dX11_lonely_49 rfl ?_
        exact (ih _ _ _ h).to ((sb_c rfl (sb_c rfl (sb_c rfl (sb_c rfl sb_n)))))
def P_X11_lonely (s : Sto) (Q : Int → Sto → Prop) : Prop := (P_X11_playTold s (fun _ s1 => (∃ n4, L_X11_lonely_10 s1 (fun x3 => Q x3 s1) n4 ((-1)) ((-1)) 0)))
set_option maxRecDepth 100000 in
theorem C_X11_lonely {s : Sto} {Q : Int → Sto → Prop}  (h : P_X11_lonely s Q) : sr_C yX11_lonely cX11_lonely 4 (some .int) 4 [vR 0] s Q := by
  refine sr_C.of (by decide +kernel) (Nat.le_of_ble_eq_true rfl) ?_
  show sr_G RX11 cX11_lonely 4 (some .int) 4 0 [(0, vR 0)] [] s Q
  unfold P_X11_lonely at h
  refine g_aload_n (pc' := 1) dX11_lonely_0 rfl rfl ?_
  refine g_V0v (pc' := 4) dX11_lonely_1 rfl mv_RX11_181 kd_0 (by decide) (Nat.le_of_ble_eq_true rfl) (C_X11_playTold h) (fun s1 h => ?_)
  refine g_iconst (pc' := 5) (by unfold r32; decide) dX11_lonely_4 rfl ?_
  refine g_istore_n (pc' := 6) dX11_lonely_5 rfl (by decide) ?_
  refine g_iconst (pc' := 7) (by unfold r32; decide) dX11_lonely_6 rfl ?_
  refine g_istore_n (pc' := 8) dX11_lonely_7 rfl (by decide) ?_
  refine g_iconst (pc' := 9) (by unfold r32; decide) dX11_lonely_8 rfl ?_
  refine g_istore_n (pc' := 10) dX11_lonely_9 rfl (by decide) ?_
  obtain ⟨n4, h⟩ := h
  refine (SL_X11_lonely_10  (fun x3 h => ?_) n4 _ _ _ h).to ((sb_c rfl (sb_c rfl (sb_c rfl (sb_c rfl sb_n)))))
  · refine g_iload_n (pc' := 53) dX11_lonely_52 rfl rfl ?_
    exact g_iret dX11_lonely_53 rfl h
