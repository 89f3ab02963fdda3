def P_X11_breath (v1 : Int) (v2 : Int) (s : Sto) (Q : Int → Sto → Prop) : Prop := ((F_X11_isRing v1 s = 0 → Q ((-2)) s) ∧ (¬ F_X11_isRing v1 s = 0 → ((F_X11_isThing v2 s = 0 → Q ((-2)) s) ∧ (¬ F_X11_isThing v2 s = 0 → (P_X5_leastBreath v1 v2 s (fun r6 s5 => Q r6 s5))))))
set_option maxRecDepth 100000 in
theorem C_X11_breath {v1 : Int} {v2 : Int} {s : Sto} {Q : Int → Sto → Prop}  (h : P_X11_breath v1 v2 s Q) : sr_C yX11_breath cX11_breath 3 (some .int) 5 [vR 0, vI v1, vI v2] s Q := by
  refine sr_C.of (by decide +kernel) (Nat.le_of_ble_eq_true rfl) ?_
  show sr_G RX11 cX11_breath 3 (some .int) 5 0 [(0, vR 0), (1, vI v1), (2, vI v2)] [] s Q
  unfold P_X11_breath at h
  refine g_aload_n (pc' := 1) dX11_breath_0 rfl rfl ?_
  refine g_iload_n (pc' := 2) dX11_breath_1 rfl rfl ?_
  refine g_V1z (pc' := 5) dX11_breath_2 rfl mv_RX11_151 kd_0 (by decide) (Nat.le_of_ble_eq_true rfl) C_X11_isRing (sr_purb (fun hb1 => ?_))
  refine g_if_eq (pc' := 8) (tgt := 28) dX11_breath_5 rfl rfl (fun c2 => ?_) (fun c2 => ?_)
  · have h := h.1 c2
    refine g_bipush (pc' := 30) ⟨by unfold r32; decide, rfl⟩ dX11_breath_28 rfl ?_
    exact g_iret dX11_breath_30 rfl h
  · have h := h.2 c2
    refine g_aload_n (pc' := 9) dX11_breath_8 rfl rfl ?_
    refine g_iload_n (pc' := 10) dX11_breath_9 rfl rfl ?_
    refine g_V1z (pc' := 13) dX11_breath_10 rfl mv_RX11_122 kd_0 (by decide) (Nat.le_of_ble_eq_true rfl) C_X11_isThing (sr_purb (fun hb3 => ?_))
    refine g_if_eq (pc' := 16) (tgt := 28) dX11_breath_13 rfl rfl (fun c4 => ?_) (fun c4 => ?_)
    · have h := h.1 c4
      refine g_bipush (pc' := 30) ⟨by unfold r32; decide, rfl⟩ dX11_breath_28 rfl ?_
      exact g_iret dX11_breath_30 rfl h
    · have h := h.2 c4
      refine g_aload_n (pc' := 17) dX11_breath_16 rfl rfl ?_
      refine g_getR (pc' := 20) (r := 62) dX11_breath_17 rfl fl_RX11_82 kd_0 rfl rf_0_7 ?_
      refine g_iload_n (pc' := 21) dX11_breath_20 rfl rfl ?_
      refine g_iload_n (pc' := 22) dX11_breath_21 rfl rfl ?_
      refine g_V2i (pc' := 25) dX11_breath_22 rfl mv_RX11_221 kd_62 (by decide) (Nat.le_of_ble_eq_true rfl) (C_X5_leastBreath h) (fun r6 s5 h => ?_)
      refine g_goto (pc' := 30) dX11_breath_25 rfl ?_
      exact g_iret dX11_breath_30 rfl h
def P_X11_aim (v1 : Int) (v2 : Int) (s : Sto) (Q : Int → Sto → Prop) : Prop := ((F_X11_isRing v1 s = 0 → Q ((-2)) s) ∧ (¬ F_X11_isRing v1 s = 0 → ((F_X11_within v2 0 2 s = 0 → Q ((-2)) s) ∧ (¬ F_X11_within v2 0 2 s = 0 → (P_X5_seekAim v1 s (fun _ s5 => ((v2 = 0 → Q (s5 62 4) s5) ∧ (¬ v2 = 0 → ((v2 = 1 → Q (s5 62 5) s5) ∧ (¬ v2 = 1 → Q (s5 62 6) s5))))))))))
set_option maxRecDepth 100000 in
theorem C_X11_aim {v1 : Int} {v2 : Int} {s : Sto} {Q : Int → Sto → Prop}  (h : P_X11_aim v1 v2 s Q) : sr_C yX11_aim cX11_aim 3 (some .int) 5 [vR 0, vI v1, vI v2] s Q := by
  refine sr_C.of (by decide +kernel) (Nat.le_of_ble_eq_true rfl) ?_
  show sr_G RX11 cX11_aim 3 (some .int) 5 0 [(0, vR 0), (1, vI v1), (2, vI v2)] [] s Q
  unfold P_X11_aim at h
  refine g_aload_n (pc' := 1) dX11_aim_0 rfl rfl ?_
  refine g_iload_n (pc' := 2) dX11_aim_1 rfl rfl ?_
  refine g_V1z (pc' := 5) dX11_aim_2 rfl mv_RX11_151 kd_0 (by decide) (Nat.le_of_ble_eq_true rfl) C_X11_isRing (sr_purb (fun hb1 => ?_))
  refine g_if_eq (pc' := 8) (tgt := 17) dX11_aim_5 rfl rfl (fun c2 => ?_) (fun c2 => ?_)
  · have h := h.1 c2
    refine g_bipush (pc' := 19) ⟨by unfold r32; decide, rfl⟩ dX11_aim_17 rfl ?_
    exact g_iret dX11_aim_19 rfl h
  · have h := h.2 c2
    refine g_iload_n (pc' := 9) dX11_aim_8 rfl rfl ?_
    refine g_iconst (pc' := 10) (by unfold r32; decide) dX11_aim_9 rfl ?_
    refine g_iconst (pc' := 11) (by unfold r32; decide) dX11_aim_10 rfl ?_
    refine g_S3z (pc' := 14) dX11_aim_11 rfl ms_RX11_102 (by decide) (Nat.le_of_ble_eq_true rfl) C_X11_within (sr_purb (fun hb3 => ?_))
    refine g_if_ne (pc' := 17) (tgt := 20) dX11_aim_14 rfl rfl (fun c4 => ?_) (fun c4 => ?_)
    · have h := h.2 c4
      refine g_aload_n (pc' := 21) dX11_aim_20 rfl rfl ?_
      refine g_getR (pc' := 24) (r := 62) dX11_aim_21 rfl fl_RX11_82 kd_0 rfl rf_0_7 ?_
      refine g_iload_n (pc' := 25) dX11_aim_24 rfl rfl ?_
      refine g_V1v (pc' := 28) dX11_aim_25 rfl mv_RX11_225 kd_62 (by decide) (Nat.le_of_ble_eq_true rfl) (C_X5_seekAim h) (fun s5 h => ?_)
      refine g_iload_n (pc' := 29) dX11_aim_28 rfl rfl ?_
      refine g_if_ne (pc' := 32) (tgt := 42) dX11_aim_29 rfl rfl (fun c7 => ?_) (fun c7 => ?_)
      · have h := h.2 c7
        refine g_iload_n (pc' := 43) dX11_aim_42 rfl rfl ?_
        refine g_iconst (pc' := 44) (by unfold r32; decide) dX11_aim_43 rfl ?_
        refine g_ic_ne (pc' := 47) (tgt := 57) dX11_aim_44 rfl rfl (fun c8 => ?_) (fun c8 => ?_)
        · have h := h.2 c8
          refine g_aload_n (pc' := 58) dX11_aim_57 rfl rfl ?_
          refine g_getR (pc' := 61) (r := 62) dX11_aim_58 rfl fl_RX11_82 kd_0 rfl rf_0_7 ?_
          refine g_getI (pc' := 64) dX11_aim_61 rfl fl_RX11_234 kd_62 (Or.inl rfl) ?_
          exact g_iret dX11_aim_64 rfl h
        · have h := h.1 c8
          refine g_aload_n (pc' := 48) dX11_aim_47 rfl rfl ?_
          refine g_getR (pc' := 51) (r := 62) dX11_aim_48 rfl fl_RX11_82 kd_0 rfl rf_0_7 ?_
          refine g_getI (pc' := 54) dX11_aim_51 rfl fl_RX11_231 kd_62 (Or.inl rfl) ?_
          refine g_goto (pc' := 64) dX11_aim_54 rfl ?_
          exact g_iret dX11_aim_64 rfl h
      · have h := h.1 c7
        refine g_aload_n (pc' := 33) dX11_aim_32 rfl rfl ?_
        refine g_getR (pc' := 36) (r := 62) dX11_aim_33 rfl fl_RX11_82 kd_0 rfl rf_0_7 ?_
        refine g_getI (pc' := 39) dX11_aim_36 rfl fl_RX11_228 kd_62 (Or.inl rfl) ?_
        refine g_goto (pc' := 64) dX11_aim_39 rfl ?_
        exact g_iret dX11_aim_64 rfl h
    · have h := h.1 c4
      refine g_bipush (pc' := 19) ⟨by unfold r32; decide, rfl⟩ dX11_aim_17 rfl ?_
      exact g_iret dX11_aim_19 rfl h
def P_X11_stand (v1 : Int) (s : Sto) (Q : Int → Sto → Prop) : Prop := ((F_X11_isThing v1 s = 0 → Q ((-2)) s) ∧ (¬ F_X11_isThing v1 s = 0 → (P_X5_safeCell v1 s (fun r4 s3 => Q r4 s3))))
set_option maxRecDepth 100000 in
theorem C_X11_stand {v1 : Int} {s : Sto} {Q : Int → Sto → Prop}  (h : P_X11_stand v1 s Q) : sr_C yX11_stand cX11_stand 2 (some .int) 6 [vR 0, vI v1] s Q := by
  refine sr_C.of (by decide +kernel) (Nat.le_of_ble_eq_true rfl) ?_
  show sr_G RX11 cX11_stand 2 (some .int) 6 0 [(0, vR 0), (1, vI v1)] [] s Q
  unfold P_X11_stand at h
  refine g_aload_n (pc' := 1) dX11_stand_0 rfl rfl ?_
  refine g_iload_n (pc' := 2) dX11_stand_1 rfl rfl ?_
  refine g_V1z (pc' := 5) dX11_stand_2 rfl mv_RX11_122 kd_0 (by decide) (Nat.le_of_ble_eq_true rfl) C_X11_isThing (sr_purb (fun hb1 => ?_))
  refine g_if_eq (pc' := 8) (tgt := 19) dX11_stand_5 rfl rfl (fun c2 => ?_) (fun c2 => ?_)
  · have h := h.1 c2
    refine g_bipush (pc' := 21) ⟨by unfold r32; decide, rfl⟩ dX11_stand_19 rfl ?_
    exact g_iret dX11_stand_21 rfl h
  · have h := h.2 c2
    refine g_aload_n (pc' := 9) dX11_stand_8 rfl rfl ?_
    refine g_getR (pc' := 12) (r := 62) dX11_stand_9 rfl fl_RX11_82 kd_0 rfl rf_0_7 ?_
    refine g_iload_n (pc' := 13) dX11_stand_12 rfl rfl ?_
    refine g_V1i (pc' := 16) dX11_stand_13 rfl mv_RX11_237 kd_62 (by decide) (Nat.le_of_ble_eq_true rfl) (C_X5_safeCell h) (fun r4 s3 h => ?_)
    refine g_goto (pc' := 21) dX11_stand_16 rfl ?_
    exact g_iret dX11_stand_21 rfl h
def P_X11_hush (v1 : Int) (v2 : Int) (s : Sto) (Q : Int → Sto → Prop) : Prop := ((F_X11_isThing v1 s = 0 → Q ((-2)) s) ∧ (¬ F_X11_isThing v1 s = 0 → ((F_X11_within v2 ((-1)) 1 s = 0 → Q ((-2)) s) ∧ (¬ F_X11_within v2 ((-1)) 1 s = 0 → (P_X5_seekHush v1 s (fun _ s5 => Q (F_X2_pick v2 s5) s5))))))
set_option maxRecDepth 100000 in
theorem C_X11_hush {v1 : Int} {v2 : Int} {s : Sto} {Q : Int → Sto → Prop}  (h : P_X11_hush v1 v2 s Q) : sr_C yX11_hush cX11_hush 3 (some .int) 6 [vR 0, vI v1, vI v2] s Q := by
  refine sr_C.of (by decide +kernel) (Nat.le_of_ble_eq_true rfl) ?_
  show sr_G RX11 cX11_hush 3 (some .int) 6 0 [(0, vR 0), (1, vI v1), (2, vI v2)] [] s Q
  unfold P_X11_hush at h
  refine g_aload_n (pc' := 1) dX11_hush_0 rfl rfl ?_
  refine g_iload_n (pc' := 2) dX11_hush_1 rfl rfl ?_
  refine g_V1z (pc' := 5) dX11_hush_2 rfl mv_RX11_122 kd_0 (by decide) (Nat.le_of_ble_eq_true rfl) C_X11_isThing (sr_purb (fun hb1 => ?_))
  refine g_if_eq (pc' := 8) (tgt := 17) dX11_hush_5 rfl rfl (fun c2 => ?_) (fun c2 => ?_)
  · have h := h.1 c2
    refine g_bipush (pc' := 19) ⟨by unfold r32; decide, rfl⟩ dX11_hush_17 rfl ?_
    exact g_iret dX11_hush_19 rfl h
  · have h := h.2 c2
    refine g_iload_n (pc' := 9) dX11_hush_8 rfl rfl ?_
    refine g_iconst (pc' := 10) (by unfold r32; decide) dX11_hush_9 rfl ?_
    refine g_iconst (pc' := 11) (by unfold r32; decide) dX11_hush_10 rfl ?_
    refine g_S3z (pc' := 14) dX11_hush_11 rfl ms_RX11_102 (by decide) (Nat.le_of_ble_eq_true rfl) C_X11_within (sr_purb (fun hb3 => ?_))
    refine g_if_ne (pc' := 17) (tgt := 20) dX11_hush_14 rfl rfl (fun c4 => ?_) (fun c4 => ?_)
    · have h := h.2 c4
      refine g_aload_n (pc' := 21) dX11_hush_20 rfl rfl ?_
      refine g_getR (pc' := 24) (r := 62) dX11_hush_21 rfl fl_RX11_82 kd_0 rfl rf_0_7 ?_
      refine g_iload_n (pc' := 25) dX11_hush_24 rfl rfl ?_
      refine g_V1v (pc' := 28) dX11_hush_25 rfl mv_RX11_240 kd_62 (by decide) (Nat.le_of_ble_eq_true rfl) (C_X5_seekHush h) (fun s5 h => ?_)
      refine g_aload_n (pc' := 29) dX11_hush_28 rfl rfl ?_
      refine g_getR (pc' := 32) (r := 62) dX11_hush_29 rfl fl_RX11_82 kd_0 rfl rf_0_7 ?_
      refine g_getR (pc' := 35) (r := 63) dX11_hush_32 rfl fl_RX11_243 kd_62 rfl rf_62_9 ?_
      refine g_iload_n (pc' := 36) dX11_hush_35 rfl rfl ?_
      refine g_V1i (pc' := 39) dX11_hush_36 rfl mv_RX11_247 kd_63 (by decide) (Nat.le_of_ble_eq_true rfl) C_X2_pick (sr_pur ?_)
      exact g_iret dX11_hush_39 rfl h
    · have h := h.1 c4
      refine g_bipush (pc' := 19) ⟨by unfold r32; decide, rfl⟩ dX11_hush_17 rfl ?_
      exact g_iret dX11_hush_19 rfl h
def P_X11_calm (v1 : Int) (s : Sto) (Q : Int → Sto → Prop) : Prop := ((F_X11_within v1 0 1 s = 0 → Q ((-2)) s) ∧ (¬ F_X11_within v1 0 1 s = 0 → (P_X5_seekCalm s (fun _ s3 => ((v1 = 0 → Q (s3 62 7) s3) ∧ (¬ v1 = 0 → Q (s3 62 8) s3))))))
set_option maxRecDepth 100000 in
theorem C_X11_calm {v1 : Int} {s : Sto} {Q : Int → Sto → Prop}  (h : P_X11_calm v1 s Q) : sr_C yX11_calm cX11_calm 2 (some .int) 5 [vR 0, vI v1] s Q := by
  refine sr_C.of (by decide +kernel) (Nat.le_of_ble_eq_true rfl) ?_
  show sr_G RX11 cX11_calm 2 (some .int) 5 0 [(0, vR 0), (1, vI v1)] [] s Q
  unfold P_X11_calm at h
  refine g_iload_n (pc' := 1) dX11_calm_0 rfl rfl ?_
  refine g_iconst (pc' := 2) (by unfold r32; decide) dX11_calm_1 rfl ?_
  refine g_iconst (pc' := 3) (by unfold r32; decide) dX11_calm_2 rfl ?_
  refine g_S3z (pc' := 6) dX11_calm_3 rfl ms_RX11_102 (by decide) (Nat.le_of_ble_eq_true rfl) C_X11_within (sr_purb (fun hb1 => ?_))
  refine g_if_ne (pc' := 9) (tgt := 12) dX11_calm_6 rfl rfl (fun c2 => ?_) (fun c2 => ?_)
  · have h := h.2 c2
    refine g_aload_n (pc' := 13) dX11_calm_12 rfl rfl ?_
    refine g_getR (pc' := 16) (r := 62) dX11_calm_13 rfl fl_RX11_82 kd_0 rfl rf_0_7 ?_
    refine g_V0v (pc' := 19) dX11_calm_16 rfl mv_RX11_252 kd_62 (by decide) (Nat.le_of_ble_eq_true rfl) (C_X5_seekCalm h) (fun s3 h => ?_)
    refine g_iload_n (pc' := 20) dX11_calm_19 rfl rfl ?_
    refine g_if_ne (pc' := 23) (tgt := 33) dX11_calm_20 rfl rfl (fun c5 => ?_) (fun c5 => ?_)
    · have h := h.2 c5
      refine g_aload_n (pc' := 34) dX11_calm_33 rfl rfl ?_
      refine g_getR (pc' := 37) (r := 62) dX11_calm_34 rfl fl_RX11_82 kd_0 rfl rf_0_7 ?_
      refine g_getI (pc' := 40) dX11_calm_37 rfl fl_RX11_258 kd_62 (Or.inl rfl) ?_
      exact g_iret dX11_calm_40 rfl h
    · have h := h.1 c5
      refine g_aload_n (pc' := 24) dX11_calm_23 rfl rfl ?_
      refine g_getR (pc' := 27) (r := 62) dX11_calm_24 rfl fl_RX11_82 kd_0 rfl rf_0_7 ?_
      refine g_getI (pc' := 30) dX11_calm_27 rfl fl_RX11_255 kd_62 (Or.inl rfl) ?_
      refine g_goto (pc' := 40) dX11_calm_30 rfl ?_
      exact g_iret dX11_calm_40 rfl h
  · have h := h.1 c2
    refine g_bipush (pc' := 11) ⟨by unfold r32; decide, rfl⟩ dX11_calm_9 rfl ?_
    exact g_iret dX11_calm_11 rfl h
def P_X11_free (v1 : Int) (v2 : Int) (v3 : Int) (s : Sto) (Q : Int → Sto → Prop) : Prop := ((F_X11_within v1 0 3 s = 0 → Q ((-2)) s) ∧ (¬ F_X11_within v1 0 3 s = 0 → ((F_X11_within v2 0 99 s = 0 → Q ((-2)) s) ∧ (¬ F_X11_within v2 0 99 s = 0 → ((F_X11_within v3 ((-1)) 1 s = 0 → Q ((-2)) s) ∧ (¬ F_X11_within v3 ((-1)) 1 s = 0 → (P_X11_playTold s (fun _ s7 => (P_X5_seekFree 16 v1 v2 s7 (fun _ s9 => Q (F_X2_pick v3 s9) s9))))))))))
set_option maxRecDepth 100000 in
theorem C_X11_free {v1 : Int} {v2 : Int} {v3 : Int} {s : Sto} {Q : Int → Sto → Prop}  (h : P_X11_free v1 v2 v3 s Q) : sr_C yX11_free cX11_free 4 (some .int) 4 [vR 0, vI v1, vI v2, vI v3] s Q := by
  refine sr_C.of (by decide +kernel) (Nat.le_of_ble_eq_true rfl) ?_
  show sr_G RX11 cX11_free 4 (some .int) 4 0 [(0, vR 0), (1, vI v1), (2, vI v2), (3, vI v3)] [] s Q
  unfold P_X11_free at h
  refine g_iload_n (pc' := 1) dX11_free_0 rfl rfl ?_
  refine g_iconst (pc' := 2) (by unfold r32; decide) dX11_free_1 rfl ?_
  refine g_iconst (pc' := 3) (by unfold r32; decide) dX11_free_2 rfl ?_
  refine g_S3z (pc' := 6) dX11_free_3 rfl ms_RX11_102 (by decide) (Nat.le_of_ble_eq_true rfl) C_X11_within (sr_purb (fun hb1 => ?_))
  refine g_if_eq (pc' := 9) (tgt := 28) dX11_free_6 rfl rfl (fun c2 => ?_) (fun c2 => ?_)
  · have h := h.1 c2
    refine g_bipush (pc' := 30) ⟨by unfold r32; decide, rfl⟩ dX11_free_28 rfl ?_
    exact g_iret dX11_free_30 rfl h
  · have h := h.2 c2
    refine g_iload_n (pc' := 10) dX11_free_9 rfl rfl ?_
    refine g_iconst (pc' := 11) (by unfold r32; decide) dX11_free_10 rfl ?_
    refine g_bipush (pc' := 13) ⟨by unfold r32; decide, rfl⟩ dX11_free_11 rfl ?_
    refine g_S3z (pc' := 16) dX11_free_13 rfl ms_RX11_102 (by decide) (Nat.le_of_ble_eq_true rfl) C_X11_within (sr_purb (fun hb3 => ?_))
    refine g_if_eq (pc' := 19) (tgt := 28) dX11_free_16 rfl rfl (fun c4 => ?_) (fun c4 => ?_)
    · have h := h.1 c4
      refine g_bipush (pc' := 30) ⟨by unfold r32; decide, rfl⟩ dX11_free_28 rfl ?_
      exact g_iret dX11_free_30 rfl h
    · have h := h.2 c4
      refine g_iload_n (pc' := 20) dX11_free_19 rfl rfl ?_
      refine g_iconst (pc' := 21) (by unfold r32; decide) dX11_free_20 rfl ?_
      refine g_iconst (pc' := 22) (by unfold r32; decide) dX11_free_21 rfl ?_
      refine g_S3z (pc' := 25) dX11_free_22 rfl ms_RX11_102 (by decide) (Nat.le_of_ble_eq_true rfl) C_X11_within (sr_purb (fun hb5 => ?_))
      refine g_if_ne (pc' := 28) (tgt := 31) dX11_free_25 rfl rfl (fun c6 => ?_) (fun c6 => ?_)
      · have h := h.2 c6
        refine g_aload_n (pc' := 32) dX11_free_31 rfl rfl ?_
        refine g_V0v (pc' := 35) dX11_free_32 rfl mv_RX11_181 kd_0 (by decide) (Nat.le_of_ble_eq_true rfl) (C_X11_playTold h) (fun s7 h => ?_)
        refine g_aload_n (pc' := 36) dX11_free_35 rfl rfl ?_
        refine g_getR (pc' := 39) (r := 62) dX11_free_36 rfl fl_RX11_82 kd_0 rfl rf_0_7 ?_
        refine g_aload_n (pc' := 40) dX11_free_39 rfl rfl ?_
        refine g_getR (pc' := 43) (r := 16) dX11_free_40 rfl fl_RX11_38 kd_0 rfl rf_0_4 ?_
        refine g_iload_n (pc' := 44) dX11_free_43 rfl rfl ?_
        refine g_iload_n (pc' := 45) dX11_free_44 rfl rfl ?_
        refine g_V3v (pc' := 48) dX11_free_45 rfl mv_RX11_261 kd_62 (by decide) (Nat.le_of_ble_eq_true rfl) (C_X5_seekFree kd_16 h) (fun s9 h => ?_)
        refine g_aload_n (pc' := 49) dX11_free_48 rfl rfl ?_
        refine g_getR (pc' := 52) (r := 62) dX11_free_49 rfl fl_RX11_82 kd_0 rfl rf_0_7 ?_
        refine g_getR (pc' := 55) (r := 63) dX11_free_52 rfl fl_RX11_243 kd_62 rfl rf_62_9 ?_
        refine g_iload_n (pc' := 56) dX11_free_55 rfl rfl ?_
        refine g_V1i (pc' := 59) dX11_free_56 rfl mv_RX11_247 kd_63 (by decide) (Nat.le_of_ble_eq_true rfl) C_X2_pick (sr_pur ?_)
        exact g_iret dX11_free_59 rfl h
      · have h := h.1 c6
        refine g_bipush (pc' := 30) ⟨by unfold r32; decide, rfl⟩ dX11_free_28 rfl ?_
        exact g_iret dX11_free_30 rfl h
def F_X11_seen (v1 : Int) (v2 : Int) (s : Sto) : Int := (if F_X11_within v1 0 7 s = 0 then (-2) else (if F_X11_within v2 0 4 s = 0 then (-2) else (if F_X8_note v1 v2 s = 0 then (-4) else S_X8_note v1 v2 s 26 2)))
def S_X11_seen (v1 : Int) (v2 : Int) (s : Sto) : Sto := (if F_X11_within v1 0 7 s = 0 then s else (if F_X11_within v2 0 4 s = 0 then s else (if F_X8_note v1 v2 s = 0 then S_X8_note v1 v2 s else S_X8_note v1 v2 s)))
def O_X11_seen (v1 : Int) (v2 : Int) (s : Sto) : Prop := ((F_X11_within v1 0 7 s = 0 → True) ∧ (¬ F_X11_within v1 0 7 s = 0 → ((F_X11_within v2 0 4 s = 0 → True) ∧ (¬ F_X11_within v2 0 4 s = 0 → (O_X8_note v1 v2 s ∧ True)))))
set_option maxRecDepth 100000 in
theorem C_X11_seen {v1 : Int} {v2 : Int} {s : Sto}  (h : O_X11_seen v1 v2 s) : sr_C yX11_seen cX11_seen 3 (some .int) 1 [vR 0, vI v1, vI v2] s (fun r s' => r = F_X11_seen v1 v2 s ∧ s' = S_X11_seen v1 v2 s) := by
  refine sr_C.of (by decide +kernel) (Nat.le_of_ble_eq_true rfl) ?_
  show sr_G RX11 cX11_seen 3 (some .int) 1 0 [(0, vR 0), (1, vI v1), (2, vI v2)] [] s (fun r s' => r = F_X11_seen v1 v2 s ∧ s' = S_X11_seen v1 v2 s)
  unfold O_X11_seen at h
  refine g_iload_n (pc' := 1) dX11_seen_0 rfl rfl ?_
  refine g_iconst (pc' := 2) (by unfold r32; decide) dX11_seen_1 rfl ?_
  refine g_bipush (pc' := 4) ⟨by unfold r32; decide, rfl⟩ dX11_seen_2 rfl ?_
  refine g_S3z (pc' := 7) dX11_seen_4 rfl ms_RX11_102 (by decide) (Nat.le_of_ble_eq_true rfl) C_X11_within (sr_purb (fun hb1 => ?_))
  refine g_if_eq (pc' := 10) (tgt := 19) dX11_seen_7 rfl rfl (fun c2 => ?_) (fun c2 => ?_)
  · have h := h.1 c2
    refine g_bipush (pc' := 21) ⟨by unfold r32; decide, rfl⟩ dX11_seen_19 rfl ?_
    exact g_iret dX11_seen_21 rfl ⟨(by simp only [F_X11_seen, if_pos c2]), (by simp only [S_X11_seen, if_pos c2])⟩
  · have h := h.2 c2
    refine g_iload_n (pc' := 11) dX11_seen_10 rfl rfl ?_
    refine g_iconst (pc' := 12) (by unfold r32; decide) dX11_seen_11 rfl ?_
    refine g_iconst (pc' := 13) (by unfold r32; decide) dX11_seen_12 rfl ?_
    refine g_S3z (pc' := 16) dX11_seen_13 rfl ms_RX11_102 (by decide) (Nat.le_of_ble_eq_true rfl) C_X11_within (sr_purb (fun hb3 => ?_))
    refine g_if_ne (pc' := 19) (tgt := 22) dX11_seen_16 rfl rfl (fun c4 => ?_) (fun c4 => ?_)
    · have h := h.2 c4
      refine g_aload_n (pc' := 23) dX11_seen_22 rfl rfl ?_
      refine g_getR (pc' := 26) (r := 26) dX11_seen_23 rfl fl_RX11_52 kd_0 rfl rf_0_6 ?_
      refine g_iload_n (pc' := 27) dX11_seen_26 rfl rfl ?_
      refine g_iload_n (pc' := 28) dX11_seen_27 rfl rfl ?_
      obtain ⟨ob5, h⟩ := h
      refine g_V2z (pc' := 31) dX11_seen_28 rfl mv_RX11_265 kd_26 (by decide) (Nat.le_of_ble_eq_true rfl) (C_X8_note ob5) (sr_purb (fun hb6 => ?_))
      refine g_if_eq (pc' := 34) (tgt := 44) dX11_seen_31 rfl rfl (fun c7 => ?_) (fun c7 => ?_)
      · refine g_bipush (pc' := 46) ⟨by unfold r32; decide, rfl⟩ dX11_seen_44 rfl ?_
        exact g_iret dX11_seen_46 rfl ⟨(by simp only [F_X11_seen, if_neg c2, if_neg c4, if_pos c7]), (by simp only [S_X11_seen, if_neg c2, if_neg c4, if_pos c7])⟩
      · refine g_aload_n (pc' := 35) dX11_seen_34 rfl rfl ?_
        refine g_getR (pc' := 38) (r := 26) dX11_seen_35 rfl fl_RX11_52 kd_0 rfl rf_0_6 ?_
        refine g_getI (pc' := 41) dX11_seen_38 rfl fl_RX11_269 kd_26 (Or.inl rfl) ?_
        refine g_goto (pc' := 46) dX11_seen_41 rfl ?_
        exact g_iret dX11_seen_46 rfl ⟨(by simp only [F_X11_seen, if_neg c2, if_neg c4, if_neg c7]), (by simp only [S_X11_seen, if_neg c2, if_neg c4, if_neg c7])⟩
    · have h := h.1 c4
      refine g_bipush (pc' := 21) ⟨by unfold r32; decide, rfl⟩ dX11_seen_19 rfl ?_
      exact g_iret dX11_seen_21 rfl ⟨(by simp only [F_X11_seen, if_neg c2, if_pos c4]), (by simp only [S_X11_seen, if_neg c2, if_pos c4])⟩
def F_X11_forget (s : Sto) : Int := s 26 2
def S_X11_forget (s : Sto) : Sto := up s 26 2 0
set_option maxRecDepth 100000 in
theorem C_X11_forget {s : Sto}   : sr_C yX11_forget cX11_forget 2 (some .int) 0 [vR 0] s (fun r s' => r = F_X11_forget s ∧ s' = S_X11_forget s) := by
  refine sr_C.of (by decide +kernel) (Nat.le_of_ble_eq_true rfl) ?_
  show sr_G RX11 cX11_forget 2 (some .int) 0 0 [(0, vR 0)] [] s (fun r s' => r = F_X11_forget s ∧ s' = S_X11_forget s)
  refine g_aload_n (pc' := 1) dX11_forget_0 rfl rfl ?_
  refine g_getR (pc' := 4) (r := 26) dX11_forget_1 rfl fl_RX11_52 kd_0 rfl rf_0_6 ?_
  refine g_getI (pc' := 7) dX11_forget_4 rfl fl_RX11_269 kd_26 (Or.inl rfl) ?_
  refine g_istore_n (pc' := 8) dX11_forget_7 rfl (by decide) ?_
  refine g_aload_n (pc' := 9) dX11_forget_8 rfl rfl ?_
  refine g_getR (pc' := 12) (r := 26) dX11_forget_9 rfl fl_RX11_52 kd_0 rfl rf_0_6 ?_
  refine g_iconst (pc' := 13) (by unfold r32; decide) dX11_forget_12 rfl ?_
  refine g_putI (pc' := 16) dX11_forget_13 rfl fp_RX11_269 kd_26 rfl ?_
  refine g_iload_n (pc' := 17) dX11_forget_16 rfl rfl ?_
  exact g_iret dX11_forget_17 rfl ⟨rfl, rfl⟩
def P_X11_never (s : Sto) (Q : Int → Sto → Prop) : Prop := (P_X3_neverBits s (fun r2 s1 => Q r2 s1))
set_option maxRecDepth 100000 in
theorem C_X11_never {s : Sto} {Q : Int → Sto → Prop}  (h : P_X11_never s Q) : sr_C yX11_never cX11_never 1 (some .int) 6 [vR 0] s Q := by
  refine sr_C.of (by decide +kernel) (Nat.le_of_ble_eq_true rfl) ?_
  show sr_G RX11 cX11_never 1 (some .int) 6 0 [(0, vR 0)] [] s Q
  unfold P_X11_never at h
  refine g_aload_n (pc' := 1) dX11_never_0 rfl rfl ?_
  refine g_getR (pc' := 4) (r := 64) dX11_never_1 rfl fl_RX11_91 kd_0 rfl rf_0_8 ?_
  refine g_V0i (pc' := 7) dX11_never_4 rfl mv_RX11_270 kd_64 (by decide) (Nat.le_of_ble_eq_true rfl) (C_X3_neverBits h) (fun r2 s1 h => ?_)
  exact g_iret dX11_never_7 rfl h
def P_X11_whence (v1 : Int) (v2 : Int) (s : Sto) (Q : Int → Sto → Prop) : Prop := ((F_X11_isRing v1 s = 0 → Q ((-2)) s) ∧ (¬ F_X11_isRing v1 s = 0 → ((F_X11_within v2 ((-1)) 35 s = 0 → Q ((-2)) s) ∧ (¬ F_X11_within v2 ((-1)) 35 s = 0 → (P_X3_seekWhence v1 s (fun _ s5 => (P_X3_pickWhence v2 s5 (fun r8 s7 => Q r8 s7))))))))
set_option maxRecDepth 100000 in
theorem C_X11_whence {v1 : Int} {v2 : Int} {s : Sto} {Q : Int → Sto → Prop}  (h : P_X11_whence v1 v2 s Q) : sr_C yX11_whence cX11_whence 3 (some .int) 6 [vR 0, vI v1, vI v2] s Q := by
  refine sr_C.of (by decide +kernel) (Nat.le_of_ble_eq_true rfl) ?_
  show sr_G RX11 cX11_whence 3 (some .int) 6 0 [(0, vR 0), (1, vI v1), (2, vI v2)] [] s Q
  unfold P_X11_whence at h
  refine g_aload_n (pc' := 1) dX11_whence_0 rfl rfl ?_
  refine g_iload_n (pc' := 2) dX11_whence_1 rfl rfl ?_
  refine g_V1z (pc' := 5) dX11_whence_2 rfl mv_RX11_151 kd_0 (by decide) (Nat.le_of_ble_eq_true rfl) C_X11_isRing (sr_purb (fun hb1 => ?_))
  refine g_if_eq (pc' := 8) (tgt := 18) dX11_whence_5 rfl rfl (fun c2 => ?_) (fun c2 => ?_)
  · have h := h.1 c2
    refine g_bipush (pc' := 20) ⟨by unfold r32; decide, rfl⟩ dX11_whence_18 rfl ?_
    exact g_iret dX11_whence_20 rfl h
  · have h := h.2 c2
    refine g_iload_n (pc' := 9) dX11_whence_8 rfl rfl ?_
    refine g_iconst (pc' := 10) (by unfold r32; decide) dX11_whence_9 rfl ?_
    refine g_bipush (pc' := 12) ⟨by unfold r32; decide, rfl⟩ dX11_whence_10 rfl ?_
    refine g_S3z (pc' := 15) dX11_whence_12 rfl ms_RX11_102 (by decide) (Nat.le_of_ble_eq_true rfl) C_X11_within (sr_purb (fun hb3 => ?_))
    refine g_if_ne (pc' := 18) (tgt := 21) dX11_whence_15 rfl rfl (fun c4 => ?_) (fun c4 => ?_)
    · have h := h.2 c4
      refine g_aload_n (pc' := 22) dX11_whence_21 rfl rfl ?_
      refine g_getR (pc' := 25) (r := 64) dX11_whence_22 rfl fl_RX11_91 kd_0 rfl rf_0_8 ?_
      refine g_iload_n (pc' := 26) dX11_whence_25 rfl rfl ?_
      refine g_V1v (pc' := 29) dX11_whence_26 rfl mv_RX11_274 kd_64 (by decide) (Nat.le_of_ble_eq_true rfl) (C_X3_seekWhence h) (fun s5 h => ?_)
      refine g_aload_n (pc' := 30) dX11_whence_29 rfl rfl ?_
      refine g_getR (pc' := 33) (r := 64) dX11_whence_30 rfl fl_RX11_91 kd_0 rfl rf_0_8 ?_
      refine g_iload_n (pc' := 34) dX11_whence_33 rfl rfl ?_
      refine g_V1i (pc' := 37) dX11_whence_34 rfl mv_RX11_277 kd_64 (by decide) (Nat.le_of_ble_eq_true rfl) (C_X3_pickWhence h) (fun r8 s7 h => ?_)
      exact g_iret dX11_whence_37 rfl h
    · have h := h.1 c4
      refine g_bipush (pc' := 20) ⟨by unfold r32; decide, rfl⟩ dX11_whence_18 rfl ?_
      exact g_iret dX11_whence_20 rfl h
def P_X11_paces (s : Sto) (Q : Int → Sto → Prop) : Prop := (P_X3_paceBits s (fun r2 s1 => Q r2 s1))
set_option maxRecDepth 100000 in
theorem C_X11_paces {s : Sto} {Q : Int → Sto → Prop}  (h : P_X11_paces s Q) : sr_C yX11_paces cX11_paces 1 (some .int) 6 [vR 0] s Q := by
  refine sr_C.of (by decide +kernel) (Nat.le_of_ble_eq_true rfl) ?_
  show sr_G RX11 cX11_paces 1 (some .int) 6 0 [(0, vR 0)] [] s Q
  unfold P_X11_paces at h
  refine g_aload_n (pc' := 1) dX11_paces_0 rfl rfl ?_
  refine g_getR (pc' := 4) (r := 64) dX11_paces_1 rfl fl_RX11_91 kd_0 rfl rf_0_8 ?_
  refine g_V0i (pc' := 7) dX11_paces_4 rfl mv_RX11_280 kd_64 (by decide) (Nat.le_of_ble_eq_true rfl) (C_X3_paceBits h) (fun r2 s1 h => ?_)
  exact g_iret dX11_paces_7 rfl h
def P_X11_ask (s : Sto) (Q : Int → Sto → Prop) : Prop := (P_X3_bestAsk s (fun r2 s1 => Q r2 s1))
set_option maxRecDepth 100000 in
theorem C_X11_ask {s : Sto} {Q : Int → Sto → Prop}  (h : P_X11_ask s Q) : sr_C yX11_ask cX11_ask 1 (some .int) 5 [vR 0] s Q := by
  refine sr_C.of (by decide +kernel) (Nat.le_of_ble_eq_true rfl) ?_
  show sr_G RX11 cX11_ask 1 (some .int) 5 0 [(0, vR 0)] [] s Q
  unfold P_X11_ask at h
  refine g_aload_n (pc' := 1) dX11_ask_0 rfl rfl ?_
  refine g_getR (pc' := 4) (r := 64) dX11_ask_1 rfl fl_RX11_91 kd_0 rfl rf_0_8 ?_
  refine g_V0i (pc' := 7) dX11_ask_4 rfl mv_RX11_283 kd_64 (by decide) (Nat.le_of_ble_eq_true rfl) (C_X3_bestAsk h) (fun r2 s1 h => ?_)
  exact g_iret dX11_ask_7 rfl h
def P_X11_still (v1 : Int) (v2 : Int) (v3 : Int) (v4 : Int) (v5 : Int) (s : Sto) (Q : Int → Sto → Prop) : Prop := ((F_X11_within v1 0 16 s = 0 → Q ((-9223372036854775806)) s) ∧ (¬ F_X11_within v1 0 16 s = 0 → ((F_X11_within v2 0 9 s = 0 → Q ((-9223372036854775806)) s) ∧ (¬ F_X11_within v2 0 9 s = 0 → ((F_X11_isThing v3 s = 0 → Q ((-9223372036854775806)) s) ∧ (¬ F_X11_isThing v3 s = 0 → ((F_X11_within v4 0 3 s = 0 → Q ((-9223372036854775806)) s) ∧ (¬ F_X11_within v4 0 3 s = 0 → ((F_X11_within v5 0 1 s = 0 → Q ((-9223372036854775806)) s) ∧ (¬ F_X11_within v5 0 1 s = 0 → (P_X0_weigh v1 v2 s (fun _ s11 => ((v5 = 0 → (P_X0_above v3 v4 s11 (fun r15 s14 => Q r15 s14))) ∧ (¬ v5 = 0 → (P_X0_below v3 v4 s11 (fun r17 s16 => Q r17 s16))))))))))))))))
set_option maxRecDepth 100000 in
theorem C_X11_still {v1 : Int} {v2 : Int} {v3 : Int} {v4 : Int} {v5 : Int} {s : Sto} {Q : Int → Sto → Prop}  (h : P_X11_still v1 v2 v3 v4 v5 s Q) : sr_C yX11_still cX11_still 6 (some .long) 6 [vR 0, vI v1, vI v2, vI v3, vI v4, vI v5] s Q := by
  refine sr_C.of (by decide +kernel) (Nat.le_of_ble_eq_true rfl) ?_
  show sr_G RX11 cX11_still 6 (some .long) 6 0 [(0, vR 0), (1, vI v1), (2, vI v2), (3, vI v3), (4, vI v4), (5, vI v5)] [] s Q
  unfold P_X11_still at h
  refine g_iload_n (pc' := 1) dX11_still_0 rfl rfl ?_
  refine g_iconst (pc' := 2) (by unfold r32; decide) dX11_still_1 rfl ?_
  refine g_bipush (pc' := 4) ⟨by unfold r32; decide, rfl⟩ dX11_still_2 rfl ?_
  refine g_S3z (pc' := 7) dX11_still_4 rfl ms_RX11_102 (by decide) (Nat.le_of_ble_eq_true rfl) C_X11_within (sr_purb (fun hb1 => ?_))
  refine g_if_eq (pc' := 10) (tgt := 48) dX11_still_7 rfl rfl (fun c2 => ?_) (fun c2 => ?_)
  · have h := h.1 c2
    refine g_ldc2 (pc' := 51) (z := (-9223372036854775806)) (by unfold r64; decide) kc_RX11_286 dX11_still_48 rfl ?_
    exact g_lret dX11_still_51 rfl h
  · have h := h.2 c2
    refine g_iload_n (pc' := 11) dX11_still_10 rfl rfl ?_
    refine g_iconst (pc' := 12) (by unfold r32; decide) dX11_still_11 rfl ?_
    refine g_bipush (pc' := 14) ⟨by unfold r32; decide, rfl⟩ dX11_still_12 rfl ?_
    refine g_S3z (pc' := 17) dX11_still_14 rfl ms_RX11_102 (by decide) (Nat.le_of_ble_eq_true rfl) C_X11_within (sr_purb (fun hb3 => ?_))
    refine g_if_eq (pc' := 20) (tgt := 48) dX11_still_17 rfl rfl (fun c4 => ?_) (fun c4 => ?_)
    · have h := h.1 c4
      refine g_ldc2 (pc' := 51) (z := (-9223372036854775806)) (by unfold r64; decide) kc_RX11_286 dX11_still_48 rfl ?_
      exact g_lret dX11_still_51 rfl h
    · have h := h.2 c4
      refine g_aload_n (pc' := 21) dX11_still_20 rfl rfl ?_
      refine g_iload_n (pc' := 22) dX11_still_21 rfl rfl ?_
      refine g_V1z (pc' := 25) dX11_still_22 rfl mv_RX11_122 kd_0 (by decide) (Nat.le_of_ble_eq_true rfl) C_X11_isThing (sr_purb (fun hb5 => ?_))
      refine g_if_eq (pc' := 28) (tgt := 48) dX11_still_25 rfl rfl (fun c6 => ?_) (fun c6 => ?_)
      · have h := h.1 c6
        refine g_ldc2 (pc' := 51) (z := (-9223372036854775806)) (by unfold r64; decide) kc_RX11_286 dX11_still_48 rfl ?_
        exact g_lret dX11_still_51 rfl h
      · have h := h.2 c6
        refine g_iload (pc' := 30) dX11_still_28 rfl rfl ?_
        refine g_iconst (pc' := 31) (by unfold r32; decide) dX11_still_30 rfl ?_
        refine g_iconst (pc' := 32) (by unfold r32; decide) dX11_still_31 rfl ?_
        refine g_S3z (pc' := 35) dX11_still_32 rfl ms_RX11_102 (by decide) (Nat.le_of_ble_eq_true rfl) C_X11_within (sr_purb (fun hb7 => ?_))
        refine g_if_eq (pc' := 38) (tgt := 48) dX11_still_35 rfl rfl (fun c8 => ?_) (fun c8 => ?_)
        · have h := h.1 c8
          refine g_ldc2 (pc' := 51) (z := (-9223372036854775806)) (by unfold r64; decide) kc_RX11_286 dX11_still_48 rfl ?_
          exact g_lret dX11_still_51 rfl h
        · have h := h.2 c8
          refine g_iload (pc' := 40) dX11_still_38 rfl rfl ?_
          refine g_iconst (pc' := 41) (by unfold r32; decide) dX11_still_40 rfl ?_
          refine g_iconst (pc' := 42) (by unfold r32; decide) dX11_still_41 rfl ?_
          refine g_S3z (pc' := 45) dX11_still_42 rfl ms_RX11_102 (by decide) (Nat.le_of_ble_eq_true rfl) C_X11_within (sr_purb (fun hb9 => ?_))
          refine g_if_ne (pc' := 48) (tgt := 52) dX11_still_45 rfl rfl (fun c10 => ?_) (fun c10 => ?_)
          · have h := h.2 c10
            refine g_aload_n (pc' := 53) dX11_still_52 rfl rfl ?_
            refine g_getR (pc' := 56) (r := 66) dX11_still_53 rfl fl_RX11_98 kd_0 rfl rf_0_9 ?_
            refine g_iload_n (pc' := 57) dX11_still_56 rfl rfl ?_
            refine g_iload_n (pc' := 58) dX11_still_57 rfl rfl ?_
            refine g_V2v (pc' := 61) dX11_still_58 rfl mv_RX11_288 kd_66 (by decide) (Nat.le_of_ble_eq_true rfl) (C_X0_weigh h) (fun s11 h => ?_)
            refine g_iload (pc' := 63) dX11_still_61 rfl rfl ?_
            refine g_if_ne (pc' := 66) (tgt := 79) dX11_still_63 rfl rfl (fun c13 => ?_) (fun c13 => ?_)
            · have h := h.2 c13
              refine g_aload_n (pc' := 80) dX11_still_79 rfl rfl ?_
              refine g_getR (pc' := 83) (r := 66) dX11_still_80 rfl fl_RX11_98 kd_0 rfl rf_0_9 ?_
              refine g_iload_n (pc' := 84) dX11_still_83 rfl rfl ?_
              refine g_iload (pc' := 86) dX11_still_84 rfl rfl ?_
              refine g_V2l (pc' := 89) dX11_still_86 rfl mv_RX11_296 kd_66 (by decide) (Nat.le_of_ble_eq_true rfl) (C_X0_below h) (fun r17 s16 h => ?_)
              exact g_lret dX11_still_89 rfl h
            · have h := h.1 c13
              refine g_aload_n (pc' := 67) dX11_still_66 rfl rfl ?_
              refine g_getR (pc' := 70) (r := 66) dX11_still_67 rfl fl_RX11_98 kd_0 rfl rf_0_9 ?_
              refine g_iload_n (pc' := 71) dX11_still_70 rfl rfl ?_
              refine g_iload (pc' := 73) dX11_still_71 rfl rfl ?_
              refine g_V2l (pc' := 76) dX11_still_73 rfl mv_RX11_292 kd_66 (by decide) (Nat.le_of_ble_eq_true rfl) (C_X0_above h) (fun r15 s14 h => ?_)
              refine g_goto (pc' := 89) dX11_still_76 rfl ?_
              exact g_lret dX11_still_89 rfl h
          · have h := h.1 c10
            refine g_ldc2 (pc' := 51) (z := (-9223372036854775806)) (by unfold r64; decide) kc_RX11_286 dX11_still_48 rfl ?_
            exact g_lret dX11_still_51 rfl h
def P_X11_evening (v1 : Int) (v2 : Int) (v3 : Int) (s : Sto) (Q : Int → Sto → Prop) : Prop := ((F_X11_within v2 1 8 s = 0 → Q ((-2)) s) ∧ (¬ F_X11_within v2 1 8 s = 0 → ((F_X11_within v3 0 1 s = 0 → Q ((-2)) s) ∧ (¬ F_X11_within v3 0 1 s = 0 → (P_X0_playLots v1 v2 s (fun _ s5 => ((v3 = 0 → Q (s5 66 8) s5) ∧ (¬ v3 = 0 → Q (s5 66 9) s5))))))))
set_option maxRecDepth 100000 in
theorem C_X11_evening {v1 : Int} {v2 : Int} {v3 : Int} {s : Sto} {Q : Int → Sto → Prop}  (h : P_X11_evening v1 v2 v3 s Q) : sr_C yX11_evening cX11_evening 4 (some .int) 5 [vR 0, vI v1, vI v2, vI v3] s Q := by
  refine sr_C.of (by decide +kernel) (Nat.le_of_ble_eq_true rfl) ?_
  show sr_G RX11 cX11_evening 4 (some .int) 5 0 [(0, vR 0), (1, vI v1), (2, vI v2), (3, vI v3)] [] s Q
  unfold P_X11_evening at h
  refine g_iload_n (pc' := 1) dX11_evening_0 rfl rfl ?_
  refine g_iconst (pc' := 2) (by unfold r32; decide) dX11_evening_1 rfl ?_
  refine g_bipush (pc' := 4) ⟨by unfold r32; decide, rfl⟩ dX11_evening_2 rfl ?_
  refine g_S3z (pc' := 7) dX11_evening_4 rfl ms_RX11_102 (by decide) (Nat.le_of_ble_eq_true rfl) C_X11_within (sr_purb (fun hb1 => ?_))
  refine g_if_eq (pc' := 10) (tgt := 19) dX11_evening_7 rfl rfl (fun c2 => ?_) (fun c2 => ?_)
  · have h := h.1 c2
    refine g_bipush (pc' := 21) ⟨by unfold r32; decide, rfl⟩ dX11_evening_19 rfl ?_
    exact g_iret dX11_evening_21 rfl h
  · have h := h.2 c2
    refine g_iload_n (pc' := 11) dX11_evening_10 rfl rfl ?_
    refine g_iconst (pc' := 12) (by unfold r32; decide) dX11_evening_11 rfl ?_
    refine g_iconst (pc' := 13) (by unfold r32; decide) dX11_evening_12 rfl ?_
    refine g_S3z (pc' := 16) dX11_evening_13 rfl ms_RX11_102 (by decide) (Nat.le_of_ble_eq_true rfl) C_X11_within (sr_purb (fun hb3 => ?_))
    refine g_if_ne (pc' := 19) (tgt := 22) dX11_evening_16 rfl rfl (fun c4 => ?_) (fun c4 => ?_)
    · have h := h.2 c4
      refine g_aload_n (pc' := 23) dX11_evening_22 rfl rfl ?_
      refine g_getR (pc' := 26) (r := 66) dX11_evening_23 rfl fl_RX11_98 kd_0 rfl rf_0_9 ?_
      refine g_iload_n (pc' := 27) dX11_evening_26 rfl rfl ?_
      refine g_iload_n (pc' := 28) dX11_evening_27 rfl rfl ?_
      refine g_V2v (pc' := 31) dX11_evening_28 rfl mv_RX11_299 kd_66 (by decide) (Nat.le_of_ble_eq_true rfl) (C_X0_playLots h) (fun s5 h => ?_)
      refine g_iload_n (pc' := 32) dX11_evening_31 rfl rfl ?_
      refine g_if_ne (pc' := 35) (tgt := 45) dX11_evening_32 rfl rfl (fun c7 => ?_) (fun c7 => ?_)
      · have h := h.2 c7
        refine g_aload_n (pc' := 46) dX11_evening_45 rfl rfl ?_
        refine g_getR (pc' := 49) (r := 66) dX11_evening_46 rfl fl_RX11_98 kd_0 rfl rf_0_9 ?_
        refine g_getI (pc' := 52) dX11_evening_49 rfl fl_RX11_305 kd_66 (Or.inl rfl) ?_
        exact g_iret dX11_evening_52 rfl h
      · have h := h.1 c7
        refine g_aload_n (pc' := 36) dX11_evening_35 rfl rfl ?_
        refine g_getR (pc' := 39) (r := 66) dX11_evening_36 rfl fl_RX11_98 kd_0 rfl rf_0_9 ?_
        refine g_getI (pc' := 42) dX11_evening_39 rfl fl_RX11_302 kd_66 (Or.inl rfl) ?_
        refine g_goto (pc' := 52) dX11_evening_42 rfl ?_
        exact g_iret dX11_evening_52 rfl h
    · have h := h.1 c4
      refine g_bipush (pc' := 21) ⟨by unfold r32; decide, rfl⟩ dX11_evening_19 rfl ?_
      exact g_iret dX11_evening_21 rfl h
def P_X11_sheet (v1 : Int) (v2 : Int) (v3 : Int) (s : Sto) (Q : Int → Sto → Prop) : Prop := ((F_X11_within v1 0 3 s = 0 → Q ((-2)) s) ∧ (¬ F_X11_within v1 0 3 s = 0 → ((F_X11_within v2 0 2 s = 0 → Q ((-2)) s) ∧ (¬ F_X11_within v2 0 2 s = 0 → ((v3 ≤ 60 → ((0 ≤ v3 → (inb v1 4 ∧ (P_X7_renew (36 + 2 * v1.toNat) v2 v3 s (fun _ s8 => Q v3 s8)))) ∧ (¬ 0 ≤ v3 → (∀ s10 : Sto, s10 = S_X11_found 5 s → Q (F_X11_found 5 s) s10)))) ∧ (¬ v3 ≤ 60 → Q ((-2)) s))))))
set_option maxRecDepth 100000 in
theorem C_X11_sheet {v1 : Int} {v2 : Int} {v3 : Int} {s : Sto} {Q : Int → Sto → Prop}  (h : P_X11_sheet v1 v2 v3 s Q) : sr_C yX11_sheet cX11_sheet 4 (some .int) 2 [vR 0, vI v1, vI v2, vI v3] s Q := by
  refine sr_C.of (by decide +kernel) (Nat.le_of_ble_eq_true rfl) ?_
  show sr_G RX11 cX11_sheet 4 (some .int) 2 0 [(0, vR 0), (1, vI v1), (2, vI v2), (3, vI v3)] [] s Q
  unfold P_X11_sheet at h
  refine g_iload_n (pc' := 1) dX11_sheet_0 rfl rfl ?_
  refine g_iconst (pc' := 2) (by unfold r32; decide) dX11_sheet_1 rfl ?_
  refine g_iconst (pc' := 3) (by unfold r32; decide) dX11_sheet_2 rfl ?_
  refine g_S3z (pc' := 6) dX11_sheet_3 rfl ms_RX11_102 (by decide) (Nat.le_of_ble_eq_true rfl) C_X11_within (sr_purb (fun hb1 => ?_))
  refine g_if_eq (pc' := 9) (tgt := 24) dX11_sheet_6 rfl rfl (fun c2 => ?_) (fun c2 => ?_)
  · have h := h.1 c2
    refine g_bipush (pc' := 26) ⟨by unfold r32; decide, rfl⟩ dX11_sheet_24 rfl ?_
    exact g_iret dX11_sheet_26 rfl h
  · have h := h.2 c2
    refine g_iload_n (pc' := 10) dX11_sheet_9 rfl rfl ?_
    refine g_iconst (pc' := 11) (by unfold r32; decide) dX11_sheet_10 rfl ?_
    refine g_iconst (pc' := 12) (by unfold r32; decide) dX11_sheet_11 rfl ?_
    refine g_S3z (pc' := 15) dX11_sheet_12 rfl ms_RX11_102 (by decide) (Nat.le_of_ble_eq_true rfl) C_X11_within (sr_purb (fun hb3 => ?_))
    refine g_if_eq (pc' := 18) (tgt := 24) dX11_sheet_15 rfl rfl (fun c4 => ?_) (fun c4 => ?_)
    · have h := h.1 c4
      refine g_bipush (pc' := 26) ⟨by unfold r32; decide, rfl⟩ dX11_sheet_24 rfl ?_
      exact g_iret dX11_sheet_26 rfl h
    · have h := h.2 c4
      refine g_iload_n (pc' := 19) dX11_sheet_18 rfl rfl ?_
      refine g_bipush (pc' := 21) ⟨by unfold r32; decide, rfl⟩ dX11_sheet_19 rfl ?_
      refine g_ic_le (pc' := 24) (tgt := 27) dX11_sheet_21 rfl rfl (fun c5 => ?_) (fun c5 => ?_)
      · have h := h.1 c5
        refine g_iload_n (pc' := 28) dX11_sheet_27 rfl rfl ?_
        refine g_if_ge (pc' := 31) (tgt := 37) dX11_sheet_28 rfl rfl (fun c6 => ?_) (fun c6 => ?_)
        · have h := h.1 c6
          refine g_aload_n (pc' := 38) dX11_sheet_37 rfl rfl ?_
          refine g_getR (pc' := 41) (r := 29) dX11_sheet_38 rfl fl_RX11_58 kd_0 rfl rf_0_10 ?_
          refine g_iload_n (pc' := 42) dX11_sheet_41 rfl rfl ?_
          obtain ⟨ob7, h⟩ := h
          refine g_aald (pc' := 43) (r := 36 + 2 * v1.toNat) dX11_sheet_42 rfl (Or.inr rfl) ob7 (ra_29 ob7).1 ?_
          refine g_iload_n (pc' := 44) dX11_sheet_43 rfl rfl ?_
          refine g_iload_n (pc' := 45) dX11_sheet_44 rfl rfl ?_
          refine g_V2v (pc' := 48) dX11_sheet_45 rfl mv_RX11_308 (ra_29 ob7).2 (by decide) (Nat.le_of_ble_eq_true rfl) (C_X7_renew (ra_29 ob7).2 h) (fun s8 h => ?_)
          refine g_iload_n (pc' := 49) dX11_sheet_48 rfl rfl ?_
          exact g_iret dX11_sheet_49 rfl h
        · have h := h.2 c6
          refine g_aload_n (pc' := 32) dX11_sheet_31 rfl rfl ?_
          refine g_iconst (pc' := 33) (by unfold r32; decide) dX11_sheet_32 rfl ?_
          refine g_V1i (pc' := 36) dX11_sheet_33 rfl mv_RX11_173 kd_0 (by decide) (Nat.le_of_ble_eq_true rfl) C_X11_found (sr_pur ?_)
          refine g_sto (fun s10 es10 => ?_)
          have h := h s10 es10
          exact g_iret dX11_sheet_36 rfl h
      · have h := h.2 c5
        refine g_bipush (pc' := 26) ⟨by unfold r32; decide, rfl⟩ dX11_sheet_24 rfl ?_
        exact g_iret dX11_sheet_26 rfl h
def P_X11_lose (v1 : Int) (s : Sto) (Q : Int → Sto → Prop) : Prop := ((F_X11_within v1 0 3 s = 0 → Q ((-2)) s) ∧ (¬ F_X11_within v1 0 3 s = 0 → (inb v1 4 ∧ ((F_X7_isLost (36 + 2 * v1.toNat) s = 0 → (inb v1 4 ∧ (∀ x7 : Int, x7 = s (36 + 2 * v1.toNat) 1 → (inb v1 4 ∧ (P_X7_renew (36 + 2 * v1.toNat) ((-1)) 0 s (fun _ s9 => Q x7 s9)))))) ∧ (¬ F_X7_isLost (36 + 2 * v1.toNat) s = 0 → (∀ s11 : Sto, s11 = S_X11_found 1 s → Q (F_X11_found 1 s) s11))))))
set_option maxRecDepth 100000 in
theorem C_X11_lose {v1 : Int} {s : Sto} {Q : Int → Sto → Prop}  (h : P_X11_lose v1 s Q) : sr_C yX11_lose cX11_lose 3 (some .int) 2 [vR 0, vI v1] s Q := by
  refine sr_C.of (by decide +kernel) (Nat.le_of_ble_eq_true rfl) ?_
  show sr_G RX11 cX11_lose 3 (some .int) 2 0 [(0, vR 0), (1, vI v1)] [] s Q
  unfold P_X11_lose at h
  refine g_iload_n (pc' := 1) dX11_lose_0 rfl rfl ?_
  refine g_iconst (pc' := 2) (by unfold r32; decide) dX11_lose_1 rfl ?_
  refine g_iconst (pc' := 3) (by unfold r32; decide) dX11_lose_2 rfl ?_
  refine g_S3z (pc' := 6) dX11_lose_3 rfl ms_RX11_102 (by decide) (Nat.le_of_ble_eq_true rfl) C_X11_within (sr_purb (fun hb1 => ?_))
  refine g_if_ne (pc' := 9) (tgt := 12) dX11_lose_6 rfl rfl (fun c2 => ?_) (fun c2 => ?_)
  · have h := h.2 c2
    refine g_aload_n (pc' := 13) dX11_lose_12 rfl rfl ?_
    refine g_getR (pc' := 16) (r := 29) dX11_lose_13 rfl fl_RX11_58 kd_0 rfl rf_0_10 ?_
    refine g_iload_n (pc' := 17) dX11_lose_16 rfl rfl ?_
    obtain ⟨ob3, h⟩ := h
    refine g_aald (pc' := 18) (r := 36 + 2 * v1.toNat) dX11_lose_17 rfl (Or.inr rfl) ob3 (ra_29 ob3).1 ?_
    refine g_V0z (pc' := 21) dX11_lose_18 rfl mv_RX11_169 (ra_29 ob3).2 (by decide) (Nat.le_of_ble_eq_true rfl) (C_X7_isLost (ra_29 ob3).2) (sr_purb (fun hb4 => ?_))
    refine g_if_eq (pc' := 24) (tgt := 30) dX11_lose_21 rfl rfl (fun c5 => ?_) (fun c5 => ?_)
    · have h := h.1 c5
      refine g_aload_n (pc' := 31) dX11_lose_30 rfl rfl ?_
      refine g_getR (pc' := 34) (r := 29) dX11_lose_31 rfl fl_RX11_58 kd_0 rfl rf_0_10 ?_
      refine g_iload_n (pc' := 35) dX11_lose_34 rfl rfl ?_
      obtain ⟨ob6, h⟩ := h
      refine g_aald (pc' := 36) (r := 36 + 2 * v1.toNat) dX11_lose_35 rfl (Or.inr rfl) ob6 (ra_29 ob6).1 ?_
      refine g_getI (pc' := 39) dX11_lose_36 rfl fl_RX11_177 (ra_29 ob6).2 (Or.inl rfl) ?_
      refine g_topI (fun x7 ex7 => ?_)
      have h := h x7 ex7
      refine g_istore_n (pc' := 40) dX11_lose_39 rfl (by decide) ?_
      refine g_aload_n (pc' := 41) dX11_lose_40 rfl rfl ?_
      refine g_getR (pc' := 44) (r := 29) dX11_lose_41 rfl fl_RX11_58 kd_0 rfl rf_0_10 ?_
      refine g_iload_n (pc' := 45) dX11_lose_44 rfl rfl ?_
      obtain ⟨ob8, h⟩ := h
      refine g_aald (pc' := 46) (r := 36 + 2 * v1.toNat) dX11_lose_45 rfl (Or.inr rfl) ob8 (ra_29 ob8).1 ?_
      refine g_iconst (pc' := 47) (by unfold r32; decide) dX11_lose_46 rfl ?_
      refine g_iconst (pc' := 48) (by unfold r32; decide) dX11_lose_47 rfl ?_
      refine g_V2v (pc' := 51) dX11_lose_48 rfl mv_RX11_308 (ra_29 ob8).2 (by decide) (Nat.le_of_ble_eq_true rfl) (C_X7_renew (ra_29 ob8).2 h) (fun s9 h => ?_)
      refine g_iload_n (pc' := 52) dX11_lose_51 rfl rfl ?_
      exact g_iret dX11_lose_52 rfl h
    · have h := h.2 c5
      refine g_aload_n (pc' := 25) dX11_lose_24 rfl rfl ?_
      refine g_iconst (pc' := 26) (by unfold r32; decide) dX11_lose_25 rfl ?_
      refine g_V1i (pc' := 29) dX11_lose_26 rfl mv_RX11_173 kd_0 (by decide) (Nat.le_of_ble_eq_true rfl) C_X11_found (sr_pur ?_)
      refine g_sto (fun s11 es11 => ?_)
      have h := h s11 es11
      exact g_iret dX11_lose_29 rfl h
  · have h := h.1 c2
    refine g_bipush (pc' := 11) ⟨by unfold r32; decide, rfl⟩ dX11_lose_9 rfl ?_
    exact g_iret dX11_lose_11 rfl h
def F_X11_lay (v1 : Int) (v2 : Int) (v3 : Int) (v4 : Int) (s : Sto) : Int := (if F_X11_within v1 0 3 s = 0 then (-2) else (if F_X11_within v2 0 2 s = 0 then (-2) else (if F_X7_trouble (36 + 2 * v1.toNat) v2 v3 s = 0 then 1 else F_X11_found (F_X7_trouble (36 + 2 * v1.toNat) v2 v3 s) s)))
def S_X11_lay (v1 : Int) (v2 : Int) (v3 : Int) (v4 : Int) (s : Sto) : Sto := (if F_X11_within v1 0 3 s = 0 then s else (if F_X11_within v2 0 2 s = 0 then s else (if F_X7_trouble (36 + 2 * v1.toNat) v2 v3 s = 0 then S_X7_put (36 + 2 * v1.toNat) v3 v4 s else S_X11_found (F_X7_trouble (36 + 2 * v1.toNat) v2 v3 s) s)))
def O_X11_lay (v1 : Int) (v2 : Int) (v3 : Int) (v4 : Int) (s : Sto) : Prop := ((F_X11_within v1 0 3 s = 0 → True) ∧ (¬ F_X11_within v1 0 3 s = 0 → ((F_X11_within v2 0 2 s = 0 → True) ∧ (¬ F_X11_within v2 0 2 s = 0 → (inb v1 4 ∧ ((F_X7_trouble (36 + 2 * v1.toNat) v2 v3 s = 0 → (inb v1 4 ∧ (O_X7_put (36 + 2 * v1.toNat) v3 v4 s ∧ True))) ∧ (¬ F_X7_trouble (36 + 2 * v1.toNat) v2 v3 s = 0 → True)))))))
set_option maxRecDepth 100000 in
theorem C_X11_lay {v1 : Int} {v2 : Int} {v3 : Int} {v4 : Int} {s : Sto}  (h : O_X11_lay v1 v2 v3 v4 s) : sr_C yX11_lay cX11_lay 6 (some .int) 2 [vR 0, vI v1, vI v2, vI v3, vI v4] s (fun r s' => r = F_X11_lay v1 v2 v3 v4 s ∧ s' = S_X11_lay v1 v2 v3 v4 s) := by
  refine sr_C.of (by decide +kernel) (Nat.le_of_ble_eq_true rfl) ?_
  show sr_G RX11 cX11_lay 6 (some .int) 2 0 [(0, vR 0), (1, vI v1), (2, vI v2), (3, vI v3), (4, vI v4)] [] s (fun r s' => r = F_X11_lay v1 v2 v3 v4 s ∧ s' = S_X11_lay v1 v2 v3 v4 s)
  unfold O_X11_lay at h
  refine g_iload_n (pc' := 1) dX11_lay_0 rfl rfl ?_
  refine g_iconst (pc' := 2) (by unfold r32; decide) dX11_lay_1 rfl ?_
  refine g_iconst (pc' := 3) (by unfold r32; decide) dX11_lay_2 rfl ?_
  refine g_S3z (pc' := 6) dX11_lay_3 rfl ms_RX11_102 (by decide) (Nat.le_of_ble_eq_true rfl) C_X11_within (sr_purb (fun hb1 => ?_))
  refine g_if_eq (pc' := 9) (tgt := 18) dX11_lay_6 rfl rfl (fun c2 => ?_) (fun c2 => ?_)
  · have h := h.1 c2
    refine g_bipush (pc' := 20) ⟨by unfold r32; decide, rfl⟩ dX11_lay_18 rfl ?_
    exact g_iret dX11_lay_20 rfl ⟨(by simp only [F_X11_lay, if_pos c2]), (by simp only [S_X11_lay, if_pos c2])⟩
  · have h := h.2 c2
    refine g_iload_n (pc' := 10) dX11_lay_9 rfl rfl ?_
    refine g_iconst (pc' := 11) (by unfold r32; decide) dX11_lay_10 rfl ?_
    refine g_iconst (pc' := 12) (by unfold r32; decide) dX11_lay_11 rfl ?_
    refine g_S3z (pc' := 15) dX11_lay_12 rfl ms_RX11_102 (by decide) (Nat.le_of_ble_eq_true rfl) C_X11_within (sr_purb (fun hb3 => ?_))
    refine g_if_ne (pc' := 18) (tgt := 21) dX11_lay_15 rfl rfl (fun c4 => ?_) (fun c4 => ?_)
    · have h := h.2 c4
      refine g_aload_n (pc' := 22) dX11_lay_21 rfl rfl ?_
      refine g_getR (pc' := 25) (r := 29) dX11_lay_22 rfl fl_RX11_58 kd_0 rfl rf_0_10 ?_
      refine g_iload_n (pc' := 26) dX11_lay_25 rfl rfl ?_
      obtain ⟨ob5, h⟩ := h
      refine g_aald (pc' := 27) (r := 36 + 2 * v1.toNat) dX11_lay_26 rfl (Or.inr rfl) ob5 (ra_29 ob5).1 ?_
      refine g_iload_n (pc' := 28) dX11_lay_27 rfl rfl ?_
      refine g_iload_n (pc' := 29) dX11_lay_28 rfl rfl ?_
      refine g_V2i (pc' := 32) dX11_lay_29 rfl mv_RX11_311 (ra_29 ob5).2 (by decide) (Nat.le_of_ble_eq_true rfl) (C_X7_trouble (ra_29 ob5).2) (sr_pur ?_)
      refine g_istore (pc' := 34) dX11_lay_32 rfl (by decide) ?_
      refine g_iload (pc' := 36) dX11_lay_34 rfl rfl ?_
      refine g_if_eq (pc' := 39) (tgt := 46) dX11_lay_36 rfl rfl (fun c6 => ?_) (fun c6 => ?_)
      · have h := h.1 c6
        refine g_aload_n (pc' := 47) dX11_lay_46 rfl rfl ?_
        refine g_getR (pc' := 50) (r := 29) dX11_lay_47 rfl fl_RX11_58 kd_0 rfl rf_0_10 ?_
        refine g_iload_n (pc' := 51) dX11_lay_50 rfl rfl ?_
        obtain ⟨ob7, h⟩ := h
        refine g_aald (pc' := 52) (r := 36 + 2 * v1.toNat) dX11_lay_51 rfl (Or.inr rfl) ob7 (ra_29 ob7).1 ?_
        refine g_iload_n (pc' := 53) dX11_lay_52 rfl rfl ?_
        refine g_iload (pc' := 55) dX11_lay_53 rfl rfl ?_
        obtain ⟨ob8, h⟩ := h
        refine g_V2v (pc' := 58) dX11_lay_55 rfl mv_RX11_314 (ra_29 ob7).2 (by decide) (Nat.le_of_ble_eq_true rfl) (C_X7_put (ra_29 ob7).2 ob8) (sr_purv ?_)
        refine g_iconst (pc' := 59) (by unfold r32; decide) dX11_lay_58 rfl ?_
        exact g_iret dX11_lay_59 rfl ⟨(by simp only [F_X11_lay, if_neg c2, if_neg c4, if_pos c6]), (by simp only [S_X11_lay, if_neg c2, if_neg c4, if_pos c6])⟩
      · have h := h.2 c6
        refine g_aload_n (pc' := 40) dX11_lay_39 rfl rfl ?_
        refine g_iload (pc' := 42) dX11_lay_40 rfl rfl ?_
        refine g_V1i (pc' := 45) dX11_lay_42 rfl mv_RX11_173 kd_0 (by decide) (Nat.le_of_ble_eq_true rfl) C_X11_found (sr_pur ?_)
        exact g_iret dX11_lay_45 rfl ⟨(by simp only [F_X11_lay, if_neg c2, if_neg c4, if_neg c6]), (by simp only [S_X11_lay, if_neg c2, if_neg c4, if_neg c6])⟩
    · have h := h.1 c4
      refine g_bipush (pc' := 20) ⟨by unfold r32; decide, rfl⟩ dX11_lay_18 rfl ?_
      exact g_iret dX11_lay_20 rfl ⟨(by simp only [F_X11_lay, if_neg c2, if_pos c4]), (by simp only [S_X11_lay, if_neg c2, if_pos c4])⟩
def F_X11_get (v1 : Int) (v2 : Int) (v3 : Int) (s : Sto) : Int := (if F_X11_within v1 0 3 s = 0 then (-2147483648) else (if F_X11_within v2 0 2 s = 0 then (-2147483648) else (if F_X7_trouble (36 + 2 * v1.toNat) v2 v3 s = 0 then F_X7_item (36 + 2 * v1.toNat) v3 s else (-2147483648))))
def S_X11_get (v1 : Int) (v2 : Int) (v3 : Int) (s : Sto) : Sto := (if F_X11_within v1 0 3 s = 0 then s else (if F_X11_within v2 0 2 s = 0 then s else (if F_X7_trouble (36 + 2 * v1.toNat) v2 v3 s = 0 then s else S_X11_found (F_X7_trouble (36 + 2 * v1.toNat) v2 v3 s) s)))
def O_X11_get (v1 : Int) (v2 : Int) (v3 : Int) (s : Sto) : Prop := ((F_X11_within v1 0 3 s = 0 → True) ∧ (¬ F_X11_within v1 0 3 s = 0 → ((F_X11_within v2 0 2 s = 0 → True) ∧ (¬ F_X11_within v2 0 2 s = 0 → (inb v1 4 ∧ ((F_X7_trouble (36 + 2 * v1.toNat) v2 v3 s = 0 → (inb v1 4 ∧ (O_X7_item (36 + 2 * v1.toNat) v3 s ∧ True))) ∧ (¬ F_X7_trouble (36 + 2 * v1.toNat) v2 v3 s = 0 → True)))))))
set_option maxRecDepth 100000 in
theorem C_X11_get {v1 : Int} {v2 : Int} {v3 : Int} {s : Sto}  (h : O_X11_get v1 v2 v3 s) : sr_C yX11_get cX11_get 5 (some .int) 2 [vR 0, vI v1, vI v2, vI v3] s (fun r s' => r = F_X11_get v1 v2 v3 s ∧ s' = S_X11_get v1 v2 v3 s) := by
  refine sr_C.of (by decide +kernel) (Nat.le_of_ble_eq_true rfl) ?_
  show sr_G RX11 cX11_get 5 (some .int) 2 0 [(0, vR 0), (1, vI v1), (2, vI v2), (3, vI v3)] [] s (fun r s' => r = F_X11_get v1 v2 v3 s ∧ s' = S_X11_get v1 v2 v3 s)
  unfold O_X11_get at h
  refine g_iload_n (pc' := 1) dX11_get_0 rfl rfl ?_
  refine g_iconst (pc' := 2) (by unfold r32; decide) dX11_get_1 rfl ?_
  refine g_iconst (pc' := 3) (by unfold r32; decide) dX11_get_2 rfl ?_
  refine g_S3z (pc' := 6) dX11_get_3 rfl ms_RX11_102 (by decide) (Nat.le_of_ble_eq_true rfl) C_X11_within (sr_purb (fun hb1 => ?_))
  refine g_if_eq (pc' := 9) (tgt := 18) dX11_get_6 rfl rfl (fun c2 => ?_) (fun c2 => ?_)
  · have h := h.1 c2
    refine g_ldcw (pc' := 21) (z := (-2147483648)) (by unfold r32; decide) kc_RX11_317 dX11_get_18 rfl ?_
    exact g_iret dX11_get_21 rfl ⟨(by simp only [F_X11_get, if_pos c2]), (by simp only [S_X11_get, if_pos c2])⟩
  · have h := h.2 c2
    refine g_iload_n (pc' := 10) dX11_get_9 rfl rfl ?_
    refine g_iconst (pc' := 11) (by unfold r32; decide) dX11_get_10 rfl ?_
    refine g_iconst (pc' := 12) (by unfold r32; decide) dX11_get_11 rfl ?_
    refine g_S3z (pc' := 15) dX11_get_12 rfl ms_RX11_102 (by decide) (Nat.le_of_ble_eq_true rfl) C_X11_within (sr_purb (fun hb3 => ?_))
    refine g_if_ne (pc' := 18) (tgt := 22) dX11_get_15 rfl rfl (fun c4 => ?_) (fun c4 => ?_)
    · have h := h.2 c4
      refine g_aload_n (pc' := 23) dX11_get_22 rfl rfl ?_
      refine g_getR (pc' := 26) (r := 29) dX11_get_23 rfl fl_RX11_58 kd_0 rfl rf_0_10 ?_
      refine g_iload_n (pc' := 27) dX11_get_26 rfl rfl ?_
      obtain ⟨ob5, h⟩ := h
      refine g_aald (pc' := 28) (r := 36 + 2 * v1.toNat) dX11_get_27 rfl (Or.inr rfl) ob5 (ra_29 ob5).1 ?_
      refine g_iload_n (pc' := 29) dX11_get_28 rfl rfl ?_
      refine g_iload_n (pc' := 30) dX11_get_29 rfl rfl ?_
      refine g_V2i (pc' := 33) dX11_get_30 rfl mv_RX11_311 (ra_29 ob5).2 (by decide) (Nat.le_of_ble_eq_true rfl) (C_X7_trouble (ra_29 ob5).2) (sr_pur ?_)
      refine g_istore (pc' := 35) dX11_get_33 rfl (by decide) ?_
      refine g_iload (pc' := 37) dX11_get_35 rfl rfl ?_
      refine g_if_eq (pc' := 40) (tgt := 51) dX11_get_37 rfl rfl (fun c6 => ?_) (fun c6 => ?_)
      · have h := h.1 c6
        refine g_aload_n (pc' := 52) dX11_get_51 rfl rfl ?_
        refine g_getR (pc' := 55) (r := 29) dX11_get_52 rfl fl_RX11_58 kd_0 rfl rf_0_10 ?_
        refine g_iload_n (pc' := 56) dX11_get_55 rfl rfl ?_
        obtain ⟨ob7, h⟩ := h
        refine g_aald (pc' := 57) (r := 36 + 2 * v1.toNat) dX11_get_56 rfl (Or.inr rfl) ob7 (ra_29 ob7).1 ?_
        refine g_iload_n (pc' := 58) dX11_get_57 rfl rfl ?_
        obtain ⟨ob8, h⟩ := h
        refine g_V1i (pc' := 61) dX11_get_58 rfl mv_RX11_178 (ra_29 ob7).2 (by decide) (Nat.le_of_ble_eq_true rfl) (C_X7_item (ra_29 ob7).2 ob8) (sr_pur ?_)
        exact g_iret dX11_get_61 rfl ⟨(by simp only [F_X11_get, if_neg c2, if_neg c4, if_pos c6]), (by simp only [S_X11_get, if_neg c2, if_neg c4, if_pos c6])⟩
      · have h := h.2 c6
        refine g_aload_n (pc' := 41) dX11_get_40 rfl rfl ?_
        refine g_iload (pc' := 43) dX11_get_41 rfl rfl ?_
        refine g_V1i (pc' := 46) dX11_get_43 rfl mv_RX11_173 kd_0 (by decide) (Nat.le_of_ble_eq_true rfl) C_X11_found (sr_pur ?_)
        refine g_pop (pc' := 47) dX11_get_46 rfl ?_
        refine g_ldcw (pc' := 50) (z := (-2147483648)) (by unfold r32; decide) kc_RX11_317 dX11_get_47 rfl ?_
        exact g_iret dX11_get_50 rfl ⟨(by simp only [F_X11_get, if_neg c2, if_neg c4, if_neg c6]), (by simp only [S_X11_get, if_neg c2, if_neg c4, if_neg c6])⟩
    · have h := h.1 c4
      refine g_ldcw (pc' := 21) (z := (-2147483648)) (by unfold r32; decide) kc_RX11_317 dX11_get_18 rfl ?_
      exact g_iret dX11_get_21 rfl ⟨(by simp only [F_X11_get, if_neg c2, if_pos c4]), (by simp only [S_X11_get, if_neg c2, if_pos c4])⟩
def P_X11_copy (v1 : Int) (v2 : Int) (v3 : Int) (v4 : Int) (v5 : Int) (s : Sto) (Q : Int → Sto → Prop) : Prop := ((F_X11_within v1 0 3 s = 0 → Q ((-2)) s) ∧ (¬ F_X11_within v1 0 3 s = 0 → ((F_X11_within v3 0 3 s = 0 → Q ((-2)) s) ∧ (¬ F_X11_within v3 0 3 s = 0 → (inb v1 4 ∧ (inb v3 4 ∧ ((F_X7_isLost (36 + 2 * v1.toNat) s = 0 → ((F_X7_isLost (36 + 2 * v3.toNat) s = 0 → ((s (36 + 2 * v1.toNat) 0 = s (36 + 2 * v3.toNat) 0 → ((F_X7_hasRun (36 + 2 * v1.toNat) v2 v5 s = 0 → (∀ s14 : Sto, s14 = S_X11_found 2 s → Q (F_X11_found 2 s) s14)) ∧ (¬ F_X7_hasRun (36 + 2 * v1.toNat) v2 v5 s = 0 → ((F_X7_hasRun (36 + 2 * v3.toNat) v4 v5 s = 0 → (∀ s17 : Sto, s17 = S_X11_found 2 s → Q (F_X11_found 2 s) s17)) ∧ (¬ F_X7_hasRun (36 + 2 * v3.toNat) v4 v5 s = 0 → (0 ≤ v2 ∧ (0 ≤ v4 ∧ (0 ≤ v5 ∧ (v2 + v5 ≤ 60 ∧ (v4 + v5 ≤ 60 ∧ (∀ s23 : Sto, s23 = cpy s (36 + 2 * v1.toNat + 1) v2.toNat (36 + 2 * v3.toNat + 1) v4.toNat v5.toNat → Q 1 s23))))))))))) ∧ (¬ s (36 + 2 * v1.toNat) 0 = s (36 + 2 * v3.toNat) 0 → (∀ s24 : Sto, s24 = S_X11_found 4 s → Q (F_X11_found 4 s) s24)))) ∧ (¬ F_X7_isLost (36 + 2 * v3.toNat) s = 0 → (∀ s25 : Sto, s25 = S_X11_found 1 s → Q (F_X11_found 1 s) s25)))) ∧ (¬ F_X7_isLost (36 + 2 * v1.toNat) s = 0 → (∀ s26 : Sto, s26 = S_X11_found 1 s → Q (F_X11_found 1 s) s26)))))))))
set_option maxRecDepth 100000 in
theorem C_X11_copy {v1 : Int} {v2 : Int} {v3 : Int} {v4 : Int} {v5 : Int} {s : Sto} {Q : Int → Sto → Prop}  (h : P_X11_copy v1 v2 v3 v4 v5 s Q) : sr_C yX11_copy cX11_copy 8 (some .int) 1 [vR 0, vI v1, vI v2, vI v3, vI v4, vI v5] s Q := by
  refine sr_C.of (by decide +kernel) (Nat.le_of_ble_eq_true rfl) ?_
  show sr_G RX11 cX11_copy 8 (some .int) 1 0 [(0, vR 0), (1, vI v1), (2, vI v2), (3, vI v3), (4, vI v4), (5, vI v5)] [] s Q
  unfold P_X11_copy at h
  refine g_iload_n (pc' := 1) dX11_copy_0 rfl rfl ?_
  refine g_iconst (pc' := 2) (by unfold r32; decide) dX11_copy_1 rfl ?_
  refine g_iconst (pc' := 3) (by unfold r32; decide) dX11_copy_2 rfl ?_
  refine g_S3z (pc' := 6) dX11_copy_3 rfl ms_RX11_102 (by decide) (Nat.le_of_ble_eq_true rfl) C_X11_within (sr_purb (fun hb1 => ?_))
  refine g_if_eq (pc' := 9) (tgt := 18) dX11_copy_6 rfl rfl (fun c2 => ?_) (fun c2 => ?_)
  · have h := h.1 c2
    refine g_bipush (pc' := 20) ⟨by unfold r32; decide, rfl⟩ dX11_copy_18 rfl ?_
    exact g_iret dX11_copy_20 rfl h
  · have h := h.2 c2
    refine g_iload_n (pc' := 10) dX11_copy_9 rfl rfl ?_
    refine g_iconst (pc' := 11) (by unfold r32; decide) dX11_copy_10 rfl ?_
    refine g_iconst (pc' := 12) (by unfold r32; decide) dX11_copy_11 rfl ?_
    refine g_S3z (pc' := 15) dX11_copy_12 rfl ms_RX11_102 (by decide) (Nat.le_of_ble_eq_true rfl) C_X11_within (sr_purb (fun hb3 => ?_))
    refine g_if_ne (pc' := 18) (tgt := 21) dX11_copy_15 rfl rfl (fun c4 => ?_) (fun c4 => ?_)
    · have h := h.2 c4
      refine g_aload_n (pc' := 22) dX11_copy_21 rfl rfl ?_
      refine g_getR (pc' := 25) (r := 29) dX11_copy_22 rfl fl_RX11_58 kd_0 rfl rf_0_10 ?_
      refine g_iload_n (pc' := 26) dX11_copy_25 rfl rfl ?_
      obtain ⟨ob5, h⟩ := h
      refine g_aald (pc' := 27) (r := 36 + 2 * v1.toNat) dX11_copy_26 rfl (Or.inr rfl) ob5 (ra_29 ob5).1 ?_
      refine g_astore (pc' := 29) dX11_copy_27 rfl (by decide) ?_
      refine g_aload_n (pc' := 30) dX11_copy_29 rfl rfl ?_
      refine g_getR (pc' := 33) (r := 29) dX11_copy_30 rfl fl_RX11_58 kd_0 rfl rf_0_10 ?_
      refine g_iload_n (pc' := 34) dX11_copy_33 rfl rfl ?_
      obtain ⟨ob6, h⟩ := h
      refine g_aald (pc' := 35) (r := 36 + 2 * v3.toNat) dX11_copy_34 rfl (Or.inr rfl) ob6 (ra_29 ob6).1 ?_
      refine g_astore (pc' := 37) dX11_copy_35 rfl (by decide) ?_
      refine g_aload (pc' := 39) dX11_copy_37 rfl rfl ?_
      refine g_V0z (pc' := 42) dX11_copy_39 rfl mv_RX11_169 (ra_29 ob5).2 (by decide) (Nat.le_of_ble_eq_true rfl) (C_X7_isLost (ra_29 ob5).2) (sr_purb (fun hb7 => ?_))
      refine g_if_ne (pc' := 45) (tgt := 53) dX11_copy_42 rfl rfl (fun c8 => ?_) (fun c8 => ?_)
      · have h := h.2 c8
        refine g_aload_n (pc' := 54) dX11_copy_53 rfl rfl ?_
        refine g_iconst (pc' := 55) (by unfold r32; decide) dX11_copy_54 rfl ?_
        refine g_V1i (pc' := 58) dX11_copy_55 rfl mv_RX11_173 kd_0 (by decide) (Nat.le_of_ble_eq_true rfl) C_X11_found (sr_pur ?_)
        refine g_sto (fun s26 es26 => ?_)
        have h := h s26 es26
        exact g_iret dX11_copy_58 rfl h
      · have h := h.1 c8
        refine g_aload (pc' := 47) dX11_copy_45 rfl rfl ?_
        refine g_V0z (pc' := 50) dX11_copy_47 rfl mv_RX11_169 (ra_29 ob6).2 (by decide) (Nat.le_of_ble_eq_true rfl) (C_X7_isLost (ra_29 ob6).2) (sr_purb (fun hb9 => ?_))
        refine g_if_eq (pc' := 53) (tgt := 59) dX11_copy_50 rfl rfl (fun c10 => ?_) (fun c10 => ?_)
        · have h := h.1 c10
          refine g_aload (pc' := 61) dX11_copy_59 rfl rfl ?_
          refine g_getIN (pc' := 64) dX11_copy_61 rfl fn_RX11_318 (ra_29 ob5).2 (Or.inl rfl) ?_
          refine g_aload (pc' := 66) dX11_copy_64 rfl rfl ?_
          refine g_getIN (pc' := 69) dX11_copy_66 rfl fn_RX11_318 (ra_29 ob6).2 (Or.inl rfl) ?_
          refine g_ic_eq (pc' := 72) (tgt := 78) dX11_copy_69 rfl rfl (fun c11 => ?_) (fun c11 => ?_)
          · have h := h.1 c11
            refine g_aload (pc' := 80) dX11_copy_78 rfl rfl ?_
            refine g_iload_n (pc' := 81) dX11_copy_80 rfl rfl ?_
            refine g_iload (pc' := 83) dX11_copy_81 rfl rfl ?_
            refine g_V2z (pc' := 86) dX11_copy_83 rfl mv_RX11_321 (ra_29 ob5).2 (by decide) (Nat.le_of_ble_eq_true rfl) (C_X7_hasRun (ra_29 ob5).2) (sr_purb (fun hb12 => ?_))
            refine g_if_eq (pc' := 89) (tgt := 101) dX11_copy_86 rfl rfl (fun c13 => ?_) (fun c13 => ?_)
            · have h := h.1 c13
              refine g_aload_n (pc' := 102) dX11_copy_101 rfl rfl ?_
              refine g_iconst (pc' := 103) (by unfold r32; decide) dX11_copy_102 rfl ?_
              refine g_V1i (pc' := 106) dX11_copy_103 rfl mv_RX11_173 kd_0 (by decide) (Nat.le_of_ble_eq_true rfl) C_X11_found (sr_pur ?_)
              refine g_sto (fun s14 es14 => ?_)
              have h := h s14 es14
              exact g_iret dX11_copy_106 rfl h
            · have h := h.2 c13
              refine g_aload (pc' := 91) dX11_copy_89 rfl rfl ?_
              refine g_iload (pc' := 93) dX11_copy_91 rfl rfl ?_
              refine g_iload (pc' := 95) dX11_copy_93 rfl rfl ?_
              refine g_V2z (pc' := 98) dX11_copy_95 rfl mv_RX11_321 (ra_29 ob6).2 (by decide) (Nat.le_of_ble_eq_true rfl) (C_X7_hasRun (ra_29 ob6).2) (sr_purb (fun hb15 => ?_))
              refine g_if_ne (pc' := 101) (tgt := 107) dX11_copy_98 rfl rfl (fun c16 => ?_) (fun c16 => ?_)
              · have h := h.2 c16
                refine g_aload (pc' := 109) dX11_copy_107 rfl rfl ?_
                refine g_getR (pc' := 112) (r := 36 + 2 * v1.toNat + 1) dX11_copy_109 rfl fl_RX11_324 (ra_29 ob5).2 rfl (ly_7_2 (ra_29 ob5).2) ?_
                refine g_iload_n (pc' := 113) dX11_copy_112 rfl rfl ?_
                refine g_aload (pc' := 115) dX11_copy_113 rfl rfl ?_
                refine g_getR (pc' := 118) (r := 36 + 2 * v3.toNat + 1) dX11_copy_115 rfl fl_RX11_324 (ra_29 ob6).2 rfl (ly_7_2 (ra_29 ob6).2) ?_
                refine g_iload (pc' := 120) dX11_copy_118 rfl rfl ?_
                refine g_iload (pc' := 122) dX11_copy_120 rfl rfl ?_
                obtain ⟨ob18, h⟩ := h
                obtain ⟨ob19, h⟩ := h
                obtain ⟨ob20, h⟩ := h
                obtain ⟨ob21, h⟩ := h
                obtain ⟨ob22, h⟩ := h
                refine g_acpy (pc' := 125) dX11_copy_122 rfl ac_RX11_327 ac_n ac_s ac_i (lk_7_2 (ra_29 ob5).2) (lk_7_2 (ra_29 ob6).2) ob18 ob19 ob20 (by rw [la_7_2 (ra_29 ob5).2]; exact ob21) (by rw [la_7_2 (ra_29 ob6).2]; exact ob22) (by decide) (Nat.le_of_ble_eq_true rfl) ?_
                refine g_sto (fun s23 es23 => ?_)
                have h := h s23 es23
                refine g_iconst (pc' := 126) (by unfold r32; decide) dX11_copy_125 rfl ?_
                exact g_iret dX11_copy_126 rfl h
              · have h := h.1 c16
                refine g_aload_n (pc' := 102) dX11_copy_101 rfl rfl ?_
                refine g_iconst (pc' := 103) (by unfold r32; decide) dX11_copy_102 rfl ?_
                refine g_V1i (pc' := 106) dX11_copy_103 rfl mv_RX11_173 kd_0 (by decide) (Nat.le_of_ble_eq_true rfl) C_X11_found (sr_pur ?_)
                refine g_sto (fun s17 es17 => ?_)
                have h := h s17 es17
                exact g_iret dX11_copy_106 rfl h
          · have h := h.2 c11
            refine g_aload_n (pc' := 73) dX11_copy_72 rfl rfl ?_
            refine g_iconst (pc' := 74) (by unfold r32; decide) dX11_copy_73 rfl ?_
            refine g_V1i (pc' := 77) dX11_copy_74 rfl mv_RX11_173 kd_0 (by decide) (Nat.le_of_ble_eq_true rfl) C_X11_found (sr_pur ?_)
            refine g_sto (fun s24 es24 => ?_)
            have h := h s24 es24
            exact g_iret dX11_copy_77 rfl h
        · have h := h.2 c10
          refine g_aload_n (pc' := 54) dX11_copy_53 rfl rfl ?_
          refine g_iconst (pc' := 55) (by unfold r32; decide) dX11_copy_54 rfl ?_
          refine g_V1i (pc' := 58) dX11_copy_55 rfl mv_RX11_173 kd_0 (by decide) (Nat.le_of_ble_eq_true rfl) C_X11_found (sr_pur ?_)
          refine g_sto (fun s25 es25 => ?_)
          have h := h s25 es25
          exact g_iret dX11_copy_58 rfl h
    · have h := h.1 c4
      refine g_bipush (pc' := 20) ⟨by unfold r32; decide, rfl⟩ dX11_copy_18 rfl ?_
      exact g_iret dX11_copy_20 rfl h
def L_X11_write_60 (v1 : Int) (v2 : Int) (v3 : Int) (K94 : Sto → Prop) : Nat → Int → Sto → Prop
  | 0, _, _ => False
  | n + 1, v4, s => ((v3 ≤ v4 → K94 s) ∧ (¬ v3 ≤ v4 → (inb v2 4 ∧ (O_X1_look v4 v1 1 s ∧ (O_X7_put (36 + 2 * v2.toNat) v4 (F_X1_look v4 v1 1 s) s ∧ (∀ s5 : Sto, s5 = S_X7_put (36 + 2 * v2.toNat) v4 (F_X1_look v4 v1 1 s) s → L_X11_write_60 v1 v2 v3 K94 n (w32 (v4 + 1)) s5))))))
set_option maxRecDepth 100000 in
theorem SL_X11_write_60 {v1 : Int} {v2 : Int} {v3 : Int} {K94 : Sto → Prop} {Q : Int → Sto → Prop}  (hK94 : ∀ s, K94 s → sr_G RX11 cX11_write 5 (some .int) 4 94 [(3, vI v3)] [] s Q) : ∀ n v4 s, L_X11_write_60 v1 v2 v3 K94 n v4 s → sr_G RX11 cX11_write 5 (some .int) 4 60 [(0, vR 0), (1, vI v1), (2, vI v2), (3, vI v3), (4, vI v4)] [] s Q := by
  intro n
  induction n with
  | zero => intro v4 s h; exact h.elim
  | succ n ih =>
    intro v4 s h
    unfold L_X11_write_60 at h
    refine g_iload (pc' := 62) dX11_write_60 rfl rfl ?_
    refine g_iload_n (pc' := 63) dX11_write_62 rfl rfl ?_
    refine g_ic_ge (pc' := 66) (tgt := 94) dX11_write_63 rfl rfl (fun c1 => ?_) (fun c1 => ?_)
    · have h := h.1 c1
      exact (hK94 _ h).to ((sb_c rfl sb_n))
    · have h := h.2 c1
      refine g_aload_n (pc' := 67) dX11_write_66 rfl rfl ?_
      refine g_getR (pc' := 70) (r := 29) dX11_write_67 rfl fl_RX11_58 kd_0 rfl rf_0_10 ?_
      refine g_iload_n (pc' := 71) dX11_write_70 rfl rfl ?_
      obtain ⟨ob2, h⟩ := h
      refine g_aald (pc' := 72) (r := 36 + 2 * v2.toNat) dX11_write_71 rfl (Or.inr rfl) ob2 (ra_29 ob2).1 ?_
      refine g_iload (pc' := 74) dX11_write_72 rfl rfl ?_
      refine g_aload_n (pc' := 75) dX11_write_74 rfl rfl ?_
      refine g_getR (pc' := 78) (r := 24) dX11_write_75 rfl fl_RX11_45 kd_0 rfl rf_0_5 ?_
      refine g_iload (pc' := 80) dX11_write_78 rfl rfl ?_
      refine g_iload_n (pc' := 81) dX11_write_80 rfl rfl ?_
      refine g_iconst (pc' := 82) (by unfold r32; decide) dX11_write_81 rfl ?_
      obtain ⟨ob3, h⟩ := h
      refine g_V3i (pc' := 85) dX11_write_82 rfl mv_RX11_184 kd_24 (by decide) (Nat.le_of_ble_eq_true rfl) (C_X1_look ob3) (sr_pur ?_)
      obtain ⟨ob4, h⟩ := h
      refine g_V2v (pc' := 88) dX11_write_85 rfl mv_RX11_314 (ra_29 ob2).2 (by decide) (Nat.le_of_ble_eq_true rfl) (C_X7_put (ra_29 ob2).2 ob4) (sr_purv ?_)
      refine g_sto (fun s5 es5 => ?_)
      have h := h s5 es5
      refine g_iinc (pc' := 91) dX11_write_88 rfl rfl (by decide) ?_
      refine g_goto (pc' := 60) dX11_write_91 rfl ?_
      exact (ih _ _ h).to ((sb_c rfl (sb_c rfl (sb_c rfl (sb_c rfl (sb_c rfl sb_n))))))
def P_X11_write (v1 : Int) (v2 : Int) (s : Sto) (Q : Int → Sto → Prop) : Prop := ((F_X11_isRing v1 s = 0 → Q ((-2)) s) ∧ (¬ F_X11_isRing v1 s = 0 → ((F_X11_within v2 0 3 s = 0 → Q ((-2)) s) ∧ (¬ F_X11_within v2 0 3 s = 0 → (inb v2 4 ∧ ((F_X7_isLost (36 + 2 * v2.toNat) s = 0 → (P_X11_playTold s (fun _ s8 => (inb v2 4 ∧ (∀ x11 : Int, x11 = F_J9_min_7cf53 (s8 (36 + 2 * v2.toNat) 1) 20 s8 → (∃ n13, L_X11_write_60 v1 v2 x11 (fun s12 => Q x11 s12) n13 0 s8)))))) ∧ (¬ F_X7_isLost (36 + 2 * v2.toNat) s = 0 → (∀ s14 : Sto, s14 = S_X11_found 1 s → Q (F_X11_found 1 s) s14))))))))
set_option maxRecDepth 100000 in
theorem C_X11_write {v1 : Int} {v2 : Int} {s : Sto} {Q : Int → Sto → Prop}  (h : P_X11_write v1 v2 s Q) : sr_C yX11_write cX11_write 5 (some .int) 4 [vR 0, vI v1, vI v2] s Q := by
  refine sr_C.of (by decide +kernel) (Nat.le_of_ble_eq_true rfl) ?_
  show sr_G RX11 cX11_write 5 (some .int) 4 0 [(0, vR 0), (1, vI v1), (2, vI v2)] [] s Q
  unfold P_X11_write at h
  refine g_aload_n (pc' := 1) dX11_write_0 rfl rfl ?_
  refine g_iload_n (pc' := 2) dX11_write_1 rfl rfl ?_
  refine g_V1z (pc' := 5) dX11_write_2 rfl mv_RX11_151 kd_0 (by decide) (Nat.le_of_ble_eq_true rfl) C_X11_isRing (sr_purb (fun hb1 => ?_))
  refine g_if_eq (pc' := 8) (tgt := 17) dX11_write_5 rfl rfl (fun c2 => ?_) (fun c2 => ?_)
  · have h := h.1 c2
    refine g_bipush (pc' := 19) ⟨by unfold r32; decide, rfl⟩ dX11_write_17 rfl ?_
    exact g_iret dX11_write_19 rfl h
  · have h := h.2 c2
    refine g_iload_n (pc' := 9) dX11_write_8 rfl rfl ?_
    refine g_iconst (pc' := 10) (by unfold r32; decide) dX11_write_9 rfl ?_
    refine g_iconst (pc' := 11) (by unfold r32; decide) dX11_write_10 rfl ?_
    refine g_S3z (pc' := 14) dX11_write_11 rfl ms_RX11_102 (by decide) (Nat.le_of_ble_eq_true rfl) C_X11_within (sr_purb (fun hb3 => ?_))
    refine g_if_ne (pc' := 17) (tgt := 20) dX11_write_14 rfl rfl (fun c4 => ?_) (fun c4 => ?_)
    · have h := h.2 c4
      refine g_aload_n (pc' := 21) dX11_write_20 rfl rfl ?_
      refine g_getR (pc' := 24) (r := 29) dX11_write_21 rfl fl_RX11_58 kd_0 rfl rf_0_10 ?_
      refine g_iload_n (pc' := 25) dX11_write_24 rfl rfl ?_
      obtain ⟨ob5, h⟩ := h
      refine g_aald (pc' := 26) (r := 36 + 2 * v2.toNat) dX11_write_25 rfl (Or.inr rfl) ob5 (ra_29 ob5).1 ?_
      refine g_V0z (pc' := 29) dX11_write_26 rfl mv_RX11_169 (ra_29 ob5).2 (by decide) (Nat.le_of_ble_eq_true rfl) (C_X7_isLost (ra_29 ob5).2) (sr_purb (fun hb6 => ?_))
      refine g_if_eq (pc' := 32) (tgt := 38) dX11_write_29 rfl rfl (fun c7 => ?_) (fun c7 => ?_)
      · have h := h.1 c7
        refine g_aload_n (pc' := 39) dX11_write_38 rfl rfl ?_
        refine g_V0v (pc' := 42) dX11_write_39 rfl mv_RX11_181 kd_0 (by decide) (Nat.le_of_ble_eq_true rfl) (C_X11_playTold h) (fun s8 h => ?_)
        refine g_aload_n (pc' := 43) dX11_write_42 rfl rfl ?_
        refine g_getR (pc' := 46) (r := 29) dX11_write_43 rfl fl_RX11_58 kd_0 rfl rf_0_10 ?_
        refine g_iload_n (pc' := 47) dX11_write_46 rfl rfl ?_
        obtain ⟨ob10, h⟩ := h
        refine g_aald (pc' := 48) (r := 36 + 2 * v2.toNat) dX11_write_47 rfl (Or.inr rfl) ob10 (ra_29 ob10).1 ?_
        refine g_getI (pc' := 51) dX11_write_48 rfl fl_RX11_177 (ra_29 ob10).2 (Or.inl rfl) ?_
        refine g_bipush (pc' := 53) ⟨by unfold r32; decide, rfl⟩ dX11_write_51 rfl ?_
        refine g_S2i (pc' := 56) dX11_write_53 rfl ms_RX11_333 (by decide) (Nat.le_of_ble_eq_true rfl) C_J9_min_7cf53 (sr_pur ?_)
        refine g_topI (fun x11 ex11 => ?_)
        have h := h x11 ex11
        refine g_istore_n (pc' := 57) dX11_write_56 rfl (by decide) ?_
        refine g_iconst (pc' := 58) (by unfold r32; decide) dX11_write_57 rfl ?_
        refine g_istore (pc' := 60) dX11_write_58 rfl (by decide) ?_
        obtain ⟨n13, h⟩ := h
        refine (SL_X11_write_60  (fun s12 h => ?_) n13 _ _ h).to ((sb_c rfl (sb_c rfl (sb_c rfl (sb_c rfl (sb_c rfl sb_n))))))
        · refine g_iload_n (pc' := 95) dX11_write_94 rfl rfl ?_
          exact g_iret dX11_write_95 rfl h
      · have h := h.2 c7
        refine g_aload_n (pc' := 33) dX11_write_32 rfl rfl ?_
        refine g_iconst (pc' := 34) (by unfold r32; decide) dX11_write_33 rfl ?_
        refine g_V1i (pc' := 37) dX11_write_34 rfl mv_RX11_173 kd_0 (by decide) (Nat.le_of_ble_eq_true rfl) C_X11_found (sr_pur ?_)
        refine g_sto (fun s14 es14 => ?_)
        have h := h s14 es14
        exact g_iret dX11_write_37 rfl h
    · have h := h.1 c4
      refine g_bipush (pc' := 19) ⟨by unfold r32; decide, rfl⟩ dX11_write_17 rfl ?_
      exact g_iret dX11_write_19 rfl h
def P_X11_count (v1 : Int) (s : Sto) (Q : Int → Sto → Prop) : Prop := ((v1 = 0 → Q (s 3 0) s) ∧ (¬ v1 = 0 → ((v1 = 1 → Q (s 6 6) s) ∧ (¬ v1 = 1 → ((v1 = 2 → (inb 0 3 ∧ Q (s (30 + 2 * (0 : Int).toNat) 1) s)) ∧ (¬ v1 = 2 → ((v1 = 3 → (inb 1 3 ∧ Q (s (30 + 2 * (1 : Int).toNat) 1) s)) ∧ (¬ v1 = 3 → ((v1 = 4 → (inb 2 3 ∧ Q (s (30 + 2 * (2 : Int).toNat) 1) s)) ∧ (¬ v1 = 4 → ((v1 = 5 → Q (s 6 0) s) ∧ (¬ v1 = 5 → ((v1 = 6 → (P_X11_playTold s (fun _ s11 => Q (s11 16 8) s11))) ∧ (¬ v1 = 6 → ((v1 = 7 → Q (s 26 2) s) ∧ (¬ v1 = 7 → ((v1 = 8 → Q (s 0 11) s) ∧ (¬ v1 = 8 → Q ((-2)) s))))))))))))))))))
set_option maxRecDepth 100000 in
theorem C_X11_count {v1 : Int} {s : Sto} {Q : Int → Sto → Prop}  (h : P_X11_count v1 s Q) : sr_C yX11_count cX11_count 2 (some .int) 4 [vR 0, vI v1] s Q := by
  refine sr_C.of (by decide +kernel) (Nat.le_of_ble_eq_true rfl) ?_
  show sr_G RX11 cX11_count 2 (some .int) 4 0 [(0, vR 0), (1, vI v1)] [] s Q
  unfold P_X11_count at h
  refine g_iload_n (pc' := 1) dX11_count_0 rfl rfl ?_
  by_cases c1 : v1 = 0
  · have h := h.1 c1
    refine g_tabIn (pc' := 52) dX11_count_1 (le_of_le_of_eq (by decide) c1.symm) (le_of_eq_of_le c1 (by decide)) (by rw [c1]; rfl) rfl ?_
    refine g_aload_n (pc' := 53) dX11_count_52 rfl rfl ?_
    refine g_getR (pc' := 56) (r := 3) dX11_count_53 rfl fl_RX11_22 kd_0 rfl rf_0_2 ?_
    refine g_getI (pc' := 59) dX11_count_56 rfl fl_RX11_116 kd_3 (Or.inl rfl) ?_
    exact g_iret dX11_count_59 rfl h
  · have h := h.2 c1
    by_cases c2 : v1 = 1
    · have h := h.1 c2
      refine g_tabIn (pc' := 60) dX11_count_1 (le_of_le_of_eq (by decide) c2.symm) (le_of_eq_of_le c2 (by decide)) (by rw [c2]; rfl) rfl ?_
      refine g_aload_n (pc' := 61) dX11_count_60 rfl rfl ?_
      refine g_getR (pc' := 64) (r := 6) dX11_count_61 rfl fl_RX11_29 kd_0 rfl rf_0_3 ?_
      refine g_getI (pc' := 67) dX11_count_64 rfl fl_RX11_218 kd_6 (Or.inl rfl) ?_
      exact g_iret dX11_count_67 rfl h
    · have h := h.2 c2
      by_cases c3 : v1 = 2
      · have h := h.1 c3
        refine g_tabIn (pc' := 68) dX11_count_1 (le_of_le_of_eq (by decide) c3.symm) (le_of_eq_of_le c3 (by decide)) (by rw [c3]; rfl) rfl ?_
        refine g_aload_n (pc' := 69) dX11_count_68 rfl rfl ?_
        refine g_getR (pc' := 72) (r := 1) dX11_count_69 rfl fl_RX11_11 kd_0 rfl rf_0_0 ?_
        refine g_iconst (pc' := 73) (by unfold r32; decide) dX11_count_72 rfl ?_
        obtain ⟨ob4, h⟩ := h
        refine g_aald (pc' := 74) (r := 30 + 2 * (0 : Int).toNat) dX11_count_73 rfl (Or.inl rfl) ob4 (ra_1 ob4).1 ?_
        refine g_getI (pc' := 77) dX11_count_74 rfl fl_RX11_113 (ra_1 ob4).2 (Or.inl rfl) ?_
        exact g_iret dX11_count_77 rfl h
      · have h := h.2 c3
        by_cases c5 : v1 = 3
        · have h := h.1 c5
          refine g_tabIn (pc' := 78) dX11_count_1 (le_of_le_of_eq (by decide) c5.symm) (le_of_eq_of_le c5 (by decide)) (by rw [c5]; rfl) rfl ?_
          refine g_aload_n (pc' := 79) dX11_count_78 rfl rfl ?_
          refine g_getR (pc' := 82) (r := 1) dX11_count_79 rfl fl_RX11_11 kd_0 rfl rf_0_0 ?_
          refine g_iconst (pc' := 83) (by unfold r32; decide) dX11_count_82 rfl ?_
          obtain ⟨ob6, h⟩ := h
          refine g_aald (pc' := 84) (r := 30 + 2 * (1 : Int).toNat) dX11_count_83 rfl (Or.inl rfl) ob6 (ra_1 ob6).1 ?_
          refine g_getI (pc' := 87) dX11_count_84 rfl fl_RX11_113 (ra_1 ob6).2 (Or.inl rfl) ?_
          exact g_iret dX11_count_87 rfl h
        · have h := h.2 c5
          by_cases c7 : v1 = 4
          · have h := h.1 c7
            refine g_tabIn (pc' := 88) dX11_count_1 (le_of_le_of_eq (by decide) c7.symm) (le_of_eq_of_le c7 (by decide)) (by rw [c7]; rfl) rfl ?_
            refine g_aload_n (pc' := 89) dX11_count_88 rfl rfl ?_
            refine g_getR (pc' := 92) (r := 1) dX11_count_89 rfl fl_RX11_11 kd_0 rfl rf_0_0 ?_
            refine g_iconst (pc' := 93) (by unfold r32; decide) dX11_count_92 rfl ?_
            obtain ⟨ob8, h⟩ := h
            refine g_aald (pc' := 94) (r := 30 + 2 * (2 : Int).toNat) dX11_count_93 rfl (Or.inl rfl) ob8 (ra_1 ob8).1 ?_
            refine g_getI (pc' := 97) dX11_count_94 rfl fl_RX11_113 (ra_1 ob8).2 (Or.inl rfl) ?_
            exact g_iret dX11_count_97 rfl h
          · have h := h.2 c7
            by_cases c9 : v1 = 5
            · have h := h.1 c9
              refine g_tabIn (pc' := 98) dX11_count_1 (le_of_le_of_eq (by decide) c9.symm) (le_of_eq_of_le c9 (by decide)) (by rw [c9]; rfl) rfl ?_
              refine g_aload_n (pc' := 99) dX11_count_98 rfl rfl ?_
              refine g_getR (pc' := 102) (r := 6) dX11_count_99 rfl fl_RX11_29 kd_0 rfl rf_0_3 ?_
              refine g_getI (pc' := 105) dX11_count_102 rfl fl_RX11_144 kd_6 (Or.inl rfl) ?_
              exact g_iret dX11_count_105 rfl h
            · have h := h.2 c9
              by_cases c10 : v1 = 6
              · have h := h.1 c10
                refine g_tabIn (pc' := 106) dX11_count_1 (le_of_le_of_eq (by decide) c10.symm) (le_of_eq_of_le c10 (by decide)) (by rw [c10]; rfl) rfl ?_
                refine g_aload_n (pc' := 107) dX11_count_106 rfl rfl ?_
                refine g_V0v (pc' := 110) dX11_count_107 rfl mv_RX11_181 kd_0 (by decide) (Nat.le_of_ble_eq_true rfl) (C_X11_playTold h) (fun s11 h => ?_)
                refine g_aload_n (pc' := 111) dX11_count_110 rfl rfl ?_
                refine g_getR (pc' := 114) (r := 16) dX11_count_111 rfl fl_RX11_38 kd_0 rfl rf_0_4 ?_
                refine g_getI (pc' := 117) dX11_count_114 rfl fl_RX11_338 kd_16 (Or.inl rfl) ?_
                exact g_iret dX11_count_117 rfl h
              · have h := h.2 c10
                by_cases c13 : v1 = 7
                · have h := h.1 c13
                  refine g_tabIn (pc' := 118) dX11_count_1 (le_of_le_of_eq (by decide) c13.symm) (le_of_eq_of_le c13 (by decide)) (by rw [c13]; rfl) rfl ?_
                  refine g_aload_n (pc' := 119) dX11_count_118 rfl rfl ?_
                  refine g_getR (pc' := 122) (r := 26) dX11_count_119 rfl fl_RX11_52 kd_0 rfl rf_0_6 ?_
                  refine g_getI (pc' := 125) dX11_count_122 rfl fl_RX11_269 kd_26 (Or.inl rfl) ?_
                  exact g_iret dX11_count_125 rfl h
                · have h := h.2 c13
                  by_cases c14 : v1 = 8
                  · have h := h.1 c14
                    refine g_tabIn (pc' := 126) dX11_count_1 (le_of_le_of_eq (by decide) c14.symm) (le_of_eq_of_le c14 (by decide)) (by rw [c14]; rfl) rfl ?_
                    refine g_aload_n (pc' := 127) dX11_count_126 rfl rfl ?_
                    refine g_getI (pc' := 130) dX11_count_127 rfl fl_RX11_62 kd_0 (Or.inl rfl) ?_
                    exact g_iret dX11_count_130 rfl h
                  · have h := h.2 c14
                    refine g_tabOut (pc' := 131) dX11_count_1 (tout_0_8 c1 c2 c3 c5 c7 c9 c10 c13 c14) rfl ?_
                    refine g_bipush (pc' := 133) ⟨by unfold r32; decide, rfl⟩ dX11_count_131 rfl ?_
                    exact g_iret dX11_count_133 rfl h
def F_X11_mixed (v0 : Int) (v2 : Int) (s : Sto) : Int := w64 ((w64 (31 * v0)) + v2)
set_option maxRecDepth 100000 in
theorem C_X11_mixed {v0 : Int} {v2 : Int} {s : Sto}   : sr_C yX11_mixed cX11_mixed 4 (some .long) 0 [vL v0, vL v2] s (fun r s' => r = F_X11_mixed v0 v2 s ∧ s' = s) := by
  refine sr_C.of (by decide +kernel) (Nat.le_of_ble_eq_true rfl) ?_
  show sr_G RX11 cX11_mixed 4 (some .long) 0 0 [(0, vL v0), (2, vL v2)] [] s (fun r s' => r = F_X11_mixed v0 v2 s ∧ s' = s)
  refine g_ldc2 (pc' := 3) (z := 31) (by unfold r64; decide) kc_RX11_387 dX11_mixed_0 rfl ?_
  refine g_lload_n (pc' := 4) dX11_mixed_3 rfl rfl ?_
  refine g_lmul (pc' := 5) dX11_mixed_4 rfl ?_
  refine g_lload_n (pc' := 6) dX11_mixed_5 rfl rfl ?_
  refine g_ladd (pc' := 7) dX11_mixed_6 rfl ?_
  exact g_lret dX11_mixed_7 rfl ⟨rfl, rfl⟩
def L_X11_digestRing_6 (v3 : Int) (s : Sto) (K33 : Int → Prop) : Nat → Int → Int → Prop
  | 0, _, _ => False
  | n + 1, v4, v6 => ((5 ≤ v6 → K33 v4) ∧ (¬ 5 ≤ v6 → (O_X11_ring v3 v6 s ∧ (∀ x3 : Int, x3 = F_X11_mixed v4 (F_X11_ring v3 v6 s) s → L_X11_digestRing_6 v3 s K33 n x3 (w32 (v6 + 1))))))
set_option maxRecDepth 100000 in
theorem SL_X11_digestRing_6 {v3 : Int} {s : Sto} {K33 : Int → Prop} {Q : Int → Sto → Prop}  (hK33 : ∀ v4, K33 v4 → sr_G RX11 cX11_digestRing 8 (some .long) 6 33 [(0, vR 0), (3, vI v3), (4, vL v4)] [] s Q) : ∀ n v4 v6, L_X11_digestRing_6 v3 s K33 n v4 v6 → sr_G RX11 cX11_digestRing 8 (some .long) 6 6 [(0, vR 0), (3, vI v3), (4, vL v4), (6, vI v6)] [] s Q := by
  intro n
  induction n with
  | zero => intro v4 v6 h; exact h.elim
  | succ n ih =>
    intro v4 v6 h
    unfold L_X11_digestRing_6 at h
    refine g_iload (pc' := 8) dX11_digestRing_6 rfl rfl ?_
    refine g_iconst (pc' := 9) (by unfold r32; decide) dX11_digestRing_8 rfl ?_
    refine g_ic_ge (pc' := 12) (tgt := 33) dX11_digestRing_9 rfl rfl (fun c1 => ?_) (fun c1 => ?_)
    · have h := h.1 c1
      exact (hK33 _ h).to ((sb_c rfl (sb_c rfl (sb_c rfl sb_n))))
    · have h := h.2 c1
      refine g_lload (pc' := 14) dX11_digestRing_12 rfl rfl ?_
      refine g_aload_n (pc' := 15) dX11_digestRing_14 rfl rfl ?_
      refine g_iload_n (pc' := 16) dX11_digestRing_15 rfl rfl ?_
      refine g_iload (pc' := 18) dX11_digestRing_16 rfl rfl ?_
      obtain ⟨ob2, h⟩ := h
      refine g_V2i (pc' := 21) dX11_digestRing_18 rfl mv_RX11_367 kd_0 (by decide) (Nat.le_of_ble_eq_true rfl) (C_X11_ring ob2) (sr_pur ?_)
      refine g_i2l (pc' := 22) dX11_digestRing_21 rfl ?_
      refine g_S2l (pc' := 25) dX11_digestRing_22 rfl ms_RX11_346 (by decide) (Nat.le_of_ble_eq_true rfl) C_X11_mixed (sr_pur ?_)
      refine g_topL (fun x3 ex3 => ?_)
      have h := h x3 ex3
      refine g_lstore (pc' := 27) dX11_digestRing_25 rfl (by decide) ?_
      refine g_iinc (pc' := 30) dX11_digestRing_27 rfl rfl (by decide) ?_
      refine g_goto (pc' := 6) dX11_digestRing_30 rfl ?_
      exact (ih _ _ h).to ((sb_c rfl (sb_c rfl (sb_c rfl (sb_c rfl sb_n)))))
def L_X11_digestRing_48 (v3 : Int) (v6 : Int) (s : Sto) (K84 : Int → Prop) : Nat → Int → Int → Prop
  | 0, _, _ => False
  | n + 1, v4, v7 => ((4 ≤ v7 → K84 v4) ∧ (¬ 4 ≤ v7 → (inb v6 4 ∧ (O_X1_look (sr_ds v6.toNat) v3 v7 s ∧ (∀ x4 : Int, x4 = F_X11_mixed v4 (F_X1_look (sr_ds v6.toNat) v3 v7 s) s → L_X11_digestRing_48 v3 v6 s K84 n x4 (w32 (v7 + 1)))))))
set_option maxRecDepth 100000 in
theorem SL_X11_digestRing_48 {v3 : Int} {v6 : Int} {s : Sto} {K84 : Int → Prop} {Q : Int → Sto → Prop}  (hK84 : ∀ v4, K84 v4 → sr_G RX11 cX11_digestRing 8 (some .long) 6 84 [(0, vR 0), (3, vI v3), (4, vL v4), (6, vI v6)] [] s Q) : ∀ n v4 v7, L_X11_digestRing_48 v3 v6 s K84 n v4 v7 → sr_G RX11 cX11_digestRing 8 (some .long) 6 48 [(0, vR 0), (3, vI v3), (4, vL v4), (6, vI v6), (7, vI v7)] [] s Q := by
  intro n
  induction n with
  | zero => intro v4 v7 h; exact h.elim
  | succ n ih =>
    intro v4 v7 h
    unfold L_X11_digestRing_48 at h
    refine g_iload (pc' := 50) dX11_digestRing_48 rfl rfl ?_
    refine g_iconst (pc' := 51) (by unfold r32; decide) dX11_digestRing_50 rfl ?_
    refine g_ic_ge (pc' := 54) (tgt := 84) dX11_digestRing_51 rfl rfl (fun c1 => ?_) (fun c1 => ?_)
    · have h := h.1 c1
      exact (hK84 _ h).to ((sb_c rfl (sb_c rfl (sb_c rfl (sb_c rfl sb_n)))))
    · have h := h.2 c1
      refine g_lload (pc' := 56) dX11_digestRing_54 rfl rfl ?_
      refine g_aload_n (pc' := 57) dX11_digestRing_56 rfl rfl ?_
      refine g_getR (pc' := 60) (r := 24) dX11_digestRing_57 rfl fl_RX11_45 kd_0 rfl rf_0_5 ?_
      obtain ⟨ob2, h⟩ := h
      refine g_dsi (pc' := 66) dX11_digestRing_60 dX11_digestRing_63 dX11_digestRing_65 rfl ds_370 rfl ob2 ?_
      refine g_iload_n (pc' := 67) dX11_digestRing_66 rfl rfl ?_
      refine g_iload (pc' := 69) dX11_digestRing_67 rfl rfl ?_
      obtain ⟨ob3, h⟩ := h
      refine g_V3i (pc' := 72) dX11_digestRing_69 rfl mv_RX11_184 kd_24 (by decide) (Nat.le_of_ble_eq_true rfl) (C_X1_look ob3) (sr_pur ?_)
      refine g_i2l (pc' := 73) dX11_digestRing_72 rfl ?_
      refine g_S2l (pc' := 76) dX11_digestRing_73 rfl ms_RX11_346 (by decide) (Nat.le_of_ble_eq_true rfl) C_X11_mixed (sr_pur ?_)
      refine g_topL (fun x4 ex4 => ?_)
      have h := h x4 ex4
      refine g_lstore (pc' := 78) dX11_digestRing_76 rfl (by decide) ?_
      refine g_iinc (pc' := 81) dX11_digestRing_78 rfl rfl (by decide) ?_
      refine g_goto (pc' := 48) dX11_digestRing_81 rfl ?_
      exact (ih _ _ h).to ((sb_c rfl (sb_c rfl (sb_c rfl (sb_c rfl (sb_c rfl sb_n))))))
def L_X11_digestRing_36 (v3 : Int) (s : Sto) (K90 : Int → Prop) : Nat → Int → Int → Prop
  | 0, _, _ => False
  | n + 1, v4, v6 => ((4 ≤ v6 → K90 v4) ∧ (¬ 4 ≤ v6 → (∃ n3, L_X11_digestRing_48 v3 v6 s (fun x2 => L_X11_digestRing_36 v3 s K90 n x2 (w32 (v6 + 1))) n3 v4 0)))
set_option maxRecDepth 100000 in
theorem SL_X11_digestRing_36 {v3 : Int} {s : Sto} {K90 : Int → Prop} {Q : Int → Sto → Prop}  (hK90 : ∀ v4, K90 v4 → sr_G RX11 cX11_digestRing 8 (some .long) 6 90 [(0, vR 0), (3, vI v3), (4, vL v4)] [] s Q) : ∀ n v4 v6, L_X11_digestRing_36 v3 s K90 n v4 v6 → sr_G RX11 cX11_digestRing 8 (some .long) 6 36 [(0, vR 0), (3, vI v3), (4, vL v4), (6, vI v6)] [] s Q := by
  intro n
  induction n with
  | zero => intro v4 v6 h; exact h.elim
  | succ n ih =>
    intro v4 v6 h
    unfold L_X11_digestRing_36 at h
    refine g_iload (pc' := 38) dX11_digestRing_36 rfl rfl ?_
    refine g_dsl (pc' := 42) dX11_digestRing_38 dX11_digestRing_41 rfl ds_370 ?_
    refine g_ic_ge (pc' := 45) (tgt := 90) dX11_digestRing_42 rfl rfl (fun c1 => ?_) (fun c1 => ?_)
    · have h := h.1 c1
      exact (hK90 _ h).to ((sb_c rfl (sb_c rfl (sb_c rfl sb_n))))
    · have h := h.2 c1
      refine g_iconst (pc' := 46) (by unfold r32; decide) dX11_digestRing_45 rfl ?_
      refine g_istore (pc' := 48) dX11_digestRing_46 rfl (by decide) ?_
      obtain ⟨n3, h⟩ := h
      refine (SL_X11_digestRing_48  (fun x2 h => ?_) n3 _ _ h).to ((sb_c rfl (sb_c rfl (sb_c rfl (sb_c rfl (sb_c rfl sb_n))))))
      · refine g_iinc (pc' := 87) dX11_digestRing_84 rfl rfl (by decide) ?_
        refine g_goto (pc' := 36) dX11_digestRing_87 rfl ?_
        exact (ih _ _ h).to ((sb_c rfl (sb_c rfl (sb_c rfl (sb_c rfl sb_n)))))
def P_X11_digestRing (v1 : Int) (v3 : Int) (s : Sto) (Q : Int → Sto → Prop) : Prop := (∃ n29, L_X11_digestRing_6 v3 s (fun x1 => (∃ n28, L_X11_digestRing_36 v3 s (fun x2 => (P_X5_seekAim v3 s (fun _ s3 => (∀ x5 : Int, x5 = F_X11_mixed x2 (s3 62 4) s3 → (∀ x6 : Int, x6 = F_X11_mixed x5 (s3 62 5) s3 → (∀ x7 : Int, x7 = F_X11_mixed x6 (s3 62 6) s3 → ((F_X11_isThing 0 s3 = 0 → (∀ x10 : Int, x10 = F_X11_mixed x7 ((-2)) s3 → (P_X3_seekWhence v3 s3 (fun _ s11 => (P_X3_pickWhence ((-1)) s11 (fun r14 s13 => (∀ x15 : Int, x15 = F_X11_mixed x10 r14 s13 → (P_X3_pickWhence 0 s13 (fun r17 s16 => Q (F_X11_mixed x15 r17 s16) s16))))))))) ∧ (¬ F_X11_isThing 0 s3 = 0 → (P_X5_leastBreath v3 0 s3 (fun r19 s18 => (∀ x20 : Int, x20 = F_X11_mixed x7 r19 s18 → (P_X3_seekWhence v3 s18 (fun _ s21 => (P_X3_pickWhence ((-1)) s21 (fun r24 s23 => (∀ x25 : Int, x25 = F_X11_mixed x20 r24 s23 → (P_X3_pickWhence 0 s23 (fun r27 s26 => Q (F_X11_mixed x25 r27 s26) s26)))))))))))))))))) n28 x1 0)) n29 v1 0)
set_option maxRecDepth 100000 in
theorem C_X11_digestRing {v1 : Int} {v3 : Int} {s : Sto} {Q : Int → Sto → Prop}  (h : P_X11_digestRing v1 v3 s Q) : sr_C yX11_digestRing cX11_digestRing 8 (some .long) 6 [vR 0, vL v1, vI v3] s Q := by
  refine sr_C.of (by decide +kernel) (Nat.le_of_ble_eq_true rfl) ?_
  show sr_G RX11 cX11_digestRing 8 (some .long) 6 0 [(0, vR 0), (1, vL v1), (3, vI v3)] [] s Q
  unfold P_X11_digestRing at h
  refine g_lload_n (pc' := 1) dX11_digestRing_0 rfl rfl ?_
  refine g_lstore (pc' := 3) dX11_digestRing_1 rfl (by decide) ?_
  refine g_iconst (pc' := 4) (by unfold r32; decide) dX11_digestRing_3 rfl ?_
  refine g_istore (pc' := 6) dX11_digestRing_4 rfl (by decide) ?_
  obtain ⟨n29, h⟩ := h
  refine (SL_X11_digestRing_6  (fun x1 h => ?_) n29 _ _ h).to ((sb_c rfl (sb_c rfl (sb_c rfl (sb_c rfl sb_n)))))
  · refine g_iconst (pc' := 34) (by unfold r32; decide) dX11_digestRing_33 rfl ?_
    refine g_istore (pc' := 36) dX11_digestRing_34 rfl (by decide) ?_
    obtain ⟨n28, h⟩ := h
    refine (SL_X11_digestRing_36  (fun x2 h => ?_) n28 _ _ h).to ((sb_c rfl (sb_c rfl (sb_c rfl (sb_c rfl sb_n)))))
    · refine g_aload_n (pc' := 91) dX11_digestRing_90 rfl rfl ?_
      refine g_getR (pc' := 94) (r := 62) dX11_digestRing_91 rfl fl_RX11_82 kd_0 rfl rf_0_7 ?_
      refine g_iload_n (pc' := 95) dX11_digestRing_94 rfl rfl ?_
      refine g_V1v (pc' := 98) dX11_digestRing_95 rfl mv_RX11_225 kd_62 (by decide) (Nat.le_of_ble_eq_true rfl) (C_X5_seekAim h) (fun s3 h => ?_)
      refine g_lload (pc' := 100) dX11_digestRing_98 rfl rfl ?_
      refine g_aload_n (pc' := 101) dX11_digestRing_100 rfl rfl ?_
      refine g_getR (pc' := 104) (r := 62) dX11_digestRing_101 rfl fl_RX11_82 kd_0 rfl rf_0_7 ?_
      refine g_getI (pc' := 107) dX11_digestRing_104 rfl fl_RX11_228 kd_62 (Or.inl rfl) ?_
      refine g_i2l (pc' := 108) dX11_digestRing_107 rfl ?_
      refine g_S2l (pc' := 111) dX11_digestRing_108 rfl ms_RX11_346 (by decide) (Nat.le_of_ble_eq_true rfl) C_X11_mixed (sr_pur ?_)
      refine g_topL (fun x5 ex5 => ?_)
      have h := h x5 ex5
      refine g_lstore (pc' := 113) dX11_digestRing_111 rfl (by decide) ?_
      refine g_lload (pc' := 115) dX11_digestRing_113 rfl rfl ?_
      refine g_aload_n (pc' := 116) dX11_digestRing_115 rfl rfl ?_
      refine g_getR (pc' := 119) (r := 62) dX11_digestRing_116 rfl fl_RX11_82 kd_0 rfl rf_0_7 ?_
      refine g_getI (pc' := 122) dX11_digestRing_119 rfl fl_RX11_231 kd_62 (Or.inl rfl) ?_
      refine g_i2l (pc' := 123) dX11_digestRing_122 rfl ?_
      refine g_S2l (pc' := 126) dX11_digestRing_123 rfl ms_RX11_346 (by decide) (Nat.le_of_ble_eq_true rfl) C_X11_mixed (sr_pur ?_)
      refine g_topL (fun x6 ex6 => ?_)
      have h := h x6 ex6
      refine g_lstore (pc' := 128) dX11_digestRing_126 rfl (by decide) ?_
      refine g_lload (pc' := 130) dX11_digestRing_128 rfl rfl ?_
      refine g_aload_n (pc' := 131) dX11_digestRing_130 rfl rfl ?_
      refine g_getR (pc' := 134) (r := 62) dX11_digestRing_131 rfl fl_RX11_82 kd_0 rfl rf_0_7 ?_
      refine g_getI (pc' := 137) dX11_digestRing_134 rfl fl_RX11_234 kd_62 (Or.inl rfl) ?_
      refine g_i2l (pc' := 138) dX11_digestRing_137 rfl ?_
      refine g_S2l (pc' := 141) dX11_digestRing_138 rfl ms_RX11_346 (by decide) (Nat.le_of_ble_eq_true rfl) C_X11_mixed (sr_pur ?_)
      refine g_topL (fun x7 ex7 => ?_)
      have h := h x7 ex7
      refine g_lstore (pc' := 143) dX11_digestRing_141 rfl (by decide) ?_
      refine g_lload (pc' := 145) dX11_digestRing_143 rfl rfl ?_
      refine g_aload_n (pc' := 146) dX11_digestRing_145 rfl rfl ?_
      refine g_iconst (pc' := 147) (by unfold r32; decide) dX11_digestRing_146 rfl ?_
      refine g_V1z (pc' := 150) dX11_digestRing_147 rfl mv_RX11_122 kd_0 (by decide) (Nat.le_of_ble_eq_true rfl) C_X11_isThing (sr_purb (fun hb8 => ?_))
      refine g_if_eq (pc' := 153) (tgt := 166) dX11_digestRing_150 rfl rfl (fun c9 => ?_) (fun c9 => ?_)
      · have h := h.1 c9
        refine g_ldc2 (pc' := 169) (z := (-2)) (by unfold r64; decide) kc_RX11_373 dX11_digestRing_166 rfl ?_
        refine g_S2l (pc' := 172) dX11_digestRing_169 rfl ms_RX11_346 (by decide) (Nat.le_of_ble_eq_true rfl) C_X11_mixed (sr_pur ?_)
        refine g_topL (fun x10 ex10 => ?_)
        have h := h x10 ex10
        refine g_lstore (pc' := 174) dX11_digestRing_172 rfl (by decide) ?_
        refine g_aload_n (pc' := 175) dX11_digestRing_174 rfl rfl ?_
        refine g_getR (pc' := 178) (r := 64) dX11_digestRing_175 rfl fl_RX11_91 kd_0 rfl rf_0_8 ?_
        refine g_iload_n (pc' := 179) dX11_digestRing_178 rfl rfl ?_
        refine g_V1v (pc' := 182) dX11_digestRing_179 rfl mv_RX11_274 kd_64 (by decide) (Nat.le_of_ble_eq_true rfl) (C_X3_seekWhence h) (fun s11 h => ?_)
        refine g_lload (pc' := 184) dX11_digestRing_182 rfl rfl ?_
        refine g_aload_n (pc' := 185) dX11_digestRing_184 rfl rfl ?_
        refine g_getR (pc' := 188) (r := 64) dX11_digestRing_185 rfl fl_RX11_91 kd_0 rfl rf_0_8 ?_
        refine g_iconst (pc' := 189) (by unfold r32; decide) dX11_digestRing_188 rfl ?_
        refine g_V1i (pc' := 192) dX11_digestRing_189 rfl mv_RX11_277 kd_64 (by decide) (Nat.le_of_ble_eq_true rfl) (C_X3_pickWhence h) (fun r14 s13 h => ?_)
        refine g_i2l (pc' := 193) dX11_digestRing_192 rfl ?_
        refine g_S2l (pc' := 196) dX11_digestRing_193 rfl ms_RX11_346 (by decide) (Nat.le_of_ble_eq_true rfl) C_X11_mixed (sr_pur ?_)
        refine g_topL (fun x15 ex15 => ?_)
        have h := h x15 ex15
        refine g_lstore (pc' := 198) dX11_digestRing_196 rfl (by decide) ?_
        refine g_lload (pc' := 200) dX11_digestRing_198 rfl rfl ?_
        refine g_aload_n (pc' := 201) dX11_digestRing_200 rfl rfl ?_
        refine g_getR (pc' := 204) (r := 64) dX11_digestRing_201 rfl fl_RX11_91 kd_0 rfl rf_0_8 ?_
        refine g_iconst (pc' := 205) (by unfold r32; decide) dX11_digestRing_204 rfl ?_
        refine g_V1i (pc' := 208) dX11_digestRing_205 rfl mv_RX11_277 kd_64 (by decide) (Nat.le_of_ble_eq_true rfl) (C_X3_pickWhence h) (fun r17 s16 h => ?_)
        refine g_i2l (pc' := 209) dX11_digestRing_208 rfl ?_
        refine g_S2l (pc' := 212) dX11_digestRing_209 rfl ms_RX11_346 (by decide) (Nat.le_of_ble_eq_true rfl) C_X11_mixed (sr_pur ?_)
        exact g_lret dX11_digestRing_212 rfl h
      · have h := h.2 c9
        refine g_aload_n (pc' := 154) dX11_digestRing_153 rfl rfl ?_
        refine g_getR (pc' := 157) (r := 62) dX11_digestRing_154 rfl fl_RX11_82 kd_0 rfl rf_0_7 ?_
        refine g_iload_n (pc' := 158) dX11_digestRing_157 rfl rfl ?_
        refine g_iconst (pc' := 159) (by unfold r32; decide) dX11_digestRing_158 rfl ?_
        refine g_V2i (pc' := 162) dX11_digestRing_159 rfl mv_RX11_221 kd_62 (by decide) (Nat.le_of_ble_eq_true rfl) (C_X5_leastBreath h) (fun r19 s18 h => ?_)
        refine g_i2l (pc' := 163) dX11_digestRing_162 rfl ?_
        refine g_goto (pc' := 169) dX11_digestRing_163 rfl ?_
        refine g_S2l (pc' := 172) dX11_digestRing_169 rfl ms_RX11_346 (by decide) (Nat.le_of_ble_eq_true rfl) C_X11_mixed (sr_pur ?_)
        refine g_topL (fun x20 ex20 => ?_)
        have h := h x20 ex20
        refine g_lstore (pc' := 174) dX11_digestRing_172 rfl (by decide) ?_
        refine g_aload_n (pc' := 175) dX11_digestRing_174 rfl rfl ?_
        refine g_getR (pc' := 178) (r := 64) dX11_digestRing_175 rfl fl_RX11_91 kd_0 rfl rf_0_8 ?_
        refine g_iload_n (pc' := 179) dX11_digestRing_178 rfl rfl ?_
        refine g_V1v (pc' := 182) dX11_digestRing_179 rfl mv_RX11_274 kd_64 (by decide) (Nat.le_of_ble_eq_true rfl) (C_X3_seekWhence h) (fun s21 h => ?_)
        refine g_lload (pc' := 184) dX11_digestRing_182 rfl rfl ?_
        refine g_aload_n (pc' := 185) dX11_digestRing_184 rfl rfl ?_
        refine g_getR (pc' := 188) (r := 64) dX11_digestRing_185 rfl fl_RX11_91 kd_0 rfl rf_0_8 ?_
        refine g_iconst (pc' := 189) (by unfold r32; decide) dX11_digestRing_188 rfl ?_
        refine g_V1i (pc' := 192) dX11_digestRing_189 rfl mv_RX11_277 kd_64 (by decide) (Nat.le_of_ble_eq_true rfl) (C_X3_pickWhence h) (fun r24 s23 h => ?_)
        refine g_i2l (pc' := 193) dX11_digestRing_192 rfl ?_
        refine g_S2l (pc' := 196) dX11_digestRing_193 rfl ms_RX11_346 (by decide) (Nat.le_of_ble_eq_true rfl) C_X11_mixed (sr_pur ?_)
        refine g_topL (fun x25 ex25 => ?_)
        have h := h x25 ex25
        refine g_lstore (pc' := 198) dX11_digestRing_196 rfl (by decide) ?_
        refine g_lload (pc' := 200) dX11_digestRing_198 rfl rfl ?_
        refine g_aload_n (pc' := 201) dX11_digestRing_200 rfl rfl ?_
        refine g_getR (pc' := 204) (r := 64) dX11_digestRing_201 rfl fl_RX11_91 kd_0 rfl rf_0_8 ?_
        refine g_iconst (pc' := 205) (by unfold r32; decide) dX11_digestRing_204 rfl ?_
        refine g_V1i (pc' := 208) dX11_digestRing_205 rfl mv_RX11_277 kd_64 (by decide) (Nat.le_of_ble_eq_true rfl) (C_X3_pickWhence h) (fun r27 s26 h => ?_)
        refine g_i2l (pc' := 209) dX11_digestRing_208 rfl ?_
        refine g_S2l (pc' := 212) dX11_digestRing_209 rfl ms_RX11_346 (by decide) (Nat.le_of_ble_eq_true rfl) C_X11_mixed (sr_pur ?_)
        exact g_lret dX11_digestRing_212 rfl h
def L_X11_digestThing_6 (v3 : Int) (s : Sto) (K33 : Int → Prop) : Nat → Int → Int → Prop
  | 0, _, _ => False
  | n + 1, v4, v6 => ((3 ≤ v6 → K33 v4) ∧ (¬ 3 ≤ v6 → (O_X11_thing v3 v6 s ∧ (∀ x3 : Int, x3 = F_X11_mixed v4 (F_X11_thing v3 v6 s) s → L_X11_digestThing_6 v3 s K33 n x3 (w32 (v6 + 1))))))
set_option maxRecDepth 100000 in
theorem SL_X11_digestThing_6 {v3 : Int} {s : Sto} {K33 : Int → Prop} {Q : Int → Sto → Prop}  (hK33 : ∀ v4, K33 v4 → sr_G RX11 cX11_digestThing 7 (some .long) 6 33 [(0, vR 0), (3, vI v3), (4, vL v4)] [] s Q) : ∀ n v4 v6, L_X11_digestThing_6 v3 s K33 n v4 v6 → sr_G RX11 cX11_digestThing 7 (some .long) 6 6 [(0, vR 0), (3, vI v3), (4, vL v4), (6, vI v6)] [] s Q := by
  intro n
  induction n with
  | zero => intro v4 v6 h; exact h.elim
  | succ n ih =>
    intro v4 v6 h
    unfold L_X11_digestThing_6 at h
    refine g_iload (pc' := 8) dX11_digestThing_6 rfl rfl ?_
    refine g_iconst (pc' := 9) (by unfold r32; decide) dX11_digestThing_8 rfl ?_
    refine g_ic_ge (pc' := 12) (tgt := 33) dX11_digestThing_9 rfl rfl (fun c1 => ?_) (fun c1 => ?_)
    · have h := h.1 c1
      exact (hK33 _ h).to ((sb_c rfl (sb_c rfl (sb_c rfl sb_n))))
    · have h := h.2 c1
      refine g_lload (pc' := 14) dX11_digestThing_12 rfl rfl ?_
      refine g_aload_n (pc' := 15) dX11_digestThing_14 rfl rfl ?_
      refine g_iload_n (pc' := 16) dX11_digestThing_15 rfl rfl ?_
      refine g_iload (pc' := 18) dX11_digestThing_16 rfl rfl ?_
      obtain ⟨ob2, h⟩ := h
      refine g_V2i (pc' := 21) dX11_digestThing_18 rfl mv_RX11_375 kd_0 (by decide) (Nat.le_of_ble_eq_true rfl) (C_X11_thing ob2) (sr_pur ?_)
      refine g_i2l (pc' := 22) dX11_digestThing_21 rfl ?_
      refine g_S2l (pc' := 25) dX11_digestThing_22 rfl ms_RX11_346 (by decide) (Nat.le_of_ble_eq_true rfl) C_X11_mixed (sr_pur ?_)
      refine g_topL (fun x3 ex3 => ?_)
      have h := h x3 ex3
      refine g_lstore (pc' := 27) dX11_digestThing_25 rfl (by decide) ?_
      refine g_iinc (pc' := 30) dX11_digestThing_27 rfl rfl (by decide) ?_
      refine g_goto (pc' := 6) dX11_digestThing_30 rfl ?_
      exact (ih _ _ h).to ((sb_c rfl (sb_c rfl (sb_c rfl (sb_c rfl sb_n)))))
def P_X11_digestThing (v1 : Int) (v3 : Int) (s : Sto) (Q : Int → Sto → Prop) : Prop := (∃ n20, L_X11_digestThing_6 v3 s (fun x1 => (inb v3 8 ∧ (∀ x3 : Int, x3 = F_X11_mixed x1 (s 21 v3.toNat) s → (inb v3 8 ∧ (∀ x5 : Int, x5 = F_X11_mixed x3 (s 22 v3.toNat) s → (inb v3 8 ∧ (∀ x7 : Int, x7 = F_X11_mixed x5 (s 23 v3.toNat) s → (P_X5_safeCell v3 s (fun r9 s8 => (∀ x10 : Int, x10 = F_X11_mixed x7 r9 s8 → (P_X5_seekHush v3 s8 (fun _ s11 => (∀ x13 : Int, x13 = F_X11_mixed x10 (F_X2_pick ((-1)) s11) s11 → (∀ x14 : Int, x14 = F_X11_mixed x13 (F_X2_pick 0 s11) s11 → (P_X0_above v3 0 s11 (fun r16 s15 => (∀ x17 : Int, x17 = F_X11_mixed x14 r16 s15 → (P_X0_below v3 0 s15 (fun r19 s18 => Q (F_X11_mixed x17 r19 s18) s18))))))))))))))))))) n20 v1 0)
set_option maxRecDepth 100000 in
theorem C_X11_digestThing {v1 : Int} {v3 : Int} {s : Sto} {Q : Int → Sto → Prop}  (h : P_X11_digestThing v1 v3 s Q) : sr_C yX11_digestThing cX11_digestThing 7 (some .long) 6 [vR 0, vL v1, vI v3] s Q := by
  refine sr_C.of (by decide +kernel) (Nat.le_of_ble_eq_true rfl) ?_
  show sr_G RX11 cX11_digestThing 7 (some .long) 6 0 [(0, vR 0), (1, vL v1), (3, vI v3)] [] s Q
  unfold P_X11_digestThing at h
  refine g_lload_n (pc' := 1) dX11_digestThing_0 rfl rfl ?_
  refine g_lstore (pc' := 3) dX11_digestThing_1 rfl (by decide) ?_
  refine g_iconst (pc' := 4) (by unfold r32; decide) dX11_digestThing_3 rfl ?_
  refine g_istore (pc' := 6) dX11_digestThing_4 rfl (by decide) ?_
  obtain ⟨n20, h⟩ := h
  refine (SL_X11_digestThing_6  (fun x1 h => ?_) n20 _ _ h).to ((sb_c rfl (sb_c rfl (sb_c rfl (sb_c rfl sb_n)))))
  · refine g_lload (pc' := 35) dX11_digestThing_33 rfl rfl ?_
    refine g_aload_n (pc' := 36) dX11_digestThing_35 rfl rfl ?_
    refine g_getR (pc' := 39) (r := 16) dX11_digestThing_36 rfl fl_RX11_38 kd_0 rfl rf_0_4 ?_
    refine g_getR (pc' := 42) (r := 21) dX11_digestThing_39 rfl fl_RX11_188 kd_16 rfl rf_16_5 ?_
    refine g_iload_n (pc' := 43) dX11_digestThing_42 rfl rfl ?_
    obtain ⟨ob2, h⟩ := h
    refine g_iald (pc' := 44) dX11_digestThing_43 rfl kd_21 ob2 ?_
    refine g_i2l (pc' := 45) dX11_digestThing_44 rfl ?_
    refine g_S2l (pc' := 48) dX11_digestThing_45 rfl ms_RX11_346 (by decide) (Nat.le_of_ble_eq_true rfl) C_X11_mixed (sr_pur ?_)
    refine g_topL (fun x3 ex3 => ?_)
    have h := h x3 ex3
    refine g_lstore (pc' := 50) dX11_digestThing_48 rfl (by decide) ?_
    refine g_lload (pc' := 52) dX11_digestThing_50 rfl rfl ?_
    refine g_aload_n (pc' := 53) dX11_digestThing_52 rfl rfl ?_
    refine g_getR (pc' := 56) (r := 16) dX11_digestThing_53 rfl fl_RX11_38 kd_0 rfl rf_0_4 ?_
    refine g_getR (pc' := 59) (r := 22) dX11_digestThing_56 rfl fl_RX11_191 kd_16 rfl rf_16_6 ?_
    refine g_iload_n (pc' := 60) dX11_digestThing_59 rfl rfl ?_
    obtain ⟨ob4, h⟩ := h
    refine g_iald (pc' := 61) dX11_digestThing_60 rfl kd_22 ob4 ?_
    refine g_i2l (pc' := 62) dX11_digestThing_61 rfl ?_
    refine g_S2l (pc' := 65) dX11_digestThing_62 rfl ms_RX11_346 (by decide) (Nat.le_of_ble_eq_true rfl) C_X11_mixed (sr_pur ?_)
    refine g_topL (fun x5 ex5 => ?_)
    have h := h x5 ex5
    refine g_lstore (pc' := 67) dX11_digestThing_65 rfl (by decide) ?_
    refine g_lload (pc' := 69) dX11_digestThing_67 rfl rfl ?_
    refine g_aload_n (pc' := 70) dX11_digestThing_69 rfl rfl ?_
    refine g_getR (pc' := 73) (r := 16) dX11_digestThing_70 rfl fl_RX11_38 kd_0 rfl rf_0_4 ?_
    refine g_getR (pc' := 76) (r := 23) dX11_digestThing_73 rfl fl_RX11_194 kd_16 rfl rf_16_7 ?_
    refine g_iload_n (pc' := 77) dX11_digestThing_76 rfl rfl ?_
    obtain ⟨ob6, h⟩ := h
    refine g_iald (pc' := 78) dX11_digestThing_77 rfl kd_23 ob6 ?_
    refine g_i2l (pc' := 79) dX11_digestThing_78 rfl ?_
    refine g_S2l (pc' := 82) dX11_digestThing_79 rfl ms_RX11_346 (by decide) (Nat.le_of_ble_eq_true rfl) C_X11_mixed (sr_pur ?_)
    refine g_topL (fun x7 ex7 => ?_)
    have h := h x7 ex7
    refine g_lstore (pc' := 84) dX11_digestThing_82 rfl (by decide) ?_
    refine g_lload (pc' := 86) dX11_digestThing_84 rfl rfl ?_
    refine g_aload_n (pc' := 87) dX11_digestThing_86 rfl rfl ?_
    refine g_getR (pc' := 90) (r := 62) dX11_digestThing_87 rfl fl_RX11_82 kd_0 rfl rf_0_7 ?_
    refine g_iload_n (pc' := 91) dX11_digestThing_90 rfl rfl ?_
    refine g_V1i (pc' := 94) dX11_digestThing_91 rfl mv_RX11_237 kd_62 (by decide) (Nat.le_of_ble_eq_true rfl) (C_X5_safeCell h) (fun r9 s8 h => ?_)
    refine g_i2l (pc' := 95) dX11_digestThing_94 rfl ?_
    refine g_S2l (pc' := 98) dX11_digestThing_95 rfl ms_RX11_346 (by decide) (Nat.le_of_ble_eq_true rfl) C_X11_mixed (sr_pur ?_)
    refine g_topL (fun x10 ex10 => ?_)
    have h := h x10 ex10
    refine g_lstore (pc' := 100) dX11_digestThing_98 rfl (by decide) ?_
    refine g_aload_n (pc' := 101) dX11_digestThing_100 rfl rfl ?_
    refine g_getR (pc' := 104) (r := 62) dX11_digestThing_101 rfl fl_RX11_82 kd_0 rfl rf_0_7 ?_
    refine g_iload_n (pc' := 105) dX11_digestThing_104 rfl rfl ?_
    refine g_V1v (pc' := 108) dX11_digestThing_105 rfl mv_RX11_240 kd_62 (by decide) (Nat.le_of_ble_eq_true rfl) (C_X5_seekHush h) (fun s11 h => ?_)
    refine g_lload (pc' := 110) dX11_digestThing_108 rfl rfl ?_
    refine g_aload_n (pc' := 111) dX11_digestThing_110 rfl rfl ?_
    refine g_getR (pc' := 114) (r := 62) dX11_digestThing_111 rfl fl_RX11_82 kd_0 rfl rf_0_7 ?_
    refine g_getR (pc' := 117) (r := 63) dX11_digestThing_114 rfl fl_RX11_243 kd_62 rfl rf_62_9 ?_
    refine g_iconst (pc' := 118) (by unfold r32; decide) dX11_digestThing_117 rfl ?_
    refine g_V1i (pc' := 121) dX11_digestThing_118 rfl mv_RX11_247 kd_63 (by decide) (Nat.le_of_ble_eq_true rfl) C_X2_pick (sr_pur ?_)
    refine g_i2l (pc' := 122) dX11_digestThing_121 rfl ?_
    refine g_S2l (pc' := 125) dX11_digestThing_122 rfl ms_RX11_346 (by decide) (Nat.le_of_ble_eq_true rfl) C_X11_mixed (sr_pur ?_)
    refine g_topL (fun x13 ex13 => ?_)
    have h := h x13 ex13
    refine g_lstore (pc' := 127) dX11_digestThing_125 rfl (by decide) ?_
    refine g_lload (pc' := 129) dX11_digestThing_127 rfl rfl ?_
    refine g_aload_n (pc' := 130) dX11_digestThing_129 rfl rfl ?_
    refine g_getR (pc' := 133) (r := 62) dX11_digestThing_130 rfl fl_RX11_82 kd_0 rfl rf_0_7 ?_
    refine g_getR (pc' := 136) (r := 63) dX11_digestThing_133 rfl fl_RX11_243 kd_62 rfl rf_62_9 ?_
    refine g_iconst (pc' := 137) (by unfold r32; decide) dX11_digestThing_136 rfl ?_
    refine g_V1i (pc' := 140) dX11_digestThing_137 rfl mv_RX11_247 kd_63 (by decide) (Nat.le_of_ble_eq_true rfl) C_X2_pick (sr_pur ?_)
    refine g_i2l (pc' := 141) dX11_digestThing_140 rfl ?_
    refine g_S2l (pc' := 144) dX11_digestThing_141 rfl ms_RX11_346 (by decide) (Nat.le_of_ble_eq_true rfl) C_X11_mixed (sr_pur ?_)
    refine g_topL (fun x14 ex14 => ?_)
    have h := h x14 ex14
    refine g_lstore (pc' := 146) dX11_digestThing_144 rfl (by decide) ?_
    refine g_lload (pc' := 148) dX11_digestThing_146 rfl rfl ?_
    refine g_aload_n (pc' := 149) dX11_digestThing_148 rfl rfl ?_
    refine g_getR (pc' := 152) (r := 66) dX11_digestThing_149 rfl fl_RX11_98 kd_0 rfl rf_0_9 ?_
    refine g_iload_n (pc' := 153) dX11_digestThing_152 rfl rfl ?_
    refine g_iconst (pc' := 154) (by unfold r32; decide) dX11_digestThing_153 rfl ?_
    refine g_V2l (pc' := 157) dX11_digestThing_154 rfl mv_RX11_292 kd_66 (by decide) (Nat.le_of_ble_eq_true rfl) (C_X0_above h) (fun r16 s15 h => ?_)
    refine g_S2l (pc' := 160) dX11_digestThing_157 rfl ms_RX11_346 (by decide) (Nat.le_of_ble_eq_true rfl) C_X11_mixed (sr_pur ?_)
    refine g_topL (fun x17 ex17 => ?_)
    have h := h x17 ex17
    refine g_lstore (pc' := 162) dX11_digestThing_160 rfl (by decide) ?_
    refine g_lload (pc' := 164) dX11_digestThing_162 rfl rfl ?_
    refine g_aload_n (pc' := 165) dX11_digestThing_164 rfl rfl ?_
    refine g_getR (pc' := 168) (r := 66) dX11_digestThing_165 rfl fl_RX11_98 kd_0 rfl rf_0_9 ?_
    refine g_iload_n (pc' := 169) dX11_digestThing_168 rfl rfl ?_
    refine g_iconst (pc' := 170) (by unfold r32; decide) dX11_digestThing_169 rfl ?_
    refine g_V2l (pc' := 173) dX11_digestThing_170 rfl mv_RX11_296 kd_66 (by decide) (Nat.le_of_ble_eq_true rfl) (C_X0_below h) (fun r19 s18 h => ?_)
    refine g_S2l (pc' := 176) dX11_digestThing_173 rfl ms_RX11_346 (by decide) (Nat.le_of_ble_eq_true rfl) C_X11_mixed (sr_pur ?_)
    exact g_lret dX11_digestThing_176 rfl h
def P_X11_digestWhom (v1 : Int) (v3 : Int) (s : Sto) (Q : Int → Sto → Prop) : Prop := (P_X6_wedBits 16 6 v3 s (fun r2 s1 => (∀ x3 : Int, x3 = F_X11_mixed v1 r2 s1 → (P_X6_upkeepOf 16 6 v3 s1 (fun r5 s4 => (∀ x6 : Int, x6 = F_X11_mixed x3 r5 s4 → (P_X5_seekFree 16 v3 9 s4 (fun _ s7 => (∀ x9 : Int, x9 = F_X11_mixed x6 (F_X2_pick ((-1)) s7) s7 → Q (F_X11_mixed x9 (F_X2_pick 0 s7) s7) s7)))))))))
set_option maxRecDepth 100000 in
theorem C_X11_digestWhom {v1 : Int} {v3 : Int} {s : Sto} {Q : Int → Sto → Prop}  (h : P_X11_digestWhom v1 v3 s Q) : sr_C yX11_digestWhom cX11_digestWhom 6 (some .long) 3 [vR 0, vL v1, vI v3] s Q := by
  refine sr_C.of (by decide +kernel) (Nat.le_of_ble_eq_true rfl) ?_
  show sr_G RX11 cX11_digestWhom 6 (some .long) 3 0 [(0, vR 0), (1, vL v1), (3, vI v3)] [] s Q
  unfold P_X11_digestWhom at h
  refine g_lload_n (pc' := 1) dX11_digestWhom_0 rfl rfl ?_
  refine g_aload_n (pc' := 2) dX11_digestWhom_1 rfl rfl ?_
  refine g_getR (pc' := 5) (r := 16) dX11_digestWhom_2 rfl fl_RX11_38 kd_0 rfl rf_0_4 ?_
  refine g_aload_n (pc' := 6) dX11_digestWhom_5 rfl rfl ?_
  refine g_getR (pc' := 9) (r := 6) dX11_digestWhom_6 rfl fl_RX11_29 kd_0 rfl rf_0_3 ?_
  refine g_iload_n (pc' := 10) dX11_digestWhom_9 rfl rfl ?_
  refine g_V2i (pc' := 13) dX11_digestWhom_10 rfl mv_RX11_197 kd_16 (by decide) (Nat.le_of_ble_eq_true rfl) (C_X6_wedBits kd_16 kd_6 h) (fun r2 s1 h => ?_)
  refine g_i2l (pc' := 14) dX11_digestWhom_13 rfl ?_
  refine g_S2l (pc' := 17) dX11_digestWhom_14 rfl ms_RX11_346 (by decide) (Nat.le_of_ble_eq_true rfl) C_X11_mixed (sr_pur ?_)
  refine g_topL (fun x3 ex3 => ?_)
  have h := h x3 ex3
  refine g_lstore (pc' := 19) dX11_digestWhom_17 rfl (by decide) ?_
  refine g_lload (pc' := 21) dX11_digestWhom_19 rfl rfl ?_
  refine g_aload_n (pc' := 22) dX11_digestWhom_21 rfl rfl ?_
  refine g_getR (pc' := 25) (r := 16) dX11_digestWhom_22 rfl fl_RX11_38 kd_0 rfl rf_0_4 ?_
  refine g_aload_n (pc' := 26) dX11_digestWhom_25 rfl rfl ?_
  refine g_getR (pc' := 29) (r := 6) dX11_digestWhom_26 rfl fl_RX11_29 kd_0 rfl rf_0_3 ?_
  refine g_iload_n (pc' := 30) dX11_digestWhom_29 rfl rfl ?_
  refine g_V2i (pc' := 33) dX11_digestWhom_30 rfl mv_RX11_201 kd_16 (by decide) (Nat.le_of_ble_eq_true rfl) (C_X6_upkeepOf kd_16 kd_6 h) (fun r5 s4 h => ?_)
  refine g_i2l (pc' := 34) dX11_digestWhom_33 rfl ?_
  refine g_S2l (pc' := 37) dX11_digestWhom_34 rfl ms_RX11_346 (by decide) (Nat.le_of_ble_eq_true rfl) C_X11_mixed (sr_pur ?_)
  refine g_topL (fun x6 ex6 => ?_)
  have h := h x6 ex6
  refine g_lstore (pc' := 39) dX11_digestWhom_37 rfl (by decide) ?_
  refine g_aload_n (pc' := 40) dX11_digestWhom_39 rfl rfl ?_
  refine g_getR (pc' := 43) (r := 62) dX11_digestWhom_40 rfl fl_RX11_82 kd_0 rfl rf_0_7 ?_
  refine g_aload_n (pc' := 44) dX11_digestWhom_43 rfl rfl ?_
  refine g_getR (pc' := 47) (r := 16) dX11_digestWhom_44 rfl fl_RX11_38 kd_0 rfl rf_0_4 ?_
  refine g_iload_n (pc' := 48) dX11_digestWhom_47 rfl rfl ?_
  refine g_bipush (pc' := 50) ⟨by unfold r32; decide, rfl⟩ dX11_digestWhom_48 rfl ?_
  refine g_V3v (pc' := 53) dX11_digestWhom_50 rfl mv_RX11_261 kd_62 (by decide) (Nat.le_of_ble_eq_true rfl) (C_X5_seekFree kd_16 h) (fun s7 h => ?_)
  refine g_lload (pc' := 55) dX11_digestWhom_53 rfl rfl ?_
  refine g_aload_n (pc' := 56) dX11_digestWhom_55 rfl rfl ?_
  refine g_getR (pc' := 59) (r := 62) dX11_digestWhom_56 rfl fl_RX11_82 kd_0 rfl rf_0_7 ?_
  refine g_getR (pc' := 62) (r := 63) dX11_digestWhom_59 rfl fl_RX11_243 kd_62 rfl rf_62_9 ?_
  refine g_iconst (pc' := 63) (by unfold r32; decide) dX11_digestWhom_62 rfl ?_
  refine g_V1i (pc' := 66) dX11_digestWhom_63 rfl mv_RX11_247 kd_63 (by decide) (Nat.le_of_ble_eq_true rfl) C_X2_pick (sr_pur ?_)
  refine g_i2l (pc' := 67) dX11_digestWhom_66 rfl ?_
  refine g_S2l (pc' := 70) dX11_digestWhom_67 rfl ms_RX11_346 (by decide) (Nat.le_of_ble_eq_true rfl) C_X11_mixed (sr_pur ?_)
  refine g_topL (fun x9 ex9 => ?_)
  have h := h x9 ex9
  refine g_lstore (pc' := 72) dX11_digestWhom_70 rfl (by decide) ?_
  refine g_lload (pc' := 74) dX11_digestWhom_72 rfl rfl ?_
  refine g_aload_n (pc' := 75) dX11_digestWhom_74 rfl rfl ?_
  refine g_getR (pc' := 78) (r := 62) dX11_digestWhom_75 rfl fl_RX11_82 kd_0 rfl rf_0_7 ?_
  refine g_getR (pc' := 81) (r := 63) dX11_digestWhom_78 rfl fl_RX11_243 kd_62 rfl rf_62_9 ?_
  refine g_iconst (pc' := 82) (by unfold r32; decide) dX11_digestWhom_81 rfl ?_
  refine g_V1i (pc' := 85) dX11_digestWhom_82 rfl mv_RX11_247 kd_63 (by decide) (Nat.le_of_ble_eq_true rfl) C_X2_pick (sr_pur ?_)
  refine g_i2l (pc' := 86) dX11_digestWhom_85 rfl ?_
  refine g_S2l (pc' := 89) dX11_digestWhom_86 rfl ms_RX11_346 (by decide) (Nat.le_of_ble_eq_true rfl) C_X11_mixed (sr_pur ?_)
  exact g_lret dX11_digestWhom_89 rfl h
