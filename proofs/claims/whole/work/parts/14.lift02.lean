def L_X3_neverBits_15  (K74 : Int → Sto → Prop) : Nat → Int → Int → Sto → Prop
  | 0, _, _, _ => False
  | n + 1, v1, v2, s => ((s 44 0 ≤ v2 → K74 v1 s) ∧ (¬ s 44 0 ≤ v2 → (inb v2 8 ∧ (∀ s3 : Sto, s3 = up s 45 v2.toNat 20 → (P_X3_comesOut s3 (fun r5 s4 => ((r5 = 0 → (inb v2 8 ∧ (inb v2 8 ∧ (∀ s9 : Sto, s9 = up s4 45 v2.toNat (s4 7 v2.toNat) → L_X3_neverBits_15 K74 n v1 (w32 (v2 + 1)) s9)))) ∧ (¬ r5 = 0 → (∀ x10 : Int, x10 = iO v1 (iShl 1 v2) → (inb v2 8 ∧ (inb v2 8 ∧ (∀ s13 : Sto, s13 = up s4 45 v2.toNat (s4 7 v2.toNat) → L_X3_neverBits_15 K74 n x10 (w32 (v2 + 1)) s13))))))))))))
set_option maxRecDepth 100000 in
theorem SL_X3_neverBits_15  {K74 : Int → Sto → Prop} {Q : Int → Sto → Prop}  (hK74 : ∀ v1 s, K74 v1 s → sr_G RX3 cX3_neverBits 3 (some .int) 5 74 [(1, vI v1)] [] s Q) : ∀ n v1 v2 s, L_X3_neverBits_15 K74 n v1 v2 s → sr_G RX3 cX3_neverBits 3 (some .int) 5 15 [(0, vR 64), (1, vI v1), (2, vI v2)] [] s Q := by
  intro n
  induction n with
  | zero => intro v1 v2 s h; exact h.elim
  | succ n ih =>
    intro v1 v2 s h
    unfold L_X3_neverBits_15 at h
    refine g_iload_n (pc' := 16) dX3_neverBits_15 rfl rfl ?_
    refine g_aload_n (pc' := 17) dX3_neverBits_16 rfl rfl ?_
    refine g_getR (pc' := 20) (r := 44) dX3_neverBits_17 rfl fl_RX3_27 kd_64 rfl rf_64_2 ?_
    refine g_getI (pc' := 23) dX3_neverBits_20 rfl fl_RX3_59 kd_44 (Or.inl rfl) ?_
    refine g_ic_ge (pc' := 26) (tgt := 74) dX3_neverBits_23 rfl rfl (fun c1 => ?_) (fun c1 => ?_)
    · have h := h.1 c1
      exact (hK74 _ _ h).to ((sb_c rfl sb_n))
    · have h := h.2 c1
      refine g_aload_n (pc' := 27) dX3_neverBits_26 rfl rfl ?_
      refine g_getR (pc' := 30) (r := 44) dX3_neverBits_27 rfl fl_RX3_27 kd_64 rfl rf_64_2 ?_
      refine g_getR (pc' := 33) (r := 45) dX3_neverBits_30 rfl fl_RX3_62 kd_44 rfl rf_44_1 ?_
      refine g_iload_n (pc' := 34) dX3_neverBits_33 rfl rfl ?_
      refine g_bipush (pc' := 36) ⟨by unfold r32; decide, rfl⟩ dX3_neverBits_34 rfl ?_
      obtain ⟨ob2, h⟩ := h
      refine g_iast (pc' := 37) dX3_neverBits_36 rfl kd_45 ob2 ?_
      refine g_sto (fun s3 es3 => ?_)
      have h := h s3 es3
      refine g_aload_n (pc' := 38) dX3_neverBits_37 rfl rfl ?_
      refine g_V0z (pc' := 41) dX3_neverBits_38 rfl mv_RX3_65 kd_64 (by decide) (Nat.le_of_ble_eq_true rfl) (C_X3_comesOut h) (fun r5 s4 h => ?_)
      refine g_if_eq (pc' := 44) (tgt := 50) dX3_neverBits_41 rfl rfl (fun c6 => ?_) (fun c6 => ?_)
      · have h := h.1 c6
        refine g_aload_n (pc' := 51) dX3_neverBits_50 rfl rfl ?_
        refine g_getR (pc' := 54) (r := 44) dX3_neverBits_51 rfl fl_RX3_27 kd_64 rfl rf_64_2 ?_
        refine g_getR (pc' := 57) (r := 45) dX3_neverBits_54 rfl fl_RX3_62 kd_44 rfl rf_44_1 ?_
        refine g_iload_n (pc' := 58) dX3_neverBits_57 rfl rfl ?_
        refine g_aload_n (pc' := 59) dX3_neverBits_58 rfl rfl ?_
        refine g_getR (pc' := 62) (r := 6) dX3_neverBits_59 rfl fl_RX3_23 kd_64 rfl rf_64_1 ?_
        refine g_getR (pc' := 65) (r := 7) dX3_neverBits_62 rfl fl_RX3_62 kd_6 rfl rf_6_1 ?_
        refine g_iload_n (pc' := 66) dX3_neverBits_65 rfl rfl ?_
        obtain ⟨ob7, h⟩ := h
        refine g_iald (pc' := 67) dX3_neverBits_66 rfl kd_7 ob7 ?_
        obtain ⟨ob8, h⟩ := h
        refine g_iast (pc' := 68) dX3_neverBits_67 rfl kd_45 ob8 ?_
        refine g_sto (fun s9 es9 => ?_)
        have h := h s9 es9
        refine g_iinc (pc' := 71) dX3_neverBits_68 rfl rfl (by decide) ?_
        refine g_goto (pc' := 15) dX3_neverBits_71 rfl ?_
        exact (ih _ _ _ h).to ((sb_c rfl (sb_c rfl (sb_c rfl sb_n))))
      · have h := h.2 c6
        refine g_iload_n (pc' := 45) dX3_neverBits_44 rfl rfl ?_
        refine g_iconst (pc' := 46) (by unfold r32; decide) dX3_neverBits_45 rfl ?_
        refine g_iload_n (pc' := 47) dX3_neverBits_46 rfl rfl ?_
        refine g_ishl (pc' := 48) dX3_neverBits_47 rfl ?_
        refine g_ior (pc' := 49) dX3_neverBits_48 rfl ?_
        refine g_topI (fun x10 ex10 => ?_)
        have h := h x10 ex10
        refine g_istore_n (pc' := 50) dX3_neverBits_49 rfl (by decide) ?_
        refine g_aload_n (pc' := 51) dX3_neverBits_50 rfl rfl ?_
        refine g_getR (pc' := 54) (r := 44) dX3_neverBits_51 rfl fl_RX3_27 kd_64 rfl rf_64_2 ?_
        refine g_getR (pc' := 57) (r := 45) dX3_neverBits_54 rfl fl_RX3_62 kd_44 rfl rf_44_1 ?_
        refine g_iload_n (pc' := 58) dX3_neverBits_57 rfl rfl ?_
        refine g_aload_n (pc' := 59) dX3_neverBits_58 rfl rfl ?_
        refine g_getR (pc' := 62) (r := 6) dX3_neverBits_59 rfl fl_RX3_23 kd_64 rfl rf_64_1 ?_
        refine g_getR (pc' := 65) (r := 7) dX3_neverBits_62 rfl fl_RX3_62 kd_6 rfl rf_6_1 ?_
        refine g_iload_n (pc' := 66) dX3_neverBits_65 rfl rfl ?_
        obtain ⟨ob11, h⟩ := h
        refine g_iald (pc' := 67) dX3_neverBits_66 rfl kd_7 ob11 ?_
        obtain ⟨ob12, h⟩ := h
        refine g_iast (pc' := 68) dX3_neverBits_67 rfl kd_45 ob12 ?_
        refine g_sto (fun s13 es13 => ?_)
        have h := h s13 es13
        refine g_iinc (pc' := 71) dX3_neverBits_68 rfl rfl (by decide) ?_
        refine g_goto (pc' := 15) dX3_neverBits_71 rfl ?_
        exact (ih _ _ _ h).to ((sb_c rfl (sb_c rfl (sb_c rfl sb_n))))
def P_X3_neverBits (s : Sto) (Q : Int → Sto → Prop) : Prop := (P_X4_becomes 44 6 s (fun _ s1 => (∃ n5, L_X3_neverBits_15 (fun x3 s4 => Q x3 s4) n5 0 0 s1)))
set_option maxRecDepth 100000 in
theorem C_X3_neverBits {s : Sto} {Q : Int → Sto → Prop}  (h : P_X3_neverBits s Q) : sr_C yX3_neverBits cX3_neverBits 3 (some .int) 5 [vR 64] s Q := by
  refine sr_C.of (by decide +kernel) (Nat.le_of_ble_eq_true rfl) ?_
  show sr_G RX3 cX3_neverBits 3 (some .int) 5 0 [(0, vR 64)] [] s Q
  unfold P_X3_neverBits at h
  refine g_iconst (pc' := 1) (by unfold r32; decide) dX3_neverBits_0 rfl ?_
  refine g_istore_n (pc' := 2) dX3_neverBits_1 rfl (by decide) ?_
  refine g_aload_n (pc' := 3) dX3_neverBits_2 rfl rfl ?_
  refine g_getR (pc' := 6) (r := 44) dX3_neverBits_3 rfl fl_RX3_27 kd_64 rfl rf_64_2 ?_
  refine g_aload_n (pc' := 7) dX3_neverBits_6 rfl rfl ?_
  refine g_getR (pc' := 10) (r := 6) dX3_neverBits_7 rfl fl_RX3_23 kd_64 rfl rf_64_1 ?_
  refine g_V1v (pc' := 13) dX3_neverBits_10 rfl mv_RX3_54 kd_44 (by decide) (Nat.le_of_ble_eq_true rfl) (C_X4_becomes kd_44 kd_6 h) (fun s1 h => ?_)
  refine g_iconst (pc' := 14) (by unfold r32; decide) dX3_neverBits_13 rfl ?_
  refine g_istore_n (pc' := 15) dX3_neverBits_14 rfl (by decide) ?_
  obtain ⟨n5, h⟩ := h
  refine (SL_X3_neverBits_15  (fun x3 s4 h => ?_) n5 _ _ _ h).to ((sb_c rfl (sb_c rfl (sb_c rfl sb_n))))
  · refine g_iload_n (pc' := 75) dX3_neverBits_74 rfl rfl ?_
    exact g_iret dX3_neverBits_75 rfl h
def L_X3_seekWhence_18 (v1 : Int) (K64 : Sto → Prop) : Nat → Int → Sto → Prop
  | 0, _, _ => False
  | n + 1, v2, s => ((s 3 0 ≤ v2 → K64 s) ∧ (¬ s 3 0 ≤ v2 → (inb v1 8 ∧ (∀ s3 : Sto, s3 = up s 46 v1.toNat v2 → (P_X3_comesOut s3 (fun r5 s4 => ((r5 = 0 → L_X3_seekWhence_18 v1 K64 n (w32 (v2 + 1)) s4) ∧ (¬ r5 = 0 → (∀ s7 : Sto, s7 = up s4 64 5 (lO (s4 64 5) (lShl 1 v2)) → L_X3_seekWhence_18 v1 K64 n (w32 (v2 + 1)) s7)))))))))
set_option maxRecDepth 100000 in
theorem SL_X3_seekWhence_18 {v1 : Int} {K64 : Sto → Prop} {Q : Int → Sto → Prop}  (hK64 : ∀ s, K64 s → sr_G RX3 cX3_seekWhence 3 none 5 64 [] [] s Q) : ∀ n v2 s, L_X3_seekWhence_18 v1 K64 n v2 s → sr_G RX3 cX3_seekWhence 3 none 5 18 [(0, vR 64), (1, vI v1), (2, vI v2)] [] s Q := by
  intro n
  induction n with
  | zero => intro v2 s h; exact h.elim
  | succ n ih =>
    intro v2 s h
    unfold L_X3_seekWhence_18 at h
    refine g_iload_n (pc' := 19) dX3_seekWhence_18 rfl rfl ?_
    refine g_aload_n (pc' := 20) dX3_seekWhence_19 rfl rfl ?_
    refine g_getR (pc' := 23) (r := 3) dX3_seekWhence_20 rfl fl_RX3_19 kd_64 rfl rf_64_0 ?_
    refine g_getI (pc' := 26) dX3_seekWhence_23 rfl fl_RX3_69 kd_3 (Or.inl rfl) ?_
    refine g_ic_ge (pc' := 29) (tgt := 64) dX3_seekWhence_26 rfl rfl (fun c1 => ?_) (fun c1 => ?_)
    · have h := h.1 c1
      exact (hK64 _ h).to (sb_n)
    · have h := h.2 c1
      refine g_aload_n (pc' := 30) dX3_seekWhence_29 rfl rfl ?_
      refine g_getR (pc' := 33) (r := 44) dX3_seekWhence_30 rfl fl_RX3_27 kd_64 rfl rf_64_2 ?_
      refine g_getR (pc' := 36) (r := 46) dX3_seekWhence_33 rfl fl_RX3_74 kd_44 rfl rf_44_2 ?_
      refine g_iload_n (pc' := 37) dX3_seekWhence_36 rfl rfl ?_
      refine g_iload_n (pc' := 38) dX3_seekWhence_37 rfl rfl ?_
      obtain ⟨ob2, h⟩ := h
      refine g_iast (pc' := 39) dX3_seekWhence_38 rfl kd_46 ob2 ?_
      refine g_sto (fun s3 es3 => ?_)
      have h := h s3 es3
      refine g_aload_n (pc' := 40) dX3_seekWhence_39 rfl rfl ?_
      refine g_V0z (pc' := 43) dX3_seekWhence_40 rfl mv_RX3_65 kd_64 (by decide) (Nat.le_of_ble_eq_true rfl) (C_X3_comesOut h) (fun r5 s4 h => ?_)
      refine g_if_eq (pc' := 46) (tgt := 58) dX3_seekWhence_43 rfl rfl (fun c6 => ?_) (fun c6 => ?_)
      · have h := h.1 c6
        refine g_iinc (pc' := 61) dX3_seekWhence_58 rfl rfl (by decide) ?_
        refine g_goto (pc' := 18) dX3_seekWhence_61 rfl ?_
        exact (ih _ _ h).to ((sb_c rfl (sb_c rfl (sb_c rfl sb_n))))
      · have h := h.2 c6
        refine g_aload_n (pc' := 47) dX3_seekWhence_46 rfl rfl ?_
        refine g_dupR (pc' := 48) dX3_seekWhence_47 rfl ?_
        refine g_getL (pc' := 51) dX3_seekWhence_48 rfl fl_RX3_9 kd_64 rfl ?_
        refine g_lconst (pc' := 52) (z := 1) ⟨by unfold r64; decide, rfl⟩ dX3_seekWhence_51 rfl ?_
        refine g_iload_n (pc' := 53) dX3_seekWhence_52 rfl rfl ?_
        refine g_lshl (pc' := 54) dX3_seekWhence_53 rfl ?_
        refine g_lor (pc' := 55) dX3_seekWhence_54 rfl ?_
        refine g_putL (pc' := 58) dX3_seekWhence_55 rfl fp_RX3_9 kd_64 rfl ?_
        refine g_sto (fun s7 es7 => ?_)
        have h := h s7 es7
        refine g_iinc (pc' := 61) dX3_seekWhence_58 rfl rfl (by decide) ?_
        refine g_goto (pc' := 18) dX3_seekWhence_61 rfl ?_
        exact (ih _ _ h).to ((sb_c rfl (sb_c rfl (sb_c rfl sb_n))))
def P_X3_seekWhence (v1 : Int) (s : Sto) (Q : Int → Sto → Prop) : Prop := (∀ s1 : Sto, s1 = up s 64 5 0 → (P_X4_becomes 44 6 s1 (fun _ s2 => (∃ n5, L_X3_seekWhence_18 v1 (fun s4 => Q 0 s4) n5 0 s2))))
set_option maxRecDepth 100000 in
theorem C_X3_seekWhence {v1 : Int} {s : Sto} {Q : Int → Sto → Prop}  (h : P_X3_seekWhence v1 s Q) : sr_C yX3_seekWhence cX3_seekWhence 3 none 5 [vR 64, vI v1] s Q := by
  refine sr_C.of (by decide +kernel) (Nat.le_of_ble_eq_true rfl) ?_
  show sr_G RX3 cX3_seekWhence 3 none 5 0 [(0, vR 64), (1, vI v1)] [] s Q
  unfold P_X3_seekWhence at h
  refine g_aload_n (pc' := 1) dX3_seekWhence_0 rfl rfl ?_
  refine g_lconst (pc' := 2) (z := 0) ⟨by unfold r64; decide, rfl⟩ dX3_seekWhence_1 rfl ?_
  refine g_putL (pc' := 5) dX3_seekWhence_2 rfl fp_RX3_9 kd_64 rfl ?_
  refine g_sto (fun s1 es1 => ?_)
  have h := h s1 es1
  refine g_aload_n (pc' := 6) dX3_seekWhence_5 rfl rfl ?_
  refine g_getR (pc' := 9) (r := 44) dX3_seekWhence_6 rfl fl_RX3_27 kd_64 rfl rf_64_2 ?_
  refine g_aload_n (pc' := 10) dX3_seekWhence_9 rfl rfl ?_
  refine g_getR (pc' := 13) (r := 6) dX3_seekWhence_10 rfl fl_RX3_23 kd_64 rfl rf_64_1 ?_
  refine g_V1v (pc' := 16) dX3_seekWhence_13 rfl mv_RX3_54 kd_44 (by decide) (Nat.le_of_ble_eq_true rfl) (C_X4_becomes kd_44 kd_6 h) (fun s2 h => ?_)
  refine g_iconst (pc' := 17) (by unfold r32; decide) dX3_seekWhence_16 rfl ?_
  refine g_istore_n (pc' := 18) dX3_seekWhence_17 rfl (by decide) ?_
  obtain ⟨n5, h⟩ := h
  refine (SL_X3_seekWhence_18  (fun s4 h => ?_) n5 _ _ h).to ((sb_c rfl (sb_c rfl (sb_c rfl sb_n))))
  · exact g_vret dX3_seekWhence_64 rfl h
def F_J13_bitCount_95d88 (v0 : Int) (s : Sto) : Int := iA (w32 (w64 ((w64 ((w64 ((lA (w64 ((w64 ((lA (w64 (v0 - (lA (lUshr v0 1) 6148914691236517205))) 3689348814741910323) + (lA (lUshr (w64 (v0 - (lA (lUshr v0 1) 6148914691236517205))) 2) 3689348814741910323))) + (lUshr (w64 ((lA (w64 (v0 - (lA (lUshr v0 1) 6148914691236517205))) 3689348814741910323) + (lA (lUshr (w64 (v0 - (lA (lUshr v0 1) 6148914691236517205))) 2) 3689348814741910323))) 4))) 1085102592571150095) + (lUshr (lA (w64 ((w64 ((lA (w64 (v0 - (lA (lUshr v0 1) 6148914691236517205))) 3689348814741910323) + (lA (lUshr (w64 (v0 - (lA (lUshr v0 1) 6148914691236517205))) 2) 3689348814741910323))) + (lUshr (w64 ((lA (w64 (v0 - (lA (lUshr v0 1) 6148914691236517205))) 3689348814741910323) + (lA (lUshr (w64 (v0 - (lA (lUshr v0 1) 6148914691236517205))) 2) 3689348814741910323))) 4))) 1085102592571150095) 8))) + (lUshr (w64 ((lA (w64 ((w64 ((lA (w64 (v0 - (lA (lUshr v0 1) 6148914691236517205))) 3689348814741910323) + (lA (lUshr (w64 (v0 - (lA (lUshr v0 1) 6148914691236517205))) 2) 3689348814741910323))) + (lUshr (w64 ((lA (w64 (v0 - (lA (lUshr v0 1) 6148914691236517205))) 3689348814741910323) + (lA (lUshr (w64 (v0 - (lA (lUshr v0 1) 6148914691236517205))) 2) 3689348814741910323))) 4))) 1085102592571150095) + (lUshr (lA (w64 ((w64 ((lA (w64 (v0 - (lA (lUshr v0 1) 6148914691236517205))) 3689348814741910323) + (lA (lUshr (w64 (v0 - (lA (lUshr v0 1) 6148914691236517205))) 2) 3689348814741910323))) + (lUshr (w64 ((lA (w64 (v0 - (lA (lUshr v0 1) 6148914691236517205))) 3689348814741910323) + (lA (lUshr (w64 (v0 - (lA (lUshr v0 1) 6148914691236517205))) 2) 3689348814741910323))) 4))) 1085102592571150095) 8))) 16))) + (lUshr (w64 ((w64 ((lA (w64 ((w64 ((lA (w64 (v0 - (lA (lUshr v0 1) 6148914691236517205))) 3689348814741910323) + (lA (lUshr (w64 (v0 - (lA (lUshr v0 1) 6148914691236517205))) 2) 3689348814741910323))) + (lUshr (w64 ((lA (w64 (v0 - (lA (lUshr v0 1) 6148914691236517205))) 3689348814741910323) + (lA (lUshr (w64 (v0 - (lA (lUshr v0 1) 6148914691236517205))) 2) 3689348814741910323))) 4))) 1085102592571150095) + (lUshr (lA (w64 ((w64 ((lA (w64 (v0 - (lA (lUshr v0 1) 6148914691236517205))) 3689348814741910323) + (lA (lUshr (w64 (v0 - (lA (lUshr v0 1) 6148914691236517205))) 2) 3689348814741910323))) + (lUshr (w64 ((lA (w64 (v0 - (lA (lUshr v0 1) 6148914691236517205))) 3689348814741910323) + (lA (lUshr (w64 (v0 - (lA (lUshr v0 1) 6148914691236517205))) 2) 3689348814741910323))) 4))) 1085102592571150095) 8))) + (lUshr (w64 ((lA (w64 ((w64 ((lA (w64 (v0 - (lA (lUshr v0 1) 6148914691236517205))) 3689348814741910323) + (lA (lUshr (w64 (v0 - (lA (lUshr v0 1) 6148914691236517205))) 2) 3689348814741910323))) + (lUshr (w64 ((lA (w64 (v0 - (lA (lUshr v0 1) 6148914691236517205))) 3689348814741910323) + (lA (lUshr (w64 (v0 - (lA (lUshr v0 1) 6148914691236517205))) 2) 3689348814741910323))) 4))) 1085102592571150095) + (lUshr (lA (w64 ((w64 ((lA (w64 (v0 - (lA (lUshr v0 1) 6148914691236517205))) 3689348814741910323) + (lA (lUshr (w64 (v0 - (lA (lUshr v0 1) 6148914691236517205))) 2) 3689348814741910323))) + (lUshr (w64 ((lA (w64 (v0 - (lA (lUshr v0 1) 6148914691236517205))) 3689348814741910323) + (lA (lUshr (w64 (v0 - (lA (lUshr v0 1) 6148914691236517205))) 2) 3689348814741910323))) 4))) 1085102592571150095) 8))) 16))) 32)))) 127
set_option maxRecDepth 100000 in
theorem C_J13_bitCount_95d88 {v0 : Int} {s : Sto}   : sr_C yJ13_bitCount_95d88 cJ13_bitCount_95d88 2 (some .int) 0 [vL v0] s (fun r s' => r = F_J13_bitCount_95d88 v0 s ∧ s' = s) := by
  refine sr_C.of (by decide +kernel) (Nat.le_of_ble_eq_true rfl) ?_
  show sr_G RJ13 cJ13_bitCount_95d88 2 (some .int) 0 0 [(0, vL v0)] [] s (fun r s' => r = F_J13_bitCount_95d88 v0 s ∧ s' = s)
  refine g_lload_n (pc' := 1) dJ13_bitCount_95d88_0 rfl rfl ?_
  refine g_lload_n (pc' := 2) dJ13_bitCount_95d88_1 rfl rfl ?_
  refine g_iconst (pc' := 3) (by unfold r32; decide) dJ13_bitCount_95d88_2 rfl ?_
  refine g_lushr (pc' := 4) dJ13_bitCount_95d88_3 rfl ?_
  refine g_ldc2 (pc' := 7) (z := 6148914691236517205) (by unfold r64; decide) kc_RJ13_314 dJ13_bitCount_95d88_4 rfl ?_
  refine g_land (pc' := 8) dJ13_bitCount_95d88_7 rfl ?_
  refine g_lsub (pc' := 9) dJ13_bitCount_95d88_8 rfl ?_
  refine g_lstore_n (pc' := 10) dJ13_bitCount_95d88_9 rfl (by decide) ?_
  refine g_lload_n (pc' := 11) dJ13_bitCount_95d88_10 rfl rfl ?_
  refine g_ldc2 (pc' := 14) (z := 3689348814741910323) (by unfold r64; decide) kc_RJ13_316 dJ13_bitCount_95d88_11 rfl ?_
  refine g_land (pc' := 15) dJ13_bitCount_95d88_14 rfl ?_
  refine g_lload_n (pc' := 16) dJ13_bitCount_95d88_15 rfl rfl ?_
  refine g_iconst (pc' := 17) (by unfold r32; decide) dJ13_bitCount_95d88_16 rfl ?_
  refine g_lushr (pc' := 18) dJ13_bitCount_95d88_17 rfl ?_
  refine g_ldc2 (pc' := 21) (z := 3689348814741910323) (by unfold r64; decide) kc_RJ13_316 dJ13_bitCount_95d88_18 rfl ?_
  refine g_land (pc' := 22) dJ13_bitCount_95d88_21 rfl ?_
  refine g_ladd (pc' := 23) dJ13_bitCount_95d88_22 rfl ?_
  refine g_lstore_n (pc' := 24) dJ13_bitCount_95d88_23 rfl (by decide) ?_
  refine g_lload_n (pc' := 25) dJ13_bitCount_95d88_24 rfl rfl ?_
  refine g_lload_n (pc' := 26) dJ13_bitCount_95d88_25 rfl rfl ?_
  refine g_iconst (pc' := 27) (by unfold r32; decide) dJ13_bitCount_95d88_26 rfl ?_
  refine g_lushr (pc' := 28) dJ13_bitCount_95d88_27 rfl ?_
  refine g_ladd (pc' := 29) dJ13_bitCount_95d88_28 rfl ?_
  refine g_ldc2 (pc' := 32) (z := 1085102592571150095) (by unfold r64; decide) kc_RJ13_318 dJ13_bitCount_95d88_29 rfl ?_
  refine g_land (pc' := 33) dJ13_bitCount_95d88_32 rfl ?_
  refine g_lstore_n (pc' := 34) dJ13_bitCount_95d88_33 rfl (by decide) ?_
  refine g_lload_n (pc' := 35) dJ13_bitCount_95d88_34 rfl rfl ?_
  refine g_lload_n (pc' := 36) dJ13_bitCount_95d88_35 rfl rfl ?_
  refine g_bipush (pc' := 38) ⟨by unfold r32; decide, rfl⟩ dJ13_bitCount_95d88_36 rfl ?_
  refine g_lushr (pc' := 39) dJ13_bitCount_95d88_38 rfl ?_
  refine g_ladd (pc' := 40) dJ13_bitCount_95d88_39 rfl ?_
  refine g_lstore_n (pc' := 41) dJ13_bitCount_95d88_40 rfl (by decide) ?_
  refine g_lload_n (pc' := 42) dJ13_bitCount_95d88_41 rfl rfl ?_
  refine g_lload_n (pc' := 43) dJ13_bitCount_95d88_42 rfl rfl ?_
  refine g_bipush (pc' := 45) ⟨by unfold r32; decide, rfl⟩ dJ13_bitCount_95d88_43 rfl ?_
  refine g_lushr (pc' := 46) dJ13_bitCount_95d88_45 rfl ?_
  refine g_ladd (pc' := 47) dJ13_bitCount_95d88_46 rfl ?_
  refine g_lstore_n (pc' := 48) dJ13_bitCount_95d88_47 rfl (by decide) ?_
  refine g_lload_n (pc' := 49) dJ13_bitCount_95d88_48 rfl rfl ?_
  refine g_lload_n (pc' := 50) dJ13_bitCount_95d88_49 rfl rfl ?_
  refine g_bipush (pc' := 52) ⟨by unfold r32; decide, rfl⟩ dJ13_bitCount_95d88_50 rfl ?_
  refine g_lushr (pc' := 53) dJ13_bitCount_95d88_52 rfl ?_
  refine g_ladd (pc' := 54) dJ13_bitCount_95d88_53 rfl ?_
  refine g_lstore_n (pc' := 55) dJ13_bitCount_95d88_54 rfl (by decide) ?_
  refine g_lload_n (pc' := 56) dJ13_bitCount_95d88_55 rfl rfl ?_
  refine g_l2i (pc' := 57) dJ13_bitCount_95d88_56 rfl ?_
  refine g_bipush (pc' := 59) ⟨by unfold r32; decide, rfl⟩ dJ13_bitCount_95d88_57 rfl ?_
  refine g_iand (pc' := 60) dJ13_bitCount_95d88_59 rfl ?_
  exact g_iret dJ13_bitCount_95d88_60 rfl ⟨rfl, rfl⟩
def L_X3_pickWhence_17 (v1 : Int) (s : Sto) (K41 : Int → Prop) (K52 : Prop) : Nat → Int → Int → Prop
  | 0, _, _ => False
  | n + 1, v2, v3 => ((36 ≤ v3 → K52) ∧ (¬ 36 ≤ v3 → ((lA (lShr (s 64 5) v3) 1 = 0 → L_X3_pickWhence_17 v1 s K41 K52 n v2 (w32 (v3 + 1))) ∧ (¬ lA (lShr (s 64 5) v3) 1 = 0 → ((v2 = v1 → K41 v3) ∧ (¬ v2 = v1 → L_X3_pickWhence_17 v1 s K41 K52 n (w32 (v2 + 1)) (w32 (v3 + 1))))))))
set_option maxRecDepth 100000 in
theorem SL_X3_pickWhence_17 {v1 : Int} {s : Sto} {K41 : Int → Prop} {K52 : Prop} {Q : Int → Sto → Prop}  (hK41 : ∀ v3, K41 v3 → sr_G RX3 cX3_pickWhence 4 (some .int) 1 41 [(3, vI v3)] [] s Q) (hK52 : K52 → sr_G RX3 cX3_pickWhence 4 (some .int) 1 52 [] [] s Q) : ∀ n v2 v3, L_X3_pickWhence_17 v1 s K41 K52 n v2 v3 → sr_G RX3 cX3_pickWhence 4 (some .int) 1 17 [(0, vR 64), (1, vI v1), (2, vI v2), (3, vI v3)] [] s Q := by
  intro n
  induction n with
  | zero => intro v2 v3 h; exact h.elim
  | succ n ih =>
    intro v2 v3 h
    unfold L_X3_pickWhence_17 at h
    refine g_iload_n (pc' := 18) dX3_pickWhence_17 rfl rfl ?_
    refine g_bipush (pc' := 20) ⟨by unfold r32; decide, rfl⟩ dX3_pickWhence_18 rfl ?_
    refine g_ic_ge (pc' := 23) (tgt := 52) dX3_pickWhence_20 rfl rfl (fun c1 => ?_) (fun c1 => ?_)
    · have h := h.1 c1
      exact (hK52 h).to (sb_n)
    · have h := h.2 c1
      refine g_aload_n (pc' := 24) dX3_pickWhence_23 rfl rfl ?_
      refine g_getL (pc' := 27) dX3_pickWhence_24 rfl fl_RX3_9 kd_64 rfl ?_
      refine g_iload_n (pc' := 28) dX3_pickWhence_27 rfl rfl ?_
      refine g_lshr (pc' := 29) dX3_pickWhence_28 rfl ?_
      refine g_lconst (pc' := 30) (z := 1) ⟨by unfold r64; decide, rfl⟩ dX3_pickWhence_29 rfl ?_
      refine g_land (pc' := 31) dX3_pickWhence_30 rfl ?_
      refine g_lconst (pc' := 32) (z := 0) ⟨by unfold r64; decide, rfl⟩ dX3_pickWhence_31 rfl ?_
      refine g_lc_eq (pc' := 36) (tgt := 46) dX3_pickWhence_32 dX3_pickWhence_33 rfl rfl (fun c2 => ?_) (fun c2 => ?_)
      · have h := h.1 c2
        refine g_iinc (pc' := 49) dX3_pickWhence_46 rfl rfl (by decide) ?_
        refine g_goto (pc' := 17) dX3_pickWhence_49 rfl ?_
        exact (ih _ _ h).to ((sb_c rfl (sb_c rfl (sb_c rfl (sb_c rfl sb_n)))))
      · have h := h.2 c2
        refine g_iload_n (pc' := 37) dX3_pickWhence_36 rfl rfl ?_
        refine g_iload_n (pc' := 38) dX3_pickWhence_37 rfl rfl ?_
        refine g_ic_ne (pc' := 41) (tgt := 43) dX3_pickWhence_38 rfl rfl (fun c3 => ?_) (fun c3 => ?_)
        · have h := h.2 c3
          refine g_iinc (pc' := 46) dX3_pickWhence_43 rfl rfl (by decide) ?_
          refine g_iinc (pc' := 49) dX3_pickWhence_46 rfl rfl (by decide) ?_
          refine g_goto (pc' := 17) dX3_pickWhence_49 rfl ?_
          exact (ih _ _ h).to ((sb_c rfl (sb_c rfl (sb_c rfl (sb_c rfl sb_n)))))
        · have h := h.1 c3
          exact (hK41 _ h).to ((sb_c rfl sb_n))
def P_X3_pickWhence (v1 : Int) (s : Sto) (Q : Int → Sto → Prop) : Prop := ((v1 = (-1) → Q (F_J13_bitCount_95d88 (s 64 5) s) s) ∧ (¬ v1 = (-1) → (∃ n3, L_X3_pickWhence_17 v1 s (fun x2 => Q x2 s) (Q ((-1)) s) n3 0 0)))
set_option maxRecDepth 100000 in
theorem C_X3_pickWhence {v1 : Int} {s : Sto} {Q : Int → Sto → Prop}  (h : P_X3_pickWhence v1 s Q) : sr_C yX3_pickWhence cX3_pickWhence 4 (some .int) 1 [vR 64, vI v1] s Q := by
  refine sr_C.of (by decide +kernel) (Nat.le_of_ble_eq_true rfl) ?_
  show sr_G RX3 cX3_pickWhence 4 (some .int) 1 0 [(0, vR 64), (1, vI v1)] [] s Q
  unfold P_X3_pickWhence at h
  refine g_iload_n (pc' := 1) dX3_pickWhence_0 rfl rfl ?_
  refine g_iconst (pc' := 2) (by unfold r32; decide) dX3_pickWhence_1 rfl ?_
  refine g_ic_ne (pc' := 5) (tgt := 13) dX3_pickWhence_2 rfl rfl (fun c1 => ?_) (fun c1 => ?_)
  · have h := h.2 c1
    refine g_iconst (pc' := 14) (by unfold r32; decide) dX3_pickWhence_13 rfl ?_
    refine g_istore_n (pc' := 15) dX3_pickWhence_14 rfl (by decide) ?_
    refine g_iconst (pc' := 16) (by unfold r32; decide) dX3_pickWhence_15 rfl ?_
    refine g_istore_n (pc' := 17) dX3_pickWhence_16 rfl (by decide) ?_
    obtain ⟨n3, h⟩ := h
    refine (SL_X3_pickWhence_17  (fun x2 h => ?_) (fun h => ?_) n3 _ _ h).to ((sb_c rfl (sb_c rfl (sb_c rfl (sb_c rfl sb_n)))))
    · refine g_iload_n (pc' := 42) dX3_pickWhence_41 rfl rfl ?_
      exact g_iret dX3_pickWhence_42 rfl h
    · refine g_iconst (pc' := 53) (by unfold r32; decide) dX3_pickWhence_52 rfl ?_
      exact g_iret dX3_pickWhence_53 rfl h
  · have h := h.1 c1
    refine g_aload_n (pc' := 6) dX3_pickWhence_5 rfl rfl ?_
    refine g_getL (pc' := 9) dX3_pickWhence_6 rfl fl_RX3_9 kd_64 rfl ?_
    refine g_S1i (pc' := 12) dX3_pickWhence_9 rfl ms_RX3_77 (by decide) (Nat.le_of_ble_eq_true rfl) C_J13_bitCount_95d88 (sr_pur ?_)
    exact g_iret dX3_pickWhence_12 rfl h
def L_X3_paceBits_15  (K47 : Int → Sto → Prop) : Nat → Int → Int → Sto → Prop
  | 0, _, _, _ => False
  | n + 1, v1, v2, s => ((4 < v2 → K47 v1 s) ∧ (¬ 4 < v2 → (∀ s2 : Sto, s2 = up s 44 11 v2 → (P_X3_comesOut s2 (fun r4 s3 => ((r4 = 0 → L_X3_paceBits_15 K47 n v1 (w32 (v2 + 1)) s3) ∧ (¬ r4 = 0 → (∀ x6 : Int, x6 = iO v1 (iShl 1 v2) → L_X3_paceBits_15 K47 n x6 (w32 (v2 + 1)) s3))))))))
set_option maxRecDepth 100000 in
theorem SL_X3_paceBits_15  {K47 : Int → Sto → Prop} {Q : Int → Sto → Prop}  (hK47 : ∀ v1 s, K47 v1 s → sr_G RX3 cX3_paceBits 3 (some .int) 5 47 [(1, vI v1)] [] s Q) : ∀ n v1 v2 s, L_X3_paceBits_15 K47 n v1 v2 s → sr_G RX3 cX3_paceBits 3 (some .int) 5 15 [(0, vR 64), (1, vI v1), (2, vI v2)] [] s Q := by
  intro n
  induction n with
  | zero => intro v1 v2 s h; exact h.elim
  | succ n ih =>
    intro v1 v2 s h
    unfold L_X3_paceBits_15 at h
    refine g_iload_n (pc' := 16) dX3_paceBits_15 rfl rfl ?_
    refine g_iconst (pc' := 17) (by unfold r32; decide) dX3_paceBits_16 rfl ?_
    refine g_ic_gt (pc' := 20) (tgt := 47) dX3_paceBits_17 rfl rfl (fun c1 => ?_) (fun c1 => ?_)
    · have h := h.1 c1
      exact (hK47 _ _ h).to ((sb_c rfl sb_n))
    · have h := h.2 c1
      refine g_aload_n (pc' := 21) dX3_paceBits_20 rfl rfl ?_
      refine g_getR (pc' := 24) (r := 44) dX3_paceBits_21 rfl fl_RX3_27 kd_64 rfl rf_64_2 ?_
      refine g_iload_n (pc' := 25) dX3_paceBits_24 rfl rfl ?_
      refine g_putI (pc' := 28) dX3_paceBits_25 rfl fp_RX3_83 kd_44 rfl ?_
      refine g_sto (fun s2 es2 => ?_)
      have h := h s2 es2
      refine g_aload_n (pc' := 29) dX3_paceBits_28 rfl rfl ?_
      refine g_V0z (pc' := 32) dX3_paceBits_29 rfl mv_RX3_65 kd_64 (by decide) (Nat.le_of_ble_eq_true rfl) (C_X3_comesOut h) (fun r4 s3 h => ?_)
      refine g_if_eq (pc' := 35) (tgt := 41) dX3_paceBits_32 rfl rfl (fun c5 => ?_) (fun c5 => ?_)
      · have h := h.1 c5
        refine g_iinc (pc' := 44) dX3_paceBits_41 rfl rfl (by decide) ?_
        refine g_goto (pc' := 15) dX3_paceBits_44 rfl ?_
        exact (ih _ _ _ h).to ((sb_c rfl (sb_c rfl (sb_c rfl sb_n))))
      · have h := h.2 c5
        refine g_iload_n (pc' := 36) dX3_paceBits_35 rfl rfl ?_
        refine g_iconst (pc' := 37) (by unfold r32; decide) dX3_paceBits_36 rfl ?_
        refine g_iload_n (pc' := 38) dX3_paceBits_37 rfl rfl ?_
        refine g_ishl (pc' := 39) dX3_paceBits_38 rfl ?_
        refine g_ior (pc' := 40) dX3_paceBits_39 rfl ?_
        refine g_topI (fun x6 ex6 => ?_)
        have h := h x6 ex6
        refine g_istore_n (pc' := 41) dX3_paceBits_40 rfl (by decide) ?_
        refine g_iinc (pc' := 44) dX3_paceBits_41 rfl rfl (by decide) ?_
        refine g_goto (pc' := 15) dX3_paceBits_44 rfl ?_
        exact (ih _ _ _ h).to ((sb_c rfl (sb_c rfl (sb_c rfl sb_n))))
def P_X3_paceBits (s : Sto) (Q : Int → Sto → Prop) : Prop := (P_X4_becomes 44 6 s (fun _ s1 => (∃ n5, L_X3_paceBits_15 (fun x3 s4 => Q x3 s4) n5 0 1 s1)))
set_option maxRecDepth 100000 in
theorem C_X3_paceBits {s : Sto} {Q : Int → Sto → Prop}  (h : P_X3_paceBits s Q) : sr_C yX3_paceBits cX3_paceBits 3 (some .int) 5 [vR 64] s Q := by
  refine sr_C.of (by decide +kernel) (Nat.le_of_ble_eq_true rfl) ?_
  show sr_G RX3 cX3_paceBits 3 (some .int) 5 0 [(0, vR 64)] [] s Q
  unfold P_X3_paceBits at h
  refine g_iconst (pc' := 1) (by unfold r32; decide) dX3_paceBits_0 rfl ?_
  refine g_istore_n (pc' := 2) dX3_paceBits_1 rfl (by decide) ?_
  refine g_aload_n (pc' := 3) dX3_paceBits_2 rfl rfl ?_
  refine g_getR (pc' := 6) (r := 44) dX3_paceBits_3 rfl fl_RX3_27 kd_64 rfl rf_64_2 ?_
  refine g_aload_n (pc' := 7) dX3_paceBits_6 rfl rfl ?_
  refine g_getR (pc' := 10) (r := 6) dX3_paceBits_7 rfl fl_RX3_23 kd_64 rfl rf_64_1 ?_
  refine g_V1v (pc' := 13) dX3_paceBits_10 rfl mv_RX3_54 kd_44 (by decide) (Nat.le_of_ble_eq_true rfl) (C_X4_becomes kd_44 kd_6 h) (fun s1 h => ?_)
  refine g_iconst (pc' := 14) (by unfold r32; decide) dX3_paceBits_13 rfl ?_
  refine g_istore_n (pc' := 15) dX3_paceBits_14 rfl (by decide) ?_
  obtain ⟨n5, h⟩ := h
  refine (SL_X3_paceBits_15  (fun x3 s4 h => ?_) n5 _ _ _ h).to ((sb_c rfl (sb_c rfl (sb_c rfl sb_n))))
  · refine g_iload_n (pc' := 48) dX3_paceBits_47 rfl rfl ?_
    exact g_iret dX3_paceBits_48 rfl h
def L_J7_fill_53178_5 (p0 : Nat) (v1 : Int) (v3 : Int) (K20 : Sto → Prop) : Nat → Int → Sto → Prop
  | 0, _, _ => False
  | n + 1, v2, s => ((v3 ≤ v2 → K20 s) ∧ (¬ v3 ≤ v2 → (inb v2 (al p0) ∧ (∀ s3 : Sto, s3 = up s p0 v2.toNat v1 → L_J7_fill_53178_5 p0 v1 v3 K20 n (w32 (v2 + 1)) s3))))
set_option maxRecDepth 100000 in
theorem SL_J7_fill_53178_5 {p0 : Nat} {v1 : Int} {v3 : Int} {K20 : Sto → Prop} {Q : Int → Sto → Prop} (hp0 : kd p0 = 1) (hK20 : ∀ s, K20 s → sr_G RJ7 cJ7_fill_53178 4 none 0 20 [] [] s Q) : ∀ n v2 s, L_J7_fill_53178_5 p0 v1 v3 K20 n v2 s → sr_G RJ7 cJ7_fill_53178 4 none 0 5 [(0, vR p0), (1, vI v1), (2, vI v2), (3, vI v3)] [] s Q := by
  intro n
  induction n with
  | zero => intro v2 s h; exact h.elim
  | succ n ih =>
    intro v2 s h
    unfold L_J7_fill_53178_5 at h
    refine g_iload_n (pc' := 6) dJ7_fill_53178_5 rfl rfl ?_
    refine g_iload_n (pc' := 7) dJ7_fill_53178_6 rfl rfl ?_
    refine g_ic_ge (pc' := 10) (tgt := 20) dJ7_fill_53178_7 rfl rfl (fun c1 => ?_) (fun c1 => ?_)
    · have h := h.1 c1
      exact (hK20 _ h).to (sb_n)
    · have h := h.2 c1
      refine g_aload_n (pc' := 11) dJ7_fill_53178_10 rfl rfl ?_
      refine g_iload_n (pc' := 12) dJ7_fill_53178_11 rfl rfl ?_
      refine g_iload_n (pc' := 13) dJ7_fill_53178_12 rfl rfl ?_
      obtain ⟨ob2, h⟩ := h
      refine g_iast (pc' := 14) dJ7_fill_53178_13 rfl hp0 ob2 ?_
      refine g_sto (fun s3 es3 => ?_)
      have h := h s3 es3
      refine g_iinc (pc' := 17) dJ7_fill_53178_14 rfl rfl (by decide) ?_
      refine g_goto (pc' := 5) dJ7_fill_53178_17 rfl ?_
      exact (ih _ _ h).to ((sb_c rfl (sb_c rfl (sb_c rfl (sb_c rfl sb_n)))))
def P_J7_fill_53178 (p0 : Nat) (v1 : Int) (s : Sto) (Q : Int → Sto → Prop) : Prop := (∀ x1 : Int, x1 = (al p0 : Int) → (∃ n3, L_J7_fill_53178_5 p0 v1 x1 (fun s2 => Q 0 s2) n3 0 s))
set_option maxRecDepth 100000 in
theorem C_J7_fill_53178 {p0 : Nat} {v1 : Int} {s : Sto} {Q : Int → Sto → Prop} (hp0 : kd p0 = 1) (h : P_J7_fill_53178 p0 v1 s Q) : sr_C yJ7_fill_53178 cJ7_fill_53178 4 none 0 [vR p0, vI v1] s Q := by
  refine sr_C.of (by decide +kernel) (Nat.le_of_ble_eq_true rfl) ?_
  show sr_G RJ7 cJ7_fill_53178 4 none 0 0 [(0, vR p0), (1, vI v1)] [] s Q
  unfold P_J7_fill_53178 at h
  refine g_iconst (pc' := 1) (by unfold r32; decide) dJ7_fill_53178_0 rfl ?_
  refine g_istore_n (pc' := 2) dJ7_fill_53178_1 rfl (by decide) ?_
  refine g_aload_n (pc' := 3) dJ7_fill_53178_2 rfl rfl ?_
  refine g_alen (pc' := 4) (n := (al p0 : Int)) dJ7_fill_53178_3 rfl (by rw [hp0]; decide) (by rw [hp0]; decide) rfl (al_r _) ?_
  refine g_topI (fun x1 ex1 => ?_)
  have h := h x1 ex1
  refine g_istore_n (pc' := 5) dJ7_fill_53178_4 rfl (by decide) ?_
  obtain ⟨n3, h⟩ := h
  refine (SL_J7_fill_53178_5 hp0 (fun s2 h => ?_) n3 _ _ h).to ((sb_c rfl (sb_c rfl (sb_c rfl (sb_c rfl sb_n)))))
  · exact g_vret dJ7_fill_53178_20 rfl h
def L_X3_tallyOutcomes_2  (K55 : Sto → Prop) : Nat → Int → Sto → Prop
  | 0, _, _ => False
  | n + 1, v1, s => ((s 44 6 ≤ v1 → K55 s) ∧ (¬ s 44 6 ≤ v1 → (O_X6_outcome 54 v1 s ∧ (∀ x3 : Int, x3 = w32 ((w32 (v1 * 5)) + (F_X6_outcome 54 v1 s)) → ((x3 < 0 → L_X3_tallyOutcomes_2 K55 n (w32 (v1 + 1)) s) ∧ (¬ x3 < 0 → ((40 ≤ x3 → L_X3_tallyOutcomes_2 K55 n (w32 (v1 + 1)) s) ∧ (¬ 40 ≤ x3 → (inb x3 40 ∧ (inb x3 40 ∧ (∀ s8 : Sto, s8 = up s 65 x3.toNat (w32 ((s 65 x3.toNat) + 1)) → L_X3_tallyOutcomes_2 K55 n (w32 (v1 + 1)) s8)))))))))))
set_option maxRecDepth 100000 in
theorem SL_X3_tallyOutcomes_2  {K55 : Sto → Prop} {Q : Int → Sto → Prop}  (hK55 : ∀ s, K55 s → sr_G RX3 cX3_tallyOutcomes 3 none 1 55 [] [] s Q) : ∀ n v1 s, L_X3_tallyOutcomes_2 K55 n v1 s → sr_G RX3 cX3_tallyOutcomes 3 none 1 2 [(0, vR 64), (1, vI v1)] [] s Q := by
  intro n
  induction n with
  | zero => intro v1 s h; exact h.elim
  | succ n ih =>
    intro v1 s h
    unfold L_X3_tallyOutcomes_2 at h
    refine g_iload_n (pc' := 3) dX3_tallyOutcomes_2 rfl rfl ?_
    refine g_aload_n (pc' := 4) dX3_tallyOutcomes_3 rfl rfl ?_
    refine g_getR (pc' := 7) (r := 44) dX3_tallyOutcomes_4 rfl fl_RX3_27 kd_64 rfl rf_64_2 ?_
    refine g_getI (pc' := 10) dX3_tallyOutcomes_7 rfl fl_RX3_95 kd_44 (Or.inl rfl) ?_
    refine g_ic_ge (pc' := 13) (tgt := 55) dX3_tallyOutcomes_10 rfl rfl (fun c1 => ?_) (fun c1 => ?_)
    · have h := h.1 c1
      exact (hK55 _ h).to (sb_n)
    · have h := h.2 c1
      refine g_iload_n (pc' := 14) dX3_tallyOutcomes_13 rfl rfl ?_
      refine g_iconst (pc' := 15) (by unfold r32; decide) dX3_tallyOutcomes_14 rfl ?_
      refine g_imul (pc' := 16) dX3_tallyOutcomes_15 rfl ?_
      refine g_aload_n (pc' := 17) dX3_tallyOutcomes_16 rfl rfl ?_
      refine g_getR (pc' := 20) (r := 54) dX3_tallyOutcomes_17 rfl fl_RX3_30 kd_64 rfl rf_64_3 ?_
      refine g_iload_n (pc' := 21) dX3_tallyOutcomes_20 rfl rfl ?_
      obtain ⟨ob2, h⟩ := h
      refine g_V1i (pc' := 24) dX3_tallyOutcomes_21 rfl mv_RX3_102 kd_54 (by decide) (Nat.le_of_ble_eq_true rfl) (C_X6_outcome kd_54 ob2) (sr_pur ?_)
      refine g_iadd (pc' := 25) dX3_tallyOutcomes_24 rfl ?_
      refine g_topI (fun x3 ex3 => ?_)
      have h := h x3 ex3
      refine g_istore_n (pc' := 26) dX3_tallyOutcomes_25 rfl (by decide) ?_
      refine g_iload_n (pc' := 27) dX3_tallyOutcomes_26 rfl rfl ?_
      refine g_if_lt (pc' := 30) (tgt := 49) dX3_tallyOutcomes_27 rfl rfl (fun c4 => ?_) (fun c4 => ?_)
      · have h := h.1 c4
        refine g_iinc (pc' := 52) dX3_tallyOutcomes_49 rfl rfl (by decide) ?_
        refine g_goto (pc' := 2) dX3_tallyOutcomes_52 rfl ?_
        exact (ih _ _ h).to ((sb_c rfl (sb_c rfl sb_n)))
      · have h := h.2 c4
        refine g_iload_n (pc' := 31) dX3_tallyOutcomes_30 rfl rfl ?_
        refine g_aload_n (pc' := 32) dX3_tallyOutcomes_31 rfl rfl ?_
        refine g_getR (pc' := 35) (r := 65) dX3_tallyOutcomes_32 rfl fl_RX3_15 kd_64 rfl rf_64_6 ?_
        refine g_alen (pc' := 36) (n := 40) dX3_tallyOutcomes_35 rfl (by rw [kd_65]; decide) (by rw [kd_65]; decide) rfl (by unfold r32; decide) ?_
        refine g_ic_ge (pc' := 39) (tgt := 49) dX3_tallyOutcomes_36 rfl rfl (fun c5 => ?_) (fun c5 => ?_)
        · have h := h.1 c5
          refine g_iinc (pc' := 52) dX3_tallyOutcomes_49 rfl rfl (by decide) ?_
          refine g_goto (pc' := 2) dX3_tallyOutcomes_52 rfl ?_
          exact (ih _ _ h).to ((sb_c rfl (sb_c rfl sb_n)))
        · have h := h.2 c5
          refine g_aload_n (pc' := 40) dX3_tallyOutcomes_39 rfl rfl ?_
          refine g_getR (pc' := 43) (r := 65) dX3_tallyOutcomes_40 rfl fl_RX3_15 kd_64 rfl rf_64_6 ?_
          refine g_iload_n (pc' := 44) dX3_tallyOutcomes_43 rfl rfl ?_
          refine g_dup2 (pc' := 45) dX3_tallyOutcomes_44 rfl ?_
          obtain ⟨ob6, h⟩ := h
          refine g_iald (pc' := 46) dX3_tallyOutcomes_45 rfl kd_65 ob6 ?_
          refine g_iconst (pc' := 47) (by unfold r32; decide) dX3_tallyOutcomes_46 rfl ?_
          refine g_iadd (pc' := 48) dX3_tallyOutcomes_47 rfl ?_
          obtain ⟨ob7, h⟩ := h
          refine g_iast (pc' := 49) dX3_tallyOutcomes_48 rfl kd_65 ob7 ?_
          refine g_sto (fun s8 es8 => ?_)
          have h := h s8 es8
          refine g_iinc (pc' := 52) dX3_tallyOutcomes_49 rfl rfl (by decide) ?_
          refine g_goto (pc' := 2) dX3_tallyOutcomes_52 rfl ?_
          exact (ih _ _ h).to ((sb_c rfl (sb_c rfl sb_n)))
def P_X3_tallyOutcomes (s : Sto) (Q : Int → Sto → Prop) : Prop := (∃ n2, L_X3_tallyOutcomes_2 (fun s1 => Q 0 s1) n2 0 s)
set_option maxRecDepth 100000 in
theorem C_X3_tallyOutcomes {s : Sto} {Q : Int → Sto → Prop}  (h : P_X3_tallyOutcomes s Q) : sr_C yX3_tallyOutcomes cX3_tallyOutcomes 3 none 1 [vR 64] s Q := by
  refine sr_C.of (by decide +kernel) (Nat.le_of_ble_eq_true rfl) ?_
  show sr_G RX3 cX3_tallyOutcomes 3 none 1 0 [(0, vR 64)] [] s Q
  unfold P_X3_tallyOutcomes at h
  refine g_iconst (pc' := 1) (by unfold r32; decide) dX3_tallyOutcomes_0 rfl ?_
  refine g_istore_n (pc' := 2) dX3_tallyOutcomes_1 rfl (by decide) ?_
  obtain ⟨n2, h⟩ := h
  refine (SL_X3_tallyOutcomes_2  (fun s1 h => ?_) n2 _ _ h).to ((sb_c rfl (sb_c rfl sb_n)))
  · exact g_vret dX3_tallyOutcomes_55 rfl h
def F_J9_max_7cf53 (v0 : Int) (v1 : Int) (s : Sto) : Int := (if v0 < v1 then v1 else v0)
set_option maxRecDepth 100000 in
theorem C_J9_max_7cf53 {v0 : Int} {v1 : Int} {s : Sto}   : sr_C yJ9_max_7cf53 cJ9_max_7cf53 2 (some .int) 0 [vI v0, vI v1] s (fun r s' => r = F_J9_max_7cf53 v0 v1 s ∧ s' = s) := by
  refine sr_C.of (by decide +kernel) (Nat.le_of_ble_eq_true rfl) ?_
  show sr_G RJ9 cJ9_max_7cf53 2 (some .int) 0 0 [(0, vI v0), (1, vI v1)] [] s (fun r s' => r = F_J9_max_7cf53 v0 v1 s ∧ s' = s)
  refine g_iload_n (pc' := 1) dJ9_max_7cf53_0 rfl rfl ?_
  refine g_iload_n (pc' := 2) dJ9_max_7cf53_1 rfl rfl ?_
  refine g_ic_lt (pc' := 5) (tgt := 9) dJ9_max_7cf53_2 rfl rfl (fun c1 => ?_) (fun c1 => ?_)
  · refine g_iload_n (pc' := 10) dJ9_max_7cf53_9 rfl rfl ?_
    exact g_iret dJ9_max_7cf53_10 rfl ⟨(by simp only [F_J9_max_7cf53, if_pos c1]), rfl⟩
  · refine g_iload_n (pc' := 6) dJ9_max_7cf53_5 rfl rfl ?_
    refine g_goto (pc' := 10) dJ9_max_7cf53_6 rfl ?_
    exact g_iret dJ9_max_7cf53_10 rfl ⟨(by simp only [F_J9_max_7cf53, if_neg c1]), rfl⟩
def L_X3_greatestTally_6 (v1 : Int) (s : Sto) (K41 : Int → Prop) : Nat → Int → Int → Prop
  | 0, _, _ => False
  | n + 1, v2, v3 => ((w32 ((w32 (v1 + 1)) * 5) ≤ v3 → K41 v2) ∧ (¬ w32 ((w32 (v1 + 1)) * 5) ≤ v3 → ((40 ≤ v3 → K41 v2) ∧ (¬ 40 ≤ v3 → (inb v3 40 ∧ (∀ x4 : Int, x4 = F_J9_max_7cf53 v2 (s 65 v3.toNat) s → L_X3_greatestTally_6 v1 s K41 n x4 (w32 (v3 + 1))))))))
set_option maxRecDepth 100000 in
theorem SL_X3_greatestTally_6 {v1 : Int} {s : Sto} {K41 : Int → Prop} {Q : Int → Sto → Prop}  (hK41 : ∀ v2, K41 v2 → sr_G RX3 cX3_greatestTally 4 (some .int) 1 41 [(2, vI v2)] [] s Q) : ∀ n v2 v3, L_X3_greatestTally_6 v1 s K41 n v2 v3 → sr_G RX3 cX3_greatestTally 4 (some .int) 1 6 [(0, vR 64), (1, vI v1), (2, vI v2), (3, vI v3)] [] s Q := by
  intro n
  induction n with
  | zero => intro v2 v3 h; exact h.elim
  | succ n ih =>
    intro v2 v3 h
    unfold L_X3_greatestTally_6 at h
    refine g_iload_n (pc' := 7) dX3_greatestTally_6 rfl rfl ?_
    refine g_iload_n (pc' := 8) dX3_greatestTally_7 rfl rfl ?_
    refine g_iconst (pc' := 9) (by unfold r32; decide) dX3_greatestTally_8 rfl ?_
    refine g_iadd (pc' := 10) dX3_greatestTally_9 rfl ?_
    refine g_iconst (pc' := 11) (by unfold r32; decide) dX3_greatestTally_10 rfl ?_
    refine g_imul (pc' := 12) dX3_greatestTally_11 rfl ?_
    refine g_ic_ge (pc' := 15) (tgt := 41) dX3_greatestTally_12 rfl rfl (fun c1 => ?_) (fun c1 => ?_)
    · have h := h.1 c1
      exact (hK41 _ h).to ((sb_c rfl sb_n))
    · have h := h.2 c1
      refine g_iload_n (pc' := 16) dX3_greatestTally_15 rfl rfl ?_
      refine g_aload_n (pc' := 17) dX3_greatestTally_16 rfl rfl ?_
      refine g_getR (pc' := 20) (r := 65) dX3_greatestTally_17 rfl fl_RX3_15 kd_64 rfl rf_64_6 ?_
      refine g_alen (pc' := 21) (n := 40) dX3_greatestTally_20 rfl (by rw [kd_65]; decide) (by rw [kd_65]; decide) rfl (by unfold r32; decide) ?_
      refine g_ic_ge (pc' := 24) (tgt := 41) dX3_greatestTally_21 rfl rfl (fun c2 => ?_) (fun c2 => ?_)
      · have h := h.1 c2
        exact (hK41 _ h).to ((sb_c rfl sb_n))
      · have h := h.2 c2
        refine g_iload_n (pc' := 25) dX3_greatestTally_24 rfl rfl ?_
        refine g_aload_n (pc' := 26) dX3_greatestTally_25 rfl rfl ?_
        refine g_getR (pc' := 29) (r := 65) dX3_greatestTally_26 rfl fl_RX3_15 kd_64 rfl rf_64_6 ?_
        refine g_iload_n (pc' := 30) dX3_greatestTally_29 rfl rfl ?_
        obtain ⟨ob3, h⟩ := h
        refine g_iald (pc' := 31) dX3_greatestTally_30 rfl kd_65 ob3 ?_
        refine g_S2i (pc' := 34) dX3_greatestTally_31 rfl ms_RX3_105 (by decide) (Nat.le_of_ble_eq_true rfl) C_J9_max_7cf53 (sr_pur ?_)
        refine g_topI (fun x4 ex4 => ?_)
        have h := h x4 ex4
        refine g_istore_n (pc' := 35) dX3_greatestTally_34 rfl (by decide) ?_
        refine g_iinc (pc' := 38) dX3_greatestTally_35 rfl rfl (by decide) ?_
        refine g_goto (pc' := 6) dX3_greatestTally_38 rfl ?_
        exact (ih _ _ h).to ((sb_c rfl (sb_c rfl (sb_c rfl (sb_c rfl sb_n)))))
def P_X3_greatestTally (v1 : Int) (s : Sto) (Q : Int → Sto → Prop) : Prop := (∀ x1 : Int, x1 = w32 (v1 * 5) → (∃ n3, L_X3_greatestTally_6 v1 s (fun x2 => Q x2 s) n3 0 x1))
set_option maxRecDepth 100000 in
theorem C_X3_greatestTally {v1 : Int} {s : Sto} {Q : Int → Sto → Prop}  (h : P_X3_greatestTally v1 s Q) : sr_C yX3_greatestTally cX3_greatestTally 4 (some .int) 1 [vR 64, vI v1] s Q := by
  refine sr_C.of (by decide +kernel) (Nat.le_of_ble_eq_true rfl) ?_
  show sr_G RX3 cX3_greatestTally 4 (some .int) 1 0 [(0, vR 64), (1, vI v1)] [] s Q
  unfold P_X3_greatestTally at h
  refine g_iconst (pc' := 1) (by unfold r32; decide) dX3_greatestTally_0 rfl ?_
  refine g_istore_n (pc' := 2) dX3_greatestTally_1 rfl (by decide) ?_
  refine g_iload_n (pc' := 3) dX3_greatestTally_2 rfl rfl ?_
  refine g_iconst (pc' := 4) (by unfold r32; decide) dX3_greatestTally_3 rfl ?_
  refine g_imul (pc' := 5) dX3_greatestTally_4 rfl ?_
  refine g_topI (fun x1 ex1 => ?_)
  have h := h x1 ex1
  refine g_istore_n (pc' := 6) dX3_greatestTally_5 rfl (by decide) ?_
  obtain ⟨n3, h⟩ := h
  refine (SL_X3_greatestTally_6  (fun x2 h => ?_) n3 _ _ h).to ((sb_c rfl (sb_c rfl (sb_c rfl (sb_c rfl sb_n)))))
  · refine g_iload_n (pc' := 42) dX3_greatestTally_41 rfl rfl ?_
    exact g_iret dX3_greatestTally_42 rfl h
def L_X3_bestAsk_21  (K100 : Sto → Prop) : Nat → Int → Sto → Prop
  | 0, _, _ => False
  | n + 1, v1, s => ((s 44 0 ≤ v1 → K100 s) ∧ (¬ s 44 0 ≤ v1 → (inb v1 8 ∧ (∀ s3 : Sto, s3 = up s 45 v1.toNat 20 → (P_X6_playAll 54 44 s3 (fun _ s4 => (P_X8_allSo 44 54 s4 (fun r7 s6 => ((r7 = 0 → (inb v1 8 ∧ (inb v1 8 ∧ (∀ s11 : Sto, s11 = up s6 45 v1.toNat (s6 7 v1.toNat) → L_X3_bestAsk_21 K100 n (w32 (v1 + 1)) s11)))) ∧ (¬ r7 = 0 → (P_X3_tallyOutcomes s6 (fun _ s12 => (inb v1 8 ∧ (inb v1 8 ∧ (∀ s16 : Sto, s16 = up s12 45 v1.toNat (s12 7 v1.toNat) → L_X3_bestAsk_21 K100 n (w32 (v1 + 1)) s16)))))))))))))))
set_option maxRecDepth 100000 in
theorem SL_X3_bestAsk_21  {K100 : Sto → Prop} {Q : Int → Sto → Prop}  (hK100 : ∀ s, K100 s → sr_G RX3 cX3_bestAsk 5 (some .int) 4 100 [(0, vR 64)] [] s Q) : ∀ n v1 s, L_X3_bestAsk_21 K100 n v1 s → sr_G RX3 cX3_bestAsk 5 (some .int) 4 21 [(0, vR 64), (1, vI v1)] [] s Q := by
  intro n
  induction n with
  | zero => intro v1 s h; exact h.elim
  | succ n ih =>
    intro v1 s h
    unfold L_X3_bestAsk_21 at h
    refine g_iload_n (pc' := 22) dX3_bestAsk_21 rfl rfl ?_
    refine g_aload_n (pc' := 23) dX3_bestAsk_22 rfl rfl ?_
    refine g_getR (pc' := 26) (r := 44) dX3_bestAsk_23 rfl fl_RX3_27 kd_64 rfl rf_64_2 ?_
    refine g_getI (pc' := 29) dX3_bestAsk_26 rfl fl_RX3_59 kd_44 (Or.inl rfl) ?_
    refine g_ic_ge (pc' := 32) (tgt := 100) dX3_bestAsk_29 rfl rfl (fun c1 => ?_) (fun c1 => ?_)
    · have h := h.1 c1
      exact (hK100 _ h).to ((sb_c rfl sb_n))
    · have h := h.2 c1
      refine g_aload_n (pc' := 33) dX3_bestAsk_32 rfl rfl ?_
      refine g_getR (pc' := 36) (r := 44) dX3_bestAsk_33 rfl fl_RX3_27 kd_64 rfl rf_64_2 ?_
      refine g_getR (pc' := 39) (r := 45) dX3_bestAsk_36 rfl fl_RX3_62 kd_44 rfl rf_44_1 ?_
      refine g_iload_n (pc' := 40) dX3_bestAsk_39 rfl rfl ?_
      refine g_bipush (pc' := 42) ⟨by unfold r32; decide, rfl⟩ dX3_bestAsk_40 rfl ?_
      obtain ⟨ob2, h⟩ := h
      refine g_iast (pc' := 43) dX3_bestAsk_42 rfl kd_45 ob2 ?_
      refine g_sto (fun s3 es3 => ?_)
      have h := h s3 es3
      refine g_aload_n (pc' := 44) dX3_bestAsk_43 rfl rfl ?_
      refine g_getR (pc' := 47) (r := 54) dX3_bestAsk_44 rfl fl_RX3_30 kd_64 rfl rf_64_3 ?_
      refine g_aload_n (pc' := 48) dX3_bestAsk_47 rfl rfl ?_
      refine g_getR (pc' := 51) (r := 44) dX3_bestAsk_48 rfl fl_RX3_27 kd_64 rfl rf_64_2 ?_
      refine g_V1v (pc' := 54) dX3_bestAsk_51 rfl mv_RX3_44 kd_54 (by decide) (Nat.le_of_ble_eq_true rfl) (C_X6_playAll kd_54 kd_44 h) (fun s4 h => ?_)
      refine g_aload_n (pc' := 55) dX3_bestAsk_54 rfl rfl ?_
      refine g_getR (pc' := 58) (r := 26) dX3_bestAsk_55 rfl fl_RX3_34 kd_64 rfl rf_64_4 ?_
      refine g_aload_n (pc' := 59) dX3_bestAsk_58 rfl rfl ?_
      refine g_getR (pc' := 62) (r := 44) dX3_bestAsk_59 rfl fl_RX3_27 kd_64 rfl rf_64_2 ?_
      refine g_aload_n (pc' := 63) dX3_bestAsk_62 rfl rfl ?_
      refine g_getR (pc' := 66) (r := 54) dX3_bestAsk_63 rfl fl_RX3_30 kd_64 rfl rf_64_3 ?_
      refine g_V2z (pc' := 69) dX3_bestAsk_66 rfl mv_RX3_50 kd_26 (by decide) (Nat.le_of_ble_eq_true rfl) (C_X8_allSo kd_44 kd_54 h) (fun r7 s6 h => ?_)
      refine g_if_eq (pc' := 72) (tgt := 76) dX3_bestAsk_69 rfl rfl (fun c8 => ?_) (fun c8 => ?_)
      · have h := h.1 c8
        refine g_aload_n (pc' := 77) dX3_bestAsk_76 rfl rfl ?_
        refine g_getR (pc' := 80) (r := 44) dX3_bestAsk_77 rfl fl_RX3_27 kd_64 rfl rf_64_2 ?_
        refine g_getR (pc' := 83) (r := 45) dX3_bestAsk_80 rfl fl_RX3_62 kd_44 rfl rf_44_1 ?_
        refine g_iload_n (pc' := 84) dX3_bestAsk_83 rfl rfl ?_
        refine g_aload_n (pc' := 85) dX3_bestAsk_84 rfl rfl ?_
        refine g_getR (pc' := 88) (r := 6) dX3_bestAsk_85 rfl fl_RX3_23 kd_64 rfl rf_64_1 ?_
        refine g_getR (pc' := 91) (r := 7) dX3_bestAsk_88 rfl fl_RX3_62 kd_6 rfl rf_6_1 ?_
        refine g_iload_n (pc' := 92) dX3_bestAsk_91 rfl rfl ?_
        obtain ⟨ob9, h⟩ := h
        refine g_iald (pc' := 93) dX3_bestAsk_92 rfl kd_7 ob9 ?_
        obtain ⟨ob10, h⟩ := h
        refine g_iast (pc' := 94) dX3_bestAsk_93 rfl kd_45 ob10 ?_
        refine g_sto (fun s11 es11 => ?_)
        have h := h s11 es11
        refine g_iinc (pc' := 97) dX3_bestAsk_94 rfl rfl (by decide) ?_
        refine g_goto (pc' := 21) dX3_bestAsk_97 rfl ?_
        exact (ih _ _ h).to ((sb_c rfl (sb_c rfl sb_n)))
      · have h := h.2 c8
        refine g_aload_n (pc' := 73) dX3_bestAsk_72 rfl rfl ?_
        refine g_V0v (pc' := 76) dX3_bestAsk_73 rfl mv_RX3_92 kd_64 (by decide) (Nat.le_of_ble_eq_true rfl) (C_X3_tallyOutcomes h) (fun s12 h => ?_)
        refine g_aload_n (pc' := 77) dX3_bestAsk_76 rfl rfl ?_
        refine g_getR (pc' := 80) (r := 44) dX3_bestAsk_77 rfl fl_RX3_27 kd_64 rfl rf_64_2 ?_
        refine g_getR (pc' := 83) (r := 45) dX3_bestAsk_80 rfl fl_RX3_62 kd_44 rfl rf_44_1 ?_
        refine g_iload_n (pc' := 84) dX3_bestAsk_83 rfl rfl ?_
        refine g_aload_n (pc' := 85) dX3_bestAsk_84 rfl rfl ?_
        refine g_getR (pc' := 88) (r := 6) dX3_bestAsk_85 rfl fl_RX3_23 kd_64 rfl rf_64_1 ?_
        refine g_getR (pc' := 91) (r := 7) dX3_bestAsk_88 rfl fl_RX3_62 kd_6 rfl rf_6_1 ?_
        refine g_iload_n (pc' := 92) dX3_bestAsk_91 rfl rfl ?_
        obtain ⟨ob14, h⟩ := h
        refine g_iald (pc' := 93) dX3_bestAsk_92 rfl kd_7 ob14 ?_
        obtain ⟨ob15, h⟩ := h
        refine g_iast (pc' := 94) dX3_bestAsk_93 rfl kd_45 ob15 ?_
        refine g_sto (fun s16 es16 => ?_)
        have h := h s16 es16
        refine g_iinc (pc' := 97) dX3_bestAsk_94 rfl rfl (by decide) ?_
        refine g_goto (pc' := 21) dX3_bestAsk_97 rfl ?_
        exact (ih _ _ h).to ((sb_c rfl (sb_c rfl sb_n)))
def L_X3_bestAsk_107  (K142 : Int → Sto → Prop) : Nat → Int → Int → Int → Sto → Prop
  | 0, _, _, _, _ => False
  | n + 1, v1, v2, v3, s => ((s 44 6 ≤ v3 → K142 v1 s) ∧ (¬ s 44 6 ≤ v3 → (P_X3_greatestTally v3 s (fun r3 s2 => ((v2 ≤ r3 → L_X3_bestAsk_107 K142 n v1 v2 (w32 (v3 + 1)) s2) ∧ (¬ v2 ≤ r3 → L_X3_bestAsk_107 K142 n v3 r3 (w32 (v3 + 1)) s2))))))
set_option maxRecDepth 100000 in
theorem SL_X3_bestAsk_107  {K142 : Int → Sto → Prop} {Q : Int → Sto → Prop}  (hK142 : ∀ v1 s, K142 v1 s → sr_G RX3 cX3_bestAsk 5 (some .int) 4 142 [(1, vI v1)] [] s Q) : ∀ n v1 v2 v3 s, L_X3_bestAsk_107 K142 n v1 v2 v3 s → sr_G RX3 cX3_bestAsk 5 (some .int) 4 107 [(0, vR 64), (1, vI v1), (2, vI v2), (3, vI v3)] [] s Q := by
  intro n
  induction n with
  | zero => intro v1 v2 v3 s h; exact h.elim
  | succ n ih =>
    intro v1 v2 v3 s h
    unfold L_X3_bestAsk_107 at h
    refine g_iload_n (pc' := 108) dX3_bestAsk_107 rfl rfl ?_
    refine g_aload_n (pc' := 109) dX3_bestAsk_108 rfl rfl ?_
    refine g_getR (pc' := 112) (r := 44) dX3_bestAsk_109 rfl fl_RX3_27 kd_64 rfl rf_64_2 ?_
    refine g_getI (pc' := 115) dX3_bestAsk_112 rfl fl_RX3_95 kd_44 (Or.inl rfl) ?_
    refine g_ic_ge (pc' := 118) (tgt := 142) dX3_bestAsk_115 rfl rfl (fun c1 => ?_) (fun c1 => ?_)
    · have h := h.1 c1
      exact (hK142 _ _ h).to ((sb_c rfl sb_n))
    · have h := h.2 c1
      refine g_aload_n (pc' := 119) dX3_bestAsk_118 rfl rfl ?_
      refine g_iload_n (pc' := 120) dX3_bestAsk_119 rfl rfl ?_
      refine g_V1i (pc' := 123) dX3_bestAsk_120 rfl mv_RX3_98 kd_64 (by decide) (Nat.le_of_ble_eq_true rfl) (C_X3_greatestTally h) (fun r3 s2 h => ?_)
      refine g_istore (pc' := 125) dX3_bestAsk_123 rfl (by decide) ?_
      refine g_iload (pc' := 127) dX3_bestAsk_125 rfl rfl ?_
      refine g_iload_n (pc' := 128) dX3_bestAsk_127 rfl rfl ?_
      refine g_ic_ge (pc' := 131) (tgt := 136) dX3_bestAsk_128 rfl rfl (fun c4 => ?_) (fun c4 => ?_)
      · have h := h.1 c4
        refine g_iinc (pc' := 139) dX3_bestAsk_136 rfl rfl (by decide) ?_
        refine g_goto (pc' := 107) dX3_bestAsk_139 rfl ?_
        exact (ih _ _ _ _ h).to ((sb_c rfl (sb_c rfl (sb_c rfl (sb_c rfl sb_n)))))
      · have h := h.2 c4
        refine g_iload (pc' := 133) dX3_bestAsk_131 rfl rfl ?_
        refine g_istore_n (pc' := 134) dX3_bestAsk_133 rfl (by decide) ?_
        refine g_iload_n (pc' := 135) dX3_bestAsk_134 rfl rfl ?_
        refine g_istore_n (pc' := 136) dX3_bestAsk_135 rfl (by decide) ?_
        refine g_iinc (pc' := 139) dX3_bestAsk_136 rfl rfl (by decide) ?_
        refine g_goto (pc' := 107) dX3_bestAsk_139 rfl ?_
        exact (ih _ _ _ _ h).to ((sb_c rfl (sb_c rfl (sb_c rfl (sb_c rfl sb_n)))))
def P_X3_bestAsk (s : Sto) (Q : Int → Sto → Prop) : Prop := (P_J7_fill_53178 65 0 s (fun _ s1 => (P_X4_becomes 44 6 s1 (fun _ s3 => (∃ n9, L_X3_bestAsk_21 (fun s5 => (∃ n8, L_X3_bestAsk_107 (fun x6 s7 => Q x6 s7) n8 ((-1)) 9 0 s5)) n9 0 s3)))))
set_option maxRecDepth 100000 in
theorem C_X3_bestAsk {s : Sto} {Q : Int → Sto → Prop}  (h : P_X3_bestAsk s Q) : sr_C yX3_bestAsk cX3_bestAsk 5 (some .int) 4 [vR 64] s Q := by
  refine sr_C.of (by decide +kernel) (Nat.le_of_ble_eq_true rfl) ?_
  show sr_G RX3 cX3_bestAsk 5 (some .int) 4 0 [(0, vR 64)] [] s Q
  unfold P_X3_bestAsk at h
  refine g_aload_n (pc' := 1) dX3_bestAsk_0 rfl rfl ?_
  refine g_getR (pc' := 4) (r := 65) dX3_bestAsk_1 rfl fl_RX3_15 kd_64 rfl rf_64_6 ?_
  refine g_iconst (pc' := 5) (by unfold r32; decide) dX3_bestAsk_4 rfl ?_
  refine g_S2v (pc' := 8) dX3_bestAsk_5 rfl ms_RX3_86 (by decide) (Nat.le_of_ble_eq_true rfl) (C_J7_fill_53178 kd_65 h) (fun s1 h => ?_)
  refine g_aload_n (pc' := 9) dX3_bestAsk_8 rfl rfl ?_
  refine g_getR (pc' := 12) (r := 44) dX3_bestAsk_9 rfl fl_RX3_27 kd_64 rfl rf_64_2 ?_
  refine g_aload_n (pc' := 13) dX3_bestAsk_12 rfl rfl ?_
  refine g_getR (pc' := 16) (r := 6) dX3_bestAsk_13 rfl fl_RX3_23 kd_64 rfl rf_64_1 ?_
  refine g_V1v (pc' := 19) dX3_bestAsk_16 rfl mv_RX3_54 kd_44 (by decide) (Nat.le_of_ble_eq_true rfl) (C_X4_becomes kd_44 kd_6 h) (fun s3 h => ?_)
  refine g_iconst (pc' := 20) (by unfold r32; decide) dX3_bestAsk_19 rfl ?_
  refine g_istore_n (pc' := 21) dX3_bestAsk_20 rfl (by decide) ?_
  obtain ⟨n9, h⟩ := h
  refine (SL_X3_bestAsk_21  (fun s5 h => ?_) n9 _ _ h).to ((sb_c rfl (sb_c rfl sb_n)))
  · refine g_iconst (pc' := 101) (by unfold r32; decide) dX3_bestAsk_100 rfl ?_
    refine g_istore_n (pc' := 102) dX3_bestAsk_101 rfl (by decide) ?_
    refine g_bipush (pc' := 104) ⟨by unfold r32; decide, rfl⟩ dX3_bestAsk_102 rfl ?_
    refine g_istore_n (pc' := 105) dX3_bestAsk_104 rfl (by decide) ?_
    refine g_iconst (pc' := 106) (by unfold r32; decide) dX3_bestAsk_105 rfl ?_
    refine g_istore_n (pc' := 107) dX3_bestAsk_106 rfl (by decide) ?_
    obtain ⟨n8, h⟩ := h
    refine (SL_X3_bestAsk_107  (fun x6 s7 h => ?_) n8 _ _ _ _ h).to ((sb_c rfl (sb_c rfl (sb_c rfl (sb_c rfl sb_n)))))
    · refine g_iload_n (pc' := 143) dX3_bestAsk_142 rfl rfl ?_
      exact g_iret dX3_bestAsk_143 rfl h
def F_X4_upkeep (o : Nat) (v1 : Int) (s : Sto) : Int := (if s (o + 8) v1.toNat = 0 then w32 ((s (o + 7) v1.toNat) * 3) else (if s (o + 8) v1.toNat = 1 then w32 ((s (o + 7) v1.toNat) * 2) else w32 ((s (o + 7) v1.toNat) * 1)))
def O_X4_upkeep (o : Nat) (v1 : Int) (s : Sto) : Prop := (inb v1 8 ∧ (inb v1 8 ∧ ((s (o + 8) v1.toNat = 0 → True) ∧ (¬ s (o + 8) v1.toNat = 0 → (inb v1 8 ∧ True)))))
set_option maxRecDepth 100000 in
theorem C_X4_upkeep {o : Nat} {v1 : Int} {s : Sto} (ho : kd o = 14) (h : O_X4_upkeep o v1 s) : sr_C yX4_upkeep cX4_upkeep 2 (some .int) 0 [vR o, vI v1] s (fun r s' => r = F_X4_upkeep o v1 s ∧ s' = s) := by
  refine sr_C.of (by decide +kernel) (Nat.le_of_ble_eq_true rfl) ?_
  show sr_G RX4 cX4_upkeep 2 (some .int) 0 0 [(0, vR o), (1, vI v1)] [] s (fun r s' => r = F_X4_upkeep o v1 s ∧ s' = s)
  unfold O_X4_upkeep at h
  refine g_aload_n (pc' := 1) dX4_upkeep_0 rfl rfl ?_
  refine g_getR (pc' := 4) (r := o + 7) dX4_upkeep_1 rfl fl_RX4_37 ho rfl (ly_4_8 ho) ?_
  refine g_iload_n (pc' := 5) dX4_upkeep_4 rfl rfl ?_
  obtain ⟨ob1, h⟩ := h
  refine g_iald (pc' := 6) dX4_upkeep_5 rfl (lk_4_8 ho) (Eq.mpr (congrArg (inb _) (la_4_8 ho)) ob1) ?_
  refine g_aload_n (pc' := 7) dX4_upkeep_6 rfl rfl ?_
  refine g_getR (pc' := 10) (r := o + 8) dX4_upkeep_7 rfl fl_RX4_40 ho rfl (ly_4_9 ho) ?_
  refine g_iload_n (pc' := 11) dX4_upkeep_10 rfl rfl ?_
  obtain ⟨ob2, h⟩ := h
  refine g_iald (pc' := 12) dX4_upkeep_11 rfl (lk_4_9 ho) (Eq.mpr (congrArg (inb _) (la_4_9 ho)) ob2) ?_
  refine g_if_ne (pc' := 15) (tgt := 19) dX4_upkeep_12 rfl rfl (fun c3 => ?_) (fun c3 => ?_)
  · have h := h.2 c3
    refine g_aload_n (pc' := 20) dX4_upkeep_19 rfl rfl ?_
    refine g_getR (pc' := 23) (r := o + 8) dX4_upkeep_20 rfl fl_RX4_40 ho rfl (ly_4_9 ho) ?_
    refine g_iload_n (pc' := 24) dX4_upkeep_23 rfl rfl ?_
    obtain ⟨ob4, h⟩ := h
    refine g_iald (pc' := 25) dX4_upkeep_24 rfl (lk_4_9 ho) (Eq.mpr (congrArg (inb _) (la_4_9 ho)) ob4) ?_
    refine g_iconst (pc' := 26) (by unfold r32; decide) dX4_upkeep_25 rfl ?_
    refine g_ic_ne (pc' := 29) (tgt := 33) dX4_upkeep_26 rfl rfl (fun c5 => ?_) (fun c5 => ?_)
    · refine g_iconst (pc' := 34) (by unfold r32; decide) dX4_upkeep_33 rfl ?_
      refine g_imul (pc' := 35) dX4_upkeep_34 rfl ?_
      exact g_iret dX4_upkeep_35 rfl ⟨(by simp only [F_X4_upkeep, if_neg c3, if_neg c5]), rfl⟩
    · refine g_iconst (pc' := 30) (by unfold r32; decide) dX4_upkeep_29 rfl ?_
      refine g_goto (pc' := 34) dX4_upkeep_30 rfl ?_
      refine g_imul (pc' := 35) dX4_upkeep_34 rfl ?_
      exact g_iret dX4_upkeep_35 rfl ⟨(by simp only [F_X4_upkeep, if_neg c3, if_pos c5]), rfl⟩
  · have h := h.1 c3
    refine g_iconst (pc' := 16) (by unfold r32; decide) dX4_upkeep_15 rfl ?_
    refine g_goto (pc' := 34) dX4_upkeep_16 rfl ?_
    refine g_imul (pc' := 35) dX4_upkeep_34 rfl ?_
    exact g_iret dX4_upkeep_35 rfl ⟨(by simp only [F_X4_upkeep, if_pos c3]), rfl⟩
def F_X9_sign (o : Nat) (v1 : Int) (s : Sto) : Int := (if v1 < 0 then (-1) else (if s o 1 ≤ v1 then (-1) else s (o + 1) v1.toNat))
def O_X9_sign (o : Nat) (v1 : Int) (s : Sto) : Prop := ((v1 < 0 → True) ∧ (¬ v1 < 0 → ((s o 1 ≤ v1 → True) ∧ (¬ s o 1 ≤ v1 → (inb v1 (al (o + 1)) ∧ True)))))
set_option maxRecDepth 100000 in
theorem C_X9_sign {o : Nat} {v1 : Int} {s : Sto} (ho : kd o = 19) (h : O_X9_sign o v1 s) : sr_C yX9_sign cX9_sign 2 (some .int) 0 [vR o, vI v1] s (fun r s' => r = F_X9_sign o v1 s ∧ s' = s) := by
  refine sr_C.of (by decide +kernel) (Nat.le_of_ble_eq_true rfl) ?_
  show sr_G RX9 cX9_sign 2 (some .int) 0 0 [(0, vR o), (1, vI v1)] [] s (fun r s' => r = F_X9_sign o v1 s ∧ s' = s)
  unfold O_X9_sign at h
  refine g_iload_n (pc' := 1) dX9_sign_0 rfl rfl ?_
  refine g_if_lt (pc' := 4) (tgt := 21) dX9_sign_1 rfl rfl (fun c1 => ?_) (fun c1 => ?_)
  · have h := h.1 c1
    refine g_iconst (pc' := 22) (by unfold r32; decide) dX9_sign_21 rfl ?_
    exact g_iret dX9_sign_22 rfl ⟨(by simp only [F_X9_sign, if_pos c1]), rfl⟩
  · have h := h.2 c1
    refine g_iload_n (pc' := 5) dX9_sign_4 rfl rfl ?_
    refine g_aload_n (pc' := 6) dX9_sign_5 rfl rfl ?_
    refine g_getI (pc' := 9) dX9_sign_6 rfl fl_RX9_9 ho (Or.inl rfl) ?_
    refine g_ic_ge (pc' := 12) (tgt := 21) dX9_sign_9 rfl rfl (fun c2 => ?_) (fun c2 => ?_)
    · have h := h.1 c2
      refine g_iconst (pc' := 22) (by unfold r32; decide) dX9_sign_21 rfl ?_
      exact g_iret dX9_sign_22 rfl ⟨(by simp only [F_X9_sign, if_neg c1, if_pos c2]), rfl⟩
    · have h := h.2 c2
      refine g_aload_n (pc' := 13) dX9_sign_12 rfl rfl ?_
      refine g_getR (pc' := 16) (r := o + 1) dX9_sign_13 rfl fl_RX9_21 ho rfl (ly_9_0 ho) ?_
      refine g_iload_n (pc' := 17) dX9_sign_16 rfl rfl ?_
      obtain ⟨ob3, h⟩ := h
      refine g_iald (pc' := 18) dX9_sign_17 rfl (lk_9_0 ho) ob3 ?_
      refine g_goto (pc' := 22) dX9_sign_18 rfl ?_
      exact g_iret dX9_sign_22 rfl ⟨(by simp only [F_X9_sign, if_neg c1, if_neg c2]), rfl⟩
def F_X4_fitsThing (v0 : Int) (v1 : Int) (s : Sto) : Int := (if v0 = 0 then (if v1 < 48 then 0 else (if 51 < v1 then 0 else 1)) else (if v0 = 1 then (if v1 < 48 then 0 else (if 57 < v1 then 0 else 1)) else (if v0 = 2 then (if v1 < 49 then 0 else (if 57 < v1 then 0 else 1)) else (if v0 = 3 then (if v1 = 112 then 1 else (if v1 = 98 then 1 else (if v1 = 116 then 1 else 0))) else (if v1 = 59 then 1 else 0)))))
set_option maxRecDepth 100000 in
theorem C_X4_fitsThing {v0 : Int} {v1 : Int} {s : Sto}   : sr_C yX4_fitsThing cX4_fitsThing 2 (some .boolean) 0 [vI v0, vI v1] s (fun r s' => r = F_X4_fitsThing v0 v1 s ∧ s' = s ∧ (r = 0 ∨ r = 1)) := by
  refine sr_C.of (by decide +kernel) (Nat.le_of_ble_eq_true rfl) ?_
  show sr_G RX4 cX4_fitsThing 2 (some .boolean) 0 0 [(0, vI v0), (1, vI v1)] [] s (fun r s' => r = F_X4_fitsThing v0 v1 s ∧ s' = s ∧ (r = 0 ∨ r = 1))
  refine g_iload_n (pc' := 1) dX4_fitsThing_0 rfl rfl ?_
  by_cases c1 : v0 = 0
  · refine g_tabIn (pc' := 32) dX4_fitsThing_1 (le_of_le_of_eq (by decide) c1.symm) (le_of_eq_of_le c1 (by decide)) (by rw [c1]; rfl) rfl ?_
    refine g_iload_n (pc' := 33) dX4_fitsThing_32 rfl rfl ?_
    refine g_bipush (pc' := 35) ⟨by unfold r32; decide, rfl⟩ dX4_fitsThing_33 rfl ?_
    refine g_ic_lt (pc' := 38) (tgt := 48) dX4_fitsThing_35 rfl rfl (fun c2 => ?_) (fun c2 => ?_)
    · refine g_iconst (pc' := 49) (by unfold r32; decide) dX4_fitsThing_48 rfl ?_
      exact g_zret dX4_fitsThing_49 rfl (Or.inl rfl) ⟨(by simp only [F_X4_fitsThing, if_pos c1, if_pos c2]), rfl, (Or.inl rfl)⟩
    · refine g_iload_n (pc' := 39) dX4_fitsThing_38 rfl rfl ?_
      refine g_bipush (pc' := 41) ⟨by unfold r32; decide, rfl⟩ dX4_fitsThing_39 rfl ?_
      refine g_ic_gt (pc' := 44) (tgt := 48) dX4_fitsThing_41 rfl rfl (fun c3 => ?_) (fun c3 => ?_)
      · refine g_iconst (pc' := 49) (by unfold r32; decide) dX4_fitsThing_48 rfl ?_
        exact g_zret dX4_fitsThing_49 rfl (Or.inl rfl) ⟨(by simp only [F_X4_fitsThing, if_pos c1, if_neg c2, if_pos c3]), rfl, (Or.inl rfl)⟩
      · refine g_iconst (pc' := 45) (by unfold r32; decide) dX4_fitsThing_44 rfl ?_
        refine g_goto (pc' := 49) dX4_fitsThing_45 rfl ?_
        exact g_zret dX4_fitsThing_49 rfl (Or.inr rfl) ⟨(by simp only [F_X4_fitsThing, if_pos c1, if_neg c2, if_neg c3]), rfl, (Or.inr rfl)⟩
  · by_cases c4 : v0 = 1
    · refine g_tabIn (pc' := 50) dX4_fitsThing_1 (le_of_le_of_eq (by decide) c4.symm) (le_of_eq_of_le c4 (by decide)) (by rw [c4]; rfl) rfl ?_
      refine g_iload_n (pc' := 51) dX4_fitsThing_50 rfl rfl ?_
      refine g_bipush (pc' := 53) ⟨by unfold r32; decide, rfl⟩ dX4_fitsThing_51 rfl ?_
      refine g_ic_lt (pc' := 56) (tgt := 66) dX4_fitsThing_53 rfl rfl (fun c5 => ?_) (fun c5 => ?_)
      · refine g_iconst (pc' := 67) (by unfold r32; decide) dX4_fitsThing_66 rfl ?_
        exact g_zret dX4_fitsThing_67 rfl (Or.inl rfl) ⟨(by simp only [F_X4_fitsThing, if_neg c1, if_pos c4, if_pos c5]), rfl, (Or.inl rfl)⟩
      · refine g_iload_n (pc' := 57) dX4_fitsThing_56 rfl rfl ?_
        refine g_bipush (pc' := 59) ⟨by unfold r32; decide, rfl⟩ dX4_fitsThing_57 rfl ?_
        refine g_ic_gt (pc' := 62) (tgt := 66) dX4_fitsThing_59 rfl rfl (fun c6 => ?_) (fun c6 => ?_)
        · refine g_iconst (pc' := 67) (by unfold r32; decide) dX4_fitsThing_66 rfl ?_
          exact g_zret dX4_fitsThing_67 rfl (Or.inl rfl) ⟨(by simp only [F_X4_fitsThing, if_neg c1, if_pos c4, if_neg c5, if_pos c6]), rfl, (Or.inl rfl)⟩
        · refine g_iconst (pc' := 63) (by unfold r32; decide) dX4_fitsThing_62 rfl ?_
          refine g_goto (pc' := 67) dX4_fitsThing_63 rfl ?_
          exact g_zret dX4_fitsThing_67 rfl (Or.inr rfl) ⟨(by simp only [F_X4_fitsThing, if_neg c1, if_pos c4, if_neg c5, if_neg c6]), rfl, (Or.inr rfl)⟩
    · by_cases c7 : v0 = 2
      · refine g_tabIn (pc' := 68) dX4_fitsThing_1 (le_of_le_of_eq (by decide) c7.symm) (le_of_eq_of_le c7 (by decide)) (by rw [c7]; rfl) rfl ?_
        refine g_iload_n (pc' := 69) dX4_fitsThing_68 rfl rfl ?_
        refine g_bipush (pc' := 71) ⟨by unfold r32; decide, rfl⟩ dX4_fitsThing_69 rfl ?_
        refine g_ic_lt (pc' := 74) (tgt := 84) dX4_fitsThing_71 rfl rfl (fun c8 => ?_) (fun c8 => ?_)
        · refine g_iconst (pc' := 85) (by unfold r32; decide) dX4_fitsThing_84 rfl ?_
          exact g_zret dX4_fitsThing_85 rfl (Or.inl rfl) ⟨(by simp only [F_X4_fitsThing, if_neg c1, if_neg c4, if_pos c7, if_pos c8]), rfl, (Or.inl rfl)⟩
        · refine g_iload_n (pc' := 75) dX4_fitsThing_74 rfl rfl ?_
          refine g_bipush (pc' := 77) ⟨by unfold r32; decide, rfl⟩ dX4_fitsThing_75 rfl ?_
          refine g_ic_gt (pc' := 80) (tgt := 84) dX4_fitsThing_77 rfl rfl (fun c9 => ?_) (fun c9 => ?_)
          · refine g_iconst (pc' := 85) (by unfold r32; decide) dX4_fitsThing_84 rfl ?_
            exact g_zret dX4_fitsThing_85 rfl (Or.inl rfl) ⟨(by simp only [F_X4_fitsThing, if_neg c1, if_neg c4, if_pos c7, if_neg c8, if_pos c9]), rfl, (Or.inl rfl)⟩
          · refine g_iconst (pc' := 81) (by unfold r32; decide) dX4_fitsThing_80 rfl ?_
            refine g_goto (pc' := 85) dX4_fitsThing_81 rfl ?_
            exact g_zret dX4_fitsThing_85 rfl (Or.inr rfl) ⟨(by simp only [F_X4_fitsThing, if_neg c1, if_neg c4, if_pos c7, if_neg c8, if_neg c9]), rfl, (Or.inr rfl)⟩
      · by_cases c10 : v0 = 3
        · refine g_tabIn (pc' := 86) dX4_fitsThing_1 (le_of_le_of_eq (by decide) c10.symm) (le_of_eq_of_le c10 (by decide)) (by rw [c10]; rfl) rfl ?_
          refine g_iload_n (pc' := 87) dX4_fitsThing_86 rfl rfl ?_
          refine g_bipush (pc' := 89) ⟨by unfold r32; decide, rfl⟩ dX4_fitsThing_87 rfl ?_
          refine g_ic_eq (pc' := 92) (tgt := 104) dX4_fitsThing_89 rfl rfl (fun c11 => ?_) (fun c11 => ?_)
          · refine g_iconst (pc' := 105) (by unfold r32; decide) dX4_fitsThing_104 rfl ?_
            refine g_goto (pc' := 109) dX4_fitsThing_105 rfl ?_
            exact g_zret dX4_fitsThing_109 rfl (Or.inr rfl) ⟨(by simp only [F_X4_fitsThing, if_neg c1, if_neg c4, if_neg c7, if_pos c10, if_pos c11]), rfl, (Or.inr rfl)⟩
          · refine g_iload_n (pc' := 93) dX4_fitsThing_92 rfl rfl ?_
            refine g_bipush (pc' := 95) ⟨by unfold r32; decide, rfl⟩ dX4_fitsThing_93 rfl ?_
            refine g_ic_eq (pc' := 98) (tgt := 104) dX4_fitsThing_95 rfl rfl (fun c12 => ?_) (fun c12 => ?_)
            · refine g_iconst (pc' := 105) (by unfold r32; decide) dX4_fitsThing_104 rfl ?_
              refine g_goto (pc' := 109) dX4_fitsThing_105 rfl ?_
              exact g_zret dX4_fitsThing_109 rfl (Or.inr rfl) ⟨(by simp only [F_X4_fitsThing, if_neg c1, if_neg c4, if_neg c7, if_pos c10, if_neg c11, if_pos c12]), rfl, (Or.inr rfl)⟩
            · refine g_iload_n (pc' := 99) dX4_fitsThing_98 rfl rfl ?_
              refine g_bipush (pc' := 101) ⟨by unfold r32; decide, rfl⟩ dX4_fitsThing_99 rfl ?_
              refine g_ic_ne (pc' := 104) (tgt := 108) dX4_fitsThing_101 rfl rfl (fun c13 => ?_) (fun c13 => ?_)
              · refine g_iconst (pc' := 109) (by unfold r32; decide) dX4_fitsThing_108 rfl ?_
                exact g_zret dX4_fitsThing_109 rfl (Or.inl rfl) ⟨(by simp only [F_X4_fitsThing, if_neg c1, if_neg c4, if_neg c7, if_pos c10, if_neg c11, if_neg c12, if_neg c13]), rfl, (Or.inl rfl)⟩
              · refine g_iconst (pc' := 105) (by unfold r32; decide) dX4_fitsThing_104 rfl ?_
                refine g_goto (pc' := 109) dX4_fitsThing_105 rfl ?_
                exact g_zret dX4_fitsThing_109 rfl (Or.inr rfl) ⟨(by simp only [F_X4_fitsThing, if_neg c1, if_neg c4, if_neg c7, if_pos c10, if_neg c11, if_neg c12, if_pos c13]), rfl, (Or.inr rfl)⟩
        · refine g_tabOut (pc' := 110) dX4_fitsThing_1 (tout_0_3 c1 c4 c7 c10) rfl ?_
          refine g_iload_n (pc' := 111) dX4_fitsThing_110 rfl rfl ?_
          refine g_bipush (pc' := 113) ⟨by unfold r32; decide, rfl⟩ dX4_fitsThing_111 rfl ?_
          refine g_ic_ne (pc' := 116) (tgt := 120) dX4_fitsThing_113 rfl rfl (fun c14 => ?_) (fun c14 => ?_)
          · refine g_iconst (pc' := 121) (by unfold r32; decide) dX4_fitsThing_120 rfl ?_
            exact g_zret dX4_fitsThing_121 rfl (Or.inl rfl) ⟨(by simp only [F_X4_fitsThing, if_neg c1, if_neg c4, if_neg c7, if_neg c10, if_neg c14]), rfl, (Or.inl rfl)⟩
          · refine g_iconst (pc' := 117) (by unfold r32; decide) dX4_fitsThing_116 rfl ?_
            refine g_goto (pc' := 121) dX4_fitsThing_117 rfl ?_
            exact g_zret dX4_fitsThing_121 rfl (Or.inr rfl) ⟨(by simp only [F_X4_fitsThing, if_neg c1, if_neg c4, if_neg c7, if_neg c10, if_pos c14]), rfl, (Or.inr rfl)⟩
def L_X4_thingsFault_2 (p0 : Nat) (s : Sto) (K32 : Int → Prop) (K40 : Prop) : Nat → Int → Prop
  | 0, _ => False
  | n + 1, v1 => ((s p0 1 ≤ v1 → K40) ∧ (¬ s p0 1 ≤ v1 → ((8 ≤ w32 (v1.tdiv 5) → K32 v1) ∧ (¬ 8 ≤ w32 (v1.tdiv 5) → (O_X9_sign p0 v1 s ∧ ((F_X4_fitsThing (w32 (v1.tmod 5)) (F_X9_sign p0 v1 s) s = 0 → K32 v1) ∧ (¬ F_X4_fitsThing (w32 (v1.tmod 5)) (F_X9_sign p0 v1 s) s = 0 → L_X4_thingsFault_2 p0 s K32 K40 n (w32 (v1 + 1)))))))))
set_option maxRecDepth 100000 in
theorem SL_X4_thingsFault_2 {p0 : Nat} {s : Sto} {K32 : Int → Prop} {K40 : Prop} {Q : Int → Sto → Prop} (hp0 : kd p0 = 19) (hK32 : ∀ v1, K32 v1 → sr_G RX4 cX4_thingsFault 2 (some .int) 1 32 [(1, vI v1)] [] s Q) (hK40 : K40 → sr_G RX4 cX4_thingsFault 2 (some .int) 1 40 [(0, vR p0)] [] s Q) : ∀ n v1, L_X4_thingsFault_2 p0 s K32 K40 n v1 → sr_G RX4 cX4_thingsFault 2 (some .int) 1 2 [(0, vR p0), (1, vI v1)] [] s Q := by
  intro n
  induction n with
  | zero => intro v1 h; exact h.elim
  | succ n ih =>
    intro v1 h
    unfold L_X4_thingsFault_2 at h
    refine g_iload_n (pc' := 3) dX4_thingsFault_2 rfl rfl ?_
    refine g_aload_n (pc' := 4) dX4_thingsFault_3 rfl rfl ?_
    refine g_getI (pc' := 7) dX4_thingsFault_4 rfl fl_RX4_65 hp0 (Or.inl rfl) ?_
    refine g_ic_ge (pc' := 10) (tgt := 40) dX4_thingsFault_7 rfl rfl (fun c1 => ?_) (fun c1 => ?_)
    · have h := h.1 c1
      exact (hK40 h).to ((sb_c rfl sb_n))
    · have h := h.2 c1
      refine g_iload_n (pc' := 11) dX4_thingsFault_10 rfl rfl ?_
      refine g_iconst (pc' := 12) (by unfold r32; decide) dX4_thingsFault_11 rfl ?_
      refine g_idiv (pc' := 13) dX4_thingsFault_12 rfl (by decide) ?_
      refine g_bipush (pc' := 15) ⟨by unfold r32; decide, rfl⟩ dX4_thingsFault_13 rfl ?_
      refine g_ic_ge (pc' := 18) (tgt := 32) dX4_thingsFault_15 rfl rfl (fun c2 => ?_) (fun c2 => ?_)
      · have h := h.1 c2
        exact (hK32 _ h).to ((sb_c rfl sb_n))
      · have h := h.2 c2
        refine g_iload_n (pc' := 19) dX4_thingsFault_18 rfl rfl ?_
        refine g_iconst (pc' := 20) (by unfold r32; decide) dX4_thingsFault_19 rfl ?_
        refine g_irem (pc' := 21) dX4_thingsFault_20 rfl (by decide) ?_
        refine g_aload_n (pc' := 22) dX4_thingsFault_21 rfl rfl ?_
        refine g_iload_n (pc' := 23) dX4_thingsFault_22 rfl rfl ?_
        obtain ⟨ob3, h⟩ := h
        refine g_V1i (pc' := 26) dX4_thingsFault_23 rfl mv_RX4_76 hp0 (by decide) (Nat.le_of_ble_eq_true rfl) (C_X9_sign hp0 ob3) (sr_pur ?_)
        refine g_S2z (pc' := 29) dX4_thingsFault_26 rfl ms_RX4_80 (by decide) (Nat.le_of_ble_eq_true rfl) C_X4_fitsThing (sr_purb (fun hb4 => ?_))
        refine g_if_ne (pc' := 32) (tgt := 34) dX4_thingsFault_29 rfl rfl (fun c5 => ?_) (fun c5 => ?_)
        · have h := h.2 c5
          refine g_iinc (pc' := 37) dX4_thingsFault_34 rfl rfl (by decide) ?_
          refine g_goto (pc' := 2) dX4_thingsFault_37 rfl ?_
          exact (ih _ h).to ((sb_c rfl (sb_c rfl sb_n)))
        · have h := h.1 c5
          exact (hK32 _ h).to ((sb_c rfl sb_n))
def P_X4_thingsFault (p0 : Nat) (s : Sto) (Q : Int → Sto → Prop) : Prop := (∃ n6, L_X4_thingsFault_2 p0 s (fun x1 => Q x1 s) ((∀ x2 : Int, x2 = (if s p0 1 = 0 then 1 else (if w32 ((s p0 1).tmod 5) = 4 then 1 else 0)) → ((x2 = 0 → Q (s p0 1) s) ∧ (¬ x2 = 0 → Q ((-1)) s)))) n6 0)
set_option maxRecDepth 100000 in
theorem C_X4_thingsFault {p0 : Nat} {s : Sto} {Q : Int → Sto → Prop} (hp0 : kd p0 = 19) (h : P_X4_thingsFault p0 s Q) : sr_C yX4_thingsFault cX4_thingsFault 2 (some .int) 1 [vR p0] s Q := by
  refine sr_C.of (by decide +kernel) (Nat.le_of_ble_eq_true rfl) ?_
  show sr_G RX4 cX4_thingsFault 2 (some .int) 1 0 [(0, vR p0)] [] s Q
  unfold P_X4_thingsFault at h
  refine g_iconst (pc' := 1) (by unfold r32; decide) dX4_thingsFault_0 rfl ?_
  refine g_istore_n (pc' := 2) dX4_thingsFault_1 rfl (by decide) ?_
  obtain ⟨n6, h⟩ := h
  refine (SL_X4_thingsFault_2 hp0 (fun x1 h => ?_) (fun h => ?_) n6 _ h).to ((sb_c rfl (sb_c rfl sb_n)))
  · refine g_iload_n (pc' := 33) dX4_thingsFault_32 rfl rfl ?_
    exact g_iret dX4_thingsFault_33 rfl h
  · refine g_aload_n (pc' := 41) dX4_thingsFault_40 rfl rfl ?_
    refine g_getI (pc' := 44) dX4_thingsFault_41 rfl fl_RX4_65 hp0 (Or.inl rfl) ?_
    refine sr_join (v := (if s p0 1 = 0 then 1 else (if w32 ((s p0 1).tmod 5) = 4 then 1 else 0))) (GG := fun x2 => sr_G RX4 cX4_thingsFault 2 (some .int) 1 62 [(0, vR p0)] [vI x2] s Q) (fun x2 ex2 => ?_) (fun hj => ?_)
    · have h := h x2 ex2
      refine g_istore_n (pc' := 63) dX4_thingsFault_62 rfl (by decide) ?_
      refine g_iload_n (pc' := 64) dX4_thingsFault_63 rfl rfl ?_
      refine g_if_eq (pc' := 67) (tgt := 71) dX4_thingsFault_64 rfl rfl (fun c5 => ?_) (fun c5 => ?_)
      · have h := h.1 c5
        refine g_aload_n (pc' := 72) dX4_thingsFault_71 rfl rfl ?_
        refine g_getI (pc' := 75) dX4_thingsFault_72 rfl fl_RX4_65 hp0 (Or.inl rfl) ?_
        exact g_iret dX4_thingsFault_75 rfl h
      · have h := h.2 c5
        refine g_iconst (pc' := 68) (by unfold r32; decide) dX4_thingsFault_67 rfl ?_
        refine g_goto (pc' := 75) dX4_thingsFault_68 rfl ?_
        exact g_iret dX4_thingsFault_75 rfl h
    · refine g_if_eq (pc' := 47) (tgt := 57) dX4_thingsFault_44 rfl rfl (fun c3 => ?_) (fun c3 => ?_)
      · refine g_iconst (pc' := 58) (by unfold r32; decide) dX4_thingsFault_57 rfl ?_
        refine g_goto (pc' := 62) dX4_thingsFault_58 rfl ?_
        exact (hj _ (by rw [if_pos c3])).to ((sb_c rfl sb_n))
      · refine g_aload_n (pc' := 48) dX4_thingsFault_47 rfl rfl ?_
        refine g_getI (pc' := 51) dX4_thingsFault_48 rfl fl_RX4_65 hp0 (Or.inl rfl) ?_
        refine g_iconst (pc' := 52) (by unfold r32; decide) dX4_thingsFault_51 rfl ?_
        refine g_irem (pc' := 53) dX4_thingsFault_52 rfl (by decide) ?_
        refine g_iconst (pc' := 54) (by unfold r32; decide) dX4_thingsFault_53 rfl ?_
        refine g_ic_ne (pc' := 57) (tgt := 61) dX4_thingsFault_54 rfl rfl (fun c4 => ?_) (fun c4 => ?_)
        · refine g_iconst (pc' := 62) (by unfold r32; decide) dX4_thingsFault_61 rfl ?_
          exact (hj _ (by rw [if_neg c3, if_neg c4])).to ((sb_c rfl sb_n))
        · refine g_iconst (pc' := 58) (by unfold r32; decide) dX4_thingsFault_57 rfl ?_
          refine g_goto (pc' := 62) dX4_thingsFault_58 rfl ?_
          exact (hj _ (by rw [if_neg c3, if_pos c4])).to ((sb_c rfl sb_n))
def L_X4_rereadThings_33 (p0 : Nat) (p1 : Nat) (v2 : Int) (K138 : Sto → Prop) : Nat → Int → Sto → Prop
  | 0, _, _ => False
  | n + 1, v3, s => ((s p0 6 ≤ v3 → K138 s) ∧ (¬ s p0 6 ≤ v3 → (∀ x2 : Int, x2 = w32 (v3 * 5) → (O_X9_sign p1 x2 s ∧ (O_X9_sign p1 (w32 (x2 + 1)) s ∧ (inb v3 8 ∧ (∀ s6 : Sto, s6 = up s (p0 + 6) v3.toNat (w32 ((w32 ((w32 ((w32 ((F_X9_sign p1 x2 s) - 48)) * 10)) + (F_X9_sign p1 (w32 (x2 + 1)) s))) - 48)) → (O_X9_sign p1 (w32 (x2 + 2)) s6 ∧ (inb v3 8 ∧ (∀ s9 : Sto, s9 = up s6 (p0 + 7) v3.toNat (w32 ((F_X9_sign p1 (w32 (x2 + 2)) s6) - 48)) → (O_X9_sign p1 (w32 (x2 + 3)) s9 ∧ (∀ x11 : Int, x11 = F_X9_sign p1 (w32 (x2 + 3)) s9 → (∀ x12 : Int, x12 = (if x11 = 112 then 0 else (if x11 = 98 then 1 else 2)) → (inb v3 8 ∧ (∀ s16 : Sto, s16 = up s9 (p0 + 8) v3.toNat x12 → L_X4_rereadThings_33 p0 p1 v2 K138 n (w32 (v3 + 1)) s16)))))))))))))))
set_option maxRecDepth 100000 in
theorem SL_X4_rereadThings_33 {p0 : Nat} {p1 : Nat} {v2 : Int} {K138 : Sto → Prop} {Q : Int → Sto → Prop} (hp0 : kd p0 = 14) (hp1 : kd p1 = 19) (hK138 : ∀ s, K138 s → sr_G RX4 cX4_rereadThings 6 (some .int) 2 138 [(2, vI v2)] [] s Q) : ∀ n v3 s, L_X4_rereadThings_33 p0 p1 v2 K138 n v3 s → sr_G RX4 cX4_rereadThings 6 (some .int) 2 33 [(0, vR p0), (1, vR p1), (2, vI v2), (3, vI v3)] [] s Q := by
  intro n
  induction n with
  | zero => intro v3 s h; exact h.elim
  | succ n ih =>
    intro v3 s h
    unfold L_X4_rereadThings_33 at h
    refine g_iload_n (pc' := 34) dX4_rereadThings_33 rfl rfl ?_
    refine g_aload_n (pc' := 35) dX4_rereadThings_34 rfl rfl ?_
    refine g_getI (pc' := 38) dX4_rereadThings_35 rfl fl_RX4_31 hp0 (Or.inl rfl) ?_
    refine g_ic_ge (pc' := 41) (tgt := 138) dX4_rereadThings_38 rfl rfl (fun c1 => ?_) (fun c1 => ?_)
    · have h := h.1 c1
      exact (hK138 _ h).to ((sb_c rfl sb_n))
    · have h := h.2 c1
      refine g_iload_n (pc' := 42) dX4_rereadThings_41 rfl rfl ?_
      refine g_iconst (pc' := 43) (by unfold r32; decide) dX4_rereadThings_42 rfl ?_
      refine g_imul (pc' := 44) dX4_rereadThings_43 rfl ?_
      refine g_topI (fun x2 ex2 => ?_)
      have h := h x2 ex2
      refine g_istore (pc' := 46) dX4_rereadThings_44 rfl (by decide) ?_
      refine g_aload_n (pc' := 47) dX4_rereadThings_46 rfl rfl ?_
      refine g_getR (pc' := 50) (r := p0 + 6) dX4_rereadThings_47 rfl fl_RX4_34 hp0 rfl (ly_4_7 hp0) ?_
      refine g_iload_n (pc' := 51) dX4_rereadThings_50 rfl rfl ?_
      refine g_aload_n (pc' := 52) dX4_rereadThings_51 rfl rfl ?_
      refine g_iload (pc' := 54) dX4_rereadThings_52 rfl rfl ?_
      obtain ⟨ob3, h⟩ := h
      refine g_V1i (pc' := 57) dX4_rereadThings_54 rfl mv_RX4_76 hp1 (by decide) (Nat.le_of_ble_eq_true rfl) (C_X9_sign hp1 ob3) (sr_pur ?_)
      refine g_bipush (pc' := 59) ⟨by unfold r32; decide, rfl⟩ dX4_rereadThings_57 rfl ?_
      refine g_isub (pc' := 60) dX4_rereadThings_59 rfl ?_
      refine g_bipush (pc' := 62) ⟨by unfold r32; decide, rfl⟩ dX4_rereadThings_60 rfl ?_
      refine g_imul (pc' := 63) dX4_rereadThings_62 rfl ?_
      refine g_aload_n (pc' := 64) dX4_rereadThings_63 rfl rfl ?_
      refine g_iload (pc' := 66) dX4_rereadThings_64 rfl rfl ?_
      refine g_iconst (pc' := 67) (by unfold r32; decide) dX4_rereadThings_66 rfl ?_
      refine g_iadd (pc' := 68) dX4_rereadThings_67 rfl ?_
      obtain ⟨ob4, h⟩ := h
      refine g_V1i (pc' := 71) dX4_rereadThings_68 rfl mv_RX4_76 hp1 (by decide) (Nat.le_of_ble_eq_true rfl) (C_X9_sign hp1 ob4) (sr_pur ?_)
      refine g_iadd (pc' := 72) dX4_rereadThings_71 rfl ?_
      refine g_bipush (pc' := 74) ⟨by unfold r32; decide, rfl⟩ dX4_rereadThings_72 rfl ?_
      refine g_isub (pc' := 75) dX4_rereadThings_74 rfl ?_
      obtain ⟨ob5, h⟩ := h
      refine g_iast (pc' := 76) dX4_rereadThings_75 rfl (lk_4_7 hp0) (Eq.mpr (congrArg (inb _) (la_4_7 hp0)) ob5) ?_
      refine g_sto (fun s6 es6 => ?_)
      have h := h s6 es6
      refine g_aload_n (pc' := 77) dX4_rereadThings_76 rfl rfl ?_
      refine g_getR (pc' := 80) (r := p0 + 7) dX4_rereadThings_77 rfl fl_RX4_37 hp0 rfl (ly_4_8 hp0) ?_
      refine g_iload_n (pc' := 81) dX4_rereadThings_80 rfl rfl ?_
      refine g_aload_n (pc' := 82) dX4_rereadThings_81 rfl rfl ?_
      refine g_iload (pc' := 84) dX4_rereadThings_82 rfl rfl ?_
      refine g_iconst (pc' := 85) (by unfold r32; decide) dX4_rereadThings_84 rfl ?_
      refine g_iadd (pc' := 86) dX4_rereadThings_85 rfl ?_
      obtain ⟨ob7, h⟩ := h
      refine g_V1i (pc' := 89) dX4_rereadThings_86 rfl mv_RX4_76 hp1 (by decide) (Nat.le_of_ble_eq_true rfl) (C_X9_sign hp1 ob7) (sr_pur ?_)
      refine g_bipush (pc' := 91) ⟨by unfold r32; decide, rfl⟩ dX4_rereadThings_89 rfl ?_
      refine g_isub (pc' := 92) dX4_rereadThings_91 rfl ?_
      obtain ⟨ob8, h⟩ := h
      refine g_iast (pc' := 93) dX4_rereadThings_92 rfl (lk_4_8 hp0) (Eq.mpr (congrArg (inb _) (la_4_8 hp0)) ob8) ?_
      refine g_sto (fun s9 es9 => ?_)
      have h := h s9 es9
      refine g_aload_n (pc' := 94) dX4_rereadThings_93 rfl rfl ?_
      refine g_iload (pc' := 96) dX4_rereadThings_94 rfl rfl ?_
      refine g_iconst (pc' := 97) (by unfold r32; decide) dX4_rereadThings_96 rfl ?_
      refine g_iadd (pc' := 98) dX4_rereadThings_97 rfl ?_
      obtain ⟨ob10, h⟩ := h
      refine g_V1i (pc' := 101) dX4_rereadThings_98 rfl mv_RX4_76 hp1 (by decide) (Nat.le_of_ble_eq_true rfl) (C_X9_sign hp1 ob10) (sr_pur ?_)
      refine g_topI (fun x11 ex11 => ?_)
      have h := h x11 ex11
      refine g_istore (pc' := 103) dX4_rereadThings_101 rfl (by decide) ?_
      refine g_aload_n (pc' := 104) dX4_rereadThings_103 rfl rfl ?_
      refine g_getR (pc' := 107) (r := p0 + 8) dX4_rereadThings_104 rfl fl_RX4_40 hp0 rfl (ly_4_9 hp0) ?_
      refine g_iload_n (pc' := 108) dX4_rereadThings_107 rfl rfl ?_
      refine g_iload (pc' := 110) dX4_rereadThings_108 rfl rfl ?_
      refine g_bipush (pc' := 112) ⟨by unfold r32; decide, rfl⟩ dX4_rereadThings_110 rfl ?_
      refine sr_join (v := (if x11 = 112 then 0 else (if x11 = 98 then 1 else 2))) (GG := fun x12 => sr_G RX4 cX4_rereadThings 6 (some .int) 2 131 [(0, vR p0), (1, vR p1), (2, vI v2), (3, vI v3)] [vI x12, vI v3, vR (p0 + 8)] s9 Q) (fun x12 ex12 => ?_) (fun hj => ?_)
      · have h := h x12 ex12
        obtain ⟨ob15, h⟩ := h
        refine g_iast (pc' := 132) dX4_rereadThings_131 rfl (lk_4_9 hp0) (Eq.mpr (congrArg (inb _) (la_4_9 hp0)) ob15) ?_
        refine g_sto (fun s16 es16 => ?_)
        have h := h s16 es16
        refine g_iinc (pc' := 135) dX4_rereadThings_132 rfl rfl (by decide) ?_
        refine g_goto (pc' := 33) dX4_rereadThings_135 rfl ?_
        exact (ih _ _ h).to ((sb_c rfl (sb_c rfl (sb_c rfl (sb_c rfl sb_n)))))
      · refine g_ic_ne (pc' := 115) (tgt := 119) dX4_rereadThings_112 rfl rfl (fun c13 => ?_) (fun c13 => ?_)
        · refine g_iload (pc' := 121) dX4_rereadThings_119 rfl rfl ?_
          refine g_bipush (pc' := 123) ⟨by unfold r32; decide, rfl⟩ dX4_rereadThings_121 rfl ?_
          refine g_ic_ne (pc' := 126) (tgt := 130) dX4_rereadThings_123 rfl rfl (fun c14 => ?_) (fun c14 => ?_)
          · refine g_iconst (pc' := 131) (by unfold r32; decide) dX4_rereadThings_130 rfl ?_
            exact (hj _ (by rw [if_neg c13, if_neg c14])).to ((sb_c rfl (sb_c rfl (sb_c rfl (sb_c rfl sb_n)))))
          · refine g_iconst (pc' := 127) (by unfold r32; decide) dX4_rereadThings_126 rfl ?_
            refine g_goto (pc' := 131) dX4_rereadThings_127 rfl ?_
            exact (hj _ (by rw [if_neg c13, if_pos c14])).to ((sb_c rfl (sb_c rfl (sb_c rfl (sb_c rfl sb_n)))))
        · refine g_iconst (pc' := 116) (by unfold r32; decide) dX4_rereadThings_115 rfl ?_
          refine g_goto (pc' := 131) dX4_rereadThings_116 rfl ?_
          exact (hj _ (by rw [if_pos c13])).to ((sb_c rfl (sb_c rfl (sb_c rfl (sb_c rfl sb_n)))))
def P_X4_rereadThings (o : Nat) (p1 : Nat) (s : Sto) (Q : Int → Sto → Prop) : Prop := (P_X4_thingsFault p1 s (fun r2 s1 => (∀ x3 : Int, x3 = (if r2 = (-1) then F_J9_min_7cf53 (w32 ((w32 ((s1 p1 1) + 1)).tdiv 5)) 8 s1 else 0) → (∀ s5 : Sto, s5 = up s1 o 6 x3 → (∃ n7, L_X4_rereadThings_33 o p1 r2 (fun s6 => Q r2 s6) n7 0 s5)))))
set_option maxRecDepth 100000 in
theorem C_X4_rereadThings {o : Nat} {p1 : Nat} {s : Sto} {Q : Int → Sto → Prop} (ho : kd o = 14) (hp1 : kd p1 = 19) (h : P_X4_rereadThings o p1 s Q) : sr_C yX4_rereadThings cX4_rereadThings 6 (some .int) 2 [vR o, vR p1] s Q := by
  refine sr_C.of (by decide +kernel) (Nat.le_of_ble_eq_true rfl) ?_
  show sr_G RX4 cX4_rereadThings 6 (some .int) 2 0 [(0, vR o), (1, vR p1)] [] s Q
  unfold P_X4_rereadThings at h
  refine g_aload_n (pc' := 1) dX4_rereadThings_0 rfl rfl ?_
  refine g_S1i (pc' := 4) dX4_rereadThings_1 rfl ms_RX4_61 (by decide) (Nat.le_of_ble_eq_true rfl) (C_X4_thingsFault hp1 h) (fun r2 s1 h => ?_)
  refine g_istore_n (pc' := 5) dX4_rereadThings_4 rfl (by decide) ?_
  refine g_aload_n (pc' := 6) dX4_rereadThings_5 rfl rfl ?_
  refine g_iload_n (pc' := 7) dX4_rereadThings_6 rfl rfl ?_
  refine g_iconst (pc' := 8) (by unfold r32; decide) dX4_rereadThings_7 rfl ?_
  refine sr_join (v := (if r2 = (-1) then F_J9_min_7cf53 (w32 ((w32 ((s1 p1 1) + 1)).tdiv 5)) 8 s1 else 0)) (GG := fun x3 => sr_G RX4 cX4_rereadThings 6 (some .int) 2 28 [(0, vR o), (1, vR p1), (2, vI r2)] [vI x3, vR o] s1 Q) (fun x3 ex3 => ?_) (fun hj => ?_)
  · have h := h x3 ex3
    refine g_putI (pc' := 31) dX4_rereadThings_28 rfl fp_RX4_31 ho rfl ?_
    refine g_sto (fun s5 es5 => ?_)
    have h := h s5 es5
    refine g_iconst (pc' := 32) (by unfold r32; decide) dX4_rereadThings_31 rfl ?_
    refine g_istore_n (pc' := 33) dX4_rereadThings_32 rfl (by decide) ?_
    obtain ⟨n7, h⟩ := h
    refine (SL_X4_rereadThings_33 ho hp1 (fun s6 h => ?_) n7 _ _ h).to ((sb_c rfl (sb_c rfl (sb_c rfl (sb_c rfl sb_n)))))
    · refine g_iload_n (pc' := 139) dX4_rereadThings_138 rfl rfl ?_
      exact g_iret dX4_rereadThings_139 rfl h
  · refine g_ic_ne (pc' := 11) (tgt := 27) dX4_rereadThings_8 rfl rfl (fun c4 => ?_) (fun c4 => ?_)
    · refine g_iconst (pc' := 28) (by unfold r32; decide) dX4_rereadThings_27 rfl ?_
      exact (hj _ (by rw [if_neg c4])).to ((sb_c rfl (sb_c rfl (sb_c rfl sb_n))))
    · refine g_aload_n (pc' := 12) dX4_rereadThings_11 rfl rfl ?_
      refine g_getI (pc' := 15) dX4_rereadThings_12 rfl fl_RX4_65 hp1 (Or.inl rfl) ?_
      refine g_iconst (pc' := 16) (by unfold r32; decide) dX4_rereadThings_15 rfl ?_
      refine g_iadd (pc' := 17) dX4_rereadThings_16 rfl ?_
      refine g_iconst (pc' := 18) (by unfold r32; decide) dX4_rereadThings_17 rfl ?_
      refine g_idiv (pc' := 19) dX4_rereadThings_18 rfl (by decide) ?_
      refine g_bipush (pc' := 21) ⟨by unfold r32; decide, rfl⟩ dX4_rereadThings_19 rfl ?_
      refine g_S2i (pc' := 24) dX4_rereadThings_21 rfl ms_RX4_70 (by decide) (Nat.le_of_ble_eq_true rfl) C_J9_min_7cf53 (sr_pur ?_)
      refine g_goto (pc' := 28) dX4_rereadThings_24 rfl ?_
      exact (hj _ (by rw [if_pos c4])).to ((sb_c rfl (sb_c rfl (sb_c rfl sb_n))))
def F_X4_windOf (v0 : Int) (s : Sto) : Int := (if v0 = 46 then (-1) else (if v0 = 101 then 1 else (if v0 = 110 then 0 else (if v0 = 115 then 2 else (if v0 = 119 then 3 else (-2))))))
set_option maxRecDepth 100000 in
theorem C_X4_windOf {v0 : Int} {s : Sto}   : sr_C yX4_windOf cX4_windOf 1 (some .int) 0 [vI v0] s (fun r s' => r = F_X4_windOf v0 s ∧ s' = s) := by
  refine sr_C.of (by decide +kernel) (Nat.le_of_ble_eq_true rfl) ?_
  show sr_G RX4 cX4_windOf 1 (some .int) 0 0 [(0, vI v0)] [] s (fun r s' => r = F_X4_windOf v0 s ∧ s' = s)
  refine g_iload_n (pc' := 1) dX4_windOf_0 rfl rfl ?_
  by_cases c1 : v0 = 46
  · refine g_look (pc' := 60) (off := 59) dX4_windOf_1 rfl (by rw [c1]; rfl) rfl ?_
    refine g_iconst (pc' := 61) (by unfold r32; decide) dX4_windOf_60 rfl ?_
    exact g_iret dX4_windOf_61 rfl ⟨(by simp only [F_X4_windOf, if_pos c1]), rfl⟩
  · by_cases c2 : v0 = 101
    · refine g_look (pc' := 54) (off := 53) dX4_windOf_1 rfl (by rw [c2]; rfl) rfl ?_
      refine g_iconst (pc' := 55) (by unfold r32; decide) dX4_windOf_54 rfl ?_
      exact g_iret dX4_windOf_55 rfl ⟨(by simp only [F_X4_windOf, if_neg c1, if_pos c2]), rfl⟩
    · by_cases c3 : v0 = 110
      · refine g_look (pc' := 52) (off := 51) dX4_windOf_1 rfl (by rw [c3]; rfl) rfl ?_
        refine g_iconst (pc' := 53) (by unfold r32; decide) dX4_windOf_52 rfl ?_
        exact g_iret dX4_windOf_53 rfl ⟨(by simp only [F_X4_windOf, if_neg c1, if_neg c2, if_pos c3]), rfl⟩
      · by_cases c4 : v0 = 115
        · refine g_look (pc' := 56) (off := 55) dX4_windOf_1 rfl (by rw [c4]; rfl) rfl ?_
          refine g_iconst (pc' := 57) (by unfold r32; decide) dX4_windOf_56 rfl ?_
          exact g_iret dX4_windOf_57 rfl ⟨(by simp only [F_X4_windOf, if_neg c1, if_neg c2, if_neg c3, if_pos c4]), rfl⟩
        · by_cases c5 : v0 = 119
          · refine g_look (pc' := 58) (off := 57) dX4_windOf_1 rfl (by rw [c5]; rfl) rfl ?_
            refine g_iconst (pc' := 59) (by unfold r32; decide) dX4_windOf_58 rfl ?_
            exact g_iret dX4_windOf_59 rfl ⟨(by simp only [F_X4_windOf, if_neg c1, if_neg c2, if_neg c3, if_neg c4, if_pos c5]), rfl⟩
          · refine g_look (pc' := 62) (off := 61) dX4_windOf_1 rfl (by simp [Op.lookupswitch.offset, Ne.symm c1, Ne.symm c2, Ne.symm c3, Ne.symm c4, Ne.symm c5]) rfl ?_
            refine g_bipush (pc' := 64) ⟨by unfold r32; decide, rfl⟩ dX4_windOf_62 rfl ?_
            exact g_iret dX4_windOf_64 rfl ⟨(by simp only [F_X4_windOf, if_neg c1, if_neg c2, if_neg c3, if_neg c4, if_neg c5]), rfl⟩
def L_X4_rereadWind_10 (p0 : Nat) (p1 : Nat) (K39 : Int → Sto → Prop) (K62 : Sto → Prop) : Nat → Int → Sto → Prop
  | 0, _, _ => False
  | n + 1, v2, s => ((s p1 1 ≤ v2 → K62 s) ∧ (¬ s p1 1 ≤ v2 → ((20 ≤ v2 → K62 s) ∧ (¬ 20 ≤ v2 → (O_X9_sign p1 v2 s ∧ (∀ x4 : Int, x4 = F_X4_windOf (F_X9_sign p1 v2 s) s → ((x4 = (-2) → K39 v2 s) ∧ (¬ x4 = (-2) → (inb v2 20 ∧ (∀ s7 : Sto, s7 = up s (p0 + 9) v2.toNat x4 → L_X4_rereadWind_10 p0 p1 K39 K62 n (w32 (v2 + 1)) s7))))))))))
set_option maxRecDepth 100000 in
theorem SL_X4_rereadWind_10 {p0 : Nat} {p1 : Nat} {K39 : Int → Sto → Prop} {K62 : Sto → Prop} {Q : Int → Sto → Prop} (hp0 : kd p0 = 14) (hp1 : kd p1 = 19) (hK39 : ∀ v2 s, K39 v2 s → sr_G RX4 cX4_rereadWind 4 (some .int) 1 39 [(0, vR p0), (2, vI v2)] [] s Q) (hK62 : ∀ s, K62 s → sr_G RX4 cX4_rereadWind 4 (some .int) 1 62 [] [] s Q) : ∀ n v2 s, L_X4_rereadWind_10 p0 p1 K39 K62 n v2 s → sr_G RX4 cX4_rereadWind 4 (some .int) 1 10 [(0, vR p0), (1, vR p1), (2, vI v2)] [] s Q := by
  intro n
  induction n with
  | zero => intro v2 s h; exact h.elim
  | succ n ih =>
    intro v2 s h
    unfold L_X4_rereadWind_10 at h
    refine g_iload_n (pc' := 11) dX4_rereadWind_10 rfl rfl ?_
    refine g_aload_n (pc' := 12) dX4_rereadWind_11 rfl rfl ?_
    refine g_getI (pc' := 15) dX4_rereadWind_12 rfl fl_RX4_65 hp1 (Or.inl rfl) ?_
    refine g_ic_ge (pc' := 18) (tgt := 62) dX4_rereadWind_15 rfl rfl (fun c1 => ?_) (fun c1 => ?_)
    · have h := h.1 c1
      exact (hK62 _ h).to (sb_n)
    · have h := h.2 c1
      refine g_iload_n (pc' := 19) dX4_rereadWind_18 rfl rfl ?_
      refine g_bipush (pc' := 21) ⟨by unfold r32; decide, rfl⟩ dX4_rereadWind_19 rfl ?_
      refine g_ic_ge (pc' := 24) (tgt := 62) dX4_rereadWind_21 rfl rfl (fun c2 => ?_) (fun c2 => ?_)
      · have h := h.1 c2
        exact (hK62 _ h).to (sb_n)
      · have h := h.2 c2
        refine g_aload_n (pc' := 25) dX4_rereadWind_24 rfl rfl ?_
        refine g_iload_n (pc' := 26) dX4_rereadWind_25 rfl rfl ?_
        obtain ⟨ob3, h⟩ := h
        refine g_V1i (pc' := 29) dX4_rereadWind_26 rfl mv_RX4_76 hp1 (by decide) (Nat.le_of_ble_eq_true rfl) (C_X9_sign hp1 ob3) (sr_pur ?_)
        refine g_S1i (pc' := 32) dX4_rereadWind_29 rfl ms_RX4_84 (by decide) (Nat.le_of_ble_eq_true rfl) C_X4_windOf (sr_pur ?_)
        refine g_topI (fun x4 ex4 => ?_)
        have h := h x4 ex4
        refine g_istore_n (pc' := 33) dX4_rereadWind_32 rfl (by decide) ?_
        refine g_iload_n (pc' := 34) dX4_rereadWind_33 rfl rfl ?_
        refine g_bipush (pc' := 36) ⟨by unfold r32; decide, rfl⟩ dX4_rereadWind_34 rfl ?_
        refine g_ic_ne (pc' := 39) (tgt := 49) dX4_rereadWind_36 rfl rfl (fun c5 => ?_) (fun c5 => ?_)
        · have h := h.2 c5
          refine g_aload_n (pc' := 50) dX4_rereadWind_49 rfl rfl ?_
          refine g_getR (pc' := 53) (r := p0 + 9) dX4_rereadWind_50 rfl fl_RX4_43 hp0 rfl (ly_4_10 hp0) ?_
          refine g_iload_n (pc' := 54) dX4_rereadWind_53 rfl rfl ?_
          refine g_iload_n (pc' := 55) dX4_rereadWind_54 rfl rfl ?_
          obtain ⟨ob6, h⟩ := h
          refine g_iast (pc' := 56) dX4_rereadWind_55 rfl (lk_4_10 hp0) (Eq.mpr (congrArg (inb _) (la_4_10 hp0)) ob6) ?_
          refine g_sto (fun s7 es7 => ?_)
          have h := h s7 es7
          refine g_iinc (pc' := 59) dX4_rereadWind_56 rfl rfl (by decide) ?_
          refine g_goto (pc' := 10) dX4_rereadWind_59 rfl ?_
          exact (ih _ _ h).to ((sb_c rfl (sb_c rfl (sb_c rfl sb_n))))
        · have h := h.1 c5
          exact (hK39 _ _ h).to ((sb_c rfl (sb_c rfl sb_n)))
def P_X4_rereadWind (o : Nat) (p1 : Nat) (s : Sto) (Q : Int → Sto → Prop) : Prop := (P_J7_fill_53178 (o + 9) ((-1)) s (fun _ s1 => (∃ n8, L_X4_rereadWind_10 o p1 (fun x3 s4 => (P_J7_fill_53178 (o + 9) ((-1)) s4 (fun _ s5 => Q x3 s5))) (fun s7 => Q ((-1)) s7) n8 0 s1)))
set_option maxRecDepth 100000 in
theorem C_X4_rereadWind {o : Nat} {p1 : Nat} {s : Sto} {Q : Int → Sto → Prop} (ho : kd o = 14) (hp1 : kd p1 = 19) (h : P_X4_rereadWind o p1 s Q) : sr_C yX4_rereadWind cX4_rereadWind 4 (some .int) 1 [vR o, vR p1] s Q := by
  refine sr_C.of (by decide +kernel) (Nat.le_of_ble_eq_true rfl) ?_
  show sr_G RX4 cX4_rereadWind 4 (some .int) 1 0 [(0, vR o), (1, vR p1)] [] s Q
  unfold P_X4_rereadWind at h
  refine g_aload_n (pc' := 1) dX4_rereadWind_0 rfl rfl ?_
  refine g_getR (pc' := 4) (r := o + 9) dX4_rereadWind_1 rfl fl_RX4_43 ho rfl (ly_4_10 ho) ?_
  refine g_iconst (pc' := 5) (by unfold r32; decide) dX4_rereadWind_4 rfl ?_
  refine g_S2v (pc' := 8) dX4_rereadWind_5 rfl ms_RX4_49 (by decide) (Nat.le_of_ble_eq_true rfl) (C_J7_fill_53178 (lk_4_10 ho) h) (fun s1 h => ?_)
  refine g_iconst (pc' := 9) (by unfold r32; decide) dX4_rereadWind_8 rfl ?_
  refine g_istore_n (pc' := 10) dX4_rereadWind_9 rfl (by decide) ?_
  obtain ⟨n8, h⟩ := h
  refine (SL_X4_rereadWind_10 ho hp1 (fun x3 s4 h => ?_) (fun s7 h => ?_) n8 _ _ h).to ((sb_c rfl (sb_c rfl (sb_c rfl sb_n))))
  · refine g_aload_n (pc' := 40) dX4_rereadWind_39 rfl rfl ?_
    refine g_getR (pc' := 43) (r := o + 9) dX4_rereadWind_40 rfl fl_RX4_43 ho rfl (ly_4_10 ho) ?_
    refine g_iconst (pc' := 44) (by unfold r32; decide) dX4_rereadWind_43 rfl ?_
    refine g_S2v (pc' := 47) dX4_rereadWind_44 rfl ms_RX4_49 (by decide) (Nat.le_of_ble_eq_true rfl) (C_J7_fill_53178 (lk_4_10 ho) h) (fun s5 h => ?_)
    refine g_iload_n (pc' := 48) dX4_rereadWind_47 rfl rfl ?_
    exact g_iret dX4_rereadWind_48 rfl h
  · refine g_iconst (pc' := 63) (by unfold r32; decide) dX4_rereadWind_62 rfl ?_
    exact g_iret dX4_rereadWind_63 rfl h
def L_X5_leastBreath_13 (v1 : Int) (v2 : Int) (K53 : Int → Sto → Prop) (K67 : Sto → Prop) (K75 : Sto → Prop) : Nat → Int → Sto → Prop
  | 0, _, _ => False
  | n + 1, v3, s => ((9 < v3 → K75 s) ∧ (¬ 9 < v3 → (inb v1 8 ∧ (∀ s3 : Sto, s3 = up s 48 v1.toNat v3 → (P_X6_playAll 54 44 s3 (fun _ s4 => (inb v2 8 ∧ ((s4 59 v2.toNat = v1 → K53 v3 s4) ∧ (¬ s4 59 v2.toNat = v1 → (inb v1 8 ∧ ((s4 58 v1.toNat ≤ 0 → L_X5_leastBreath_13 v1 v2 K53 K67 K75 n (w32 (v3 + 1)) s4) ∧ (¬ s4 58 v1.toNat ≤ 0 → K67 s4))))))))))))
set_option maxRecDepth 100000 in
theorem SL_X5_leastBreath_13 {v1 : Int} {v2 : Int} {K53 : Int → Sto → Prop} {K67 : Sto → Prop} {K75 : Sto → Prop} {Q : Int → Sto → Prop}  (hK53 : ∀ v3 s, K53 v3 s → sr_G RX5 cX5_leastBreath 4 (some .int) 4 53 [(3, vI v3)] [] s Q) (hK67 : ∀ s, K67 s → sr_G RX5 cX5_leastBreath 4 (some .int) 4 67 [] [] s Q) (hK75 : ∀ s, K75 s → sr_G RX5 cX5_leastBreath 4 (some .int) 4 75 [] [] s Q) : ∀ n v3 s, L_X5_leastBreath_13 v1 v2 K53 K67 K75 n v3 s → sr_G RX5 cX5_leastBreath 4 (some .int) 4 13 [(0, vR 62), (1, vI v1), (2, vI v2), (3, vI v3)] [] s Q := by
  intro n
  induction n with
  | zero => intro v3 s h; exact h.elim
  | succ n ih =>
    intro v3 s h
    unfold L_X5_leastBreath_13 at h
    refine g_iload_n (pc' := 14) dX5_leastBreath_13 rfl rfl ?_
    refine g_bipush (pc' := 16) ⟨by unfold r32; decide, rfl⟩ dX5_leastBreath_14 rfl ?_
    refine g_ic_gt (pc' := 19) (tgt := 75) dX5_leastBreath_16 rfl rfl (fun c1 => ?_) (fun c1 => ?_)
    · have h := h.1 c1
      exact (hK75 _ h).to (sb_n)
    · have h := h.2 c1
      refine g_aload_n (pc' := 20) dX5_leastBreath_19 rfl rfl ?_
      refine g_getR (pc' := 23) (r := 44) dX5_leastBreath_20 rfl fl_RX5_42 kd_62 rfl rf_62_2 ?_
      refine g_getR (pc' := 26) (r := 48) dX5_leastBreath_23 rfl fl_RX5_55 kd_44 rfl rf_44_4 ?_
      refine g_iload_n (pc' := 27) dX5_leastBreath_26 rfl rfl ?_
      refine g_iload_n (pc' := 28) dX5_leastBreath_27 rfl rfl ?_
      obtain ⟨ob2, h⟩ := h
      refine g_iast (pc' := 29) dX5_leastBreath_28 rfl kd_48 ob2 ?_
      refine g_sto (fun s3 es3 => ?_)
      have h := h s3 es3
      refine g_aload_n (pc' := 30) dX5_leastBreath_29 rfl rfl ?_
      refine g_getR (pc' := 33) (r := 54) dX5_leastBreath_30 rfl fl_RX5_45 kd_62 rfl rf_62_3 ?_
      refine g_aload_n (pc' := 34) dX5_leastBreath_33 rfl rfl ?_
      refine g_getR (pc' := 37) (r := 44) dX5_leastBreath_34 rfl fl_RX5_42 kd_62 rfl rf_62_2 ?_
      refine g_V1v (pc' := 40) dX5_leastBreath_37 rfl mv_RX5_59 kd_54 (by decide) (Nat.le_of_ble_eq_true rfl) (C_X6_playAll kd_54 kd_44 h) (fun s4 h => ?_)
      refine g_aload_n (pc' := 41) dX5_leastBreath_40 rfl rfl ?_
      refine g_getR (pc' := 44) (r := 54) dX5_leastBreath_41 rfl fl_RX5_45 kd_62 rfl rf_62_3 ?_
      refine g_getR (pc' := 47) (r := 59) dX5_leastBreath_44 rfl fl_RX5_64 kd_54 rfl rf_54_5 ?_
      refine g_iload_n (pc' := 48) dX5_leastBreath_47 rfl rfl ?_
      obtain ⟨ob6, h⟩ := h
      refine g_iald (pc' := 49) dX5_leastBreath_48 rfl kd_59 ob6 ?_
      refine g_iload_n (pc' := 50) dX5_leastBreath_49 rfl rfl ?_
      refine g_ic_ne (pc' := 53) (tgt := 55) dX5_leastBreath_50 rfl rfl (fun c7 => ?_) (fun c7 => ?_)
      · have h := h.2 c7
        refine g_aload_n (pc' := 56) dX5_leastBreath_55 rfl rfl ?_
        refine g_getR (pc' := 59) (r := 54) dX5_leastBreath_56 rfl fl_RX5_45 kd_62 rfl rf_62_3 ?_
        refine g_getR (pc' := 62) (r := 58) dX5_leastBreath_59 rfl fl_RX5_67 kd_54 rfl rf_54_4 ?_
        refine g_iload_n (pc' := 63) dX5_leastBreath_62 rfl rfl ?_
        obtain ⟨ob8, h⟩ := h
        refine g_iald (pc' := 64) dX5_leastBreath_63 rfl kd_58 ob8 ?_
        refine g_if_le (pc' := 67) (tgt := 69) dX5_leastBreath_64 rfl rfl (fun c9 => ?_) (fun c9 => ?_)
        · have h := h.1 c9
          refine g_iinc (pc' := 72) dX5_leastBreath_69 rfl rfl (by decide) ?_
          refine g_goto (pc' := 13) dX5_leastBreath_72 rfl ?_
          exact (ih _ _ h).to ((sb_c rfl (sb_c rfl (sb_c rfl (sb_c rfl sb_n)))))
        · have h := h.2 c9
          exact (hK67 _ h).to (sb_n)
      · have h := h.1 c7
        exact (hK53 _ _ h).to ((sb_c rfl sb_n))
def P_X5_leastBreath (v1 : Int) (v2 : Int) (s : Sto) (Q : Int → Sto → Prop) : Prop := (P_X4_becomes 44 6 s (fun _ s1 => (∃ n7, L_X5_leastBreath_13 v1 v2 (fun x3 s4 => Q x3 s4) (fun s5 => Q ((-1)) s5) (fun s6 => Q ((-1)) s6) n7 1 s1)))
set_option maxRecDepth 100000 in
theorem C_X5_leastBreath {v1 : Int} {v2 : Int} {s : Sto} {Q : Int → Sto → Prop}  (h : P_X5_leastBreath v1 v2 s Q) : sr_C yX5_leastBreath cX5_leastBreath 4 (some .int) 4 [vR 62, vI v1, vI v2] s Q := by
  refine sr_C.of (by decide +kernel) (Nat.le_of_ble_eq_true rfl) ?_
  show sr_G RX5 cX5_leastBreath 4 (some .int) 4 0 [(0, vR 62), (1, vI v1), (2, vI v2)] [] s Q
  unfold P_X5_leastBreath at h
  refine g_aload_n (pc' := 1) dX5_leastBreath_0 rfl rfl ?_
  refine g_getR (pc' := 4) (r := 44) dX5_leastBreath_1 rfl fl_RX5_42 kd_62 rfl rf_62_2 ?_
  refine g_aload_n (pc' := 5) dX5_leastBreath_4 rfl rfl ?_
  refine g_getR (pc' := 8) (r := 6) dX5_leastBreath_5 rfl fl_RX5_38 kd_62 rfl rf_62_1 ?_
  refine g_V1v (pc' := 11) dX5_leastBreath_8 rfl mv_RX5_49 kd_44 (by decide) (Nat.le_of_ble_eq_true rfl) (C_X4_becomes kd_44 kd_6 h) (fun s1 h => ?_)
  refine g_iconst (pc' := 12) (by unfold r32; decide) dX5_leastBreath_11 rfl ?_
  refine g_istore_n (pc' := 13) dX5_leastBreath_12 rfl (by decide) ?_
  obtain ⟨n7, h⟩ := h
  refine (SL_X5_leastBreath_13  (fun x3 s4 h => ?_) (fun s5 h => ?_) (fun s6 h => ?_) n7 _ _ h).to ((sb_c rfl (sb_c rfl (sb_c rfl (sb_c rfl sb_n)))))
  · refine g_iload_n (pc' := 54) dX5_leastBreath_53 rfl rfl ?_
    exact g_iret dX5_leastBreath_54 rfl h
  · refine g_iconst (pc' := 68) (by unfold r32; decide) dX5_leastBreath_67 rfl ?_
    exact g_iret dX5_leastBreath_68 rfl h
  · refine g_iconst (pc' := 76) (by unfold r32; decide) dX5_leastBreath_75 rfl ?_
    exact g_iret dX5_leastBreath_76 rfl h
def L_X5_seekAim_38 (v1 : Int) (v2 : Int) (K131 : Sto → Prop) : Nat → Int → Int → Sto → Prop
  | 0, _, _, _ => False
  | n + 1, v3, v4, s => ((9 < v4 → K131 s) ∧ (¬ 9 < v4 → ((v3 = 0 → K131 s) ∧ (¬ v3 = 0 → (inb v1 8 ∧ (∀ s4 : Sto, s4 = up s 48 v1.toNat v4 → (P_X6_playAll 54 44 s4 (fun _ s5 => (inb v1 8 ∧ (∀ x8 : Int, x8 = (if 0 < s5 58 v1.toNat then 0 else 1) → ((s5 54 8 ≤ s5 62 6 → L_X5_seekAim_38 v1 v2 K131 n x8 (w32 (v4 + 1)) s5) ∧ (¬ s5 54 8 ≤ s5 62 6 → (∀ s11 : Sto, s11 = up s5 62 6 (s5 54 8) → (∀ s12 : Sto, s12 = up s11 62 4 v2 → (∀ s13 : Sto, s13 = up s12 62 5 v4 → L_X5_seekAim_38 v1 v2 K131 n x8 (w32 (v4 + 1)) s13)))))))))))))))
set_option maxRecDepth 100000 in
theorem SL_X5_seekAim_38 {v1 : Int} {v2 : Int} {K131 : Sto → Prop} {Q : Int → Sto → Prop}  (hK131 : ∀ s, K131 s → sr_G RX5 cX5_seekAim 5 none 4 131 [(0, vR 62), (1, vI v1), (2, vI v2)] [] s Q) : ∀ n v3 v4 s, L_X5_seekAim_38 v1 v2 K131 n v3 v4 s → sr_G RX5 cX5_seekAim 5 none 4 38 [(0, vR 62), (1, vI v1), (2, vI v2), (3, vI v3), (4, vI v4)] [] s Q := by
  intro n
  induction n with
  | zero => intro v3 v4 s h; exact h.elim
  | succ n ih =>
    intro v3 v4 s h
    unfold L_X5_seekAim_38 at h
    refine g_iload (pc' := 40) dX5_seekAim_38 rfl rfl ?_
    refine g_bipush (pc' := 42) ⟨by unfold r32; decide, rfl⟩ dX5_seekAim_40 rfl ?_
    refine g_ic_gt (pc' := 45) (tgt := 131) dX5_seekAim_42 rfl rfl (fun c1 => ?_) (fun c1 => ?_)
    · have h := h.1 c1
      exact (hK131 _ h).to ((sb_c rfl (sb_c rfl (sb_c rfl sb_n))))
    · have h := h.2 c1
      refine g_iload_n (pc' := 46) dX5_seekAim_45 rfl rfl ?_
      refine g_if_eq (pc' := 49) (tgt := 131) dX5_seekAim_46 rfl rfl (fun c2 => ?_) (fun c2 => ?_)
      · have h := h.1 c2
        exact (hK131 _ h).to ((sb_c rfl (sb_c rfl (sb_c rfl sb_n))))
      · have h := h.2 c2
        refine g_aload_n (pc' := 50) dX5_seekAim_49 rfl rfl ?_
        refine g_getR (pc' := 53) (r := 44) dX5_seekAim_50 rfl fl_RX5_42 kd_62 rfl rf_62_2 ?_
        refine g_getR (pc' := 56) (r := 48) dX5_seekAim_53 rfl fl_RX5_55 kd_44 rfl rf_44_4 ?_
        refine g_iload_n (pc' := 57) dX5_seekAim_56 rfl rfl ?_
        refine g_iload (pc' := 59) dX5_seekAim_57 rfl rfl ?_
        obtain ⟨ob3, h⟩ := h
        refine g_iast (pc' := 60) dX5_seekAim_59 rfl kd_48 ob3 ?_
        refine g_sto (fun s4 es4 => ?_)
        have h := h s4 es4
        refine g_aload_n (pc' := 61) dX5_seekAim_60 rfl rfl ?_
        refine g_getR (pc' := 64) (r := 54) dX5_seekAim_61 rfl fl_RX5_45 kd_62 rfl rf_62_3 ?_
        refine g_aload_n (pc' := 65) dX5_seekAim_64 rfl rfl ?_
        refine g_getR (pc' := 68) (r := 44) dX5_seekAim_65 rfl fl_RX5_42 kd_62 rfl rf_62_2 ?_
        refine g_V1v (pc' := 71) dX5_seekAim_68 rfl mv_RX5_59 kd_54 (by decide) (Nat.le_of_ble_eq_true rfl) (C_X6_playAll kd_54 kd_44 h) (fun s5 h => ?_)
        refine g_aload_n (pc' := 72) dX5_seekAim_71 rfl rfl ?_
        refine g_getR (pc' := 75) (r := 54) dX5_seekAim_72 rfl fl_RX5_45 kd_62 rfl rf_62_3 ?_
        refine g_getR (pc' := 78) (r := 58) dX5_seekAim_75 rfl fl_RX5_67 kd_54 rfl rf_54_4 ?_
        refine g_iload_n (pc' := 79) dX5_seekAim_78 rfl rfl ?_
        obtain ⟨ob7, h⟩ := h
        refine g_iald (pc' := 80) dX5_seekAim_79 rfl kd_58 ob7 ?_
        refine sr_join (v := (if 0 < s5 58 v1.toNat then 0 else 1)) (GG := fun x8 => sr_G RX5 cX5_seekAim 5 none 4 88 [(0, vR 62), (1, vI v1), (2, vI v2), (4, vI v4)] [vI x8] s5 Q) (fun x8 ex8 => ?_) (fun hj => ?_)
        · have h := h x8 ex8
          refine g_istore_n (pc' := 89) dX5_seekAim_88 rfl (by decide) ?_
          refine g_aload_n (pc' := 90) dX5_seekAim_89 rfl rfl ?_
          refine g_getR (pc' := 93) (r := 54) dX5_seekAim_90 rfl fl_RX5_45 kd_62 rfl rf_62_3 ?_
          refine g_getI (pc' := 96) dX5_seekAim_93 rfl fl_RX5_73 kd_54 (Or.inl rfl) ?_
          refine g_aload_n (pc' := 97) dX5_seekAim_96 rfl rfl ?_
          refine g_getI (pc' := 100) dX5_seekAim_97 rfl fl_RX5_18 kd_62 (Or.inl rfl) ?_
          refine g_ic_le (pc' := 103) (tgt := 125) dX5_seekAim_100 rfl rfl (fun c10 => ?_) (fun c10 => ?_)
          · have h := h.1 c10
            refine g_iinc (pc' := 128) dX5_seekAim_125 rfl rfl (by decide) ?_
            refine g_goto (pc' := 38) dX5_seekAim_128 rfl ?_
            exact (ih _ _ _ h).to ((sb_c rfl (sb_c rfl (sb_c rfl (sb_c rfl (sb_c rfl sb_n))))))
          · have h := h.2 c10
            refine g_aload_n (pc' := 104) dX5_seekAim_103 rfl rfl ?_
            refine g_aload_n (pc' := 105) dX5_seekAim_104 rfl rfl ?_
            refine g_getR (pc' := 108) (r := 54) dX5_seekAim_105 rfl fl_RX5_45 kd_62 rfl rf_62_3 ?_
            refine g_getI (pc' := 111) dX5_seekAim_108 rfl fl_RX5_73 kd_54 (Or.inl rfl) ?_
            refine g_putI (pc' := 114) dX5_seekAim_111 rfl fp_RX5_18 kd_62 rfl ?_
            refine g_sto (fun s11 es11 => ?_)
            have h := h s11 es11
            refine g_aload_n (pc' := 115) dX5_seekAim_114 rfl rfl ?_
            refine g_iload_n (pc' := 116) dX5_seekAim_115 rfl rfl ?_
            refine g_putI (pc' := 119) dX5_seekAim_116 rfl fp_RX5_9 kd_62 rfl ?_
            refine g_sto (fun s12 es12 => ?_)
            have h := h s12 es12
            refine g_aload_n (pc' := 120) dX5_seekAim_119 rfl rfl ?_
            refine g_iload (pc' := 122) dX5_seekAim_120 rfl rfl ?_
            refine g_putI (pc' := 125) dX5_seekAim_122 rfl fp_RX5_15 kd_62 rfl ?_
            refine g_sto (fun s13 es13 => ?_)
            have h := h s13 es13
            refine g_iinc (pc' := 128) dX5_seekAim_125 rfl rfl (by decide) ?_
            refine g_goto (pc' := 38) dX5_seekAim_128 rfl ?_
            exact (ih _ _ _ h).to ((sb_c rfl (sb_c rfl (sb_c rfl (sb_c rfl (sb_c rfl sb_n))))))
        · refine g_if_gt (pc' := 83) (tgt := 87) dX5_seekAim_80 rfl rfl (fun c9 => ?_) (fun c9 => ?_)
          · refine g_iconst (pc' := 88) (by unfold r32; decide) dX5_seekAim_87 rfl ?_
            exact (hj _ (by rw [if_pos c9])).to ((sb_c rfl (sb_c rfl (sb_c rfl (sb_c rfl sb_n)))))
          · refine g_iconst (pc' := 84) (by unfold r32; decide) dX5_seekAim_83 rfl ?_
            refine g_goto (pc' := 88) dX5_seekAim_84 rfl ?_
            exact (hj _ (by rw [if_neg c9])).to ((sb_c rfl (sb_c rfl (sb_c rfl (sb_c rfl sb_n)))))
def L_X5_seekAim_18 (v1 : Int) (K137 : Sto → Prop) : Nat → Int → Sto → Prop
  | 0, _, _ => False
  | n + 1, v2, s => ((4 ≤ v2 → K137 s) ∧ (¬ 4 ≤ v2 → (inb v1 8 ∧ (∀ s3 : Sto, s3 = up s 47 v1.toNat v2 → (∃ n5, L_X5_seekAim_38 v1 v2 (fun s4 => L_X5_seekAim_18 v1 K137 n (w32 (v2 + 1)) s4) n5 1 1 s3)))))
set_option maxRecDepth 100000 in
theorem SL_X5_seekAim_18 {v1 : Int} {K137 : Sto → Prop} {Q : Int → Sto → Prop}  (hK137 : ∀ s, K137 s → sr_G RX5 cX5_seekAim 5 none 4 137 [] [] s Q) : ∀ n v2 s, L_X5_seekAim_18 v1 K137 n v2 s → sr_G RX5 cX5_seekAim 5 none 4 18 [(0, vR 62), (1, vI v1), (2, vI v2)] [] s Q := by
  intro n
  induction n with
  | zero => intro v2 s h; exact h.elim
  | succ n ih =>
    intro v2 s h
    unfold L_X5_seekAim_18 at h
    refine g_iload_n (pc' := 19) dX5_seekAim_18 rfl rfl ?_
    refine g_iconst (pc' := 20) (by unfold r32; decide) dX5_seekAim_19 rfl ?_
    refine g_ic_ge (pc' := 23) (tgt := 137) dX5_seekAim_20 rfl rfl (fun c1 => ?_) (fun c1 => ?_)
    · have h := h.1 c1
      exact (hK137 _ h).to (sb_n)
    · have h := h.2 c1
      refine g_aload_n (pc' := 24) dX5_seekAim_23 rfl rfl ?_
      refine g_getR (pc' := 27) (r := 44) dX5_seekAim_24 rfl fl_RX5_42 kd_62 rfl rf_62_2 ?_
      refine g_getR (pc' := 30) (r := 47) dX5_seekAim_27 rfl fl_RX5_70 kd_44 rfl rf_44_3 ?_
      refine g_iload_n (pc' := 31) dX5_seekAim_30 rfl rfl ?_
      refine g_iload_n (pc' := 32) dX5_seekAim_31 rfl rfl ?_
      obtain ⟨ob2, h⟩ := h
      refine g_iast (pc' := 33) dX5_seekAim_32 rfl kd_47 ob2 ?_
      refine g_sto (fun s3 es3 => ?_)
      have h := h s3 es3
      refine g_iconst (pc' := 34) (by unfold r32; decide) dX5_seekAim_33 rfl ?_
      refine g_istore_n (pc' := 35) dX5_seekAim_34 rfl (by decide) ?_
      refine g_iconst (pc' := 36) (by unfold r32; decide) dX5_seekAim_35 rfl ?_
      refine g_istore (pc' := 38) dX5_seekAim_36 rfl (by decide) ?_
      obtain ⟨n5, h⟩ := h
      refine (SL_X5_seekAim_38  (fun s4 h => ?_) n5 _ _ _ h).to ((sb_c rfl (sb_c rfl (sb_c rfl (sb_c rfl (sb_c rfl sb_n))))))
      · refine g_iinc (pc' := 134) dX5_seekAim_131 rfl rfl (by decide) ?_
        refine g_goto (pc' := 18) dX5_seekAim_134 rfl ?_
        exact (ih _ _ h).to ((sb_c rfl (sb_c rfl (sb_c rfl sb_n))))
def P_X5_seekAim (v1 : Int) (s : Sto) (Q : Int → Sto → Prop) : Prop := (P_X4_becomes 44 6 s (fun _ s1 => (∀ s3 : Sto, s3 = up s1 62 6 ((-1)) → (∃ n5, L_X5_seekAim_18 v1 (fun s4 => Q 0 s4) n5 0 s3))))
set_option maxRecDepth 100000 in
theorem C_X5_seekAim {v1 : Int} {s : Sto} {Q : Int → Sto → Prop}  (h : P_X5_seekAim v1 s Q) : sr_C yX5_seekAim cX5_seekAim 5 none 4 [vR 62, vI v1] s Q := by
  refine sr_C.of (by decide +kernel) (Nat.le_of_ble_eq_true rfl) ?_
  show sr_G RX5 cX5_seekAim 5 none 4 0 [(0, vR 62), (1, vI v1)] [] s Q
  unfold P_X5_seekAim at h
  refine g_aload_n (pc' := 1) dX5_seekAim_0 rfl rfl ?_
  refine g_getR (pc' := 4) (r := 44) dX5_seekAim_1 rfl fl_RX5_42 kd_62 rfl rf_62_2 ?_
  refine g_aload_n (pc' := 5) dX5_seekAim_4 rfl rfl ?_
  refine g_getR (pc' := 8) (r := 6) dX5_seekAim_5 rfl fl_RX5_38 kd_62 rfl rf_62_1 ?_
  refine g_V1v (pc' := 11) dX5_seekAim_8 rfl mv_RX5_49 kd_44 (by decide) (Nat.le_of_ble_eq_true rfl) (C_X4_becomes kd_44 kd_6 h) (fun s1 h => ?_)
  refine g_aload_n (pc' := 12) dX5_seekAim_11 rfl rfl ?_
  refine g_iconst (pc' := 13) (by unfold r32; decide) dX5_seekAim_12 rfl ?_
  refine g_putI (pc' := 16) dX5_seekAim_13 rfl fp_RX5_18 kd_62 rfl ?_
  refine g_sto (fun s3 es3 => ?_)
  have h := h s3 es3
  refine g_iconst (pc' := 17) (by unfold r32; decide) dX5_seekAim_16 rfl ?_
  refine g_istore_n (pc' := 18) dX5_seekAim_17 rfl (by decide) ?_
  obtain ⟨n5, h⟩ := h
  refine (SL_X5_seekAim_18  (fun s4 h => ?_) n5 _ _ h).to ((sb_c rfl (sb_c rfl (sb_c rfl sb_n))))
  · exact g_vret dX5_seekAim_137 rfl h
def P_X5_binds (v1 : Int) (s : Sto) (Q : Int → Sto → Prop) : Prop := (P_X6_playAll 54 44 s (fun _ s1 => (inb v1 8 ∧ ((s1 59 v1.toNat = (-1) → Q 0 s1) ∧ (¬ s1 59 v1.toNat = (-1) → Q 1 s1)))))
set_option maxRecDepth 100000 in
theorem C_X5_binds {v1 : Int} {s : Sto} {Q : Int → Sto → Prop}  (h : P_X5_binds v1 s Q) : sr_C yX5_binds cX5_binds 2 (some .boolean) 4 [vR 62, vI v1] s Q := by
  refine sr_C.of (by decide +kernel) (Nat.le_of_ble_eq_true rfl) ?_
  show sr_G RX5 cX5_binds 2 (some .boolean) 4 0 [(0, vR 62), (1, vI v1)] [] s Q
  unfold P_X5_binds at h
  refine g_aload_n (pc' := 1) dX5_binds_0 rfl rfl ?_
  refine g_getR (pc' := 4) (r := 54) dX5_binds_1 rfl fl_RX5_45 kd_62 rfl rf_62_3 ?_
  refine g_aload_n (pc' := 5) dX5_binds_4 rfl rfl ?_
  refine g_getR (pc' := 8) (r := 44) dX5_binds_5 rfl fl_RX5_42 kd_62 rfl rf_62_2 ?_
  refine g_V1v (pc' := 11) dX5_binds_8 rfl mv_RX5_59 kd_54 (by decide) (Nat.le_of_ble_eq_true rfl) (C_X6_playAll kd_54 kd_44 h) (fun s1 h => ?_)
  refine g_aload_n (pc' := 12) dX5_binds_11 rfl rfl ?_
  refine g_getR (pc' := 15) (r := 54) dX5_binds_12 rfl fl_RX5_45 kd_62 rfl rf_62_3 ?_
  refine g_getR (pc' := 18) (r := 59) dX5_binds_15 rfl fl_RX5_64 kd_54 rfl rf_54_5 ?_
  refine g_iload_n (pc' := 19) dX5_binds_18 rfl rfl ?_
  obtain ⟨ob3, h⟩ := h
  refine g_iald (pc' := 20) dX5_binds_19 rfl kd_59 ob3 ?_
  refine g_iconst (pc' := 21) (by unfold r32; decide) dX5_binds_20 rfl ?_
  refine g_ic_eq (pc' := 24) (tgt := 28) dX5_binds_21 rfl rfl (fun c4 => ?_) (fun c4 => ?_)
  · have h := h.1 c4
    refine g_iconst (pc' := 29) (by unfold r32; decide) dX5_binds_28 rfl ?_
    exact g_zret dX5_binds_29 rfl (Or.inl rfl) h
  · have h := h.2 c4
    refine g_iconst (pc' := 25) (by unfold r32; decide) dX5_binds_24 rfl ?_
    refine g_goto (pc' := 29) dX5_binds_25 rfl ?_
    exact g_zret dX5_binds_29 rfl (Or.inr rfl) h
