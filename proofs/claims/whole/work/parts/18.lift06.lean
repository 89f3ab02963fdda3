def P_X11_digestRest (v1 : Int) (s : Sto) (Q : Int → Sto → Prop) : Prop := (∀ x1 : Int, x1 = F_X11_mixed v1 (s 16 9) s → (∀ x2 : Int, x2 = F_X11_mixed x1 (s 16 10) s → (P_X11_missed s (fun r4 s3 => (∀ x5 : Int, x5 = F_X11_mixed x2 r4 s3 → (P_X11_richest s3 (fun r7 s6 => (∀ x8 : Int, x8 = F_X11_mixed x5 r7 s6 → (P_X11_lonely s6 (fun r10 s9 => (∀ x11 : Int, x11 = F_X11_mixed x8 r10 s9 → (P_X5_seekCalm s9 (fun _ s12 => (∀ x14 : Int, x14 = F_X11_mixed x11 (s12 62 7) s12 → (∀ x15 : Int, x15 = F_X11_mixed x14 (s12 62 8) s12 → (P_X3_neverBits s12 (fun r17 s16 => (∀ x18 : Int, x18 = F_X11_mixed x15 r17 s16 → (P_X3_paceBits s16 (fun r20 s19 => (∀ x21 : Int, x21 = F_X11_mixed x18 r20 s19 → (P_X3_bestAsk s19 (fun r23 s22 => (∀ x24 : Int, x24 = F_X11_mixed x21 r23 s22 → (P_X0_playLots 7 6 s22 (fun _ s25 => (∀ x27 : Int, x27 = F_X11_mixed x24 (s25 66 8) s25 → Q (F_X11_mixed x27 (s25 66 9) s25) s25)))))))))))))))))))))))))))
set_option maxRecDepth 100000 in
theorem C_X11_digestRest {v1 : Int} {s : Sto} {Q : Int → Sto → Prop}  (h : P_X11_digestRest v1 s Q) : sr_C yX11_digestRest cX11_digestRest 5 (some .long) 6 [vR 0, vL v1] s Q := by
  refine sr_C.of (by decide +kernel) (Nat.le_of_ble_eq_true rfl) ?_
  show sr_G RX11 cX11_digestRest 5 (some .long) 6 0 [(0, vR 0), (1, vL v1)] [] s Q
  unfold P_X11_digestRest at h
  refine g_lload_n (pc' := 1) dX11_digestRest_0 rfl rfl ?_
  refine g_aload_n (pc' := 2) dX11_digestRest_1 rfl rfl ?_
  refine g_getR (pc' := 5) (r := 16) dX11_digestRest_2 rfl fl_RX11_38 kd_0 rfl rf_0_4 ?_
  refine g_getI (pc' := 8) dX11_digestRest_5 rfl fl_RX11_204 kd_16 (Or.inl rfl) ?_
  refine g_i2l (pc' := 9) dX11_digestRest_8 rfl ?_
  refine g_S2l (pc' := 12) dX11_digestRest_9 rfl ms_RX11_346 (by decide) (Nat.le_of_ble_eq_true rfl) C_X11_mixed (sr_pur ?_)
  refine g_topL (fun x1 ex1 => ?_)
  have h := h x1 ex1
  refine g_lstore_n (pc' := 13) dX11_digestRest_12 rfl (by decide) ?_
  refine g_lload_n (pc' := 14) dX11_digestRest_13 rfl rfl ?_
  refine g_aload_n (pc' := 15) dX11_digestRest_14 rfl rfl ?_
  refine g_getR (pc' := 18) (r := 16) dX11_digestRest_15 rfl fl_RX11_38 kd_0 rfl rf_0_4 ?_
  refine g_getI (pc' := 21) dX11_digestRest_18 rfl fl_RX11_207 kd_16 (Or.inl rfl) ?_
  refine g_i2l (pc' := 22) dX11_digestRest_21 rfl ?_
  refine g_S2l (pc' := 25) dX11_digestRest_22 rfl ms_RX11_346 (by decide) (Nat.le_of_ble_eq_true rfl) C_X11_mixed (sr_pur ?_)
  refine g_topL (fun x2 ex2 => ?_)
  have h := h x2 ex2
  refine g_lstore_n (pc' := 26) dX11_digestRest_25 rfl (by decide) ?_
  refine g_lload_n (pc' := 27) dX11_digestRest_26 rfl rfl ?_
  refine g_aload_n (pc' := 28) dX11_digestRest_27 rfl rfl ?_
  refine g_V0i (pc' := 31) dX11_digestRest_28 rfl mv_RX11_378 kd_0 (by decide) (Nat.le_of_ble_eq_true rfl) (C_X11_missed h) (fun r4 s3 h => ?_)
  refine g_i2l (pc' := 32) dX11_digestRest_31 rfl ?_
  refine g_S2l (pc' := 35) dX11_digestRest_32 rfl ms_RX11_346 (by decide) (Nat.le_of_ble_eq_true rfl) C_X11_mixed (sr_pur ?_)
  refine g_topL (fun x5 ex5 => ?_)
  have h := h x5 ex5
  refine g_lstore_n (pc' := 36) dX11_digestRest_35 rfl (by decide) ?_
  refine g_lload_n (pc' := 37) dX11_digestRest_36 rfl rfl ?_
  refine g_aload_n (pc' := 38) dX11_digestRest_37 rfl rfl ?_
  refine g_V0i (pc' := 41) dX11_digestRest_38 rfl mv_RX11_381 kd_0 (by decide) (Nat.le_of_ble_eq_true rfl) (C_X11_richest h) (fun r7 s6 h => ?_)
  refine g_i2l (pc' := 42) dX11_digestRest_41 rfl ?_
  refine g_S2l (pc' := 45) dX11_digestRest_42 rfl ms_RX11_346 (by decide) (Nat.le_of_ble_eq_true rfl) C_X11_mixed (sr_pur ?_)
  refine g_topL (fun x8 ex8 => ?_)
  have h := h x8 ex8
  refine g_lstore_n (pc' := 46) dX11_digestRest_45 rfl (by decide) ?_
  refine g_lload_n (pc' := 47) dX11_digestRest_46 rfl rfl ?_
  refine g_aload_n (pc' := 48) dX11_digestRest_47 rfl rfl ?_
  refine g_V0i (pc' := 51) dX11_digestRest_48 rfl mv_RX11_384 kd_0 (by decide) (Nat.le_of_ble_eq_true rfl) (C_X11_lonely h) (fun r10 s9 h => ?_)
  refine g_i2l (pc' := 52) dX11_digestRest_51 rfl ?_
  refine g_S2l (pc' := 55) dX11_digestRest_52 rfl ms_RX11_346 (by decide) (Nat.le_of_ble_eq_true rfl) C_X11_mixed (sr_pur ?_)
  refine g_topL (fun x11 ex11 => ?_)
  have h := h x11 ex11
  refine g_lstore_n (pc' := 56) dX11_digestRest_55 rfl (by decide) ?_
  refine g_aload_n (pc' := 57) dX11_digestRest_56 rfl rfl ?_
  refine g_getR (pc' := 60) (r := 62) dX11_digestRest_57 rfl fl_RX11_82 kd_0 rfl rf_0_7 ?_
  refine g_V0v (pc' := 63) dX11_digestRest_60 rfl mv_RX11_252 kd_62 (by decide) (Nat.le_of_ble_eq_true rfl) (C_X5_seekCalm h) (fun s12 h => ?_)
  refine g_lload_n (pc' := 64) dX11_digestRest_63 rfl rfl ?_
  refine g_aload_n (pc' := 65) dX11_digestRest_64 rfl rfl ?_
  refine g_getR (pc' := 68) (r := 62) dX11_digestRest_65 rfl fl_RX11_82 kd_0 rfl rf_0_7 ?_
  refine g_getI (pc' := 71) dX11_digestRest_68 rfl fl_RX11_255 kd_62 (Or.inl rfl) ?_
  refine g_i2l (pc' := 72) dX11_digestRest_71 rfl ?_
  refine g_S2l (pc' := 75) dX11_digestRest_72 rfl ms_RX11_346 (by decide) (Nat.le_of_ble_eq_true rfl) C_X11_mixed (sr_pur ?_)
  refine g_topL (fun x14 ex14 => ?_)
  have h := h x14 ex14
  refine g_lstore_n (pc' := 76) dX11_digestRest_75 rfl (by decide) ?_
  refine g_lload_n (pc' := 77) dX11_digestRest_76 rfl rfl ?_
  refine g_aload_n (pc' := 78) dX11_digestRest_77 rfl rfl ?_
  refine g_getR (pc' := 81) (r := 62) dX11_digestRest_78 rfl fl_RX11_82 kd_0 rfl rf_0_7 ?_
  refine g_getI (pc' := 84) dX11_digestRest_81 rfl fl_RX11_258 kd_62 (Or.inl rfl) ?_
  refine g_i2l (pc' := 85) dX11_digestRest_84 rfl ?_
  refine g_S2l (pc' := 88) dX11_digestRest_85 rfl ms_RX11_346 (by decide) (Nat.le_of_ble_eq_true rfl) C_X11_mixed (sr_pur ?_)
  refine g_topL (fun x15 ex15 => ?_)
  have h := h x15 ex15
  refine g_lstore_n (pc' := 89) dX11_digestRest_88 rfl (by decide) ?_
  refine g_lload_n (pc' := 90) dX11_digestRest_89 rfl rfl ?_
  refine g_aload_n (pc' := 91) dX11_digestRest_90 rfl rfl ?_
  refine g_getR (pc' := 94) (r := 64) dX11_digestRest_91 rfl fl_RX11_91 kd_0 rfl rf_0_8 ?_
  refine g_V0i (pc' := 97) dX11_digestRest_94 rfl mv_RX11_270 kd_64 (by decide) (Nat.le_of_ble_eq_true rfl) (C_X3_neverBits h) (fun r17 s16 h => ?_)
  refine g_i2l (pc' := 98) dX11_digestRest_97 rfl ?_
  refine g_S2l (pc' := 101) dX11_digestRest_98 rfl ms_RX11_346 (by decide) (Nat.le_of_ble_eq_true rfl) C_X11_mixed (sr_pur ?_)
  refine g_topL (fun x18 ex18 => ?_)
  have h := h x18 ex18
  refine g_lstore_n (pc' := 102) dX11_digestRest_101 rfl (by decide) ?_
  refine g_lload_n (pc' := 103) dX11_digestRest_102 rfl rfl ?_
  refine g_aload_n (pc' := 104) dX11_digestRest_103 rfl rfl ?_
  refine g_getR (pc' := 107) (r := 64) dX11_digestRest_104 rfl fl_RX11_91 kd_0 rfl rf_0_8 ?_
  refine g_V0i (pc' := 110) dX11_digestRest_107 rfl mv_RX11_280 kd_64 (by decide) (Nat.le_of_ble_eq_true rfl) (C_X3_paceBits h) (fun r20 s19 h => ?_)
  refine g_i2l (pc' := 111) dX11_digestRest_110 rfl ?_
  refine g_S2l (pc' := 114) dX11_digestRest_111 rfl ms_RX11_346 (by decide) (Nat.le_of_ble_eq_true rfl) C_X11_mixed (sr_pur ?_)
  refine g_topL (fun x21 ex21 => ?_)
  have h := h x21 ex21
  refine g_lstore_n (pc' := 115) dX11_digestRest_114 rfl (by decide) ?_
  refine g_lload_n (pc' := 116) dX11_digestRest_115 rfl rfl ?_
  refine g_aload_n (pc' := 117) dX11_digestRest_116 rfl rfl ?_
  refine g_getR (pc' := 120) (r := 64) dX11_digestRest_117 rfl fl_RX11_91 kd_0 rfl rf_0_8 ?_
  refine g_V0i (pc' := 123) dX11_digestRest_120 rfl mv_RX11_283 kd_64 (by decide) (Nat.le_of_ble_eq_true rfl) (C_X3_bestAsk h) (fun r23 s22 h => ?_)
  refine g_i2l (pc' := 124) dX11_digestRest_123 rfl ?_
  refine g_S2l (pc' := 127) dX11_digestRest_124 rfl ms_RX11_346 (by decide) (Nat.le_of_ble_eq_true rfl) C_X11_mixed (sr_pur ?_)
  refine g_topL (fun x24 ex24 => ?_)
  have h := h x24 ex24
  refine g_lstore_n (pc' := 128) dX11_digestRest_127 rfl (by decide) ?_
  refine g_aload_n (pc' := 129) dX11_digestRest_128 rfl rfl ?_
  refine g_getR (pc' := 132) (r := 66) dX11_digestRest_129 rfl fl_RX11_98 kd_0 rfl rf_0_9 ?_
  refine g_bipush (pc' := 134) ⟨by unfold r32; decide, rfl⟩ dX11_digestRest_132 rfl ?_
  refine g_bipush (pc' := 136) ⟨by unfold r32; decide, rfl⟩ dX11_digestRest_134 rfl ?_
  refine g_V2v (pc' := 139) dX11_digestRest_136 rfl mv_RX11_299 kd_66 (by decide) (Nat.le_of_ble_eq_true rfl) (C_X0_playLots h) (fun s25 h => ?_)
  refine g_lload_n (pc' := 140) dX11_digestRest_139 rfl rfl ?_
  refine g_aload_n (pc' := 141) dX11_digestRest_140 rfl rfl ?_
  refine g_getR (pc' := 144) (r := 66) dX11_digestRest_141 rfl fl_RX11_98 kd_0 rfl rf_0_9 ?_
  refine g_getI (pc' := 147) dX11_digestRest_144 rfl fl_RX11_302 kd_66 (Or.inl rfl) ?_
  refine g_i2l (pc' := 148) dX11_digestRest_147 rfl ?_
  refine g_S2l (pc' := 151) dX11_digestRest_148 rfl ms_RX11_346 (by decide) (Nat.le_of_ble_eq_true rfl) C_X11_mixed (sr_pur ?_)
  refine g_topL (fun x27 ex27 => ?_)
  have h := h x27 ex27
  refine g_lstore_n (pc' := 152) dX11_digestRest_151 rfl (by decide) ?_
  refine g_lload_n (pc' := 153) dX11_digestRest_152 rfl rfl ?_
  refine g_aload_n (pc' := 154) dX11_digestRest_153 rfl rfl ?_
  refine g_getR (pc' := 157) (r := 66) dX11_digestRest_154 rfl fl_RX11_98 kd_0 rfl rf_0_9 ?_
  refine g_getI (pc' := 160) dX11_digestRest_157 rfl fl_RX11_305 kd_66 (Or.inl rfl) ?_
  refine g_i2l (pc' := 161) dX11_digestRest_160 rfl ?_
  refine g_S2l (pc' := 164) dX11_digestRest_161 rfl ms_RX11_346 (by decide) (Nat.le_of_ble_eq_true rfl) C_X11_mixed (sr_pur ?_)
  exact g_lret dX11_digestRest_164 rfl h
def L_X11_digest_10  (K33 : Int → Sto → Prop) : Nat → Int → Int → Sto → Prop
  | 0, _, _, _ => False
  | n + 1, v1, v3, s => ((8 ≤ v3 → K33 v1 s) ∧ (¬ 8 ≤ v3 → (P_X11_count v3 s (fun r3 s2 => (∀ x4 : Int, x4 = F_X11_mixed v1 r3 s2 → L_X11_digest_10 K33 n x4 (w32 (v3 + 1)) s2)))))
set_option maxRecDepth 100000 in
theorem SL_X11_digest_10  {K33 : Int → Sto → Prop} {Q : Int → Sto → Prop}  (hK33 : ∀ v1 s, K33 v1 s → sr_G RX11 cX11_digest 4 (some .long) 7 33 [(0, vR 0), (1, vL v1)] [] s Q) : ∀ n v1 v3 s, L_X11_digest_10 K33 n v1 v3 s → sr_G RX11 cX11_digest 4 (some .long) 7 10 [(0, vR 0), (1, vL v1), (3, vI v3)] [] s Q := by
  intro n
  induction n with
  | zero => intro v1 v3 s h; exact h.elim
  | succ n ih =>
    intro v1 v3 s h
    unfold L_X11_digest_10 at h
    refine g_iload_n (pc' := 11) dX11_digest_10 rfl rfl ?_
    refine g_bipush (pc' := 13) ⟨by unfold r32; decide, rfl⟩ dX11_digest_11 rfl ?_
    refine g_ic_ge (pc' := 16) (tgt := 33) dX11_digest_13 rfl rfl (fun c1 => ?_) (fun c1 => ?_)
    · have h := h.1 c1
      exact (hK33 _ _ h).to ((sb_c rfl (sb_c rfl sb_n)))
    · have h := h.2 c1
      refine g_lload_n (pc' := 17) dX11_digest_16 rfl rfl ?_
      refine g_aload_n (pc' := 18) dX11_digest_17 rfl rfl ?_
      refine g_iload_n (pc' := 19) dX11_digest_18 rfl rfl ?_
      refine g_V1i (pc' := 22) dX11_digest_19 rfl mv_RX11_343 kd_0 (by decide) (Nat.le_of_ble_eq_true rfl) (C_X11_count h) (fun r3 s2 h => ?_)
      refine g_i2l (pc' := 23) dX11_digest_22 rfl ?_
      refine g_S2l (pc' := 26) dX11_digest_23 rfl ms_RX11_346 (by decide) (Nat.le_of_ble_eq_true rfl) C_X11_mixed (sr_pur ?_)
      refine g_topL (fun x4 ex4 => ?_)
      have h := h x4 ex4
      refine g_lstore_n (pc' := 27) dX11_digest_26 rfl (by decide) ?_
      refine g_iinc (pc' := 30) dX11_digest_27 rfl rfl (by decide) ?_
      refine g_goto (pc' := 10) dX11_digest_30 rfl ?_
      exact (ih _ _ _ h).to ((sb_c rfl (sb_c rfl (sb_c rfl sb_n))))
def L_X11_digest_35 (s : Sto) (K58 : Int → Prop) : Nat → Int → Int → Prop
  | 0, _, _ => False
  | n + 1, v1, v3 => ((3 ≤ v3 → K58 v1) ∧ (¬ 3 ≤ v3 → (inb v3 3 ∧ (∀ x3 : Int, x3 = F_X11_mixed v1 (s 2 v3.toNat) s → L_X11_digest_35 s K58 n x3 (w32 (v3 + 1))))))
set_option maxRecDepth 100000 in
theorem SL_X11_digest_35 {s : Sto} {K58 : Int → Prop} {Q : Int → Sto → Prop}  (hK58 : ∀ v1, K58 v1 → sr_G RX11 cX11_digest 4 (some .long) 7 58 [(0, vR 0), (1, vL v1)] [] s Q) : ∀ n v1 v3, L_X11_digest_35 s K58 n v1 v3 → sr_G RX11 cX11_digest 4 (some .long) 7 35 [(0, vR 0), (1, vL v1), (3, vI v3)] [] s Q := by
  intro n
  induction n with
  | zero => intro v1 v3 h; exact h.elim
  | succ n ih =>
    intro v1 v3 h
    unfold L_X11_digest_35 at h
    refine g_iload_n (pc' := 36) dX11_digest_35 rfl rfl ?_
    refine g_iconst (pc' := 37) (by unfold r32; decide) dX11_digest_36 rfl ?_
    refine g_ic_ge (pc' := 40) (tgt := 58) dX11_digest_37 rfl rfl (fun c1 => ?_) (fun c1 => ?_)
    · have h := h.1 c1
      exact (hK58 _ h).to ((sb_c rfl (sb_c rfl sb_n)))
    · have h := h.2 c1
      refine g_lload_n (pc' := 41) dX11_digest_40 rfl rfl ?_
      refine g_aload_n (pc' := 42) dX11_digest_41 rfl rfl ?_
      refine g_getR (pc' := 45) (r := 2) dX11_digest_42 rfl fl_RX11_15 kd_0 rfl rf_0_1 ?_
      refine g_iload_n (pc' := 46) dX11_digest_45 rfl rfl ?_
      obtain ⟨ob2, h⟩ := h
      refine g_iald (pc' := 47) dX11_digest_46 rfl kd_2 ob2 ?_
      refine g_i2l (pc' := 48) dX11_digest_47 rfl ?_
      refine g_S2l (pc' := 51) dX11_digest_48 rfl ms_RX11_346 (by decide) (Nat.le_of_ble_eq_true rfl) C_X11_mixed (sr_pur ?_)
      refine g_topL (fun x3 ex3 => ?_)
      have h := h x3 ex3
      refine g_lstore_n (pc' := 52) dX11_digest_51 rfl (by decide) ?_
      refine g_iinc (pc' := 55) dX11_digest_52 rfl rfl (by decide) ?_
      refine g_goto (pc' := 35) dX11_digest_55 rfl ?_
      exact (ih _ _ h).to ((sb_c rfl (sb_c rfl (sb_c rfl sb_n))))
def L_X11_digest_60 (s : Sto) (K88 : Int → Prop) : Nat → Int → Int → Prop
  | 0, _, _ => False
  | n + 1, v1, v3 => ((s 3 0 ≤ v3 → K88 v1) ∧ (¬ s 3 0 ≤ v3 → (O_X11_cell v3 s ∧ (∀ x3 : Int, x3 = F_X11_mixed v1 (F_X11_cell v3 s) s → L_X11_digest_60 s K88 n x3 (w32 (v3 + 1))))))
set_option maxRecDepth 100000 in
theorem SL_X11_digest_60 {s : Sto} {K88 : Int → Prop} {Q : Int → Sto → Prop}  (hK88 : ∀ v1, K88 v1 → sr_G RX11 cX11_digest 4 (some .long) 7 88 [(0, vR 0), (1, vL v1)] [] s Q) : ∀ n v1 v3, L_X11_digest_60 s K88 n v1 v3 → sr_G RX11 cX11_digest 4 (some .long) 7 60 [(0, vR 0), (1, vL v1), (3, vI v3)] [] s Q := by
  intro n
  induction n with
  | zero => intro v1 v3 h; exact h.elim
  | succ n ih =>
    intro v1 v3 h
    unfold L_X11_digest_60 at h
    refine g_iload_n (pc' := 61) dX11_digest_60 rfl rfl ?_
    refine g_aload_n (pc' := 62) dX11_digest_61 rfl rfl ?_
    refine g_getR (pc' := 65) (r := 3) dX11_digest_62 rfl fl_RX11_22 kd_0 rfl rf_0_2 ?_
    refine g_getI (pc' := 68) dX11_digest_65 rfl fl_RX11_116 kd_3 (Or.inl rfl) ?_
    refine g_ic_ge (pc' := 71) (tgt := 88) dX11_digest_68 rfl rfl (fun c1 => ?_) (fun c1 => ?_)
    · have h := h.1 c1
      exact (hK88 _ h).to ((sb_c rfl (sb_c rfl sb_n)))
    · have h := h.2 c1
      refine g_lload_n (pc' := 72) dX11_digest_71 rfl rfl ?_
      refine g_aload_n (pc' := 73) dX11_digest_72 rfl rfl ?_
      refine g_iload_n (pc' := 74) dX11_digest_73 rfl rfl ?_
      obtain ⟨ob2, h⟩ := h
      refine g_V1i (pc' := 77) dX11_digest_74 rfl mv_RX11_350 kd_0 (by decide) (Nat.le_of_ble_eq_true rfl) (C_X11_cell ob2) (sr_pur ?_)
      refine g_i2l (pc' := 78) dX11_digest_77 rfl ?_
      refine g_S2l (pc' := 81) dX11_digest_78 rfl ms_RX11_346 (by decide) (Nat.le_of_ble_eq_true rfl) C_X11_mixed (sr_pur ?_)
      refine g_topL (fun x3 ex3 => ?_)
      have h := h x3 ex3
      refine g_lstore_n (pc' := 82) dX11_digest_81 rfl (by decide) ?_
      refine g_iinc (pc' := 85) dX11_digest_82 rfl rfl (by decide) ?_
      refine g_goto (pc' := 60) dX11_digest_85 rfl ?_
      exact (ih _ _ h).to ((sb_c rfl (sb_c rfl (sb_c rfl sb_n))))
def L_X11_digest_90 (s : Sto) (K117 : Int → Prop) : Nat → Int → Int → Prop
  | 0, _, _ => False
  | n + 1, v1, v3 => ((20 ≤ v3 → K117 v1) ∧ (¬ 20 ≤ v3 → (inb v3 20 ∧ (∀ x3 : Int, x3 = F_X11_mixed v1 (s 15 v3.toNat) s → L_X11_digest_90 s K117 n x3 (w32 (v3 + 1))))))
set_option maxRecDepth 100000 in
theorem SL_X11_digest_90 {s : Sto} {K117 : Int → Prop} {Q : Int → Sto → Prop}  (hK117 : ∀ v1, K117 v1 → sr_G RX11 cX11_digest 4 (some .long) 7 117 [(0, vR 0), (1, vL v1)] [] s Q) : ∀ n v1 v3, L_X11_digest_90 s K117 n v1 v3 → sr_G RX11 cX11_digest 4 (some .long) 7 90 [(0, vR 0), (1, vL v1), (3, vI v3)] [] s Q := by
  intro n
  induction n with
  | zero => intro v1 v3 h; exact h.elim
  | succ n ih =>
    intro v1 v3 h
    unfold L_X11_digest_90 at h
    refine g_iload_n (pc' := 91) dX11_digest_90 rfl rfl ?_
    refine g_bipush (pc' := 93) ⟨by unfold r32; decide, rfl⟩ dX11_digest_91 rfl ?_
    refine g_ic_ge (pc' := 96) (tgt := 117) dX11_digest_93 rfl rfl (fun c1 => ?_) (fun c1 => ?_)
    · have h := h.1 c1
      exact (hK117 _ h).to ((sb_c rfl (sb_c rfl sb_n)))
    · have h := h.2 c1
      refine g_lload_n (pc' := 97) dX11_digest_96 rfl rfl ?_
      refine g_aload_n (pc' := 98) dX11_digest_97 rfl rfl ?_
      refine g_getR (pc' := 101) (r := 6) dX11_digest_98 rfl fl_RX11_29 kd_0 rfl rf_0_3 ?_
      refine g_getR (pc' := 104) (r := 15) dX11_digest_101 rfl fl_RX11_134 kd_6 rfl rf_6_10 ?_
      refine g_iload_n (pc' := 105) dX11_digest_104 rfl rfl ?_
      obtain ⟨ob2, h⟩ := h
      refine g_iald (pc' := 106) dX11_digest_105 rfl kd_15 ob2 ?_
      refine g_i2l (pc' := 107) dX11_digest_106 rfl ?_
      refine g_S2l (pc' := 110) dX11_digest_107 rfl ms_RX11_346 (by decide) (Nat.le_of_ble_eq_true rfl) C_X11_mixed (sr_pur ?_)
      refine g_topL (fun x3 ex3 => ?_)
      have h := h x3 ex3
      refine g_lstore_n (pc' := 111) dX11_digest_110 rfl (by decide) ?_
      refine g_iinc (pc' := 114) dX11_digest_111 rfl rfl (by decide) ?_
      refine g_goto (pc' := 90) dX11_digest_114 rfl ?_
      exact (ih _ _ h).to ((sb_c rfl (sb_c rfl (sb_c rfl sb_n))))
def L_X11_digest_119  (K143 : Int → Sto → Prop) : Nat → Int → Int → Sto → Prop
  | 0, _, _, _ => False
  | n + 1, v1, v3, s => ((s 6 0 ≤ v3 → K143 v1 s) ∧ (¬ s 6 0 ≤ v3 → (P_X11_digestRing v1 v3 s (fun r3 s2 => L_X11_digest_119 K143 n r3 (w32 (v3 + 1)) s2))))
set_option maxRecDepth 100000 in
theorem SL_X11_digest_119  {K143 : Int → Sto → Prop} {Q : Int → Sto → Prop}  (hK143 : ∀ v1 s, K143 v1 s → sr_G RX11 cX11_digest 4 (some .long) 7 143 [(0, vR 0), (1, vL v1)] [] s Q) : ∀ n v1 v3 s, L_X11_digest_119 K143 n v1 v3 s → sr_G RX11 cX11_digest 4 (some .long) 7 119 [(0, vR 0), (1, vL v1), (3, vI v3)] [] s Q := by
  intro n
  induction n with
  | zero => intro v1 v3 s h; exact h.elim
  | succ n ih =>
    intro v1 v3 s h
    unfold L_X11_digest_119 at h
    refine g_iload_n (pc' := 120) dX11_digest_119 rfl rfl ?_
    refine g_aload_n (pc' := 121) dX11_digest_120 rfl rfl ?_
    refine g_getR (pc' := 124) (r := 6) dX11_digest_121 rfl fl_RX11_29 kd_0 rfl rf_0_3 ?_
    refine g_getI (pc' := 127) dX11_digest_124 rfl fl_RX11_144 kd_6 (Or.inl rfl) ?_
    refine g_ic_ge (pc' := 130) (tgt := 143) dX11_digest_127 rfl rfl (fun c1 => ?_) (fun c1 => ?_)
    · have h := h.1 c1
      exact (hK143 _ _ h).to ((sb_c rfl (sb_c rfl sb_n)))
    · have h := h.2 c1
      refine g_aload_n (pc' := 131) dX11_digest_130 rfl rfl ?_
      refine g_lload_n (pc' := 132) dX11_digest_131 rfl rfl ?_
      refine g_iload_n (pc' := 133) dX11_digest_132 rfl rfl ?_
      refine g_V2l (pc' := 136) dX11_digest_133 rfl mv_RX11_353 kd_0 (by decide) (Nat.le_of_ble_eq_true rfl) (C_X11_digestRing h) (fun r3 s2 h => ?_)
      refine g_lstore_n (pc' := 137) dX11_digest_136 rfl (by decide) ?_
      refine g_iinc (pc' := 140) dX11_digest_137 rfl rfl (by decide) ?_
      refine g_goto (pc' := 119) dX11_digest_140 rfl ?_
      exact (ih _ _ _ h).to ((sb_c rfl (sb_c rfl (sb_c rfl sb_n))))
def L_X11_digest_154  (K178 : Int → Sto → Prop) : Nat → Int → Int → Sto → Prop
  | 0, _, _, _ => False
  | n + 1, v1, v3, s => ((s 6 6 ≤ v3 → K178 v1 s) ∧ (¬ s 6 6 ≤ v3 → (P_X11_digestThing v1 v3 s (fun r3 s2 => L_X11_digest_154 K178 n r3 (w32 (v3 + 1)) s2))))
set_option maxRecDepth 100000 in
theorem SL_X11_digest_154  {K178 : Int → Sto → Prop} {Q : Int → Sto → Prop}  (hK178 : ∀ v1 s, K178 v1 s → sr_G RX11 cX11_digest 4 (some .long) 7 178 [(0, vR 0), (1, vL v1)] [] s Q) : ∀ n v1 v3 s, L_X11_digest_154 K178 n v1 v3 s → sr_G RX11 cX11_digest 4 (some .long) 7 154 [(0, vR 0), (1, vL v1), (3, vI v3)] [] s Q := by
  intro n
  induction n with
  | zero => intro v1 v3 s h; exact h.elim
  | succ n ih =>
    intro v1 v3 s h
    unfold L_X11_digest_154 at h
    refine g_iload_n (pc' := 155) dX11_digest_154 rfl rfl ?_
    refine g_aload_n (pc' := 156) dX11_digest_155 rfl rfl ?_
    refine g_getR (pc' := 159) (r := 6) dX11_digest_156 rfl fl_RX11_29 kd_0 rfl rf_0_3 ?_
    refine g_getI (pc' := 162) dX11_digest_159 rfl fl_RX11_218 kd_6 (Or.inl rfl) ?_
    refine g_ic_ge (pc' := 165) (tgt := 178) dX11_digest_162 rfl rfl (fun c1 => ?_) (fun c1 => ?_)
    · have h := h.1 c1
      exact (hK178 _ _ h).to ((sb_c rfl (sb_c rfl sb_n)))
    · have h := h.2 c1
      refine g_aload_n (pc' := 166) dX11_digest_165 rfl rfl ?_
      refine g_lload_n (pc' := 167) dX11_digest_166 rfl rfl ?_
      refine g_iload_n (pc' := 168) dX11_digest_167 rfl rfl ?_
      refine g_V2l (pc' := 171) dX11_digest_168 rfl mv_RX11_357 kd_0 (by decide) (Nat.le_of_ble_eq_true rfl) (C_X11_digestThing h) (fun r3 s2 h => ?_)
      refine g_lstore_n (pc' := 172) dX11_digest_171 rfl (by decide) ?_
      refine g_iinc (pc' := 175) dX11_digest_172 rfl rfl (by decide) ?_
      refine g_goto (pc' := 154) dX11_digest_175 rfl ?_
      exact (ih _ _ _ h).to ((sb_c rfl (sb_c rfl (sb_c rfl sb_n))))
def L_X11_digest_180  (K198 : Int → Sto → Prop) : Nat → Int → Int → Sto → Prop
  | 0, _, _, _ => False
  | n + 1, v1, v3, s => ((4 ≤ v3 → K198 v1 s) ∧ (¬ 4 ≤ v3 → (P_X11_digestWhom v1 v3 s (fun r3 s2 => L_X11_digest_180 K198 n r3 (w32 (v3 + 1)) s2))))
set_option maxRecDepth 100000 in
theorem SL_X11_digest_180  {K198 : Int → Sto → Prop} {Q : Int → Sto → Prop}  (hK198 : ∀ v1 s, K198 v1 s → sr_G RX11 cX11_digest 4 (some .long) 7 198 [(0, vR 0), (1, vL v1)] [] s Q) : ∀ n v1 v3 s, L_X11_digest_180 K198 n v1 v3 s → sr_G RX11 cX11_digest 4 (some .long) 7 180 [(0, vR 0), (1, vL v1), (3, vI v3)] [] s Q := by
  intro n
  induction n with
  | zero => intro v1 v3 s h; exact h.elim
  | succ n ih =>
    intro v1 v3 s h
    unfold L_X11_digest_180 at h
    refine g_iload_n (pc' := 181) dX11_digest_180 rfl rfl ?_
    refine g_iconst (pc' := 182) (by unfold r32; decide) dX11_digest_181 rfl ?_
    refine g_ic_ge (pc' := 185) (tgt := 198) dX11_digest_182 rfl rfl (fun c1 => ?_) (fun c1 => ?_)
    · have h := h.1 c1
      exact (hK198 _ _ h).to ((sb_c rfl (sb_c rfl sb_n)))
    · have h := h.2 c1
      refine g_aload_n (pc' := 186) dX11_digest_185 rfl rfl ?_
      refine g_lload_n (pc' := 187) dX11_digest_186 rfl rfl ?_
      refine g_iload_n (pc' := 188) dX11_digest_187 rfl rfl ?_
      refine g_V2l (pc' := 191) dX11_digest_188 rfl mv_RX11_360 kd_0 (by decide) (Nat.le_of_ble_eq_true rfl) (C_X11_digestWhom h) (fun r3 s2 h => ?_)
      refine g_lstore_n (pc' := 192) dX11_digest_191 rfl (by decide) ?_
      refine g_iinc (pc' := 195) dX11_digest_192 rfl rfl (by decide) ?_
      refine g_goto (pc' := 180) dX11_digest_195 rfl ?_
      exact (ih _ _ _ h).to ((sb_c rfl (sb_c rfl (sb_c rfl sb_n))))
def P_X11_digest (s : Sto) (Q : Int → Sto → Prop) : Prop := (P_X11_playTold s (fun _ s1 => (∃ n24, L_X11_digest_10 (fun x3 s4 => (∃ n23, L_X11_digest_35 s4 (fun x5 => (∃ n22, L_X11_digest_60 s4 (fun x6 => (∃ n21, L_X11_digest_90 s4 (fun x7 => (∃ n20, L_X11_digest_119 (fun x8 s9 => (P_X0_weigh 5 5 s9 (fun _ s10 => (∃ n19, L_X11_digest_154 (fun x12 s13 => (∃ n18, L_X11_digest_180 (fun x14 s15 => (P_X11_digestRest x14 s15 (fun r17 s16 => Q r17 s16))) n18 x12 0 s13)) n19 x8 0 s10)))) n20 x7 0 s4)) n21 x6 0)) n22 x5 0)) n23 x3 0)) n24 17 0 s1)))
set_option maxRecDepth 100000 in
theorem C_X11_digest {s : Sto} {Q : Int → Sto → Prop}  (h : P_X11_digest s Q) : sr_C yX11_digest cX11_digest 4 (some .long) 7 [vR 0] s Q := by
  refine sr_C.of (by decide +kernel) (Nat.le_of_ble_eq_true rfl) ?_
  show sr_G RX11 cX11_digest 4 (some .long) 7 0 [(0, vR 0)] [] s Q
  unfold P_X11_digest at h
  refine g_aload_n (pc' := 1) dX11_digest_0 rfl rfl ?_
  refine g_V0v (pc' := 4) dX11_digest_1 rfl mv_RX11_181 kd_0 (by decide) (Nat.le_of_ble_eq_true rfl) (C_X11_playTold h) (fun s1 h => ?_)
  refine g_ldc2 (pc' := 7) (z := 17) (by unfold r64; decide) kc_RX11_341 dX11_digest_4 rfl ?_
  refine g_lstore_n (pc' := 8) dX11_digest_7 rfl (by decide) ?_
  refine g_iconst (pc' := 9) (by unfold r32; decide) dX11_digest_8 rfl ?_
  refine g_istore_n (pc' := 10) dX11_digest_9 rfl (by decide) ?_
  obtain ⟨n24, h⟩ := h
  refine (SL_X11_digest_10  (fun x3 s4 h => ?_) n24 _ _ _ h).to ((sb_c rfl (sb_c rfl (sb_c rfl sb_n))))
  · refine g_iconst (pc' := 34) (by unfold r32; decide) dX11_digest_33 rfl ?_
    refine g_istore_n (pc' := 35) dX11_digest_34 rfl (by decide) ?_
    obtain ⟨n23, h⟩ := h
    refine (SL_X11_digest_35  (fun x5 h => ?_) n23 _ _ h).to ((sb_c rfl (sb_c rfl (sb_c rfl sb_n))))
    · refine g_iconst (pc' := 59) (by unfold r32; decide) dX11_digest_58 rfl ?_
      refine g_istore_n (pc' := 60) dX11_digest_59 rfl (by decide) ?_
      obtain ⟨n22, h⟩ := h
      refine (SL_X11_digest_60  (fun x6 h => ?_) n22 _ _ h).to ((sb_c rfl (sb_c rfl (sb_c rfl sb_n))))
      · refine g_iconst (pc' := 89) (by unfold r32; decide) dX11_digest_88 rfl ?_
        refine g_istore_n (pc' := 90) dX11_digest_89 rfl (by decide) ?_
        obtain ⟨n21, h⟩ := h
        refine (SL_X11_digest_90  (fun x7 h => ?_) n21 _ _ h).to ((sb_c rfl (sb_c rfl (sb_c rfl sb_n))))
        · refine g_iconst (pc' := 118) (by unfold r32; decide) dX11_digest_117 rfl ?_
          refine g_istore_n (pc' := 119) dX11_digest_118 rfl (by decide) ?_
          obtain ⟨n20, h⟩ := h
          refine (SL_X11_digest_119  (fun x8 s9 h => ?_) n20 _ _ _ h).to ((sb_c rfl (sb_c rfl (sb_c rfl sb_n))))
          · refine g_aload_n (pc' := 144) dX11_digest_143 rfl rfl ?_
            refine g_getR (pc' := 147) (r := 66) dX11_digest_144 rfl fl_RX11_98 kd_0 rfl rf_0_9 ?_
            refine g_iconst (pc' := 148) (by unfold r32; decide) dX11_digest_147 rfl ?_
            refine g_iconst (pc' := 149) (by unfold r32; decide) dX11_digest_148 rfl ?_
            refine g_V2v (pc' := 152) dX11_digest_149 rfl mv_RX11_288 kd_66 (by decide) (Nat.le_of_ble_eq_true rfl) (C_X0_weigh h) (fun s10 h => ?_)
            refine g_iconst (pc' := 153) (by unfold r32; decide) dX11_digest_152 rfl ?_
            refine g_istore_n (pc' := 154) dX11_digest_153 rfl (by decide) ?_
            obtain ⟨n19, h⟩ := h
            refine (SL_X11_digest_154  (fun x12 s13 h => ?_) n19 _ _ _ h).to ((sb_c rfl (sb_c rfl (sb_c rfl sb_n))))
            · refine g_iconst (pc' := 179) (by unfold r32; decide) dX11_digest_178 rfl ?_
              refine g_istore_n (pc' := 180) dX11_digest_179 rfl (by decide) ?_
              obtain ⟨n18, h⟩ := h
              refine (SL_X11_digest_180  (fun x14 s15 h => ?_) n18 _ _ _ h).to ((sb_c rfl (sb_c rfl (sb_c rfl sb_n))))
              · refine g_aload_n (pc' := 199) dX11_digest_198 rfl rfl ?_
                refine g_lload_n (pc' := 200) dX11_digest_199 rfl rfl ?_
                refine g_V1l (pc' := 203) dX11_digest_200 rfl mv_RX11_363 kd_0 (by decide) (Nat.le_of_ble_eq_true rfl) (C_X11_digestRest h) (fun r17 s16 h => ?_)
                exact g_lret dX11_digest_203 rfl h
def F_X12_in (v0 : Int) (v2 : Int) (v4 : Int) (s : Sto) : Int := (if v0 < v2 then 0 else (if v4 < v0 then 0 else 1))
set_option maxRecDepth 100000 in
theorem C_X12_in {v0 : Int} {v2 : Int} {v4 : Int} {s : Sto}   : sr_C yX12_in cX12_in 6 (some .boolean) 0 [vL v0, vL v2, vL v4] s (fun r s' => r = F_X12_in v0 v2 v4 s ∧ s' = s ∧ (r = 0 ∨ r = 1)) := by
  refine sr_C.of (by decide +kernel) (Nat.le_of_ble_eq_true rfl) ?_
  show sr_G RX12 cX12_in 6 (some .boolean) 0 0 [(0, vL v0), (2, vL v2), (4, vL v4)] [] s (fun r s' => r = F_X12_in v0 v2 v4 s ∧ s' = s ∧ (r = 0 ∨ r = 1))
  refine g_lload_n (pc' := 1) dX12_in_0 rfl rfl ?_
  refine g_lload_n (pc' := 2) dX12_in_1 rfl rfl ?_
  refine g_lc_lt (pc' := 6) (tgt := 17) dX12_in_2 dX12_in_3 rfl rfl (fun c1 => ?_) (fun c1 => ?_)
  · refine g_iconst (pc' := 18) (by unfold r32; decide) dX12_in_17 rfl ?_
    exact g_zret dX12_in_18 rfl (Or.inl rfl) ⟨(by simp only [F_X12_in, if_pos c1]), rfl, (Or.inl rfl)⟩
  · refine g_lload_n (pc' := 7) dX12_in_6 rfl rfl ?_
    refine g_lload (pc' := 9) dX12_in_7 rfl rfl ?_
    refine g_lc_gt (pc' := 13) (tgt := 17) dX12_in_9 dX12_in_10 rfl rfl (fun c2 => ?_) (fun c2 => ?_)
    · refine g_iconst (pc' := 18) (by unfold r32; decide) dX12_in_17 rfl ?_
      exact g_zret dX12_in_18 rfl (Or.inl rfl) ⟨(by simp only [F_X12_in, if_neg c1, if_pos c2]), rfl, (Or.inl rfl)⟩
    · refine g_iconst (pc' := 14) (by unfold r32; decide) dX12_in_13 rfl ?_
      refine g_goto (pc' := 18) dX12_in_14 rfl ?_
      exact g_zret dX12_in_18 rfl (Or.inr rfl) ⟨(by simp only [F_X12_in, if_neg c1, if_neg c2]), rfl, (Or.inr rfl)⟩
def F_X12_no (v0 : Int) (s : Sto) : Int := w64 (((-9223372036854775808)) - v0)
set_option maxRecDepth 100000 in
theorem C_X12_no {v0 : Int} {s : Sto}   : sr_C yX12_no cX12_no 1 (some .long) 0 [vI v0] s (fun r s' => r = F_X12_no v0 s ∧ s' = s) := by
  refine sr_C.of (by decide +kernel) (Nat.le_of_ble_eq_true rfl) ?_
  show sr_G RX12 cX12_no 1 (some .long) 0 0 [(0, vI v0)] [] s (fun r s' => r = F_X12_no v0 s ∧ s' = s)
  refine g_ldc2 (pc' := 3) (z := (-9223372036854775808)) (by unfold r64; decide) kc_RX12_74 dX12_no_0 rfl ?_
  refine g_iload_n (pc' := 4) dX12_no_3 rfl rfl ?_
  refine g_i2l (pc' := 5) dX12_no_4 rfl ?_
  refine g_lsub (pc' := 6) dX12_no_5 rfl ?_
  exact g_lret dX12_no_6 rfl ⟨rfl, rfl⟩
def F_X12_isTwo (v0 : Int) (s : Sto) : Int := F_X12_in v0 0 1 s
set_option maxRecDepth 100000 in
theorem C_X12_isTwo {v0 : Int} {s : Sto}   : sr_C yX12_isTwo cX12_isTwo 1 (some .boolean) 1 [vI v0] s (fun r s' => r = F_X12_isTwo v0 s ∧ s' = s ∧ (r = 0 ∨ r = 1)) := by
  refine sr_C.of (by decide +kernel) (Nat.le_of_ble_eq_true rfl) ?_
  show sr_G RX12 cX12_isTwo 1 (some .boolean) 1 0 [(0, vI v0)] [] s (fun r s' => r = F_X12_isTwo v0 s ∧ s' = s ∧ (r = 0 ∨ r = 1))
  refine g_iload_n (pc' := 1) dX12_isTwo_0 rfl rfl ?_
  refine g_i2l (pc' := 2) dX12_isTwo_1 rfl ?_
  refine g_lconst (pc' := 3) (z := 0) ⟨by unfold r64; decide, rfl⟩ dX12_isTwo_2 rfl ?_
  refine g_lconst (pc' := 4) (z := 1) ⟨by unfold r64; decide, rfl⟩ dX12_isTwo_3 rfl ?_
  refine g_S3z (pc' := 7) dX12_isTwo_4 rfl ms_RX12_76 (by decide) (Nat.le_of_ble_eq_true rfl) C_X12_in (sr_purb (fun hb1 => ?_))
  exact g_zret dX12_isTwo_7 rfl hb1 ⟨rfl, rfl, hb1⟩
def F_X12_isIn (v0 : Int) (v1 : Int) (s : Sto) : Int := (if iA (iShr v0 v1) 1 = 1 then 1 else 0)
set_option maxRecDepth 100000 in
theorem C_X12_isIn {v0 : Int} {v1 : Int} {s : Sto}   : sr_C yX12_isIn cX12_isIn 2 (some .boolean) 0 [vI v0, vI v1] s (fun r s' => r = F_X12_isIn v0 v1 s ∧ s' = s ∧ (r = 0 ∨ r = 1)) := by
  refine sr_C.of (by decide +kernel) (Nat.le_of_ble_eq_true rfl) ?_
  show sr_G RX12 cX12_isIn 2 (some .boolean) 0 0 [(0, vI v0), (1, vI v1)] [] s (fun r s' => r = F_X12_isIn v0 v1 s ∧ s' = s ∧ (r = 0 ∨ r = 1))
  refine g_iload_n (pc' := 1) dX12_isIn_0 rfl rfl ?_
  refine g_iload_n (pc' := 2) dX12_isIn_1 rfl rfl ?_
  refine g_ishr (pc' := 3) dX12_isIn_2 rfl ?_
  refine g_iconst (pc' := 4) (by unfold r32; decide) dX12_isIn_3 rfl ?_
  refine g_iand (pc' := 5) dX12_isIn_4 rfl ?_
  refine g_iconst (pc' := 6) (by unfold r32; decide) dX12_isIn_5 rfl ?_
  refine g_ic_ne (pc' := 9) (tgt := 13) dX12_isIn_6 rfl rfl (fun c1 => ?_) (fun c1 => ?_)
  · refine g_iconst (pc' := 14) (by unfold r32; decide) dX12_isIn_13 rfl ?_
    exact g_zret dX12_isIn_14 rfl (Or.inl rfl) ⟨(by simp only [F_X12_isIn, if_neg c1]), rfl, (Or.inl rfl)⟩
  · refine g_iconst (pc' := 10) (by unfold r32; decide) dX12_isIn_9 rfl ?_
    refine g_goto (pc' := 14) dX12_isIn_10 rfl ?_
    exact g_zret dX12_isIn_14 rfl (Or.inr rfl) ⟨(by simp only [F_X12_isIn, if_pos c1]), rfl, (Or.inr rfl)⟩
def L_X12_ones_4 (s : Sto) (K20 : Int → Prop) : Nat → Int → Int → Prop
  | 0, _, _ => False
  | n + 1, v1, v2 => ((v2 = 0 → K20 v1) ∧ (¬ v2 = 0 → (∀ x2 : Int, x2 = iA v2 (w32 (v2 - 1)) → L_X12_ones_4 s K20 n (w32 (v1 + 1)) x2)))
set_option maxRecDepth 100000 in
theorem SL_X12_ones_4 {s : Sto} {K20 : Int → Prop} {Q : Int → Sto → Prop}  (hK20 : ∀ v1, K20 v1 → sr_G RX12 cX12_ones 3 (some .int) 0 20 [(1, vI v1)] [] s Q) : ∀ n v1 v2, L_X12_ones_4 s K20 n v1 v2 → sr_G RX12 cX12_ones 3 (some .int) 0 4 [(1, vI v1), (2, vI v2)] [] s Q := by
  intro n
  induction n with
  | zero => intro v1 v2 h; exact h.elim
  | succ n ih =>
    intro v1 v2 h
    unfold L_X12_ones_4 at h
    refine g_iload_n (pc' := 5) dX12_ones_4 rfl rfl ?_
    refine g_if_eq (pc' := 8) (tgt := 20) dX12_ones_5 rfl rfl (fun c1 => ?_) (fun c1 => ?_)
    · have h := h.1 c1
      exact (hK20 _ h).to ((sb_c rfl sb_n))
    · have h := h.2 c1
      refine g_iinc (pc' := 11) dX12_ones_8 rfl rfl (by decide) ?_
      refine g_iload_n (pc' := 12) dX12_ones_11 rfl rfl ?_
      refine g_iload_n (pc' := 13) dX12_ones_12 rfl rfl ?_
      refine g_iconst (pc' := 14) (by unfold r32; decide) dX12_ones_13 rfl ?_
      refine g_isub (pc' := 15) dX12_ones_14 rfl ?_
      refine g_iand (pc' := 16) dX12_ones_15 rfl ?_
      refine g_topI (fun x2 ex2 => ?_)
      have h := h x2 ex2
      refine g_istore_n (pc' := 17) dX12_ones_16 rfl (by decide) ?_
      refine g_goto (pc' := 4) dX12_ones_17 rfl ?_
      exact (ih _ _ h).to ((sb_c rfl (sb_c rfl sb_n)))
def P_X12_ones (v0 : Int) (s : Sto) (Q : Int → Sto → Prop) : Prop := (∃ n2, L_X12_ones_4 s (fun x1 => Q x1 s) n2 0 v0)
set_option maxRecDepth 100000 in
theorem C_X12_ones {v0 : Int} {s : Sto} {Q : Int → Sto → Prop}  (h : P_X12_ones v0 s Q) : sr_C yX12_ones cX12_ones 3 (some .int) 0 [vI v0] s Q := by
  refine sr_C.of (by decide +kernel) (Nat.le_of_ble_eq_true rfl) ?_
  show sr_G RX12 cX12_ones 3 (some .int) 0 0 [(0, vI v0)] [] s Q
  unfold P_X12_ones at h
  refine g_iconst (pc' := 1) (by unfold r32; decide) dX12_ones_0 rfl ?_
  refine g_istore_n (pc' := 2) dX12_ones_1 rfl (by decide) ?_
  refine g_iload_n (pc' := 3) dX12_ones_2 rfl rfl ?_
  refine g_istore_n (pc' := 4) dX12_ones_3 rfl (by decide) ?_
  obtain ⟨n2, h⟩ := h
  refine (SL_X12_ones_4  (fun x1 h => ?_) n2 _ _ h).to ((sb_c rfl (sb_c rfl sb_n)))
  · refine g_iload_n (pc' := 21) dX12_ones_20 rfl rfl ?_
    exact g_iret dX12_ones_21 rfl h
def F_X12_lesser (v0 : Int) (v1 : Int) (s : Sto) : Int := (if v1 ≤ v0 then v1 else v0)
set_option maxRecDepth 100000 in
theorem C_X12_lesser {v0 : Int} {v1 : Int} {s : Sto}   : sr_C yX12_lesser cX12_lesser 2 (some .int) 0 [vI v0, vI v1] s (fun r s' => r = F_X12_lesser v0 v1 s ∧ s' = s) := by
  refine sr_C.of (by decide +kernel) (Nat.le_of_ble_eq_true rfl) ?_
  show sr_G RX12 cX12_lesser 2 (some .int) 0 0 [(0, vI v0), (1, vI v1)] [] s (fun r s' => r = F_X12_lesser v0 v1 s ∧ s' = s)
  refine g_iload_n (pc' := 1) dX12_lesser_0 rfl rfl ?_
  refine g_iload_n (pc' := 2) dX12_lesser_1 rfl rfl ?_
  refine g_ic_ge (pc' := 5) (tgt := 9) dX12_lesser_2 rfl rfl (fun c1 => ?_) (fun c1 => ?_)
  · refine g_iload_n (pc' := 10) dX12_lesser_9 rfl rfl ?_
    exact g_iret dX12_lesser_10 rfl ⟨(by simp only [F_X12_lesser, if_pos c1]), rfl⟩
  · refine g_iload_n (pc' := 6) dX12_lesser_5 rfl rfl ?_
    refine g_goto (pc' := 10) dX12_lesser_6 rfl ?_
    exact g_iret dX12_lesser_10 rfl ⟨(by simp only [F_X12_lesser, if_neg c1]), rfl⟩
def F_X12_greater (v0 : Int) (v1 : Int) (s : Sto) : Int := (if v0 ≤ v1 then v1 else v0)
set_option maxRecDepth 100000 in
theorem C_X12_greater {v0 : Int} {v1 : Int} {s : Sto}   : sr_C yX12_greater cX12_greater 2 (some .int) 0 [vI v0, vI v1] s (fun r s' => r = F_X12_greater v0 v1 s ∧ s' = s) := by
  refine sr_C.of (by decide +kernel) (Nat.le_of_ble_eq_true rfl) ?_
  show sr_G RX12 cX12_greater 2 (some .int) 0 0 [(0, vI v0), (1, vI v1)] [] s (fun r s' => r = F_X12_greater v0 v1 s ∧ s' = s)
  refine g_iload_n (pc' := 1) dX12_greater_0 rfl rfl ?_
  refine g_iload_n (pc' := 2) dX12_greater_1 rfl rfl ?_
  refine g_ic_le (pc' := 5) (tgt := 9) dX12_greater_2 rfl rfl (fun c1 => ?_) (fun c1 => ?_)
  · refine g_iload_n (pc' := 10) dX12_greater_9 rfl rfl ?_
    exact g_iret dX12_greater_10 rfl ⟨(by simp only [F_X12_greater, if_pos c1]), rfl⟩
  · refine g_iload_n (pc' := 6) dX12_greater_5 rfl rfl ?_
    refine g_goto (pc' := 10) dX12_greater_6 rfl ?_
    exact g_iret dX12_greater_10 rfl ⟨(by simp only [F_X12_greater, if_neg c1]), rfl⟩
def L_X12_part_6 (v0 : Int) (v2 : Int) (v4 : Int) (s : Sto) (K31 : Int → Prop) : Nat → Int → Int → Prop
  | 0, _, _ => False
  | n + 1, v5, v7 => ((v7 = 0 → K31 v5) ∧ (¬ v7 = 0 → (v7 ≠ 0 ∧ (∀ x3 : Int, x3 = w64 (v5.tmod v7) → L_X12_part_6 v0 v2 v4 s K31 n v7 x3))))
set_option maxRecDepth 100000 in
theorem SL_X12_part_6 {v0 : Int} {v2 : Int} {v4 : Int} {s : Sto} {K31 : Int → Prop} {Q : Int → Sto → Prop}  (hK31 : ∀ v5, K31 v5 → sr_G RX12 cX12_part 11 (some .long) 0 31 [(0, vL v0), (2, vL v2), (4, vI v4), (5, vL v5)] [] s Q) : ∀ n v5 v7, L_X12_part_6 v0 v2 v4 s K31 n v5 v7 → sr_G RX12 cX12_part 11 (some .long) 0 6 [(0, vL v0), (2, vL v2), (4, vI v4), (5, vL v5), (7, vL v7)] [] s Q := by
  intro n
  induction n with
  | zero => intro v5 v7 h; exact h.elim
  | succ n ih =>
    intro v5 v7 h
    unfold L_X12_part_6 at h
    refine g_lload (pc' := 8) dX12_part_6 rfl rfl ?_
    refine g_lconst (pc' := 9) (z := 0) ⟨by unfold r64; decide, rfl⟩ dX12_part_8 rfl ?_
    refine g_lc_eq (pc' := 13) (tgt := 31) dX12_part_9 dX12_part_10 rfl rfl (fun c1 => ?_) (fun c1 => ?_)
    · have h := h.1 c1
      exact (hK31 _ h).to ((sb_c rfl (sb_c rfl (sb_c rfl (sb_c rfl sb_n)))))
    · have h := h.2 c1
      refine g_lload (pc' := 15) dX12_part_13 rfl rfl ?_
      refine g_lload (pc' := 17) dX12_part_15 rfl rfl ?_
      obtain ⟨ob2, h⟩ := h
      refine g_lrem (pc' := 18) dX12_part_17 rfl ob2 ?_
      refine g_topL (fun x3 ex3 => ?_)
      have h := h x3 ex3
      refine g_lstore (pc' := 20) dX12_part_18 rfl (by decide) ?_
      refine g_lload (pc' := 22) dX12_part_20 rfl rfl ?_
      refine g_lstore (pc' := 24) dX12_part_22 rfl (by decide) ?_
      refine g_lload (pc' := 26) dX12_part_24 rfl rfl ?_
      refine g_lstore (pc' := 28) dX12_part_26 rfl (by decide) ?_
      refine g_goto (pc' := 6) dX12_part_28 rfl ?_
      exact (ih _ _ h).to ((sb_c rfl (sb_c rfl (sb_c rfl (sb_c rfl (sb_c rfl sb_n))))))
def P_X12_part (v0 : Int) (v2 : Int) (v4 : Int) (s : Sto) (Q : Int → Sto → Prop) : Prop := (∃ n5, L_X12_part_6 v0 v2 v4 s (fun x1 => (∀ x2 : Int, x2 = (if v4 = 0 then v0 else v2) → (x1 ≠ 0 ∧ Q (w64 (x2.tdiv x1)) s))) n5 v0 v2)
set_option maxRecDepth 100000 in
theorem C_X12_part {v0 : Int} {v2 : Int} {v4 : Int} {s : Sto} {Q : Int → Sto → Prop}  (h : P_X12_part v0 v2 v4 s Q) : sr_C yX12_part cX12_part 11 (some .long) 0 [vL v0, vL v2, vI v4] s Q := by
  refine sr_C.of (by decide +kernel) (Nat.le_of_ble_eq_true rfl) ?_
  show sr_G RX12 cX12_part 11 (some .long) 0 0 [(0, vL v0), (2, vL v2), (4, vI v4)] [] s Q
  unfold P_X12_part at h
  refine g_lload_n (pc' := 1) dX12_part_0 rfl rfl ?_
  refine g_lstore (pc' := 3) dX12_part_1 rfl (by decide) ?_
  refine g_lload_n (pc' := 4) dX12_part_3 rfl rfl ?_
  refine g_lstore (pc' := 6) dX12_part_4 rfl (by decide) ?_
  obtain ⟨n5, h⟩ := h
  refine (SL_X12_part_6  (fun x1 h => ?_) n5 _ _ h).to ((sb_c rfl (sb_c rfl (sb_c rfl (sb_c rfl (sb_c rfl sb_n))))))
  · refine g_iload (pc' := 33) dX12_part_31 rfl rfl ?_
    refine sr_join (v := (if v4 = 0 then v0 else v2)) (GG := fun x2 => sr_G RX12 cX12_part 11 (some .long) 0 41 [(5, vL x1)] [vL x2] s Q) (fun x2 ex2 => ?_) (fun hj => ?_)
    · have h := h x2 ex2
      refine g_lload (pc' := 43) dX12_part_41 rfl rfl ?_
      obtain ⟨ob4, h⟩ := h
      refine g_ldiv (pc' := 44) dX12_part_43 rfl ob4 ?_
      exact g_lret dX12_part_44 rfl h
    · refine g_if_ne (pc' := 36) (tgt := 40) dX12_part_33 rfl rfl (fun c3 => ?_) (fun c3 => ?_)
      · refine g_lload_n (pc' := 41) dX12_part_40 rfl rfl ?_
        exact (hj _ (by rw [if_neg c3])).to ((sb_c rfl sb_n))
      · refine g_lload_n (pc' := 37) dX12_part_36 rfl rfl ?_
        refine g_goto (pc' := 41) dX12_part_37 rfl ?_
        exact (hj _ (by rw [if_pos c3])).to ((sb_c rfl sb_n))
def F_X12_finds (v1 : Int) (s : Sto) : Int := w32 (((-10)) - v1)
def S_X12_finds (v1 : Int) (s : Sto) : Sto := up s 69 4 v1
set_option maxRecDepth 100000 in
theorem C_X12_finds {v1 : Int} {s : Sto}   : sr_C yX12_finds cX12_finds 2 (some .int) 0 [vR 69, vI v1] s (fun r s' => r = F_X12_finds v1 s ∧ s' = S_X12_finds v1 s) := by
  refine sr_C.of (by decide +kernel) (Nat.le_of_ble_eq_true rfl) ?_
  show sr_G RX12 cX12_finds 2 (some .int) 0 0 [(0, vR 69), (1, vI v1)] [] s (fun r s' => r = F_X12_finds v1 s ∧ s' = S_X12_finds v1 s)
  refine g_aload_n (pc' := 1) dX12_finds_0 rfl rfl ?_
  refine g_iload_n (pc' := 2) dX12_finds_1 rfl rfl ?_
  refine g_putI (pc' := 5) dX12_finds_2 rfl fp_RX12_80 kd_69 rfl ?_
  refine g_bipush (pc' := 7) ⟨by unfold r32; decide, rfl⟩ dX12_finds_5 rfl ?_
  refine g_iload_n (pc' := 8) dX12_finds_7 rfl rfl ?_
  refine g_isub (pc' := 9) dX12_finds_8 rfl ?_
  exact g_iret dX12_finds_9 rfl ⟨rfl, rfl⟩
def F_X12_isSheet (v0 : Int) (s : Sto) : Int := F_X12_in v0 0 3 s
set_option maxRecDepth 100000 in
theorem C_X12_isSheet {v0 : Int} {s : Sto}   : sr_C yX12_isSheet cX12_isSheet 1 (some .boolean) 1 [vI v0] s (fun r s' => r = F_X12_isSheet v0 s ∧ s' = s ∧ (r = 0 ∨ r = 1)) := by
  refine sr_C.of (by decide +kernel) (Nat.le_of_ble_eq_true rfl) ?_
  show sr_G RX12 cX12_isSheet 1 (some .boolean) 1 0 [(0, vI v0)] [] s (fun r s' => r = F_X12_isSheet v0 s ∧ s' = s ∧ (r = 0 ∨ r = 1))
  refine g_iload_n (pc' := 1) dX12_isSheet_0 rfl rfl ?_
  refine g_i2l (pc' := 2) dX12_isSheet_1 rfl ?_
  refine g_lconst (pc' := 3) (z := 0) ⟨by unfold r64; decide, rfl⟩ dX12_isSheet_2 rfl ?_
  refine g_ldc2 (pc' := 6) (z := 3) (by unfold r64; decide) kc_RX12_83 dX12_isSheet_3 rfl ?_
  refine g_S3z (pc' := 9) dX12_isSheet_6 rfl ms_RX12_76 (by decide) (Nat.le_of_ble_eq_true rfl) C_X12_in (sr_purb (fun hb1 => ?_))
  exact g_zret dX12_isSheet_9 rfl hb1 ⟨rfl, rfl, hb1⟩
def L_X12_sheet_55 (v1 : Int) (v3 : Int) (K80 : Sto → Prop) : Nat → Int → Sto → Prop
  | 0, _, _ => False
  | n + 1, v4, s => ((v3 ≤ v4 → K80 s) ∧ (¬ v3 ≤ v4 → (inb (w32 ((w32 (60 * v1)) + v4)) 240 ∧ (∀ s3 : Sto, s3 = up s 72 (w32 ((w32 (60 * v1)) + v4)).toNat 0 → L_X12_sheet_55 v1 v3 K80 n (w32 (v4 + 1)) s3))))
set_option maxRecDepth 100000 in
theorem SL_X12_sheet_55 {v1 : Int} {v3 : Int} {K80 : Sto → Prop} {Q : Int → Sto → Prop}  (hK80 : ∀ s, K80 s → sr_G RX12 cX12_sheet 5 (some .int) 2 80 [(3, vI v3)] [] s Q) : ∀ n v4 s, L_X12_sheet_55 v1 v3 K80 n v4 s → sr_G RX12 cX12_sheet 5 (some .int) 2 55 [(0, vR 69), (1, vI v1), (3, vI v3), (4, vI v4)] [] s Q := by
  intro n
  induction n with
  | zero => intro v4 s h; exact h.elim
  | succ n ih =>
    intro v4 s h
    unfold L_X12_sheet_55 at h
    refine g_iload (pc' := 57) dX12_sheet_55 rfl rfl ?_
    refine g_iload_n (pc' := 58) dX12_sheet_57 rfl rfl ?_
    refine g_ic_ge (pc' := 61) (tgt := 80) dX12_sheet_58 rfl rfl (fun c1 => ?_) (fun c1 => ?_)
    · have h := h.1 c1
      exact (hK80 _ h).to ((sb_c rfl sb_n))
    · have h := h.2 c1
      refine g_aload_n (pc' := 62) dX12_sheet_61 rfl rfl ?_
      refine g_getR (pc' := 65) (r := 72) dX12_sheet_62 rfl fl_RX12_16 kd_69 rfl rf_69_2 ?_
      refine g_bipush (pc' := 67) ⟨by unfold r32; decide, rfl⟩ dX12_sheet_65 rfl ?_
      refine g_iload_n (pc' := 68) dX12_sheet_67 rfl rfl ?_
      refine g_imul (pc' := 69) dX12_sheet_68 rfl ?_
      refine g_iload (pc' := 71) dX12_sheet_69 rfl rfl ?_
      refine g_iadd (pc' := 72) dX12_sheet_71 rfl ?_
      refine g_iconst (pc' := 73) (by unfold r32; decide) dX12_sheet_72 rfl ?_
      obtain ⟨ob2, h⟩ := h
      refine g_iast (pc' := 74) dX12_sheet_73 rfl kd_72 ob2 ?_
      refine g_sto (fun s3 es3 => ?_)
      have h := h s3 es3
      refine g_iinc (pc' := 77) dX12_sheet_74 rfl rfl (by decide) ?_
      refine g_goto (pc' := 55) dX12_sheet_77 rfl ?_
      exact (ih _ _ h).to ((sb_c rfl (sb_c rfl (sb_c rfl (sb_c rfl sb_n)))))
def P_X12_sheet (v1 : Int) (v2 : Int) (v3 : Int) (s : Sto) (Q : Int → Sto → Prop) : Prop := ((F_X12_isSheet v1 s = 0 → Q ((-2)) s) ∧ (¬ F_X12_isSheet v1 s = 0 → ((F_X12_in v2 0 2 s = 0 → Q ((-2)) s) ∧ (¬ F_X12_in v2 0 2 s = 0 → ((v3 ≤ 60 → ((0 ≤ v3 → (inb v1 4 ∧ (∀ s8 : Sto, s8 = up s 70 v1.toNat v2 → (inb v1 4 ∧ (∀ s10 : Sto, s10 = up s8 71 v1.toNat v3 → (∃ n12, L_X12_sheet_55 v1 v3 (fun s11 => Q v3 s11) n12 0 s10)))))) ∧ (¬ 0 ≤ v3 → (∀ s13 : Sto, s13 = S_X12_finds 5 s → Q (F_X12_finds 5 s) s13)))) ∧ (¬ v3 ≤ 60 → Q ((-2)) s))))))
set_option maxRecDepth 100000 in
theorem C_X12_sheet {v1 : Int} {v2 : Int} {v3 : Int} {s : Sto} {Q : Int → Sto → Prop}  (h : P_X12_sheet v1 v2 v3 s Q) : sr_C yX12_sheet cX12_sheet 5 (some .int) 2 [vR 69, vI v1, vI v2, vI v3] s Q := by
  refine sr_C.of (by decide +kernel) (Nat.le_of_ble_eq_true rfl) ?_
  show sr_G RX12 cX12_sheet 5 (some .int) 2 0 [(0, vR 69), (1, vI v1), (2, vI v2), (3, vI v3)] [] s Q
  unfold P_X12_sheet at h
  refine g_iload_n (pc' := 1) dX12_sheet_0 rfl rfl ?_
  refine g_S1z (pc' := 4) dX12_sheet_1 rfl ms_RX12_85 (by decide) (Nat.le_of_ble_eq_true rfl) C_X12_isSheet (sr_purb (fun hb1 => ?_))
  refine g_if_eq (pc' := 7) (tgt := 25) dX12_sheet_4 rfl rfl (fun c2 => ?_) (fun c2 => ?_)
  · have h := h.1 c2
    refine g_bipush (pc' := 27) ⟨by unfold r32; decide, rfl⟩ dX12_sheet_25 rfl ?_
    exact g_iret dX12_sheet_27 rfl h
  · have h := h.2 c2
    refine g_iload_n (pc' := 8) dX12_sheet_7 rfl rfl ?_
    refine g_i2l (pc' := 9) dX12_sheet_8 rfl ?_
    refine g_lconst (pc' := 10) (z := 0) ⟨by unfold r64; decide, rfl⟩ dX12_sheet_9 rfl ?_
    refine g_ldc2 (pc' := 13) (z := 2) (by unfold r64; decide) kc_RX12_89 dX12_sheet_10 rfl ?_
    refine g_S3z (pc' := 16) dX12_sheet_13 rfl ms_RX12_76 (by decide) (Nat.le_of_ble_eq_true rfl) C_X12_in (sr_purb (fun hb3 => ?_))
    refine g_if_eq (pc' := 19) (tgt := 25) dX12_sheet_16 rfl rfl (fun c4 => ?_) (fun c4 => ?_)
    · have h := h.1 c4
      refine g_bipush (pc' := 27) ⟨by unfold r32; decide, rfl⟩ dX12_sheet_25 rfl ?_
      exact g_iret dX12_sheet_27 rfl h
    · have h := h.2 c4
      refine g_iload_n (pc' := 20) dX12_sheet_19 rfl rfl ?_
      refine g_bipush (pc' := 22) ⟨by unfold r32; decide, rfl⟩ dX12_sheet_20 rfl ?_
      refine g_ic_le (pc' := 25) (tgt := 28) dX12_sheet_22 rfl rfl (fun c5 => ?_) (fun c5 => ?_)
      · have h := h.1 c5
        refine g_iload_n (pc' := 29) dX12_sheet_28 rfl rfl ?_
        refine g_if_ge (pc' := 32) (tgt := 38) dX12_sheet_29 rfl rfl (fun c6 => ?_) (fun c6 => ?_)
        · have h := h.1 c6
          refine g_aload_n (pc' := 39) dX12_sheet_38 rfl rfl ?_
          refine g_getR (pc' := 42) (r := 70) dX12_sheet_39 rfl fl_RX12_7 kd_69 rfl rf_69_0 ?_
          refine g_iload_n (pc' := 43) dX12_sheet_42 rfl rfl ?_
          refine g_iload_n (pc' := 44) dX12_sheet_43 rfl rfl ?_
          obtain ⟨ob7, h⟩ := h
          refine g_iast (pc' := 45) dX12_sheet_44 rfl kd_70 ob7 ?_
          refine g_sto (fun s8 es8 => ?_)
          have h := h s8 es8
          refine g_aload_n (pc' := 46) dX12_sheet_45 rfl rfl ?_
          refine g_getR (pc' := 49) (r := 71) dX12_sheet_46 rfl fl_RX12_13 kd_69 rfl rf_69_1 ?_
          refine g_iload_n (pc' := 50) dX12_sheet_49 rfl rfl ?_
          refine g_iload_n (pc' := 51) dX12_sheet_50 rfl rfl ?_
          obtain ⟨ob9, h⟩ := h
          refine g_iast (pc' := 52) dX12_sheet_51 rfl kd_71 ob9 ?_
          refine g_sto (fun s10 es10 => ?_)
          have h := h s10 es10
          refine g_iconst (pc' := 53) (by unfold r32; decide) dX12_sheet_52 rfl ?_
          refine g_istore (pc' := 55) dX12_sheet_53 rfl (by decide) ?_
          obtain ⟨n12, h⟩ := h
          refine (SL_X12_sheet_55  (fun s11 h => ?_) n12 _ _ h).to ((sb_c rfl (sb_c rfl (sb_c rfl (sb_c rfl sb_n)))))
          · refine g_iload_n (pc' := 81) dX12_sheet_80 rfl rfl ?_
            exact g_iret dX12_sheet_81 rfl h
        · have h := h.2 c6
          refine g_aload_n (pc' := 33) dX12_sheet_32 rfl rfl ?_
          refine g_iconst (pc' := 34) (by unfold r32; decide) dX12_sheet_33 rfl ?_
          refine g_V1i (pc' := 37) dX12_sheet_34 rfl mv_RX12_91 kd_69 (by decide) (Nat.le_of_ble_eq_true rfl) C_X12_finds (sr_pur ?_)
          refine g_sto (fun s13 es13 => ?_)
          have h := h s13 es13
          exact g_iret dX12_sheet_37 rfl h
      · have h := h.2 c5
        refine g_bipush (pc' := 27) ⟨by unfold r32; decide, rfl⟩ dX12_sheet_25 rfl ?_
        exact g_iret dX12_sheet_27 rfl h
def F_X12_lose (v1 : Int) (s : Sto) : Int := (if F_X12_isSheet v1 s = 0 then (-2) else (if 0 ≤ s 70 v1.toNat then up s 70 v1.toNat ((-1)) 71 v1.toNat else F_X12_finds 1 s))
def S_X12_lose (v1 : Int) (s : Sto) : Sto := (if F_X12_isSheet v1 s = 0 then s else (if 0 ≤ s 70 v1.toNat then up s 70 v1.toNat ((-1)) else S_X12_finds 1 s))
def O_X12_lose (v1 : Int) (s : Sto) : Prop := ((F_X12_isSheet v1 s = 0 → True) ∧ (¬ F_X12_isSheet v1 s = 0 → (inb v1 4 ∧ ((0 ≤ s 70 v1.toNat → (inb v1 4 ∧ (inb v1 4 ∧ True))) ∧ (¬ 0 ≤ s 70 v1.toNat → True)))))
set_option maxRecDepth 100000 in
theorem C_X12_lose {v1 : Int} {s : Sto}  (h : O_X12_lose v1 s) : sr_C yX12_lose cX12_lose 2 (some .int) 2 [vR 69, vI v1] s (fun r s' => r = F_X12_lose v1 s ∧ s' = S_X12_lose v1 s) := by
  refine sr_C.of (by decide +kernel) (Nat.le_of_ble_eq_true rfl) ?_
  show sr_G RX12 cX12_lose 2 (some .int) 2 0 [(0, vR 69), (1, vI v1)] [] s (fun r s' => r = F_X12_lose v1 s ∧ s' = S_X12_lose v1 s)
  unfold O_X12_lose at h
  refine g_iload_n (pc' := 1) dX12_lose_0 rfl rfl ?_
  refine g_S1z (pc' := 4) dX12_lose_1 rfl ms_RX12_85 (by decide) (Nat.le_of_ble_eq_true rfl) C_X12_isSheet (sr_purb (fun hb1 => ?_))
  refine g_if_ne (pc' := 7) (tgt := 10) dX12_lose_4 rfl rfl (fun c2 => ?_) (fun c2 => ?_)
  · have h := h.2 c2
    refine g_aload_n (pc' := 11) dX12_lose_10 rfl rfl ?_
    refine g_getR (pc' := 14) (r := 70) dX12_lose_11 rfl fl_RX12_7 kd_69 rfl rf_69_0 ?_
    refine g_iload_n (pc' := 15) dX12_lose_14 rfl rfl ?_
    obtain ⟨ob3, h⟩ := h
    refine g_iald (pc' := 16) dX12_lose_15 rfl kd_70 ob3 ?_
    refine g_if_ge (pc' := 19) (tgt := 25) dX12_lose_16 rfl rfl (fun c4 => ?_) (fun c4 => ?_)
    · have h := h.1 c4
      refine g_aload_n (pc' := 26) dX12_lose_25 rfl rfl ?_
      refine g_getR (pc' := 29) (r := 70) dX12_lose_26 rfl fl_RX12_7 kd_69 rfl rf_69_0 ?_
      refine g_iload_n (pc' := 30) dX12_lose_29 rfl rfl ?_
      refine g_iconst (pc' := 31) (by unfold r32; decide) dX12_lose_30 rfl ?_
      obtain ⟨ob5, h⟩ := h
      refine g_iast (pc' := 32) dX12_lose_31 rfl kd_70 ob5 ?_
      refine g_aload_n (pc' := 33) dX12_lose_32 rfl rfl ?_
      refine g_getR (pc' := 36) (r := 71) dX12_lose_33 rfl fl_RX12_13 kd_69 rfl rf_69_1 ?_
      refine g_iload_n (pc' := 37) dX12_lose_36 rfl rfl ?_
      obtain ⟨ob6, h⟩ := h
      refine g_iald (pc' := 38) dX12_lose_37 rfl kd_71 ob6 ?_
      exact g_iret dX12_lose_38 rfl ⟨(by simp only [F_X12_lose, if_neg c2, if_pos c4]), (by simp only [S_X12_lose, if_neg c2, if_pos c4])⟩
    · have h := h.2 c4
      refine g_aload_n (pc' := 20) dX12_lose_19 rfl rfl ?_
      refine g_iconst (pc' := 21) (by unfold r32; decide) dX12_lose_20 rfl ?_
      refine g_V1i (pc' := 24) dX12_lose_21 rfl mv_RX12_91 kd_69 (by decide) (Nat.le_of_ble_eq_true rfl) C_X12_finds (sr_pur ?_)
      exact g_iret dX12_lose_24 rfl ⟨(by simp only [F_X12_lose, if_neg c2, if_neg c4]), (by simp only [S_X12_lose, if_neg c2, if_neg c4])⟩
  · have h := h.1 c2
    refine g_bipush (pc' := 9) ⟨by unfold r32; decide, rfl⟩ dX12_lose_7 rfl ?_
    exact g_iret dX12_lose_9 rfl ⟨(by simp only [F_X12_lose, if_pos c2]), (by simp only [S_X12_lose, if_pos c2])⟩
def F_X12_lacks (v1 : Int) (v2 : Int) (v3 : Int) (s : Sto) : Int := (if 0 ≤ s 70 v1.toNat then (if s 70 v1.toNat = v2 then (if F_X12_in v3 0 (w32 ((s 71 v1.toNat) - 1)) s = 0 then F_X12_finds 2 s else 0) else F_X12_finds 3 s) else F_X12_finds 1 s)
def S_X12_lacks (v1 : Int) (v2 : Int) (v3 : Int) (s : Sto) : Sto := (if 0 ≤ s 70 v1.toNat then (if s 70 v1.toNat = v2 then (if F_X12_in v3 0 (w32 ((s 71 v1.toNat) - 1)) s = 0 then S_X12_finds 2 s else s) else S_X12_finds 3 s) else S_X12_finds 1 s)
def O_X12_lacks (v1 : Int) (v2 : Int) (v3 : Int) (s : Sto) : Prop := (inb v1 4 ∧ ((0 ≤ s 70 v1.toNat → (inb v1 4 ∧ ((s 70 v1.toNat = v2 → (inb v1 4 ∧ True)) ∧ (¬ s 70 v1.toNat = v2 → True)))) ∧ (¬ 0 ≤ s 70 v1.toNat → True)))
set_option maxRecDepth 100000 in
theorem C_X12_lacks {v1 : Int} {v2 : Int} {v3 : Int} {s : Sto}  (h : O_X12_lacks v1 v2 v3 s) : sr_C yX12_lacks cX12_lacks 4 (some .int) 1 [vR 69, vI v1, vI v2, vI v3] s (fun r s' => r = F_X12_lacks v1 v2 v3 s ∧ s' = S_X12_lacks v1 v2 v3 s) := by
  refine sr_C.of (by decide +kernel) (Nat.le_of_ble_eq_true rfl) ?_
  show sr_G RX12 cX12_lacks 4 (some .int) 1 0 [(0, vR 69), (1, vI v1), (2, vI v2), (3, vI v3)] [] s (fun r s' => r = F_X12_lacks v1 v2 v3 s ∧ s' = S_X12_lacks v1 v2 v3 s)
  unfold O_X12_lacks at h
  refine g_aload_n (pc' := 1) dX12_lacks_0 rfl rfl ?_
  refine g_getR (pc' := 4) (r := 70) dX12_lacks_1 rfl fl_RX12_7 kd_69 rfl rf_69_0 ?_
  refine g_iload_n (pc' := 5) dX12_lacks_4 rfl rfl ?_
  obtain ⟨ob1, h⟩ := h
  refine g_iald (pc' := 6) dX12_lacks_5 rfl kd_70 ob1 ?_
  refine g_if_ge (pc' := 9) (tgt := 15) dX12_lacks_6 rfl rfl (fun c2 => ?_) (fun c2 => ?_)
  · have h := h.1 c2
    refine g_aload_n (pc' := 16) dX12_lacks_15 rfl rfl ?_
    refine g_getR (pc' := 19) (r := 70) dX12_lacks_16 rfl fl_RX12_7 kd_69 rfl rf_69_0 ?_
    refine g_iload_n (pc' := 20) dX12_lacks_19 rfl rfl ?_
    obtain ⟨ob3, h⟩ := h
    refine g_iald (pc' := 21) dX12_lacks_20 rfl kd_70 ob3 ?_
    refine g_iload_n (pc' := 22) dX12_lacks_21 rfl rfl ?_
    refine g_ic_eq (pc' := 25) (tgt := 31) dX12_lacks_22 rfl rfl (fun c4 => ?_) (fun c4 => ?_)
    · have h := h.1 c4
      refine g_iload_n (pc' := 32) dX12_lacks_31 rfl rfl ?_
      refine g_i2l (pc' := 33) dX12_lacks_32 rfl ?_
      refine g_lconst (pc' := 34) (z := 0) ⟨by unfold r64; decide, rfl⟩ dX12_lacks_33 rfl ?_
      refine g_aload_n (pc' := 35) dX12_lacks_34 rfl rfl ?_
      refine g_getR (pc' := 38) (r := 71) dX12_lacks_35 rfl fl_RX12_13 kd_69 rfl rf_69_1 ?_
      refine g_iload_n (pc' := 39) dX12_lacks_38 rfl rfl ?_
      obtain ⟨ob5, h⟩ := h
      refine g_iald (pc' := 40) dX12_lacks_39 rfl kd_71 ob5 ?_
      refine g_iconst (pc' := 41) (by unfold r32; decide) dX12_lacks_40 rfl ?_
      refine g_isub (pc' := 42) dX12_lacks_41 rfl ?_
      refine g_i2l (pc' := 43) dX12_lacks_42 rfl ?_
      refine g_S3z (pc' := 46) dX12_lacks_43 rfl ms_RX12_76 (by decide) (Nat.le_of_ble_eq_true rfl) C_X12_in (sr_purb (fun hb6 => ?_))
      refine g_if_eq (pc' := 49) (tgt := 53) dX12_lacks_46 rfl rfl (fun c7 => ?_) (fun c7 => ?_)
      · refine g_aload_n (pc' := 54) dX12_lacks_53 rfl rfl ?_
        refine g_iconst (pc' := 55) (by unfold r32; decide) dX12_lacks_54 rfl ?_
        refine g_V1i (pc' := 58) dX12_lacks_55 rfl mv_RX12_91 kd_69 (by decide) (Nat.le_of_ble_eq_true rfl) C_X12_finds (sr_pur ?_)
        exact g_iret dX12_lacks_58 rfl ⟨(by simp only [F_X12_lacks, if_pos c2, if_pos c4, if_pos c7]), (by simp only [S_X12_lacks, if_pos c2, if_pos c4, if_pos c7])⟩
      · refine g_iconst (pc' := 50) (by unfold r32; decide) dX12_lacks_49 rfl ?_
        refine g_goto (pc' := 58) dX12_lacks_50 rfl ?_
        exact g_iret dX12_lacks_58 rfl ⟨(by simp only [F_X12_lacks, if_pos c2, if_pos c4, if_neg c7]), (by simp only [S_X12_lacks, if_pos c2, if_pos c4, if_neg c7])⟩
    · have h := h.2 c4
      refine g_aload_n (pc' := 26) dX12_lacks_25 rfl rfl ?_
      refine g_iconst (pc' := 27) (by unfold r32; decide) dX12_lacks_26 rfl ?_
      refine g_V1i (pc' := 30) dX12_lacks_27 rfl mv_RX12_91 kd_69 (by decide) (Nat.le_of_ble_eq_true rfl) C_X12_finds (sr_pur ?_)
      exact g_iret dX12_lacks_30 rfl ⟨(by simp only [F_X12_lacks, if_pos c2, if_neg c4]), (by simp only [S_X12_lacks, if_pos c2, if_neg c4])⟩
  · have h := h.2 c2
    refine g_aload_n (pc' := 10) dX12_lacks_9 rfl rfl ?_
    refine g_iconst (pc' := 11) (by unfold r32; decide) dX12_lacks_10 rfl ?_
    refine g_V1i (pc' := 14) dX12_lacks_11 rfl mv_RX12_91 kd_69 (by decide) (Nat.le_of_ble_eq_true rfl) C_X12_finds (sr_pur ?_)
    exact g_iret dX12_lacks_14 rfl ⟨(by simp only [F_X12_lacks, if_neg c2]), (by simp only [S_X12_lacks, if_neg c2])⟩
def F_X12_cut (v0 : Int) (v1 : Int) (s : Sto) : Int := (if v0 = 0 then w8 v1 else (if v0 = 1 then w16 v1 else v1))
set_option maxRecDepth 100000 in
theorem C_X12_cut {v0 : Int} {v1 : Int} {s : Sto}   : sr_C yX12_cut cX12_cut 2 (some .int) 0 [vI v0, vI v1] s (fun r s' => r = F_X12_cut v0 v1 s ∧ s' = s) := by
  refine sr_C.of (by decide +kernel) (Nat.le_of_ble_eq_true rfl) ?_
  show sr_G RX12 cX12_cut 2 (some .int) 0 0 [(0, vI v0), (1, vI v1)] [] s (fun r s' => r = F_X12_cut v0 v1 s ∧ s' = s)
  refine g_iload_n (pc' := 1) dX12_cut_0 rfl rfl ?_
  refine g_if_ne (pc' := 4) (tgt := 9) dX12_cut_1 rfl rfl (fun c1 => ?_) (fun c1 => ?_)
  · refine g_iload_n (pc' := 10) dX12_cut_9 rfl rfl ?_
    refine g_iconst (pc' := 11) (by unfold r32; decide) dX12_cut_10 rfl ?_
    refine g_ic_ne (pc' := 14) (tgt := 19) dX12_cut_11 rfl rfl (fun c2 => ?_) (fun c2 => ?_)
    · refine g_iload_n (pc' := 20) dX12_cut_19 rfl rfl ?_
      exact g_iret dX12_cut_20 rfl ⟨(by simp only [F_X12_cut, if_neg c1, if_neg c2]), rfl⟩
    · refine g_iload_n (pc' := 15) dX12_cut_14 rfl rfl ?_
      refine g_i2s (pc' := 16) dX12_cut_15 rfl ?_
      refine g_goto (pc' := 20) dX12_cut_16 rfl ?_
      exact g_iret dX12_cut_20 rfl ⟨(by simp only [F_X12_cut, if_neg c1, if_pos c2]), rfl⟩
  · refine g_iload_n (pc' := 5) dX12_cut_4 rfl rfl ?_
    refine g_i2b (pc' := 6) dX12_cut_5 rfl ?_
    refine g_goto (pc' := 20) dX12_cut_6 rfl ?_
    exact g_iret dX12_cut_20 rfl ⟨(by simp only [F_X12_cut, if_pos c1]), rfl⟩
def F_X12_lay (v1 : Int) (v2 : Int) (v3 : Int) (v4 : Int) (s : Sto) : Int := (if F_X12_isSheet v1 s = 0 then (-2) else (if F_X12_in v2 0 2 s = 0 then (-2) else (if F_X12_lacks v1 v2 v3 s = 0 then 1 else F_X12_lacks v1 v2 v3 s)))
def S_X12_lay (v1 : Int) (v2 : Int) (v3 : Int) (v4 : Int) (s : Sto) : Sto := (if F_X12_isSheet v1 s = 0 then s else (if F_X12_in v2 0 2 s = 0 then s else (if F_X12_lacks v1 v2 v3 s = 0 then up (S_X12_lacks v1 v2 v3 s) 72 (w32 ((w32 (60 * v1)) + v3)).toNat (F_X12_cut v2 v4 (S_X12_lacks v1 v2 v3 s)) else S_X12_lacks v1 v2 v3 s)))
def O_X12_lay (v1 : Int) (v2 : Int) (v3 : Int) (v4 : Int) (s : Sto) : Prop := ((F_X12_isSheet v1 s = 0 → True) ∧ (¬ F_X12_isSheet v1 s = 0 → ((F_X12_in v2 0 2 s = 0 → True) ∧ (¬ F_X12_in v2 0 2 s = 0 → (O_X12_lacks v1 v2 v3 s ∧ ((F_X12_lacks v1 v2 v3 s = 0 → (inb (w32 ((w32 (60 * v1)) + v3)) 240 ∧ True)) ∧ (¬ F_X12_lacks v1 v2 v3 s = 0 → True)))))))
set_option maxRecDepth 100000 in
theorem C_X12_lay {v1 : Int} {v2 : Int} {v3 : Int} {v4 : Int} {s : Sto}  (h : O_X12_lay v1 v2 v3 v4 s) : sr_C yX12_lay cX12_lay 6 (some .int) 2 [vR 69, vI v1, vI v2, vI v3, vI v4] s (fun r s' => r = F_X12_lay v1 v2 v3 v4 s ∧ s' = S_X12_lay v1 v2 v3 v4 s) := by
  refine sr_C.of (by decide +kernel) (Nat.le_of_ble_eq_true rfl) ?_
  show sr_G RX12 cX12_lay 6 (some .int) 2 0 [(0, vR 69), (1, vI v1), (2, vI v2), (3, vI v3), (4, vI v4)] [] s (fun r s' => r = F_X12_lay v1 v2 v3 v4 s ∧ s' = S_X12_lay v1 v2 v3 v4 s)
  unfold O_X12_lay at h
  refine g_iload_n (pc' := 1) dX12_lay_0 rfl rfl ?_
  refine g_S1z (pc' := 4) dX12_lay_1 rfl ms_RX12_85 (by decide) (Nat.le_of_ble_eq_true rfl) C_X12_isSheet (sr_purb (fun hb1 => ?_))
  refine g_if_eq (pc' := 7) (tgt := 19) dX12_lay_4 rfl rfl (fun c2 => ?_) (fun c2 => ?_)
  · have h := h.1 c2
    refine g_bipush (pc' := 21) ⟨by unfold r32; decide, rfl⟩ dX12_lay_19 rfl ?_
    exact g_iret dX12_lay_21 rfl ⟨(by simp only [F_X12_lay, if_pos c2]), (by simp only [S_X12_lay, if_pos c2])⟩
  · have h := h.2 c2
    refine g_iload_n (pc' := 8) dX12_lay_7 rfl rfl ?_
    refine g_i2l (pc' := 9) dX12_lay_8 rfl ?_
    refine g_lconst (pc' := 10) (z := 0) ⟨by unfold r64; decide, rfl⟩ dX12_lay_9 rfl ?_
    refine g_ldc2 (pc' := 13) (z := 2) (by unfold r64; decide) kc_RX12_89 dX12_lay_10 rfl ?_
    refine g_S3z (pc' := 16) dX12_lay_13 rfl ms_RX12_76 (by decide) (Nat.le_of_ble_eq_true rfl) C_X12_in (sr_purb (fun hb3 => ?_))
    refine g_if_ne (pc' := 19) (tgt := 22) dX12_lay_16 rfl rfl (fun c4 => ?_) (fun c4 => ?_)
    · have h := h.2 c4
      refine g_aload_n (pc' := 23) dX12_lay_22 rfl rfl ?_
      refine g_iload_n (pc' := 24) dX12_lay_23 rfl rfl ?_
      refine g_iload_n (pc' := 25) dX12_lay_24 rfl rfl ?_
      refine g_iload_n (pc' := 26) dX12_lay_25 rfl rfl ?_
      obtain ⟨ob5, h⟩ := h
      refine g_V3i (pc' := 29) dX12_lay_26 rfl mv_RX12_95 kd_69 (by decide) (Nat.le_of_ble_eq_true rfl) (C_X12_lacks ob5) (sr_pur ?_)
      refine g_istore (pc' := 31) dX12_lay_29 rfl (by decide) ?_
      refine g_iload (pc' := 33) dX12_lay_31 rfl rfl ?_
      refine g_if_eq (pc' := 36) (tgt := 39) dX12_lay_33 rfl rfl (fun c6 => ?_) (fun c6 => ?_)
      · have h := h.1 c6
        refine g_aload_n (pc' := 40) dX12_lay_39 rfl rfl ?_
        refine g_getR (pc' := 43) (r := 72) dX12_lay_40 rfl fl_RX12_16 kd_69 rfl rf_69_2 ?_
        refine g_bipush (pc' := 45) ⟨by unfold r32; decide, rfl⟩ dX12_lay_43 rfl ?_
        refine g_iload_n (pc' := 46) dX12_lay_45 rfl rfl ?_
        refine g_imul (pc' := 47) dX12_lay_46 rfl ?_
        refine g_iload_n (pc' := 48) dX12_lay_47 rfl rfl ?_
        refine g_iadd (pc' := 49) dX12_lay_48 rfl ?_
        refine g_iload_n (pc' := 50) dX12_lay_49 rfl rfl ?_
        refine g_iload (pc' := 52) dX12_lay_50 rfl rfl ?_
        refine g_S2i (pc' := 55) dX12_lay_52 rfl ms_RX12_99 (by decide) (Nat.le_of_ble_eq_true rfl) C_X12_cut (sr_pur ?_)
        obtain ⟨ob7, h⟩ := h
        refine g_iast (pc' := 56) dX12_lay_55 rfl kd_72 ob7 ?_
        refine g_iconst (pc' := 57) (by unfold r32; decide) dX12_lay_56 rfl ?_
        exact g_iret dX12_lay_57 rfl ⟨(by simp only [F_X12_lay, if_neg c2, if_neg c4, if_pos c6]), (by simp only [S_X12_lay, if_neg c2, if_neg c4, if_pos c6])⟩
      · have h := h.2 c6
        refine g_iload (pc' := 38) dX12_lay_36 rfl rfl ?_
        exact g_iret dX12_lay_38 rfl ⟨(by simp only [F_X12_lay, if_neg c2, if_neg c4, if_neg c6]), (by simp only [S_X12_lay, if_neg c2, if_neg c4, if_neg c6])⟩
    · have h := h.1 c4
      refine g_bipush (pc' := 21) ⟨by unfold r32; decide, rfl⟩ dX12_lay_19 rfl ?_
      exact g_iret dX12_lay_21 rfl ⟨(by simp only [F_X12_lay, if_neg c2, if_pos c4]), (by simp only [S_X12_lay, if_neg c2, if_pos c4])⟩
def F_X12_get (v1 : Int) (v2 : Int) (v3 : Int) (s : Sto) : Int := (if F_X12_isSheet v1 s = 0 then (-2147483648) else (if F_X12_in v2 0 2 s = 0 then (-2147483648) else (if F_X12_lacks v1 v2 v3 s = 0 then S_X12_lacks v1 v2 v3 s 72 (w32 ((w32 (60 * v1)) + v3)).toNat else (-2147483648))))
def S_X12_get (v1 : Int) (v2 : Int) (v3 : Int) (s : Sto) : Sto := (if F_X12_isSheet v1 s = 0 then s else (if F_X12_in v2 0 2 s = 0 then s else (if F_X12_lacks v1 v2 v3 s = 0 then S_X12_lacks v1 v2 v3 s else S_X12_lacks v1 v2 v3 s)))
def O_X12_get (v1 : Int) (v2 : Int) (v3 : Int) (s : Sto) : Prop := ((F_X12_isSheet v1 s = 0 → True) ∧ (¬ F_X12_isSheet v1 s = 0 → ((F_X12_in v2 0 2 s = 0 → True) ∧ (¬ F_X12_in v2 0 2 s = 0 → (O_X12_lacks v1 v2 v3 s ∧ ((F_X12_lacks v1 v2 v3 s = 0 → (inb (w32 ((w32 (60 * v1)) + v3)) 240 ∧ True)) ∧ (¬ F_X12_lacks v1 v2 v3 s = 0 → True)))))))
set_option maxRecDepth 100000 in
theorem C_X12_get {v1 : Int} {v2 : Int} {v3 : Int} {s : Sto}  (h : O_X12_get v1 v2 v3 s) : sr_C yX12_get cX12_get 4 (some .int) 2 [vR 69, vI v1, vI v2, vI v3] s (fun r s' => r = F_X12_get v1 v2 v3 s ∧ s' = S_X12_get v1 v2 v3 s) := by
  refine sr_C.of (by decide +kernel) (Nat.le_of_ble_eq_true rfl) ?_
  show sr_G RX12 cX12_get 4 (some .int) 2 0 [(0, vR 69), (1, vI v1), (2, vI v2), (3, vI v3)] [] s (fun r s' => r = F_X12_get v1 v2 v3 s ∧ s' = S_X12_get v1 v2 v3 s)
  unfold O_X12_get at h
  refine g_iload_n (pc' := 1) dX12_get_0 rfl rfl ?_
  refine g_S1z (pc' := 4) dX12_get_1 rfl ms_RX12_85 (by decide) (Nat.le_of_ble_eq_true rfl) C_X12_isSheet (sr_purb (fun hb1 => ?_))
  refine g_if_eq (pc' := 7) (tgt := 29) dX12_get_4 rfl rfl (fun c2 => ?_) (fun c2 => ?_)
  · have h := h.1 c2
    refine g_ldc (pc' := 31) (z := (-2147483648)) (by unfold r32; decide) kc_RX12_103 dX12_get_29 rfl ?_
    exact g_iret dX12_get_31 rfl ⟨(by simp only [F_X12_get, if_pos c2]), (by simp only [S_X12_get, if_pos c2])⟩
  · have h := h.2 c2
    refine g_iload_n (pc' := 8) dX12_get_7 rfl rfl ?_
    refine g_i2l (pc' := 9) dX12_get_8 rfl ?_
    refine g_lconst (pc' := 10) (z := 0) ⟨by unfold r64; decide, rfl⟩ dX12_get_9 rfl ?_
    refine g_ldc2 (pc' := 13) (z := 2) (by unfold r64; decide) kc_RX12_89 dX12_get_10 rfl ?_
    refine g_S3z (pc' := 16) dX12_get_13 rfl ms_RX12_76 (by decide) (Nat.le_of_ble_eq_true rfl) C_X12_in (sr_purb (fun hb3 => ?_))
    refine g_if_eq (pc' := 19) (tgt := 29) dX12_get_16 rfl rfl (fun c4 => ?_) (fun c4 => ?_)
    · have h := h.1 c4
      refine g_ldc (pc' := 31) (z := (-2147483648)) (by unfold r32; decide) kc_RX12_103 dX12_get_29 rfl ?_
      exact g_iret dX12_get_31 rfl ⟨(by simp only [F_X12_get, if_neg c2, if_pos c4]), (by simp only [S_X12_get, if_neg c2, if_pos c4])⟩
    · have h := h.2 c4
      refine g_aload_n (pc' := 20) dX12_get_19 rfl rfl ?_
      refine g_iload_n (pc' := 21) dX12_get_20 rfl rfl ?_
      refine g_iload_n (pc' := 22) dX12_get_21 rfl rfl ?_
      refine g_iload_n (pc' := 23) dX12_get_22 rfl rfl ?_
      obtain ⟨ob5, h⟩ := h
      refine g_V3i (pc' := 26) dX12_get_23 rfl mv_RX12_95 kd_69 (by decide) (Nat.le_of_ble_eq_true rfl) (C_X12_lacks ob5) (sr_pur ?_)
      refine g_if_eq (pc' := 29) (tgt := 32) dX12_get_26 rfl rfl (fun c6 => ?_) (fun c6 => ?_)
      · have h := h.1 c6
        refine g_aload_n (pc' := 33) dX12_get_32 rfl rfl ?_
        refine g_getR (pc' := 36) (r := 72) dX12_get_33 rfl fl_RX12_16 kd_69 rfl rf_69_2 ?_
        refine g_bipush (pc' := 38) ⟨by unfold r32; decide, rfl⟩ dX12_get_36 rfl ?_
        refine g_iload_n (pc' := 39) dX12_get_38 rfl rfl ?_
        refine g_imul (pc' := 40) dX12_get_39 rfl ?_
        refine g_iload_n (pc' := 41) dX12_get_40 rfl rfl ?_
        refine g_iadd (pc' := 42) dX12_get_41 rfl ?_
        obtain ⟨ob7, h⟩ := h
        refine g_iald (pc' := 43) dX12_get_42 rfl kd_72 ob7 ?_
        exact g_iret dX12_get_43 rfl ⟨(by simp only [F_X12_get, if_neg c2, if_neg c4, if_pos c6]), (by simp only [S_X12_get, if_neg c2, if_neg c4, if_pos c6])⟩
      · have h := h.2 c6
        refine g_ldc (pc' := 31) (z := (-2147483648)) (by unfold r32; decide) kc_RX12_103 dX12_get_29 rfl ?_
        exact g_iret dX12_get_31 rfl ⟨(by simp only [F_X12_get, if_neg c2, if_neg c4, if_neg c6]), (by simp only [S_X12_get, if_neg c2, if_neg c4, if_neg c6])⟩
def L_X12_copy_120 (v1 : Int) (v2 : Int) (v3 : Int) (v4 : Int) (v5 : Int) (K154 : Sto → Prop) : Nat → Int → Sto → Prop
  | 0, _, _ => False
  | n + 1, v6, s => ((v5 ≤ v6 → K154 s) ∧ (¬ v5 ≤ v6 → (inb (w32 ((w32 ((w32 (60 * v1)) + v2)) + v6)) 240 ∧ (inb v6 60 ∧ (∀ s4 : Sto, s4 = up s 73 v6.toNat (s 72 (w32 ((w32 ((w32 (60 * v1)) + v2)) + v6)).toNat) → L_X12_copy_120 v1 v2 v3 v4 v5 K154 n (w32 (v6 + 1)) s4)))))
set_option maxRecDepth 100000 in
theorem SL_X12_copy_120 {v1 : Int} {v2 : Int} {v3 : Int} {v4 : Int} {v5 : Int} {K154 : Sto → Prop} {Q : Int → Sto → Prop}  (hK154 : ∀ s, K154 s → sr_G RX12 cX12_copy 7 (some .int) 2 154 [(0, vR 69), (3, vI v3), (4, vI v4), (5, vI v5)] [] s Q) : ∀ n v6 s, L_X12_copy_120 v1 v2 v3 v4 v5 K154 n v6 s → sr_G RX12 cX12_copy 7 (some .int) 2 120 [(0, vR 69), (1, vI v1), (2, vI v2), (3, vI v3), (4, vI v4), (5, vI v5), (6, vI v6)] [] s Q := by
  intro n
  induction n with
  | zero => intro v6 s h; exact h.elim
  | succ n ih =>
    intro v6 s h
    unfold L_X12_copy_120 at h
    refine g_iload (pc' := 122) dX12_copy_120 rfl rfl ?_
    refine g_iload (pc' := 124) dX12_copy_122 rfl rfl ?_
    refine g_ic_ge (pc' := 127) (tgt := 154) dX12_copy_124 rfl rfl (fun c1 => ?_) (fun c1 => ?_)
    · have h := h.1 c1
      exact (hK154 _ h).to ((sb_c rfl (sb_c rfl (sb_c rfl (sb_c rfl sb_n)))))
    · have h := h.2 c1
      refine g_aload_n (pc' := 128) dX12_copy_127 rfl rfl ?_
      refine g_getR (pc' := 131) (r := 73) dX12_copy_128 rfl fl_RX12_19 kd_69 rfl rf_69_3 ?_
      refine g_iload (pc' := 133) dX12_copy_131 rfl rfl ?_
      refine g_aload_n (pc' := 134) dX12_copy_133 rfl rfl ?_
      refine g_getR (pc' := 137) (r := 72) dX12_copy_134 rfl fl_RX12_16 kd_69 rfl rf_69_2 ?_
      refine g_bipush (pc' := 139) ⟨by unfold r32; decide, rfl⟩ dX12_copy_137 rfl ?_
      refine g_iload_n (pc' := 140) dX12_copy_139 rfl rfl ?_
      refine g_imul (pc' := 141) dX12_copy_140 rfl ?_
      refine g_iload_n (pc' := 142) dX12_copy_141 rfl rfl ?_
      refine g_iadd (pc' := 143) dX12_copy_142 rfl ?_
      refine g_iload (pc' := 145) dX12_copy_143 rfl rfl ?_
      refine g_iadd (pc' := 146) dX12_copy_145 rfl ?_
      obtain ⟨ob2, h⟩ := h
      refine g_iald (pc' := 147) dX12_copy_146 rfl kd_72 ob2 ?_
      obtain ⟨ob3, h⟩ := h
      refine g_iast (pc' := 148) dX12_copy_147 rfl kd_73 ob3 ?_
      refine g_sto (fun s4 es4 => ?_)
      have h := h s4 es4
      refine g_iinc (pc' := 151) dX12_copy_148 rfl rfl (by decide) ?_
      refine g_goto (pc' := 120) dX12_copy_151 rfl ?_
      exact (ih _ _ h).to ((sb_c rfl (sb_c rfl (sb_c rfl (sb_c rfl (sb_c rfl (sb_c rfl (sb_c rfl sb_n))))))))
def L_X12_copy_157 (v3 : Int) (v4 : Int) (v5 : Int) (K192 : Sto → Prop) : Nat → Int → Sto → Prop
  | 0, _, _ => False
  | n + 1, v6, s => ((v5 ≤ v6 → K192 s) ∧ (¬ v5 ≤ v6 → (inb v6 60 ∧ (inb (w32 ((w32 ((w32 (60 * v3)) + v4)) + v6)) 240 ∧ (∀ s4 : Sto, s4 = up s 72 (w32 ((w32 ((w32 (60 * v3)) + v4)) + v6)).toNat (s 73 v6.toNat) → L_X12_copy_157 v3 v4 v5 K192 n (w32 (v6 + 1)) s4)))))
set_option maxRecDepth 100000 in
theorem SL_X12_copy_157 {v3 : Int} {v4 : Int} {v5 : Int} {K192 : Sto → Prop} {Q : Int → Sto → Prop}  (hK192 : ∀ s, K192 s → sr_G RX12 cX12_copy 7 (some .int) 2 192 [] [] s Q) : ∀ n v6 s, L_X12_copy_157 v3 v4 v5 K192 n v6 s → sr_G RX12 cX12_copy 7 (some .int) 2 157 [(0, vR 69), (3, vI v3), (4, vI v4), (5, vI v5), (6, vI v6)] [] s Q := by
  intro n
  induction n with
  | zero => intro v6 s h; exact h.elim
  | succ n ih =>
    intro v6 s h
    unfold L_X12_copy_157 at h
    refine g_iload (pc' := 159) dX12_copy_157 rfl rfl ?_
    refine g_iload (pc' := 161) dX12_copy_159 rfl rfl ?_
    refine g_ic_ge (pc' := 164) (tgt := 192) dX12_copy_161 rfl rfl (fun c1 => ?_) (fun c1 => ?_)
    · have h := h.1 c1
      exact (hK192 _ h).to (sb_n)
    · have h := h.2 c1
      refine g_aload_n (pc' := 165) dX12_copy_164 rfl rfl ?_
      refine g_getR (pc' := 168) (r := 72) dX12_copy_165 rfl fl_RX12_16 kd_69 rfl rf_69_2 ?_
      refine g_bipush (pc' := 170) ⟨by unfold r32; decide, rfl⟩ dX12_copy_168 rfl ?_
      refine g_iload_n (pc' := 171) dX12_copy_170 rfl rfl ?_
      refine g_imul (pc' := 172) dX12_copy_171 rfl ?_
      refine g_iload (pc' := 174) dX12_copy_172 rfl rfl ?_
      refine g_iadd (pc' := 175) dX12_copy_174 rfl ?_
      refine g_iload (pc' := 177) dX12_copy_175 rfl rfl ?_
      refine g_iadd (pc' := 178) dX12_copy_177 rfl ?_
      refine g_aload_n (pc' := 179) dX12_copy_178 rfl rfl ?_
      refine g_getR (pc' := 182) (r := 73) dX12_copy_179 rfl fl_RX12_19 kd_69 rfl rf_69_3 ?_
      refine g_iload (pc' := 184) dX12_copy_182 rfl rfl ?_
      obtain ⟨ob2, h⟩ := h
      refine g_iald (pc' := 185) dX12_copy_184 rfl kd_73 ob2 ?_
      obtain ⟨ob3, h⟩ := h
      refine g_iast (pc' := 186) dX12_copy_185 rfl kd_72 ob3 ?_
      refine g_sto (fun s4 es4 => ?_)
      have h := h s4 es4
      refine g_iinc (pc' := 189) dX12_copy_186 rfl rfl (by decide) ?_
      refine g_goto (pc' := 157) dX12_copy_189 rfl ?_
      exact (ih _ _ h).to ((sb_c rfl (sb_c rfl (sb_c rfl (sb_c rfl (sb_c rfl sb_n))))))
def P_X12_copy (v1 : Int) (v2 : Int) (v3 : Int) (v4 : Int) (v5 : Int) (s : Sto) (Q : Int → Sto → Prop) : Prop := ((F_X12_isSheet v1 s = 0 → Q ((-2)) s) ∧ (¬ F_X12_isSheet v1 s = 0 → ((F_X12_isSheet v3 s = 0 → Q ((-2)) s) ∧ (¬ F_X12_isSheet v3 s = 0 → (inb v1 4 ∧ ((s 70 v1.toNat < 0 → (∀ s7 : Sto, s7 = S_X12_finds 1 s → Q (F_X12_finds 1 s) s7)) ∧ (¬ s 70 v1.toNat < 0 → (inb v3 4 ∧ ((0 ≤ s 70 v3.toNat → (inb v1 4 ∧ (inb v3 4 ∧ ((s 70 v1.toNat = s 70 v3.toNat → ((v2 < 0 → (∀ s14 : Sto, s14 = S_X12_finds 2 s → Q (F_X12_finds 2 s) s14)) ∧ (¬ v2 < 0 → ((v4 < 0 → (∀ s16 : Sto, s16 = S_X12_finds 2 s → Q (F_X12_finds 2 s) s16)) ∧ (¬ v4 < 0 → ((v5 < 0 → (∀ s18 : Sto, s18 = S_X12_finds 2 s → Q (F_X12_finds 2 s) s18)) ∧ (¬ v5 < 0 → (inb v1 4 ∧ ((s 71 v1.toNat < w64 (v2 + v5) → (∀ s21 : Sto, s21 = S_X12_finds 2 s → Q (F_X12_finds 2 s) s21)) ∧ (¬ s 71 v1.toNat < w64 (v2 + v5) → (inb v3 4 ∧ ((w64 (v4 + v5) ≤ s 71 v3.toNat → (∃ n27, L_X12_copy_120 v1 v2 v3 v4 v5 (fun s24 => (∃ n26, L_X12_copy_157 v3 v4 v5 (fun s25 => Q 1 s25) n26 0 s24)) n27 0 s)) ∧ (¬ w64 (v4 + v5) ≤ s 71 v3.toNat → (∀ s28 : Sto, s28 = S_X12_finds 2 s → Q (F_X12_finds 2 s) s28)))))))))))))) ∧ (¬ s 70 v1.toNat = s 70 v3.toNat → (∀ s29 : Sto, s29 = S_X12_finds 4 s → Q (F_X12_finds 4 s) s29)))))) ∧ (¬ 0 ≤ s 70 v3.toNat → (∀ s30 : Sto, s30 = S_X12_finds 1 s → Q (F_X12_finds 1 s) s30)))))))))))
set_option maxRecDepth 100000 in
theorem C_X12_copy {v1 : Int} {v2 : Int} {v3 : Int} {v4 : Int} {v5 : Int} {s : Sto} {Q : Int → Sto → Prop}  (h : P_X12_copy v1 v2 v3 v4 v5 s Q) : sr_C yX12_copy cX12_copy 7 (some .int) 2 [vR 69, vI v1, vI v2, vI v3, vI v4, vI v5] s Q := by
  refine sr_C.of (by decide +kernel) (Nat.le_of_ble_eq_true rfl) ?_
  show sr_G RX12 cX12_copy 7 (some .int) 2 0 [(0, vR 69), (1, vI v1), (2, vI v2), (3, vI v3), (4, vI v4), (5, vI v5)] [] s Q
  unfold P_X12_copy at h
  refine g_iload_n (pc' := 1) dX12_copy_0 rfl rfl ?_
  refine g_S1z (pc' := 4) dX12_copy_1 rfl ms_RX12_85 (by decide) (Nat.le_of_ble_eq_true rfl) C_X12_isSheet (sr_purb (fun hb1 => ?_))
  refine g_if_eq (pc' := 7) (tgt := 14) dX12_copy_4 rfl rfl (fun c2 => ?_) (fun c2 => ?_)
  · have h := h.1 c2
    refine g_bipush (pc' := 16) ⟨by unfold r32; decide, rfl⟩ dX12_copy_14 rfl ?_
    exact g_iret dX12_copy_16 rfl h
  · have h := h.2 c2
    refine g_iload_n (pc' := 8) dX12_copy_7 rfl rfl ?_
    refine g_S1z (pc' := 11) dX12_copy_8 rfl ms_RX12_85 (by decide) (Nat.le_of_ble_eq_true rfl) C_X12_isSheet (sr_purb (fun hb3 => ?_))
    refine g_if_ne (pc' := 14) (tgt := 17) dX12_copy_11 rfl rfl (fun c4 => ?_) (fun c4 => ?_)
    · have h := h.2 c4
      refine g_aload_n (pc' := 18) dX12_copy_17 rfl rfl ?_
      refine g_getR (pc' := 21) (r := 70) dX12_copy_18 rfl fl_RX12_7 kd_69 rfl rf_69_0 ?_
      refine g_iload_n (pc' := 22) dX12_copy_21 rfl rfl ?_
      obtain ⟨ob5, h⟩ := h
      refine g_iald (pc' := 23) dX12_copy_22 rfl kd_70 ob5 ?_
      refine g_if_lt (pc' := 26) (tgt := 35) dX12_copy_23 rfl rfl (fun c6 => ?_) (fun c6 => ?_)
      · have h := h.1 c6
        refine g_aload_n (pc' := 36) dX12_copy_35 rfl rfl ?_
        refine g_iconst (pc' := 37) (by unfold r32; decide) dX12_copy_36 rfl ?_
        refine g_V1i (pc' := 40) dX12_copy_37 rfl mv_RX12_91 kd_69 (by decide) (Nat.le_of_ble_eq_true rfl) C_X12_finds (sr_pur ?_)
        refine g_sto (fun s7 es7 => ?_)
        have h := h s7 es7
        exact g_iret dX12_copy_40 rfl h
      · have h := h.2 c6
        refine g_aload_n (pc' := 27) dX12_copy_26 rfl rfl ?_
        refine g_getR (pc' := 30) (r := 70) dX12_copy_27 rfl fl_RX12_7 kd_69 rfl rf_69_0 ?_
        refine g_iload_n (pc' := 31) dX12_copy_30 rfl rfl ?_
        obtain ⟨ob8, h⟩ := h
        refine g_iald (pc' := 32) dX12_copy_31 rfl kd_70 ob8 ?_
        refine g_if_ge (pc' := 35) (tgt := 41) dX12_copy_32 rfl rfl (fun c9 => ?_) (fun c9 => ?_)
        · have h := h.1 c9
          refine g_aload_n (pc' := 42) dX12_copy_41 rfl rfl ?_
          refine g_getR (pc' := 45) (r := 70) dX12_copy_42 rfl fl_RX12_7 kd_69 rfl rf_69_0 ?_
          refine g_iload_n (pc' := 46) dX12_copy_45 rfl rfl ?_
          obtain ⟨ob10, h⟩ := h
          refine g_iald (pc' := 47) dX12_copy_46 rfl kd_70 ob10 ?_
          refine g_aload_n (pc' := 48) dX12_copy_47 rfl rfl ?_
          refine g_getR (pc' := 51) (r := 70) dX12_copy_48 rfl fl_RX12_7 kd_69 rfl rf_69_0 ?_
          refine g_iload_n (pc' := 52) dX12_copy_51 rfl rfl ?_
          obtain ⟨ob11, h⟩ := h
          refine g_iald (pc' := 53) dX12_copy_52 rfl kd_70 ob11 ?_
          refine g_ic_eq (pc' := 56) (tgt := 62) dX12_copy_53 rfl rfl (fun c12 => ?_) (fun c12 => ?_)
          · have h := h.1 c12
            refine g_iload_n (pc' := 63) dX12_copy_62 rfl rfl ?_
            refine g_if_lt (pc' := 66) (tgt := 111) dX12_copy_63 rfl rfl (fun c13 => ?_) (fun c13 => ?_)
            · have h := h.1 c13
              refine g_aload_n (pc' := 112) dX12_copy_111 rfl rfl ?_
              refine g_iconst (pc' := 113) (by unfold r32; decide) dX12_copy_112 rfl ?_
              refine g_V1i (pc' := 116) dX12_copy_113 rfl mv_RX12_91 kd_69 (by decide) (Nat.le_of_ble_eq_true rfl) C_X12_finds (sr_pur ?_)
              refine g_sto (fun s14 es14 => ?_)
              have h := h s14 es14
              exact g_iret dX12_copy_116 rfl h
            · have h := h.2 c13
              refine g_iload (pc' := 68) dX12_copy_66 rfl rfl ?_
              refine g_if_lt (pc' := 71) (tgt := 111) dX12_copy_68 rfl rfl (fun c15 => ?_) (fun c15 => ?_)
              · have h := h.1 c15
                refine g_aload_n (pc' := 112) dX12_copy_111 rfl rfl ?_
                refine g_iconst (pc' := 113) (by unfold r32; decide) dX12_copy_112 rfl ?_
                refine g_V1i (pc' := 116) dX12_copy_113 rfl mv_RX12_91 kd_69 (by decide) (Nat.le_of_ble_eq_true rfl) C_X12_finds (sr_pur ?_)
                refine g_sto (fun s16 es16 => ?_)
                have h := h s16 es16
                exact g_iret dX12_copy_116 rfl h
              · have h := h.2 c15
                refine g_iload (pc' := 73) dX12_copy_71 rfl rfl ?_
                refine g_if_lt (pc' := 76) (tgt := 111) dX12_copy_73 rfl rfl (fun c17 => ?_) (fun c17 => ?_)
                · have h := h.1 c17
                  refine g_aload_n (pc' := 112) dX12_copy_111 rfl rfl ?_
                  refine g_iconst (pc' := 113) (by unfold r32; decide) dX12_copy_112 rfl ?_
                  refine g_V1i (pc' := 116) dX12_copy_113 rfl mv_RX12_91 kd_69 (by decide) (Nat.le_of_ble_eq_true rfl) C_X12_finds (sr_pur ?_)
                  refine g_sto (fun s18 es18 => ?_)
                  have h := h s18 es18
                  exact g_iret dX12_copy_116 rfl h
                · have h := h.2 c17
                  refine g_iload_n (pc' := 77) dX12_copy_76 rfl rfl ?_
                  refine g_i2l (pc' := 78) dX12_copy_77 rfl ?_
                  refine g_iload (pc' := 80) dX12_copy_78 rfl rfl ?_
                  refine g_i2l (pc' := 81) dX12_copy_80 rfl ?_
                  refine g_ladd (pc' := 82) dX12_copy_81 rfl ?_
                  refine g_aload_n (pc' := 83) dX12_copy_82 rfl rfl ?_
                  refine g_getR (pc' := 86) (r := 71) dX12_copy_83 rfl fl_RX12_13 kd_69 rfl rf_69_1 ?_
                  refine g_iload_n (pc' := 87) dX12_copy_86 rfl rfl ?_
                  obtain ⟨ob19, h⟩ := h
                  refine g_iald (pc' := 88) dX12_copy_87 rfl kd_71 ob19 ?_
                  refine g_i2l (pc' := 89) dX12_copy_88 rfl ?_
                  refine g_lc_gt (pc' := 93) (tgt := 111) dX12_copy_89 dX12_copy_90 rfl rfl (fun c20 => ?_) (fun c20 => ?_)
                  · have h := h.1 c20
                    refine g_aload_n (pc' := 112) dX12_copy_111 rfl rfl ?_
                    refine g_iconst (pc' := 113) (by unfold r32; decide) dX12_copy_112 rfl ?_
                    refine g_V1i (pc' := 116) dX12_copy_113 rfl mv_RX12_91 kd_69 (by decide) (Nat.le_of_ble_eq_true rfl) C_X12_finds (sr_pur ?_)
                    refine g_sto (fun s21 es21 => ?_)
                    have h := h s21 es21
                    exact g_iret dX12_copy_116 rfl h
                  · have h := h.2 c20
                    refine g_iload (pc' := 95) dX12_copy_93 rfl rfl ?_
                    refine g_i2l (pc' := 96) dX12_copy_95 rfl ?_
                    refine g_iload (pc' := 98) dX12_copy_96 rfl rfl ?_
                    refine g_i2l (pc' := 99) dX12_copy_98 rfl ?_
                    refine g_ladd (pc' := 100) dX12_copy_99 rfl ?_
                    refine g_aload_n (pc' := 101) dX12_copy_100 rfl rfl ?_
                    refine g_getR (pc' := 104) (r := 71) dX12_copy_101 rfl fl_RX12_13 kd_69 rfl rf_69_1 ?_
                    refine g_iload_n (pc' := 105) dX12_copy_104 rfl rfl ?_
                    obtain ⟨ob22, h⟩ := h
                    refine g_iald (pc' := 106) dX12_copy_105 rfl kd_71 ob22 ?_
                    refine g_i2l (pc' := 107) dX12_copy_106 rfl ?_
                    refine g_lc_le (pc' := 111) (tgt := 117) dX12_copy_107 dX12_copy_108 rfl rfl (fun c23 => ?_) (fun c23 => ?_)
                    · have h := h.1 c23
                      refine g_iconst (pc' := 118) (by unfold r32; decide) dX12_copy_117 rfl ?_
                      refine g_istore (pc' := 120) dX12_copy_118 rfl (by decide) ?_
                      obtain ⟨n27, h⟩ := h
                      refine (SL_X12_copy_120  (fun s24 h => ?_) n27 _ _ h).to ((sb_c rfl (sb_c rfl (sb_c rfl (sb_c rfl (sb_c rfl (sb_c rfl (sb_c rfl sb_n))))))))
                      · refine g_iconst (pc' := 155) (by unfold r32; decide) dX12_copy_154 rfl ?_
                        refine g_istore (pc' := 157) dX12_copy_155 rfl (by decide) ?_
                        obtain ⟨n26, h⟩ := h
                        refine (SL_X12_copy_157  (fun s25 h => ?_) n26 _ _ h).to ((sb_c rfl (sb_c rfl (sb_c rfl (sb_c rfl (sb_c rfl sb_n))))))
                        · refine g_iconst (pc' := 193) (by unfold r32; decide) dX12_copy_192 rfl ?_
                          exact g_iret dX12_copy_193 rfl h
                    · have h := h.2 c23
                      refine g_aload_n (pc' := 112) dX12_copy_111 rfl rfl ?_
                      refine g_iconst (pc' := 113) (by unfold r32; decide) dX12_copy_112 rfl ?_
                      refine g_V1i (pc' := 116) dX12_copy_113 rfl mv_RX12_91 kd_69 (by decide) (Nat.le_of_ble_eq_true rfl) C_X12_finds (sr_pur ?_)
                      refine g_sto (fun s28 es28 => ?_)
                      have h := h s28 es28
                      exact g_iret dX12_copy_116 rfl h
          · have h := h.2 c12
            refine g_aload_n (pc' := 57) dX12_copy_56 rfl rfl ?_
            refine g_iconst (pc' := 58) (by unfold r32; decide) dX12_copy_57 rfl ?_
            refine g_V1i (pc' := 61) dX12_copy_58 rfl mv_RX12_91 kd_69 (by decide) (Nat.le_of_ble_eq_true rfl) C_X12_finds (sr_pur ?_)
            refine g_sto (fun s29 es29 => ?_)
            have h := h s29 es29
            exact g_iret dX12_copy_61 rfl h
        · have h := h.2 c9
          refine g_aload_n (pc' := 36) dX12_copy_35 rfl rfl ?_
          refine g_iconst (pc' := 37) (by unfold r32; decide) dX12_copy_36 rfl ?_
          refine g_V1i (pc' := 40) dX12_copy_37 rfl mv_RX12_91 kd_69 (by decide) (Nat.le_of_ble_eq_true rfl) C_X12_finds (sr_pur ?_)
          refine g_sto (fun s30 es30 => ?_)
          have h := h s30 es30
          exact g_iret dX12_copy_40 rfl h
    · have h := h.1 c4
      refine g_bipush (pc' := 16) ⟨by unfold r32; decide, rfl⟩ dX12_copy_14 rfl ?_
      exact g_iret dX12_copy_16 rfl h
def F_X12_isText (v0 : Int) (s : Sto) : Int := F_X12_in v0 0 2 s
set_option maxRecDepth 100000 in
theorem C_X12_isText {v0 : Int} {s : Sto}   : sr_C yX12_isText cX12_isText 1 (some .boolean) 1 [vI v0] s (fun r s' => r = F_X12_isText v0 s ∧ s' = s ∧ (r = 0 ∨ r = 1)) := by
  refine sr_C.of (by decide +kernel) (Nat.le_of_ble_eq_true rfl) ?_
  show sr_G RX12 cX12_isText 1 (some .boolean) 1 0 [(0, vI v0)] [] s (fun r s' => r = F_X12_isText v0 s ∧ s' = s ∧ (r = 0 ∨ r = 1))
  refine g_iload_n (pc' := 1) dX12_isText_0 rfl rfl ?_
  refine g_i2l (pc' := 2) dX12_isText_1 rfl ?_
  refine g_lconst (pc' := 3) (z := 0) ⟨by unfold r64; decide, rfl⟩ dX12_isText_2 rfl ?_
  refine g_ldc2 (pc' := 6) (z := 2) (by unfold r64; decide) kc_RX12_89 dX12_isText_3 rfl ?_
  refine g_S3z (pc' := 9) dX12_isText_6 rfl ms_RX12_76 (by decide) (Nat.le_of_ble_eq_true rfl) C_X12_in (sr_purb (fun hb1 => ?_))
  exact g_zret dX12_isText_9 rfl hb1 ⟨rfl, rfl, hb1⟩
def F_X12_type (v1 : Int) (v2 : Int) (s : Sto) : Int := (if F_X12_isText v1 s = 0 then (-2) else (if F_X12_in v2 0 255 s = 0 then (-2) else (if v1 = 0 then (if s 75 v1.toNat = 41 then (-4) else up (up s 74 (w32 ((w32 (42 * v1)) + (s 75 v1.toNat))).toNat v2) 75 v1.toNat (w32 ((up s 74 (w32 ((w32 (42 * v1)) + (s 75 v1.toNat))).toNat v2 75 v1.toNat) + 1)) 75 v1.toNat) else (if v1 = 1 then (if s 75 v1.toNat = 39 then (-4) else up (up s 74 (w32 ((w32 (42 * v1)) + (s 75 v1.toNat))).toNat v2) 75 v1.toNat (w32 ((up s 74 (w32 ((w32 (42 * v1)) + (s 75 v1.toNat))).toNat v2 75 v1.toNat) + 1)) 75 v1.toNat) else (if s 75 v1.toNat = 20 then (-4) else up (up s 74 (w32 ((w32 (42 * v1)) + (s 75 v1.toNat))).toNat v2) 75 v1.toNat (w32 ((up s 74 (w32 ((w32 (42 * v1)) + (s 75 v1.toNat))).toNat v2 75 v1.toNat) + 1)) 75 v1.toNat)))))
def S_X12_type (v1 : Int) (v2 : Int) (s : Sto) : Sto := (if F_X12_isText v1 s = 0 then s else (if F_X12_in v2 0 255 s = 0 then s else (if v1 = 0 then (if s 75 v1.toNat = 41 then s else up (up s 74 (w32 ((w32 (42 * v1)) + (s 75 v1.toNat))).toNat v2) 75 v1.toNat (w32 ((up s 74 (w32 ((w32 (42 * v1)) + (s 75 v1.toNat))).toNat v2 75 v1.toNat) + 1))) else (if v1 = 1 then (if s 75 v1.toNat = 39 then s else up (up s 74 (w32 ((w32 (42 * v1)) + (s 75 v1.toNat))).toNat v2) 75 v1.toNat (w32 ((up s 74 (w32 ((w32 (42 * v1)) + (s 75 v1.toNat))).toNat v2 75 v1.toNat) + 1))) else (if s 75 v1.toNat = 20 then s else up (up s 74 (w32 ((w32 (42 * v1)) + (s 75 v1.toNat))).toNat v2) 75 v1.toNat (w32 ((up s 74 (w32 ((w32 (42 * v1)) + (s 75 v1.toNat))).toNat v2 75 v1.toNat) + 1)))))))
def O_X12_type (v1 : Int) (v2 : Int) (s : Sto) : Prop := ((F_X12_isText v1 s = 0 → True) ∧ (¬ F_X12_isText v1 s = 0 → ((F_X12_in v2 0 255 s = 0 → True) ∧ (¬ F_X12_in v2 0 255 s = 0 → (inb v1 3 ∧ ((v1 = 0 → ((s 75 v1.toNat = 41 → True) ∧ (¬ s 75 v1.toNat = 41 → (inb v1 3 ∧ (inb (w32 ((w32 (42 * v1)) + (s 75 v1.toNat))) 126 ∧ (inb v1 3 ∧ (inb v1 3 ∧ (inb v1 3 ∧ True)))))))) ∧ (¬ v1 = 0 → ((v1 = 1 → ((s 75 v1.toNat = 39 → True) ∧ (¬ s 75 v1.toNat = 39 → (inb v1 3 ∧ (inb (w32 ((w32 (42 * v1)) + (s 75 v1.toNat))) 126 ∧ (inb v1 3 ∧ (inb v1 3 ∧ (inb v1 3 ∧ True)))))))) ∧ (¬ v1 = 1 → ((s 75 v1.toNat = 20 → True) ∧ (¬ s 75 v1.toNat = 20 → (inb v1 3 ∧ (inb (w32 ((w32 (42 * v1)) + (s 75 v1.toNat))) 126 ∧ (inb v1 3 ∧ (inb v1 3 ∧ (inb v1 3 ∧ True))))))))))))))))
set_option maxRecDepth 100000 in
theorem C_X12_type {v1 : Int} {v2 : Int} {s : Sto}  (h : O_X12_type v1 v2 s) : sr_C yX12_type cX12_type 3 (some .int) 2 [vR 69, vI v1, vI v2] s (fun r s' => r = F_X12_type v1 v2 s ∧ s' = S_X12_type v1 v2 s) := by
  refine sr_C.of (by decide +kernel) (Nat.le_of_ble_eq_true rfl) ?_
  show sr_G RX12 cX12_type 3 (some .int) 2 0 [(0, vR 69), (1, vI v1), (2, vI v2)] [] s (fun r s' => r = F_X12_type v1 v2 s ∧ s' = S_X12_type v1 v2 s)
  unfold O_X12_type at h
  refine g_iload_n (pc' := 1) dX12_type_0 rfl rfl ?_
  refine g_S1z (pc' := 4) dX12_type_1 rfl ms_RX12_104 (by decide) (Nat.le_of_ble_eq_true rfl) C_X12_isText (sr_purb (fun hb1 => ?_))
  refine g_if_eq (pc' := 7) (tgt := 19) dX12_type_4 rfl rfl (fun c2 => ?_) (fun c2 => ?_)
  · have h := h.1 c2
    refine g_bipush (pc' := 21) ⟨by unfold r32; decide, rfl⟩ dX12_type_19 rfl ?_
    exact g_iret dX12_type_21 rfl ⟨(by simp only [F_X12_type, if_pos c2]), (by simp only [S_X12_type, if_pos c2])⟩
  · have h := h.2 c2
    refine g_iload_n (pc' := 8) dX12_type_7 rfl rfl ?_
    refine g_i2l (pc' := 9) dX12_type_8 rfl ?_
    refine g_lconst (pc' := 10) (z := 0) ⟨by unfold r64; decide, rfl⟩ dX12_type_9 rfl ?_
    refine g_ldc2 (pc' := 13) (z := 255) (by unfold r64; decide) kc_RX12_107 dX12_type_10 rfl ?_
    refine g_S3z (pc' := 16) dX12_type_13 rfl ms_RX12_76 (by decide) (Nat.le_of_ble_eq_true rfl) C_X12_in (sr_purb (fun hb3 => ?_))
    refine g_if_ne (pc' := 19) (tgt := 22) dX12_type_16 rfl rfl (fun c4 => ?_) (fun c4 => ?_)
    · have h := h.2 c4
      refine g_aload_n (pc' := 23) dX12_type_22 rfl rfl ?_
      refine g_getR (pc' := 26) (r := 75) dX12_type_23 rfl fl_RX12_25 kd_69 rfl rf_69_6 ?_
      refine g_iload_n (pc' := 27) dX12_type_26 rfl rfl ?_
      obtain ⟨ob5, h⟩ := h
      refine g_iald (pc' := 28) dX12_type_27 rfl kd_75 ob5 ?_
      refine g_iload_n (pc' := 29) dX12_type_28 rfl rfl ?_
      refine g_if_ne (pc' := 32) (tgt := 37) dX12_type_29 rfl rfl (fun c6 => ?_) (fun c6 => ?_)
      · have h := h.2 c6
        refine g_iload_n (pc' := 38) dX12_type_37 rfl rfl ?_
        refine g_iconst (pc' := 39) (by unfold r32; decide) dX12_type_38 rfl ?_
        refine g_ic_ne (pc' := 42) (tgt := 47) dX12_type_39 rfl rfl (fun c13 => ?_) (fun c13 => ?_)
        · have h := h.2 c13
          refine g_bipush (pc' := 49) ⟨by unfold r32; decide, rfl⟩ dX12_type_47 rfl ?_
          refine g_ic_ne (pc' := 52) (tgt := 55) dX12_type_49 rfl rfl (fun c20 => ?_) (fun c20 => ?_)
          · have h := h.2 c20
            refine g_aload_n (pc' := 56) dX12_type_55 rfl rfl ?_
            refine g_getR (pc' := 59) (r := 74) dX12_type_56 rfl fl_RX12_22 kd_69 rfl rf_69_5 ?_
            refine g_bipush (pc' := 61) ⟨by unfold r32; decide, rfl⟩ dX12_type_59 rfl ?_
            refine g_iload_n (pc' := 62) dX12_type_61 rfl rfl ?_
            refine g_imul (pc' := 63) dX12_type_62 rfl ?_
            refine g_aload_n (pc' := 64) dX12_type_63 rfl rfl ?_
            refine g_getR (pc' := 67) (r := 75) dX12_type_64 rfl fl_RX12_25 kd_69 rfl rf_69_6 ?_
            refine g_iload_n (pc' := 68) dX12_type_67 rfl rfl ?_
            obtain ⟨ob21, h⟩ := h
            refine g_iald (pc' := 69) dX12_type_68 rfl kd_75 ob21 ?_
            refine g_iadd (pc' := 70) dX12_type_69 rfl ?_
            refine g_iload_n (pc' := 71) dX12_type_70 rfl rfl ?_
            obtain ⟨ob22, h⟩ := h
            refine g_iast (pc' := 72) dX12_type_71 rfl kd_74 ob22 ?_
            refine g_aload_n (pc' := 73) dX12_type_72 rfl rfl ?_
            refine g_getR (pc' := 76) (r := 75) dX12_type_73 rfl fl_RX12_25 kd_69 rfl rf_69_6 ?_
            refine g_iload_n (pc' := 77) dX12_type_76 rfl rfl ?_
            refine g_dup2 (pc' := 78) dX12_type_77 rfl ?_
            obtain ⟨ob23, h⟩ := h
            refine g_iald (pc' := 79) dX12_type_78 rfl kd_75 ob23 ?_
            refine g_iconst (pc' := 80) (by unfold r32; decide) dX12_type_79 rfl ?_
            refine g_iadd (pc' := 81) dX12_type_80 rfl ?_
            obtain ⟨ob24, h⟩ := h
            refine g_iast (pc' := 82) dX12_type_81 rfl kd_75 ob24 ?_
            refine g_aload_n (pc' := 83) dX12_type_82 rfl rfl ?_
            refine g_getR (pc' := 86) (r := 75) dX12_type_83 rfl fl_RX12_25 kd_69 rfl rf_69_6 ?_
            refine g_iload_n (pc' := 87) dX12_type_86 rfl rfl ?_
            obtain ⟨ob25, h⟩ := h
            refine g_iald (pc' := 88) dX12_type_87 rfl kd_75 ob25 ?_
            exact g_iret dX12_type_88 rfl ⟨(by simp only [F_X12_type, if_neg c2, if_neg c4, if_neg c6, if_neg c13, if_neg c20]), (by simp only [S_X12_type, if_neg c2, if_neg c4, if_neg c6, if_neg c13, if_neg c20])⟩
          · have h := h.1 c20
            refine g_bipush (pc' := 54) ⟨by unfold r32; decide, rfl⟩ dX12_type_52 rfl ?_
            exact g_iret dX12_type_54 rfl ⟨(by simp only [F_X12_type, if_neg c2, if_neg c4, if_neg c6, if_neg c13, if_pos c20]), (by simp only [S_X12_type, if_neg c2, if_neg c4, if_neg c6, if_neg c13, if_pos c20])⟩
        · have h := h.1 c13
          refine g_bipush (pc' := 44) ⟨by unfold r32; decide, rfl⟩ dX12_type_42 rfl ?_
          refine g_goto (pc' := 49) dX12_type_44 rfl ?_
          refine g_ic_ne (pc' := 52) (tgt := 55) dX12_type_49 rfl rfl (fun c14 => ?_) (fun c14 => ?_)
          · have h := h.2 c14
            refine g_aload_n (pc' := 56) dX12_type_55 rfl rfl ?_
            refine g_getR (pc' := 59) (r := 74) dX12_type_56 rfl fl_RX12_22 kd_69 rfl rf_69_5 ?_
            refine g_bipush (pc' := 61) ⟨by unfold r32; decide, rfl⟩ dX12_type_59 rfl ?_
            refine g_iload_n (pc' := 62) dX12_type_61 rfl rfl ?_
            refine g_imul (pc' := 63) dX12_type_62 rfl ?_
            refine g_aload_n (pc' := 64) dX12_type_63 rfl rfl ?_
            refine g_getR (pc' := 67) (r := 75) dX12_type_64 rfl fl_RX12_25 kd_69 rfl rf_69_6 ?_
            refine g_iload_n (pc' := 68) dX12_type_67 rfl rfl ?_
            obtain ⟨ob15, h⟩ := h
            refine g_iald (pc' := 69) dX12_type_68 rfl kd_75 ob15 ?_
            refine g_iadd (pc' := 70) dX12_type_69 rfl ?_
            refine g_iload_n (pc' := 71) dX12_type_70 rfl rfl ?_
            obtain ⟨ob16, h⟩ := h
            refine g_iast (pc' := 72) dX12_type_71 rfl kd_74 ob16 ?_
            refine g_aload_n (pc' := 73) dX12_type_72 rfl rfl ?_
            refine g_getR (pc' := 76) (r := 75) dX12_type_73 rfl fl_RX12_25 kd_69 rfl rf_69_6 ?_
            refine g_iload_n (pc' := 77) dX12_type_76 rfl rfl ?_
            refine g_dup2 (pc' := 78) dX12_type_77 rfl ?_
            obtain ⟨ob17, h⟩ := h
            refine g_iald (pc' := 79) dX12_type_78 rfl kd_75 ob17 ?_
            refine g_iconst (pc' := 80) (by unfold r32; decide) dX12_type_79 rfl ?_
            refine g_iadd (pc' := 81) dX12_type_80 rfl ?_
            obtain ⟨ob18, h⟩ := h
            refine g_iast (pc' := 82) dX12_type_81 rfl kd_75 ob18 ?_
            refine g_aload_n (pc' := 83) dX12_type_82 rfl rfl ?_
            refine g_getR (pc' := 86) (r := 75) dX12_type_83 rfl fl_RX12_25 kd_69 rfl rf_69_6 ?_
            refine g_iload_n (pc' := 87) dX12_type_86 rfl rfl ?_
            obtain ⟨ob19, h⟩ := h
            refine g_iald (pc' := 88) dX12_type_87 rfl kd_75 ob19 ?_
            exact g_iret dX12_type_88 rfl ⟨(by simp only [F_X12_type, if_neg c2, if_neg c4, if_neg c6, if_pos c13, if_neg c14]), (by simp only [S_X12_type, if_neg c2, if_neg c4, if_neg c6, if_pos c13, if_neg c14])⟩
          · have h := h.1 c14
            refine g_bipush (pc' := 54) ⟨by unfold r32; decide, rfl⟩ dX12_type_52 rfl ?_
            exact g_iret dX12_type_54 rfl ⟨(by simp only [F_X12_type, if_neg c2, if_neg c4, if_neg c6, if_pos c13, if_pos c14]), (by simp only [S_X12_type, if_neg c2, if_neg c4, if_neg c6, if_pos c13, if_pos c14])⟩
      · have h := h.1 c6
        refine g_bipush (pc' := 34) ⟨by unfold r32; decide, rfl⟩ dX12_type_32 rfl ?_
        refine g_goto (pc' := 49) dX12_type_34 rfl ?_
        refine g_ic_ne (pc' := 52) (tgt := 55) dX12_type_49 rfl rfl (fun c7 => ?_) (fun c7 => ?_)
        · have h := h.2 c7
          refine g_aload_n (pc' := 56) dX12_type_55 rfl rfl ?_
          refine g_getR (pc' := 59) (r := 74) dX12_type_56 rfl fl_RX12_22 kd_69 rfl rf_69_5 ?_
          refine g_bipush (pc' := 61) ⟨by unfold r32; decide, rfl⟩ dX12_type_59 rfl ?_
          refine g_iload_n (pc' := 62) dX12_type_61 rfl rfl ?_
          refine g_imul (pc' := 63) dX12_type_62 rfl ?_
          refine g_aload_n (pc' := 64) dX12_type_63 rfl rfl ?_
          refine g_getR (pc' := 67) (r := 75) dX12_type_64 rfl fl_RX12_25 kd_69 rfl rf_69_6 ?_
          refine g_iload_n (pc' := 68) dX12_type_67 rfl rfl ?_
          obtain ⟨ob8, h⟩ := h
          refine g_iald (pc' := 69) dX12_type_68 rfl kd_75 ob8 ?_
          refine g_iadd (pc' := 70) dX12_type_69 rfl ?_
          refine g_iload_n (pc' := 71) dX12_type_70 rfl rfl ?_
          obtain ⟨ob9, h⟩ := h
          refine g_iast (pc' := 72) dX12_type_71 rfl kd_74 ob9 ?_
          refine g_aload_n (pc' := 73) dX12_type_72 rfl rfl ?_
          refine g_getR (pc' := 76) (r := 75) dX12_type_73 rfl fl_RX12_25 kd_69 rfl rf_69_6 ?_
          refine g_iload_n (pc' := 77) dX12_type_76 rfl rfl ?_
          refine g_dup2 (pc' := 78) dX12_type_77 rfl ?_
          obtain ⟨ob10, h⟩ := h
          refine g_iald (pc' := 79) dX12_type_78 rfl kd_75 ob10 ?_
          refine g_iconst (pc' := 80) (by unfold r32; decide) dX12_type_79 rfl ?_
          refine g_iadd (pc' := 81) dX12_type_80 rfl ?_
          obtain ⟨ob11, h⟩ := h
          refine g_iast (pc' := 82) dX12_type_81 rfl kd_75 ob11 ?_
          refine g_aload_n (pc' := 83) dX12_type_82 rfl rfl ?_
          refine g_getR (pc' := 86) (r := 75) dX12_type_83 rfl fl_RX12_25 kd_69 rfl rf_69_6 ?_
          refine g_iload_n (pc' := 87) dX12_type_86 rfl rfl ?_
          obtain ⟨ob12, h⟩ := h
          refine g_iald (pc' := 88) dX12_type_87 rfl kd_75 ob12 ?_
          exact g_iret dX12_type_88 rfl ⟨(by simp only [F_X12_type, if_neg c2, if_neg c4, if_pos c6, if_neg c7]), (by simp only [S_X12_type, if_neg c2, if_neg c4, if_pos c6, if_neg c7])⟩
        · have h := h.1 c7
          refine g_bipush (pc' := 54) ⟨by unfold r32; decide, rfl⟩ dX12_type_52 rfl ?_
          exact g_iret dX12_type_54 rfl ⟨(by simp only [F_X12_type, if_neg c2, if_neg c4, if_pos c6, if_pos c7]), (by simp only [S_X12_type, if_neg c2, if_neg c4, if_pos c6, if_pos c7])⟩
    · have h := h.1 c4
      refine g_bipush (pc' := 21) ⟨by unfold r32; decide, rfl⟩ dX12_type_19 rfl ?_
      exact g_iret dX12_type_21 rfl ⟨(by simp only [F_X12_type, if_neg c2, if_pos c4]), (by simp only [S_X12_type, if_neg c2, if_pos c4])⟩
def F_X12_wipe (v1 : Int) (s : Sto) : Int := (if F_X12_isText v1 s = 0 then (-2) else s 75 v1.toNat)
def S_X12_wipe (v1 : Int) (s : Sto) : Sto := (if F_X12_isText v1 s = 0 then s else up s 75 v1.toNat 0)
def O_X12_wipe (v1 : Int) (s : Sto) : Prop := ((F_X12_isText v1 s = 0 → True) ∧ (¬ F_X12_isText v1 s = 0 → (inb v1 3 ∧ (inb v1 3 ∧ True))))
set_option maxRecDepth 100000 in
theorem C_X12_wipe {v1 : Int} {s : Sto}  (h : O_X12_wipe v1 s) : sr_C yX12_wipe cX12_wipe 3 (some .int) 2 [vR 69, vI v1] s (fun r s' => r = F_X12_wipe v1 s ∧ s' = S_X12_wipe v1 s) := by
  refine sr_C.of (by decide +kernel) (Nat.le_of_ble_eq_true rfl) ?_
  show sr_G RX12 cX12_wipe 3 (some .int) 2 0 [(0, vR 69), (1, vI v1)] [] s (fun r s' => r = F_X12_wipe v1 s ∧ s' = S_X12_wipe v1 s)
  unfold O_X12_wipe at h
  refine g_iload_n (pc' := 1) dX12_wipe_0 rfl rfl ?_
  refine g_S1z (pc' := 4) dX12_wipe_1 rfl ms_RX12_104 (by decide) (Nat.le_of_ble_eq_true rfl) C_X12_isText (sr_purb (fun hb1 => ?_))
  refine g_if_ne (pc' := 7) (tgt := 10) dX12_wipe_4 rfl rfl (fun c2 => ?_) (fun c2 => ?_)
  · have h := h.2 c2
    refine g_aload_n (pc' := 11) dX12_wipe_10 rfl rfl ?_
    refine g_getR (pc' := 14) (r := 75) dX12_wipe_11 rfl fl_RX12_25 kd_69 rfl rf_69_6 ?_
    refine g_iload_n (pc' := 15) dX12_wipe_14 rfl rfl ?_
    obtain ⟨ob3, h⟩ := h
    refine g_iald (pc' := 16) dX12_wipe_15 rfl kd_75 ob3 ?_
    refine g_istore_n (pc' := 17) dX12_wipe_16 rfl (by decide) ?_
    refine g_aload_n (pc' := 18) dX12_wipe_17 rfl rfl ?_
    refine g_getR (pc' := 21) (r := 75) dX12_wipe_18 rfl fl_RX12_25 kd_69 rfl rf_69_6 ?_
    refine g_iload_n (pc' := 22) dX12_wipe_21 rfl rfl ?_
    refine g_iconst (pc' := 23) (by unfold r32; decide) dX12_wipe_22 rfl ?_
    obtain ⟨ob4, h⟩ := h
    refine g_iast (pc' := 24) dX12_wipe_23 rfl kd_75 ob4 ?_
    refine g_iload_n (pc' := 25) dX12_wipe_24 rfl rfl ?_
    exact g_iret dX12_wipe_25 rfl ⟨(by simp only [F_X12_wipe, if_neg c2]), (by simp only [S_X12_wipe, if_neg c2])⟩
  · have h := h.1 c2
    refine g_bipush (pc' := 9) ⟨by unfold r32; decide, rfl⟩ dX12_wipe_7 rfl ?_
    exact g_iret dX12_wipe_9 rfl ⟨(by simp only [F_X12_wipe, if_pos c2]), (by simp only [S_X12_wipe, if_pos c2])⟩
def F_X12_undo (v1 : Int) (s : Sto) : Int := (if F_X12_isText v1 s = 0 then (-2) else (if s 75 v1.toNat = 0 then (-3) else up s 75 v1.toNat (w32 ((s 75 v1.toNat) - 1)) 75 v1.toNat))
def S_X12_undo (v1 : Int) (s : Sto) : Sto := (if F_X12_isText v1 s = 0 then s else (if s 75 v1.toNat = 0 then s else up s 75 v1.toNat (w32 ((s 75 v1.toNat) - 1))))
def O_X12_undo (v1 : Int) (s : Sto) : Prop := ((F_X12_isText v1 s = 0 → True) ∧ (¬ F_X12_isText v1 s = 0 → (inb v1 3 ∧ ((s 75 v1.toNat = 0 → True) ∧ (¬ s 75 v1.toNat = 0 → (inb v1 3 ∧ (inb v1 3 ∧ (inb v1 3 ∧ True))))))))
set_option maxRecDepth 100000 in
theorem C_X12_undo {v1 : Int} {s : Sto}  (h : O_X12_undo v1 s) : sr_C yX12_undo cX12_undo 2 (some .int) 2 [vR 69, vI v1] s (fun r s' => r = F_X12_undo v1 s ∧ s' = S_X12_undo v1 s) := by
  refine sr_C.of (by decide +kernel) (Nat.le_of_ble_eq_true rfl) ?_
  show sr_G RX12 cX12_undo 2 (some .int) 2 0 [(0, vR 69), (1, vI v1)] [] s (fun r s' => r = F_X12_undo v1 s ∧ s' = S_X12_undo v1 s)
  unfold O_X12_undo at h
  refine g_iload_n (pc' := 1) dX12_undo_0 rfl rfl ?_
  refine g_S1z (pc' := 4) dX12_undo_1 rfl ms_RX12_104 (by decide) (Nat.le_of_ble_eq_true rfl) C_X12_isText (sr_purb (fun hb1 => ?_))
  refine g_if_ne (pc' := 7) (tgt := 10) dX12_undo_4 rfl rfl (fun c2 => ?_) (fun c2 => ?_)
  · have h := h.2 c2
    refine g_aload_n (pc' := 11) dX12_undo_10 rfl rfl ?_
    refine g_getR (pc' := 14) (r := 75) dX12_undo_11 rfl fl_RX12_25 kd_69 rfl rf_69_6 ?_
    refine g_iload_n (pc' := 15) dX12_undo_14 rfl rfl ?_
    obtain ⟨ob3, h⟩ := h
    refine g_iald (pc' := 16) dX12_undo_15 rfl kd_75 ob3 ?_
    refine g_if_ne (pc' := 19) (tgt := 22) dX12_undo_16 rfl rfl (fun c4 => ?_) (fun c4 => ?_)
    · have h := h.2 c4
      refine g_aload_n (pc' := 23) dX12_undo_22 rfl rfl ?_
      refine g_getR (pc' := 26) (r := 75) dX12_undo_23 rfl fl_RX12_25 kd_69 rfl rf_69_6 ?_
      refine g_iload_n (pc' := 27) dX12_undo_26 rfl rfl ?_
      refine g_dup2 (pc' := 28) dX12_undo_27 rfl ?_
      obtain ⟨ob5, h⟩ := h
      refine g_iald (pc' := 29) dX12_undo_28 rfl kd_75 ob5 ?_
      refine g_iconst (pc' := 30) (by unfold r32; decide) dX12_undo_29 rfl ?_
      refine g_isub (pc' := 31) dX12_undo_30 rfl ?_
      obtain ⟨ob6, h⟩ := h
      refine g_iast (pc' := 32) dX12_undo_31 rfl kd_75 ob6 ?_
      refine g_aload_n (pc' := 33) dX12_undo_32 rfl rfl ?_
      refine g_getR (pc' := 36) (r := 75) dX12_undo_33 rfl fl_RX12_25 kd_69 rfl rf_69_6 ?_
      refine g_iload_n (pc' := 37) dX12_undo_36 rfl rfl ?_
      obtain ⟨ob7, h⟩ := h
      refine g_iald (pc' := 38) dX12_undo_37 rfl kd_75 ob7 ?_
      exact g_iret dX12_undo_38 rfl ⟨(by simp only [F_X12_undo, if_neg c2, if_neg c4]), (by simp only [S_X12_undo, if_neg c2, if_neg c4])⟩
    · have h := h.1 c4
      refine g_bipush (pc' := 21) ⟨by unfold r32; decide, rfl⟩ dX12_undo_19 rfl ?_
      exact g_iret dX12_undo_21 rfl ⟨(by simp only [F_X12_undo, if_neg c2, if_pos c4]), (by simp only [S_X12_undo, if_neg c2, if_pos c4])⟩
  · have h := h.1 c2
    refine g_bipush (pc' := 9) ⟨by unfold r32; decide, rfl⟩ dX12_undo_7 rfl ?_
    exact g_iret dX12_undo_9 rfl ⟨(by simp only [F_X12_undo, if_pos c2]), (by simp only [S_X12_undo, if_pos c2])⟩
def F_X12_torn (v1 : Int) (s : Sto) : Int := v1
def S_X12_torn (v1 : Int) (s : Sto) : Sto := up (up s 69 7 0) 69 8 0
set_option maxRecDepth 100000 in
theorem C_X12_torn {v1 : Int} {s : Sto}   : sr_C yX12_torn cX12_torn 2 (some .int) 0 [vR 69, vI v1] s (fun r s' => r = F_X12_torn v1 s ∧ s' = S_X12_torn v1 s) := by
  refine sr_C.of (by decide +kernel) (Nat.le_of_ble_eq_true rfl) ?_
  show sr_G RX12 cX12_torn 2 (some .int) 0 0 [(0, vR 69), (1, vI v1)] [] s (fun r s' => r = F_X12_torn v1 s ∧ s' = S_X12_torn v1 s)
  refine g_aload_n (pc' := 1) dX12_torn_0 rfl rfl ?_
  refine g_iconst (pc' := 2) (by unfold r32; decide) dX12_torn_1 rfl ?_
  refine g_putI (pc' := 5) dX12_torn_2 rfl fp_RX12_109 kd_69 rfl ?_
  refine g_aload_n (pc' := 6) dX12_torn_5 rfl rfl ?_
  refine g_iconst (pc' := 7) (by unfold r32; decide) dX12_torn_6 rfl ?_
  refine g_putI (pc' := 10) dX12_torn_7 rfl fp_RX12_112 kd_69 rfl ?_
  refine g_iload_n (pc' := 11) dX12_torn_10 rfl rfl ?_
  exact g_iret dX12_torn_11 rfl ⟨rfl, rfl⟩
