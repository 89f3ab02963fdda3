def L_X5_safeCell_13 (v1 : Int) (K53 : Int → Sto → Prop) (K61 : Sto → Prop) : Nat → Int → Sto → Prop
  | 0, _, _ => False
  | n + 1, v2, s => ((s 3 0 ≤ v2 → K61 s) ∧ (¬ s 3 0 ≤ v2 → (inb v1 8 ∧ (∀ s3 : Sto, s3 = up s 50 v1.toNat v2 → (O_X10_isOpen v2 s3 ∧ ((F_X10_isOpen v2 s3 = 0 → L_X5_safeCell_13 v1 K53 K61 n (w32 (v2 + 1)) s3) ∧ (¬ F_X10_isOpen v2 s3 = 0 → (P_X5_binds v1 s3 (fun r8 s7 => ((r8 = 0 → K53 v2 s7) ∧ (¬ r8 = 0 → L_X5_safeCell_13 v1 K53 K61 n (w32 (v2 + 1)) s7)))))))))))
set_option maxRecDepth 100000 in
theorem SL_X5_safeCell_13 {v1 : Int} {K53 : Int → Sto → Prop} {K61 : Sto → Prop} {Q : Int → Sto → Prop}  (hK53 : ∀ v2 s, K53 v2 s → sr_G RX5 cX5_safeCell 3 (some .int) 5 53 [(2, vI v2)] [] s Q) (hK61 : ∀ s, K61 s → sr_G RX5 cX5_safeCell 3 (some .int) 5 61 [] [] s Q) : ∀ n v2 s, L_X5_safeCell_13 v1 K53 K61 n v2 s → sr_G RX5 cX5_safeCell 3 (some .int) 5 13 [(0, vR 62), (1, vI v1), (2, vI v2)] [] s Q := by
  intro n
  induction n with
  | zero => intro v2 s h; exact h.elim
  | succ n ih =>
    intro v2 s h
    unfold L_X5_safeCell_13 at h
    refine g_iload_n (pc' := 14) dX5_safeCell_13 rfl rfl ?_
    refine g_aload_n (pc' := 15) dX5_safeCell_14 rfl rfl ?_
    refine g_getR (pc' := 18) (r := 3) dX5_safeCell_15 rfl fl_RX5_34 kd_62 rfl rf_62_0 ?_
    refine g_getI (pc' := 21) dX5_safeCell_18 rfl fl_RX5_76 kd_3 (Or.inl rfl) ?_
    refine g_ic_ge (pc' := 24) (tgt := 61) dX5_safeCell_21 rfl rfl (fun c1 => ?_) (fun c1 => ?_)
    · have h := h.1 c1
      exact (hK61 _ h).to (sb_n)
    · have h := h.2 c1
      refine g_aload_n (pc' := 25) dX5_safeCell_24 rfl rfl ?_
      refine g_getR (pc' := 28) (r := 44) dX5_safeCell_25 rfl fl_RX5_42 kd_62 rfl rf_62_2 ?_
      refine g_getR (pc' := 31) (r := 50) dX5_safeCell_28 rfl fl_RX5_81 kd_44 rfl rf_44_7 ?_
      refine g_iload_n (pc' := 32) dX5_safeCell_31 rfl rfl ?_
      refine g_iload_n (pc' := 33) dX5_safeCell_32 rfl rfl ?_
      obtain ⟨ob2, h⟩ := h
      refine g_iast (pc' := 34) dX5_safeCell_33 rfl kd_50 ob2 ?_
      refine g_sto (fun s3 es3 => ?_)
      have h := h s3 es3
      refine g_aload_n (pc' := 35) dX5_safeCell_34 rfl rfl ?_
      refine g_getR (pc' := 38) (r := 3) dX5_safeCell_35 rfl fl_RX5_34 kd_62 rfl rf_62_0 ?_
      refine g_iload_n (pc' := 39) dX5_safeCell_38 rfl rfl ?_
      obtain ⟨ob4, h⟩ := h
      refine g_V1z (pc' := 42) dX5_safeCell_39 rfl mv_RX5_84 kd_3 (by decide) (Nat.le_of_ble_eq_true rfl) (C_X10_isOpen ob4) (sr_purb (fun hb5 => ?_))
      refine g_if_eq (pc' := 45) (tgt := 55) dX5_safeCell_42 rfl rfl (fun c6 => ?_) (fun c6 => ?_)
      · have h := h.1 c6
        refine g_iinc (pc' := 58) dX5_safeCell_55 rfl rfl (by decide) ?_
        refine g_goto (pc' := 13) dX5_safeCell_58 rfl ?_
        exact (ih _ _ h).to ((sb_c rfl (sb_c rfl (sb_c rfl sb_n))))
      · have h := h.2 c6
        refine g_aload_n (pc' := 46) dX5_safeCell_45 rfl rfl ?_
        refine g_iload_n (pc' := 47) dX5_safeCell_46 rfl rfl ?_
        refine g_V1z (pc' := 50) dX5_safeCell_47 rfl mv_RX5_88 kd_62 (by decide) (Nat.le_of_ble_eq_true rfl) (C_X5_binds h) (fun r8 s7 h => ?_)
        refine g_if_ne (pc' := 53) (tgt := 55) dX5_safeCell_50 rfl rfl (fun c9 => ?_) (fun c9 => ?_)
        · have h := h.2 c9
          refine g_iinc (pc' := 58) dX5_safeCell_55 rfl rfl (by decide) ?_
          refine g_goto (pc' := 13) dX5_safeCell_58 rfl ?_
          exact (ih _ _ h).to ((sb_c rfl (sb_c rfl (sb_c rfl sb_n))))
        · have h := h.1 c9
          exact (hK53 _ _ h).to ((sb_c rfl sb_n))
def P_X5_safeCell (v1 : Int) (s : Sto) (Q : Int → Sto → Prop) : Prop := (P_X4_becomes 44 6 s (fun _ s1 => (∃ n6, L_X5_safeCell_13 v1 (fun x3 s4 => Q x3 s4) (fun s5 => Q ((-1)) s5) n6 0 s1)))
set_option maxRecDepth 100000 in
theorem C_X5_safeCell {v1 : Int} {s : Sto} {Q : Int → Sto → Prop}  (h : P_X5_safeCell v1 s Q) : sr_C yX5_safeCell cX5_safeCell 3 (some .int) 5 [vR 62, vI v1] s Q := by
  refine sr_C.of (by decide +kernel) (Nat.le_of_ble_eq_true rfl) ?_
  show sr_G RX5 cX5_safeCell 3 (some .int) 5 0 [(0, vR 62), (1, vI v1)] [] s Q
  unfold P_X5_safeCell at h
  refine g_aload_n (pc' := 1) dX5_safeCell_0 rfl rfl ?_
  refine g_getR (pc' := 4) (r := 44) dX5_safeCell_1 rfl fl_RX5_42 kd_62 rfl rf_62_2 ?_
  refine g_aload_n (pc' := 5) dX5_safeCell_4 rfl rfl ?_
  refine g_getR (pc' := 8) (r := 6) dX5_safeCell_5 rfl fl_RX5_38 kd_62 rfl rf_62_1 ?_
  refine g_V1v (pc' := 11) dX5_safeCell_8 rfl mv_RX5_49 kd_44 (by decide) (Nat.le_of_ble_eq_true rfl) (C_X4_becomes kd_44 kd_6 h) (fun s1 h => ?_)
  refine g_iconst (pc' := 12) (by unfold r32; decide) dX5_safeCell_11 rfl ?_
  refine g_istore_n (pc' := 13) dX5_safeCell_12 rfl (by decide) ?_
  obtain ⟨n6, h⟩ := h
  refine (SL_X5_safeCell_13  (fun x3 s4 h => ?_) (fun s5 h => ?_) n6 _ _ h).to ((sb_c rfl (sb_c rfl (sb_c rfl sb_n))))
  · refine g_iload_n (pc' := 54) dX5_safeCell_53 rfl rfl ?_
    exact g_iret dX5_safeCell_54 rfl h
  · refine g_iconst (pc' := 62) (by unfold r32; decide) dX5_safeCell_61 rfl ?_
    exact g_iret dX5_safeCell_62 rfl h
def L_X5_seekHush_32 (v1 : Int) (K62 : Int → Sto → Prop) (K97 : Sto → Prop) : Nat → Int → Sto → Prop
  | 0, _, _ => False
  | n + 1, v2, s => ((s 44 0 ≤ v2 → K97 s) ∧ (¬ s 44 0 ≤ v2 → (inb v2 8 ∧ (∀ s3 : Sto, s3 = up s 45 v2.toNat 20 → (P_X5_binds v1 s3 (fun r5 s4 => ((r5 = 0 → K62 v2 s4) ∧ (¬ r5 = 0 → (inb v2 8 ∧ (inb v2 8 ∧ (∀ s9 : Sto, s9 = up s4 45 v2.toNat (s4 7 v2.toNat) → L_X5_seekHush_32 v1 K62 K97 n (w32 (v2 + 1)) s9)))))))))))
set_option maxRecDepth 100000 in
theorem SL_X5_seekHush_32 {v1 : Int} {K62 : Int → Sto → Prop} {K97 : Sto → Prop} {Q : Int → Sto → Prop}  (hK62 : ∀ v2 s, K62 v2 s → sr_G RX5 cX5_seekHush 4 none 5 62 [(0, vR 62), (2, vI v2)] [] s Q) (hK97 : ∀ s, K97 s → sr_G RX5 cX5_seekHush 4 none 5 97 [(0, vR 62), (1, vI v1)] [] s Q) : ∀ n v2 s, L_X5_seekHush_32 v1 K62 K97 n v2 s → sr_G RX5 cX5_seekHush 4 none 5 32 [(0, vR 62), (1, vI v1), (2, vI v2)] [] s Q := by
  intro n
  induction n with
  | zero => intro v2 s h; exact h.elim
  | succ n ih =>
    intro v2 s h
    unfold L_X5_seekHush_32 at h
    refine g_iload_n (pc' := 33) dX5_seekHush_32 rfl rfl ?_
    refine g_aload_n (pc' := 34) dX5_seekHush_33 rfl rfl ?_
    refine g_getR (pc' := 37) (r := 44) dX5_seekHush_34 rfl fl_RX5_42 kd_62 rfl rf_62_2 ?_
    refine g_getI (pc' := 40) dX5_seekHush_37 rfl fl_RX5_95 kd_44 (Or.inl rfl) ?_
    refine g_ic_ge (pc' := 43) (tgt := 97) dX5_seekHush_40 rfl rfl (fun c1 => ?_) (fun c1 => ?_)
    · have h := h.1 c1
      exact (hK97 _ h).to ((sb_c rfl (sb_c rfl sb_n)))
    · have h := h.2 c1
      refine g_aload_n (pc' := 44) dX5_seekHush_43 rfl rfl ?_
      refine g_getR (pc' := 47) (r := 44) dX5_seekHush_44 rfl fl_RX5_42 kd_62 rfl rf_62_2 ?_
      refine g_getR (pc' := 50) (r := 45) dX5_seekHush_47 rfl fl_RX5_98 kd_44 rfl rf_44_1 ?_
      refine g_iload_n (pc' := 51) dX5_seekHush_50 rfl rfl ?_
      refine g_bipush (pc' := 53) ⟨by unfold r32; decide, rfl⟩ dX5_seekHush_51 rfl ?_
      obtain ⟨ob2, h⟩ := h
      refine g_iast (pc' := 54) dX5_seekHush_53 rfl kd_45 ob2 ?_
      refine g_sto (fun s3 es3 => ?_)
      have h := h s3 es3
      refine g_aload_n (pc' := 55) dX5_seekHush_54 rfl rfl ?_
      refine g_iload_n (pc' := 56) dX5_seekHush_55 rfl rfl ?_
      refine g_V1z (pc' := 59) dX5_seekHush_56 rfl mv_RX5_88 kd_62 (by decide) (Nat.le_of_ble_eq_true rfl) (C_X5_binds h) (fun r5 s4 h => ?_)
      refine g_if_ne (pc' := 62) (tgt := 73) dX5_seekHush_59 rfl rfl (fun c6 => ?_) (fun c6 => ?_)
      · have h := h.2 c6
        refine g_aload_n (pc' := 74) dX5_seekHush_73 rfl rfl ?_
        refine g_getR (pc' := 77) (r := 44) dX5_seekHush_74 rfl fl_RX5_42 kd_62 rfl rf_62_2 ?_
        refine g_getR (pc' := 80) (r := 45) dX5_seekHush_77 rfl fl_RX5_98 kd_44 rfl rf_44_1 ?_
        refine g_iload_n (pc' := 81) dX5_seekHush_80 rfl rfl ?_
        refine g_aload_n (pc' := 82) dX5_seekHush_81 rfl rfl ?_
        refine g_getR (pc' := 85) (r := 6) dX5_seekHush_82 rfl fl_RX5_38 kd_62 rfl rf_62_1 ?_
        refine g_getR (pc' := 88) (r := 7) dX5_seekHush_85 rfl fl_RX5_98 kd_6 rfl rf_6_1 ?_
        refine g_iload_n (pc' := 89) dX5_seekHush_88 rfl rfl ?_
        obtain ⟨ob7, h⟩ := h
        refine g_iald (pc' := 90) dX5_seekHush_89 rfl kd_7 ob7 ?_
        obtain ⟨ob8, h⟩ := h
        refine g_iast (pc' := 91) dX5_seekHush_90 rfl kd_45 ob8 ?_
        refine g_sto (fun s9 es9 => ?_)
        have h := h s9 es9
        refine g_iinc (pc' := 94) dX5_seekHush_91 rfl rfl (by decide) ?_
        refine g_goto (pc' := 32) dX5_seekHush_94 rfl ?_
        exact (ih _ _ h).to ((sb_c rfl (sb_c rfl (sb_c rfl sb_n))))
      · have h := h.1 c6
        exact (hK62 _ _ h).to ((sb_c rfl (sb_c rfl sb_n)))
def L_X5_seekHush_125 (v1 : Int) (v2 : Int) (K155 : Int → Sto → Prop) (K190 : Sto → Prop) : Nat → Int → Sto → Prop
  | 0, _, _ => False
  | n + 1, v3, s => ((s 44 0 ≤ v3 → K190 s) ∧ (¬ s 44 0 ≤ v3 → (inb v3 8 ∧ (∀ s3 : Sto, s3 = up s 45 v3.toNat 20 → (P_X5_binds v1 s3 (fun r5 s4 => ((r5 = 0 → K155 v3 s4) ∧ (¬ r5 = 0 → (inb v3 8 ∧ (inb v3 8 ∧ (∀ s9 : Sto, s9 = up s4 45 v3.toNat (s4 7 v3.toNat) → L_X5_seekHush_125 v1 v2 K155 K190 n (w32 (v3 + 1)) s9)))))))))))
set_option maxRecDepth 100000 in
theorem SL_X5_seekHush_125 {v1 : Int} {v2 : Int} {K155 : Int → Sto → Prop} {K190 : Sto → Prop} {Q : Int → Sto → Prop}  (hK155 : ∀ v3 s, K155 v3 s → sr_G RX5 cX5_seekHush 4 none 5 155 [(0, vR 62), (2, vI v2), (3, vI v3)] [] s Q) (hK190 : ∀ s, K190 s → sr_G RX5 cX5_seekHush 4 none 5 190 [(0, vR 62), (1, vI v1), (2, vI v2)] [] s Q) : ∀ n v3 s, L_X5_seekHush_125 v1 v2 K155 K190 n v3 s → sr_G RX5 cX5_seekHush 4 none 5 125 [(0, vR 62), (1, vI v1), (2, vI v2), (3, vI v3)] [] s Q := by
  intro n
  induction n with
  | zero => intro v3 s h; exact h.elim
  | succ n ih =>
    intro v3 s h
    unfold L_X5_seekHush_125 at h
    refine g_iload_n (pc' := 126) dX5_seekHush_125 rfl rfl ?_
    refine g_aload_n (pc' := 127) dX5_seekHush_126 rfl rfl ?_
    refine g_getR (pc' := 130) (r := 44) dX5_seekHush_127 rfl fl_RX5_42 kd_62 rfl rf_62_2 ?_
    refine g_getI (pc' := 133) dX5_seekHush_130 rfl fl_RX5_95 kd_44 (Or.inl rfl) ?_
    refine g_ic_ge (pc' := 136) (tgt := 190) dX5_seekHush_133 rfl rfl (fun c1 => ?_) (fun c1 => ?_)
    · have h := h.1 c1
      exact (hK190 _ h).to ((sb_c rfl (sb_c rfl (sb_c rfl sb_n))))
    · have h := h.2 c1
      refine g_aload_n (pc' := 137) dX5_seekHush_136 rfl rfl ?_
      refine g_getR (pc' := 140) (r := 44) dX5_seekHush_137 rfl fl_RX5_42 kd_62 rfl rf_62_2 ?_
      refine g_getR (pc' := 143) (r := 45) dX5_seekHush_140 rfl fl_RX5_98 kd_44 rfl rf_44_1 ?_
      refine g_iload_n (pc' := 144) dX5_seekHush_143 rfl rfl ?_
      refine g_bipush (pc' := 146) ⟨by unfold r32; decide, rfl⟩ dX5_seekHush_144 rfl ?_
      obtain ⟨ob2, h⟩ := h
      refine g_iast (pc' := 147) dX5_seekHush_146 rfl kd_45 ob2 ?_
      refine g_sto (fun s3 es3 => ?_)
      have h := h s3 es3
      refine g_aload_n (pc' := 148) dX5_seekHush_147 rfl rfl ?_
      refine g_iload_n (pc' := 149) dX5_seekHush_148 rfl rfl ?_
      refine g_V1z (pc' := 152) dX5_seekHush_149 rfl mv_RX5_88 kd_62 (by decide) (Nat.le_of_ble_eq_true rfl) (C_X5_binds h) (fun r5 s4 h => ?_)
      refine g_if_ne (pc' := 155) (tgt := 166) dX5_seekHush_152 rfl rfl (fun c6 => ?_) (fun c6 => ?_)
      · have h := h.2 c6
        refine g_aload_n (pc' := 167) dX5_seekHush_166 rfl rfl ?_
        refine g_getR (pc' := 170) (r := 44) dX5_seekHush_167 rfl fl_RX5_42 kd_62 rfl rf_62_2 ?_
        refine g_getR (pc' := 173) (r := 45) dX5_seekHush_170 rfl fl_RX5_98 kd_44 rfl rf_44_1 ?_
        refine g_iload_n (pc' := 174) dX5_seekHush_173 rfl rfl ?_
        refine g_aload_n (pc' := 175) dX5_seekHush_174 rfl rfl ?_
        refine g_getR (pc' := 178) (r := 6) dX5_seekHush_175 rfl fl_RX5_38 kd_62 rfl rf_62_1 ?_
        refine g_getR (pc' := 181) (r := 7) dX5_seekHush_178 rfl fl_RX5_98 kd_6 rfl rf_6_1 ?_
        refine g_iload_n (pc' := 182) dX5_seekHush_181 rfl rfl ?_
        obtain ⟨ob7, h⟩ := h
        refine g_iald (pc' := 183) dX5_seekHush_182 rfl kd_7 ob7 ?_
        obtain ⟨ob8, h⟩ := h
        refine g_iast (pc' := 184) dX5_seekHush_183 rfl kd_45 ob8 ?_
        refine g_sto (fun s9 es9 => ?_)
        have h := h s9 es9
        refine g_iinc (pc' := 187) dX5_seekHush_184 rfl rfl (by decide) ?_
        refine g_goto (pc' := 125) dX5_seekHush_187 rfl ?_
        exact (ih _ _ h).to ((sb_c rfl (sb_c rfl (sb_c rfl (sb_c rfl sb_n)))))
      · have h := h.1 c6
        exact (hK155 _ _ h).to ((sb_c rfl (sb_c rfl (sb_c rfl sb_n))))
def L_X5_seekHush_99 (v1 : Int) (K155 : Int → Int → Sto → Prop) (K214 : Sto → Prop) : Nat → Int → Sto → Prop
  | 0, _, _ => False
  | n + 1, v2, s => ((s 44 0 ≤ v2 → K214 s) ∧ (¬ s 44 0 ≤ v2 → (inb v2 8 ∧ (∀ s3 : Sto, s3 = up s 45 v2.toNat 20 → (∀ x4 : Int, x4 = w32 (v2 + 1) → (∃ n11, L_X5_seekHush_125 v1 v2 (fun x5 s6 => K155 v2 x5 s6) (fun s7 => (inb v2 8 ∧ (inb v2 8 ∧ (∀ s10 : Sto, s10 = up s7 45 v2.toNat (s7 7 v2.toNat) → L_X5_seekHush_99 v1 K155 K214 n (w32 (v2 + 1)) s10)))) n11 x4 s3))))))
set_option maxRecDepth 100000 in
theorem SL_X5_seekHush_99 {v1 : Int} {K155 : Int → Int → Sto → Prop} {K214 : Sto → Prop} {Q : Int → Sto → Prop}  (hK155 : ∀ v2 v3 s, K155 v2 v3 s → sr_G RX5 cX5_seekHush 4 none 5 155 [(0, vR 62), (2, vI v2), (3, vI v3)] [] s Q) (hK214 : ∀ s, K214 s → sr_G RX5 cX5_seekHush 4 none 5 214 [(0, vR 62)] [] s Q) : ∀ n v2 s, L_X5_seekHush_99 v1 K155 K214 n v2 s → sr_G RX5 cX5_seekHush 4 none 5 99 [(0, vR 62), (1, vI v1), (2, vI v2)] [] s Q := by
  intro n
  induction n with
  | zero => intro v2 s h; exact h.elim
  | succ n ih =>
    intro v2 s h
    unfold L_X5_seekHush_99 at h
    refine g_iload_n (pc' := 100) dX5_seekHush_99 rfl rfl ?_
    refine g_aload_n (pc' := 101) dX5_seekHush_100 rfl rfl ?_
    refine g_getR (pc' := 104) (r := 44) dX5_seekHush_101 rfl fl_RX5_42 kd_62 rfl rf_62_2 ?_
    refine g_getI (pc' := 107) dX5_seekHush_104 rfl fl_RX5_95 kd_44 (Or.inl rfl) ?_
    refine g_ic_ge (pc' := 110) (tgt := 214) dX5_seekHush_107 rfl rfl (fun c1 => ?_) (fun c1 => ?_)
    · have h := h.1 c1
      exact (hK214 _ h).to ((sb_c rfl sb_n))
    · have h := h.2 c1
      refine g_aload_n (pc' := 111) dX5_seekHush_110 rfl rfl ?_
      refine g_getR (pc' := 114) (r := 44) dX5_seekHush_111 rfl fl_RX5_42 kd_62 rfl rf_62_2 ?_
      refine g_getR (pc' := 117) (r := 45) dX5_seekHush_114 rfl fl_RX5_98 kd_44 rfl rf_44_1 ?_
      refine g_iload_n (pc' := 118) dX5_seekHush_117 rfl rfl ?_
      refine g_bipush (pc' := 120) ⟨by unfold r32; decide, rfl⟩ dX5_seekHush_118 rfl ?_
      obtain ⟨ob2, h⟩ := h
      refine g_iast (pc' := 121) dX5_seekHush_120 rfl kd_45 ob2 ?_
      refine g_sto (fun s3 es3 => ?_)
      have h := h s3 es3
      refine g_iload_n (pc' := 122) dX5_seekHush_121 rfl rfl ?_
      refine g_iconst (pc' := 123) (by unfold r32; decide) dX5_seekHush_122 rfl ?_
      refine g_iadd (pc' := 124) dX5_seekHush_123 rfl ?_
      refine g_topI (fun x4 ex4 => ?_)
      have h := h x4 ex4
      refine g_istore_n (pc' := 125) dX5_seekHush_124 rfl (by decide) ?_
      obtain ⟨n11, h⟩ := h
      refine (SL_X5_seekHush_125  (fun x5 s6 h => ?_) (fun s7 h => ?_) n11 _ _ h).to ((sb_c rfl (sb_c rfl (sb_c rfl (sb_c rfl sb_n)))))
      · exact (hK155 _ _ _ h).to ((sb_c rfl (sb_c rfl (sb_c rfl sb_n))))
      · refine g_aload_n (pc' := 191) dX5_seekHush_190 rfl rfl ?_
        refine g_getR (pc' := 194) (r := 44) dX5_seekHush_191 rfl fl_RX5_42 kd_62 rfl rf_62_2 ?_
        refine g_getR (pc' := 197) (r := 45) dX5_seekHush_194 rfl fl_RX5_98 kd_44 rfl rf_44_1 ?_
        refine g_iload_n (pc' := 198) dX5_seekHush_197 rfl rfl ?_
        refine g_aload_n (pc' := 199) dX5_seekHush_198 rfl rfl ?_
        refine g_getR (pc' := 202) (r := 6) dX5_seekHush_199 rfl fl_RX5_38 kd_62 rfl rf_62_1 ?_
        refine g_getR (pc' := 205) (r := 7) dX5_seekHush_202 rfl fl_RX5_98 kd_6 rfl rf_6_1 ?_
        refine g_iload_n (pc' := 206) dX5_seekHush_205 rfl rfl ?_
        obtain ⟨ob8, h⟩ := h
        refine g_iald (pc' := 207) dX5_seekHush_206 rfl kd_7 ob8 ?_
        obtain ⟨ob9, h⟩ := h
        refine g_iast (pc' := 208) dX5_seekHush_207 rfl kd_45 ob9 ?_
        refine g_sto (fun s10 es10 => ?_)
        have h := h s10 es10
        refine g_iinc (pc' := 211) dX5_seekHush_208 rfl rfl (by decide) ?_
        refine g_goto (pc' := 99) dX5_seekHush_211 rfl ?_
        exact (ih _ _ h).to ((sb_c rfl (sb_c rfl (sb_c rfl sb_n))))
def P_X5_seekHush (v1 : Int) (s : Sto) (Q : Int → Sto → Prop) : Prop := (P_X4_becomes 44 6 s (fun _ s1 => (P_X5_binds v1 s1 (fun r4 s3 => ((r4 = 0 → (∀ s6 : Sto, s6 = S_X2_become 0 ((-1)) ((-1)) s3 → Q 0 s6)) ∧ (¬ r4 = 0 → (∃ n18, L_X5_seekHush_32 v1 (fun x7 s8 => (∀ s9 : Sto, s9 = S_X2_become 1 x7 ((-1)) s8 → Q 0 s9)) (fun s10 => (∃ n17, L_X5_seekHush_99 v1 (fun x11 x12 s13 => (∀ s14 : Sto, s14 = S_X2_become 2 x11 x12 s13 → Q 0 s14)) (fun s15 => (∀ s16 : Sto, s16 = S_X2_become ((-1)) ((-1)) ((-1)) s15 → Q 0 s16)) n17 0 s10)) n18 0 s3)))))))
set_option maxRecDepth 100000 in
theorem C_X5_seekHush {v1 : Int} {s : Sto} {Q : Int → Sto → Prop}  (h : P_X5_seekHush v1 s Q) : sr_C yX5_seekHush cX5_seekHush 4 none 5 [vR 62, vI v1] s Q := by
  refine sr_C.of (by decide +kernel) (Nat.le_of_ble_eq_true rfl) ?_
  show sr_G RX5 cX5_seekHush 4 none 5 0 [(0, vR 62), (1, vI v1)] [] s Q
  unfold P_X5_seekHush at h
  refine g_aload_n (pc' := 1) dX5_seekHush_0 rfl rfl ?_
  refine g_getR (pc' := 4) (r := 44) dX5_seekHush_1 rfl fl_RX5_42 kd_62 rfl rf_62_2 ?_
  refine g_aload_n (pc' := 5) dX5_seekHush_4 rfl rfl ?_
  refine g_getR (pc' := 8) (r := 6) dX5_seekHush_5 rfl fl_RX5_38 kd_62 rfl rf_62_1 ?_
  refine g_V1v (pc' := 11) dX5_seekHush_8 rfl mv_RX5_49 kd_44 (by decide) (Nat.le_of_ble_eq_true rfl) (C_X4_becomes kd_44 kd_6 h) (fun s1 h => ?_)
  refine g_aload_n (pc' := 12) dX5_seekHush_11 rfl rfl ?_
  refine g_iload_n (pc' := 13) dX5_seekHush_12 rfl rfl ?_
  refine g_V1z (pc' := 16) dX5_seekHush_13 rfl mv_RX5_88 kd_62 (by decide) (Nat.le_of_ble_eq_true rfl) (C_X5_binds h) (fun r4 s3 h => ?_)
  refine g_if_ne (pc' := 19) (tgt := 30) dX5_seekHush_16 rfl rfl (fun c5 => ?_) (fun c5 => ?_)
  · have h := h.2 c5
    refine g_iconst (pc' := 31) (by unfold r32; decide) dX5_seekHush_30 rfl ?_
    refine g_istore_n (pc' := 32) dX5_seekHush_31 rfl (by decide) ?_
    obtain ⟨n18, h⟩ := h
    refine (SL_X5_seekHush_32  (fun x7 s8 h => ?_) (fun s10 h => ?_) n18 _ _ h).to ((sb_c rfl (sb_c rfl (sb_c rfl sb_n))))
    · refine g_aload_n (pc' := 63) dX5_seekHush_62 rfl rfl ?_
      refine g_getR (pc' := 66) (r := 63) dX5_seekHush_63 rfl fl_RX5_30 kd_62 rfl rf_62_9 ?_
      refine g_iconst (pc' := 67) (by unfold r32; decide) dX5_seekHush_66 rfl ?_
      refine g_iload_n (pc' := 68) dX5_seekHush_67 rfl rfl ?_
      refine g_iconst (pc' := 69) (by unfold r32; decide) dX5_seekHush_68 rfl ?_
      refine g_V3v (pc' := 72) dX5_seekHush_69 rfl mv_RX5_91 kd_63 (by decide) (Nat.le_of_ble_eq_true rfl) C_X2_become (sr_purv ?_)
      refine g_sto (fun s9 es9 => ?_)
      have h := h s9 es9
      exact g_vret dX5_seekHush_72 rfl h
    · refine g_iconst (pc' := 98) (by unfold r32; decide) dX5_seekHush_97 rfl ?_
      refine g_istore_n (pc' := 99) dX5_seekHush_98 rfl (by decide) ?_
      obtain ⟨n17, h⟩ := h
      refine (SL_X5_seekHush_99  (fun x11 x12 s13 h => ?_) (fun s15 h => ?_) n17 _ _ h).to ((sb_c rfl (sb_c rfl (sb_c rfl sb_n))))
      · refine g_aload_n (pc' := 156) dX5_seekHush_155 rfl rfl ?_
        refine g_getR (pc' := 159) (r := 63) dX5_seekHush_156 rfl fl_RX5_30 kd_62 rfl rf_62_9 ?_
        refine g_iconst (pc' := 160) (by unfold r32; decide) dX5_seekHush_159 rfl ?_
        refine g_iload_n (pc' := 161) dX5_seekHush_160 rfl rfl ?_
        refine g_iload_n (pc' := 162) dX5_seekHush_161 rfl rfl ?_
        refine g_V3v (pc' := 165) dX5_seekHush_162 rfl mv_RX5_91 kd_63 (by decide) (Nat.le_of_ble_eq_true rfl) C_X2_become (sr_purv ?_)
        refine g_sto (fun s14 es14 => ?_)
        have h := h s14 es14
        exact g_vret dX5_seekHush_165 rfl h
      · refine g_aload_n (pc' := 215) dX5_seekHush_214 rfl rfl ?_
        refine g_getR (pc' := 218) (r := 63) dX5_seekHush_215 rfl fl_RX5_30 kd_62 rfl rf_62_9 ?_
        refine g_iconst (pc' := 219) (by unfold r32; decide) dX5_seekHush_218 rfl ?_
        refine g_iconst (pc' := 220) (by unfold r32; decide) dX5_seekHush_219 rfl ?_
        refine g_iconst (pc' := 221) (by unfold r32; decide) dX5_seekHush_220 rfl ?_
        refine g_V3v (pc' := 224) dX5_seekHush_221 rfl mv_RX5_91 kd_63 (by decide) (Nat.le_of_ble_eq_true rfl) C_X2_become (sr_purv ?_)
        refine g_sto (fun s16 es16 => ?_)
        have h := h s16 es16
        exact g_vret dX5_seekHush_224 rfl h
  · have h := h.1 c5
    refine g_aload_n (pc' := 20) dX5_seekHush_19 rfl rfl ?_
    refine g_getR (pc' := 23) (r := 63) dX5_seekHush_20 rfl fl_RX5_30 kd_62 rfl rf_62_9 ?_
    refine g_iconst (pc' := 24) (by unfold r32; decide) dX5_seekHush_23 rfl ?_
    refine g_iconst (pc' := 25) (by unfold r32; decide) dX5_seekHush_24 rfl ?_
    refine g_iconst (pc' := 26) (by unfold r32; decide) dX5_seekHush_25 rfl ?_
    refine g_V3v (pc' := 29) dX5_seekHush_26 rfl mv_RX5_91 kd_63 (by decide) (Nat.le_of_ble_eq_true rfl) C_X2_become (sr_purv ?_)
    refine g_sto (fun s6 es6 => ?_)
    have h := h s6 es6
    exact g_vret dX5_seekHush_29 rfl h
def L_X5_seekCalm_37 (v1 : Int) (K129 : Sto → Prop) : Nat → Int → Sto → Prop
  | 0, _, _ => False
  | n + 1, v2, s => ((20 ≤ v2 → K129 s) ∧ (¬ 20 ≤ v2 → (inb v2 20 ∧ ((s 15 v2.toNat = (-1) → ((v1 ≤ s 62 8 → L_X5_seekCalm_37 v1 K129 n (w32 (v2 + 1)) s) ∧ (¬ v1 ≤ s 62 8 → (∀ s5 : Sto, s5 = up s 62 8 v1 → (∀ s6 : Sto, s6 = up s5 62 7 v2 → L_X5_seekCalm_37 v1 K129 n (w32 (v2 + 1)) s6))))) ∧ (¬ s 15 v2.toNat = (-1) → (inb v2 20 ∧ (∀ s8 : Sto, s8 = up s 53 v2.toNat ((-1)) → (P_X6_playAll 54 44 s8 (fun _ s9 => (∀ x11 : Int, x11 = s9 54 8 → (inb v2 20 ∧ (inb v2 20 ∧ (∀ s14 : Sto, s14 = up s9 53 v2.toNat (s9 15 v2.toNat) → ((x11 ≤ s14 62 8 → L_X5_seekCalm_37 v1 K129 n (w32 (v2 + 1)) s14) ∧ (¬ x11 ≤ s14 62 8 → (∀ s16 : Sto, s16 = up s14 62 8 x11 → (∀ s17 : Sto, s17 = up s16 62 7 v2 → L_X5_seekCalm_37 v1 K129 n (w32 (v2 + 1)) s17)))))))))))))))))
set_option maxRecDepth 100000 in
theorem SL_X5_seekCalm_37 {v1 : Int} {K129 : Sto → Prop} {Q : Int → Sto → Prop}  (hK129 : ∀ s, K129 s → sr_G RX5 cX5_seekCalm 4 none 4 129 [] [] s Q) : ∀ n v2 s, L_X5_seekCalm_37 v1 K129 n v2 s → sr_G RX5 cX5_seekCalm 4 none 4 37 [(0, vR 62), (1, vI v1), (2, vI v2)] [] s Q := by
  intro n
  induction n with
  | zero => intro v2 s h; exact h.elim
  | succ n ih =>
    intro v2 s h
    unfold L_X5_seekCalm_37 at h
    refine g_iload_n (pc' := 38) dX5_seekCalm_37 rfl rfl ?_
    refine g_bipush (pc' := 40) ⟨by unfold r32; decide, rfl⟩ dX5_seekCalm_38 rfl ?_
    refine g_ic_ge (pc' := 43) (tgt := 129) dX5_seekCalm_40 rfl rfl (fun c1 => ?_) (fun c1 => ?_)
    · have h := h.1 c1
      exact (hK129 _ h).to (sb_n)
    · have h := h.2 c1
      refine g_iload_n (pc' := 44) dX5_seekCalm_43 rfl rfl ?_
      refine g_istore_n (pc' := 45) dX5_seekCalm_44 rfl (by decide) ?_
      refine g_aload_n (pc' := 46) dX5_seekCalm_45 rfl rfl ?_
      refine g_getR (pc' := 49) (r := 6) dX5_seekCalm_46 rfl fl_RX5_38 kd_62 rfl rf_62_1 ?_
      refine g_getR (pc' := 52) (r := 15) dX5_seekCalm_49 rfl fl_RX5_101 kd_6 rfl rf_6_10 ?_
      refine g_iload_n (pc' := 53) dX5_seekCalm_52 rfl rfl ?_
      obtain ⟨ob2, h⟩ := h
      refine g_iald (pc' := 54) dX5_seekCalm_53 rfl kd_15 ob2 ?_
      refine g_iconst (pc' := 55) (by unfold r32; decide) dX5_seekCalm_54 rfl ?_
      refine g_ic_eq (pc' := 58) (tgt := 105) dX5_seekCalm_55 rfl rfl (fun c3 => ?_) (fun c3 => ?_)
      · have h := h.1 c3
        refine g_iload_n (pc' := 106) dX5_seekCalm_105 rfl rfl ?_
        refine g_aload_n (pc' := 107) dX5_seekCalm_106 rfl rfl ?_
        refine g_getI (pc' := 110) dX5_seekCalm_107 rfl fl_RX5_24 kd_62 (Or.inl rfl) ?_
        refine g_ic_le (pc' := 113) (tgt := 123) dX5_seekCalm_110 rfl rfl (fun c4 => ?_) (fun c4 => ?_)
        · have h := h.1 c4
          refine g_iinc (pc' := 126) dX5_seekCalm_123 rfl rfl (by decide) ?_
          refine g_goto (pc' := 37) dX5_seekCalm_126 rfl ?_
          exact (ih _ _ h).to ((sb_c rfl (sb_c rfl (sb_c rfl sb_n))))
        · have h := h.2 c4
          refine g_aload_n (pc' := 114) dX5_seekCalm_113 rfl rfl ?_
          refine g_iload_n (pc' := 115) dX5_seekCalm_114 rfl rfl ?_
          refine g_putI (pc' := 118) dX5_seekCalm_115 rfl fp_RX5_24 kd_62 rfl ?_
          refine g_sto (fun s5 es5 => ?_)
          have h := h s5 es5
          refine g_aload_n (pc' := 119) dX5_seekCalm_118 rfl rfl ?_
          refine g_iload_n (pc' := 120) dX5_seekCalm_119 rfl rfl ?_
          refine g_putI (pc' := 123) dX5_seekCalm_120 rfl fp_RX5_21 kd_62 rfl ?_
          refine g_sto (fun s6 es6 => ?_)
          have h := h s6 es6
          refine g_iinc (pc' := 126) dX5_seekCalm_123 rfl rfl (by decide) ?_
          refine g_goto (pc' := 37) dX5_seekCalm_126 rfl ?_
          exact (ih _ _ h).to ((sb_c rfl (sb_c rfl (sb_c rfl sb_n))))
      · have h := h.2 c3
        refine g_aload_n (pc' := 59) dX5_seekCalm_58 rfl rfl ?_
        refine g_getR (pc' := 62) (r := 44) dX5_seekCalm_59 rfl fl_RX5_42 kd_62 rfl rf_62_2 ?_
        refine g_getR (pc' := 65) (r := 53) dX5_seekCalm_62 rfl fl_RX5_101 kd_44 rfl rf_44_10 ?_
        refine g_iload_n (pc' := 66) dX5_seekCalm_65 rfl rfl ?_
        refine g_iconst (pc' := 67) (by unfold r32; decide) dX5_seekCalm_66 rfl ?_
        obtain ⟨ob7, h⟩ := h
        refine g_iast (pc' := 68) dX5_seekCalm_67 rfl kd_53 ob7 ?_
        refine g_sto (fun s8 es8 => ?_)
        have h := h s8 es8
        refine g_aload_n (pc' := 69) dX5_seekCalm_68 rfl rfl ?_
        refine g_getR (pc' := 72) (r := 54) dX5_seekCalm_69 rfl fl_RX5_45 kd_62 rfl rf_62_3 ?_
        refine g_aload_n (pc' := 73) dX5_seekCalm_72 rfl rfl ?_
        refine g_getR (pc' := 76) (r := 44) dX5_seekCalm_73 rfl fl_RX5_42 kd_62 rfl rf_62_2 ?_
        refine g_V1v (pc' := 79) dX5_seekCalm_76 rfl mv_RX5_59 kd_54 (by decide) (Nat.le_of_ble_eq_true rfl) (C_X6_playAll kd_54 kd_44 h) (fun s9 h => ?_)
        refine g_aload_n (pc' := 80) dX5_seekCalm_79 rfl rfl ?_
        refine g_getR (pc' := 83) (r := 54) dX5_seekCalm_80 rfl fl_RX5_45 kd_62 rfl rf_62_3 ?_
        refine g_getI (pc' := 86) dX5_seekCalm_83 rfl fl_RX5_73 kd_54 (Or.inl rfl) ?_
        refine g_topI (fun x11 ex11 => ?_)
        have h := h x11 ex11
        refine g_istore_n (pc' := 87) dX5_seekCalm_86 rfl (by decide) ?_
        refine g_aload_n (pc' := 88) dX5_seekCalm_87 rfl rfl ?_
        refine g_getR (pc' := 91) (r := 44) dX5_seekCalm_88 rfl fl_RX5_42 kd_62 rfl rf_62_2 ?_
        refine g_getR (pc' := 94) (r := 53) dX5_seekCalm_91 rfl fl_RX5_101 kd_44 rfl rf_44_10 ?_
        refine g_iload_n (pc' := 95) dX5_seekCalm_94 rfl rfl ?_
        refine g_aload_n (pc' := 96) dX5_seekCalm_95 rfl rfl ?_
        refine g_getR (pc' := 99) (r := 6) dX5_seekCalm_96 rfl fl_RX5_38 kd_62 rfl rf_62_1 ?_
        refine g_getR (pc' := 102) (r := 15) dX5_seekCalm_99 rfl fl_RX5_101 kd_6 rfl rf_6_10 ?_
        refine g_iload_n (pc' := 103) dX5_seekCalm_102 rfl rfl ?_
        obtain ⟨ob12, h⟩ := h
        refine g_iald (pc' := 104) dX5_seekCalm_103 rfl kd_15 ob12 ?_
        obtain ⟨ob13, h⟩ := h
        refine g_iast (pc' := 105) dX5_seekCalm_104 rfl kd_53 ob13 ?_
        refine g_sto (fun s14 es14 => ?_)
        have h := h s14 es14
        refine g_iload_n (pc' := 106) dX5_seekCalm_105 rfl rfl ?_
        refine g_aload_n (pc' := 107) dX5_seekCalm_106 rfl rfl ?_
        refine g_getI (pc' := 110) dX5_seekCalm_107 rfl fl_RX5_24 kd_62 (Or.inl rfl) ?_
        refine g_ic_le (pc' := 113) (tgt := 123) dX5_seekCalm_110 rfl rfl (fun c15 => ?_) (fun c15 => ?_)
        · have h := h.1 c15
          refine g_iinc (pc' := 126) dX5_seekCalm_123 rfl rfl (by decide) ?_
          refine g_goto (pc' := 37) dX5_seekCalm_126 rfl ?_
          exact (ih _ _ h).to ((sb_c rfl (sb_c rfl (sb_c rfl sb_n))))
        · have h := h.2 c15
          refine g_aload_n (pc' := 114) dX5_seekCalm_113 rfl rfl ?_
          refine g_iload_n (pc' := 115) dX5_seekCalm_114 rfl rfl ?_
          refine g_putI (pc' := 118) dX5_seekCalm_115 rfl fp_RX5_24 kd_62 rfl ?_
          refine g_sto (fun s16 es16 => ?_)
          have h := h s16 es16
          refine g_aload_n (pc' := 119) dX5_seekCalm_118 rfl rfl ?_
          refine g_iload_n (pc' := 120) dX5_seekCalm_119 rfl rfl ?_
          refine g_putI (pc' := 123) dX5_seekCalm_120 rfl fp_RX5_21 kd_62 rfl ?_
          refine g_sto (fun s17 es17 => ?_)
          have h := h s17 es17
          refine g_iinc (pc' := 126) dX5_seekCalm_123 rfl rfl (by decide) ?_
          refine g_goto (pc' := 37) dX5_seekCalm_126 rfl ?_
          exact (ih _ _ h).to ((sb_c rfl (sb_c rfl (sb_c rfl sb_n))))
def P_X5_seekCalm (s : Sto) (Q : Int → Sto → Prop) : Prop := (P_X4_becomes 44 6 s (fun _ s1 => (P_X6_playAll 54 44 s1 (fun _ s3 => (∀ x5 : Int, x5 = s3 54 8 → (∀ s6 : Sto, s6 = up s3 62 8 ((-1)) → (∃ n8, L_X5_seekCalm_37 x5 (fun s7 => Q 0 s7) n8 0 s6)))))))
set_option maxRecDepth 100000 in
theorem C_X5_seekCalm {s : Sto} {Q : Int → Sto → Prop}  (h : P_X5_seekCalm s Q) : sr_C yX5_seekCalm cX5_seekCalm 4 none 4 [vR 62] s Q := by
  refine sr_C.of (by decide +kernel) (Nat.le_of_ble_eq_true rfl) ?_
  show sr_G RX5 cX5_seekCalm 4 none 4 0 [(0, vR 62)] [] s Q
  unfold P_X5_seekCalm at h
  refine g_aload_n (pc' := 1) dX5_seekCalm_0 rfl rfl ?_
  refine g_getR (pc' := 4) (r := 44) dX5_seekCalm_1 rfl fl_RX5_42 kd_62 rfl rf_62_2 ?_
  refine g_aload_n (pc' := 5) dX5_seekCalm_4 rfl rfl ?_
  refine g_getR (pc' := 8) (r := 6) dX5_seekCalm_5 rfl fl_RX5_38 kd_62 rfl rf_62_1 ?_
  refine g_V1v (pc' := 11) dX5_seekCalm_8 rfl mv_RX5_49 kd_44 (by decide) (Nat.le_of_ble_eq_true rfl) (C_X4_becomes kd_44 kd_6 h) (fun s1 h => ?_)
  refine g_aload_n (pc' := 12) dX5_seekCalm_11 rfl rfl ?_
  refine g_getR (pc' := 15) (r := 54) dX5_seekCalm_12 rfl fl_RX5_45 kd_62 rfl rf_62_3 ?_
  refine g_aload_n (pc' := 16) dX5_seekCalm_15 rfl rfl ?_
  refine g_getR (pc' := 19) (r := 44) dX5_seekCalm_16 rfl fl_RX5_42 kd_62 rfl rf_62_2 ?_
  refine g_V1v (pc' := 22) dX5_seekCalm_19 rfl mv_RX5_59 kd_54 (by decide) (Nat.le_of_ble_eq_true rfl) (C_X6_playAll kd_54 kd_44 h) (fun s3 h => ?_)
  refine g_aload_n (pc' := 23) dX5_seekCalm_22 rfl rfl ?_
  refine g_getR (pc' := 26) (r := 54) dX5_seekCalm_23 rfl fl_RX5_45 kd_62 rfl rf_62_3 ?_
  refine g_getI (pc' := 29) dX5_seekCalm_26 rfl fl_RX5_73 kd_54 (Or.inl rfl) ?_
  refine g_topI (fun x5 ex5 => ?_)
  have h := h x5 ex5
  refine g_istore_n (pc' := 30) dX5_seekCalm_29 rfl (by decide) ?_
  refine g_aload_n (pc' := 31) dX5_seekCalm_30 rfl rfl ?_
  refine g_iconst (pc' := 32) (by unfold r32; decide) dX5_seekCalm_31 rfl ?_
  refine g_putI (pc' := 35) dX5_seekCalm_32 rfl fp_RX5_24 kd_62 rfl ?_
  refine g_sto (fun s6 es6 => ?_)
  have h := h s6 es6
  refine g_iconst (pc' := 36) (by unfold r32; decide) dX5_seekCalm_35 rfl ?_
  refine g_istore_n (pc' := 37) dX5_seekCalm_36 rfl (by decide) ?_
  obtain ⟨n8, h⟩ := h
  refine (SL_X5_seekCalm_37  (fun s7 h => ?_) n8 _ _ h).to ((sb_c rfl (sb_c rfl (sb_c rfl sb_n))))
  · exact g_vret dX5_seekCalm_129 rfl h
def L_X6_wedBits_5 (p0 : Nat) (p1 : Nat) (v2 : Int) (s : Sto) (K38 : Int → Prop) : Nat → Int → Int → Prop
  | 0, _, _ => False
  | n + 1, v3, v4 => ((s p1 6 ≤ v4 → K38 v3) ∧ (¬ s p1 6 ≤ v4 → (inb v4 8 ∧ ((s (p0 + 7) v4.toNat = v2 → (∀ x4 : Int, x4 = iO v3 (iShl 1 v4) → L_X6_wedBits_5 p0 p1 v2 s K38 n x4 (w32 (v4 + 1)))) ∧ (¬ s (p0 + 7) v4.toNat = v2 → L_X6_wedBits_5 p0 p1 v2 s K38 n v3 (w32 (v4 + 1)))))))
set_option maxRecDepth 100000 in
theorem SL_X6_wedBits_5 {p0 : Nat} {p1 : Nat} {v2 : Int} {s : Sto} {K38 : Int → Prop} {Q : Int → Sto → Prop} (hp0 : kd p0 = 16) (hp1 : kd p1 = 14) (hK38 : ∀ v3, K38 v3 → sr_G RX6 cX6_wedBits 5 (some .int) 0 38 [(3, vI v3)] [] s Q) : ∀ n v3 v4, L_X6_wedBits_5 p0 p1 v2 s K38 n v3 v4 → sr_G RX6 cX6_wedBits 5 (some .int) 0 5 [(0, vR p0), (1, vR p1), (2, vI v2), (3, vI v3), (4, vI v4)] [] s Q := by
  intro n
  induction n with
  | zero => intro v3 v4 h; exact h.elim
  | succ n ih =>
    intro v3 v4 h
    unfold L_X6_wedBits_5 at h
    refine g_iload (pc' := 7) dX6_wedBits_5 rfl rfl ?_
    refine g_aload_n (pc' := 8) dX6_wedBits_7 rfl rfl ?_
    refine g_getI (pc' := 11) dX6_wedBits_8 rfl fl_RX6_73 hp1 (Or.inl rfl) ?_
    refine g_ic_ge (pc' := 14) (tgt := 38) dX6_wedBits_11 rfl rfl (fun c1 => ?_) (fun c1 => ?_)
    · have h := h.1 c1
      exact (hK38 _ h).to ((sb_c rfl sb_n))
    · have h := h.2 c1
      refine g_aload_n (pc' := 15) dX6_wedBits_14 rfl rfl ?_
      refine g_getR (pc' := 18) (r := p0 + 7) dX6_wedBits_15 rfl fl_RX6_30 hp0 rfl (ly_6_7 hp0) ?_
      refine g_iload (pc' := 20) dX6_wedBits_18 rfl rfl ?_
      obtain ⟨ob2, h⟩ := h
      refine g_iald (pc' := 21) dX6_wedBits_20 rfl (lk_6_7 hp0) (Eq.mpr (congrArg (inb _) (la_6_7 hp0)) ob2) ?_
      refine g_iload_n (pc' := 22) dX6_wedBits_21 rfl rfl ?_
      refine g_ic_ne (pc' := 25) (tgt := 32) dX6_wedBits_22 rfl rfl (fun c3 => ?_) (fun c3 => ?_)
      · have h := h.2 c3
        refine g_iinc (pc' := 35) dX6_wedBits_32 rfl rfl (by decide) ?_
        refine g_goto (pc' := 5) dX6_wedBits_35 rfl ?_
        exact (ih _ _ h).to ((sb_c rfl (sb_c rfl (sb_c rfl (sb_c rfl (sb_c rfl sb_n))))))
      · have h := h.1 c3
        refine g_iload_n (pc' := 26) dX6_wedBits_25 rfl rfl ?_
        refine g_iconst (pc' := 27) (by unfold r32; decide) dX6_wedBits_26 rfl ?_
        refine g_iload (pc' := 29) dX6_wedBits_27 rfl rfl ?_
        refine g_ishl (pc' := 30) dX6_wedBits_29 rfl ?_
        refine g_ior (pc' := 31) dX6_wedBits_30 rfl ?_
        refine g_topI (fun x4 ex4 => ?_)
        have h := h x4 ex4
        refine g_istore_n (pc' := 32) dX6_wedBits_31 rfl (by decide) ?_
        refine g_iinc (pc' := 35) dX6_wedBits_32 rfl rfl (by decide) ?_
        refine g_goto (pc' := 5) dX6_wedBits_35 rfl ?_
        exact (ih _ _ h).to ((sb_c rfl (sb_c rfl (sb_c rfl (sb_c rfl (sb_c rfl sb_n))))))
def P_X6_wedBits (o : Nat) (p1 : Nat) (v2 : Int) (s : Sto) (Q : Int → Sto → Prop) : Prop := (∃ n2, L_X6_wedBits_5 o p1 v2 s (fun x1 => Q x1 s) n2 0 0)
set_option maxRecDepth 100000 in
theorem C_X6_wedBits {o : Nat} {p1 : Nat} {v2 : Int} {s : Sto} {Q : Int → Sto → Prop} (ho : kd o = 16) (hp1 : kd p1 = 14) (h : P_X6_wedBits o p1 v2 s Q) : sr_C yX6_wedBits cX6_wedBits 5 (some .int) 0 [vR o, vR p1, vI v2] s Q := by
  refine sr_C.of (by decide +kernel) (Nat.le_of_ble_eq_true rfl) ?_
  show sr_G RX6 cX6_wedBits 5 (some .int) 0 0 [(0, vR o), (1, vR p1), (2, vI v2)] [] s Q
  unfold P_X6_wedBits at h
  refine g_iconst (pc' := 1) (by unfold r32; decide) dX6_wedBits_0 rfl ?_
  refine g_istore_n (pc' := 2) dX6_wedBits_1 rfl (by decide) ?_
  refine g_iconst (pc' := 3) (by unfold r32; decide) dX6_wedBits_2 rfl ?_
  refine g_istore (pc' := 5) dX6_wedBits_3 rfl (by decide) ?_
  obtain ⟨n2, h⟩ := h
  refine (SL_X6_wedBits_5 ho hp1 (fun x1 h => ?_) n2 _ _ h).to ((sb_c rfl (sb_c rfl (sb_c rfl (sb_c rfl (sb_c rfl sb_n))))))
  · refine g_iload_n (pc' := 39) dX6_wedBits_38 rfl rfl ?_
    exact g_iret dX6_wedBits_39 rfl h
def L_X6_upkeepOf_5 (p0 : Nat) (p1 : Nat) (v2 : Int) (s : Sto) (K40 : Int → Prop) : Nat → Int → Int → Prop
  | 0, _, _ => False
  | n + 1, v3, v4 => ((s p1 6 ≤ v4 → K40 v3) ∧ (¬ s p1 6 ≤ v4 → (inb v4 8 ∧ ((s (p0 + 7) v4.toNat = v2 → (O_X4_upkeep p1 v4 s ∧ (∀ x5 : Int, x5 = w32 (v3 + (F_X4_upkeep p1 v4 s)) → L_X6_upkeepOf_5 p0 p1 v2 s K40 n x5 (w32 (v4 + 1))))) ∧ (¬ s (p0 + 7) v4.toNat = v2 → L_X6_upkeepOf_5 p0 p1 v2 s K40 n v3 (w32 (v4 + 1)))))))
set_option maxRecDepth 100000 in
theorem SL_X6_upkeepOf_5 {p0 : Nat} {p1 : Nat} {v2 : Int} {s : Sto} {K40 : Int → Prop} {Q : Int → Sto → Prop} (hp0 : kd p0 = 16) (hp1 : kd p1 = 14) (hK40 : ∀ v3, K40 v3 → sr_G RX6 cX6_upkeepOf 5 (some .int) 1 40 [(3, vI v3)] [] s Q) : ∀ n v3 v4, L_X6_upkeepOf_5 p0 p1 v2 s K40 n v3 v4 → sr_G RX6 cX6_upkeepOf 5 (some .int) 1 5 [(0, vR p0), (1, vR p1), (2, vI v2), (3, vI v3), (4, vI v4)] [] s Q := by
  intro n
  induction n with
  | zero => intro v3 v4 h; exact h.elim
  | succ n ih =>
    intro v3 v4 h
    unfold L_X6_upkeepOf_5 at h
    refine g_iload (pc' := 7) dX6_upkeepOf_5 rfl rfl ?_
    refine g_aload_n (pc' := 8) dX6_upkeepOf_7 rfl rfl ?_
    refine g_getI (pc' := 11) dX6_upkeepOf_8 rfl fl_RX6_73 hp1 (Or.inl rfl) ?_
    refine g_ic_ge (pc' := 14) (tgt := 40) dX6_upkeepOf_11 rfl rfl (fun c1 => ?_) (fun c1 => ?_)
    · have h := h.1 c1
      exact (hK40 _ h).to ((sb_c rfl sb_n))
    · have h := h.2 c1
      refine g_aload_n (pc' := 15) dX6_upkeepOf_14 rfl rfl ?_
      refine g_getR (pc' := 18) (r := p0 + 7) dX6_upkeepOf_15 rfl fl_RX6_30 hp0 rfl (ly_6_7 hp0) ?_
      refine g_iload (pc' := 20) dX6_upkeepOf_18 rfl rfl ?_
      obtain ⟨ob2, h⟩ := h
      refine g_iald (pc' := 21) dX6_upkeepOf_20 rfl (lk_6_7 hp0) (Eq.mpr (congrArg (inb _) (la_6_7 hp0)) ob2) ?_
      refine g_iload_n (pc' := 22) dX6_upkeepOf_21 rfl rfl ?_
      refine g_ic_ne (pc' := 25) (tgt := 34) dX6_upkeepOf_22 rfl rfl (fun c3 => ?_) (fun c3 => ?_)
      · have h := h.2 c3
        refine g_iinc (pc' := 37) dX6_upkeepOf_34 rfl rfl (by decide) ?_
        refine g_goto (pc' := 5) dX6_upkeepOf_37 rfl ?_
        exact (ih _ _ h).to ((sb_c rfl (sb_c rfl (sb_c rfl (sb_c rfl (sb_c rfl sb_n))))))
      · have h := h.1 c3
        refine g_iload_n (pc' := 26) dX6_upkeepOf_25 rfl rfl ?_
        refine g_aload_n (pc' := 27) dX6_upkeepOf_26 rfl rfl ?_
        refine g_iload (pc' := 29) dX6_upkeepOf_27 rfl rfl ?_
        obtain ⟨ob4, h⟩ := h
        refine g_V1i (pc' := 32) dX6_upkeepOf_29 rfl mv_RX6_130 hp1 (by decide) (Nat.le_of_ble_eq_true rfl) (C_X4_upkeep hp1 ob4) (sr_pur ?_)
        refine g_iadd (pc' := 33) dX6_upkeepOf_32 rfl ?_
        refine g_topI (fun x5 ex5 => ?_)
        have h := h x5 ex5
        refine g_istore_n (pc' := 34) dX6_upkeepOf_33 rfl (by decide) ?_
        refine g_iinc (pc' := 37) dX6_upkeepOf_34 rfl rfl (by decide) ?_
        refine g_goto (pc' := 5) dX6_upkeepOf_37 rfl ?_
        exact (ih _ _ h).to ((sb_c rfl (sb_c rfl (sb_c rfl (sb_c rfl (sb_c rfl sb_n))))))
def P_X6_upkeepOf (o : Nat) (p1 : Nat) (v2 : Int) (s : Sto) (Q : Int → Sto → Prop) : Prop := (∃ n2, L_X6_upkeepOf_5 o p1 v2 s (fun x1 => Q x1 s) n2 0 0)
set_option maxRecDepth 100000 in
theorem C_X6_upkeepOf {o : Nat} {p1 : Nat} {v2 : Int} {s : Sto} {Q : Int → Sto → Prop} (ho : kd o = 16) (hp1 : kd p1 = 14) (h : P_X6_upkeepOf o p1 v2 s Q) : sr_C yX6_upkeepOf cX6_upkeepOf 5 (some .int) 1 [vR o, vR p1, vI v2] s Q := by
  refine sr_C.of (by decide +kernel) (Nat.le_of_ble_eq_true rfl) ?_
  show sr_G RX6 cX6_upkeepOf 5 (some .int) 1 0 [(0, vR o), (1, vR p1), (2, vI v2)] [] s Q
  unfold P_X6_upkeepOf at h
  refine g_iconst (pc' := 1) (by unfold r32; decide) dX6_upkeepOf_0 rfl ?_
  refine g_istore_n (pc' := 2) dX6_upkeepOf_1 rfl (by decide) ?_
  refine g_iconst (pc' := 3) (by unfold r32; decide) dX6_upkeepOf_2 rfl ?_
  refine g_istore (pc' := 5) dX6_upkeepOf_3 rfl (by decide) ?_
  obtain ⟨n2, h⟩ := h
  refine (SL_X6_upkeepOf_5 ho hp1 (fun x1 h => ?_) n2 _ _ h).to ((sb_c rfl (sb_c rfl (sb_c rfl (sb_c rfl (sb_c rfl sb_n))))))
  · refine g_iload_n (pc' := 41) dX6_upkeepOf_40 rfl rfl ?_
    exact g_iret dX6_upkeepOf_41 rfl h
def L_X5_seekFree_43 (v4 : Int) (v5 : Int) (s : Sto) (K79 : Int → Prop) (K97 : Prop) : Nat → Int → Prop
  | 0, _ => False
  | n + 1, v6 => ((s 6 6 ≤ v6 → K97) ∧ (¬ s 6 6 ≤ v6 → ((iA (iShr v4 v6) 1 = 0 → L_X5_seekFree_43 v4 v5 s K79 K97 n (w32 (v6 + 1))) ∧ (¬ iA (iShr v4 v6) 1 = 0 → (O_X4_upkeep 6 v6 s ∧ ((F_X4_upkeep 6 v6 s < v5 → L_X5_seekFree_43 v4 v5 s K79 K97 n (w32 (v6 + 1))) ∧ (¬ F_X4_upkeep 6 v6 s < v5 → K79 v6)))))))
set_option maxRecDepth 100000 in
theorem SL_X5_seekFree_43 {v4 : Int} {v5 : Int} {s : Sto} {K79 : Int → Prop} {K97 : Prop} {Q : Int → Sto → Prop}  (hK79 : ∀ v6, K79 v6 → sr_G RX5 cX5_seekFree 8 none 2 79 [(0, vR 62), (6, vI v6)] [] s Q) (hK97 : K97 → sr_G RX5 cX5_seekFree 8 none 2 97 [(0, vR 62), (4, vI v4), (5, vI v5)] [] s Q) : ∀ n v6, L_X5_seekFree_43 v4 v5 s K79 K97 n v6 → sr_G RX5 cX5_seekFree 8 none 2 43 [(0, vR 62), (4, vI v4), (5, vI v5), (6, vI v6)] [] s Q := by
  intro n
  induction n with
  | zero => intro v6 h; exact h.elim
  | succ n ih =>
    intro v6 h
    unfold L_X5_seekFree_43 at h
    refine g_iload (pc' := 45) dX5_seekFree_43 rfl rfl ?_
    refine g_aload_n (pc' := 46) dX5_seekFree_45 rfl rfl ?_
    refine g_getR (pc' := 49) (r := 6) dX5_seekFree_46 rfl fl_RX5_38 kd_62 rfl rf_62_1 ?_
    refine g_getI (pc' := 52) dX5_seekFree_49 rfl fl_RX5_111 kd_6 (Or.inl rfl) ?_
    refine g_ic_ge (pc' := 55) (tgt := 97) dX5_seekFree_52 rfl rfl (fun c1 => ?_) (fun c1 => ?_)
    · have h := h.1 c1
      exact (hK97 h).to ((sb_c rfl (sb_c rfl (sb_c rfl sb_n))))
    · have h := h.2 c1
      refine g_iload (pc' := 57) dX5_seekFree_55 rfl rfl ?_
      refine g_iload (pc' := 59) dX5_seekFree_57 rfl rfl ?_
      refine g_ishr (pc' := 60) dX5_seekFree_59 rfl ?_
      refine g_iconst (pc' := 61) (by unfold r32; decide) dX5_seekFree_60 rfl ?_
      refine g_iand (pc' := 62) dX5_seekFree_61 rfl ?_
      refine g_if_eq (pc' := 65) (tgt := 91) dX5_seekFree_62 rfl rfl (fun c2 => ?_) (fun c2 => ?_)
      · have h := h.1 c2
        refine g_iinc (pc' := 94) dX5_seekFree_91 rfl rfl (by decide) ?_
        refine g_goto (pc' := 43) dX5_seekFree_94 rfl ?_
        exact (ih _ h).to ((sb_c rfl (sb_c rfl (sb_c rfl (sb_c rfl sb_n)))))
      · have h := h.2 c2
        refine g_aload_n (pc' := 66) dX5_seekFree_65 rfl rfl ?_
        refine g_getR (pc' := 69) (r := 6) dX5_seekFree_66 rfl fl_RX5_38 kd_62 rfl rf_62_1 ?_
        refine g_iload (pc' := 71) dX5_seekFree_69 rfl rfl ?_
        obtain ⟨ob3, h⟩ := h
        refine g_V1i (pc' := 74) dX5_seekFree_71 rfl mv_RX5_114 kd_6 (by decide) (Nat.le_of_ble_eq_true rfl) (C_X4_upkeep kd_6 ob3) (sr_pur ?_)
        refine g_iload (pc' := 76) dX5_seekFree_74 rfl rfl ?_
        refine g_ic_lt (pc' := 79) (tgt := 91) dX5_seekFree_76 rfl rfl (fun c4 => ?_) (fun c4 => ?_)
        · have h := h.1 c4
          refine g_iinc (pc' := 94) dX5_seekFree_91 rfl rfl (by decide) ?_
          refine g_goto (pc' := 43) dX5_seekFree_94 rfl ?_
          exact (ih _ h).to ((sb_c rfl (sb_c rfl (sb_c rfl (sb_c rfl sb_n)))))
        · have h := h.2 c4
          exact (hK79 _ h).to ((sb_c rfl (sb_c rfl sb_n)))
def L_X5_seekFree_118 (v4 : Int) (v5 : Int) (v6 : Int) (s : Sto) (K174 : Int → Prop) (K193 : Prop) : Nat → Int → Prop
  | 0, _ => False
  | n + 1, v7 => ((s 6 6 ≤ v7 → K193) ∧ (¬ s 6 6 ≤ v7 → ((iA (iShr v4 v6) 1 = 0 → K193) ∧ (¬ iA (iShr v4 v6) 1 = 0 → ((iA (iShr v4 v7) 1 = 0 → L_X5_seekFree_118 v4 v5 v6 s K174 K193 n (w32 (v7 + 1))) ∧ (¬ iA (iShr v4 v7) 1 = 0 → (O_X4_upkeep 6 v6 s ∧ (O_X4_upkeep 6 v7 s ∧ ((w32 ((F_X4_upkeep 6 v6 s) + (F_X4_upkeep 6 v7 s)) < v5 → L_X5_seekFree_118 v4 v5 v6 s K174 K193 n (w32 (v7 + 1))) ∧ (¬ w32 ((F_X4_upkeep 6 v6 s) + (F_X4_upkeep 6 v7 s)) < v5 → K174 v7))))))))))
set_option maxRecDepth 100000 in
theorem SL_X5_seekFree_118 {v4 : Int} {v5 : Int} {v6 : Int} {s : Sto} {K174 : Int → Prop} {K193 : Prop} {Q : Int → Sto → Prop}  (hK174 : ∀ v7, K174 v7 → sr_G RX5 cX5_seekFree 8 none 2 174 [(0, vR 62), (6, vI v6), (7, vI v7)] [] s Q) (hK193 : K193 → sr_G RX5 cX5_seekFree 8 none 2 193 [(0, vR 62), (4, vI v4), (5, vI v5), (6, vI v6)] [] s Q) : ∀ n v7, L_X5_seekFree_118 v4 v5 v6 s K174 K193 n v7 → sr_G RX5 cX5_seekFree 8 none 2 118 [(0, vR 62), (4, vI v4), (5, vI v5), (6, vI v6), (7, vI v7)] [] s Q := by
  intro n
  induction n with
  | zero => intro v7 h; exact h.elim
  | succ n ih =>
    intro v7 h
    unfold L_X5_seekFree_118 at h
    refine g_iload (pc' := 120) dX5_seekFree_118 rfl rfl ?_
    refine g_aload_n (pc' := 121) dX5_seekFree_120 rfl rfl ?_
    refine g_getR (pc' := 124) (r := 6) dX5_seekFree_121 rfl fl_RX5_38 kd_62 rfl rf_62_1 ?_
    refine g_getI (pc' := 127) dX5_seekFree_124 rfl fl_RX5_111 kd_6 (Or.inl rfl) ?_
    refine g_ic_ge (pc' := 130) (tgt := 193) dX5_seekFree_127 rfl rfl (fun c1 => ?_) (fun c1 => ?_)
    · have h := h.1 c1
      exact (hK193 h).to ((sb_c rfl (sb_c rfl (sb_c rfl (sb_c rfl sb_n)))))
    · have h := h.2 c1
      refine g_iload (pc' := 132) dX5_seekFree_130 rfl rfl ?_
      refine g_iload (pc' := 134) dX5_seekFree_132 rfl rfl ?_
      refine g_ishr (pc' := 135) dX5_seekFree_134 rfl ?_
      refine g_iconst (pc' := 136) (by unfold r32; decide) dX5_seekFree_135 rfl ?_
      refine g_iand (pc' := 137) dX5_seekFree_136 rfl ?_
      refine g_if_eq (pc' := 140) (tgt := 193) dX5_seekFree_137 rfl rfl (fun c2 => ?_) (fun c2 => ?_)
      · have h := h.1 c2
        exact (hK193 h).to ((sb_c rfl (sb_c rfl (sb_c rfl (sb_c rfl sb_n)))))
      · have h := h.2 c2
        refine g_iload (pc' := 142) dX5_seekFree_140 rfl rfl ?_
        refine g_iload (pc' := 144) dX5_seekFree_142 rfl rfl ?_
        refine g_ishr (pc' := 145) dX5_seekFree_144 rfl ?_
        refine g_iconst (pc' := 146) (by unfold r32; decide) dX5_seekFree_145 rfl ?_
        refine g_iand (pc' := 147) dX5_seekFree_146 rfl ?_
        refine g_if_eq (pc' := 150) (tgt := 187) dX5_seekFree_147 rfl rfl (fun c3 => ?_) (fun c3 => ?_)
        · have h := h.1 c3
          refine g_iinc (pc' := 190) dX5_seekFree_187 rfl rfl (by decide) ?_
          refine g_goto (pc' := 118) dX5_seekFree_190 rfl ?_
          exact (ih _ h).to ((sb_c rfl (sb_c rfl (sb_c rfl (sb_c rfl (sb_c rfl sb_n))))))
        · have h := h.2 c3
          refine g_aload_n (pc' := 151) dX5_seekFree_150 rfl rfl ?_
          refine g_getR (pc' := 154) (r := 6) dX5_seekFree_151 rfl fl_RX5_38 kd_62 rfl rf_62_1 ?_
          refine g_iload (pc' := 156) dX5_seekFree_154 rfl rfl ?_
          obtain ⟨ob4, h⟩ := h
          refine g_V1i (pc' := 159) dX5_seekFree_156 rfl mv_RX5_114 kd_6 (by decide) (Nat.le_of_ble_eq_true rfl) (C_X4_upkeep kd_6 ob4) (sr_pur ?_)
          refine g_aload_n (pc' := 160) dX5_seekFree_159 rfl rfl ?_
          refine g_getR (pc' := 163) (r := 6) dX5_seekFree_160 rfl fl_RX5_38 kd_62 rfl rf_62_1 ?_
          refine g_iload (pc' := 165) dX5_seekFree_163 rfl rfl ?_
          obtain ⟨ob5, h⟩ := h
          refine g_V1i (pc' := 168) dX5_seekFree_165 rfl mv_RX5_114 kd_6 (by decide) (Nat.le_of_ble_eq_true rfl) (C_X4_upkeep kd_6 ob5) (sr_pur ?_)
          refine g_iadd (pc' := 169) dX5_seekFree_168 rfl ?_
          refine g_iload (pc' := 171) dX5_seekFree_169 rfl rfl ?_
          refine g_ic_lt (pc' := 174) (tgt := 187) dX5_seekFree_171 rfl rfl (fun c6 => ?_) (fun c6 => ?_)
          · have h := h.1 c6
            refine g_iinc (pc' := 190) dX5_seekFree_187 rfl rfl (by decide) ?_
            refine g_goto (pc' := 118) dX5_seekFree_190 rfl ?_
            exact (ih _ h).to ((sb_c rfl (sb_c rfl (sb_c rfl (sb_c rfl (sb_c rfl sb_n))))))
          · have h := h.2 c6
            exact (hK174 _ h).to ((sb_c rfl (sb_c rfl (sb_c rfl sb_n))))
def L_X5_seekFree_100 (v4 : Int) (v5 : Int) (s : Sto) (K174 : Int → Int → Prop) (K199 : Prop) : Nat → Int → Prop
  | 0, _ => False
  | n + 1, v6 => ((s 6 6 ≤ v6 → K199) ∧ (¬ s 6 6 ≤ v6 → (∀ x2 : Int, x2 = w32 (v6 + 1) → (∃ n4, L_X5_seekFree_118 v4 v5 v6 s (fun x3 => K174 v6 x3) (L_X5_seekFree_100 v4 v5 s K174 K199 n (w32 (v6 + 1))) n4 x2))))
set_option maxRecDepth 100000 in
theorem SL_X5_seekFree_100 {v4 : Int} {v5 : Int} {s : Sto} {K174 : Int → Int → Prop} {K199 : Prop} {Q : Int → Sto → Prop}  (hK174 : ∀ v6 v7, K174 v6 v7 → sr_G RX5 cX5_seekFree 8 none 2 174 [(0, vR 62), (6, vI v6), (7, vI v7)] [] s Q) (hK199 : K199 → sr_G RX5 cX5_seekFree 8 none 2 199 [(0, vR 62)] [] s Q) : ∀ n v6, L_X5_seekFree_100 v4 v5 s K174 K199 n v6 → sr_G RX5 cX5_seekFree 8 none 2 100 [(0, vR 62), (4, vI v4), (5, vI v5), (6, vI v6)] [] s Q := by
  intro n
  induction n with
  | zero => intro v6 h; exact h.elim
  | succ n ih =>
    intro v6 h
    unfold L_X5_seekFree_100 at h
    refine g_iload (pc' := 102) dX5_seekFree_100 rfl rfl ?_
    refine g_aload_n (pc' := 103) dX5_seekFree_102 rfl rfl ?_
    refine g_getR (pc' := 106) (r := 6) dX5_seekFree_103 rfl fl_RX5_38 kd_62 rfl rf_62_1 ?_
    refine g_getI (pc' := 109) dX5_seekFree_106 rfl fl_RX5_111 kd_6 (Or.inl rfl) ?_
    refine g_ic_ge (pc' := 112) (tgt := 199) dX5_seekFree_109 rfl rfl (fun c1 => ?_) (fun c1 => ?_)
    · have h := h.1 c1
      exact (hK199 h).to ((sb_c rfl sb_n))
    · have h := h.2 c1
      refine g_iload (pc' := 114) dX5_seekFree_112 rfl rfl ?_
      refine g_iconst (pc' := 115) (by unfold r32; decide) dX5_seekFree_114 rfl ?_
      refine g_iadd (pc' := 116) dX5_seekFree_115 rfl ?_
      refine g_topI (fun x2 ex2 => ?_)
      have h := h x2 ex2
      refine g_istore (pc' := 118) dX5_seekFree_116 rfl (by decide) ?_
      obtain ⟨n4, h⟩ := h
      refine (SL_X5_seekFree_118  (fun x3 h => ?_) (fun h => ?_) n4 _ h).to ((sb_c rfl (sb_c rfl (sb_c rfl (sb_c rfl (sb_c rfl sb_n))))))
      · exact (hK174 _ _ h).to ((sb_c rfl (sb_c rfl (sb_c rfl sb_n))))
      · refine g_iinc (pc' := 196) dX5_seekFree_193 rfl rfl (by decide) ?_
        refine g_goto (pc' := 100) dX5_seekFree_196 rfl ?_
        exact (ih _ h).to ((sb_c rfl (sb_c rfl (sb_c rfl (sb_c rfl sb_n)))))
def P_X5_seekFree (p1 : Nat) (v2 : Int) (v3 : Int) (s : Sto) (Q : Int → Sto → Prop) : Prop := (P_X6_wedBits p1 6 v2 s (fun r2 s1 => (P_X6_upkeepOf p1 6 v2 s1 (fun r4 s3 => (∀ x5 : Int, x5 = w32 (r4 - v3) → ((0 < x5 → (∃ n14, L_X5_seekFree_43 r2 x5 s3 (fun x7 => (∀ s8 : Sto, s8 = S_X2_become 1 x7 ((-1)) s3 → Q 0 s8)) ((∃ n13, L_X5_seekFree_100 r2 x5 s3 (fun x9 x10 => (∀ s11 : Sto, s11 = S_X2_become 2 x9 x10 s3 → Q 0 s11)) ((∀ s12 : Sto, s12 = S_X2_become ((-1)) ((-1)) ((-1)) s3 → Q 0 s12)) n13 0)) n14 0)) ∧ (¬ 0 < x5 → (∀ s15 : Sto, s15 = S_X2_become 0 ((-1)) ((-1)) s3 → Q 0 s15))))))))
set_option maxRecDepth 100000 in
theorem C_X5_seekFree {p1 : Nat} {v2 : Int} {v3 : Int} {s : Sto} {Q : Int → Sto → Prop} (hp1 : kd p1 = 16) (h : P_X5_seekFree p1 v2 v3 s Q) : sr_C yX5_seekFree cX5_seekFree 8 none 2 [vR 62, vR p1, vI v2, vI v3] s Q := by
  refine sr_C.of (by decide +kernel) (Nat.le_of_ble_eq_true rfl) ?_
  show sr_G RX5 cX5_seekFree 8 none 2 0 [(0, vR 62), (1, vR p1), (2, vI v2), (3, vI v3)] [] s Q
  unfold P_X5_seekFree at h
  refine g_aload_n (pc' := 1) dX5_seekFree_0 rfl rfl ?_
  refine g_aload_n (pc' := 2) dX5_seekFree_1 rfl rfl ?_
  refine g_getR (pc' := 5) (r := 6) dX5_seekFree_2 rfl fl_RX5_38 kd_62 rfl rf_62_1 ?_
  refine g_iload_n (pc' := 6) dX5_seekFree_5 rfl rfl ?_
  refine g_V2i (pc' := 9) dX5_seekFree_6 rfl mv_RX5_104 hp1 (by decide) (Nat.le_of_ble_eq_true rfl) (C_X6_wedBits hp1 kd_6 h) (fun r2 s1 h => ?_)
  refine g_istore (pc' := 11) dX5_seekFree_9 rfl (by decide) ?_
  refine g_aload_n (pc' := 12) dX5_seekFree_11 rfl rfl ?_
  refine g_aload_n (pc' := 13) dX5_seekFree_12 rfl rfl ?_
  refine g_getR (pc' := 16) (r := 6) dX5_seekFree_13 rfl fl_RX5_38 kd_62 rfl rf_62_1 ?_
  refine g_iload_n (pc' := 17) dX5_seekFree_16 rfl rfl ?_
  refine g_V2i (pc' := 20) dX5_seekFree_17 rfl mv_RX5_108 hp1 (by decide) (Nat.le_of_ble_eq_true rfl) (C_X6_upkeepOf hp1 kd_6 h) (fun r4 s3 h => ?_)
  refine g_iload_n (pc' := 21) dX5_seekFree_20 rfl rfl ?_
  refine g_isub (pc' := 22) dX5_seekFree_21 rfl ?_
  refine g_topI (fun x5 ex5 => ?_)
  have h := h x5 ex5
  refine g_istore (pc' := 24) dX5_seekFree_22 rfl (by decide) ?_
  refine g_iload (pc' := 26) dX5_seekFree_24 rfl rfl ?_
  refine g_if_gt (pc' := 29) (tgt := 40) dX5_seekFree_26 rfl rfl (fun c6 => ?_) (fun c6 => ?_)
  · have h := h.1 c6
    refine g_iconst (pc' := 41) (by unfold r32; decide) dX5_seekFree_40 rfl ?_
    refine g_istore (pc' := 43) dX5_seekFree_41 rfl (by decide) ?_
    obtain ⟨n14, h⟩ := h
    refine (SL_X5_seekFree_43  (fun x7 h => ?_) (fun h => ?_) n14 _ h).to ((sb_c rfl (sb_c rfl (sb_c rfl (sb_c rfl sb_n)))))
    · refine g_aload_n (pc' := 80) dX5_seekFree_79 rfl rfl ?_
      refine g_getR (pc' := 83) (r := 63) dX5_seekFree_80 rfl fl_RX5_30 kd_62 rfl rf_62_9 ?_
      refine g_iconst (pc' := 84) (by unfold r32; decide) dX5_seekFree_83 rfl ?_
      refine g_iload (pc' := 86) dX5_seekFree_84 rfl rfl ?_
      refine g_iconst (pc' := 87) (by unfold r32; decide) dX5_seekFree_86 rfl ?_
      refine g_V3v (pc' := 90) dX5_seekFree_87 rfl mv_RX5_91 kd_63 (by decide) (Nat.le_of_ble_eq_true rfl) C_X2_become (sr_purv ?_)
      refine g_sto (fun s8 es8 => ?_)
      have h := h s8 es8
      exact g_vret dX5_seekFree_90 rfl h
    · refine g_iconst (pc' := 98) (by unfold r32; decide) dX5_seekFree_97 rfl ?_
      refine g_istore (pc' := 100) dX5_seekFree_98 rfl (by decide) ?_
      obtain ⟨n13, h⟩ := h
      refine (SL_X5_seekFree_100  (fun x9 x10 h => ?_) (fun h => ?_) n13 _ h).to ((sb_c rfl (sb_c rfl (sb_c rfl (sb_c rfl sb_n)))))
      · refine g_aload_n (pc' := 175) dX5_seekFree_174 rfl rfl ?_
        refine g_getR (pc' := 178) (r := 63) dX5_seekFree_175 rfl fl_RX5_30 kd_62 rfl rf_62_9 ?_
        refine g_iconst (pc' := 179) (by unfold r32; decide) dX5_seekFree_178 rfl ?_
        refine g_iload (pc' := 181) dX5_seekFree_179 rfl rfl ?_
        refine g_iload (pc' := 183) dX5_seekFree_181 rfl rfl ?_
        refine g_V3v (pc' := 186) dX5_seekFree_183 rfl mv_RX5_91 kd_63 (by decide) (Nat.le_of_ble_eq_true rfl) C_X2_become (sr_purv ?_)
        refine g_sto (fun s11 es11 => ?_)
        have h := h s11 es11
        exact g_vret dX5_seekFree_186 rfl h
      · refine g_aload_n (pc' := 200) dX5_seekFree_199 rfl rfl ?_
        refine g_getR (pc' := 203) (r := 63) dX5_seekFree_200 rfl fl_RX5_30 kd_62 rfl rf_62_9 ?_
        refine g_iconst (pc' := 204) (by unfold r32; decide) dX5_seekFree_203 rfl ?_
        refine g_iconst (pc' := 205) (by unfold r32; decide) dX5_seekFree_204 rfl ?_
        refine g_iconst (pc' := 206) (by unfold r32; decide) dX5_seekFree_205 rfl ?_
        refine g_V3v (pc' := 209) dX5_seekFree_206 rfl mv_RX5_91 kd_63 (by decide) (Nat.le_of_ble_eq_true rfl) C_X2_become (sr_purv ?_)
        refine g_sto (fun s12 es12 => ?_)
        have h := h s12 es12
        exact g_vret dX5_seekFree_209 rfl h
  · have h := h.2 c6
    refine g_aload_n (pc' := 30) dX5_seekFree_29 rfl rfl ?_
    refine g_getR (pc' := 33) (r := 63) dX5_seekFree_30 rfl fl_RX5_30 kd_62 rfl rf_62_9 ?_
    refine g_iconst (pc' := 34) (by unfold r32; decide) dX5_seekFree_33 rfl ?_
    refine g_iconst (pc' := 35) (by unfold r32; decide) dX5_seekFree_34 rfl ?_
    refine g_iconst (pc' := 36) (by unfold r32; decide) dX5_seekFree_35 rfl ?_
    refine g_V3v (pc' := 39) dX5_seekFree_36 rfl mv_RX5_91 kd_63 (by decide) (Nat.le_of_ble_eq_true rfl) C_X2_become (sr_purv ?_)
    refine g_sto (fun s15 es15 => ?_)
    have h := h s15 es15
    exact g_vret dX5_seekFree_39 rfl h
def F_X7_isLost (o : Nat) (s : Sto) : Int := (if s o 0 = (-1) then 1 else 0)
set_option maxRecDepth 100000 in
theorem C_X7_isLost {o : Nat} {s : Sto} (ho : kd o = 17)  : sr_C yX7_isLost cX7_isLost 1 (some .boolean) 0 [vR o] s (fun r s' => r = F_X7_isLost o s ∧ s' = s ∧ (r = 0 ∨ r = 1)) := by
  refine sr_C.of (by decide +kernel) (Nat.le_of_ble_eq_true rfl) ?_
  show sr_G RX7 cX7_isLost 1 (some .boolean) 0 0 [(0, vR o)] [] s (fun r s' => r = F_X7_isLost o s ∧ s' = s ∧ (r = 0 ∨ r = 1))
  refine g_aload_n (pc' := 1) dX7_isLost_0 rfl rfl ?_
  refine g_getI (pc' := 4) dX7_isLost_1 rfl fl_RX7_9 ho (Or.inl rfl) ?_
  refine g_iconst (pc' := 5) (by unfold r32; decide) dX7_isLost_4 rfl ?_
  refine g_ic_ne (pc' := 8) (tgt := 12) dX7_isLost_5 rfl rfl (fun c1 => ?_) (fun c1 => ?_)
  · refine g_iconst (pc' := 13) (by unfold r32; decide) dX7_isLost_12 rfl ?_
    exact g_zret dX7_isLost_13 rfl (Or.inl rfl) ⟨(by simp only [F_X7_isLost, if_neg c1]), rfl, (Or.inl rfl)⟩
  · refine g_iconst (pc' := 9) (by unfold r32; decide) dX7_isLost_8 rfl ?_
    refine g_goto (pc' := 13) dX7_isLost_9 rfl ?_
    exact g_zret dX7_isLost_13 rfl (Or.inr rfl) ⟨(by simp only [F_X7_isLost, if_pos c1]), rfl, (Or.inr rfl)⟩
def P_X7_renew (o : Nat) (v1 : Int) (v2 : Int) (s : Sto) (Q : Int → Sto → Prop) : Prop := (∀ s1 : Sto, s1 = up s o 0 v1 → (∀ s2 : Sto, s2 = up s1 o 1 (F_J9_max_7cf53 0 (F_J9_min_7cf53 v2 60 s1) s1) → (P_J7_fill_53178 (o + 1) 0 s2 (fun _ s3 => Q 0 s3))))
set_option maxRecDepth 100000 in
theorem C_X7_renew {o : Nat} {v1 : Int} {v2 : Int} {s : Sto} {Q : Int → Sto → Prop} (ho : kd o = 17) (h : P_X7_renew o v1 v2 s Q) : sr_C yX7_renew cX7_renew 3 none 1 [vR o, vI v1, vI v2] s Q := by
  refine sr_C.of (by decide +kernel) (Nat.le_of_ble_eq_true rfl) ?_
  show sr_G RX7 cX7_renew 3 none 1 0 [(0, vR o), (1, vI v1), (2, vI v2)] [] s Q
  unfold P_X7_renew at h
  refine g_aload_n (pc' := 1) dX7_renew_0 rfl rfl ?_
  refine g_iload_n (pc' := 2) dX7_renew_1 rfl rfl ?_
  refine g_putI (pc' := 5) dX7_renew_2 rfl fp_RX7_9 ho rfl ?_
  refine g_sto (fun s1 es1 => ?_)
  have h := h s1 es1
  refine g_aload_n (pc' := 6) dX7_renew_5 rfl rfl ?_
  refine g_iconst (pc' := 7) (by unfold r32; decide) dX7_renew_6 rfl ?_
  refine g_iload_n (pc' := 8) dX7_renew_7 rfl rfl ?_
  refine g_bipush (pc' := 10) ⟨by unfold r32; decide, rfl⟩ dX7_renew_8 rfl ?_
  refine g_S2i (pc' := 13) dX7_renew_10 rfl ms_RX7_22 (by decide) (Nat.le_of_ble_eq_true rfl) C_J9_min_7cf53 (sr_pur ?_)
  refine g_S2i (pc' := 16) dX7_renew_13 rfl ms_RX7_28 (by decide) (Nat.le_of_ble_eq_true rfl) C_J9_max_7cf53 (sr_pur ?_)
  refine g_putI (pc' := 19) dX7_renew_16 rfl fp_RX7_15 ho rfl ?_
  refine g_sto (fun s2 es2 => ?_)
  have h := h s2 es2
  refine g_aload_n (pc' := 20) dX7_renew_19 rfl rfl ?_
  refine g_getR (pc' := 23) (r := o + 1) dX7_renew_20 rfl fl_RX7_18 ho rfl (ly_7_2 ho) ?_
  refine g_iconst (pc' := 24) (by unfold r32; decide) dX7_renew_23 rfl ?_
  refine g_S2v (pc' := 27) dX7_renew_24 rfl ms_RX7_31 (by decide) (Nat.le_of_ble_eq_true rfl) (C_J7_fill_53178 (lk_7_2 ho) h) (fun s3 h => ?_)
  exact g_vret dX7_renew_27 rfl h
def F_X7_hasItem (o : Nat) (v1 : Int) (s : Sto) : Int := (if v1 < 0 then 0 else (if s o 1 ≤ v1 then 0 else 1))
set_option maxRecDepth 100000 in
theorem C_X7_hasItem {o : Nat} {v1 : Int} {s : Sto} (ho : kd o = 17)  : sr_C yX7_hasItem cX7_hasItem 2 (some .boolean) 0 [vR o, vI v1] s (fun r s' => r = F_X7_hasItem o v1 s ∧ s' = s ∧ (r = 0 ∨ r = 1)) := by
  refine sr_C.of (by decide +kernel) (Nat.le_of_ble_eq_true rfl) ?_
  show sr_G RX7 cX7_hasItem 2 (some .boolean) 0 0 [(0, vR o), (1, vI v1)] [] s (fun r s' => r = F_X7_hasItem o v1 s ∧ s' = s ∧ (r = 0 ∨ r = 1))
  refine g_iload_n (pc' := 1) dX7_hasItem_0 rfl rfl ?_
  refine g_if_lt (pc' := 4) (tgt := 16) dX7_hasItem_1 rfl rfl (fun c1 => ?_) (fun c1 => ?_)
  · refine g_iconst (pc' := 17) (by unfold r32; decide) dX7_hasItem_16 rfl ?_
    exact g_zret dX7_hasItem_17 rfl (Or.inl rfl) ⟨(by simp only [F_X7_hasItem, if_pos c1]), rfl, (Or.inl rfl)⟩
  · refine g_iload_n (pc' := 5) dX7_hasItem_4 rfl rfl ?_
    refine g_aload_n (pc' := 6) dX7_hasItem_5 rfl rfl ?_
    refine g_getI (pc' := 9) dX7_hasItem_6 rfl fl_RX7_15 ho (Or.inl rfl) ?_
    refine g_ic_ge (pc' := 12) (tgt := 16) dX7_hasItem_9 rfl rfl (fun c2 => ?_) (fun c2 => ?_)
    · refine g_iconst (pc' := 17) (by unfold r32; decide) dX7_hasItem_16 rfl ?_
      exact g_zret dX7_hasItem_17 rfl (Or.inl rfl) ⟨(by simp only [F_X7_hasItem, if_neg c1, if_pos c2]), rfl, (Or.inl rfl)⟩
    · refine g_iconst (pc' := 13) (by unfold r32; decide) dX7_hasItem_12 rfl ?_
      refine g_goto (pc' := 17) dX7_hasItem_13 rfl ?_
      exact g_zret dX7_hasItem_17 rfl (Or.inr rfl) ⟨(by simp only [F_X7_hasItem, if_neg c1, if_neg c2]), rfl, (Or.inr rfl)⟩
def F_X7_trouble (o : Nat) (v1 : Int) (v2 : Int) (s : Sto) : Int := (if F_X7_isLost o s = 0 then (if s o 0 = v1 then (if F_X7_hasItem o v2 s = 0 then 2 else 0) else 3) else 1)
set_option maxRecDepth 100000 in
theorem C_X7_trouble {o : Nat} {v1 : Int} {v2 : Int} {s : Sto} (ho : kd o = 17)  : sr_C yX7_trouble cX7_trouble 3 (some .int) 1 [vR o, vI v1, vI v2] s (fun r s' => r = F_X7_trouble o v1 v2 s ∧ s' = s) := by
  refine sr_C.of (by decide +kernel) (Nat.le_of_ble_eq_true rfl) ?_
  show sr_G RX7 cX7_trouble 3 (some .int) 1 0 [(0, vR o), (1, vI v1), (2, vI v2)] [] s (fun r s' => r = F_X7_trouble o v1 v2 s ∧ s' = s)
  refine g_aload_n (pc' := 1) dX7_trouble_0 rfl rfl ?_
  refine g_V0z (pc' := 4) dX7_trouble_1 rfl mv_RX7_37 ho (by decide) (Nat.le_of_ble_eq_true rfl) (C_X7_isLost ho) (sr_purb (fun hb1 => ?_))
  refine g_if_eq (pc' := 7) (tgt := 11) dX7_trouble_4 rfl rfl (fun c2 => ?_) (fun c2 => ?_)
  · refine g_aload_n (pc' := 12) dX7_trouble_11 rfl rfl ?_
    refine g_getI (pc' := 15) dX7_trouble_12 rfl fl_RX7_9 ho (Or.inl rfl) ?_
    refine g_iload_n (pc' := 16) dX7_trouble_15 rfl rfl ?_
    refine g_ic_eq (pc' := 19) (tgt := 23) dX7_trouble_16 rfl rfl (fun c3 => ?_) (fun c3 => ?_)
    · refine g_aload_n (pc' := 24) dX7_trouble_23 rfl rfl ?_
      refine g_iload_n (pc' := 25) dX7_trouble_24 rfl rfl ?_
      refine g_V1z (pc' := 28) dX7_trouble_25 rfl mv_RX7_41 ho (by decide) (Nat.le_of_ble_eq_true rfl) (C_X7_hasItem ho) (sr_purb (fun hb4 => ?_))
      refine g_if_eq (pc' := 31) (tgt := 35) dX7_trouble_28 rfl rfl (fun c5 => ?_) (fun c5 => ?_)
      · refine g_iconst (pc' := 36) (by unfold r32; decide) dX7_trouble_35 rfl ?_
        exact g_iret dX7_trouble_36 rfl ⟨(by simp only [F_X7_trouble, if_pos c2, if_pos c3, if_pos c5]), rfl⟩
      · refine g_iconst (pc' := 32) (by unfold r32; decide) dX7_trouble_31 rfl ?_
        refine g_goto (pc' := 36) dX7_trouble_32 rfl ?_
        exact g_iret dX7_trouble_36 rfl ⟨(by simp only [F_X7_trouble, if_pos c2, if_pos c3, if_neg c5]), rfl⟩
    · refine g_iconst (pc' := 20) (by unfold r32; decide) dX7_trouble_19 rfl ?_
      refine g_goto (pc' := 36) dX7_trouble_20 rfl ?_
      exact g_iret dX7_trouble_36 rfl ⟨(by simp only [F_X7_trouble, if_pos c2, if_neg c3]), rfl⟩
  · refine g_iconst (pc' := 8) (by unfold r32; decide) dX7_trouble_7 rfl ?_
    refine g_goto (pc' := 36) dX7_trouble_8 rfl ?_
    exact g_iret dX7_trouble_36 rfl ⟨(by simp only [F_X7_trouble, if_neg c2]), rfl⟩
def F_X7_hasRun (o : Nat) (v1 : Int) (v2 : Int) (s : Sto) : Int := (if v1 < 0 then 0 else (if v2 < 0 then 0 else (if s o 1 < v1 then 0 else (if w32 ((s o 1) - v1) < v2 then 0 else 1))))
set_option maxRecDepth 100000 in
theorem C_X7_hasRun {o : Nat} {v1 : Int} {v2 : Int} {s : Sto} (ho : kd o = 17)  : sr_C yX7_hasRun cX7_hasRun 3 (some .boolean) 0 [vR o, vI v1, vI v2] s (fun r s' => r = F_X7_hasRun o v1 v2 s ∧ s' = s ∧ (r = 0 ∨ r = 1)) := by
  refine sr_C.of (by decide +kernel) (Nat.le_of_ble_eq_true rfl) ?_
  show sr_G RX7 cX7_hasRun 3 (some .boolean) 0 0 [(0, vR o), (1, vI v1), (2, vI v2)] [] s (fun r s' => r = F_X7_hasRun o v1 v2 s ∧ s' = s ∧ (r = 0 ∨ r = 1))
  refine g_iload_n (pc' := 1) dX7_hasRun_0 rfl rfl ?_
  refine g_if_lt (pc' := 4) (tgt := 30) dX7_hasRun_1 rfl rfl (fun c1 => ?_) (fun c1 => ?_)
  · refine g_iconst (pc' := 31) (by unfold r32; decide) dX7_hasRun_30 rfl ?_
    exact g_zret dX7_hasRun_31 rfl (Or.inl rfl) ⟨(by simp only [F_X7_hasRun, if_pos c1]), rfl, (Or.inl rfl)⟩
  · refine g_iload_n (pc' := 5) dX7_hasRun_4 rfl rfl ?_
    refine g_if_lt (pc' := 8) (tgt := 30) dX7_hasRun_5 rfl rfl (fun c2 => ?_) (fun c2 => ?_)
    · refine g_iconst (pc' := 31) (by unfold r32; decide) dX7_hasRun_30 rfl ?_
      exact g_zret dX7_hasRun_31 rfl (Or.inl rfl) ⟨(by simp only [F_X7_hasRun, if_neg c1, if_pos c2]), rfl, (Or.inl rfl)⟩
    · refine g_iload_n (pc' := 9) dX7_hasRun_8 rfl rfl ?_
      refine g_aload_n (pc' := 10) dX7_hasRun_9 rfl rfl ?_
      refine g_getI (pc' := 13) dX7_hasRun_10 rfl fl_RX7_15 ho (Or.inl rfl) ?_
      refine g_ic_gt (pc' := 16) (tgt := 30) dX7_hasRun_13 rfl rfl (fun c3 => ?_) (fun c3 => ?_)
      · refine g_iconst (pc' := 31) (by unfold r32; decide) dX7_hasRun_30 rfl ?_
        exact g_zret dX7_hasRun_31 rfl (Or.inl rfl) ⟨(by simp only [F_X7_hasRun, if_neg c1, if_neg c2, if_pos c3]), rfl, (Or.inl rfl)⟩
      · refine g_iload_n (pc' := 17) dX7_hasRun_16 rfl rfl ?_
        refine g_aload_n (pc' := 18) dX7_hasRun_17 rfl rfl ?_
        refine g_getI (pc' := 21) dX7_hasRun_18 rfl fl_RX7_15 ho (Or.inl rfl) ?_
        refine g_iload_n (pc' := 22) dX7_hasRun_21 rfl rfl ?_
        refine g_isub (pc' := 23) dX7_hasRun_22 rfl ?_
        refine g_ic_gt (pc' := 26) (tgt := 30) dX7_hasRun_23 rfl rfl (fun c4 => ?_) (fun c4 => ?_)
        · refine g_iconst (pc' := 31) (by unfold r32; decide) dX7_hasRun_30 rfl ?_
          exact g_zret dX7_hasRun_31 rfl (Or.inl rfl) ⟨(by simp only [F_X7_hasRun, if_neg c1, if_neg c2, if_neg c3, if_pos c4]), rfl, (Or.inl rfl)⟩
        · refine g_iconst (pc' := 27) (by unfold r32; decide) dX7_hasRun_26 rfl ?_
          refine g_goto (pc' := 31) dX7_hasRun_27 rfl ?_
          exact g_zret dX7_hasRun_31 rfl (Or.inr rfl) ⟨(by simp only [F_X7_hasRun, if_neg c1, if_neg c2, if_neg c3, if_neg c4]), rfl, (Or.inr rfl)⟩
def F_X7_item (o : Nat) (v1 : Int) (s : Sto) : Int := (if F_X7_hasItem o v1 s = 0 then 0 else s (o + 1) v1.toNat)
def O_X7_item (o : Nat) (v1 : Int) (s : Sto) : Prop := ((F_X7_hasItem o v1 s = 0 → True) ∧ (¬ F_X7_hasItem o v1 s = 0 → (inb v1 60 ∧ True)))
set_option maxRecDepth 100000 in
theorem C_X7_item {o : Nat} {v1 : Int} {s : Sto} (ho : kd o = 17) (h : O_X7_item o v1 s) : sr_C yX7_item cX7_item 2 (some .int) 1 [vR o, vI v1] s (fun r s' => r = F_X7_item o v1 s ∧ s' = s) := by
  refine sr_C.of (by decide +kernel) (Nat.le_of_ble_eq_true rfl) ?_
  show sr_G RX7 cX7_item 2 (some .int) 1 0 [(0, vR o), (1, vI v1)] [] s (fun r s' => r = F_X7_item o v1 s ∧ s' = s)
  unfold O_X7_item at h
  refine g_aload_n (pc' := 1) dX7_item_0 rfl rfl ?_
  refine g_iload_n (pc' := 2) dX7_item_1 rfl rfl ?_
  refine g_V1z (pc' := 5) dX7_item_2 rfl mv_RX7_41 ho (by decide) (Nat.le_of_ble_eq_true rfl) (C_X7_hasItem ho) (sr_purb (fun hb1 => ?_))
  refine g_if_eq (pc' := 8) (tgt := 17) dX7_item_5 rfl rfl (fun c2 => ?_) (fun c2 => ?_)
  · have h := h.1 c2
    refine g_iconst (pc' := 18) (by unfold r32; decide) dX7_item_17 rfl ?_
    exact g_iret dX7_item_18 rfl ⟨(by simp only [F_X7_item, if_pos c2]), rfl⟩
  · have h := h.2 c2
    refine g_aload_n (pc' := 9) dX7_item_8 rfl rfl ?_
    refine g_getR (pc' := 12) (r := o + 1) dX7_item_9 rfl fl_RX7_18 ho rfl (ly_7_2 ho) ?_
    refine g_iload_n (pc' := 13) dX7_item_12 rfl rfl ?_
    obtain ⟨ob3, h⟩ := h
    refine g_iald (pc' := 14) dX7_item_13 rfl (lk_7_2 ho) (Eq.mpr (congrArg (inb _) (la_7_2 ho)) ob3) ?_
    refine g_goto (pc' := 18) dX7_item_14 rfl ?_
    exact g_iret dX7_item_18 rfl ⟨(by simp only [F_X7_item, if_neg c2]), rfl⟩
def S_X7_put (o : Nat) (v1 : Int) (v2 : Int) (s : Sto) : Sto := (if F_X7_hasItem o v1 s = 0 then s else (if s o 0 = 0 then up s (o + 1) v1.toNat (w8 v2) else (if s o 0 = 1 then up s (o + 1) v1.toNat (w16 v2) else up s (o + 1) v1.toNat v2)))
def O_X7_put (o : Nat) (v1 : Int) (v2 : Int) (s : Sto) : Prop := ((F_X7_hasItem o v1 s = 0 → True) ∧ (¬ F_X7_hasItem o v1 s = 0 → ((s o 0 = 0 → (inb v1 60 ∧ True)) ∧ (¬ s o 0 = 0 → ((s o 0 = 1 → (inb v1 60 ∧ True)) ∧ (¬ s o 0 = 1 → (inb v1 60 ∧ True)))))))
set_option maxRecDepth 100000 in
theorem C_X7_put {o : Nat} {v1 : Int} {v2 : Int} {s : Sto} (ho : kd o = 17) (h : O_X7_put o v1 v2 s) : sr_C yX7_put cX7_put 3 none 1 [vR o, vI v1, vI v2] s (fun r s' => r = 0 ∧ s' = S_X7_put o v1 v2 s) := by
  refine sr_C.of (by decide +kernel) (Nat.le_of_ble_eq_true rfl) ?_
  show sr_G RX7 cX7_put 3 none 1 0 [(0, vR o), (1, vI v1), (2, vI v2)] [] s (fun r s' => r = 0 ∧ s' = S_X7_put o v1 v2 s)
  unfold O_X7_put at h
  refine g_aload_n (pc' := 1) dX7_put_0 rfl rfl ?_
  refine g_iload_n (pc' := 2) dX7_put_1 rfl rfl ?_
  refine g_V1z (pc' := 5) dX7_put_2 rfl mv_RX7_41 ho (by decide) (Nat.le_of_ble_eq_true rfl) (C_X7_hasItem ho) (sr_purb (fun hb1 => ?_))
  refine g_if_eq (pc' := 8) (tgt := 40) dX7_put_5 rfl rfl (fun c2 => ?_) (fun c2 => ?_)
  · have h := h.1 c2
    exact g_vret dX7_put_40 rfl ⟨rfl, (by simp only [S_X7_put, if_pos c2])⟩
  · have h := h.2 c2
    refine g_aload_n (pc' := 9) dX7_put_8 rfl rfl ?_
    refine g_getR (pc' := 12) (r := o + 1) dX7_put_9 rfl fl_RX7_18 ho rfl (ly_7_2 ho) ?_
    refine g_iload_n (pc' := 13) dX7_put_12 rfl rfl ?_
    refine g_aload_n (pc' := 14) dX7_put_13 rfl rfl ?_
    refine g_getI (pc' := 17) dX7_put_14 rfl fl_RX7_9 ho (Or.inl rfl) ?_
    refine g_if_ne (pc' := 20) (tgt := 25) dX7_put_17 rfl rfl (fun c3 => ?_) (fun c3 => ?_)
    · have h := h.2 c3
      refine g_aload_n (pc' := 26) dX7_put_25 rfl rfl ?_
      refine g_getI (pc' := 29) dX7_put_26 rfl fl_RX7_9 ho (Or.inl rfl) ?_
      refine g_iconst (pc' := 30) (by unfold r32; decide) dX7_put_29 rfl ?_
      refine g_ic_ne (pc' := 33) (tgt := 38) dX7_put_30 rfl rfl (fun c5 => ?_) (fun c5 => ?_)
      · have h := h.2 c5
        refine g_iload_n (pc' := 39) dX7_put_38 rfl rfl ?_
        obtain ⟨ob7, h⟩ := h
        refine g_iast (pc' := 40) dX7_put_39 rfl (lk_7_2 ho) (Eq.mpr (congrArg (inb _) (la_7_2 ho)) ob7) ?_
        exact g_vret dX7_put_40 rfl ⟨rfl, (by simp only [S_X7_put, if_neg c2, if_neg c3, if_neg c5])⟩
      · have h := h.1 c5
        refine g_iload_n (pc' := 34) dX7_put_33 rfl rfl ?_
        refine g_i2s (pc' := 35) dX7_put_34 rfl ?_
        refine g_goto (pc' := 39) dX7_put_35 rfl ?_
        obtain ⟨ob6, h⟩ := h
        refine g_iast (pc' := 40) dX7_put_39 rfl (lk_7_2 ho) (Eq.mpr (congrArg (inb _) (la_7_2 ho)) ob6) ?_
        exact g_vret dX7_put_40 rfl ⟨rfl, (by simp only [S_X7_put, if_neg c2, if_neg c3, if_pos c5])⟩
    · have h := h.1 c3
      refine g_iload_n (pc' := 21) dX7_put_20 rfl rfl ?_
      refine g_i2b (pc' := 22) dX7_put_21 rfl ?_
      refine g_goto (pc' := 39) dX7_put_22 rfl ?_
      obtain ⟨ob4, h⟩ := h
      refine g_iast (pc' := 40) dX7_put_39 rfl (lk_7_2 ho) (Eq.mpr (congrArg (inb _) (la_7_2 ho)) ob4) ?_
      exact g_vret dX7_put_40 rfl ⟨rfl, (by simp only [S_X7_put, if_neg c2, if_pos c3])⟩
def F_X8_note (v1 : Int) (v2 : Int) (s : Sto) : Int := (if s 26 2 < 8 then 1 else 0)
def S_X8_note (v1 : Int) (v2 : Int) (s : Sto) : Sto := (if s 26 2 < 8 then up (up (up s 27 (s 26 2).toNat v1) 28 (up s 27 (s 26 2).toNat v1 26 2).toNat v2) 26 2 (w32 ((up (up s 27 (s 26 2).toNat v1) 28 (up s 27 (s 26 2).toNat v1 26 2).toNat v2 26 2) + 1)) else s)
def O_X8_note (v1 : Int) (v2 : Int) (s : Sto) : Prop := ((s 26 2 < 8 → (inb (s 26 2) 8 ∧ (inb (up s 27 (s 26 2).toNat v1 26 2) 8 ∧ True))) ∧ (¬ s 26 2 < 8 → True))
set_option maxRecDepth 100000 in
theorem C_X8_note {v1 : Int} {v2 : Int} {s : Sto}  (h : O_X8_note v1 v2 s) : sr_C yX8_note cX8_note 3 (some .boolean) 0 [vR 26, vI v1, vI v2] s (fun r s' => r = F_X8_note v1 v2 s ∧ s' = S_X8_note v1 v2 s ∧ (r = 0 ∨ r = 1)) := by
  refine sr_C.of (by decide +kernel) (Nat.le_of_ble_eq_true rfl) ?_
  show sr_G RX8 cX8_note 3 (some .boolean) 0 0 [(0, vR 26), (1, vI v1), (2, vI v2)] [] s (fun r s' => r = F_X8_note v1 v2 s ∧ s' = S_X8_note v1 v2 s ∧ (r = 0 ∨ r = 1))
  unfold O_X8_note at h
  refine g_aload_n (pc' := 1) dX8_note_0 rfl rfl ?_
  refine g_getI (pc' := 4) dX8_note_1 rfl fl_RX8_18 kd_26 (Or.inl rfl) ?_
  refine g_bipush (pc' := 6) ⟨by unfold r32; decide, rfl⟩ dX8_note_4 rfl ?_
  refine g_ic_lt (pc' := 9) (tgt := 11) dX8_note_6 rfl rfl (fun c1 => ?_) (fun c1 => ?_)
  · have h := h.1 c1
    refine g_aload_n (pc' := 12) dX8_note_11 rfl rfl ?_
    refine g_getR (pc' := 15) (r := 27) dX8_note_12 rfl fl_RX8_9 kd_26 rfl rf_26_0 ?_
    refine g_aload_n (pc' := 16) dX8_note_15 rfl rfl ?_
    refine g_getI (pc' := 19) dX8_note_16 rfl fl_RX8_18 kd_26 (Or.inl rfl) ?_
    refine g_iload_n (pc' := 20) dX8_note_19 rfl rfl ?_
    obtain ⟨ob2, h⟩ := h
    refine g_iast (pc' := 21) dX8_note_20 rfl kd_27 ob2 ?_
    refine g_aload_n (pc' := 22) dX8_note_21 rfl rfl ?_
    refine g_getR (pc' := 25) (r := 28) dX8_note_22 rfl fl_RX8_15 kd_26 rfl rf_26_1 ?_
    refine g_aload_n (pc' := 26) dX8_note_25 rfl rfl ?_
    refine g_getI (pc' := 29) dX8_note_26 rfl fl_RX8_18 kd_26 (Or.inl rfl) ?_
    refine g_iload_n (pc' := 30) dX8_note_29 rfl rfl ?_
    obtain ⟨ob3, h⟩ := h
    refine g_iast (pc' := 31) dX8_note_30 rfl kd_28 ob3 ?_
    refine g_aload_n (pc' := 32) dX8_note_31 rfl rfl ?_
    refine g_dupR (pc' := 33) dX8_note_32 rfl ?_
    refine g_getI (pc' := 36) dX8_note_33 rfl fl_RX8_18 kd_26 (Or.inl rfl) ?_
    refine g_iconst (pc' := 37) (by unfold r32; decide) dX8_note_36 rfl ?_
    refine g_iadd (pc' := 38) dX8_note_37 rfl ?_
    refine g_putI (pc' := 41) dX8_note_38 rfl fp_RX8_18 kd_26 rfl ?_
    refine g_iconst (pc' := 42) (by unfold r32; decide) dX8_note_41 rfl ?_
    exact g_zret dX8_note_42 rfl (Or.inr rfl) ⟨(by simp only [F_X8_note, if_pos c1]), (by simp only [S_X8_note, if_pos c1]), (Or.inr rfl)⟩
  · have h := h.2 c1
    refine g_iconst (pc' := 10) (by unfold r32; decide) dX8_note_9 rfl ?_
    exact g_zret dX8_note_10 rfl (Or.inl rfl) ⟨(by simp only [F_X8_note, if_neg c1]), (by simp only [S_X8_note, if_neg c1]), (Or.inl rfl)⟩
def F_X9_append (o : Nat) (v1 : Int) (s : Sto) : Int := (if s o 1 < (al (o + 1) : Int) then 1 else 0)
def S_X9_append (o : Nat) (v1 : Int) (s : Sto) : Sto := (if s o 1 < (al (o + 1) : Int) then up (up s (o + 1) (s o 1).toNat v1) o 1 (w32 ((up s (o + 1) (s o 1).toNat v1 o 1) + 1)) else s)
def O_X9_append (o : Nat) (v1 : Int) (s : Sto) : Prop := ((s o 1 < (al (o + 1) : Int) → (inb (s o 1) (al (o + 1)) ∧ True)) ∧ (¬ s o 1 < (al (o + 1) : Int) → True))
set_option maxRecDepth 100000 in
theorem C_X9_append {o : Nat} {v1 : Int} {s : Sto} (ho : kd o = 19) (h : O_X9_append o v1 s) : sr_C yX9_append cX9_append 2 (some .boolean) 0 [vR o, vI v1] s (fun r s' => r = F_X9_append o v1 s ∧ s' = S_X9_append o v1 s ∧ (r = 0 ∨ r = 1)) := by
  refine sr_C.of (by decide +kernel) (Nat.le_of_ble_eq_true rfl) ?_
  show sr_G RX9 cX9_append 2 (some .boolean) 0 0 [(0, vR o), (1, vI v1)] [] s (fun r s' => r = F_X9_append o v1 s ∧ s' = S_X9_append o v1 s ∧ (r = 0 ∨ r = 1))
  unfold O_X9_append at h
  refine g_aload_n (pc' := 1) dX9_append_0 rfl rfl ?_
  refine g_getI (pc' := 4) dX9_append_1 rfl fl_RX9_9 ho (Or.inl rfl) ?_
  refine g_aload_n (pc' := 5) dX9_append_4 rfl rfl ?_
  refine g_getR (pc' := 8) (r := o + 1) dX9_append_5 rfl fl_RX9_21 ho rfl (ly_9_0 ho) ?_
  refine g_alen (pc' := 9) (n := (al (o + 1) : Int)) dX9_append_8 rfl (by rw [(lk_9_0 ho)]; decide) (by rw [(lk_9_0 ho)]; decide) rfl (al_r _) ?_
  refine g_ic_lt (pc' := 12) (tgt := 14) dX9_append_9 rfl rfl (fun c1 => ?_) (fun c1 => ?_)
  · have h := h.1 c1
    refine g_aload_n (pc' := 15) dX9_append_14 rfl rfl ?_
    refine g_getR (pc' := 18) (r := o + 1) dX9_append_15 rfl fl_RX9_21 ho rfl (ly_9_0 ho) ?_
    refine g_aload_n (pc' := 19) dX9_append_18 rfl rfl ?_
    refine g_getI (pc' := 22) dX9_append_19 rfl fl_RX9_9 ho (Or.inl rfl) ?_
    refine g_iload_n (pc' := 23) dX9_append_22 rfl rfl ?_
    obtain ⟨ob2, h⟩ := h
    refine g_iast (pc' := 24) dX9_append_23 rfl (lk_9_0 ho) ob2 ?_
    refine g_aload_n (pc' := 25) dX9_append_24 rfl rfl ?_
    refine g_dupR (pc' := 26) dX9_append_25 rfl ?_
    refine g_getI (pc' := 29) dX9_append_26 rfl fl_RX9_9 ho (Or.inl rfl) ?_
    refine g_iconst (pc' := 30) (by unfold r32; decide) dX9_append_29 rfl ?_
    refine g_iadd (pc' := 31) dX9_append_30 rfl ?_
    refine g_putI (pc' := 34) dX9_append_31 rfl fp_RX9_9 ho rfl ?_
    refine g_iconst (pc' := 35) (by unfold r32; decide) dX9_append_34 rfl ?_
    exact g_zret dX9_append_35 rfl (Or.inr rfl) ⟨(by simp only [F_X9_append, if_pos c1]), (by simp only [S_X9_append, if_pos c1]), (Or.inr rfl)⟩
  · have h := h.2 c1
    refine g_iconst (pc' := 13) (by unfold r32; decide) dX9_append_12 rfl ?_
    exact g_zret dX9_append_13 rfl (Or.inl rfl) ⟨(by simp only [F_X9_append, if_neg c1]), (by simp only [S_X9_append, if_neg c1]), (Or.inl rfl)⟩
def L_X10_firstFault_9 (p0 : Nat) (s : Sto) (K42 : Int → Prop) (K89 : Int → Prop) (K98 : Int → Prop) (K107 : Int → Int → Prop) : Nat → Int → Int → Int → Int → Prop
  | 0, _, _, _, _ => False
  | n + 1, v1, v2, v3, v4 => ((s p0 1 ≤ v4 → K107 v2 v3) ∧ (¬ s p0 1 ≤ v4 → (O_X9_sign p0 v4 s ∧ (∀ x3 : Int, x3 = F_X9_sign p0 v4 s → ((x3 = 59 → ((v2 = 0 → K42 v4) ∧ (¬ v2 = 0 → ((v3 ≤ v2 → L_X10_firstFault_9 p0 s K42 K89 K98 K107 n (w32 (v1 + 1)) 0 v2 (w32 (v4 + 1))) ∧ (¬ v3 ≤ v2 → K42 v4))))) ∧ (¬ x3 = 59 → ((x3 = 46 → ((6 ≤ v1 → K89 v4) ∧ (¬ 6 ≤ v1 → (∀ x9 : Int, x9 = (if v1 = 0 then 6 else v3) → ((v2 < x9 → L_X10_firstFault_9 p0 s K42 K89 K98 K107 n v1 (w32 (v2 + 1)) v3 (w32 (v4 + 1))) ∧ (¬ v2 < x9 → K89 v4)))))) ∧ (¬ x3 = 46 → ((x3 = 35 → ((6 ≤ v1 → K89 v4) ∧ (¬ 6 ≤ v1 → (∀ x14 : Int, x14 = (if v1 = 0 then 6 else v3) → ((v2 < x14 → L_X10_firstFault_9 p0 s K42 K89 K98 K107 n v1 (w32 (v2 + 1)) v3 (w32 (v4 + 1))) ∧ (¬ v2 < x14 → K89 v4)))))) ∧ (¬ x3 = 35 → K98 v4))))))))))
set_option maxRecDepth 100000 in
theorem SL_X10_firstFault_9 {p0 : Nat} {s : Sto} {K42 : Int → Prop} {K89 : Int → Prop} {K98 : Int → Prop} {K107 : Int → Int → Prop} {Q : Int → Sto → Prop} (hp0 : kd p0 = 19) (hK42 : ∀ v4, K42 v4 → sr_G RX10 cX10_firstFault 6 (some .int) 1 42 [(4, vI v4)] [] s Q) (hK89 : ∀ v4, K89 v4 → sr_G RX10 cX10_firstFault 6 (some .int) 1 89 [(4, vI v4)] [] s Q) (hK98 : ∀ v4, K98 v4 → sr_G RX10 cX10_firstFault 6 (some .int) 1 98 [(4, vI v4)] [] s Q) (hK107 : ∀ v2 v3, K107 v2 v3 → sr_G RX10 cX10_firstFault 6 (some .int) 1 107 [(0, vR p0), (2, vI v2), (3, vI v3)] [] s Q) : ∀ n v1 v2 v3 v4, L_X10_firstFault_9 p0 s K42 K89 K98 K107 n v1 v2 v3 v4 → sr_G RX10 cX10_firstFault 6 (some .int) 1 9 [(0, vR p0), (1, vI v1), (2, vI v2), (3, vI v3), (4, vI v4)] [] s Q := by
  intro n
  induction n with
  | zero => intro v1 v2 v3 v4 h; exact h.elim
  | succ n ih =>
    intro v1 v2 v3 v4 h
    unfold L_X10_firstFault_9 at h
    refine g_iload (pc' := 11) dX10_firstFault_9 rfl rfl ?_
    refine g_aload_n (pc' := 12) dX10_firstFault_11 rfl rfl ?_
    refine g_getI (pc' := 15) dX10_firstFault_12 rfl fl_RX10_34 hp0 (Or.inl rfl) ?_
    refine g_ic_ge (pc' := 18) (tgt := 107) dX10_firstFault_15 rfl rfl (fun c1 => ?_) (fun c1 => ?_)
    · have h := h.1 c1
      exact (hK107 _ _ h).to ((sb_c rfl (sb_c rfl (sb_c rfl sb_n))))
    · have h := h.2 c1
      refine g_aload_n (pc' := 19) dX10_firstFault_18 rfl rfl ?_
      refine g_iload (pc' := 21) dX10_firstFault_19 rfl rfl ?_
      obtain ⟨ob2, h⟩ := h
      refine g_V1i (pc' := 24) dX10_firstFault_21 rfl mv_RX10_39 hp0 (by decide) (Nat.le_of_ble_eq_true rfl) (C_X9_sign hp0 ob2) (sr_pur ?_)
      refine g_topI (fun x3 ex3 => ?_)
      have h := h x3 ex3
      refine g_istore (pc' := 26) dX10_firstFault_24 rfl (by decide) ?_
      refine g_iload (pc' := 28) dX10_firstFault_26 rfl rfl ?_
      refine g_bipush (pc' := 30) ⟨by unfold r32; decide, rfl⟩ dX10_firstFault_28 rfl ?_
      refine g_ic_ne (pc' := 33) (tgt := 55) dX10_firstFault_30 rfl rfl (fun c4 => ?_) (fun c4 => ?_)
      · have h := h.2 c4
        refine g_iload (pc' := 57) dX10_firstFault_55 rfl rfl ?_
        refine g_bipush (pc' := 59) ⟨by unfold r32; decide, rfl⟩ dX10_firstFault_57 rfl ?_
        refine g_ic_eq (pc' := 62) (tgt := 69) dX10_firstFault_59 rfl rfl (fun c7 => ?_) (fun c7 => ?_)
        · have h := h.1 c7
          refine g_iload_n (pc' := 70) dX10_firstFault_69 rfl rfl ?_
          refine g_bipush (pc' := 72) ⟨by unfold r32; decide, rfl⟩ dX10_firstFault_70 rfl ?_
          refine g_ic_ge (pc' := 75) (tgt := 89) dX10_firstFault_72 rfl rfl (fun c8 => ?_) (fun c8 => ?_)
          · have h := h.1 c8
            exact (hK89 _ h).to ((sb_c rfl sb_n))
          · have h := h.2 c8
            refine g_iload_n (pc' := 76) dX10_firstFault_75 rfl rfl ?_
            refine g_iload_n (pc' := 77) dX10_firstFault_76 rfl rfl ?_
            refine sr_join (v := (if v1 = 0 then 6 else v3)) (GG := fun x9 => sr_G RX10 cX10_firstFault 6 (some .int) 1 86 [(0, vR p0), (1, vI v1), (2, vI v2), (3, vI v3), (4, vI v4)] [vI x9, vI v2] s Q) (fun x9 ex9 => ?_) (fun hj => ?_)
            · have h := h x9 ex9
              refine g_ic_lt (pc' := 89) (tgt := 92) dX10_firstFault_86 rfl rfl (fun c11 => ?_) (fun c11 => ?_)
              · have h := h.1 c11
                refine g_iinc (pc' := 95) dX10_firstFault_92 rfl rfl (by decide) ?_
                refine g_goto (pc' := 101) dX10_firstFault_95 rfl ?_
                refine g_iinc (pc' := 104) dX10_firstFault_101 rfl rfl (by decide) ?_
                refine g_goto (pc' := 9) dX10_firstFault_104 rfl ?_
                exact (ih _ _ _ _ h).to ((sb_c rfl (sb_c rfl (sb_c rfl (sb_c rfl (sb_c rfl sb_n))))))
              · have h := h.2 c11
                exact (hK89 _ h).to ((sb_c rfl sb_n))
            · refine g_if_ne (pc' := 80) (tgt := 85) dX10_firstFault_77 rfl rfl (fun c10 => ?_) (fun c10 => ?_)
              · refine g_iload_n (pc' := 86) dX10_firstFault_85 rfl rfl ?_
                exact (hj _ (by rw [if_neg c10])).to ((sb_c rfl (sb_c rfl (sb_c rfl (sb_c rfl (sb_c rfl sb_n))))))
              · refine g_bipush (pc' := 82) ⟨by unfold r32; decide, rfl⟩ dX10_firstFault_80 rfl ?_
                refine g_goto (pc' := 86) dX10_firstFault_82 rfl ?_
                exact (hj _ (by rw [if_pos c10])).to ((sb_c rfl (sb_c rfl (sb_c rfl (sb_c rfl (sb_c rfl sb_n))))))
        · have h := h.2 c7
          refine g_iload (pc' := 64) dX10_firstFault_62 rfl rfl ?_
          refine g_bipush (pc' := 66) ⟨by unfold r32; decide, rfl⟩ dX10_firstFault_64 rfl ?_
          refine g_ic_ne (pc' := 69) (tgt := 98) dX10_firstFault_66 rfl rfl (fun c12 => ?_) (fun c12 => ?_)
          · have h := h.2 c12
            exact (hK98 _ h).to ((sb_c rfl sb_n))
          · have h := h.1 c12
            refine g_iload_n (pc' := 70) dX10_firstFault_69 rfl rfl ?_
            refine g_bipush (pc' := 72) ⟨by unfold r32; decide, rfl⟩ dX10_firstFault_70 rfl ?_
            refine g_ic_ge (pc' := 75) (tgt := 89) dX10_firstFault_72 rfl rfl (fun c13 => ?_) (fun c13 => ?_)
            · have h := h.1 c13
              exact (hK89 _ h).to ((sb_c rfl sb_n))
            · have h := h.2 c13
              refine g_iload_n (pc' := 76) dX10_firstFault_75 rfl rfl ?_
              refine g_iload_n (pc' := 77) dX10_firstFault_76 rfl rfl ?_
              refine sr_join (v := (if v1 = 0 then 6 else v3)) (GG := fun x14 => sr_G RX10 cX10_firstFault 6 (some .int) 1 86 [(0, vR p0), (1, vI v1), (2, vI v2), (3, vI v3), (4, vI v4)] [vI x14, vI v2] s Q) (fun x14 ex14 => ?_) (fun hj => ?_)
              · have h := h x14 ex14
                refine g_ic_lt (pc' := 89) (tgt := 92) dX10_firstFault_86 rfl rfl (fun c16 => ?_) (fun c16 => ?_)
                · have h := h.1 c16
                  refine g_iinc (pc' := 95) dX10_firstFault_92 rfl rfl (by decide) ?_
                  refine g_goto (pc' := 101) dX10_firstFault_95 rfl ?_
                  refine g_iinc (pc' := 104) dX10_firstFault_101 rfl rfl (by decide) ?_
                  refine g_goto (pc' := 9) dX10_firstFault_104 rfl ?_
                  exact (ih _ _ _ _ h).to ((sb_c rfl (sb_c rfl (sb_c rfl (sb_c rfl (sb_c rfl sb_n))))))
                · have h := h.2 c16
                  exact (hK89 _ h).to ((sb_c rfl sb_n))
              · refine g_if_ne (pc' := 80) (tgt := 85) dX10_firstFault_77 rfl rfl (fun c15 => ?_) (fun c15 => ?_)
                · refine g_iload_n (pc' := 86) dX10_firstFault_85 rfl rfl ?_
                  exact (hj _ (by rw [if_neg c15])).to ((sb_c rfl (sb_c rfl (sb_c rfl (sb_c rfl (sb_c rfl sb_n))))))
                · refine g_bipush (pc' := 82) ⟨by unfold r32; decide, rfl⟩ dX10_firstFault_80 rfl ?_
                  refine g_goto (pc' := 86) dX10_firstFault_82 rfl ?_
                  exact (hj _ (by rw [if_pos c15])).to ((sb_c rfl (sb_c rfl (sb_c rfl (sb_c rfl (sb_c rfl sb_n))))))
      · have h := h.1 c4
        refine g_iload_n (pc' := 34) dX10_firstFault_33 rfl rfl ?_
        refine g_if_eq (pc' := 37) (tgt := 42) dX10_firstFault_34 rfl rfl (fun c5 => ?_) (fun c5 => ?_)
        · have h := h.1 c5
          exact (hK42 _ h).to ((sb_c rfl sb_n))
        · have h := h.2 c5
          refine g_iload_n (pc' := 38) dX10_firstFault_37 rfl rfl ?_
          refine g_iload_n (pc' := 39) dX10_firstFault_38 rfl rfl ?_
          refine g_ic_ge (pc' := 42) (tgt := 45) dX10_firstFault_39 rfl rfl (fun c6 => ?_) (fun c6 => ?_)
          · have h := h.1 c6
            refine g_iload_n (pc' := 46) dX10_firstFault_45 rfl rfl ?_
            refine g_istore_n (pc' := 47) dX10_firstFault_46 rfl (by decide) ?_
            refine g_iconst (pc' := 48) (by unfold r32; decide) dX10_firstFault_47 rfl ?_
            refine g_istore_n (pc' := 49) dX10_firstFault_48 rfl (by decide) ?_
            refine g_iinc (pc' := 52) dX10_firstFault_49 rfl rfl (by decide) ?_
            refine g_goto (pc' := 101) dX10_firstFault_52 rfl ?_
            refine g_iinc (pc' := 104) dX10_firstFault_101 rfl rfl (by decide) ?_
            refine g_goto (pc' := 9) dX10_firstFault_104 rfl ?_
            exact (ih _ _ _ _ h).to ((sb_c rfl (sb_c rfl (sb_c rfl (sb_c rfl (sb_c rfl sb_n))))))
          · have h := h.2 c6
            exact (hK42 _ h).to ((sb_c rfl sb_n))
def P_X10_firstFault (p0 : Nat) (s : Sto) (Q : Int → Sto → Prop) : Prop := (∃ n11, L_X10_firstFault_9 p0 s (fun x1 => Q x1 s) (fun x2 => Q x2 s) (fun x3 => Q x3 s) (fun x4 x5 => (∀ x6 : Int, x6 = (if x4 ≤ 0 then 0 else (if x4 < x5 then 0 else 1)) → ((x6 = 0 → ((s p0 1 = 0 → Q ((-1)) s) ∧ (¬ s p0 1 = 0 → Q (s p0 1) s))) ∧ (¬ x6 = 0 → Q ((-1)) s)))) n11 0 0 0 0)
set_option maxRecDepth 100000 in
theorem C_X10_firstFault {p0 : Nat} {s : Sto} {Q : Int → Sto → Prop} (hp0 : kd p0 = 19) (h : P_X10_firstFault p0 s Q) : sr_C yX10_firstFault cX10_firstFault 6 (some .int) 1 [vR p0] s Q := by
  refine sr_C.of (by decide +kernel) (Nat.le_of_ble_eq_true rfl) ?_
  show sr_G RX10 cX10_firstFault 6 (some .int) 1 0 [(0, vR p0)] [] s Q
  unfold P_X10_firstFault at h
  refine g_iconst (pc' := 1) (by unfold r32; decide) dX10_firstFault_0 rfl ?_
  refine g_istore_n (pc' := 2) dX10_firstFault_1 rfl (by decide) ?_
  refine g_iconst (pc' := 3) (by unfold r32; decide) dX10_firstFault_2 rfl ?_
  refine g_istore_n (pc' := 4) dX10_firstFault_3 rfl (by decide) ?_
  refine g_iconst (pc' := 5) (by unfold r32; decide) dX10_firstFault_4 rfl ?_
  refine g_istore_n (pc' := 6) dX10_firstFault_5 rfl (by decide) ?_
  refine g_iconst (pc' := 7) (by unfold r32; decide) dX10_firstFault_6 rfl ?_
  refine g_istore (pc' := 9) dX10_firstFault_7 rfl (by decide) ?_
  obtain ⟨n11, h⟩ := h
  refine (SL_X10_firstFault_9 hp0 (fun x1 h => ?_) (fun x2 h => ?_) (fun x3 h => ?_) (fun x4 x5 h => ?_) n11 _ _ _ _ h).to ((sb_c rfl (sb_c rfl (sb_c rfl (sb_c rfl (sb_c rfl sb_n))))))
  · refine g_iload (pc' := 44) dX10_firstFault_42 rfl rfl ?_
    exact g_iret dX10_firstFault_44 rfl h
  · refine g_iload (pc' := 91) dX10_firstFault_89 rfl rfl ?_
    exact g_iret dX10_firstFault_91 rfl h
  · refine g_iload (pc' := 100) dX10_firstFault_98 rfl rfl ?_
    exact g_iret dX10_firstFault_100 rfl h
  · refine g_iload_n (pc' := 108) dX10_firstFault_107 rfl rfl ?_
    refine sr_join (v := (if x4 ≤ 0 then 0 else (if x4 < x5 then 0 else 1))) (GG := fun x6 => sr_G RX10 cX10_firstFault 6 (some .int) 1 121 [(0, vR p0)] [vI x6] s Q) (fun x6 ex6 => ?_) (fun hj => ?_)
    · have h := h x6 ex6
      refine g_istore (pc' := 123) dX10_firstFault_121 rfl (by decide) ?_
      refine g_iload (pc' := 125) dX10_firstFault_123 rfl rfl ?_
      refine g_if_ne (pc' := 128) (tgt := 135) dX10_firstFault_125 rfl rfl (fun c9 => ?_) (fun c9 => ?_)
      · have h := h.2 c9
        refine g_iconst (pc' := 136) (by unfold r32; decide) dX10_firstFault_135 rfl ?_
        refine g_goto (pc' := 143) dX10_firstFault_136 rfl ?_
        exact g_iret dX10_firstFault_143 rfl h
      · have h := h.1 c9
        refine g_aload_n (pc' := 129) dX10_firstFault_128 rfl rfl ?_
        refine g_getI (pc' := 132) dX10_firstFault_129 rfl fl_RX10_34 hp0 (Or.inl rfl) ?_
        refine g_if_ne (pc' := 135) (tgt := 139) dX10_firstFault_132 rfl rfl (fun c10 => ?_) (fun c10 => ?_)
        · have h := h.2 c10
          refine g_aload_n (pc' := 140) dX10_firstFault_139 rfl rfl ?_
          refine g_getI (pc' := 143) dX10_firstFault_140 rfl fl_RX10_34 hp0 (Or.inl rfl) ?_
          exact g_iret dX10_firstFault_143 rfl h
        · have h := h.1 c10
          refine g_iconst (pc' := 136) (by unfold r32; decide) dX10_firstFault_135 rfl ?_
          refine g_goto (pc' := 143) dX10_firstFault_136 rfl ?_
          exact g_iret dX10_firstFault_143 rfl h
    · refine g_if_le (pc' := 111) (tgt := 120) dX10_firstFault_108 rfl rfl (fun c7 => ?_) (fun c7 => ?_)
      · refine g_iconst (pc' := 121) (by unfold r32; decide) dX10_firstFault_120 rfl ?_
        exact (hj _ (by rw [if_pos c7])).to ((sb_c rfl sb_n))
      · refine g_iload_n (pc' := 112) dX10_firstFault_111 rfl rfl ?_
        refine g_iload_n (pc' := 113) dX10_firstFault_112 rfl rfl ?_
        refine g_ic_lt (pc' := 116) (tgt := 120) dX10_firstFault_113 rfl rfl (fun c8 => ?_) (fun c8 => ?_)
        · refine g_iconst (pc' := 121) (by unfold r32; decide) dX10_firstFault_120 rfl ?_
          exact (hj _ (by rw [if_neg c7, if_pos c8])).to ((sb_c rfl sb_n))
        · refine g_iconst (pc' := 117) (by unfold r32; decide) dX10_firstFault_116 rfl ?_
          refine g_goto (pc' := 121) dX10_firstFault_117 rfl ?_
          exact (hj _ (by rw [if_neg c7, if_neg c8])).to ((sb_c rfl sb_n))
def L_X10_fill_4 (p1 : Nat) (K88 : Int → Sto → Prop) : Nat → Int → Int → Sto → Prop
  | 0, _, _, _ => False
  | n + 1, v2, v3, s => ((s p1 1 ≤ v3 → K88 v2 s) ∧ (¬ s p1 1 ≤ v3 → (O_X9_sign p1 v3 s ∧ (∀ x3 : Int, x3 = F_X9_sign p1 v3 s → ((x3 = 59 → (∀ x5 : Int, x5 = (if v2 = 0 then s 3 0 else v2) → L_X10_fill_4 p1 K88 n x5 (w32 (v3 + 1)) s)) ∧ (¬ x3 = 59 → ((36 ≤ s 3 0 → L_X10_fill_4 p1 K88 n v2 (w32 (v3 + 1)) s) ∧ (¬ 36 ≤ s 3 0 → (∀ x8 : Int, x8 = (if x3 = 46 then 1 else 0) → (inb (s 3 0) 36 ∧ ((x8 = 0 ∨ x8 = 1) ∧ (∀ s12 : Sto, s12 = up s 4 (s 3 0).toNat x8 → (∀ s13 : Sto, s13 = up s12 3 0 (w32 ((s12 3 0) + 1)) → L_X10_fill_4 p1 K88 n v2 (w32 (v3 + 1)) s13)))))))))))))
set_option maxRecDepth 100000 in
theorem SL_X10_fill_4 {p1 : Nat} {K88 : Int → Sto → Prop} {Q : Int → Sto → Prop} (hp1 : kd p1 = 19) (hK88 : ∀ v2 s, K88 v2 s → sr_G RX10 cX10_fill 5 (some .int) 1 88 [(0, vR 3), (2, vI v2)] [] s Q) : ∀ n v2 v3 s, L_X10_fill_4 p1 K88 n v2 v3 s → sr_G RX10 cX10_fill 5 (some .int) 1 4 [(0, vR 3), (1, vR p1), (2, vI v2), (3, vI v3)] [] s Q := by
  intro n
  induction n with
  | zero => intro v2 v3 s h; exact h.elim
  | succ n ih =>
    intro v2 v3 s h
    unfold L_X10_fill_4 at h
    refine g_iload_n (pc' := 5) dX10_fill_4 rfl rfl ?_
    refine g_aload_n (pc' := 6) dX10_fill_5 rfl rfl ?_
    refine g_getI (pc' := 9) dX10_fill_6 rfl fl_RX10_34 hp1 (Or.inl rfl) ?_
    refine g_ic_ge (pc' := 12) (tgt := 88) dX10_fill_9 rfl rfl (fun c1 => ?_) (fun c1 => ?_)
    · have h := h.1 c1
      exact (hK88 _ _ h).to ((sb_c rfl (sb_c rfl sb_n)))
    · have h := h.2 c1
      refine g_aload_n (pc' := 13) dX10_fill_12 rfl rfl ?_
      refine g_iload_n (pc' := 14) dX10_fill_13 rfl rfl ?_
      obtain ⟨ob2, h⟩ := h
      refine g_V1i (pc' := 17) dX10_fill_14 rfl mv_RX10_39 hp1 (by decide) (Nat.le_of_ble_eq_true rfl) (C_X9_sign hp1 ob2) (sr_pur ?_)
      refine g_topI (fun x3 ex3 => ?_)
      have h := h x3 ex3
      refine g_istore (pc' := 19) dX10_fill_17 rfl (by decide) ?_
      refine g_iload (pc' := 21) dX10_fill_19 rfl rfl ?_
      refine g_bipush (pc' := 23) ⟨by unfold r32; decide, rfl⟩ dX10_fill_21 rfl ?_
      refine g_ic_ne (pc' := 26) (tgt := 42) dX10_fill_23 rfl rfl (fun c4 => ?_) (fun c4 => ?_)
      · have h := h.2 c4
        refine g_aload_n (pc' := 43) dX10_fill_42 rfl rfl ?_
        refine g_getI (pc' := 46) dX10_fill_43 rfl fl_RX10_9 kd_3 (Or.inl rfl) ?_
        refine g_bipush (pc' := 48) ⟨by unfold r32; decide, rfl⟩ dX10_fill_46 rfl ?_
        refine g_ic_ge (pc' := 51) (tgt := 82) dX10_fill_48 rfl rfl (fun c7 => ?_) (fun c7 => ?_)
        · have h := h.1 c7
          refine g_iinc (pc' := 85) dX10_fill_82 rfl rfl (by decide) ?_
          refine g_goto (pc' := 4) dX10_fill_85 rfl ?_
          exact (ih _ _ _ h).to ((sb_c rfl (sb_c rfl (sb_c rfl (sb_c rfl sb_n)))))
        · have h := h.2 c7
          refine g_aload_n (pc' := 52) dX10_fill_51 rfl rfl ?_
          refine g_getR (pc' := 55) (r := 4) dX10_fill_52 rfl fl_RX10_15 kd_3 rfl rf_3_1 ?_
          refine g_aload_n (pc' := 56) dX10_fill_55 rfl rfl ?_
          refine g_getI (pc' := 59) dX10_fill_56 rfl fl_RX10_9 kd_3 (Or.inl rfl) ?_
          refine g_iload (pc' := 61) dX10_fill_59 rfl rfl ?_
          refine g_bipush (pc' := 63) ⟨by unfold r32; decide, rfl⟩ dX10_fill_61 rfl ?_
          refine sr_join (v := (if x3 = 46 then 1 else 0)) (GG := fun x8 => sr_G RX10 cX10_fill 5 (some .int) 1 71 [(0, vR 3), (1, vR p1), (2, vI v2), (3, vI v3)] [vI x8, vI (s 3 0), vR 4] s Q) (fun x8 ex8 => ?_) (fun hj => ?_)
          · have h := h x8 ex8
            obtain ⟨ob10, h⟩ := h
            obtain ⟨ob11, h⟩ := h
            refine g_bast (pc' := 72) dX10_fill_71 rfl kd_4 ob10 ob11 ?_
            refine g_sto (fun s12 es12 => ?_)
            have h := h s12 es12
            refine g_aload_n (pc' := 73) dX10_fill_72 rfl rfl ?_
            refine g_dupR (pc' := 74) dX10_fill_73 rfl ?_
            refine g_getI (pc' := 77) dX10_fill_74 rfl fl_RX10_9 kd_3 (Or.inl rfl) ?_
            refine g_iconst (pc' := 78) (by unfold r32; decide) dX10_fill_77 rfl ?_
            refine g_iadd (pc' := 79) dX10_fill_78 rfl ?_
            refine g_putI (pc' := 82) dX10_fill_79 rfl fp_RX10_9 kd_3 rfl ?_
            refine g_sto (fun s13 es13 => ?_)
            have h := h s13 es13
            refine g_iinc (pc' := 85) dX10_fill_82 rfl rfl (by decide) ?_
            refine g_goto (pc' := 4) dX10_fill_85 rfl ?_
            exact (ih _ _ _ h).to ((sb_c rfl (sb_c rfl (sb_c rfl (sb_c rfl sb_n)))))
          · refine g_ic_ne (pc' := 66) (tgt := 70) dX10_fill_63 rfl rfl (fun c9 => ?_) (fun c9 => ?_)
            · refine g_iconst (pc' := 71) (by unfold r32; decide) dX10_fill_70 rfl ?_
              exact (hj _ (by rw [if_neg c9])).to ((sb_c rfl (sb_c rfl (sb_c rfl (sb_c rfl sb_n)))))
            · refine g_iconst (pc' := 67) (by unfold r32; decide) dX10_fill_66 rfl ?_
              refine g_goto (pc' := 71) dX10_fill_67 rfl ?_
              exact (hj _ (by rw [if_pos c9])).to ((sb_c rfl (sb_c rfl (sb_c rfl (sb_c rfl sb_n)))))
      · have h := h.1 c4
        refine g_iload_n (pc' := 27) dX10_fill_26 rfl rfl ?_
        refine sr_join (v := (if v2 = 0 then s 3 0 else v2)) (GG := fun x5 => sr_G RX10 cX10_fill 5 (some .int) 1 38 [(0, vR 3), (1, vR p1), (3, vI v3)] [vI x5] s Q) (fun x5 ex5 => ?_) (fun hj => ?_)
        · have h := h x5 ex5
          refine g_istore_n (pc' := 39) dX10_fill_38 rfl (by decide) ?_
          refine g_goto (pc' := 82) dX10_fill_39 rfl ?_
          refine g_iinc (pc' := 85) dX10_fill_82 rfl rfl (by decide) ?_
          refine g_goto (pc' := 4) dX10_fill_85 rfl ?_
          exact (ih _ _ _ h).to ((sb_c rfl (sb_c rfl (sb_c rfl (sb_c rfl sb_n)))))
        · refine g_if_ne (pc' := 30) (tgt := 37) dX10_fill_27 rfl rfl (fun c6 => ?_) (fun c6 => ?_)
          · refine g_iload_n (pc' := 38) dX10_fill_37 rfl rfl ?_
            exact (hj _ (by rw [if_neg c6])).to ((sb_c rfl (sb_c rfl (sb_c rfl sb_n))))
          · refine g_aload_n (pc' := 31) dX10_fill_30 rfl rfl ?_
            refine g_getI (pc' := 34) dX10_fill_31 rfl fl_RX10_9 kd_3 (Or.inl rfl) ?_
            refine g_goto (pc' := 38) dX10_fill_34 rfl ?_
            exact (hj _ (by rw [if_pos c6])).to ((sb_c rfl (sb_c rfl (sb_c rfl sb_n))))
def P_X10_fill (p1 : Nat) (s : Sto) (Q : Int → Sto → Prop) : Prop := (∃ n4, L_X10_fill_4 p1 (fun x1 s2 => ((x1 = 0 → Q (s2 3 0) s2) ∧ (¬ x1 = 0 → Q x1 s2))) n4 0 0 s)
set_option maxRecDepth 100000 in
theorem C_X10_fill {p1 : Nat} {s : Sto} {Q : Int → Sto → Prop} (hp1 : kd p1 = 19) (h : P_X10_fill p1 s Q) : sr_C yX10_fill cX10_fill 5 (some .int) 1 [vR 3, vR p1] s Q := by
  refine sr_C.of (by decide +kernel) (Nat.le_of_ble_eq_true rfl) ?_
  show sr_G RX10 cX10_fill 5 (some .int) 1 0 [(0, vR 3), (1, vR p1)] [] s Q
  unfold P_X10_fill at h
  refine g_iconst (pc' := 1) (by unfold r32; decide) dX10_fill_0 rfl ?_
  refine g_istore_n (pc' := 2) dX10_fill_1 rfl (by decide) ?_
  refine g_iconst (pc' := 3) (by unfold r32; decide) dX10_fill_2 rfl ?_
  refine g_istore_n (pc' := 4) dX10_fill_3 rfl (by decide) ?_
  obtain ⟨n4, h⟩ := h
  refine (SL_X10_fill_4 hp1 (fun x1 s2 h => ?_) n4 _ _ _ h).to ((sb_c rfl (sb_c rfl (sb_c rfl (sb_c rfl sb_n)))))
  · refine g_iload_n (pc' := 89) dX10_fill_88 rfl rfl ?_
    refine g_if_ne (pc' := 92) (tgt := 99) dX10_fill_89 rfl rfl (fun c3 => ?_) (fun c3 => ?_)
    · have h := h.2 c3
      refine g_iload_n (pc' := 100) dX10_fill_99 rfl rfl ?_
      exact g_iret dX10_fill_100 rfl h
    · have h := h.1 c3
      refine g_aload_n (pc' := 93) dX10_fill_92 rfl rfl ?_
      refine g_getI (pc' := 96) dX10_fill_93 rfl fl_RX10_9 kd_3 (Or.inl rfl) ?_
      refine g_goto (pc' := 100) dX10_fill_96 rfl ?_
      exact g_iret dX10_fill_100 rfl h
def S_X10_link_ (v1 : Int) (v2 : Int) (v3 : Int) (v4 : Int) (s : Sto) : Sto := (if s 3 0 ≤ v1 then up s 5 (w32 ((w32 (v1 * 4)) + v2)).toNat ((-1)) else (if v4 = 0 then up s 5 (w32 ((w32 (v1 * 4)) + v2)).toNat ((-1)) else (if F_X10_isOpen v3 s = 0 then up s 5 (w32 ((w32 (v1 * 4)) + v2)).toNat ((-1)) else up s 5 (w32 ((w32 (v1 * 4)) + v2)).toNat v3)))
def O_X10_link_ (v1 : Int) (v2 : Int) (v3 : Int) (v4 : Int) (s : Sto) : Prop := ((s 3 0 ≤ v1 → (inb (w32 ((w32 (v1 * 4)) + v2)) 144 ∧ True)) ∧ (¬ s 3 0 ≤ v1 → ((v4 = 0 → (inb (w32 ((w32 (v1 * 4)) + v2)) 144 ∧ True)) ∧ (¬ v4 = 0 → (O_X10_isOpen v3 s ∧ ((F_X10_isOpen v3 s = 0 → (inb (w32 ((w32 (v1 * 4)) + v2)) 144 ∧ True)) ∧ (¬ F_X10_isOpen v3 s = 0 → (inb (w32 ((w32 (v1 * 4)) + v2)) 144 ∧ True))))))))
set_option maxRecDepth 100000 in
theorem C_X10_link_ {v1 : Int} {v2 : Int} {v3 : Int} {v4 : Int} {s : Sto}  (h : O_X10_link_ v1 v2 v3 v4 s) : sr_C yX10_link_ cX10_link_ 5 none 1 [vR 3, vI v1, vI v2, vI v3, vI v4] s (fun r s' => r = 0 ∧ s' = S_X10_link_ v1 v2 v3 v4 s) := by
  refine sr_C.of (by decide +kernel) (Nat.le_of_ble_eq_true rfl) ?_
  show sr_G RX10 cX10_link_ 5 none 1 0 [(0, vR 3), (1, vI v1), (2, vI v2), (3, vI v3), (4, vI v4)] [] s (fun r s' => r = 0 ∧ s' = S_X10_link_ v1 v2 v3 v4 s)
  unfold O_X10_link_ at h
  refine g_aload_n (pc' := 1) dX10_link__0 rfl rfl ?_
  refine g_getR (pc' := 4) (r := 5) dX10_link__1 rfl fl_RX10_19 kd_3 rfl rf_3_2 ?_
  refine g_iload_n (pc' := 5) dX10_link__4 rfl rfl ?_
  refine g_iconst (pc' := 6) (by unfold r32; decide) dX10_link__5 rfl ?_
  refine g_imul (pc' := 7) dX10_link__6 rfl ?_
  refine g_iload_n (pc' := 8) dX10_link__7 rfl rfl ?_
  refine g_iadd (pc' := 9) dX10_link__8 rfl ?_
  refine g_iload_n (pc' := 10) dX10_link__9 rfl rfl ?_
  refine g_aload_n (pc' := 11) dX10_link__10 rfl rfl ?_
  refine g_getI (pc' := 14) dX10_link__11 rfl fl_RX10_9 kd_3 (Or.inl rfl) ?_
  refine g_ic_ge (pc' := 17) (tgt := 34) dX10_link__14 rfl rfl (fun c1 => ?_) (fun c1 => ?_)
  · have h := h.1 c1
    refine g_iconst (pc' := 35) (by unfold r32; decide) dX10_link__34 rfl ?_
    obtain ⟨ob2, h⟩ := h
    refine g_iast (pc' := 36) dX10_link__35 rfl kd_5 ob2 ?_
    exact g_vret dX10_link__36 rfl ⟨rfl, (by simp only [S_X10_link_, if_pos c1])⟩
  · have h := h.2 c1
    refine g_iload (pc' := 19) dX10_link__17 rfl rfl ?_
    refine g_if_eq (pc' := 22) (tgt := 34) dX10_link__19 rfl rfl (fun c3 => ?_) (fun c3 => ?_)
    · have h := h.1 c3
      refine g_iconst (pc' := 35) (by unfold r32; decide) dX10_link__34 rfl ?_
      obtain ⟨ob4, h⟩ := h
      refine g_iast (pc' := 36) dX10_link__35 rfl kd_5 ob4 ?_
      exact g_vret dX10_link__36 rfl ⟨rfl, (by simp only [S_X10_link_, if_neg c1, if_pos c3])⟩
    · have h := h.2 c3
      refine g_aload_n (pc' := 23) dX10_link__22 rfl rfl ?_
      refine g_iload_n (pc' := 24) dX10_link__23 rfl rfl ?_
      obtain ⟨ob5, h⟩ := h
      refine g_V1z (pc' := 27) dX10_link__24 rfl mv_RX10_46 kd_3 (by decide) (Nat.le_of_ble_eq_true rfl) (C_X10_isOpen ob5) (sr_purb (fun hb6 => ?_))
      refine g_if_eq (pc' := 30) (tgt := 34) dX10_link__27 rfl rfl (fun c7 => ?_) (fun c7 => ?_)
      · have h := h.1 c7
        refine g_iconst (pc' := 35) (by unfold r32; decide) dX10_link__34 rfl ?_
        obtain ⟨ob8, h⟩ := h
        refine g_iast (pc' := 36) dX10_link__35 rfl kd_5 ob8 ?_
        exact g_vret dX10_link__36 rfl ⟨rfl, (by simp only [S_X10_link_, if_neg c1, if_neg c3, if_pos c7])⟩
      · have h := h.2 c7
        refine g_iload_n (pc' := 31) dX10_link__30 rfl rfl ?_
        refine g_goto (pc' := 35) dX10_link__31 rfl ?_
        obtain ⟨ob9, h⟩ := h
        refine g_iast (pc' := 36) dX10_link__35 rfl kd_5 ob9 ?_
        exact g_vret dX10_link__36 rfl ⟨rfl, (by simp only [S_X10_link_, if_neg c1, if_neg c3, if_neg c7])⟩
