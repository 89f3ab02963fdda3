def F_X4_fits (o : Nat) (v1 : Int) (v2 : Int) (s : Sto) : Int := (if w32 (v1 - (s (o + 7) v2.toNat)) < 0 then 0 else (if s (o + 8) v2.toNat = 0 then 1 else (if s (o + 8) v2.toNat = 1 then (if 1 < w32 (v1 - (s (o + 7) v2.toNat)) then 0 else 1) else (if 3 < w32 (v1 - (s (o + 7) v2.toNat)) then 0 else 1))))
def O_X4_fits (o : Nat) (v1 : Int) (v2 : Int) (s : Sto) : Prop := (inb v2 8 ∧ ((w32 (v1 - (s (o + 7) v2.toNat)) < 0 → True) ∧ (¬ w32 (v1 - (s (o + 7) v2.toNat)) < 0 → (inb v2 8 ∧ ((s (o + 8) v2.toNat = 0 → True) ∧ (¬ s (o + 8) v2.toNat = 0 → (inb v2 8 ∧ True)))))))
set_option maxRecDepth 100000 in
theorem C_X4_fits {o : Nat} {v1 : Int} {v2 : Int} {s : Sto} (ho : kd o = 14) (h : O_X4_fits o v1 v2 s) : sr_C yX4_fits cX4_fits 4 (some .boolean) 0 [vR o, vI v1, vI v2] s (fun r s' => r = F_X4_fits o v1 v2 s ∧ s' = s ∧ (r = 0 ∨ r = 1)) := by
  refine sr_C.of (by decide +kernel) (Nat.le_of_ble_eq_true rfl) ?_
  show sr_G RX4 cX4_fits 4 (some .boolean) 0 0 [(0, vR o), (1, vI v1), (2, vI v2)] [] s (fun r s' => r = F_X4_fits o v1 v2 s ∧ s' = s ∧ (r = 0 ∨ r = 1))
  unfold O_X4_fits at h
  refine g_iload_n (pc' := 1) dX4_fits_0 rfl rfl ?_
  refine g_aload_n (pc' := 2) dX4_fits_1 rfl rfl ?_
  refine g_getR (pc' := 5) (r := o + 7) dX4_fits_2 rfl fl_RX4_37 ho rfl (ly_4_8 ho) ?_
  refine g_iload_n (pc' := 6) dX4_fits_5 rfl rfl ?_
  obtain ⟨ob1, h⟩ := h
  refine g_iald (pc' := 7) dX4_fits_6 rfl (lk_4_8 ho) (Eq.mpr (congrArg (inb _) (la_4_8 ho)) ob1) ?_
  refine g_isub (pc' := 8) dX4_fits_7 rfl ?_
  refine g_istore_n (pc' := 9) dX4_fits_8 rfl (by decide) ?_
  refine g_iload_n (pc' := 10) dX4_fits_9 rfl rfl ?_
  refine g_if_lt (pc' := 13) (tgt := 45) dX4_fits_10 rfl rfl (fun c2 => ?_) (fun c2 => ?_)
  · have h := h.1 c2
    refine g_iconst (pc' := 46) (by unfold r32; decide) dX4_fits_45 rfl ?_
    exact g_zret dX4_fits_46 rfl (Or.inl rfl) ⟨(by simp only [F_X4_fits, if_pos c2]), rfl, (Or.inl rfl)⟩
  · have h := h.2 c2
    refine g_aload_n (pc' := 14) dX4_fits_13 rfl rfl ?_
    refine g_getR (pc' := 17) (r := o + 8) dX4_fits_14 rfl fl_RX4_40 ho rfl (ly_4_9 ho) ?_
    refine g_iload_n (pc' := 18) dX4_fits_17 rfl rfl ?_
    obtain ⟨ob3, h⟩ := h
    refine g_iald (pc' := 19) dX4_fits_18 rfl (lk_4_9 ho) (Eq.mpr (congrArg (inb _) (la_4_9 ho)) ob3) ?_
    refine g_if_eq (pc' := 22) (tgt := 41) dX4_fits_19 rfl rfl (fun c4 => ?_) (fun c4 => ?_)
    · have h := h.1 c4
      refine g_iconst (pc' := 42) (by unfold r32; decide) dX4_fits_41 rfl ?_
      refine g_goto (pc' := 46) dX4_fits_42 rfl ?_
      exact g_zret dX4_fits_46 rfl (Or.inr rfl) ⟨(by simp only [F_X4_fits, if_neg c2, if_pos c4]), rfl, (Or.inr rfl)⟩
    · have h := h.2 c4
      refine g_iload_n (pc' := 23) dX4_fits_22 rfl rfl ?_
      refine g_aload_n (pc' := 24) dX4_fits_23 rfl rfl ?_
      refine g_getR (pc' := 27) (r := o + 8) dX4_fits_24 rfl fl_RX4_40 ho rfl (ly_4_9 ho) ?_
      refine g_iload_n (pc' := 28) dX4_fits_27 rfl rfl ?_
      obtain ⟨ob5, h⟩ := h
      refine g_iald (pc' := 29) dX4_fits_28 rfl (lk_4_9 ho) (Eq.mpr (congrArg (inb _) (la_4_9 ho)) ob5) ?_
      refine g_iconst (pc' := 30) (by unfold r32; decide) dX4_fits_29 rfl ?_
      refine g_ic_ne (pc' := 33) (tgt := 37) dX4_fits_30 rfl rfl (fun c6 => ?_) (fun c6 => ?_)
      · refine g_iconst (pc' := 38) (by unfold r32; decide) dX4_fits_37 rfl ?_
        refine g_ic_gt (pc' := 41) (tgt := 45) dX4_fits_38 rfl rfl (fun c8 => ?_) (fun c8 => ?_)
        · refine g_iconst (pc' := 46) (by unfold r32; decide) dX4_fits_45 rfl ?_
          exact g_zret dX4_fits_46 rfl (Or.inl rfl) ⟨(by simp only [F_X4_fits, if_neg c2, if_neg c4, if_neg c6, if_pos c8]), rfl, (Or.inl rfl)⟩
        · refine g_iconst (pc' := 42) (by unfold r32; decide) dX4_fits_41 rfl ?_
          refine g_goto (pc' := 46) dX4_fits_42 rfl ?_
          exact g_zret dX4_fits_46 rfl (Or.inr rfl) ⟨(by simp only [F_X4_fits, if_neg c2, if_neg c4, if_neg c6, if_neg c8]), rfl, (Or.inr rfl)⟩
      · refine g_iconst (pc' := 34) (by unfold r32; decide) dX4_fits_33 rfl ?_
        refine g_goto (pc' := 38) dX4_fits_34 rfl ?_
        refine g_ic_gt (pc' := 41) (tgt := 45) dX4_fits_38 rfl rfl (fun c7 => ?_) (fun c7 => ?_)
        · refine g_iconst (pc' := 46) (by unfold r32; decide) dX4_fits_45 rfl ?_
          exact g_zret dX4_fits_46 rfl (Or.inl rfl) ⟨(by simp only [F_X4_fits, if_neg c2, if_neg c4, if_pos c6, if_pos c7]), rfl, (Or.inl rfl)⟩
        · refine g_iconst (pc' := 42) (by unfold r32; decide) dX4_fits_41 rfl ?_
          refine g_goto (pc' := 46) dX4_fits_42 rfl ?_
          exact g_zret dX4_fits_46 rfl (Or.inr rfl) ⟨(by simp only [F_X4_fits, if_neg c2, if_neg c4, if_pos c6, if_neg c7]), rfl, (Or.inr rfl)⟩
def L_X6_fall_13 (p0 : Nat) (p1 : Nat) (v2 : Int) (v3 : Int) (K125 : Sto → Prop) : Nat → Int → Sto → Prop
  | 0, _, _ => False
  | n + 1, v4, s => ((s p1 6 ≤ v4 → K125 s) ∧ (¬ s p1 6 ≤ v4 → (inb v3 8 ∧ ((s (p0 + 1) v3.toNat = 1 → (inb v4 8 ∧ (inb v3 8 ∧ ((s (p1 + 6) v4.toNat = s (p0 + 2) v3.toNat → (inb v4 8 ∧ ((s (p0 + 5) v4.toNat = (-1) → (inb v3 8 ∧ (O_X4_fits p1 (s (p0 + 3) v3.toNat) v4 s ∧ ((F_X4_fits p1 (s (p0 + 3) v3.toNat) v4 s = 0 → L_X6_fall_13 p0 p1 v2 v3 K125 n (w32 (v4 + 1)) s) ∧ (¬ F_X4_fits p1 (s (p0 + 3) v3.toNat) v4 s = 0 → (inb v4 8 ∧ (∀ s14 : Sto, s14 = up s (p0 + 5) v4.toNat v3 → (inb v4 8 ∧ (∀ s16 : Sto, s16 = up s14 (p0 + 6) v4.toNat v2 → (inb v3 8 ∧ (inb v4 8 ∧ (∀ s19 : Sto, s19 = up s16 (p0 + 7) v4.toNat (s16 (p1 + 5) v3.toNat) → (∀ s20 : Sto, s20 = up s19 p0 8 (w32 ((s19 p0 8) + 1)) → (O_X6_settle p0 v3 2 s20 ∧ (∀ s22 : Sto, s22 = S_X6_settle p0 v3 2 s20 → L_X6_fall_13 p0 p1 v2 v3 K125 n (w32 (v4 + 1)) s22))))))))))))))) ∧ (¬ s (p0 + 5) v4.toNat = (-1) → L_X6_fall_13 p0 p1 v2 v3 K125 n (w32 (v4 + 1)) s)))) ∧ (¬ s (p1 + 6) v4.toNat = s (p0 + 2) v3.toNat → L_X6_fall_13 p0 p1 v2 v3 K125 n (w32 (v4 + 1)) s))))) ∧ (¬ s (p0 + 1) v3.toNat = 1 → K125 s)))))
set_option maxRecDepth 100000 in
theorem SL_X6_fall_13 {p0 : Nat} {p1 : Nat} {v2 : Int} {v3 : Int} {K125 : Sto → Prop} {Q : Int → Sto → Prop} (hp0 : kd p0 = 16) (hp1 : kd p1 = 14) (hK125 : ∀ s, K125 s → sr_G RX6 cX6_fall 5 none 1 125 [(0, vR p0), (1, vR p1), (2, vI v2), (3, vI v3)] [] s Q) : ∀ n v4 s, L_X6_fall_13 p0 p1 v2 v3 K125 n v4 s → sr_G RX6 cX6_fall 5 none 1 13 [(0, vR p0), (1, vR p1), (2, vI v2), (3, vI v3), (4, vI v4)] [] s Q := by
  intro n
  induction n with
  | zero => intro v4 s h; exact h.elim
  | succ n ih =>
    intro v4 s h
    unfold L_X6_fall_13 at h
    refine g_iload (pc' := 15) dX6_fall_13 rfl rfl ?_
    refine g_aload_n (pc' := 16) dX6_fall_15 rfl rfl ?_
    refine g_getI (pc' := 19) dX6_fall_16 rfl fl_RX6_73 hp1 (Or.inl rfl) ?_
    refine g_ic_ge (pc' := 22) (tgt := 125) dX6_fall_19 rfl rfl (fun c1 => ?_) (fun c1 => ?_)
    · have h := h.1 c1
      exact (hK125 _ h).to ((sb_c rfl (sb_c rfl (sb_c rfl (sb_c rfl sb_n)))))
    · have h := h.2 c1
      refine g_aload_n (pc' := 23) dX6_fall_22 rfl rfl ?_
      refine g_getR (pc' := 26) (r := p0 + 1) dX6_fall_23 rfl fl_RX6_9 hp0 rfl (ly_6_1 hp0) ?_
      refine g_iload_n (pc' := 27) dX6_fall_26 rfl rfl ?_
      obtain ⟨ob2, h⟩ := h
      refine g_iald (pc' := 28) dX6_fall_27 rfl (lk_6_1 hp0) (Eq.mpr (congrArg (inb _) (la_6_1 hp0)) ob2) ?_
      refine g_iconst (pc' := 29) (by unfold r32; decide) dX6_fall_28 rfl ?_
      refine g_ic_ne (pc' := 32) (tgt := 125) dX6_fall_29 rfl rfl (fun c3 => ?_) (fun c3 => ?_)
      · have h := h.2 c3
        exact (hK125 _ h).to ((sb_c rfl (sb_c rfl (sb_c rfl (sb_c rfl sb_n)))))
      · have h := h.1 c3
        refine g_aload_n (pc' := 33) dX6_fall_32 rfl rfl ?_
        refine g_getR (pc' := 36) (r := p1 + 6) dX6_fall_33 rfl fl_RX6_76 hp1 rfl (ly_4_7 hp1) ?_
        refine g_iload (pc' := 38) dX6_fall_36 rfl rfl ?_
        obtain ⟨ob4, h⟩ := h
        refine g_iald (pc' := 39) dX6_fall_38 rfl (lk_4_7 hp1) (Eq.mpr (congrArg (inb _) (la_4_7 hp1)) ob4) ?_
        refine g_aload_n (pc' := 40) dX6_fall_39 rfl rfl ?_
        refine g_getR (pc' := 43) (r := p0 + 2) dX6_fall_40 rfl fl_RX6_15 hp0 rfl (ly_6_2 hp0) ?_
        refine g_iload_n (pc' := 44) dX6_fall_43 rfl rfl ?_
        obtain ⟨ob5, h⟩ := h
        refine g_iald (pc' := 45) dX6_fall_44 rfl (lk_6_2 hp0) (Eq.mpr (congrArg (inb _) (la_6_2 hp0)) ob5) ?_
        refine g_ic_ne (pc' := 48) (tgt := 119) dX6_fall_45 rfl rfl (fun c6 => ?_) (fun c6 => ?_)
        · have h := h.2 c6
          refine g_iinc (pc' := 122) dX6_fall_119 rfl rfl (by decide) ?_
          refine g_goto (pc' := 13) dX6_fall_122 rfl ?_
          exact (ih _ _ h).to ((sb_c rfl (sb_c rfl (sb_c rfl (sb_c rfl (sb_c rfl sb_n))))))
        · have h := h.1 c6
          refine g_aload_n (pc' := 49) dX6_fall_48 rfl rfl ?_
          refine g_getR (pc' := 52) (r := p0 + 5) dX6_fall_49 rfl fl_RX6_24 hp0 rfl (ly_6_5 hp0) ?_
          refine g_iload (pc' := 54) dX6_fall_52 rfl rfl ?_
          obtain ⟨ob7, h⟩ := h
          refine g_iald (pc' := 55) dX6_fall_54 rfl (lk_6_5 hp0) (Eq.mpr (congrArg (inb _) (la_6_5 hp0)) ob7) ?_
          refine g_iconst (pc' := 56) (by unfold r32; decide) dX6_fall_55 rfl ?_
          refine g_ic_ne (pc' := 59) (tgt := 119) dX6_fall_56 rfl rfl (fun c8 => ?_) (fun c8 => ?_)
          · have h := h.2 c8
            refine g_iinc (pc' := 122) dX6_fall_119 rfl rfl (by decide) ?_
            refine g_goto (pc' := 13) dX6_fall_122 rfl ?_
            exact (ih _ _ h).to ((sb_c rfl (sb_c rfl (sb_c rfl (sb_c rfl (sb_c rfl sb_n))))))
          · have h := h.1 c8
            refine g_aload_n (pc' := 60) dX6_fall_59 rfl rfl ?_
            refine g_aload_n (pc' := 61) dX6_fall_60 rfl rfl ?_
            refine g_getR (pc' := 64) (r := p0 + 3) dX6_fall_61 rfl fl_RX6_18 hp0 rfl (ly_6_3 hp0) ?_
            refine g_iload_n (pc' := 65) dX6_fall_64 rfl rfl ?_
            obtain ⟨ob9, h⟩ := h
            refine g_iald (pc' := 66) dX6_fall_65 rfl (lk_6_3 hp0) (Eq.mpr (congrArg (inb _) (la_6_3 hp0)) ob9) ?_
            refine g_iload (pc' := 68) dX6_fall_66 rfl rfl ?_
            obtain ⟨ob10, h⟩ := h
            refine g_V2z (pc' := 71) dX6_fall_68 rfl mv_RX6_124 hp1 (by decide) (Nat.le_of_ble_eq_true rfl) (C_X4_fits hp1 ob10) (sr_purb (fun hb11 => ?_))
            refine g_if_eq (pc' := 74) (tgt := 119) dX6_fall_71 rfl rfl (fun c12 => ?_) (fun c12 => ?_)
            · have h := h.1 c12
              refine g_iinc (pc' := 122) dX6_fall_119 rfl rfl (by decide) ?_
              refine g_goto (pc' := 13) dX6_fall_122 rfl ?_
              exact (ih _ _ h).to ((sb_c rfl (sb_c rfl (sb_c rfl (sb_c rfl (sb_c rfl sb_n))))))
            · have h := h.2 c12
              refine g_aload_n (pc' := 75) dX6_fall_74 rfl rfl ?_
              refine g_getR (pc' := 78) (r := p0 + 5) dX6_fall_75 rfl fl_RX6_24 hp0 rfl (ly_6_5 hp0) ?_
              refine g_iload (pc' := 80) dX6_fall_78 rfl rfl ?_
              refine g_iload_n (pc' := 81) dX6_fall_80 rfl rfl ?_
              obtain ⟨ob13, h⟩ := h
              refine g_iast (pc' := 82) dX6_fall_81 rfl (lk_6_5 hp0) (Eq.mpr (congrArg (inb _) (la_6_5 hp0)) ob13) ?_
              refine g_sto (fun s14 es14 => ?_)
              have h := h s14 es14
              refine g_aload_n (pc' := 83) dX6_fall_82 rfl rfl ?_
              refine g_getR (pc' := 86) (r := p0 + 6) dX6_fall_83 rfl fl_RX6_27 hp0 rfl (ly_6_6 hp0) ?_
              refine g_iload (pc' := 88) dX6_fall_86 rfl rfl ?_
              refine g_iload_n (pc' := 89) dX6_fall_88 rfl rfl ?_
              obtain ⟨ob15, h⟩ := h
              refine g_iast (pc' := 90) dX6_fall_89 rfl (lk_6_6 hp0) (Eq.mpr (congrArg (inb _) (la_6_6 hp0)) ob15) ?_
              refine g_sto (fun s16 es16 => ?_)
              have h := h s16 es16
              refine g_aload_n (pc' := 91) dX6_fall_90 rfl rfl ?_
              refine g_getR (pc' := 94) (r := p0 + 7) dX6_fall_91 rfl fl_RX6_30 hp0 rfl (ly_6_7 hp0) ?_
              refine g_iload (pc' := 96) dX6_fall_94 rfl rfl ?_
              refine g_aload_n (pc' := 97) dX6_fall_96 rfl rfl ?_
              refine g_getR (pc' := 100) (r := p1 + 5) dX6_fall_97 rfl fl_RX6_127 hp1 rfl (ly_4_5 hp1) ?_
              refine g_iload_n (pc' := 101) dX6_fall_100 rfl rfl ?_
              obtain ⟨ob17, h⟩ := h
              refine g_iald (pc' := 102) dX6_fall_101 rfl (lk_4_5 hp1) (Eq.mpr (congrArg (inb _) (la_4_5 hp1)) ob17) ?_
              obtain ⟨ob18, h⟩ := h
              refine g_iast (pc' := 103) dX6_fall_102 rfl (lk_6_7 hp0) (Eq.mpr (congrArg (inb _) (la_6_7 hp0)) ob18) ?_
              refine g_sto (fun s19 es19 => ?_)
              have h := h s19 es19
              refine g_aload_n (pc' := 104) dX6_fall_103 rfl rfl ?_
              refine g_dupR (pc' := 105) dX6_fall_104 rfl ?_
              refine g_getI (pc' := 108) dX6_fall_105 rfl fl_RX6_33 hp0 (Or.inl rfl) ?_
              refine g_iconst (pc' := 109) (by unfold r32; decide) dX6_fall_108 rfl ?_
              refine g_iadd (pc' := 110) dX6_fall_109 rfl ?_
              refine g_putI (pc' := 113) dX6_fall_110 rfl fp_RX6_33 hp0 rfl ?_
              refine g_sto (fun s20 es20 => ?_)
              have h := h s20 es20
              refine g_aload_n (pc' := 114) dX6_fall_113 rfl rfl ?_
              refine g_iload_n (pc' := 115) dX6_fall_114 rfl rfl ?_
              refine g_iconst (pc' := 116) (by unfold r32; decide) dX6_fall_115 rfl ?_
              obtain ⟨ob21, h⟩ := h
              refine g_V2v (pc' := 119) dX6_fall_116 rfl mv_RX6_102 hp0 (by decide) (Nat.le_of_ble_eq_true rfl) (C_X6_settle hp0 ob21) (sr_purv ?_)
              refine g_sto (fun s22 es22 => ?_)
              have h := h s22 es22
              refine g_iinc (pc' := 122) dX6_fall_119 rfl rfl (by decide) ?_
              refine g_goto (pc' := 13) dX6_fall_122 rfl ?_
              exact (ih _ _ h).to ((sb_c rfl (sb_c rfl (sb_c rfl (sb_c rfl (sb_c rfl sb_n))))))
def L_X6_fall_2 (p0 : Nat) (p1 : Nat) (v2 : Int) (K131 : Sto → Prop) : Nat → Int → Sto → Prop
  | 0, _, _ => False
  | n + 1, v3, s => ((s p1 0 ≤ v3 → K131 s) ∧ (¬ s p1 0 ≤ v3 → (∃ n3, L_X6_fall_13 p0 p1 v2 v3 (fun s2 => L_X6_fall_2 p0 p1 v2 K131 n (w32 (v3 + 1)) s2) n3 0 s)))
set_option maxRecDepth 100000 in
theorem SL_X6_fall_2 {p0 : Nat} {p1 : Nat} {v2 : Int} {K131 : Sto → Prop} {Q : Int → Sto → Prop} (hp0 : kd p0 = 16) (hp1 : kd p1 = 14) (hK131 : ∀ s, K131 s → sr_G RX6 cX6_fall 5 none 1 131 [] [] s Q) : ∀ n v3 s, L_X6_fall_2 p0 p1 v2 K131 n v3 s → sr_G RX6 cX6_fall 5 none 1 2 [(0, vR p0), (1, vR p1), (2, vI v2), (3, vI v3)] [] s Q := by
  intro n
  induction n with
  | zero => intro v3 s h; exact h.elim
  | succ n ih =>
    intro v3 s h
    unfold L_X6_fall_2 at h
    refine g_iload_n (pc' := 3) dX6_fall_2 rfl rfl ?_
    refine g_aload_n (pc' := 4) dX6_fall_3 rfl rfl ?_
    refine g_getI (pc' := 7) dX6_fall_4 rfl fl_RX6_62 hp1 (Or.inl rfl) ?_
    refine g_ic_ge (pc' := 10) (tgt := 131) dX6_fall_7 rfl rfl (fun c1 => ?_) (fun c1 => ?_)
    · have h := h.1 c1
      exact (hK131 _ h).to (sb_n)
    · have h := h.2 c1
      refine g_iconst (pc' := 11) (by unfold r32; decide) dX6_fall_10 rfl ?_
      refine g_istore (pc' := 13) dX6_fall_11 rfl (by decide) ?_
      obtain ⟨n3, h⟩ := h
      refine (SL_X6_fall_13 hp0 hp1 (fun s2 h => ?_) n3 _ _ h).to ((sb_c rfl (sb_c rfl (sb_c rfl (sb_c rfl (sb_c rfl sb_n))))))
      · refine g_iinc (pc' := 128) dX6_fall_125 rfl rfl (by decide) ?_
        refine g_goto (pc' := 2) dX6_fall_128 rfl ?_
        exact (ih _ _ h).to ((sb_c rfl (sb_c rfl (sb_c rfl (sb_c rfl sb_n)))))
def P_X6_fall (o : Nat) (p1 : Nat) (v2 : Int) (s : Sto) (Q : Int → Sto → Prop) : Prop := (∃ n2, L_X6_fall_2 o p1 v2 (fun s1 => Q 0 s1) n2 0 s)
set_option maxRecDepth 100000 in
theorem C_X6_fall {o : Nat} {p1 : Nat} {v2 : Int} {s : Sto} {Q : Int → Sto → Prop} (ho : kd o = 16) (hp1 : kd p1 = 14) (h : P_X6_fall o p1 v2 s Q) : sr_C yX6_fall cX6_fall 5 none 1 [vR o, vR p1, vI v2] s Q := by
  refine sr_C.of (by decide +kernel) (Nat.le_of_ble_eq_true rfl) ?_
  show sr_G RX6 cX6_fall 5 none 1 0 [(0, vR o), (1, vR p1), (2, vI v2)] [] s Q
  unfold P_X6_fall at h
  refine g_iconst (pc' := 1) (by unfold r32; decide) dX6_fall_0 rfl ?_
  refine g_istore_n (pc' := 2) dX6_fall_1 rfl (by decide) ?_
  obtain ⟨n2, h⟩ := h
  refine (SL_X6_fall_2 ho hp1 (fun s1 h => ?_) n2 _ _ h).to ((sb_c rfl (sb_c rfl (sb_c rfl (sb_c rfl sb_n)))))
  · exact g_vret dX6_fall_131 rfl h
def L_X6_takeStep_8 (p0 : Nat) (p1 : Nat) (v2 : Int) (K121 : Int → Int → Sto → Prop) : Nat → Int → Int → Int → Sto → Prop
  | 0, _, _, _, _ => False
  | n + 1, v3, v5, v6, s => ((s p1 0 ≤ v6 → K121 v3 v5 s) ∧ (¬ s p1 0 ≤ v6 → (inb v6 8 ∧ ((s (p0 + 1) v6.toNat = 1 → (P_X6_move p0 p1 v6 v2 s (fun _ s4 => (inb v6 8 ∧ ((s4 (p0 + 1) v6.toNat = 1 → (inb v6 8 ∧ (∀ x9 : Int, x9 = lShl 1 (s4 (p0 + 2) v6.toNat) → (∀ x10 : Int, x10 = (if v5 = 0 then (if lA v3 x9 = 0 then 0 else 1) else 1) → (∀ x13 : Int, x13 = lO v3 x9 → L_X6_takeStep_8 p0 p1 v2 K121 n x13 x10 (w32 (v6 + 1)) s4))))) ∧ (¬ s4 (p0 + 1) v6.toNat = 1 → L_X6_takeStep_8 p0 p1 v2 K121 n v3 v5 (w32 (v6 + 1)) s4)))))) ∧ (¬ s (p0 + 1) v6.toNat = 1 → (inb v6 8 ∧ ((s (p0 + 1) v6.toNat = 0 → (inb v6 8 ∧ ((s (p1 + 1) v6.toNat = v2 → (O_X6_start p0 p1 v6 s ∧ (∀ s19 : Sto, s19 = S_X6_start p0 p1 v6 s → (inb v6 8 ∧ ((s19 (p0 + 1) v6.toNat = 1 → (inb v6 8 ∧ (∀ x23 : Int, x23 = lShl 1 (s19 (p0 + 2) v6.toNat) → (∀ x24 : Int, x24 = (if v5 = 0 then (if lA v3 x23 = 0 then 0 else 1) else 1) → (∀ x27 : Int, x27 = lO v3 x23 → L_X6_takeStep_8 p0 p1 v2 K121 n x27 x24 (w32 (v6 + 1)) s19))))) ∧ (¬ s19 (p0 + 1) v6.toNat = 1 → L_X6_takeStep_8 p0 p1 v2 K121 n v3 v5 (w32 (v6 + 1)) s19)))))) ∧ (¬ s (p1 + 1) v6.toNat = v2 → (inb v6 8 ∧ L_X6_takeStep_8 p0 p1 v2 K121 n v3 v5 (w32 (v6 + 1)) s))))) ∧ (¬ s (p0 + 1) v6.toNat = 0 → (inb v6 8 ∧ L_X6_takeStep_8 p0 p1 v2 K121 n v3 v5 (w32 (v6 + 1)) s)))))))))
set_option maxRecDepth 100000 in
theorem SL_X6_takeStep_8 {p0 : Nat} {p1 : Nat} {v2 : Int} {K121 : Int → Int → Sto → Prop} {Q : Int → Sto → Prop} (hp0 : kd p0 = 16) (hp1 : kd p1 = 14) (hK121 : ∀ v3 v5 s, K121 v3 v5 s → sr_G RX6 cX6_takeStep 9 none 2 121 [(0, vR p0), (1, vR p1), (2, vI v2), (3, vL v3), (5, vI v5)] [] s Q) : ∀ n v3 v5 v6 s, L_X6_takeStep_8 p0 p1 v2 K121 n v3 v5 v6 s → sr_G RX6 cX6_takeStep 9 none 2 8 [(0, vR p0), (1, vR p1), (2, vI v2), (3, vL v3), (5, vI v5), (6, vI v6)] [] s Q := by
  intro n
  induction n with
  | zero => intro v3 v5 v6 s h; exact h.elim
  | succ n ih =>
    intro v3 v5 v6 s h
    unfold L_X6_takeStep_8 at h
    refine g_iload (pc' := 10) dX6_takeStep_8 rfl rfl ?_
    refine g_aload_n (pc' := 11) dX6_takeStep_10 rfl rfl ?_
    refine g_getI (pc' := 14) dX6_takeStep_11 rfl fl_RX6_62 hp1 (Or.inl rfl) ?_
    refine g_ic_ge (pc' := 17) (tgt := 121) dX6_takeStep_14 rfl rfl (fun c1 => ?_) (fun c1 => ?_)
    · have h := h.1 c1
      exact (hK121 _ _ _ h).to ((sb_c rfl (sb_c rfl (sb_c rfl (sb_c rfl (sb_c rfl sb_n))))))
    · have h := h.2 c1
      refine g_aload_n (pc' := 18) dX6_takeStep_17 rfl rfl ?_
      refine g_getR (pc' := 21) (r := p0 + 1) dX6_takeStep_18 rfl fl_RX6_9 hp0 rfl (ly_6_1 hp0) ?_
      refine g_iload (pc' := 23) dX6_takeStep_21 rfl rfl ?_
      obtain ⟨ob2, h⟩ := h
      refine g_iald (pc' := 24) dX6_takeStep_23 rfl (lk_6_1 hp0) (Eq.mpr (congrArg (inb _) (la_6_1 hp0)) ob2) ?_
      refine g_iconst (pc' := 25) (by unfold r32; decide) dX6_takeStep_24 rfl ?_
      refine g_ic_ne (pc' := 28) (tgt := 39) dX6_takeStep_25 rfl rfl (fun c3 => ?_) (fun c3 => ?_)
      · have h := h.2 c3
        refine g_aload_n (pc' := 40) dX6_takeStep_39 rfl rfl ?_
        refine g_getR (pc' := 43) (r := p0 + 1) dX6_takeStep_40 rfl fl_RX6_9 hp0 rfl (ly_6_1 hp0) ?_
        refine g_iload (pc' := 45) dX6_takeStep_43 rfl rfl ?_
        obtain ⟨ob14, h⟩ := h
        refine g_iald (pc' := 46) dX6_takeStep_45 rfl (lk_6_1 hp0) (Eq.mpr (congrArg (inb _) (la_6_1 hp0)) ob14) ?_
        refine g_if_ne (pc' := 49) (tgt := 67) dX6_takeStep_46 rfl rfl (fun c15 => ?_) (fun c15 => ?_)
        · have h := h.2 c15
          refine g_aload_n (pc' := 68) dX6_takeStep_67 rfl rfl ?_
          refine g_getR (pc' := 71) (r := p0 + 1) dX6_takeStep_68 rfl fl_RX6_9 hp0 rfl (ly_6_1 hp0) ?_
          refine g_iload (pc' := 73) dX6_takeStep_71 rfl rfl ?_
          obtain ⟨ob30, h⟩ := h
          refine g_iald (pc' := 74) dX6_takeStep_73 rfl (lk_6_1 hp0) (Eq.mpr (congrArg (inb _) (la_6_1 hp0)) ob30) ?_
          refine g_iconst (pc' := 75) (by unfold r32; decide) dX6_takeStep_74 rfl ?_
          refine g_ic_ne (pc' := 78) (tgt := 115) dX6_takeStep_75 rfl rfl (fun c31 => ?_) (fun c31 => absurd c31 c3)
          refine g_iinc (pc' := 118) dX6_takeStep_115 rfl rfl (by decide) ?_
          refine g_goto (pc' := 8) dX6_takeStep_118 rfl ?_
          exact (ih _ _ _ _ h).to ((sb_c rfl (sb_c rfl (sb_c rfl (sb_c rfl (sb_c rfl (sb_c rfl sb_n)))))))
        · have h := h.1 c15
          refine g_aload_n (pc' := 50) dX6_takeStep_49 rfl rfl ?_
          refine g_getR (pc' := 53) (r := p1 + 1) dX6_takeStep_50 rfl fl_RX6_70 hp1 rfl (ly_4_1 hp1) ?_
          refine g_iload (pc' := 55) dX6_takeStep_53 rfl rfl ?_
          obtain ⟨ob16, h⟩ := h
          refine g_iald (pc' := 56) dX6_takeStep_55 rfl (lk_4_1 hp1) (Eq.mpr (congrArg (inb _) (la_4_1 hp1)) ob16) ?_
          refine g_iload_n (pc' := 57) dX6_takeStep_56 rfl rfl ?_
          refine g_ic_ne (pc' := 60) (tgt := 67) dX6_takeStep_57 rfl rfl (fun c17 => ?_) (fun c17 => ?_)
          · have h := h.2 c17
            refine g_aload_n (pc' := 68) dX6_takeStep_67 rfl rfl ?_
            refine g_getR (pc' := 71) (r := p0 + 1) dX6_takeStep_68 rfl fl_RX6_9 hp0 rfl (ly_6_1 hp0) ?_
            refine g_iload (pc' := 73) dX6_takeStep_71 rfl rfl ?_
            obtain ⟨ob28, h⟩ := h
            refine g_iald (pc' := 74) dX6_takeStep_73 rfl (lk_6_1 hp0) (Eq.mpr (congrArg (inb _) (la_6_1 hp0)) ob28) ?_
            refine g_iconst (pc' := 75) (by unfold r32; decide) dX6_takeStep_74 rfl ?_
            refine g_ic_ne (pc' := 78) (tgt := 115) dX6_takeStep_75 rfl rfl (fun c29 => ?_) (fun c29 => absurd c29 c3)
            refine g_iinc (pc' := 118) dX6_takeStep_115 rfl rfl (by decide) ?_
            refine g_goto (pc' := 8) dX6_takeStep_118 rfl ?_
            exact (ih _ _ _ _ h).to ((sb_c rfl (sb_c rfl (sb_c rfl (sb_c rfl (sb_c rfl (sb_c rfl sb_n)))))))
          · have h := h.1 c17
            refine g_aload_n (pc' := 61) dX6_takeStep_60 rfl rfl ?_
            refine g_aload_n (pc' := 62) dX6_takeStep_61 rfl rfl ?_
            refine g_iload (pc' := 64) dX6_takeStep_62 rfl rfl ?_
            obtain ⟨ob18, h⟩ := h
            refine g_V2v (pc' := 67) dX6_takeStep_64 rfl mv_RX6_83 hp0 (by decide) (Nat.le_of_ble_eq_true rfl) (C_X6_start hp0 hp1 ob18) (sr_purv ?_)
            refine g_sto (fun s19 es19 => ?_)
            have h := h s19 es19
            refine g_aload_n (pc' := 68) dX6_takeStep_67 rfl rfl ?_
            refine g_getR (pc' := 71) (r := p0 + 1) dX6_takeStep_68 rfl fl_RX6_9 hp0 rfl (ly_6_1 hp0) ?_
            refine g_iload (pc' := 73) dX6_takeStep_71 rfl rfl ?_
            obtain ⟨ob20, h⟩ := h
            refine g_iald (pc' := 74) dX6_takeStep_73 rfl (lk_6_1 hp0) (Eq.mpr (congrArg (inb _) (la_6_1 hp0)) ob20) ?_
            refine g_iconst (pc' := 75) (by unfold r32; decide) dX6_takeStep_74 rfl ?_
            refine g_ic_ne (pc' := 78) (tgt := 115) dX6_takeStep_75 rfl rfl (fun c21 => ?_) (fun c21 => ?_)
            · have h := h.2 c21
              refine g_iinc (pc' := 118) dX6_takeStep_115 rfl rfl (by decide) ?_
              refine g_goto (pc' := 8) dX6_takeStep_118 rfl ?_
              exact (ih _ _ _ _ h).to ((sb_c rfl (sb_c rfl (sb_c rfl (sb_c rfl (sb_c rfl (sb_c rfl sb_n)))))))
            · have h := h.1 c21
              refine g_lconst (pc' := 79) (z := 1) ⟨by unfold r64; decide, rfl⟩ dX6_takeStep_78 rfl ?_
              refine g_aload_n (pc' := 80) dX6_takeStep_79 rfl rfl ?_
              refine g_getR (pc' := 83) (r := p0 + 2) dX6_takeStep_80 rfl fl_RX6_15 hp0 rfl (ly_6_2 hp0) ?_
              refine g_iload (pc' := 85) dX6_takeStep_83 rfl rfl ?_
              obtain ⟨ob22, h⟩ := h
              refine g_iald (pc' := 86) dX6_takeStep_85 rfl (lk_6_2 hp0) (Eq.mpr (congrArg (inb _) (la_6_2 hp0)) ob22) ?_
              refine g_lshl (pc' := 87) dX6_takeStep_86 rfl ?_
              refine g_topL (fun x23 ex23 => ?_)
              have h := h x23 ex23
              refine g_lstore (pc' := 89) dX6_takeStep_87 rfl (by decide) ?_
              refine g_iload (pc' := 91) dX6_takeStep_89 rfl rfl ?_
              refine sr_join (v := (if v5 = 0 then (if lA v3 x23 = 0 then 0 else 1) else 1)) (GG := fun x24 => sr_G RX6 cX6_takeStep 9 none 2 108 [(0, vR p0), (1, vR p1), (2, vI v2), (3, vL v3), (6, vI v6), (7, vL x23)] [vI x24] s19 Q) (fun x24 ex24 => ?_) (fun hj => ?_)
              · have h := h x24 ex24
                refine g_istore (pc' := 110) dX6_takeStep_108 rfl (by decide) ?_
                refine g_lload_n (pc' := 111) dX6_takeStep_110 rfl rfl ?_
                refine g_lload (pc' := 113) dX6_takeStep_111 rfl rfl ?_
                refine g_lor (pc' := 114) dX6_takeStep_113 rfl ?_
                refine g_topL (fun x27 ex27 => ?_)
                have h := h x27 ex27
                refine g_lstore_n (pc' := 115) dX6_takeStep_114 rfl (by decide) ?_
                refine g_iinc (pc' := 118) dX6_takeStep_115 rfl rfl (by decide) ?_
                refine g_goto (pc' := 8) dX6_takeStep_118 rfl ?_
                exact (ih _ _ _ _ h).to ((sb_c rfl (sb_c rfl (sb_c rfl (sb_c rfl (sb_c rfl (sb_c rfl sb_n)))))))
              · refine g_if_ne (pc' := 94) (tgt := 103) dX6_takeStep_91 rfl rfl (fun c25 => ?_) (fun c25 => ?_)
                · refine g_iconst (pc' := 104) (by unfold r32; decide) dX6_takeStep_103 rfl ?_
                  refine g_goto (pc' := 108) dX6_takeStep_104 rfl ?_
                  exact (hj _ (by rw [if_neg c25])).to ((sb_c rfl (sb_c rfl (sb_c rfl (sb_c rfl (sb_c rfl (sb_c rfl sb_n)))))))
                · refine g_lload_n (pc' := 95) dX6_takeStep_94 rfl rfl ?_
                  refine g_lload (pc' := 97) dX6_takeStep_95 rfl rfl ?_
                  refine g_land (pc' := 98) dX6_takeStep_97 rfl ?_
                  refine g_lconst (pc' := 99) (z := 0) ⟨by unfold r64; decide, rfl⟩ dX6_takeStep_98 rfl ?_
                  refine g_lc_eq (pc' := 103) (tgt := 107) dX6_takeStep_99 dX6_takeStep_100 rfl rfl (fun c26 => ?_) (fun c26 => ?_)
                  · refine g_iconst (pc' := 108) (by unfold r32; decide) dX6_takeStep_107 rfl ?_
                    exact (hj _ (by rw [if_pos c25, if_pos c26])).to ((sb_c rfl (sb_c rfl (sb_c rfl (sb_c rfl (sb_c rfl (sb_c rfl sb_n)))))))
                  · refine g_iconst (pc' := 104) (by unfold r32; decide) dX6_takeStep_103 rfl ?_
                    refine g_goto (pc' := 108) dX6_takeStep_104 rfl ?_
                    exact (hj _ (by rw [if_pos c25, if_neg c26])).to ((sb_c rfl (sb_c rfl (sb_c rfl (sb_c rfl (sb_c rfl (sb_c rfl sb_n)))))))
      · have h := h.1 c3
        refine g_aload_n (pc' := 29) dX6_takeStep_28 rfl rfl ?_
        refine g_aload_n (pc' := 30) dX6_takeStep_29 rfl rfl ?_
        refine g_iload (pc' := 32) dX6_takeStep_30 rfl rfl ?_
        refine g_iload_n (pc' := 33) dX6_takeStep_32 rfl rfl ?_
        refine g_V3v (pc' := 36) dX6_takeStep_33 rfl mv_RX6_79 hp0 (by decide) (Nat.le_of_ble_eq_true rfl) (C_X6_move hp0 hp1 h) (fun s4 h => ?_)
        refine g_goto (pc' := 67) dX6_takeStep_36 rfl ?_
        refine g_aload_n (pc' := 68) dX6_takeStep_67 rfl rfl ?_
        refine g_getR (pc' := 71) (r := p0 + 1) dX6_takeStep_68 rfl fl_RX6_9 hp0 rfl (ly_6_1 hp0) ?_
        refine g_iload (pc' := 73) dX6_takeStep_71 rfl rfl ?_
        obtain ⟨ob6, h⟩ := h
        refine g_iald (pc' := 74) dX6_takeStep_73 rfl (lk_6_1 hp0) (Eq.mpr (congrArg (inb _) (la_6_1 hp0)) ob6) ?_
        refine g_iconst (pc' := 75) (by unfold r32; decide) dX6_takeStep_74 rfl ?_
        refine g_ic_ne (pc' := 78) (tgt := 115) dX6_takeStep_75 rfl rfl (fun c7 => ?_) (fun c7 => ?_)
        · have h := h.2 c7
          refine g_iinc (pc' := 118) dX6_takeStep_115 rfl rfl (by decide) ?_
          refine g_goto (pc' := 8) dX6_takeStep_118 rfl ?_
          exact (ih _ _ _ _ h).to ((sb_c rfl (sb_c rfl (sb_c rfl (sb_c rfl (sb_c rfl (sb_c rfl sb_n)))))))
        · have h := h.1 c7
          refine g_lconst (pc' := 79) (z := 1) ⟨by unfold r64; decide, rfl⟩ dX6_takeStep_78 rfl ?_
          refine g_aload_n (pc' := 80) dX6_takeStep_79 rfl rfl ?_
          refine g_getR (pc' := 83) (r := p0 + 2) dX6_takeStep_80 rfl fl_RX6_15 hp0 rfl (ly_6_2 hp0) ?_
          refine g_iload (pc' := 85) dX6_takeStep_83 rfl rfl ?_
          obtain ⟨ob8, h⟩ := h
          refine g_iald (pc' := 86) dX6_takeStep_85 rfl (lk_6_2 hp0) (Eq.mpr (congrArg (inb _) (la_6_2 hp0)) ob8) ?_
          refine g_lshl (pc' := 87) dX6_takeStep_86 rfl ?_
          refine g_topL (fun x9 ex9 => ?_)
          have h := h x9 ex9
          refine g_lstore (pc' := 89) dX6_takeStep_87 rfl (by decide) ?_
          refine g_iload (pc' := 91) dX6_takeStep_89 rfl rfl ?_
          refine sr_join (v := (if v5 = 0 then (if lA v3 x9 = 0 then 0 else 1) else 1)) (GG := fun x10 => sr_G RX6 cX6_takeStep 9 none 2 108 [(0, vR p0), (1, vR p1), (2, vI v2), (3, vL v3), (6, vI v6), (7, vL x9)] [vI x10] s4 Q) (fun x10 ex10 => ?_) (fun hj => ?_)
          · have h := h x10 ex10
            refine g_istore (pc' := 110) dX6_takeStep_108 rfl (by decide) ?_
            refine g_lload_n (pc' := 111) dX6_takeStep_110 rfl rfl ?_
            refine g_lload (pc' := 113) dX6_takeStep_111 rfl rfl ?_
            refine g_lor (pc' := 114) dX6_takeStep_113 rfl ?_
            refine g_topL (fun x13 ex13 => ?_)
            have h := h x13 ex13
            refine g_lstore_n (pc' := 115) dX6_takeStep_114 rfl (by decide) ?_
            refine g_iinc (pc' := 118) dX6_takeStep_115 rfl rfl (by decide) ?_
            refine g_goto (pc' := 8) dX6_takeStep_118 rfl ?_
            exact (ih _ _ _ _ h).to ((sb_c rfl (sb_c rfl (sb_c rfl (sb_c rfl (sb_c rfl (sb_c rfl sb_n)))))))
          · refine g_if_ne (pc' := 94) (tgt := 103) dX6_takeStep_91 rfl rfl (fun c11 => ?_) (fun c11 => ?_)
            · refine g_iconst (pc' := 104) (by unfold r32; decide) dX6_takeStep_103 rfl ?_
              refine g_goto (pc' := 108) dX6_takeStep_104 rfl ?_
              exact (hj _ (by rw [if_neg c11])).to ((sb_c rfl (sb_c rfl (sb_c rfl (sb_c rfl (sb_c rfl (sb_c rfl sb_n)))))))
            · refine g_lload_n (pc' := 95) dX6_takeStep_94 rfl rfl ?_
              refine g_lload (pc' := 97) dX6_takeStep_95 rfl rfl ?_
              refine g_land (pc' := 98) dX6_takeStep_97 rfl ?_
              refine g_lconst (pc' := 99) (z := 0) ⟨by unfold r64; decide, rfl⟩ dX6_takeStep_98 rfl ?_
              refine g_lc_eq (pc' := 103) (tgt := 107) dX6_takeStep_99 dX6_takeStep_100 rfl rfl (fun c12 => ?_) (fun c12 => ?_)
              · refine g_iconst (pc' := 108) (by unfold r32; decide) dX6_takeStep_107 rfl ?_
                exact (hj _ (by rw [if_pos c11, if_pos c12])).to ((sb_c rfl (sb_c rfl (sb_c rfl (sb_c rfl (sb_c rfl (sb_c rfl sb_n)))))))
              · refine g_iconst (pc' := 104) (by unfold r32; decide) dX6_takeStep_103 rfl ?_
                refine g_goto (pc' := 108) dX6_takeStep_104 rfl ?_
                exact (hj _ (by rw [if_pos c11, if_neg c12])).to ((sb_c rfl (sb_c rfl (sb_c rfl (sb_c rfl (sb_c rfl (sb_c rfl sb_n)))))))
def P_X6_takeStep (o : Nat) (p1 : Nat) (v2 : Int) (s : Sto) (Q : Int → Sto → Prop) : Prop := (∃ n13, L_X6_takeStep_8 o p1 v2 (fun x1 x2 s3 => ((x2 = 0 → ((lA x1 (s3 o 12) = 0 → Q 0 s3) ∧ (¬ lA x1 (s3 o 12) = 0 → (P_X6_fall o p1 v2 s3 (fun _ s6 => Q 0 s6))))) ∧ (¬ x2 = 0 → (P_X6_meet o p1 v2 s3 (fun _ s8 => ((lA x1 (s8 o 12) = 0 → Q 0 s8) ∧ (¬ lA x1 (s8 o 12) = 0 → (P_X6_fall o p1 v2 s8 (fun _ s11 => Q 0 s11))))))))) n13 0 0 0 s)
set_option maxRecDepth 100000 in
theorem C_X6_takeStep {o : Nat} {p1 : Nat} {v2 : Int} {s : Sto} {Q : Int → Sto → Prop} (ho : kd o = 16) (hp1 : kd p1 = 14) (h : P_X6_takeStep o p1 v2 s Q) : sr_C yX6_takeStep cX6_takeStep 9 none 2 [vR o, vR p1, vI v2] s Q := by
  refine sr_C.of (by decide +kernel) (Nat.le_of_ble_eq_true rfl) ?_
  show sr_G RX6 cX6_takeStep 9 none 2 0 [(0, vR o), (1, vR p1), (2, vI v2)] [] s Q
  unfold P_X6_takeStep at h
  refine g_lconst (pc' := 1) (z := 0) ⟨by unfold r64; decide, rfl⟩ dX6_takeStep_0 rfl ?_
  refine g_lstore_n (pc' := 2) dX6_takeStep_1 rfl (by decide) ?_
  refine g_iconst (pc' := 3) (by unfold r32; decide) dX6_takeStep_2 rfl ?_
  refine g_istore (pc' := 5) dX6_takeStep_3 rfl (by decide) ?_
  refine g_iconst (pc' := 6) (by unfold r32; decide) dX6_takeStep_5 rfl ?_
  refine g_istore (pc' := 8) dX6_takeStep_6 rfl (by decide) ?_
  obtain ⟨n13, h⟩ := h
  refine (SL_X6_takeStep_8 ho hp1 (fun x1 x2 s3 h => ?_) n13 _ _ _ _ h).to ((sb_c rfl (sb_c rfl (sb_c rfl (sb_c rfl (sb_c rfl (sb_c rfl sb_n)))))))
  · refine g_iload (pc' := 123) dX6_takeStep_121 rfl rfl ?_
    refine g_if_eq (pc' := 126) (tgt := 132) dX6_takeStep_123 rfl rfl (fun c4 => ?_) (fun c4 => ?_)
    · have h := h.1 c4
      refine g_lload_n (pc' := 133) dX6_takeStep_132 rfl rfl ?_
      refine g_aload_n (pc' := 134) dX6_takeStep_133 rfl rfl ?_
      refine g_getL (pc' := 137) dX6_takeStep_134 rfl fl_RX6_46 ho rfl ?_
      refine g_land (pc' := 138) dX6_takeStep_137 rfl ?_
      refine g_lconst (pc' := 139) (z := 0) ⟨by unfold r64; decide, rfl⟩ dX6_takeStep_138 rfl ?_
      refine g_lc_eq (pc' := 143) (tgt := 149) dX6_takeStep_139 dX6_takeStep_140 rfl rfl (fun c5 => ?_) (fun c5 => ?_)
      · have h := h.1 c5
        exact g_vret dX6_takeStep_149 rfl h
      · have h := h.2 c5
        refine g_aload_n (pc' := 144) dX6_takeStep_143 rfl rfl ?_
        refine g_aload_n (pc' := 145) dX6_takeStep_144 rfl rfl ?_
        refine g_iload_n (pc' := 146) dX6_takeStep_145 rfl rfl ?_
        refine g_V2v (pc' := 149) dX6_takeStep_146 rfl mv_RX6_89 ho (by decide) (Nat.le_of_ble_eq_true rfl) (C_X6_fall ho hp1 h) (fun s6 h => ?_)
        exact g_vret dX6_takeStep_149 rfl h
    · have h := h.2 c4
      refine g_aload_n (pc' := 127) dX6_takeStep_126 rfl rfl ?_
      refine g_aload_n (pc' := 128) dX6_takeStep_127 rfl rfl ?_
      refine g_iload_n (pc' := 129) dX6_takeStep_128 rfl rfl ?_
      refine g_V2v (pc' := 132) dX6_takeStep_129 rfl mv_RX6_86 ho (by decide) (Nat.le_of_ble_eq_true rfl) (C_X6_meet ho hp1 h) (fun s8 h => ?_)
      refine g_lload_n (pc' := 133) dX6_takeStep_132 rfl rfl ?_
      refine g_aload_n (pc' := 134) dX6_takeStep_133 rfl rfl ?_
      refine g_getL (pc' := 137) dX6_takeStep_134 rfl fl_RX6_46 ho rfl ?_
      refine g_land (pc' := 138) dX6_takeStep_137 rfl ?_
      refine g_lconst (pc' := 139) (z := 0) ⟨by unfold r64; decide, rfl⟩ dX6_takeStep_138 rfl ?_
      refine g_lc_eq (pc' := 143) (tgt := 149) dX6_takeStep_139 dX6_takeStep_140 rfl rfl (fun c10 => ?_) (fun c10 => ?_)
      · have h := h.1 c10
        exact g_vret dX6_takeStep_149 rfl h
      · have h := h.2 c10
        refine g_aload_n (pc' := 144) dX6_takeStep_143 rfl rfl ?_
        refine g_aload_n (pc' := 145) dX6_takeStep_144 rfl rfl ?_
        refine g_iload_n (pc' := 146) dX6_takeStep_145 rfl rfl ?_
        refine g_V2v (pc' := 149) dX6_takeStep_146 rfl mv_RX6_89 ho (by decide) (Nat.le_of_ble_eq_true rfl) (C_X6_fall ho hp1 h) (fun s11 h => ?_)
        exact g_vret dX6_takeStep_149 rfl h
def L_X6_playAll_7 (p0 : Nat) (p1 : Nat) (K32 : Sto → Prop) : Nat → Int → Sto → Prop
  | 0, _, _ => False
  | n + 1, v2, s => ((20 ≤ v2 → K32 s) ∧ (¬ 20 ≤ v2 → ((s p0 11 ≤ 0 → K32 s) ∧ (¬ s p0 11 ≤ 0 → (P_X6_takeStep p0 p1 v2 s (fun _ s3 => L_X6_playAll_7 p0 p1 K32 n (w32 (v2 + 1)) s3))))))
set_option maxRecDepth 100000 in
theorem SL_X6_playAll_7 {p0 : Nat} {p1 : Nat} {K32 : Sto → Prop} {Q : Int → Sto → Prop} (hp0 : kd p0 = 16) (hp1 : kd p1 = 14) (hK32 : ∀ s, K32 s → sr_G RX6 cX6_playAll 3 none 3 32 [] [] s Q) : ∀ n v2 s, L_X6_playAll_7 p0 p1 K32 n v2 s → sr_G RX6 cX6_playAll 3 none 3 7 [(0, vR p0), (1, vR p1), (2, vI v2)] [] s Q := by
  intro n
  induction n with
  | zero => intro v2 s h; exact h.elim
  | succ n ih =>
    intro v2 s h
    unfold L_X6_playAll_7 at h
    refine g_iload_n (pc' := 8) dX6_playAll_7 rfl rfl ?_
    refine g_bipush (pc' := 10) ⟨by unfold r32; decide, rfl⟩ dX6_playAll_8 rfl ?_
    refine g_ic_ge (pc' := 13) (tgt := 32) dX6_playAll_10 rfl rfl (fun c1 => ?_) (fun c1 => ?_)
    · have h := h.1 c1
      exact (hK32 _ h).to (sb_n)
    · have h := h.2 c1
      refine g_aload_n (pc' := 14) dX6_playAll_13 rfl rfl ?_
      refine g_getI (pc' := 17) dX6_playAll_14 rfl fl_RX6_43 hp0 (Or.inl rfl) ?_
      refine g_if_le (pc' := 20) (tgt := 32) dX6_playAll_17 rfl rfl (fun c2 => ?_) (fun c2 => ?_)
      · have h := h.1 c2
        exact (hK32 _ h).to (sb_n)
      · have h := h.2 c2
        refine g_aload_n (pc' := 21) dX6_playAll_20 rfl rfl ?_
        refine g_aload_n (pc' := 22) dX6_playAll_21 rfl rfl ?_
        refine g_iload_n (pc' := 23) dX6_playAll_22 rfl rfl ?_
        refine g_V2v (pc' := 26) dX6_playAll_23 rfl mv_RX6_58 hp0 (by decide) (Nat.le_of_ble_eq_true rfl) (C_X6_takeStep hp0 hp1 h) (fun s3 h => ?_)
        refine g_iinc (pc' := 29) dX6_playAll_26 rfl rfl (by decide) ?_
        refine g_goto (pc' := 7) dX6_playAll_29 rfl ?_
        exact (ih _ _ h).to ((sb_c rfl (sb_c rfl (sb_c rfl sb_n))))
def P_X6_playAll (o : Nat) (p1 : Nat) (s : Sto) (Q : Int → Sto → Prop) : Prop := (P_X6_begin o p1 s (fun _ s1 => (∃ n4, L_X6_playAll_7 o p1 (fun s3 => Q 0 s3) n4 0 s1)))
set_option maxRecDepth 100000 in
theorem C_X6_playAll {o : Nat} {p1 : Nat} {s : Sto} {Q : Int → Sto → Prop} (ho : kd o = 16) (hp1 : kd p1 = 14) (h : P_X6_playAll o p1 s Q) : sr_C yX6_playAll cX6_playAll 3 none 3 [vR o, vR p1] s Q := by
  refine sr_C.of (by decide +kernel) (Nat.le_of_ble_eq_true rfl) ?_
  show sr_G RX6 cX6_playAll 3 none 3 0 [(0, vR o), (1, vR p1)] [] s Q
  unfold P_X6_playAll at h
  refine g_aload_n (pc' := 1) dX6_playAll_0 rfl rfl ?_
  refine g_aload_n (pc' := 2) dX6_playAll_1 rfl rfl ?_
  refine g_V1v (pc' := 5) dX6_playAll_2 rfl mv_RX6_54 ho (by decide) (Nat.le_of_ble_eq_true rfl) (C_X6_begin ho hp1 h) (fun s1 h => ?_)
  refine g_iconst (pc' := 6) (by unfold r32; decide) dX6_playAll_5 rfl ?_
  refine g_istore_n (pc' := 7) dX6_playAll_6 rfl (by decide) ?_
  obtain ⟨n4, h⟩ := h
  refine (SL_X6_playAll_7 ho hp1 (fun s3 h => ?_) n4 _ _ h).to ((sb_c rfl (sb_c rfl (sb_c rfl sb_n))))
  · exact g_vret dX6_playAll_32 rfl h
def L_X0_weighCalms_3 (v1 : Int) (v2 : Int) (K60 : Sto → Prop) : Nat → Int → Sto → Prop
  | 0, _, _ => False
  | n + 1, v4, s => ((s 66 5 ≤ v4 → K60 s) ∧ (¬ s 66 5 ≤ v4 → (inb v4 10 ∧ (∀ x3 : Int, x3 = s 67 v4.toNat → (((iA (iShr v1 v4) 1 = 0 → (inb x3 20 ∧ True)) ∧ (¬ iA (iShr v1 v4) 1 = 0 → True)) ∧ (∀ x4 : Int, x4 = (if iA (iShr v1 v4) 1 = 0 then s 15 x3.toNat else (-1)) → (inb x3 20 ∧ (∀ s8 : Sto, s8 = up s 53 x3.toNat x4 → L_X0_weighCalms_3 v1 v2 K60 n (w32 (v4 + 1)) s8))))))))
set_option maxRecDepth 100000 in
theorem SL_X0_weighCalms_3 {v1 : Int} {v2 : Int} {K60 : Sto → Prop} {Q : Int → Sto → Prop}  (hK60 : ∀ s, K60 s → sr_G RX0 cX0_weighCalms 6 none 4 60 [(0, vR 66), (2, vL v2)] [] s Q) : ∀ n v4 s, L_X0_weighCalms_3 v1 v2 K60 n v4 s → sr_G RX0 cX0_weighCalms 6 none 4 3 [(0, vR 66), (1, vI v1), (2, vL v2), (4, vI v4)] [] s Q := by
  intro n
  induction n with
  | zero => intro v4 s h; exact h.elim
  | succ n ih =>
    intro v4 s h
    unfold L_X0_weighCalms_3 at h
    refine g_iload (pc' := 5) dX0_weighCalms_3 rfl rfl ?_
    refine g_aload_n (pc' := 6) dX0_weighCalms_5 rfl rfl ?_
    refine g_getI (pc' := 9) dX0_weighCalms_6 rfl fl_RX0_15 kd_66 (Or.inl rfl) ?_
    refine g_ic_ge (pc' := 12) (tgt := 60) dX0_weighCalms_9 rfl rfl (fun c1 => ?_) (fun c1 => ?_)
    · have h := h.1 c1
      exact (hK60 _ h).to ((sb_c rfl (sb_c rfl sb_n)))
    · have h := h.2 c1
      refine g_aload_n (pc' := 13) dX0_weighCalms_12 rfl rfl ?_
      refine g_getR (pc' := 16) (r := 67) dX0_weighCalms_13 rfl fl_RX0_9 kd_66 rfl rf_66_4 ?_
      refine g_iload (pc' := 18) dX0_weighCalms_16 rfl rfl ?_
      obtain ⟨ob2, h⟩ := h
      refine g_iald (pc' := 19) dX0_weighCalms_18 rfl kd_67 ob2 ?_
      refine g_topI (fun x3 ex3 => ?_)
      have h := h x3 ex3
      refine g_istore (pc' := 21) dX0_weighCalms_19 rfl (by decide) ?_
      refine g_aload_n (pc' := 22) dX0_weighCalms_21 rfl rfl ?_
      refine g_getR (pc' := 25) (r := 44) dX0_weighCalms_22 rfl fl_RX0_40 kd_66 rfl rf_66_2 ?_
      refine g_getR (pc' := 28) (r := 53) dX0_weighCalms_25 rfl fl_RX0_89 kd_44 rfl rf_44_10 ?_
      refine g_iload (pc' := 30) dX0_weighCalms_28 rfl rfl ?_
      refine g_iload_n (pc' := 31) dX0_weighCalms_30 rfl rfl ?_
      refine g_iload (pc' := 33) dX0_weighCalms_31 rfl rfl ?_
      refine g_ishr (pc' := 34) dX0_weighCalms_33 rfl ?_
      refine g_iconst (pc' := 35) (by unfold r32; decide) dX0_weighCalms_34 rfl ?_
      refine g_iand (pc' := 36) dX0_weighCalms_35 rfl ?_
      obtain ⟨ho, h⟩ := h
      refine sr_join (v := (if iA (iShr v1 v4) 1 = 0 then s 15 x3.toNat else (-1))) (GG := fun x4 => sr_G RX0 cX0_weighCalms 6 none 4 53 [(0, vR 66), (1, vI v1), (2, vL v2), (4, vI v4)] [vI x4, vI x3, vR 53] s Q) (fun x4 ex4 => ?_) (fun hj => ?_)
      · have h := h x4 ex4
        obtain ⟨ob7, h⟩ := h
        refine g_iast (pc' := 54) dX0_weighCalms_53 rfl kd_53 ob7 ?_
        refine g_sto (fun s8 es8 => ?_)
        have h := h s8 es8
        refine g_iinc (pc' := 57) dX0_weighCalms_54 rfl rfl (by decide) ?_
        refine g_goto (pc' := 3) dX0_weighCalms_57 rfl ?_
        exact (ih _ _ h).to ((sb_c rfl (sb_c rfl (sb_c rfl (sb_c rfl sb_n)))))
      · refine g_if_eq (pc' := 39) (tgt := 43) dX0_weighCalms_36 rfl rfl (fun c5 => ?_) (fun c5 => ?_)
        · have ho := ho.1 c5
          refine g_aload_n (pc' := 44) dX0_weighCalms_43 rfl rfl ?_
          refine g_getR (pc' := 47) (r := 6) dX0_weighCalms_44 rfl fl_RX0_36 kd_66 rfl rf_66_1 ?_
          refine g_getR (pc' := 50) (r := 15) dX0_weighCalms_47 rfl fl_RX0_89 kd_6 rfl rf_6_10 ?_
          refine g_iload (pc' := 52) dX0_weighCalms_50 rfl rfl ?_
          obtain ⟨ob6, ho⟩ := ho
          refine g_iald (pc' := 53) dX0_weighCalms_52 rfl kd_15 ob6 ?_
          exact (hj _ (by rw [if_pos c5])).to ((sb_c rfl (sb_c rfl (sb_c rfl (sb_c rfl sb_n)))))
        · have ho := ho.2 c5
          refine g_iconst (pc' := 40) (by unfold r32; decide) dX0_weighCalms_39 rfl ?_
          refine g_goto (pc' := 53) dX0_weighCalms_40 rfl ?_
          exact (hj _ (by rw [if_neg c5])).to ((sb_c rfl (sb_c rfl (sb_c rfl (sb_c rfl sb_n)))))
def L_X0_weighCalms_74 (v2 : Int) (K149 : Sto → Prop) : Nat → Int → Sto → Prop
  | 0, _, _ => False
  | n + 1, v4, s => ((s 44 6 ≤ v4 → K149 s) ∧ (¬ s 44 6 ≤ v4 → (inb v4 8 ∧ (∀ x3 : Int, x3 = w32 ((w32 (v4 * 4)) + (s 61 v4.toNat)) → (inb v4 8 ∧ ((s 61 v4.toNat = (-1) → L_X0_weighCalms_74 v2 K149 n (w32 (v4 + 1)) s) ∧ (¬ s 61 v4.toNat = (-1) → ((x3 < 0 → L_X0_weighCalms_74 v2 K149 n (w32 (v4 + 1)) s) ∧ (¬ x3 < 0 → ((32 ≤ x3 → L_X0_weighCalms_74 v2 K149 n (w32 (v4 + 1)) s) ∧ (¬ 32 ≤ x3 → (inb x3 32 ∧ (inb x3 32 ∧ (∀ s10 : Sto, s10 = up s 68 x3.toNat (w64 ((s 68 x3.toNat) + v2)) → L_X0_weighCalms_74 v2 K149 n (w32 (v4 + 1)) s10))))))))))))))
set_option maxRecDepth 100000 in
theorem SL_X0_weighCalms_74 {v2 : Int} {K149 : Sto → Prop} {Q : Int → Sto → Prop}  (hK149 : ∀ s, K149 s → sr_G RX0 cX0_weighCalms 6 none 4 149 [] [] s Q) : ∀ n v4 s, L_X0_weighCalms_74 v2 K149 n v4 s → sr_G RX0 cX0_weighCalms 6 none 4 74 [(0, vR 66), (2, vL v2), (4, vI v4)] [] s Q := by
  intro n
  induction n with
  | zero => intro v4 s h; exact h.elim
  | succ n ih =>
    intro v4 s h
    unfold L_X0_weighCalms_74 at h
    refine g_iload (pc' := 76) dX0_weighCalms_74 rfl rfl ?_
    refine g_aload_n (pc' := 77) dX0_weighCalms_76 rfl rfl ?_
    refine g_getR (pc' := 80) (r := 44) dX0_weighCalms_77 rfl fl_RX0_40 kd_66 rfl rf_66_2 ?_
    refine g_getI (pc' := 83) dX0_weighCalms_80 rfl fl_RX0_97 kd_44 (Or.inl rfl) ?_
    refine g_ic_ge (pc' := 86) (tgt := 149) dX0_weighCalms_83 rfl rfl (fun c1 => ?_) (fun c1 => ?_)
    · have h := h.1 c1
      exact (hK149 _ h).to (sb_n)
    · have h := h.2 c1
      refine g_iload (pc' := 88) dX0_weighCalms_86 rfl rfl ?_
      refine g_iconst (pc' := 89) (by unfold r32; decide) dX0_weighCalms_88 rfl ?_
      refine g_imul (pc' := 90) dX0_weighCalms_89 rfl ?_
      refine g_aload_n (pc' := 91) dX0_weighCalms_90 rfl rfl ?_
      refine g_getR (pc' := 94) (r := 54) dX0_weighCalms_91 rfl fl_RX0_43 kd_66 rfl rf_66_3 ?_
      refine g_getR (pc' := 97) (r := 61) dX0_weighCalms_94 rfl fl_RX0_100 kd_54 rfl rf_54_7 ?_
      refine g_iload (pc' := 99) dX0_weighCalms_97 rfl rfl ?_
      obtain ⟨ob2, h⟩ := h
      refine g_iald (pc' := 100) dX0_weighCalms_99 rfl kd_61 ob2 ?_
      refine g_iadd (pc' := 101) dX0_weighCalms_100 rfl ?_
      refine g_topI (fun x3 ex3 => ?_)
      have h := h x3 ex3
      refine g_istore (pc' := 103) dX0_weighCalms_101 rfl (by decide) ?_
      refine g_aload_n (pc' := 104) dX0_weighCalms_103 rfl rfl ?_
      refine g_getR (pc' := 107) (r := 54) dX0_weighCalms_104 rfl fl_RX0_43 kd_66 rfl rf_66_3 ?_
      refine g_getR (pc' := 110) (r := 61) dX0_weighCalms_107 rfl fl_RX0_100 kd_54 rfl rf_54_7 ?_
      refine g_iload (pc' := 112) dX0_weighCalms_110 rfl rfl ?_
      obtain ⟨ob4, h⟩ := h
      refine g_iald (pc' := 113) dX0_weighCalms_112 rfl kd_61 ob4 ?_
      refine g_iconst (pc' := 114) (by unfold r32; decide) dX0_weighCalms_113 rfl ?_
      refine g_ic_eq (pc' := 117) (tgt := 143) dX0_weighCalms_114 rfl rfl (fun c5 => ?_) (fun c5 => ?_)
      · have h := h.1 c5
        refine g_iinc (pc' := 146) dX0_weighCalms_143 rfl rfl (by decide) ?_
        refine g_goto (pc' := 74) dX0_weighCalms_146 rfl ?_
        exact (ih _ _ h).to ((sb_c rfl (sb_c rfl (sb_c rfl sb_n))))
      · have h := h.2 c5
        refine g_iload (pc' := 119) dX0_weighCalms_117 rfl rfl ?_
        refine g_if_lt (pc' := 122) (tgt := 143) dX0_weighCalms_119 rfl rfl (fun c6 => ?_) (fun c6 => ?_)
        · have h := h.1 c6
          refine g_iinc (pc' := 146) dX0_weighCalms_143 rfl rfl (by decide) ?_
          refine g_goto (pc' := 74) dX0_weighCalms_146 rfl ?_
          exact (ih _ _ h).to ((sb_c rfl (sb_c rfl (sb_c rfl sb_n))))
        · have h := h.2 c6
          refine g_iload (pc' := 124) dX0_weighCalms_122 rfl rfl ?_
          refine g_aload_n (pc' := 125) dX0_weighCalms_124 rfl rfl ?_
          refine g_getR (pc' := 128) (r := 68) dX0_weighCalms_125 rfl fl_RX0_19 kd_66 rfl rf_66_6 ?_
          refine g_alen (pc' := 129) (n := 32) dX0_weighCalms_128 rfl (by rw [kd_68]; decide) (by rw [kd_68]; decide) rfl (by unfold r32; decide) ?_
          refine g_ic_ge (pc' := 132) (tgt := 143) dX0_weighCalms_129 rfl rfl (fun c7 => ?_) (fun c7 => ?_)
          · have h := h.1 c7
            refine g_iinc (pc' := 146) dX0_weighCalms_143 rfl rfl (by decide) ?_
            refine g_goto (pc' := 74) dX0_weighCalms_146 rfl ?_
            exact (ih _ _ h).to ((sb_c rfl (sb_c rfl (sb_c rfl sb_n))))
          · have h := h.2 c7
            refine g_aload_n (pc' := 133) dX0_weighCalms_132 rfl rfl ?_
            refine g_getR (pc' := 136) (r := 68) dX0_weighCalms_133 rfl fl_RX0_19 kd_66 rfl rf_66_6 ?_
            refine g_iload (pc' := 138) dX0_weighCalms_136 rfl rfl ?_
            refine g_dup2 (pc' := 139) dX0_weighCalms_138 rfl ?_
            obtain ⟨ob8, h⟩ := h
            refine g_lald (pc' := 140) dX0_weighCalms_139 rfl kd_68 ob8 ?_
            refine g_lload_n (pc' := 141) dX0_weighCalms_140 rfl rfl ?_
            refine g_ladd (pc' := 142) dX0_weighCalms_141 rfl ?_
            obtain ⟨ob9, h⟩ := h
            refine g_last (pc' := 143) dX0_weighCalms_142 rfl kd_68 ob9 ?_
            refine g_sto (fun s10 es10 => ?_)
            have h := h s10 es10
            refine g_iinc (pc' := 146) dX0_weighCalms_143 rfl rfl (by decide) ?_
            refine g_goto (pc' := 74) dX0_weighCalms_146 rfl ?_
            exact (ih _ _ h).to ((sb_c rfl (sb_c rfl (sb_c rfl sb_n))))
def P_X0_weighCalms (v1 : Int) (v2 : Int) (s : Sto) (Q : Int → Sto → Prop) : Prop := (∃ n6, L_X0_weighCalms_3 v1 v2 (fun s1 => (P_X6_playAll 54 44 s1 (fun _ s2 => (∃ n5, L_X0_weighCalms_74 v2 (fun s4 => Q 0 s4) n5 0 s2)))) n6 0 s)
set_option maxRecDepth 100000 in
theorem C_X0_weighCalms {v1 : Int} {v2 : Int} {s : Sto} {Q : Int → Sto → Prop}  (h : P_X0_weighCalms v1 v2 s Q) : sr_C yX0_weighCalms cX0_weighCalms 6 none 4 [vR 66, vI v1, vL v2] s Q := by
  refine sr_C.of (by decide +kernel) (Nat.le_of_ble_eq_true rfl) ?_
  show sr_G RX0 cX0_weighCalms 6 none 4 0 [(0, vR 66), (1, vI v1), (2, vL v2)] [] s Q
  unfold P_X0_weighCalms at h
  refine g_iconst (pc' := 1) (by unfold r32; decide) dX0_weighCalms_0 rfl ?_
  refine g_istore (pc' := 3) dX0_weighCalms_1 rfl (by decide) ?_
  obtain ⟨n6, h⟩ := h
  refine (SL_X0_weighCalms_3  (fun s1 h => ?_) n6 _ _ h).to ((sb_c rfl (sb_c rfl (sb_c rfl (sb_c rfl sb_n)))))
  · refine g_aload_n (pc' := 61) dX0_weighCalms_60 rfl rfl ?_
    refine g_getR (pc' := 64) (r := 54) dX0_weighCalms_61 rfl fl_RX0_43 kd_66 rfl rf_66_3 ?_
    refine g_aload_n (pc' := 65) dX0_weighCalms_64 rfl rfl ?_
    refine g_getR (pc' := 68) (r := 44) dX0_weighCalms_65 rfl fl_RX0_40 kd_66 rfl rf_66_2 ?_
    refine g_V1v (pc' := 71) dX0_weighCalms_68 rfl mv_RX0_92 kd_54 (by decide) (Nat.le_of_ble_eq_true rfl) (C_X6_playAll kd_54 kd_44 h) (fun s2 h => ?_)
    refine g_iconst (pc' := 72) (by unfold r32; decide) dX0_weighCalms_71 rfl ?_
    refine g_istore (pc' := 74) dX0_weighCalms_72 rfl (by decide) ?_
    obtain ⟨n5, h⟩ := h
    refine (SL_X0_weighCalms_74  (fun s4 h => ?_) n5 _ _ h).to ((sb_c rfl (sb_c rfl (sb_c rfl sb_n))))
    · exact g_vret dX0_weighCalms_149 rfl h
def L_X0_weigh_26 (v1 : Int) (K87 : Sto → Prop) : Nat → Int → Sto → Prop
  | 0, _, _ => False
  | n + 1, v3, s => ((iShl 1 (s 66 5) ≤ v3 → K87 s) ∧ (¬ iShl 1 (s 66 5) ≤ v3 → (∀ x2 : Int, x2 = F_J6_bitCount_0f7a4 v3 s → (P_X0_power v1 x2 s (fun r4 s3 => (P_X0_power (w32 (16 - v1)) (w32 ((s3 66 5) - x2)) s3 (fun r6 s5 => (∀ x7 : Int, x7 = w64 (r4 * r6) → ((x7 ≤ 0 → L_X0_weigh_26 v1 K87 n (w32 (v3 + 1)) s5) ∧ (¬ x7 ≤ 0 → (P_X0_weighCalms v3 x7 s5 (fun _ s9 => L_X0_weigh_26 v1 K87 n (w32 (v3 + 1)) s9))))))))))))
set_option maxRecDepth 100000 in
theorem SL_X0_weigh_26 {v1 : Int} {K87 : Sto → Prop} {Q : Int → Sto → Prop}  (hK87 : ∀ s, K87 s → sr_G RX0 cX0_weigh 7 none 5 87 [] [] s Q) : ∀ n v3 s, L_X0_weigh_26 v1 K87 n v3 s → sr_G RX0 cX0_weigh 7 none 5 26 [(0, vR 66), (1, vI v1), (3, vI v3)] [] s Q := by
  intro n
  induction n with
  | zero => intro v3 s h; exact h.elim
  | succ n ih =>
    intro v3 s h
    unfold L_X0_weigh_26 at h
    refine g_iload_n (pc' := 27) dX0_weigh_26 rfl rfl ?_
    refine g_iconst (pc' := 28) (by unfold r32; decide) dX0_weigh_27 rfl ?_
    refine g_aload_n (pc' := 29) dX0_weigh_28 rfl rfl ?_
    refine g_getI (pc' := 32) dX0_weigh_29 rfl fl_RX0_15 kd_66 (Or.inl rfl) ?_
    refine g_ishl (pc' := 33) dX0_weigh_32 rfl ?_
    refine g_ic_ge (pc' := 36) (tgt := 87) dX0_weigh_33 rfl rfl (fun c1 => ?_) (fun c1 => ?_)
    · have h := h.1 c1
      exact (hK87 _ h).to (sb_n)
    · have h := h.2 c1
      refine g_iload_n (pc' := 37) dX0_weigh_36 rfl rfl ?_
      refine g_S1i (pc' := 40) dX0_weigh_37 rfl ms_RX0_63 (by decide) (Nat.le_of_ble_eq_true rfl) C_J6_bitCount_0f7a4 (sr_pur ?_)
      refine g_topI (fun x2 ex2 => ?_)
      have h := h x2 ex2
      refine g_istore (pc' := 42) dX0_weigh_40 rfl (by decide) ?_
      refine g_iload_n (pc' := 43) dX0_weigh_42 rfl rfl ?_
      refine g_i2l (pc' := 44) dX0_weigh_43 rfl ?_
      refine g_iload (pc' := 46) dX0_weigh_44 rfl rfl ?_
      refine g_S2l (pc' := 49) dX0_weigh_46 rfl ms_RX0_69 (by decide) (Nat.le_of_ble_eq_true rfl) (C_X0_power h) (fun r4 s3 h => ?_)
      refine g_bipush (pc' := 51) ⟨by unfold r32; decide, rfl⟩ dX0_weigh_49 rfl ?_
      refine g_iload_n (pc' := 52) dX0_weigh_51 rfl rfl ?_
      refine g_isub (pc' := 53) dX0_weigh_52 rfl ?_
      refine g_i2l (pc' := 54) dX0_weigh_53 rfl ?_
      refine g_aload_n (pc' := 55) dX0_weigh_54 rfl rfl ?_
      refine g_getI (pc' := 58) dX0_weigh_55 rfl fl_RX0_15 kd_66 (Or.inl rfl) ?_
      refine g_iload (pc' := 60) dX0_weigh_58 rfl rfl ?_
      refine g_isub (pc' := 61) dX0_weigh_60 rfl ?_
      refine g_S2l (pc' := 64) dX0_weigh_61 rfl ms_RX0_69 (by decide) (Nat.le_of_ble_eq_true rfl) (C_X0_power h) (fun r6 s5 h => ?_)
      refine g_lmul (pc' := 65) dX0_weigh_64 rfl ?_
      refine g_topL (fun x7 ex7 => ?_)
      have h := h x7 ex7
      refine g_lstore (pc' := 67) dX0_weigh_65 rfl (by decide) ?_
      refine g_lload (pc' := 69) dX0_weigh_67 rfl rfl ?_
      refine g_lconst (pc' := 70) (z := 0) ⟨by unfold r64; decide, rfl⟩ dX0_weigh_69 rfl ?_
      refine g_lc_le (pc' := 74) (tgt := 81) dX0_weigh_70 dX0_weigh_71 rfl rfl (fun c8 => ?_) (fun c8 => ?_)
      · have h := h.1 c8
        refine g_iinc (pc' := 84) dX0_weigh_81 rfl rfl (by decide) ?_
        refine g_goto (pc' := 26) dX0_weigh_84 rfl ?_
        exact (ih _ _ h).to ((sb_c rfl (sb_c rfl (sb_c rfl sb_n))))
      · have h := h.2 c8
        refine g_aload_n (pc' := 75) dX0_weigh_74 rfl rfl ?_
        refine g_iload_n (pc' := 76) dX0_weigh_75 rfl rfl ?_
        refine g_lload (pc' := 78) dX0_weigh_76 rfl rfl ?_
        refine g_V2v (pc' := 81) dX0_weigh_78 rfl mv_RX0_73 kd_66 (by decide) (Nat.le_of_ble_eq_true rfl) (C_X0_weighCalms h) (fun s9 h => ?_)
        refine g_iinc (pc' := 84) dX0_weigh_81 rfl rfl (by decide) ?_
        refine g_goto (pc' := 26) dX0_weigh_84 rfl ?_
        exact (ih _ _ h).to ((sb_c rfl (sb_c rfl (sb_c rfl sb_n))))
def P_X0_weigh (v1 : Int) (v2 : Int) (s : Sto) (Q : Int → Sto → Prop) : Prop := (P_X0_findWindy v2 s (fun _ s1 => (P_J7_fill_d0a16 68 0 s1 (fun _ s3 => (P_X4_becomes 44 6 s3 (fun _ s5 => (∃ n8, L_X0_weigh_26 v1 (fun s7 => Q 0 s7) n8 0 s5)))))))
set_option maxRecDepth 100000 in
theorem C_X0_weigh {v1 : Int} {v2 : Int} {s : Sto} {Q : Int → Sto → Prop}  (h : P_X0_weigh v1 v2 s Q) : sr_C yX0_weigh cX0_weigh 7 none 5 [vR 66, vI v1, vI v2] s Q := by
  refine sr_C.of (by decide +kernel) (Nat.le_of_ble_eq_true rfl) ?_
  show sr_G RX0 cX0_weigh 7 none 5 0 [(0, vR 66), (1, vI v1), (2, vI v2)] [] s Q
  unfold P_X0_weigh at h
  refine g_aload_n (pc' := 1) dX0_weigh_0 rfl rfl ?_
  refine g_iload_n (pc' := 2) dX0_weigh_1 rfl rfl ?_
  refine g_V1v (pc' := 5) dX0_weigh_2 rfl mv_RX0_47 kd_66 (by decide) (Nat.le_of_ble_eq_true rfl) (C_X0_findWindy h) (fun s1 h => ?_)
  refine g_aload_n (pc' := 6) dX0_weigh_5 rfl rfl ?_
  refine g_getR (pc' := 9) (r := 68) dX0_weigh_6 rfl fl_RX0_19 kd_66 rfl rf_66_6 ?_
  refine g_lconst (pc' := 10) (z := 0) ⟨by unfold r64; decide, rfl⟩ dX0_weigh_9 rfl ?_
  refine g_S2v (pc' := 13) dX0_weigh_10 rfl ms_RX0_51 (by decide) (Nat.le_of_ble_eq_true rfl) (C_J7_fill_d0a16 kd_68 h) (fun s3 h => ?_)
  refine g_aload_n (pc' := 14) dX0_weigh_13 rfl rfl ?_
  refine g_getR (pc' := 17) (r := 44) dX0_weigh_14 rfl fl_RX0_40 kd_66 rfl rf_66_2 ?_
  refine g_aload_n (pc' := 18) dX0_weigh_17 rfl rfl ?_
  refine g_getR (pc' := 21) (r := 6) dX0_weigh_18 rfl fl_RX0_36 kd_66 rfl rf_66_1 ?_
  refine g_V1v (pc' := 24) dX0_weigh_21 rfl mv_RX0_57 kd_44 (by decide) (Nat.le_of_ble_eq_true rfl) (C_X4_becomes kd_44 kd_6 h) (fun s5 h => ?_)
  refine g_iconst (pc' := 25) (by unfold r32; decide) dX0_weigh_24 rfl ?_
  refine g_istore_n (pc' := 26) dX0_weigh_25 rfl (by decide) ?_
  obtain ⟨n8, h⟩ := h
  refine (SL_X0_weigh_26  (fun s7 h => ?_) n8 _ _ h).to ((sb_c rfl (sb_c rfl (sb_c rfl sb_n))))
  · exact g_vret dX0_weigh_87 rfl h
def F_X0_weightOf (v1 : Int) (v2 : Int) (s : Sto) : Int := (if w32 ((w32 (v1 * 4)) + v2) < 0 then 0 else (if 32 ≤ w32 ((w32 (v1 * 4)) + v2) then 0 else s 68 (w32 ((w32 (v1 * 4)) + v2)).toNat))
def O_X0_weightOf (v1 : Int) (v2 : Int) (s : Sto) : Prop := ((w32 ((w32 (v1 * 4)) + v2) < 0 → True) ∧ (¬ w32 ((w32 (v1 * 4)) + v2) < 0 → ((32 ≤ w32 ((w32 (v1 * 4)) + v2) → True) ∧ (¬ 32 ≤ w32 ((w32 (v1 * 4)) + v2) → (inb (w32 ((w32 (v1 * 4)) + v2)) 32 ∧ True)))))
set_option maxRecDepth 100000 in
theorem C_X0_weightOf {v1 : Int} {v2 : Int} {s : Sto}  (h : O_X0_weightOf v1 v2 s) : sr_C yX0_weightOf cX0_weightOf 4 (some .long) 0 [vR 66, vI v1, vI v2] s (fun r s' => r = F_X0_weightOf v1 v2 s ∧ s' = s) := by
  refine sr_C.of (by decide +kernel) (Nat.le_of_ble_eq_true rfl) ?_
  show sr_G RX0 cX0_weightOf 4 (some .long) 0 0 [(0, vR 66), (1, vI v1), (2, vI v2)] [] s (fun r s' => r = F_X0_weightOf v1 v2 s ∧ s' = s)
  unfold O_X0_weightOf at h
  refine g_iload_n (pc' := 1) dX0_weightOf_0 rfl rfl ?_
  refine g_iconst (pc' := 2) (by unfold r32; decide) dX0_weightOf_1 rfl ?_
  refine g_imul (pc' := 3) dX0_weightOf_2 rfl ?_
  refine g_iload_n (pc' := 4) dX0_weightOf_3 rfl rfl ?_
  refine g_iadd (pc' := 5) dX0_weightOf_4 rfl ?_
  refine g_istore_n (pc' := 6) dX0_weightOf_5 rfl (by decide) ?_
  refine g_iload_n (pc' := 7) dX0_weightOf_6 rfl rfl ?_
  refine g_if_lt (pc' := 10) (tgt := 28) dX0_weightOf_7 rfl rfl (fun c1 => ?_) (fun c1 => ?_)
  · have h := h.1 c1
    refine g_lconst (pc' := 29) (z := 0) ⟨by unfold r64; decide, rfl⟩ dX0_weightOf_28 rfl ?_
    exact g_lret dX0_weightOf_29 rfl ⟨(by simp only [F_X0_weightOf, if_pos c1]), rfl⟩
  · have h := h.2 c1
    refine g_iload_n (pc' := 11) dX0_weightOf_10 rfl rfl ?_
    refine g_aload_n (pc' := 12) dX0_weightOf_11 rfl rfl ?_
    refine g_getR (pc' := 15) (r := 68) dX0_weightOf_12 rfl fl_RX0_19 kd_66 rfl rf_66_6 ?_
    refine g_alen (pc' := 16) (n := 32) dX0_weightOf_15 rfl (by rw [kd_68]; decide) (by rw [kd_68]; decide) rfl (by unfold r32; decide) ?_
    refine g_ic_ge (pc' := 19) (tgt := 28) dX0_weightOf_16 rfl rfl (fun c2 => ?_) (fun c2 => ?_)
    · have h := h.1 c2
      refine g_lconst (pc' := 29) (z := 0) ⟨by unfold r64; decide, rfl⟩ dX0_weightOf_28 rfl ?_
      exact g_lret dX0_weightOf_29 rfl ⟨(by simp only [F_X0_weightOf, if_neg c1, if_pos c2]), rfl⟩
    · have h := h.2 c2
      refine g_aload_n (pc' := 20) dX0_weightOf_19 rfl rfl ?_
      refine g_getR (pc' := 23) (r := 68) dX0_weightOf_20 rfl fl_RX0_19 kd_66 rfl rf_66_6 ?_
      refine g_iload_n (pc' := 24) dX0_weightOf_23 rfl rfl ?_
      obtain ⟨ob3, h⟩ := h
      refine g_lald (pc' := 25) dX0_weightOf_24 rfl kd_68 ob3 ?_
      refine g_goto (pc' := 29) dX0_weightOf_25 rfl ?_
      exact g_lret dX0_weightOf_29 rfl ⟨(by simp only [F_X0_weightOf, if_neg c1, if_neg c2]), rfl⟩
def L_X0_halvings_2 (v1 : Int) (s : Sto) (K28 : Int → Prop) : Nat → Int → Prop
  | 0, _ => False
  | n + 1, v3 => ((w32 (4 * (s 66 5)) ≤ v3 → K28 v3) ∧ (¬ w32 (4 * (s 66 5)) ≤ v3 → ((lA (lShr v1 v3) 1 = 0 → L_X0_halvings_2 v1 s K28 n (w32 (v3 + 1))) ∧ (¬ lA (lShr v1 v3) 1 = 0 → K28 v3))))
set_option maxRecDepth 100000 in
theorem SL_X0_halvings_2 {v1 : Int} {s : Sto} {K28 : Int → Prop} {Q : Int → Sto → Prop}  (hK28 : ∀ v3, K28 v3 → sr_G RX0 cX0_halvings 4 (some .int) 0 28 [(3, vI v3)] [] s Q) : ∀ n v3, L_X0_halvings_2 v1 s K28 n v3 → sr_G RX0 cX0_halvings 4 (some .int) 0 2 [(0, vR 66), (1, vL v1), (3, vI v3)] [] s Q := by
  intro n
  induction n with
  | zero => intro v3 h; exact h.elim
  | succ n ih =>
    intro v3 h
    unfold L_X0_halvings_2 at h
    refine g_iload_n (pc' := 3) dX0_halvings_2 rfl rfl ?_
    refine g_iconst (pc' := 4) (by unfold r32; decide) dX0_halvings_3 rfl ?_
    refine g_aload_n (pc' := 5) dX0_halvings_4 rfl rfl ?_
    refine g_getI (pc' := 8) dX0_halvings_5 rfl fl_RX0_15 kd_66 (Or.inl rfl) ?_
    refine g_imul (pc' := 9) dX0_halvings_8 rfl ?_
    refine g_ic_ge (pc' := 12) (tgt := 28) dX0_halvings_9 rfl rfl (fun c1 => ?_) (fun c1 => ?_)
    · have h := h.1 c1
      exact (hK28 _ h).to ((sb_c rfl sb_n))
    · have h := h.2 c1
      refine g_lload_n (pc' := 13) dX0_halvings_12 rfl rfl ?_
      refine g_iload_n (pc' := 14) dX0_halvings_13 rfl rfl ?_
      refine g_lshr (pc' := 15) dX0_halvings_14 rfl ?_
      refine g_lconst (pc' := 16) (z := 1) ⟨by unfold r64; decide, rfl⟩ dX0_halvings_15 rfl ?_
      refine g_land (pc' := 17) dX0_halvings_16 rfl ?_
      refine g_lconst (pc' := 18) (z := 0) ⟨by unfold r64; decide, rfl⟩ dX0_halvings_17 rfl ?_
      refine g_lc_ne (pc' := 22) (tgt := 28) dX0_halvings_18 dX0_halvings_19 rfl rfl (fun c2 => ?_) (fun c2 => ?_)
      · have h := h.2 c2
        exact (hK28 _ h).to ((sb_c rfl sb_n))
      · have h := h.1 c2
        refine g_iinc (pc' := 25) dX0_halvings_22 rfl rfl (by decide) ?_
        refine g_goto (pc' := 2) dX0_halvings_25 rfl ?_
        exact (ih _ h).to ((sb_c rfl (sb_c rfl (sb_c rfl sb_n))))
def P_X0_halvings (v1 : Int) (s : Sto) (Q : Int → Sto → Prop) : Prop := (∃ n2, L_X0_halvings_2 v1 s (fun x1 => Q x1 s) n2 0)
set_option maxRecDepth 100000 in
theorem C_X0_halvings {v1 : Int} {s : Sto} {Q : Int → Sto → Prop}  (h : P_X0_halvings v1 s Q) : sr_C yX0_halvings cX0_halvings 4 (some .int) 0 [vR 66, vL v1] s Q := by
  refine sr_C.of (by decide +kernel) (Nat.le_of_ble_eq_true rfl) ?_
  show sr_G RX0 cX0_halvings 4 (some .int) 0 0 [(0, vR 66), (1, vL v1)] [] s Q
  unfold P_X0_halvings at h
  refine g_iconst (pc' := 1) (by unfold r32; decide) dX0_halvings_0 rfl ?_
  refine g_istore_n (pc' := 2) dX0_halvings_1 rfl (by decide) ?_
  obtain ⟨n2, h⟩ := h
  refine (SL_X0_halvings_2  (fun x1 h => ?_) n2 _ h).to ((sb_c rfl (sb_c rfl (sb_c rfl sb_n))))
  · refine g_iload_n (pc' := 29) dX0_halvings_28 rfl rfl ?_
    exact g_iret dX0_halvings_29 rfl h
def P_X0_above (v1 : Int) (v2 : Int) (s : Sto) (Q : Int → Sto → Prop) : Prop := (O_X0_weightOf v1 v2 s ∧ (∀ x2 : Int, x2 = F_X0_weightOf v1 v2 s → (P_X0_halvings x2 s (fun r4 s3 => Q (lShr x2 r4) s3))))
set_option maxRecDepth 100000 in
theorem C_X0_above {v1 : Int} {v2 : Int} {s : Sto} {Q : Int → Sto → Prop}  (h : P_X0_above v1 v2 s Q) : sr_C yX0_above cX0_above 5 (some .long) 1 [vR 66, vI v1, vI v2] s Q := by
  refine sr_C.of (by decide +kernel) (Nat.le_of_ble_eq_true rfl) ?_
  show sr_G RX0 cX0_above 5 (some .long) 1 0 [(0, vR 66), (1, vI v1), (2, vI v2)] [] s Q
  unfold P_X0_above at h
  refine g_aload_n (pc' := 1) dX0_above_0 rfl rfl ?_
  refine g_iload_n (pc' := 2) dX0_above_1 rfl rfl ?_
  refine g_iload_n (pc' := 3) dX0_above_2 rfl rfl ?_
  obtain ⟨ob1, h⟩ := h
  refine g_V2l (pc' := 6) dX0_above_3 rfl mv_RX0_103 kd_66 (by decide) (Nat.le_of_ble_eq_true rfl) (C_X0_weightOf ob1) (sr_pur ?_)
  refine g_topL (fun x2 ex2 => ?_)
  have h := h x2 ex2
  refine g_lstore_n (pc' := 7) dX0_above_6 rfl (by decide) ?_
  refine g_lload_n (pc' := 8) dX0_above_7 rfl rfl ?_
  refine g_aload_n (pc' := 9) dX0_above_8 rfl rfl ?_
  refine g_lload_n (pc' := 10) dX0_above_9 rfl rfl ?_
  refine g_V1i (pc' := 13) dX0_above_10 rfl mv_RX0_107 kd_66 (by decide) (Nat.le_of_ble_eq_true rfl) (C_X0_halvings h) (fun r4 s3 h => ?_)
  refine g_lshr (pc' := 14) dX0_above_13 rfl ?_
  exact g_lret dX0_above_14 rfl h
def P_X0_below (v1 : Int) (v2 : Int) (s : Sto) (Q : Int → Sto → Prop) : Prop := (O_X0_weightOf v1 v2 s ∧ (P_X0_halvings (F_X0_weightOf v1 v2 s) s (fun r3 s2 => Q (lShl 1 (w32 ((w32 (4 * (s 66 5))) - r3))) s2)))
set_option maxRecDepth 100000 in
theorem C_X0_below {v1 : Int} {v2 : Int} {s : Sto} {Q : Int → Sto → Prop}  (h : P_X0_below v1 v2 s Q) : sr_C yX0_below cX0_below 3 (some .long) 1 [vR 66, vI v1, vI v2] s Q := by
  refine sr_C.of (by decide +kernel) (Nat.le_of_ble_eq_true rfl) ?_
  show sr_G RX0 cX0_below 3 (some .long) 1 0 [(0, vR 66), (1, vI v1), (2, vI v2)] [] s Q
  unfold P_X0_below at h
  refine g_lconst (pc' := 1) (z := 1) ⟨by unfold r64; decide, rfl⟩ dX0_below_0 rfl ?_
  refine g_iconst (pc' := 2) (by unfold r32; decide) dX0_below_1 rfl ?_
  refine g_aload_n (pc' := 3) dX0_below_2 rfl rfl ?_
  refine g_getI (pc' := 6) dX0_below_3 rfl fl_RX0_15 kd_66 (Or.inl rfl) ?_
  refine g_imul (pc' := 7) dX0_below_6 rfl ?_
  refine g_aload_n (pc' := 8) dX0_below_7 rfl rfl ?_
  refine g_aload_n (pc' := 9) dX0_below_8 rfl rfl ?_
  refine g_iload_n (pc' := 10) dX0_below_9 rfl rfl ?_
  refine g_iload_n (pc' := 11) dX0_below_10 rfl rfl ?_
  obtain ⟨ob1, h⟩ := h
  refine g_V2l (pc' := 14) dX0_below_11 rfl mv_RX0_103 kd_66 (by decide) (Nat.le_of_ble_eq_true rfl) (C_X0_weightOf ob1) (sr_pur ?_)
  refine g_V1i (pc' := 17) dX0_below_14 rfl mv_RX0_107 kd_66 (by decide) (Nat.le_of_ble_eq_true rfl) (C_X0_halvings h) (fun r3 s2 h => ?_)
  refine g_isub (pc' := 18) dX0_below_17 rfl ?_
  refine g_lshl (pc' := 19) dX0_below_18 rfl ?_
  exact g_lret dX0_below_19 rfl h
def F_X0_lot (v1 : Int) (s : Sto) : Int := (if v1 ≤ 0 then 0 else w32 ((iUshr (up s 66 7 (w32 ((w32 (1103515245 * (s 66 7))) + 12345)) 66 7) 16).tmod v1))
def S_X0_lot (v1 : Int) (s : Sto) : Sto := (if v1 ≤ 0 then up s 66 7 (w32 ((w32 (1103515245 * (s 66 7))) + 12345)) else up s 66 7 (w32 ((w32 (1103515245 * (s 66 7))) + 12345)))
def O_X0_lot (v1 : Int) (s : Sto) : Prop := ((v1 ≤ 0 → True) ∧ (¬ v1 ≤ 0 → (v1 ≠ 0 ∧ True)))
set_option maxRecDepth 100000 in
theorem C_X0_lot {v1 : Int} {s : Sto}  (h : O_X0_lot v1 s) : sr_C yX0_lot cX0_lot 2 (some .int) 0 [vR 66, vI v1] s (fun r s' => r = F_X0_lot v1 s ∧ s' = S_X0_lot v1 s) := by
  refine sr_C.of (by decide +kernel) (Nat.le_of_ble_eq_true rfl) ?_
  show sr_G RX0 cX0_lot 2 (some .int) 0 0 [(0, vR 66), (1, vI v1)] [] s (fun r s' => r = F_X0_lot v1 s ∧ s' = S_X0_lot v1 s)
  unfold O_X0_lot at h
  refine g_aload_n (pc' := 1) dX0_lot_0 rfl rfl ?_
  refine g_ldc (pc' := 3) (z := 1103515245) (by unfold r32; decide) kc_RX0_130 dX0_lot_1 rfl ?_
  refine g_aload_n (pc' := 4) dX0_lot_3 rfl rfl ?_
  refine g_getI (pc' := 7) dX0_lot_4 rfl fl_RX0_23 kd_66 (Or.inl rfl) ?_
  refine g_imul (pc' := 8) dX0_lot_7 rfl ?_
  refine g_sipush (pc' := 11) ⟨by unfold r32; decide, rfl⟩ dX0_lot_8 rfl ?_
  refine g_iadd (pc' := 12) dX0_lot_11 rfl ?_
  refine g_putI (pc' := 15) dX0_lot_12 rfl fp_RX0_23 kd_66 rfl ?_
  refine g_iload_n (pc' := 16) dX0_lot_15 rfl rfl ?_
  refine g_if_le (pc' := 19) (tgt := 31) dX0_lot_16 rfl rfl (fun c1 => ?_) (fun c1 => ?_)
  · have h := h.1 c1
    refine g_iconst (pc' := 32) (by unfold r32; decide) dX0_lot_31 rfl ?_
    exact g_iret dX0_lot_32 rfl ⟨(by simp only [F_X0_lot, if_pos c1]), (by simp only [S_X0_lot, if_pos c1])⟩
  · have h := h.2 c1
    refine g_aload_n (pc' := 20) dX0_lot_19 rfl rfl ?_
    refine g_getI (pc' := 23) dX0_lot_20 rfl fl_RX0_23 kd_66 (Or.inl rfl) ?_
    refine g_bipush (pc' := 25) ⟨by unfold r32; decide, rfl⟩ dX0_lot_23 rfl ?_
    refine g_iushr (pc' := 26) dX0_lot_25 rfl ?_
    refine g_iload_n (pc' := 27) dX0_lot_26 rfl rfl ?_
    obtain ⟨ob2, h⟩ := h
    refine g_irem (pc' := 28) dX0_lot_27 rfl ob2 ?_
    refine g_goto (pc' := 32) dX0_lot_28 rfl ?_
    exact g_iret dX0_lot_32 rfl ⟨(by simp only [F_X0_lot, if_neg c1]), (by simp only [S_X0_lot, if_neg c1])⟩
def S_X4_addRing (o : Nat) (v1 : Int) (v2 : Int) (v3 : Int) (v4 : Int) (v5 : Int) (s : Sto) : Sto := (if s o 0 < 8 then up (up (up (up (up (up s (o + 1) (s o 0).toNat v1) (o + 2) (up s (o + 1) (s o 0).toNat v1 o 0).toNat v2) (o + 3) (up (up s (o + 1) (s o 0).toNat v1) (o + 2) (up s (o + 1) (s o 0).toNat v1 o 0).toNat v2 o 0).toNat v3) (o + 4) (up (up (up s (o + 1) (s o 0).toNat v1) (o + 2) (up s (o + 1) (s o 0).toNat v1 o 0).toNat v2) (o + 3) (up (up s (o + 1) (s o 0).toNat v1) (o + 2) (up s (o + 1) (s o 0).toNat v1 o 0).toNat v2 o 0).toNat v3 o 0).toNat v4) (o + 5) (up (up (up (up s (o + 1) (s o 0).toNat v1) (o + 2) (up s (o + 1) (s o 0).toNat v1 o 0).toNat v2) (o + 3) (up (up s (o + 1) (s o 0).toNat v1) (o + 2) (up s (o + 1) (s o 0).toNat v1 o 0).toNat v2 o 0).toNat v3) (o + 4) (up (up (up s (o + 1) (s o 0).toNat v1) (o + 2) (up s (o + 1) (s o 0).toNat v1 o 0).toNat v2) (o + 3) (up (up s (o + 1) (s o 0).toNat v1) (o + 2) (up s (o + 1) (s o 0).toNat v1 o 0).toNat v2 o 0).toNat v3 o 0).toNat v4 o 0).toNat v5) o 0 (w32 ((up (up (up (up (up s (o + 1) (s o 0).toNat v1) (o + 2) (up s (o + 1) (s o 0).toNat v1 o 0).toNat v2) (o + 3) (up (up s (o + 1) (s o 0).toNat v1) (o + 2) (up s (o + 1) (s o 0).toNat v1 o 0).toNat v2 o 0).toNat v3) (o + 4) (up (up (up s (o + 1) (s o 0).toNat v1) (o + 2) (up s (o + 1) (s o 0).toNat v1 o 0).toNat v2) (o + 3) (up (up s (o + 1) (s o 0).toNat v1) (o + 2) (up s (o + 1) (s o 0).toNat v1 o 0).toNat v2 o 0).toNat v3 o 0).toNat v4) (o + 5) (up (up (up (up s (o + 1) (s o 0).toNat v1) (o + 2) (up s (o + 1) (s o 0).toNat v1 o 0).toNat v2) (o + 3) (up (up s (o + 1) (s o 0).toNat v1) (o + 2) (up s (o + 1) (s o 0).toNat v1 o 0).toNat v2 o 0).toNat v3) (o + 4) (up (up (up s (o + 1) (s o 0).toNat v1) (o + 2) (up s (o + 1) (s o 0).toNat v1 o 0).toNat v2) (o + 3) (up (up s (o + 1) (s o 0).toNat v1) (o + 2) (up s (o + 1) (s o 0).toNat v1 o 0).toNat v2 o 0).toNat v3 o 0).toNat v4 o 0).toNat v5 o 0) + 1)) else s)
def O_X4_addRing (o : Nat) (v1 : Int) (v2 : Int) (v3 : Int) (v4 : Int) (v5 : Int) (s : Sto) : Prop := ((s o 0 < 8 → (inb (s o 0) 8 ∧ (inb (up s (o + 1) (s o 0).toNat v1 o 0) 8 ∧ (inb (up (up s (o + 1) (s o 0).toNat v1) (o + 2) (up s (o + 1) (s o 0).toNat v1 o 0).toNat v2 o 0) 8 ∧ (inb (up (up (up s (o + 1) (s o 0).toNat v1) (o + 2) (up s (o + 1) (s o 0).toNat v1 o 0).toNat v2) (o + 3) (up (up s (o + 1) (s o 0).toNat v1) (o + 2) (up s (o + 1) (s o 0).toNat v1 o 0).toNat v2 o 0).toNat v3 o 0) 8 ∧ (inb (up (up (up (up s (o + 1) (s o 0).toNat v1) (o + 2) (up s (o + 1) (s o 0).toNat v1 o 0).toNat v2) (o + 3) (up (up s (o + 1) (s o 0).toNat v1) (o + 2) (up s (o + 1) (s o 0).toNat v1 o 0).toNat v2 o 0).toNat v3) (o + 4) (up (up (up s (o + 1) (s o 0).toNat v1) (o + 2) (up s (o + 1) (s o 0).toNat v1 o 0).toNat v2) (o + 3) (up (up s (o + 1) (s o 0).toNat v1) (o + 2) (up s (o + 1) (s o 0).toNat v1 o 0).toNat v2 o 0).toNat v3 o 0).toNat v4 o 0) 8 ∧ True)))))) ∧ (¬ s o 0 < 8 → True))
set_option maxRecDepth 100000 in
theorem C_X4_addRing {o : Nat} {v1 : Int} {v2 : Int} {v3 : Int} {v4 : Int} {v5 : Int} {s : Sto} (ho : kd o = 14) (h : O_X4_addRing o v1 v2 v3 v4 v5 s) : sr_C yX4_addRing cX4_addRing 6 none 0 [vR o, vI v1, vI v2, vI v3, vI v4, vI v5] s (fun r s' => r = 0 ∧ s' = S_X4_addRing o v1 v2 v3 v4 v5 s) := by
  refine sr_C.of (by decide +kernel) (Nat.le_of_ble_eq_true rfl) ?_
  show sr_G RX4 cX4_addRing 6 none 0 0 [(0, vR o), (1, vI v1), (2, vI v2), (3, vI v3), (4, vI v4), (5, vI v5)] [] s (fun r s' => r = 0 ∧ s' = S_X4_addRing o v1 v2 v3 v4 v5 s)
  unfold O_X4_addRing at h
  refine g_aload_n (pc' := 1) dX4_addRing_0 rfl rfl ?_
  refine g_getI (pc' := 4) dX4_addRing_1 rfl fl_RX4_9 ho (Or.inl rfl) ?_
  refine g_bipush (pc' := 6) ⟨by unfold r32; decide, rfl⟩ dX4_addRing_4 rfl ?_
  refine g_ic_lt (pc' := 9) (tgt := 10) dX4_addRing_6 rfl rfl (fun c1 => ?_) (fun c1 => ?_)
  · have h := h.1 c1
    refine g_aload_n (pc' := 11) dX4_addRing_10 rfl rfl ?_
    refine g_getR (pc' := 14) (r := o + 1) dX4_addRing_11 rfl fl_RX4_15 ho rfl (ly_4_1 ho) ?_
    refine g_aload_n (pc' := 15) dX4_addRing_14 rfl rfl ?_
    refine g_getI (pc' := 18) dX4_addRing_15 rfl fl_RX4_9 ho (Or.inl rfl) ?_
    refine g_iload_n (pc' := 19) dX4_addRing_18 rfl rfl ?_
    obtain ⟨ob2, h⟩ := h
    refine g_iast (pc' := 20) dX4_addRing_19 rfl (lk_4_1 ho) (Eq.mpr (congrArg (inb _) (la_4_1 ho)) ob2) ?_
    refine g_aload_n (pc' := 21) dX4_addRing_20 rfl rfl ?_
    refine g_getR (pc' := 24) (r := o + 2) dX4_addRing_21 rfl fl_RX4_19 ho rfl (ly_4_2 ho) ?_
    refine g_aload_n (pc' := 25) dX4_addRing_24 rfl rfl ?_
    refine g_getI (pc' := 28) dX4_addRing_25 rfl fl_RX4_9 ho (Or.inl rfl) ?_
    refine g_iload_n (pc' := 29) dX4_addRing_28 rfl rfl ?_
    obtain ⟨ob3, h⟩ := h
    refine g_iast (pc' := 30) dX4_addRing_29 rfl (lk_4_2 ho) (Eq.mpr (congrArg (inb _) (la_4_2 ho)) ob3) ?_
    refine g_aload_n (pc' := 31) dX4_addRing_30 rfl rfl ?_
    refine g_getR (pc' := 34) (r := o + 3) dX4_addRing_31 rfl fl_RX4_22 ho rfl (ly_4_3 ho) ?_
    refine g_aload_n (pc' := 35) dX4_addRing_34 rfl rfl ?_
    refine g_getI (pc' := 38) dX4_addRing_35 rfl fl_RX4_9 ho (Or.inl rfl) ?_
    refine g_iload_n (pc' := 39) dX4_addRing_38 rfl rfl ?_
    obtain ⟨ob4, h⟩ := h
    refine g_iast (pc' := 40) dX4_addRing_39 rfl (lk_4_3 ho) (Eq.mpr (congrArg (inb _) (la_4_3 ho)) ob4) ?_
    refine g_aload_n (pc' := 41) dX4_addRing_40 rfl rfl ?_
    refine g_getR (pc' := 44) (r := o + 4) dX4_addRing_41 rfl fl_RX4_25 ho rfl (ly_4_4 ho) ?_
    refine g_aload_n (pc' := 45) dX4_addRing_44 rfl rfl ?_
    refine g_getI (pc' := 48) dX4_addRing_45 rfl fl_RX4_9 ho (Or.inl rfl) ?_
    refine g_iload (pc' := 50) dX4_addRing_48 rfl rfl ?_
    obtain ⟨ob5, h⟩ := h
    refine g_iast (pc' := 51) dX4_addRing_50 rfl (lk_4_4 ho) (Eq.mpr (congrArg (inb _) (la_4_4 ho)) ob5) ?_
    refine g_aload_n (pc' := 52) dX4_addRing_51 rfl rfl ?_
    refine g_getR (pc' := 55) (r := o + 5) dX4_addRing_52 rfl fl_RX4_28 ho rfl (ly_4_5 ho) ?_
    refine g_aload_n (pc' := 56) dX4_addRing_55 rfl rfl ?_
    refine g_getI (pc' := 59) dX4_addRing_56 rfl fl_RX4_9 ho (Or.inl rfl) ?_
    refine g_iload (pc' := 61) dX4_addRing_59 rfl rfl ?_
    obtain ⟨ob6, h⟩ := h
    refine g_iast (pc' := 62) dX4_addRing_61 rfl (lk_4_5 ho) (Eq.mpr (congrArg (inb _) (la_4_5 ho)) ob6) ?_
    refine g_aload_n (pc' := 63) dX4_addRing_62 rfl rfl ?_
    refine g_dupR (pc' := 64) dX4_addRing_63 rfl ?_
    refine g_getI (pc' := 67) dX4_addRing_64 rfl fl_RX4_9 ho (Or.inl rfl) ?_
    refine g_iconst (pc' := 68) (by unfold r32; decide) dX4_addRing_67 rfl ?_
    refine g_iadd (pc' := 69) dX4_addRing_68 rfl ?_
    refine g_putI (pc' := 72) dX4_addRing_69 rfl fp_RX4_9 ho rfl ?_
    exact g_vret dX4_addRing_72 rfl ⟨rfl, (by simp only [S_X4_addRing, if_pos c1])⟩
  · have h := h.2 c1
    exact g_vret dX4_addRing_9 rfl ⟨rfl, (by simp only [S_X4_addRing, if_neg c1])⟩
def L_X6_brokenRings_4 (p0 : Nat) (p1 : Nat) (s : Sto) (K31 : Int → Prop) : Nat → Int → Int → Prop
  | 0, _, _ => False
  | n + 1, v2, v3 => ((s p1 0 ≤ v3 → K31 v2) ∧ (¬ s p1 0 ≤ v3 → (inb v3 8 ∧ ((s (p0 + 1) v3.toNat = 3 → L_X6_brokenRings_4 p0 p1 s K31 n (w32 (v2 + 1)) (w32 (v3 + 1))) ∧ (¬ s (p0 + 1) v3.toNat = 3 → L_X6_brokenRings_4 p0 p1 s K31 n v2 (w32 (v3 + 1)))))))
set_option maxRecDepth 100000 in
theorem SL_X6_brokenRings_4 {p0 : Nat} {p1 : Nat} {s : Sto} {K31 : Int → Prop} {Q : Int → Sto → Prop} (hp0 : kd p0 = 16) (hp1 : kd p1 = 14) (hK31 : ∀ v2, K31 v2 → sr_G RX6 cX6_brokenRings 4 (some .int) 0 31 [(2, vI v2)] [] s Q) : ∀ n v2 v3, L_X6_brokenRings_4 p0 p1 s K31 n v2 v3 → sr_G RX6 cX6_brokenRings 4 (some .int) 0 4 [(0, vR p0), (1, vR p1), (2, vI v2), (3, vI v3)] [] s Q := by
  intro n
  induction n with
  | zero => intro v2 v3 h; exact h.elim
  | succ n ih =>
    intro v2 v3 h
    unfold L_X6_brokenRings_4 at h
    refine g_iload_n (pc' := 5) dX6_brokenRings_4 rfl rfl ?_
    refine g_aload_n (pc' := 6) dX6_brokenRings_5 rfl rfl ?_
    refine g_getI (pc' := 9) dX6_brokenRings_6 rfl fl_RX6_62 hp1 (Or.inl rfl) ?_
    refine g_ic_ge (pc' := 12) (tgt := 31) dX6_brokenRings_9 rfl rfl (fun c1 => ?_) (fun c1 => ?_)
    · have h := h.1 c1
      exact (hK31 _ h).to ((sb_c rfl sb_n))
    · have h := h.2 c1
      refine g_aload_n (pc' := 13) dX6_brokenRings_12 rfl rfl ?_
      refine g_getR (pc' := 16) (r := p0 + 1) dX6_brokenRings_13 rfl fl_RX6_9 hp0 rfl (ly_6_1 hp0) ?_
      refine g_iload_n (pc' := 17) dX6_brokenRings_16 rfl rfl ?_
      obtain ⟨ob2, h⟩ := h
      refine g_iald (pc' := 18) dX6_brokenRings_17 rfl (lk_6_1 hp0) (Eq.mpr (congrArg (inb _) (la_6_1 hp0)) ob2) ?_
      refine g_iconst (pc' := 19) (by unfold r32; decide) dX6_brokenRings_18 rfl ?_
      refine g_ic_ne (pc' := 22) (tgt := 25) dX6_brokenRings_19 rfl rfl (fun c3 => ?_) (fun c3 => ?_)
      · have h := h.2 c3
        refine g_iinc (pc' := 28) dX6_brokenRings_25 rfl rfl (by decide) ?_
        refine g_goto (pc' := 4) dX6_brokenRings_28 rfl ?_
        exact (ih _ _ h).to ((sb_c rfl (sb_c rfl (sb_c rfl (sb_c rfl sb_n)))))
      · have h := h.1 c3
        refine g_iinc (pc' := 25) dX6_brokenRings_22 rfl rfl (by decide) ?_
        refine g_iinc (pc' := 28) dX6_brokenRings_25 rfl rfl (by decide) ?_
        refine g_goto (pc' := 4) dX6_brokenRings_28 rfl ?_
        exact (ih _ _ h).to ((sb_c rfl (sb_c rfl (sb_c rfl (sb_c rfl sb_n)))))
def P_X6_brokenRings (o : Nat) (p1 : Nat) (s : Sto) (Q : Int → Sto → Prop) : Prop := (∃ n2, L_X6_brokenRings_4 o p1 s (fun x1 => Q x1 s) n2 0 0)
set_option maxRecDepth 100000 in
theorem C_X6_brokenRings {o : Nat} {p1 : Nat} {s : Sto} {Q : Int → Sto → Prop} (ho : kd o = 16) (hp1 : kd p1 = 14) (h : P_X6_brokenRings o p1 s Q) : sr_C yX6_brokenRings cX6_brokenRings 4 (some .int) 0 [vR o, vR p1] s Q := by
  refine sr_C.of (by decide +kernel) (Nat.le_of_ble_eq_true rfl) ?_
  show sr_G RX6 cX6_brokenRings 4 (some .int) 0 0 [(0, vR o), (1, vR p1)] [] s Q
  unfold P_X6_brokenRings at h
  refine g_iconst (pc' := 1) (by unfold r32; decide) dX6_brokenRings_0 rfl ?_
  refine g_istore_n (pc' := 2) dX6_brokenRings_1 rfl (by decide) ?_
  refine g_iconst (pc' := 3) (by unfold r32; decide) dX6_brokenRings_2 rfl ?_
  refine g_istore_n (pc' := 4) dX6_brokenRings_3 rfl (by decide) ?_
  obtain ⟨n2, h⟩ := h
  refine (SL_X6_brokenRings_4 ho hp1 (fun x1 h => ?_) n2 _ _ h).to ((sb_c rfl (sb_c rfl (sb_c rfl (sb_c rfl sb_n)))))
  · refine g_iload_n (pc' := 32) dX6_brokenRings_31 rfl rfl ?_
    exact g_iret dX6_brokenRings_32 rfl h
def L_X0_playLots_26 (v2 : Int) (K92 : Sto → Prop) : Nat → Int → Sto → Prop
  | 0, _, _ => False
  | n + 1, v3, s => ((v2 ≤ v3 → K92 s) ∧ (¬ v2 ≤ v3 → ((s 3 0 ≤ 0 → K92 s) ∧ (¬ s 3 0 ≤ 0 → (O_X0_lot (s 3 0) s ∧ (∀ s4 : Sto, s4 = S_X0_lot (s 3 0) s → (∀ x5 : Int, x5 = F_X0_lot (s 3 0) s → (O_X0_lot 4 s4 ∧ (∀ s7 : Sto, s7 = S_X0_lot 4 s4 → (∀ x8 : Int, x8 = F_X0_lot 4 s4 → (O_X0_lot 9 s7 ∧ (∀ s10 : Sto, s10 = S_X0_lot 9 s7 → (∀ x11 : Int, x11 = w32 ((F_X0_lot 9 s7) + 1) → (O_X4_addRing 44 v3 x5 x8 x11 0 s10 ∧ (∀ s13 : Sto, s13 = S_X4_addRing 44 v3 x5 x8 x11 0 s10 → L_X0_playLots_26 v2 K92 n (w32 (v3 + 1)) s13)))))))))))))))
set_option maxRecDepth 100000 in
theorem SL_X0_playLots_26 {v2 : Int} {K92 : Sto → Prop} {Q : Int → Sto → Prop}  (hK92 : ∀ s, K92 s → sr_G RX0 cX0_playLots 7 none 4 92 [(0, vR 66)] [] s Q) : ∀ n v3 s, L_X0_playLots_26 v2 K92 n v3 s → sr_G RX0 cX0_playLots 7 none 4 26 [(0, vR 66), (2, vI v2), (3, vI v3)] [] s Q := by
  intro n
  induction n with
  | zero => intro v3 s h; exact h.elim
  | succ n ih =>
    intro v3 s h
    unfold L_X0_playLots_26 at h
    refine g_iload_n (pc' := 27) dX0_playLots_26 rfl rfl ?_
    refine g_iload_n (pc' := 28) dX0_playLots_27 rfl rfl ?_
    refine g_ic_ge (pc' := 31) (tgt := 92) dX0_playLots_28 rfl rfl (fun c1 => ?_) (fun c1 => ?_)
    · have h := h.1 c1
      exact (hK92 _ h).to ((sb_c rfl sb_n))
    · have h := h.2 c1
      refine g_aload_n (pc' := 32) dX0_playLots_31 rfl rfl ?_
      refine g_getR (pc' := 35) (r := 3) dX0_playLots_32 rfl fl_RX0_32 kd_66 rfl rf_66_0 ?_
      refine g_getI (pc' := 38) dX0_playLots_35 rfl fl_RX0_111 kd_3 (Or.inl rfl) ?_
      refine g_if_le (pc' := 41) (tgt := 92) dX0_playLots_38 rfl rfl (fun c2 => ?_) (fun c2 => ?_)
      · have h := h.1 c2
        exact (hK92 _ h).to ((sb_c rfl sb_n))
      · have h := h.2 c2
        refine g_aload_n (pc' := 42) dX0_playLots_41 rfl rfl ?_
        refine g_aload_n (pc' := 43) dX0_playLots_42 rfl rfl ?_
        refine g_getR (pc' := 46) (r := 3) dX0_playLots_43 rfl fl_RX0_32 kd_66 rfl rf_66_0 ?_
        refine g_getI (pc' := 49) dX0_playLots_46 rfl fl_RX0_111 kd_3 (Or.inl rfl) ?_
        obtain ⟨ob3, h⟩ := h
        refine g_V1i (pc' := 52) dX0_playLots_49 rfl mv_RX0_116 kd_66 (by decide) (Nat.le_of_ble_eq_true rfl) (C_X0_lot ob3) (sr_pur ?_)
        refine g_sto (fun s4 es4 => ?_)
        have h := h s4 es4
        refine g_topI (fun x5 ex5 => ?_)
        have h := h x5 ex5
        refine g_istore (pc' := 54) dX0_playLots_52 rfl (by decide) ?_
        refine g_aload_n (pc' := 55) dX0_playLots_54 rfl rfl ?_
        refine g_iconst (pc' := 56) (by unfold r32; decide) dX0_playLots_55 rfl ?_
        obtain ⟨ob6, h⟩ := h
        refine g_V1i (pc' := 59) dX0_playLots_56 rfl mv_RX0_116 kd_66 (by decide) (Nat.le_of_ble_eq_true rfl) (C_X0_lot ob6) (sr_pur ?_)
        refine g_sto (fun s7 es7 => ?_)
        have h := h s7 es7
        refine g_topI (fun x8 ex8 => ?_)
        have h := h x8 ex8
        refine g_istore (pc' := 61) dX0_playLots_59 rfl (by decide) ?_
        refine g_aload_n (pc' := 62) dX0_playLots_61 rfl rfl ?_
        refine g_bipush (pc' := 64) ⟨by unfold r32; decide, rfl⟩ dX0_playLots_62 rfl ?_
        obtain ⟨ob9, h⟩ := h
        refine g_V1i (pc' := 67) dX0_playLots_64 rfl mv_RX0_116 kd_66 (by decide) (Nat.le_of_ble_eq_true rfl) (C_X0_lot ob9) (sr_pur ?_)
        refine g_sto (fun s10 es10 => ?_)
        have h := h s10 es10
        refine g_iconst (pc' := 68) (by unfold r32; decide) dX0_playLots_67 rfl ?_
        refine g_iadd (pc' := 69) dX0_playLots_68 rfl ?_
        refine g_topI (fun x11 ex11 => ?_)
        have h := h x11 ex11
        refine g_istore (pc' := 71) dX0_playLots_69 rfl (by decide) ?_
        refine g_aload_n (pc' := 72) dX0_playLots_71 rfl rfl ?_
        refine g_getR (pc' := 75) (r := 44) dX0_playLots_72 rfl fl_RX0_40 kd_66 rfl rf_66_2 ?_
        refine g_iload_n (pc' := 76) dX0_playLots_75 rfl rfl ?_
        refine g_iload (pc' := 78) dX0_playLots_76 rfl rfl ?_
        refine g_iload (pc' := 80) dX0_playLots_78 rfl rfl ?_
        refine g_iload (pc' := 82) dX0_playLots_80 rfl rfl ?_
        refine g_iconst (pc' := 83) (by unfold r32; decide) dX0_playLots_82 rfl ?_
        obtain ⟨ob12, h⟩ := h
        refine g_V5v (pc' := 86) dX0_playLots_83 rfl mv_RX0_119 kd_44 (by decide) (Nat.le_of_ble_eq_true rfl) (C_X4_addRing kd_44 ob12) (sr_purv ?_)
        refine g_sto (fun s13 es13 => ?_)
        have h := h s13 es13
        refine g_iinc (pc' := 89) dX0_playLots_86 rfl rfl (by decide) ?_
        refine g_goto (pc' := 26) dX0_playLots_89 rfl ?_
        exact (ih _ _ h).to ((sb_c rfl (sb_c rfl (sb_c rfl sb_n))))
def P_X0_playLots (v1 : Int) (v2 : Int) (s : Sto) (Q : Int → Sto → Prop) : Prop := (∀ s1 : Sto, s1 = up s 66 7 v1 → (P_X4_becomes 44 6 s1 (fun _ s2 => (∀ s4 : Sto, s4 = up s2 44 0 0 → (∃ n12, L_X0_playLots_26 v2 (fun s5 => (P_X6_playAll 54 44 s5 (fun _ s6 => (∀ s8 : Sto, s8 = up s6 66 8 (s6 54 8) → (P_X6_brokenRings 54 44 s8 (fun r10 s9 => (∀ s11 : Sto, s11 = up s9 66 9 r10 → Q 0 s11))))))) n12 0 s4)))))
set_option maxRecDepth 100000 in
theorem C_X0_playLots {v1 : Int} {v2 : Int} {s : Sto} {Q : Int → Sto → Prop}  (h : P_X0_playLots v1 v2 s Q) : sr_C yX0_playLots cX0_playLots 7 none 4 [vR 66, vI v1, vI v2] s Q := by
  refine sr_C.of (by decide +kernel) (Nat.le_of_ble_eq_true rfl) ?_
  show sr_G RX0 cX0_playLots 7 none 4 0 [(0, vR 66), (1, vI v1), (2, vI v2)] [] s Q
  unfold P_X0_playLots at h
  refine g_aload_n (pc' := 1) dX0_playLots_0 rfl rfl ?_
  refine g_iload_n (pc' := 2) dX0_playLots_1 rfl rfl ?_
  refine g_putI (pc' := 5) dX0_playLots_2 rfl fp_RX0_23 kd_66 rfl ?_
  refine g_sto (fun s1 es1 => ?_)
  have h := h s1 es1
  refine g_aload_n (pc' := 6) dX0_playLots_5 rfl rfl ?_
  refine g_getR (pc' := 9) (r := 44) dX0_playLots_6 rfl fl_RX0_40 kd_66 rfl rf_66_2 ?_
  refine g_aload_n (pc' := 10) dX0_playLots_9 rfl rfl ?_
  refine g_getR (pc' := 13) (r := 6) dX0_playLots_10 rfl fl_RX0_36 kd_66 rfl rf_66_1 ?_
  refine g_V1v (pc' := 16) dX0_playLots_13 rfl mv_RX0_57 kd_44 (by decide) (Nat.le_of_ble_eq_true rfl) (C_X4_becomes kd_44 kd_6 h) (fun s2 h => ?_)
  refine g_aload_n (pc' := 17) dX0_playLots_16 rfl rfl ?_
  refine g_getR (pc' := 20) (r := 44) dX0_playLots_17 rfl fl_RX0_40 kd_66 rfl rf_66_2 ?_
  refine g_iconst (pc' := 21) (by unfold r32; decide) dX0_playLots_20 rfl ?_
  refine g_putI (pc' := 24) dX0_playLots_21 rfl fp_RX0_77 kd_44 rfl ?_
  refine g_sto (fun s4 es4 => ?_)
  have h := h s4 es4
  refine g_iconst (pc' := 25) (by unfold r32; decide) dX0_playLots_24 rfl ?_
  refine g_istore_n (pc' := 26) dX0_playLots_25 rfl (by decide) ?_
  obtain ⟨n12, h⟩ := h
  refine (SL_X0_playLots_26  (fun s5 h => ?_) n12 _ _ h).to ((sb_c rfl (sb_c rfl (sb_c rfl sb_n))))
  · refine g_aload_n (pc' := 93) dX0_playLots_92 rfl rfl ?_
    refine g_getR (pc' := 96) (r := 54) dX0_playLots_93 rfl fl_RX0_43 kd_66 rfl rf_66_3 ?_
    refine g_aload_n (pc' := 97) dX0_playLots_96 rfl rfl ?_
    refine g_getR (pc' := 100) (r := 44) dX0_playLots_97 rfl fl_RX0_40 kd_66 rfl rf_66_2 ?_
    refine g_V1v (pc' := 103) dX0_playLots_100 rfl mv_RX0_92 kd_54 (by decide) (Nat.le_of_ble_eq_true rfl) (C_X6_playAll kd_54 kd_44 h) (fun s6 h => ?_)
    refine g_aload_n (pc' := 104) dX0_playLots_103 rfl rfl ?_
    refine g_aload_n (pc' := 105) dX0_playLots_104 rfl rfl ?_
    refine g_getR (pc' := 108) (r := 54) dX0_playLots_105 rfl fl_RX0_43 kd_66 rfl rf_66_3 ?_
    refine g_getI (pc' := 111) dX0_playLots_108 rfl fl_RX0_123 kd_54 (Or.inl rfl) ?_
    refine g_putI (pc' := 114) dX0_playLots_111 rfl fp_RX0_26 kd_66 rfl ?_
    refine g_sto (fun s8 es8 => ?_)
    have h := h s8 es8
    refine g_aload_n (pc' := 115) dX0_playLots_114 rfl rfl ?_
    refine g_aload_n (pc' := 116) dX0_playLots_115 rfl rfl ?_
    refine g_getR (pc' := 119) (r := 54) dX0_playLots_116 rfl fl_RX0_43 kd_66 rfl rf_66_3 ?_
    refine g_aload_n (pc' := 120) dX0_playLots_119 rfl rfl ?_
    refine g_getR (pc' := 123) (r := 44) dX0_playLots_120 rfl fl_RX0_40 kd_66 rfl rf_66_2 ?_
    refine g_V1i (pc' := 126) dX0_playLots_123 rfl mv_RX0_126 kd_54 (by decide) (Nat.le_of_ble_eq_true rfl) (C_X6_brokenRings kd_54 kd_44 h) (fun r10 s9 h => ?_)
    refine g_putI (pc' := 129) dX0_playLots_126 rfl fp_RX0_29 kd_66 rfl ?_
    refine g_sto (fun s11 es11 => ?_)
    have h := h s11 es11
    exact g_vret dX0_playLots_129 rfl h
def L_X1_keep_2 (v1 : Int) (p2 : Nat) (K99 : Sto → Prop) : Nat → Int → Sto → Prop
  | 0, _, _ => False
  | n + 1, v3, s => ((8 ≤ v3 → K99 s) ∧ (¬ 8 ≤ v3 → (∀ x2 : Int, x2 = w32 ((w32 ((w32 (v1 * 8)) + v3)) * 4) → ((x2 < 0 → L_X1_keep_2 v1 p2 K99 n (w32 (v3 + 1)) s) ∧ (¬ x2 < 0 → ((640 < w32 (x2 + 4) → L_X1_keep_2 v1 p2 K99 n (w32 (v3 + 1)) s) ∧ (¬ 640 < w32 (x2 + 4) → (inb v3 8 ∧ (inb x2 640 ∧ (∀ s7 : Sto, s7 = up s 25 x2.toNat (s (p2 + 1) v3.toNat) → (inb v3 8 ∧ (inb (w32 (x2 + 1)) 640 ∧ (∀ s10 : Sto, s10 = up s7 25 (w32 (x2 + 1)).toNat (s7 (p2 + 2) v3.toNat) → (inb v3 8 ∧ (inb (w32 (x2 + 2)) 640 ∧ (∀ s13 : Sto, s13 = up s10 25 (w32 (x2 + 2)).toNat (s10 (p2 + 3) v3.toNat) → (inb v3 8 ∧ (inb (w32 (x2 + 3)) 640 ∧ (∀ s16 : Sto, s16 = up s13 25 (w32 (x2 + 3)).toNat (s13 (p2 + 4) v3.toNat) → L_X1_keep_2 v1 p2 K99 n (w32 (v3 + 1)) s16)))))))))))))))))))
set_option maxRecDepth 100000 in
theorem SL_X1_keep_2 {v1 : Int} {p2 : Nat} {K99 : Sto → Prop} {Q : Int → Sto → Prop} (hp2 : kd p2 = 16) (hK99 : ∀ s, K99 s → sr_G RX1 cX1_keep 5 none 0 99 [] [] s Q) : ∀ n v3 s, L_X1_keep_2 v1 p2 K99 n v3 s → sr_G RX1 cX1_keep 5 none 0 2 [(0, vR 24), (1, vI v1), (2, vR p2), (3, vI v3)] [] s Q := by
  intro n
  induction n with
  | zero => intro v3 s h; exact h.elim
  | succ n ih =>
    intro v3 s h
    unfold L_X1_keep_2 at h
    refine g_iload_n (pc' := 3) dX1_keep_2 rfl rfl ?_
    refine g_bipush (pc' := 5) ⟨by unfold r32; decide, rfl⟩ dX1_keep_3 rfl ?_
    refine g_ic_ge (pc' := 8) (tgt := 99) dX1_keep_5 rfl rfl (fun c1 => ?_) (fun c1 => ?_)
    · have h := h.1 c1
      exact (hK99 _ h).to (sb_n)
    · have h := h.2 c1
      refine g_iload_n (pc' := 9) dX1_keep_8 rfl rfl ?_
      refine g_bipush (pc' := 11) ⟨by unfold r32; decide, rfl⟩ dX1_keep_9 rfl ?_
      refine g_imul (pc' := 12) dX1_keep_11 rfl ?_
      refine g_iload_n (pc' := 13) dX1_keep_12 rfl rfl ?_
      refine g_iadd (pc' := 14) dX1_keep_13 rfl ?_
      refine g_iconst (pc' := 15) (by unfold r32; decide) dX1_keep_14 rfl ?_
      refine g_imul (pc' := 16) dX1_keep_15 rfl ?_
      refine g_topI (fun x2 ex2 => ?_)
      have h := h x2 ex2
      refine g_istore (pc' := 18) dX1_keep_16 rfl (by decide) ?_
      refine g_iload (pc' := 20) dX1_keep_18 rfl rfl ?_
      refine g_if_lt (pc' := 23) (tgt := 93) dX1_keep_20 rfl rfl (fun c3 => ?_) (fun c3 => ?_)
      · have h := h.1 c3
        refine g_iinc (pc' := 96) dX1_keep_93 rfl rfl (by decide) ?_
        refine g_goto (pc' := 2) dX1_keep_96 rfl ?_
        exact (ih _ _ h).to ((sb_c rfl (sb_c rfl (sb_c rfl (sb_c rfl sb_n)))))
      · have h := h.2 c3
        refine g_iload (pc' := 25) dX1_keep_23 rfl rfl ?_
        refine g_iconst (pc' := 26) (by unfold r32; decide) dX1_keep_25 rfl ?_
        refine g_iadd (pc' := 27) dX1_keep_26 rfl ?_
        refine g_aload_n (pc' := 28) dX1_keep_27 rfl rfl ?_
        refine g_getR (pc' := 31) (r := 25) dX1_keep_28 rfl fl_RX1_9 kd_24 rfl rf_24_0 ?_
        refine g_alen (pc' := 32) (n := 640) dX1_keep_31 rfl (by rw [kd_25]; decide) (by rw [kd_25]; decide) rfl (by unfold r32; decide) ?_
        refine g_ic_gt (pc' := 35) (tgt := 93) dX1_keep_32 rfl rfl (fun c4 => ?_) (fun c4 => ?_)
        · have h := h.1 c4
          refine g_iinc (pc' := 96) dX1_keep_93 rfl rfl (by decide) ?_
          refine g_goto (pc' := 2) dX1_keep_96 rfl ?_
          exact (ih _ _ h).to ((sb_c rfl (sb_c rfl (sb_c rfl (sb_c rfl sb_n)))))
        · have h := h.2 c4
          refine g_aload_n (pc' := 36) dX1_keep_35 rfl rfl ?_
          refine g_getR (pc' := 39) (r := 25) dX1_keep_36 rfl fl_RX1_9 kd_24 rfl rf_24_0 ?_
          refine g_iload (pc' := 41) dX1_keep_39 rfl rfl ?_
          refine g_aload_n (pc' := 42) dX1_keep_41 rfl rfl ?_
          refine g_getR (pc' := 45) (r := p2 + 1) dX1_keep_42 rfl fl_RX1_15 hp2 rfl (ly_6_1 hp2) ?_
          refine g_iload_n (pc' := 46) dX1_keep_45 rfl rfl ?_
          obtain ⟨ob5, h⟩ := h
          refine g_iald (pc' := 47) dX1_keep_46 rfl (lk_6_1 hp2) (Eq.mpr (congrArg (inb _) (la_6_1 hp2)) ob5) ?_
          obtain ⟨ob6, h⟩ := h
          refine g_iast (pc' := 48) dX1_keep_47 rfl kd_25 ob6 ?_
          refine g_sto (fun s7 es7 => ?_)
          have h := h s7 es7
          refine g_aload_n (pc' := 49) dX1_keep_48 rfl rfl ?_
          refine g_getR (pc' := 52) (r := 25) dX1_keep_49 rfl fl_RX1_9 kd_24 rfl rf_24_0 ?_
          refine g_iload (pc' := 54) dX1_keep_52 rfl rfl ?_
          refine g_iconst (pc' := 55) (by unfold r32; decide) dX1_keep_54 rfl ?_
          refine g_iadd (pc' := 56) dX1_keep_55 rfl ?_
          refine g_aload_n (pc' := 57) dX1_keep_56 rfl rfl ?_
          refine g_getR (pc' := 60) (r := p2 + 2) dX1_keep_57 rfl fl_RX1_20 hp2 rfl (ly_6_2 hp2) ?_
          refine g_iload_n (pc' := 61) dX1_keep_60 rfl rfl ?_
          obtain ⟨ob8, h⟩ := h
          refine g_iald (pc' := 62) dX1_keep_61 rfl (lk_6_2 hp2) (Eq.mpr (congrArg (inb _) (la_6_2 hp2)) ob8) ?_
          obtain ⟨ob9, h⟩ := h
          refine g_iast (pc' := 63) dX1_keep_62 rfl kd_25 ob9 ?_
          refine g_sto (fun s10 es10 => ?_)
          have h := h s10 es10
          refine g_aload_n (pc' := 64) dX1_keep_63 rfl rfl ?_
          refine g_getR (pc' := 67) (r := 25) dX1_keep_64 rfl fl_RX1_9 kd_24 rfl rf_24_0 ?_
          refine g_iload (pc' := 69) dX1_keep_67 rfl rfl ?_
          refine g_iconst (pc' := 70) (by unfold r32; decide) dX1_keep_69 rfl ?_
          refine g_iadd (pc' := 71) dX1_keep_70 rfl ?_
          refine g_aload_n (pc' := 72) dX1_keep_71 rfl rfl ?_
          refine g_getR (pc' := 75) (r := p2 + 3) dX1_keep_72 rfl fl_RX1_23 hp2 rfl (ly_6_3 hp2) ?_
          refine g_iload_n (pc' := 76) dX1_keep_75 rfl rfl ?_
          obtain ⟨ob11, h⟩ := h
          refine g_iald (pc' := 77) dX1_keep_76 rfl (lk_6_3 hp2) (Eq.mpr (congrArg (inb _) (la_6_3 hp2)) ob11) ?_
          obtain ⟨ob12, h⟩ := h
          refine g_iast (pc' := 78) dX1_keep_77 rfl kd_25 ob12 ?_
          refine g_sto (fun s13 es13 => ?_)
          have h := h s13 es13
          refine g_aload_n (pc' := 79) dX1_keep_78 rfl rfl ?_
          refine g_getR (pc' := 82) (r := 25) dX1_keep_79 rfl fl_RX1_9 kd_24 rfl rf_24_0 ?_
          refine g_iload (pc' := 84) dX1_keep_82 rfl rfl ?_
          refine g_iconst (pc' := 85) (by unfold r32; decide) dX1_keep_84 rfl ?_
          refine g_iadd (pc' := 86) dX1_keep_85 rfl ?_
          refine g_aload_n (pc' := 87) dX1_keep_86 rfl rfl ?_
          refine g_getR (pc' := 90) (r := p2 + 4) dX1_keep_87 rfl fl_RX1_26 hp2 rfl (ly_6_4 hp2) ?_
          refine g_iload_n (pc' := 91) dX1_keep_90 rfl rfl ?_
          obtain ⟨ob14, h⟩ := h
          refine g_iald (pc' := 92) dX1_keep_91 rfl (lk_6_4 hp2) (Eq.mpr (congrArg (inb _) (la_6_4 hp2)) ob14) ?_
          obtain ⟨ob15, h⟩ := h
          refine g_iast (pc' := 93) dX1_keep_92 rfl kd_25 ob15 ?_
          refine g_sto (fun s16 es16 => ?_)
          have h := h s16 es16
          refine g_iinc (pc' := 96) dX1_keep_93 rfl rfl (by decide) ?_
          refine g_goto (pc' := 2) dX1_keep_96 rfl ?_
          exact (ih _ _ h).to ((sb_c rfl (sb_c rfl (sb_c rfl (sb_c rfl sb_n)))))
def P_X1_keep (v1 : Int) (p2 : Nat) (s : Sto) (Q : Int → Sto → Prop) : Prop := (∃ n2, L_X1_keep_2 v1 p2 (fun s1 => Q 0 s1) n2 0 s)
set_option maxRecDepth 100000 in
theorem C_X1_keep {v1 : Int} {p2 : Nat} {s : Sto} {Q : Int → Sto → Prop} (hp2 : kd p2 = 16) (h : P_X1_keep v1 p2 s Q) : sr_C yX1_keep cX1_keep 5 none 0 [vR 24, vI v1, vR p2] s Q := by
  refine sr_C.of (by decide +kernel) (Nat.le_of_ble_eq_true rfl) ?_
  show sr_G RX1 cX1_keep 5 none 0 0 [(0, vR 24), (1, vI v1), (2, vR p2)] [] s Q
  unfold P_X1_keep at h
  refine g_iconst (pc' := 1) (by unfold r32; decide) dX1_keep_0 rfl ?_
  refine g_istore_n (pc' := 2) dX1_keep_1 rfl (by decide) ?_
  obtain ⟨n2, h⟩ := h
  refine (SL_X1_keep_2 hp2 (fun s1 h => ?_) n2 _ _ h).to ((sb_c rfl (sb_c rfl (sb_c rfl (sb_c rfl sb_n)))))
  · exact g_vret dX1_keep_99 rfl h
def F_X1_look (v1 : Int) (v2 : Int) (v3 : Int) (s : Sto) : Int := (if w32 ((w32 ((w32 ((w32 (v1 * 8)) + v2)) * 4)) + v3) < 0 then (-1) else (if 640 ≤ w32 ((w32 ((w32 ((w32 (v1 * 8)) + v2)) * 4)) + v3) then (-1) else s 25 (w32 ((w32 ((w32 ((w32 (v1 * 8)) + v2)) * 4)) + v3)).toNat))
def O_X1_look (v1 : Int) (v2 : Int) (v3 : Int) (s : Sto) : Prop := ((w32 ((w32 ((w32 ((w32 (v1 * 8)) + v2)) * 4)) + v3) < 0 → True) ∧ (¬ w32 ((w32 ((w32 ((w32 (v1 * 8)) + v2)) * 4)) + v3) < 0 → ((640 ≤ w32 ((w32 ((w32 ((w32 (v1 * 8)) + v2)) * 4)) + v3) → True) ∧ (¬ 640 ≤ w32 ((w32 ((w32 ((w32 (v1 * 8)) + v2)) * 4)) + v3) → (inb (w32 ((w32 ((w32 ((w32 (v1 * 8)) + v2)) * 4)) + v3)) 640 ∧ True)))))
set_option maxRecDepth 100000 in
theorem C_X1_look {v1 : Int} {v2 : Int} {v3 : Int} {s : Sto}  (h : O_X1_look v1 v2 v3 s) : sr_C yX1_look cX1_look 5 (some .int) 0 [vR 24, vI v1, vI v2, vI v3] s (fun r s' => r = F_X1_look v1 v2 v3 s ∧ s' = s) := by
  refine sr_C.of (by decide +kernel) (Nat.le_of_ble_eq_true rfl) ?_
  show sr_G RX1 cX1_look 5 (some .int) 0 0 [(0, vR 24), (1, vI v1), (2, vI v2), (3, vI v3)] [] s (fun r s' => r = F_X1_look v1 v2 v3 s ∧ s' = s)
  unfold O_X1_look at h
  refine g_iload_n (pc' := 1) dX1_look_0 rfl rfl ?_
  refine g_bipush (pc' := 3) ⟨by unfold r32; decide, rfl⟩ dX1_look_1 rfl ?_
  refine g_imul (pc' := 4) dX1_look_3 rfl ?_
  refine g_iload_n (pc' := 5) dX1_look_4 rfl rfl ?_
  refine g_iadd (pc' := 6) dX1_look_5 rfl ?_
  refine g_iconst (pc' := 7) (by unfold r32; decide) dX1_look_6 rfl ?_
  refine g_imul (pc' := 8) dX1_look_7 rfl ?_
  refine g_iload_n (pc' := 9) dX1_look_8 rfl rfl ?_
  refine g_iadd (pc' := 10) dX1_look_9 rfl ?_
  refine g_istore (pc' := 12) dX1_look_10 rfl (by decide) ?_
  refine g_iload (pc' := 14) dX1_look_12 rfl rfl ?_
  refine g_if_lt (pc' := 17) (tgt := 37) dX1_look_14 rfl rfl (fun c1 => ?_) (fun c1 => ?_)
  · have h := h.1 c1
    refine g_iconst (pc' := 38) (by unfold r32; decide) dX1_look_37 rfl ?_
    exact g_iret dX1_look_38 rfl ⟨(by simp only [F_X1_look, if_pos c1]), rfl⟩
  · have h := h.2 c1
    refine g_iload (pc' := 19) dX1_look_17 rfl rfl ?_
    refine g_aload_n (pc' := 20) dX1_look_19 rfl rfl ?_
    refine g_getR (pc' := 23) (r := 25) dX1_look_20 rfl fl_RX1_9 kd_24 rfl rf_24_0 ?_
    refine g_alen (pc' := 24) (n := 640) dX1_look_23 rfl (by rw [kd_25]; decide) (by rw [kd_25]; decide) rfl (by unfold r32; decide) ?_
    refine g_ic_ge (pc' := 27) (tgt := 37) dX1_look_24 rfl rfl (fun c2 => ?_) (fun c2 => ?_)
    · have h := h.1 c2
      refine g_iconst (pc' := 38) (by unfold r32; decide) dX1_look_37 rfl ?_
      exact g_iret dX1_look_38 rfl ⟨(by simp only [F_X1_look, if_neg c1, if_pos c2]), rfl⟩
    · have h := h.2 c2
      refine g_aload_n (pc' := 28) dX1_look_27 rfl rfl ?_
      refine g_getR (pc' := 31) (r := 25) dX1_look_28 rfl fl_RX1_9 kd_24 rfl rf_24_0 ?_
      refine g_iload (pc' := 33) dX1_look_31 rfl rfl ?_
      obtain ⟨ob3, h⟩ := h
      refine g_iald (pc' := 34) dX1_look_33 rfl kd_25 ob3 ?_
      refine g_goto (pc' := 38) dX1_look_34 rfl ?_
      exact g_iret dX1_look_38 rfl ⟨(by simp only [F_X1_look, if_neg c1, if_neg c2]), rfl⟩
def S_X2_become (v1 : Int) (v2 : Int) (v3 : Int) (s : Sto) : Sto := up (up (up s 63 0 v1) 63 1 v2) 63 2 v3
set_option maxRecDepth 100000 in
theorem C_X2_become {v1 : Int} {v2 : Int} {v3 : Int} {s : Sto}   : sr_C yX2_become cX2_become 4 none 0 [vR 63, vI v1, vI v2, vI v3] s (fun r s' => r = 0 ∧ s' = S_X2_become v1 v2 v3 s) := by
  refine sr_C.of (by decide +kernel) (Nat.le_of_ble_eq_true rfl) ?_
  show sr_G RX2 cX2_become 4 none 0 0 [(0, vR 63), (1, vI v1), (2, vI v2), (3, vI v3)] [] s (fun r s' => r = 0 ∧ s' = S_X2_become v1 v2 v3 s)
  refine g_aload_n (pc' := 1) dX2_become_0 rfl rfl ?_
  refine g_iload_n (pc' := 2) dX2_become_1 rfl rfl ?_
  refine g_putI (pc' := 5) dX2_become_2 rfl fp_RX2_9 kd_63 rfl ?_
  refine g_aload_n (pc' := 6) dX2_become_5 rfl rfl ?_
  refine g_iload_n (pc' := 7) dX2_become_6 rfl rfl ?_
  refine g_putI (pc' := 10) dX2_become_7 rfl fp_RX2_15 kd_63 rfl ?_
  refine g_aload_n (pc' := 11) dX2_become_10 rfl rfl ?_
  refine g_iload_n (pc' := 12) dX2_become_11 rfl rfl ?_
  refine g_putI (pc' := 15) dX2_become_12 rfl fp_RX2_18 kd_63 rfl ?_
  exact g_vret dX2_become_15 rfl ⟨rfl, rfl⟩
def F_X2_pick (v1 : Int) (s : Sto) : Int := (if v1 = (-1) then s 63 0 else (if v1 = 0 then s 63 1 else s 63 2))
set_option maxRecDepth 100000 in
theorem C_X2_pick {v1 : Int} {s : Sto}   : sr_C yX2_pick cX2_pick 2 (some .int) 0 [vR 63, vI v1] s (fun r s' => r = F_X2_pick v1 s ∧ s' = s) := by
  refine sr_C.of (by decide +kernel) (Nat.le_of_ble_eq_true rfl) ?_
  show sr_G RX2 cX2_pick 2 (some .int) 0 0 [(0, vR 63), (1, vI v1)] [] s (fun r s' => r = F_X2_pick v1 s ∧ s' = s)
  refine g_iload_n (pc' := 1) dX2_pick_0 rfl rfl ?_
  refine g_iconst (pc' := 2) (by unfold r32; decide) dX2_pick_1 rfl ?_
  refine g_ic_ne (pc' := 5) (tgt := 12) dX2_pick_2 rfl rfl (fun c1 => ?_) (fun c1 => ?_)
  · refine g_iload_n (pc' := 13) dX2_pick_12 rfl rfl ?_
    refine g_if_ne (pc' := 16) (tgt := 23) dX2_pick_13 rfl rfl (fun c2 => ?_) (fun c2 => ?_)
    · refine g_aload_n (pc' := 24) dX2_pick_23 rfl rfl ?_
      refine g_getI (pc' := 27) dX2_pick_24 rfl fl_RX2_18 kd_63 (Or.inl rfl) ?_
      exact g_iret dX2_pick_27 rfl ⟨(by simp only [F_X2_pick, if_neg c1, if_neg c2]), rfl⟩
    · refine g_aload_n (pc' := 17) dX2_pick_16 rfl rfl ?_
      refine g_getI (pc' := 20) dX2_pick_17 rfl fl_RX2_15 kd_63 (Or.inl rfl) ?_
      refine g_goto (pc' := 27) dX2_pick_20 rfl ?_
      exact g_iret dX2_pick_27 rfl ⟨(by simp only [F_X2_pick, if_neg c1, if_pos c2]), rfl⟩
  · refine g_aload_n (pc' := 6) dX2_pick_5 rfl rfl ?_
    refine g_getI (pc' := 9) dX2_pick_6 rfl fl_RX2_9 kd_63 (Or.inl rfl) ?_
    refine g_goto (pc' := 27) dX2_pick_9 rfl ?_
    exact g_iret dX2_pick_27 rfl ⟨(by simp only [F_X2_pick, if_pos c1]), rfl⟩
def F_X6_outcome (o : Nat) (v1 : Int) (s : Sto) : Int := (if s (o + 7) v1.toNat = (-1) then 4 else s (o + 7) v1.toNat)
def O_X6_outcome (o : Nat) (v1 : Int) (s : Sto) : Prop := (inb v1 8 ∧ ((s (o + 7) v1.toNat = (-1) → True) ∧ (¬ s (o + 7) v1.toNat = (-1) → (inb v1 8 ∧ True))))
set_option maxRecDepth 100000 in
theorem C_X6_outcome {o : Nat} {v1 : Int} {s : Sto} (ho : kd o = 16) (h : O_X6_outcome o v1 s) : sr_C yX6_outcome cX6_outcome 2 (some .int) 0 [vR o, vI v1] s (fun r s' => r = F_X6_outcome o v1 s ∧ s' = s) := by
  refine sr_C.of (by decide +kernel) (Nat.le_of_ble_eq_true rfl) ?_
  show sr_G RX6 cX6_outcome 2 (some .int) 0 0 [(0, vR o), (1, vI v1)] [] s (fun r s' => r = F_X6_outcome o v1 s ∧ s' = s)
  unfold O_X6_outcome at h
  refine g_aload_n (pc' := 1) dX6_outcome_0 rfl rfl ?_
  refine g_getR (pc' := 4) (r := o + 7) dX6_outcome_1 rfl fl_RX6_30 ho rfl (ly_6_7 ho) ?_
  refine g_iload_n (pc' := 5) dX6_outcome_4 rfl rfl ?_
  obtain ⟨ob1, h⟩ := h
  refine g_iald (pc' := 6) dX6_outcome_5 rfl (lk_6_7 ho) (Eq.mpr (congrArg (inb _) (la_6_7 ho)) ob1) ?_
  refine g_iconst (pc' := 7) (by unfold r32; decide) dX6_outcome_6 rfl ?_
  refine g_ic_ne (pc' := 10) (tgt := 14) dX6_outcome_7 rfl rfl (fun c2 => ?_) (fun c2 => ?_)
  · have h := h.2 c2
    refine g_aload_n (pc' := 15) dX6_outcome_14 rfl rfl ?_
    refine g_getR (pc' := 18) (r := o + 7) dX6_outcome_15 rfl fl_RX6_30 ho rfl (ly_6_7 ho) ?_
    refine g_iload_n (pc' := 19) dX6_outcome_18 rfl rfl ?_
    obtain ⟨ob3, h⟩ := h
    refine g_iald (pc' := 20) dX6_outcome_19 rfl (lk_6_7 ho) (Eq.mpr (congrArg (inb _) (la_6_7 ho)) ob3) ?_
    exact g_iret dX6_outcome_20 rfl ⟨(by simp only [F_X6_outcome, if_neg c2]), rfl⟩
  · have h := h.1 c2
    refine g_iconst (pc' := 11) (by unfold r32; decide) dX6_outcome_10 rfl ?_
    refine g_goto (pc' := 20) dX6_outcome_11 rfl ?_
    exact g_iret dX6_outcome_20 rfl ⟨(by simp only [F_X6_outcome, if_pos c2]), rfl⟩
def L_X8_allSo_2 (p1 : Nat) (p2 : Nat) (s : Sto) (K42 : Prop) (K50 : Prop) : Nat → Int → Prop
  | 0, _ => False
  | n + 1, v3 => ((s 26 2 ≤ v3 → K50) ∧ (¬ s 26 2 ≤ v3 → (inb v3 8 ∧ ((s p1 6 ≤ s 27 v3.toNat → K42) ∧ (¬ s p1 6 ≤ s 27 v3.toNat → (inb v3 8 ∧ (O_X6_outcome p2 (s 27 v3.toNat) s ∧ (inb v3 8 ∧ ((F_X6_outcome p2 (s 27 v3.toNat) s = s 28 v3.toNat → L_X8_allSo_2 p1 p2 s K42 K50 n (w32 (v3 + 1))) ∧ (¬ F_X6_outcome p2 (s 27 v3.toNat) s = s 28 v3.toNat → K42))))))))))
set_option maxRecDepth 100000 in
theorem SL_X8_allSo_2 {p1 : Nat} {p2 : Nat} {s : Sto} {K42 : Prop} {K50 : Prop} {Q : Int → Sto → Prop} (hp1 : kd p1 = 14) (hp2 : kd p2 = 16) (hK42 : K42 → sr_G RX8 cX8_allSo 4 (some .boolean) 1 42 [] [] s Q) (hK50 : K50 → sr_G RX8 cX8_allSo 4 (some .boolean) 1 50 [] [] s Q) : ∀ n v3, L_X8_allSo_2 p1 p2 s K42 K50 n v3 → sr_G RX8 cX8_allSo 4 (some .boolean) 1 2 [(0, vR 26), (1, vR p1), (2, vR p2), (3, vI v3)] [] s Q := by
  intro n
  induction n with
  | zero => intro v3 h; exact h.elim
  | succ n ih =>
    intro v3 h
    unfold L_X8_allSo_2 at h
    refine g_iload_n (pc' := 3) dX8_allSo_2 rfl rfl ?_
    refine g_aload_n (pc' := 4) dX8_allSo_3 rfl rfl ?_
    refine g_getI (pc' := 7) dX8_allSo_4 rfl fl_RX8_18 kd_26 (Or.inl rfl) ?_
    refine g_ic_ge (pc' := 10) (tgt := 50) dX8_allSo_7 rfl rfl (fun c1 => ?_) (fun c1 => ?_)
    · have h := h.1 c1
      exact (hK50 h).to (sb_n)
    · have h := h.2 c1
      refine g_aload_n (pc' := 11) dX8_allSo_10 rfl rfl ?_
      refine g_getR (pc' := 14) (r := 27) dX8_allSo_11 rfl fl_RX8_9 kd_26 rfl rf_26_0 ?_
      refine g_iload_n (pc' := 15) dX8_allSo_14 rfl rfl ?_
      obtain ⟨ob2, h⟩ := h
      refine g_iald (pc' := 16) dX8_allSo_15 rfl kd_27 ob2 ?_
      refine g_aload_n (pc' := 17) dX8_allSo_16 rfl rfl ?_
      refine g_getI (pc' := 20) dX8_allSo_17 rfl fl_RX8_22 hp1 (Or.inl rfl) ?_
      refine g_ic_ge (pc' := 23) (tgt := 42) dX8_allSo_20 rfl rfl (fun c3 => ?_) (fun c3 => ?_)
      · have h := h.1 c3
        exact (hK42 h).to (sb_n)
      · have h := h.2 c3
        refine g_aload_n (pc' := 24) dX8_allSo_23 rfl rfl ?_
        refine g_aload_n (pc' := 25) dX8_allSo_24 rfl rfl ?_
        refine g_getR (pc' := 28) (r := 27) dX8_allSo_25 rfl fl_RX8_9 kd_26 rfl rf_26_0 ?_
        refine g_iload_n (pc' := 29) dX8_allSo_28 rfl rfl ?_
        obtain ⟨ob4, h⟩ := h
        refine g_iald (pc' := 30) dX8_allSo_29 rfl kd_27 ob4 ?_
        obtain ⟨ob5, h⟩ := h
        refine g_V1i (pc' := 33) dX8_allSo_30 rfl mv_RX8_26 hp2 (by decide) (Nat.le_of_ble_eq_true rfl) (C_X6_outcome hp2 ob5) (sr_pur ?_)
        refine g_aload_n (pc' := 34) dX8_allSo_33 rfl rfl ?_
        refine g_getR (pc' := 37) (r := 28) dX8_allSo_34 rfl fl_RX8_15 kd_26 rfl rf_26_1 ?_
        refine g_iload_n (pc' := 38) dX8_allSo_37 rfl rfl ?_
        obtain ⟨ob6, h⟩ := h
        refine g_iald (pc' := 39) dX8_allSo_38 rfl kd_28 ob6 ?_
        refine g_ic_eq (pc' := 42) (tgt := 44) dX8_allSo_39 rfl rfl (fun c7 => ?_) (fun c7 => ?_)
        · have h := h.1 c7
          refine g_iinc (pc' := 47) dX8_allSo_44 rfl rfl (by decide) ?_
          refine g_goto (pc' := 2) dX8_allSo_47 rfl ?_
          exact (ih _ h).to ((sb_c rfl (sb_c rfl (sb_c rfl (sb_c rfl sb_n)))))
        · have h := h.2 c7
          exact (hK42 h).to (sb_n)
def P_X8_allSo (p1 : Nat) (p2 : Nat) (s : Sto) (Q : Int → Sto → Prop) : Prop := (∃ n1, L_X8_allSo_2 p1 p2 s (Q 0 s) (Q 1 s) n1 0)
set_option maxRecDepth 100000 in
theorem C_X8_allSo {p1 : Nat} {p2 : Nat} {s : Sto} {Q : Int → Sto → Prop} (hp1 : kd p1 = 14) (hp2 : kd p2 = 16) (h : P_X8_allSo p1 p2 s Q) : sr_C yX8_allSo cX8_allSo 4 (some .boolean) 1 [vR 26, vR p1, vR p2] s Q := by
  refine sr_C.of (by decide +kernel) (Nat.le_of_ble_eq_true rfl) ?_
  show sr_G RX8 cX8_allSo 4 (some .boolean) 1 0 [(0, vR 26), (1, vR p1), (2, vR p2)] [] s Q
  unfold P_X8_allSo at h
  refine g_iconst (pc' := 1) (by unfold r32; decide) dX8_allSo_0 rfl ?_
  refine g_istore_n (pc' := 2) dX8_allSo_1 rfl (by decide) ?_
  obtain ⟨n1, h⟩ := h
  refine (SL_X8_allSo_2 hp1 hp2 (fun h => ?_) (fun h => ?_) n1 _ h).to ((sb_c rfl (sb_c rfl (sb_c rfl (sb_c rfl sb_n)))))
  · refine g_iconst (pc' := 43) (by unfold r32; decide) dX8_allSo_42 rfl ?_
    exact g_zret dX8_allSo_43 rfl (Or.inl rfl) h
  · refine g_iconst (pc' := 51) (by unfold r32; decide) dX8_allSo_50 rfl ?_
    exact g_zret dX8_allSo_51 rfl (Or.inr rfl) h
def P_X3_comesOut (s : Sto) (Q : Int → Sto → Prop) : Prop := ((s 26 2 = 0 → Q 1 s) ∧ (¬ s 26 2 = 0 → (P_X6_playAll 54 44 s (fun _ s2 => (P_X8_allSo 44 54 s2 (fun r5 s4 => ((r5 = 0 ∨ r5 = 1) ∧ Q r5 s4)))))))
set_option maxRecDepth 100000 in
theorem C_X3_comesOut {s : Sto} {Q : Int → Sto → Prop}  (h : P_X3_comesOut s Q) : sr_C yX3_comesOut cX3_comesOut 1 (some .boolean) 4 [vR 64] s Q := by
  refine sr_C.of (by decide +kernel) (Nat.le_of_ble_eq_true rfl) ?_
  show sr_G RX3 cX3_comesOut 1 (some .boolean) 4 0 [(0, vR 64)] [] s Q
  unfold P_X3_comesOut at h
  refine g_aload_n (pc' := 1) dX3_comesOut_0 rfl rfl ?_
  refine g_getR (pc' := 4) (r := 26) dX3_comesOut_1 rfl fl_RX3_34 kd_64 rfl rf_64_4 ?_
  refine g_getI (pc' := 7) dX3_comesOut_4 rfl fl_RX3_38 kd_26 (Or.inl rfl) ?_
  refine g_if_ne (pc' := 10) (tgt := 12) dX3_comesOut_7 rfl rfl (fun c1 => ?_) (fun c1 => ?_)
  · have h := h.2 c1
    refine g_aload_n (pc' := 13) dX3_comesOut_12 rfl rfl ?_
    refine g_getR (pc' := 16) (r := 54) dX3_comesOut_13 rfl fl_RX3_30 kd_64 rfl rf_64_3 ?_
    refine g_aload_n (pc' := 17) dX3_comesOut_16 rfl rfl ?_
    refine g_getR (pc' := 20) (r := 44) dX3_comesOut_17 rfl fl_RX3_27 kd_64 rfl rf_64_2 ?_
    refine g_V1v (pc' := 23) dX3_comesOut_20 rfl mv_RX3_44 kd_54 (by decide) (Nat.le_of_ble_eq_true rfl) (C_X6_playAll kd_54 kd_44 h) (fun s2 h => ?_)
    refine g_aload_n (pc' := 24) dX3_comesOut_23 rfl rfl ?_
    refine g_getR (pc' := 27) (r := 26) dX3_comesOut_24 rfl fl_RX3_34 kd_64 rfl rf_64_4 ?_
    refine g_aload_n (pc' := 28) dX3_comesOut_27 rfl rfl ?_
    refine g_getR (pc' := 31) (r := 44) dX3_comesOut_28 rfl fl_RX3_27 kd_64 rfl rf_64_2 ?_
    refine g_aload_n (pc' := 32) dX3_comesOut_31 rfl rfl ?_
    refine g_getR (pc' := 35) (r := 54) dX3_comesOut_32 rfl fl_RX3_30 kd_64 rfl rf_64_3 ?_
    refine g_V2z (pc' := 38) dX3_comesOut_35 rfl mv_RX3_50 kd_26 (by decide) (Nat.le_of_ble_eq_true rfl) (C_X8_allSo kd_44 kd_54 h) (fun r5 s4 h => ?_)
    exact g_zret dX3_comesOut_38 rfl h.1 h.2
  · have h := h.1 c1
    refine g_iconst (pc' := 11) (by unfold r32; decide) dX3_comesOut_10 rfl ?_
    exact g_zret dX3_comesOut_11 rfl (Or.inr rfl) h
