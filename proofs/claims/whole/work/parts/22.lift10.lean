def L_X12_freeOf_41 (v1 : Int) (v3 : Int) (v4 : Int) (v5 : Int) (s : Sto) (K72 : Int → Prop) (K98 : Prop) : Nat → Int → Prop
  | 0, _ => False
  | n + 1, v6 => ((s 69 10 ≤ v6 → K98) ∧ (¬ s 69 10 ≤ v6 → ((F_X12_isIn v5 v6 s = 0 → L_X12_freeOf_41 v1 v3 v4 v5 s K72 K98 n (w32 (v6 + 1))) ∧ (¬ F_X12_isIn v5 v6 s = 0 → (O_X12_costOf v6 v1 s ∧ ((F_X12_costOf v6 v1 s < v4 → L_X12_freeOf_41 v1 v3 v4 v5 s K72 K98 n (w32 (v6 + 1))) ∧ (¬ F_X12_costOf v6 v1 s < v4 → K72 v6)))))))
set_option maxRecDepth 100000 in
theorem SL_X12_freeOf_41 {v1 : Int} {v3 : Int} {v4 : Int} {v5 : Int} {s : Sto} {K72 : Int → Prop} {K98 : Prop} {Q : Int → Sto → Prop}  (hK72 : ∀ v6, K72 v6 → sr_G RX12 cX12_freeOf 8 (some .int) 5 72 [(3, vI v3), (6, vI v6)] [] s Q) (hK98 : K98 → sr_G RX12 cX12_freeOf 8 (some .int) 5 98 [(0, vR 69), (1, vI v1), (3, vI v3), (4, vI v4), (5, vI v5)] [] s Q) : ∀ n v6, L_X12_freeOf_41 v1 v3 v4 v5 s K72 K98 n v6 → sr_G RX12 cX12_freeOf 8 (some .int) 5 41 [(0, vR 69), (1, vI v1), (3, vI v3), (4, vI v4), (5, vI v5), (6, vI v6)] [] s Q := by
  intro n
  induction n with
  | zero => intro v6 h; exact h.elim
  | succ n ih =>
    intro v6 h
    unfold L_X12_freeOf_41 at h
    refine g_iload (pc' := 43) dX12_freeOf_41 rfl rfl ?_
    refine g_aload_n (pc' := 44) dX12_freeOf_43 rfl rfl ?_
    refine g_getI (pc' := 47) dX12_freeOf_44 rfl fl_RX12_126 kd_69 (Or.inl rfl) ?_
    refine g_ic_ge (pc' := 50) (tgt := 98) dX12_freeOf_47 rfl rfl (fun c1 => ?_) (fun c1 => ?_)
    · have h := h.1 c1
      exact (hK98 h).to ((sb_c rfl (sb_c rfl (sb_c rfl (sb_c rfl (sb_c rfl sb_n))))))
    · have h := h.2 c1
      refine g_iload (pc' := 52) dX12_freeOf_50 rfl rfl ?_
      refine g_iload (pc' := 54) dX12_freeOf_52 rfl rfl ?_
      refine g_S2z (pc' := 57) dX12_freeOf_54 rfl ms_RX12_186 (by decide) (Nat.le_of_ble_eq_true rfl) C_X12_isIn (sr_purb (fun hb2 => ?_))
      refine g_if_eq (pc' := 60) (tgt := 92) dX12_freeOf_57 rfl rfl (fun c3 => ?_) (fun c3 => ?_)
      · have h := h.1 c3
        refine g_iinc (pc' := 95) dX12_freeOf_92 rfl rfl (by decide) ?_
        refine g_goto (pc' := 41) dX12_freeOf_95 rfl ?_
        exact (ih _ h).to ((sb_c rfl (sb_c rfl (sb_c rfl (sb_c rfl (sb_c rfl (sb_c rfl sb_n)))))))
      · have h := h.2 c3
        refine g_aload_n (pc' := 61) dX12_freeOf_60 rfl rfl ?_
        refine g_iload (pc' := 63) dX12_freeOf_61 rfl rfl ?_
        refine g_iload_n (pc' := 64) dX12_freeOf_63 rfl rfl ?_
        obtain ⟨ob4, h⟩ := h
        refine g_V2i (pc' := 67) dX12_freeOf_64 rfl mv_RX12_286 kd_69 (by decide) (Nat.le_of_ble_eq_true rfl) (C_X12_costOf ob4) (sr_pur ?_)
        refine g_iload (pc' := 69) dX12_freeOf_67 rfl rfl ?_
        refine g_ic_lt (pc' := 72) (tgt := 92) dX12_freeOf_69 rfl rfl (fun c5 => ?_) (fun c5 => ?_)
        · have h := h.1 c5
          refine g_iinc (pc' := 95) dX12_freeOf_92 rfl rfl (by decide) ?_
          refine g_goto (pc' := 41) dX12_freeOf_95 rfl ?_
          exact (ih _ h).to ((sb_c rfl (sb_c rfl (sb_c rfl (sb_c rfl (sb_c rfl (sb_c rfl sb_n)))))))
        · have h := h.2 c5
          exact (hK72 _ h).to ((sb_c rfl (sb_c rfl sb_n)))
def L_X12_freeOf_116 (v1 : Int) (v3 : Int) (v4 : Int) (v5 : Int) (v6 : Int) (s : Sto) (K165 : Int → Prop) (K192 : Prop) : Nat → Int → Prop
  | 0, _ => False
  | n + 1, v7 => ((s 69 10 ≤ v7 → K192) ∧ (¬ s 69 10 ≤ v7 → ((F_X12_isIn v5 v6 s = 0 → L_X12_freeOf_116 v1 v3 v4 v5 v6 s K165 K192 n (w32 (v7 + 1))) ∧ (¬ F_X12_isIn v5 v6 s = 0 → ((F_X12_isIn v5 v7 s = 0 → L_X12_freeOf_116 v1 v3 v4 v5 v6 s K165 K192 n (w32 (v7 + 1))) ∧ (¬ F_X12_isIn v5 v7 s = 0 → (O_X12_costOf v6 v1 s ∧ (O_X12_costOf v7 v1 s ∧ ((w32 ((F_X12_costOf v6 v1 s) + (F_X12_costOf v7 v1 s)) < v4 → L_X12_freeOf_116 v1 v3 v4 v5 v6 s K165 K192 n (w32 (v7 + 1))) ∧ (¬ w32 ((F_X12_costOf v6 v1 s) + (F_X12_costOf v7 v1 s)) < v4 → K165 v7))))))))))
set_option maxRecDepth 100000 in
theorem SL_X12_freeOf_116 {v1 : Int} {v3 : Int} {v4 : Int} {v5 : Int} {v6 : Int} {s : Sto} {K165 : Int → Prop} {K192 : Prop} {Q : Int → Sto → Prop}  (hK165 : ∀ v7, K165 v7 → sr_G RX12 cX12_freeOf 8 (some .int) 5 165 [(3, vI v3), (6, vI v6), (7, vI v7)] [] s Q) (hK192 : K192 → sr_G RX12 cX12_freeOf 8 (some .int) 5 192 [(0, vR 69), (1, vI v1), (3, vI v3), (4, vI v4), (5, vI v5), (6, vI v6)] [] s Q) : ∀ n v7, L_X12_freeOf_116 v1 v3 v4 v5 v6 s K165 K192 n v7 → sr_G RX12 cX12_freeOf 8 (some .int) 5 116 [(0, vR 69), (1, vI v1), (3, vI v3), (4, vI v4), (5, vI v5), (6, vI v6), (7, vI v7)] [] s Q := by
  intro n
  induction n with
  | zero => intro v7 h; exact h.elim
  | succ n ih =>
    intro v7 h
    unfold L_X12_freeOf_116 at h
    refine g_iload (pc' := 118) dX12_freeOf_116 rfl rfl ?_
    refine g_aload_n (pc' := 119) dX12_freeOf_118 rfl rfl ?_
    refine g_getI (pc' := 122) dX12_freeOf_119 rfl fl_RX12_126 kd_69 (Or.inl rfl) ?_
    refine g_ic_ge (pc' := 125) (tgt := 192) dX12_freeOf_122 rfl rfl (fun c1 => ?_) (fun c1 => ?_)
    · have h := h.1 c1
      exact (hK192 h).to ((sb_c rfl (sb_c rfl (sb_c rfl (sb_c rfl (sb_c rfl (sb_c rfl sb_n)))))))
    · have h := h.2 c1
      refine g_iload (pc' := 127) dX12_freeOf_125 rfl rfl ?_
      refine g_iload (pc' := 129) dX12_freeOf_127 rfl rfl ?_
      refine g_S2z (pc' := 132) dX12_freeOf_129 rfl ms_RX12_186 (by decide) (Nat.le_of_ble_eq_true rfl) C_X12_isIn (sr_purb (fun hb2 => ?_))
      refine g_if_eq (pc' := 135) (tgt := 186) dX12_freeOf_132 rfl rfl (fun c3 => ?_) (fun c3 => ?_)
      · have h := h.1 c3
        refine g_iinc (pc' := 189) dX12_freeOf_186 rfl rfl (by decide) ?_
        refine g_goto (pc' := 116) dX12_freeOf_189 rfl ?_
        exact (ih _ h).to ((sb_c rfl (sb_c rfl (sb_c rfl (sb_c rfl (sb_c rfl (sb_c rfl (sb_c rfl sb_n))))))))
      · have h := h.2 c3
        refine g_iload (pc' := 137) dX12_freeOf_135 rfl rfl ?_
        refine g_iload (pc' := 139) dX12_freeOf_137 rfl rfl ?_
        refine g_S2z (pc' := 142) dX12_freeOf_139 rfl ms_RX12_186 (by decide) (Nat.le_of_ble_eq_true rfl) C_X12_isIn (sr_purb (fun hb4 => ?_))
        refine g_if_eq (pc' := 145) (tgt := 186) dX12_freeOf_142 rfl rfl (fun c5 => ?_) (fun c5 => ?_)
        · have h := h.1 c5
          refine g_iinc (pc' := 189) dX12_freeOf_186 rfl rfl (by decide) ?_
          refine g_goto (pc' := 116) dX12_freeOf_189 rfl ?_
          exact (ih _ h).to ((sb_c rfl (sb_c rfl (sb_c rfl (sb_c rfl (sb_c rfl (sb_c rfl (sb_c rfl sb_n))))))))
        · have h := h.2 c5
          refine g_aload_n (pc' := 146) dX12_freeOf_145 rfl rfl ?_
          refine g_iload (pc' := 148) dX12_freeOf_146 rfl rfl ?_
          refine g_iload_n (pc' := 149) dX12_freeOf_148 rfl rfl ?_
          obtain ⟨ob6, h⟩ := h
          refine g_V2i (pc' := 152) dX12_freeOf_149 rfl mv_RX12_286 kd_69 (by decide) (Nat.le_of_ble_eq_true rfl) (C_X12_costOf ob6) (sr_pur ?_)
          refine g_aload_n (pc' := 153) dX12_freeOf_152 rfl rfl ?_
          refine g_iload (pc' := 155) dX12_freeOf_153 rfl rfl ?_
          refine g_iload_n (pc' := 156) dX12_freeOf_155 rfl rfl ?_
          obtain ⟨ob7, h⟩ := h
          refine g_V2i (pc' := 159) dX12_freeOf_156 rfl mv_RX12_286 kd_69 (by decide) (Nat.le_of_ble_eq_true rfl) (C_X12_costOf ob7) (sr_pur ?_)
          refine g_iadd (pc' := 160) dX12_freeOf_159 rfl ?_
          refine g_iload (pc' := 162) dX12_freeOf_160 rfl rfl ?_
          refine g_ic_lt (pc' := 165) (tgt := 186) dX12_freeOf_162 rfl rfl (fun c8 => ?_) (fun c8 => ?_)
          · have h := h.1 c8
            refine g_iinc (pc' := 189) dX12_freeOf_186 rfl rfl (by decide) ?_
            refine g_goto (pc' := 116) dX12_freeOf_189 rfl ?_
            exact (ih _ h).to ((sb_c rfl (sb_c rfl (sb_c rfl (sb_c rfl (sb_c rfl (sb_c rfl (sb_c rfl sb_n))))))))
          · have h := h.2 c8
            exact (hK165 _ h).to ((sb_c rfl (sb_c rfl (sb_c rfl sb_n))))
def L_X12_freeOf_101 (v1 : Int) (v3 : Int) (v4 : Int) (v5 : Int) (s : Sto) (K165 : Int → Int → Prop) (K198 : Prop) : Nat → Int → Prop
  | 0, _ => False
  | n + 1, v6 => ((s 69 10 ≤ v6 → K198) ∧ (¬ s 69 10 ≤ v6 → (∀ x2 : Int, x2 = w32 (v6 + 1) → (∃ n4, L_X12_freeOf_116 v1 v3 v4 v5 v6 s (fun x3 => K165 v6 x3) (L_X12_freeOf_101 v1 v3 v4 v5 s K165 K198 n (w32 (v6 + 1))) n4 x2))))
set_option maxRecDepth 100000 in
theorem SL_X12_freeOf_101 {v1 : Int} {v3 : Int} {v4 : Int} {v5 : Int} {s : Sto} {K165 : Int → Int → Prop} {K198 : Prop} {Q : Int → Sto → Prop}  (hK165 : ∀ v6 v7, K165 v6 v7 → sr_G RX12 cX12_freeOf 8 (some .int) 5 165 [(3, vI v3), (6, vI v6), (7, vI v7)] [] s Q) (hK198 : K198 → sr_G RX12 cX12_freeOf 8 (some .int) 5 198 [] [] s Q) : ∀ n v6, L_X12_freeOf_101 v1 v3 v4 v5 s K165 K198 n v6 → sr_G RX12 cX12_freeOf 8 (some .int) 5 101 [(0, vR 69), (1, vI v1), (3, vI v3), (4, vI v4), (5, vI v5), (6, vI v6)] [] s Q := by
  intro n
  induction n with
  | zero => intro v6 h; exact h.elim
  | succ n ih =>
    intro v6 h
    unfold L_X12_freeOf_101 at h
    refine g_iload (pc' := 103) dX12_freeOf_101 rfl rfl ?_
    refine g_aload_n (pc' := 104) dX12_freeOf_103 rfl rfl ?_
    refine g_getI (pc' := 107) dX12_freeOf_104 rfl fl_RX12_126 kd_69 (Or.inl rfl) ?_
    refine g_ic_ge (pc' := 110) (tgt := 198) dX12_freeOf_107 rfl rfl (fun c1 => ?_) (fun c1 => ?_)
    · have h := h.1 c1
      exact (hK198 h).to (sb_n)
    · have h := h.2 c1
      refine g_iload (pc' := 112) dX12_freeOf_110 rfl rfl ?_
      refine g_iconst (pc' := 113) (by unfold r32; decide) dX12_freeOf_112 rfl ?_
      refine g_iadd (pc' := 114) dX12_freeOf_113 rfl ?_
      refine g_topI (fun x2 ex2 => ?_)
      have h := h x2 ex2
      refine g_istore (pc' := 116) dX12_freeOf_114 rfl (by decide) ?_
      obtain ⟨n4, h⟩ := h
      refine (SL_X12_freeOf_116  (fun x3 h => ?_) (fun h => ?_) n4 _ h).to ((sb_c rfl (sb_c rfl (sb_c rfl (sb_c rfl (sb_c rfl (sb_c rfl (sb_c rfl sb_n))))))))
      · exact (hK165 _ _ h).to ((sb_c rfl (sb_c rfl (sb_c rfl sb_n))))
      · refine g_iinc (pc' := 195) dX12_freeOf_192 rfl rfl (by decide) ?_
        refine g_goto (pc' := 101) dX12_freeOf_195 rfl ?_
        exact (ih _ h).to ((sb_c rfl (sb_c rfl (sb_c rfl (sb_c rfl (sb_c rfl (sb_c rfl sb_n)))))))
def P_X12_freeOf (v1 : Int) (v2 : Int) (v3 : Int) (s : Sto) (Q : Int → Sto → Prop) : Prop := (P_X12_lives s (fun _ s1 => (P_X12_wedOf v1 1 s1 (fun r4 s3 => (∀ x5 : Int, x5 = w32 (r4 - v2) → (P_X12_wedOf v1 0 s3 (fun r7 s6 => ((0 < x5 → (∃ n17, L_X12_freeOf_41 v1 v3 x5 r7 s6 (fun x9 => ((v3 = (-1) → Q 1 s6) ∧ (¬ v3 = (-1) → ((v3 = 0 → Q x9 s6) ∧ (¬ v3 = 0 → Q ((-1)) s6))))) ((∃ n16, L_X12_freeOf_101 v1 v3 x5 r7 s6 (fun x12 x13 => ((v3 = (-1) → Q 2 s6) ∧ (¬ v3 = (-1) → ((v3 = 0 → Q x12 s6) ∧ (¬ v3 = 0 → Q x13 s6))))) (Q ((-1)) s6) n16 0)) n17 0)) ∧ (¬ 0 < x5 → ((v3 = (-1) → Q 0 s6) ∧ (¬ v3 = (-1) → Q ((-1)) s6)))))))))))
set_option maxRecDepth 100000 in
theorem C_X12_freeOf {v1 : Int} {v2 : Int} {v3 : Int} {s : Sto} {Q : Int → Sto → Prop}  (h : P_X12_freeOf v1 v2 v3 s Q) : sr_C yX12_freeOf cX12_freeOf 8 (some .int) 5 [vR 69, vI v1, vI v2, vI v3] s Q := by
  refine sr_C.of (by decide +kernel) (Nat.le_of_ble_eq_true rfl) ?_
  show sr_G RX12 cX12_freeOf 8 (some .int) 5 0 [(0, vR 69), (1, vI v1), (2, vI v2), (3, vI v3)] [] s Q
  unfold P_X12_freeOf at h
  refine g_aload_n (pc' := 1) dX12_freeOf_0 rfl rfl ?_
  refine g_V0v (pc' := 4) dX12_freeOf_1 rfl mv_RX12_227 kd_69 (by decide) (Nat.le_of_ble_eq_true rfl) (C_X12_lives h) (fun s1 h => ?_)
  refine g_aload_n (pc' := 5) dX12_freeOf_4 rfl rfl ?_
  refine g_iload_n (pc' := 6) dX12_freeOf_5 rfl rfl ?_
  refine g_iconst (pc' := 7) (by unfold r32; decide) dX12_freeOf_6 rfl ?_
  refine g_V2i (pc' := 10) dX12_freeOf_7 rfl mv_RX12_245 kd_69 (by decide) (Nat.le_of_ble_eq_true rfl) (C_X12_wedOf h) (fun r4 s3 h => ?_)
  refine g_iload_n (pc' := 11) dX12_freeOf_10 rfl rfl ?_
  refine g_isub (pc' := 12) dX12_freeOf_11 rfl ?_
  refine g_topI (fun x5 ex5 => ?_)
  have h := h x5 ex5
  refine g_istore (pc' := 14) dX12_freeOf_12 rfl (by decide) ?_
  refine g_aload_n (pc' := 15) dX12_freeOf_14 rfl rfl ?_
  refine g_iload_n (pc' := 16) dX12_freeOf_15 rfl rfl ?_
  refine g_iconst (pc' := 17) (by unfold r32; decide) dX12_freeOf_16 rfl ?_
  refine g_V2i (pc' := 20) dX12_freeOf_17 rfl mv_RX12_245 kd_69 (by decide) (Nat.le_of_ble_eq_true rfl) (C_X12_wedOf h) (fun r7 s6 h => ?_)
  refine g_istore (pc' := 22) dX12_freeOf_20 rfl (by decide) ?_
  refine g_iload (pc' := 24) dX12_freeOf_22 rfl rfl ?_
  refine g_if_gt (pc' := 27) (tgt := 38) dX12_freeOf_24 rfl rfl (fun c8 => ?_) (fun c8 => ?_)
  · have h := h.1 c8
    refine g_iconst (pc' := 39) (by unfold r32; decide) dX12_freeOf_38 rfl ?_
    refine g_istore (pc' := 41) dX12_freeOf_39 rfl (by decide) ?_
    obtain ⟨n17, h⟩ := h
    refine (SL_X12_freeOf_41  (fun x9 h => ?_) (fun h => ?_) n17 _ h).to ((sb_c rfl (sb_c rfl (sb_c rfl (sb_c rfl (sb_c rfl (sb_c rfl sb_n)))))))
    · refine g_iload_n (pc' := 73) dX12_freeOf_72 rfl rfl ?_
      refine g_iconst (pc' := 74) (by unfold r32; decide) dX12_freeOf_73 rfl ?_
      refine g_ic_ne (pc' := 77) (tgt := 81) dX12_freeOf_74 rfl rfl (fun c10 => ?_) (fun c10 => ?_)
      · have h := h.2 c10
        refine g_iload_n (pc' := 82) dX12_freeOf_81 rfl rfl ?_
        refine g_if_ne (pc' := 85) (tgt := 90) dX12_freeOf_82 rfl rfl (fun c11 => ?_) (fun c11 => ?_)
        · have h := h.2 c11
          refine g_iconst (pc' := 91) (by unfold r32; decide) dX12_freeOf_90 rfl ?_
          exact g_iret dX12_freeOf_91 rfl h
        · have h := h.1 c11
          refine g_iload (pc' := 87) dX12_freeOf_85 rfl rfl ?_
          refine g_goto (pc' := 91) dX12_freeOf_87 rfl ?_
          exact g_iret dX12_freeOf_91 rfl h
      · have h := h.1 c10
        refine g_iconst (pc' := 78) (by unfold r32; decide) dX12_freeOf_77 rfl ?_
        refine g_goto (pc' := 91) dX12_freeOf_78 rfl ?_
        exact g_iret dX12_freeOf_91 rfl h
    · refine g_iconst (pc' := 99) (by unfold r32; decide) dX12_freeOf_98 rfl ?_
      refine g_istore (pc' := 101) dX12_freeOf_99 rfl (by decide) ?_
      obtain ⟨n16, h⟩ := h
      refine (SL_X12_freeOf_101  (fun x12 x13 h => ?_) (fun h => ?_) n16 _ h).to ((sb_c rfl (sb_c rfl (sb_c rfl (sb_c rfl (sb_c rfl (sb_c rfl sb_n)))))))
      · refine g_iload_n (pc' := 166) dX12_freeOf_165 rfl rfl ?_
        refine g_iconst (pc' := 167) (by unfold r32; decide) dX12_freeOf_166 rfl ?_
        refine g_ic_ne (pc' := 170) (tgt := 174) dX12_freeOf_167 rfl rfl (fun c14 => ?_) (fun c14 => ?_)
        · have h := h.2 c14
          refine g_iload_n (pc' := 175) dX12_freeOf_174 rfl rfl ?_
          refine g_if_ne (pc' := 178) (tgt := 183) dX12_freeOf_175 rfl rfl (fun c15 => ?_) (fun c15 => ?_)
          · have h := h.2 c15
            refine g_iload (pc' := 185) dX12_freeOf_183 rfl rfl ?_
            exact g_iret dX12_freeOf_185 rfl h
          · have h := h.1 c15
            refine g_iload (pc' := 180) dX12_freeOf_178 rfl rfl ?_
            refine g_goto (pc' := 185) dX12_freeOf_180 rfl ?_
            exact g_iret dX12_freeOf_185 rfl h
        · have h := h.1 c14
          refine g_iconst (pc' := 171) (by unfold r32; decide) dX12_freeOf_170 rfl ?_
          refine g_goto (pc' := 185) dX12_freeOf_171 rfl ?_
          exact g_iret dX12_freeOf_185 rfl h
      · refine g_iconst (pc' := 199) (by unfold r32; decide) dX12_freeOf_198 rfl ?_
        exact g_iret dX12_freeOf_199 rfl h
  · have h := h.2 c8
    refine g_iload_n (pc' := 28) dX12_freeOf_27 rfl rfl ?_
    refine g_iconst (pc' := 29) (by unfold r32; decide) dX12_freeOf_28 rfl ?_
    refine g_ic_ne (pc' := 32) (tgt := 36) dX12_freeOf_29 rfl rfl (fun c18 => ?_) (fun c18 => ?_)
    · have h := h.2 c18
      refine g_iconst (pc' := 37) (by unfold r32; decide) dX12_freeOf_36 rfl ?_
      exact g_iret dX12_freeOf_37 rfl h
    · have h := h.1 c18
      refine g_iconst (pc' := 33) (by unfold r32; decide) dX12_freeOf_32 rfl ?_
      refine g_goto (pc' := 37) dX12_freeOf_33 rfl ?_
      exact g_iret dX12_freeOf_37 rfl h
def P_X12_free (v1 : Int) (v2 : Int) (v3 : Int) (s : Sto) (Q : Int → Sto → Prop) : Prop := (P_X12_find s (fun _ s1 => ((F_X12_in v1 0 3 s1 = 0 → Q ((-2)) s1) ∧ (¬ F_X12_in v1 0 3 s1 = 0 → ((F_X12_in v2 0 99 s1 = 0 → Q ((-2)) s1) ∧ (¬ F_X12_in v2 0 99 s1 = 0 → ((F_X12_in v3 ((-1)) 1 s1 = 0 → Q ((-2)) s1) ∧ (¬ F_X12_in v3 ((-1)) 1 s1 = 0 → (P_X12_freeOf v1 v2 v3 s1 (fun r10 s9 => Q r10 s9))))))))))
set_option maxRecDepth 100000 in
theorem C_X12_free {v1 : Int} {v2 : Int} {v3 : Int} {s : Sto} {Q : Int → Sto → Prop}  (h : P_X12_free v1 v2 v3 s Q) : sr_C yX12_free cX12_free 4 (some .int) 6 [vR 69, vI v1, vI v2, vI v3] s Q := by
  refine sr_C.of (by decide +kernel) (Nat.le_of_ble_eq_true rfl) ?_
  show sr_G RX12 cX12_free 4 (some .int) 6 0 [(0, vR 69), (1, vI v1), (2, vI v2), (3, vI v3)] [] s Q
  unfold P_X12_free at h
  refine g_aload_n (pc' := 1) dX12_free_0 rfl rfl ?_
  refine g_V0v (pc' := 4) dX12_free_1 rfl mv_RX12_230 kd_69 (by decide) (Nat.le_of_ble_eq_true rfl) (C_X12_find h) (fun s1 h => ?_)
  refine g_iload_n (pc' := 5) dX12_free_4 rfl rfl ?_
  refine g_i2l (pc' := 6) dX12_free_5 rfl ?_
  refine g_lconst (pc' := 7) (z := 0) ⟨by unfold r64; decide, rfl⟩ dX12_free_6 rfl ?_
  refine g_ldc2 (pc' := 10) (z := 3) (by unfold r64; decide) kc_RX12_83 dX12_free_7 rfl ?_
  refine g_S3z (pc' := 13) dX12_free_10 rfl ms_RX12_76 (by decide) (Nat.le_of_ble_eq_true rfl) C_X12_in (sr_purb (fun hb3 => ?_))
  refine g_if_eq (pc' := 16) (tgt := 50) dX12_free_13 rfl rfl (fun c4 => ?_) (fun c4 => ?_)
  · have h := h.1 c4
    refine g_bipush (pc' := 52) ⟨by unfold r32; decide, rfl⟩ dX12_free_50 rfl ?_
    exact g_iret dX12_free_52 rfl h
  · have h := h.2 c4
    refine g_iload_n (pc' := 17) dX12_free_16 rfl rfl ?_
    refine g_i2l (pc' := 18) dX12_free_17 rfl ?_
    refine g_lconst (pc' := 19) (z := 0) ⟨by unfold r64; decide, rfl⟩ dX12_free_18 rfl ?_
    refine g_ldc2 (pc' := 22) (z := 99) (by unfold r64; decide) kc_RX12_289 dX12_free_19 rfl ?_
    refine g_S3z (pc' := 25) dX12_free_22 rfl ms_RX12_76 (by decide) (Nat.le_of_ble_eq_true rfl) C_X12_in (sr_purb (fun hb5 => ?_))
    refine g_if_eq (pc' := 28) (tgt := 50) dX12_free_25 rfl rfl (fun c6 => ?_) (fun c6 => ?_)
    · have h := h.1 c6
      refine g_bipush (pc' := 52) ⟨by unfold r32; decide, rfl⟩ dX12_free_50 rfl ?_
      exact g_iret dX12_free_52 rfl h
    · have h := h.2 c6
      refine g_iload_n (pc' := 29) dX12_free_28 rfl rfl ?_
      refine g_i2l (pc' := 30) dX12_free_29 rfl ?_
      refine g_ldc2 (pc' := 33) (z := (-1)) (by unfold r64; decide) kc_RX12_278 dX12_free_30 rfl ?_
      refine g_lconst (pc' := 34) (z := 1) ⟨by unfold r64; decide, rfl⟩ dX12_free_33 rfl ?_
      refine g_S3z (pc' := 37) dX12_free_34 rfl ms_RX12_76 (by decide) (Nat.le_of_ble_eq_true rfl) C_X12_in (sr_purb (fun hb7 => ?_))
      refine g_if_eq (pc' := 40) (tgt := 50) dX12_free_37 rfl rfl (fun c8 => ?_) (fun c8 => ?_)
      · have h := h.1 c8
        refine g_bipush (pc' := 52) ⟨by unfold r32; decide, rfl⟩ dX12_free_50 rfl ?_
        exact g_iret dX12_free_52 rfl h
      · have h := h.2 c8
        refine g_aload_n (pc' := 41) dX12_free_40 rfl rfl ?_
        refine g_iload_n (pc' := 42) dX12_free_41 rfl rfl ?_
        refine g_iload_n (pc' := 43) dX12_free_42 rfl rfl ?_
        refine g_iload_n (pc' := 44) dX12_free_43 rfl rfl ?_
        refine g_V3i (pc' := 47) dX12_free_44 rfl mv_RX12_291 kd_69 (by decide) (Nat.le_of_ble_eq_true rfl) (C_X12_freeOf h) (fun r10 s9 h => ?_)
        refine g_goto (pc' := 52) dX12_free_47 rfl ?_
        exact g_iret dX12_free_52 rfl h
def F_X12_seen (v1 : Int) (v2 : Int) (s : Sto) : Int := (if F_X12_in v1 0 7 s = 0 then (-2) else (if F_X12_in v2 0 4 s = 0 then (-2) else (if s 69 27 = 8 then (-4) else up (up (up s 87 (w32 (2 * (s 69 27))).toNat v1) 87 (w32 ((w32 (2 * (up s 87 (w32 (2 * (s 69 27))).toNat v1 69 27))) + 1)).toNat v2) 69 27 (w32 ((up (up s 87 (w32 (2 * (s 69 27))).toNat v1) 87 (w32 ((w32 (2 * (up s 87 (w32 (2 * (s 69 27))).toNat v1 69 27))) + 1)).toNat v2 69 27) + 1)) 69 27)))
def S_X12_seen (v1 : Int) (v2 : Int) (s : Sto) : Sto := (if F_X12_in v1 0 7 s = 0 then s else (if F_X12_in v2 0 4 s = 0 then s else (if s 69 27 = 8 then s else up (up (up s 87 (w32 (2 * (s 69 27))).toNat v1) 87 (w32 ((w32 (2 * (up s 87 (w32 (2 * (s 69 27))).toNat v1 69 27))) + 1)).toNat v2) 69 27 (w32 ((up (up s 87 (w32 (2 * (s 69 27))).toNat v1) 87 (w32 ((w32 (2 * (up s 87 (w32 (2 * (s 69 27))).toNat v1 69 27))) + 1)).toNat v2 69 27) + 1)))))
def O_X12_seen (v1 : Int) (v2 : Int) (s : Sto) : Prop := ((F_X12_in v1 0 7 s = 0 → True) ∧ (¬ F_X12_in v1 0 7 s = 0 → ((F_X12_in v2 0 4 s = 0 → True) ∧ (¬ F_X12_in v2 0 4 s = 0 → ((s 69 27 = 8 → True) ∧ (¬ s 69 27 = 8 → (inb (w32 (2 * (s 69 27))) 16 ∧ (inb (w32 ((w32 (2 * (up s 87 (w32 (2 * (s 69 27))).toNat v1 69 27))) + 1)) 16 ∧ True))))))))
set_option maxRecDepth 100000 in
theorem C_X12_seen {v1 : Int} {v2 : Int} {s : Sto}  (h : O_X12_seen v1 v2 s) : sr_C yX12_seen cX12_seen 3 (some .int) 1 [vR 69, vI v1, vI v2] s (fun r s' => r = F_X12_seen v1 v2 s ∧ s' = S_X12_seen v1 v2 s) := by
  refine sr_C.of (by decide +kernel) (Nat.le_of_ble_eq_true rfl) ?_
  show sr_G RX12 cX12_seen 3 (some .int) 1 0 [(0, vR 69), (1, vI v1), (2, vI v2)] [] s (fun r s' => r = F_X12_seen v1 v2 s ∧ s' = S_X12_seen v1 v2 s)
  unfold O_X12_seen at h
  refine g_iload_n (pc' := 1) dX12_seen_0 rfl rfl ?_
  refine g_i2l (pc' := 2) dX12_seen_1 rfl ?_
  refine g_lconst (pc' := 3) (z := 0) ⟨by unfold r64; decide, rfl⟩ dX12_seen_2 rfl ?_
  refine g_ldc2 (pc' := 6) (z := 7) (by unfold r64; decide) kc_RX12_294 dX12_seen_3 rfl ?_
  refine g_S3z (pc' := 9) dX12_seen_6 rfl ms_RX12_76 (by decide) (Nat.le_of_ble_eq_true rfl) C_X12_in (sr_purb (fun hb1 => ?_))
  refine g_if_eq (pc' := 12) (tgt := 24) dX12_seen_9 rfl rfl (fun c2 => ?_) (fun c2 => ?_)
  · have h := h.1 c2
    refine g_bipush (pc' := 26) ⟨by unfold r32; decide, rfl⟩ dX12_seen_24 rfl ?_
    exact g_iret dX12_seen_26 rfl ⟨(by simp only [F_X12_seen, if_pos c2]), (by simp only [S_X12_seen, if_pos c2])⟩
  · have h := h.2 c2
    refine g_iload_n (pc' := 13) dX12_seen_12 rfl rfl ?_
    refine g_i2l (pc' := 14) dX12_seen_13 rfl ?_
    refine g_lconst (pc' := 15) (z := 0) ⟨by unfold r64; decide, rfl⟩ dX12_seen_14 rfl ?_
    refine g_ldc2 (pc' := 18) (z := 4) (by unfold r64; decide) kc_RX12_158 dX12_seen_15 rfl ?_
    refine g_S3z (pc' := 21) dX12_seen_18 rfl ms_RX12_76 (by decide) (Nat.le_of_ble_eq_true rfl) C_X12_in (sr_purb (fun hb3 => ?_))
    refine g_if_ne (pc' := 24) (tgt := 27) dX12_seen_21 rfl rfl (fun c4 => ?_) (fun c4 => ?_)
    · have h := h.2 c4
      refine g_aload_n (pc' := 28) dX12_seen_27 rfl rfl ?_
      refine g_getI (pc' := 31) dX12_seen_28 rfl fl_RX12_296 kd_69 (Or.inl rfl) ?_
      refine g_bipush (pc' := 33) ⟨by unfold r32; decide, rfl⟩ dX12_seen_31 rfl ?_
      refine g_ic_ne (pc' := 36) (tgt := 39) dX12_seen_33 rfl rfl (fun c5 => ?_) (fun c5 => ?_)
      · have h := h.2 c5
        refine g_aload_n (pc' := 40) dX12_seen_39 rfl rfl ?_
        refine g_getR (pc' := 43) (r := 87) dX12_seen_40 rfl fl_RX12_61 kd_69 rfl rf_69_28 ?_
        refine g_iconst (pc' := 44) (by unfold r32; decide) dX12_seen_43 rfl ?_
        refine g_aload_n (pc' := 45) dX12_seen_44 rfl rfl ?_
        refine g_getI (pc' := 48) dX12_seen_45 rfl fl_RX12_296 kd_69 (Or.inl rfl) ?_
        refine g_imul (pc' := 49) dX12_seen_48 rfl ?_
        refine g_iload_n (pc' := 50) dX12_seen_49 rfl rfl ?_
        obtain ⟨ob6, h⟩ := h
        refine g_iast (pc' := 51) dX12_seen_50 rfl kd_87 ob6 ?_
        refine g_aload_n (pc' := 52) dX12_seen_51 rfl rfl ?_
        refine g_getR (pc' := 55) (r := 87) dX12_seen_52 rfl fl_RX12_61 kd_69 rfl rf_69_28 ?_
        refine g_iconst (pc' := 56) (by unfold r32; decide) dX12_seen_55 rfl ?_
        refine g_aload_n (pc' := 57) dX12_seen_56 rfl rfl ?_
        refine g_getI (pc' := 60) dX12_seen_57 rfl fl_RX12_296 kd_69 (Or.inl rfl) ?_
        refine g_imul (pc' := 61) dX12_seen_60 rfl ?_
        refine g_iconst (pc' := 62) (by unfold r32; decide) dX12_seen_61 rfl ?_
        refine g_iadd (pc' := 63) dX12_seen_62 rfl ?_
        refine g_iload_n (pc' := 64) dX12_seen_63 rfl rfl ?_
        obtain ⟨ob7, h⟩ := h
        refine g_iast (pc' := 65) dX12_seen_64 rfl kd_87 ob7 ?_
        refine g_aload_n (pc' := 66) dX12_seen_65 rfl rfl ?_
        refine g_dupR (pc' := 67) dX12_seen_66 rfl ?_
        refine g_getI (pc' := 70) dX12_seen_67 rfl fl_RX12_296 kd_69 (Or.inl rfl) ?_
        refine g_iconst (pc' := 71) (by unfold r32; decide) dX12_seen_70 rfl ?_
        refine g_iadd (pc' := 72) dX12_seen_71 rfl ?_
        refine g_putI (pc' := 75) dX12_seen_72 rfl fp_RX12_296 kd_69 rfl ?_
        refine g_aload_n (pc' := 76) dX12_seen_75 rfl rfl ?_
        refine g_getI (pc' := 79) dX12_seen_76 rfl fl_RX12_296 kd_69 (Or.inl rfl) ?_
        exact g_iret dX12_seen_79 rfl ⟨(by simp only [F_X12_seen, if_neg c2, if_neg c4, if_neg c5]), (by simp only [S_X12_seen, if_neg c2, if_neg c4, if_neg c5])⟩
      · have h := h.1 c5
        refine g_bipush (pc' := 38) ⟨by unfold r32; decide, rfl⟩ dX12_seen_36 rfl ?_
        exact g_iret dX12_seen_38 rfl ⟨(by simp only [F_X12_seen, if_neg c2, if_neg c4, if_pos c5]), (by simp only [S_X12_seen, if_neg c2, if_neg c4, if_pos c5])⟩
    · have h := h.1 c4
      refine g_bipush (pc' := 26) ⟨by unfold r32; decide, rfl⟩ dX12_seen_24 rfl ?_
      exact g_iret dX12_seen_26 rfl ⟨(by simp only [F_X12_seen, if_neg c2, if_pos c4]), (by simp only [S_X12_seen, if_neg c2, if_pos c4])⟩
def F_X12_forget (s : Sto) : Int := s 69 27
def S_X12_forget (s : Sto) : Sto := up s 69 27 0
set_option maxRecDepth 100000 in
theorem C_X12_forget {s : Sto}   : sr_C yX12_forget cX12_forget 2 (some .int) 0 [vR 69] s (fun r s' => r = F_X12_forget s ∧ s' = S_X12_forget s) := by
  refine sr_C.of (by decide +kernel) (Nat.le_of_ble_eq_true rfl) ?_
  show sr_G RX12 cX12_forget 2 (some .int) 0 0 [(0, vR 69)] [] s (fun r s' => r = F_X12_forget s ∧ s' = S_X12_forget s)
  refine g_aload_n (pc' := 1) dX12_forget_0 rfl rfl ?_
  refine g_getI (pc' := 4) dX12_forget_1 rfl fl_RX12_296 kd_69 (Or.inl rfl) ?_
  refine g_istore_n (pc' := 5) dX12_forget_4 rfl (by decide) ?_
  refine g_aload_n (pc' := 6) dX12_forget_5 rfl rfl ?_
  refine g_iconst (pc' := 7) (by unfold r32; decide) dX12_forget_6 rfl ?_
  refine g_putI (pc' := 10) dX12_forget_7 rfl fp_RX12_296 kd_69 rfl ?_
  refine g_iload_n (pc' := 11) dX12_forget_10 rfl rfl ?_
  exact g_iret dX12_forget_11 rfl ⟨rfl, rfl⟩
def L_X12_isSeen_8 (s : Sto) (K85 : Int → Prop) : Nat → Int → Int → Prop
  | 0, _, _ => False
  | n + 1, v1, v2 => ((s 69 27 ≤ v2 → K85 v1) ∧ (¬ s 69 27 ≤ v2 → ((v1 = 0 → K85 v1) ∧ (¬ v1 = 0 → (inb (w32 (2 * v2)) 16 ∧ (∀ x4 : Int, x4 = s 87 (w32 (2 * v2)).toNat → (((F_X12_isThing x4 s = 0 → True) ∧ (¬ F_X12_isThing x4 s = 0 → (O_X12_whomOf x4 s ∧ (inb (w32 ((w32 (2 * v2)) + 1)) 16 ∧ ((s 87 (w32 ((w32 (2 * v2)) + 1)).toNat = 4 → True) ∧ (¬ s 87 (w32 ((w32 (2 * v2)) + 1)).toNat = 4 → (inb (w32 ((w32 (2 * v2)) + 1)) 16 ∧ True))))))) ∧ (∀ x6 : Int, x6 = (if F_X12_isThing x4 s = 0 then 0 else (if s 87 (w32 ((w32 (2 * v2)) + 1)).toNat = 4 then (if F_X12_whomOf x4 s = (-1) then 1 else 0) else (if F_X12_whomOf x4 s = s 87 (w32 ((w32 (2 * v2)) + 1)).toNat then 1 else 0))) → L_X12_isSeen_8 s K85 n x6 (w32 (v2 + 1))))))))))
set_option maxRecDepth 100000 in
theorem SL_X12_isSeen_8 {s : Sto} {K85 : Int → Prop} {Q : Int → Sto → Prop}  (hK85 : ∀ v1, K85 v1 → sr_G RX12 cX12_isSeen 4 (some .boolean) 5 85 [(1, vI v1)] [] s Q) : ∀ n v1 v2, L_X12_isSeen_8 s K85 n v1 v2 → sr_G RX12 cX12_isSeen 4 (some .boolean) 5 8 [(0, vR 69), (1, vI v1), (2, vI v2)] [] s Q := by
  intro n
  induction n with
  | zero => intro v1 v2 h; exact h.elim
  | succ n ih =>
    intro v1 v2 h
    unfold L_X12_isSeen_8 at h
    refine g_iload_n (pc' := 9) dX12_isSeen_8 rfl rfl ?_
    refine g_aload_n (pc' := 10) dX12_isSeen_9 rfl rfl ?_
    refine g_getI (pc' := 13) dX12_isSeen_10 rfl fl_RX12_296 kd_69 (Or.inl rfl) ?_
    refine g_ic_ge (pc' := 16) (tgt := 85) dX12_isSeen_13 rfl rfl (fun c1 => ?_) (fun c1 => ?_)
    · have h := h.1 c1
      exact (hK85 _ h).to ((sb_c rfl sb_n))
    · have h := h.2 c1
      refine g_iload_n (pc' := 17) dX12_isSeen_16 rfl rfl ?_
      refine g_if_eq (pc' := 20) (tgt := 85) dX12_isSeen_17 rfl rfl (fun c2 => ?_) (fun c2 => ?_)
      · have h := h.1 c2
        exact (hK85 _ h).to ((sb_c rfl sb_n))
      · have h := h.2 c2
        refine g_aload_n (pc' := 21) dX12_isSeen_20 rfl rfl ?_
        refine g_getR (pc' := 24) (r := 87) dX12_isSeen_21 rfl fl_RX12_61 kd_69 rfl rf_69_28 ?_
        refine g_iconst (pc' := 25) (by unfold r32; decide) dX12_isSeen_24 rfl ?_
        refine g_iload_n (pc' := 26) dX12_isSeen_25 rfl rfl ?_
        refine g_imul (pc' := 27) dX12_isSeen_26 rfl ?_
        obtain ⟨ob3, h⟩ := h
        refine g_iald (pc' := 28) dX12_isSeen_27 rfl kd_87 ob3 ?_
        refine g_topI (fun x4 ex4 => ?_)
        have h := h x4 ex4
        refine g_istore_n (pc' := 29) dX12_isSeen_28 rfl (by decide) ?_
        refine g_aload_n (pc' := 30) dX12_isSeen_29 rfl rfl ?_
        refine g_iload_n (pc' := 31) dX12_isSeen_30 rfl rfl ?_
        refine g_V1z (pc' := 34) dX12_isSeen_31 rfl mv_RX12_152 kd_69 (by decide) (Nat.le_of_ble_eq_true rfl) C_X12_isThing (sr_purb (fun hb5 => ?_))
        obtain ⟨ho, h⟩ := h
        refine sr_join (v := (if F_X12_isThing x4 s = 0 then 0 else (if s 87 (w32 ((w32 (2 * v2)) + 1)).toNat = 4 then (if F_X12_whomOf x4 s = (-1) then 1 else 0) else (if F_X12_whomOf x4 s = s 87 (w32 ((w32 (2 * v2)) + 1)).toNat then 1 else 0)))) (GG := fun x6 => sr_G RX12 cX12_isSeen 4 (some .boolean) 5 78 [(0, vR 69), (2, vI v2)] [vI x6] s Q) (fun x6 ex6 => ?_) (fun hj => ?_)
        · have h := h x6 ex6
          refine g_istore_n (pc' := 79) dX12_isSeen_78 rfl (by decide) ?_
          refine g_iinc (pc' := 82) dX12_isSeen_79 rfl rfl (by decide) ?_
          refine g_goto (pc' := 8) dX12_isSeen_82 rfl ?_
          exact (ih _ _ h).to ((sb_c rfl (sb_c rfl (sb_c rfl sb_n))))
        · refine g_if_eq (pc' := 37) (tgt := 77) dX12_isSeen_34 rfl rfl (fun c7 => ?_) (fun c7 => ?_)
          · have ho := ho.1 c7
            refine g_iconst (pc' := 78) (by unfold r32; decide) dX12_isSeen_77 rfl ?_
            exact (hj _ (by rw [if_pos c7])).to ((sb_c rfl (sb_c rfl sb_n)))
          · have ho := ho.2 c7
            refine g_aload_n (pc' := 38) dX12_isSeen_37 rfl rfl ?_
            refine g_iload_n (pc' := 39) dX12_isSeen_38 rfl rfl ?_
            obtain ⟨ob8, ho⟩ := ho
            refine g_V1i (pc' := 42) dX12_isSeen_39 rfl mv_RX12_233 kd_69 (by decide) (Nat.le_of_ble_eq_true rfl) (C_X12_whomOf ob8) (sr_pur ?_)
            refine g_aload_n (pc' := 43) dX12_isSeen_42 rfl rfl ?_
            refine g_getR (pc' := 46) (r := 87) dX12_isSeen_43 rfl fl_RX12_61 kd_69 rfl rf_69_28 ?_
            refine g_iconst (pc' := 47) (by unfold r32; decide) dX12_isSeen_46 rfl ?_
            refine g_iload_n (pc' := 48) dX12_isSeen_47 rfl rfl ?_
            refine g_imul (pc' := 49) dX12_isSeen_48 rfl ?_
            refine g_iconst (pc' := 50) (by unfold r32; decide) dX12_isSeen_49 rfl ?_
            refine g_iadd (pc' := 51) dX12_isSeen_50 rfl ?_
            obtain ⟨ob9, ho⟩ := ho
            refine g_iald (pc' := 52) dX12_isSeen_51 rfl kd_87 ob9 ?_
            refine g_iconst (pc' := 53) (by unfold r32; decide) dX12_isSeen_52 rfl ?_
            refine g_ic_ne (pc' := 56) (tgt := 60) dX12_isSeen_53 rfl rfl (fun c10 => ?_) (fun c10 => ?_)
            · have ho := ho.2 c10
              refine g_aload_n (pc' := 61) dX12_isSeen_60 rfl rfl ?_
              refine g_getR (pc' := 64) (r := 87) dX12_isSeen_61 rfl fl_RX12_61 kd_69 rfl rf_69_28 ?_
              refine g_iconst (pc' := 65) (by unfold r32; decide) dX12_isSeen_64 rfl ?_
              refine g_iload_n (pc' := 66) dX12_isSeen_65 rfl rfl ?_
              refine g_imul (pc' := 67) dX12_isSeen_66 rfl ?_
              refine g_iconst (pc' := 68) (by unfold r32; decide) dX12_isSeen_67 rfl ?_
              refine g_iadd (pc' := 69) dX12_isSeen_68 rfl ?_
              obtain ⟨ob12, ho⟩ := ho
              refine g_iald (pc' := 70) dX12_isSeen_69 rfl kd_87 ob12 ?_
              refine g_ic_ne (pc' := 73) (tgt := 77) dX12_isSeen_70 rfl rfl (fun c13 => ?_) (fun c13 => ?_)
              · refine g_iconst (pc' := 78) (by unfold r32; decide) dX12_isSeen_77 rfl ?_
                exact (hj _ (by rw [if_neg c7, if_neg c10, if_neg c13])).to ((sb_c rfl (sb_c rfl sb_n)))
              · refine g_iconst (pc' := 74) (by unfold r32; decide) dX12_isSeen_73 rfl ?_
                refine g_goto (pc' := 78) dX12_isSeen_74 rfl ?_
                exact (hj _ (by rw [if_neg c7, if_neg c10, if_pos c13])).to ((sb_c rfl (sb_c rfl sb_n)))
            · have ho := ho.1 c10
              refine g_iconst (pc' := 57) (by unfold r32; decide) dX12_isSeen_56 rfl ?_
              refine g_goto (pc' := 70) dX12_isSeen_57 rfl ?_
              refine g_ic_ne (pc' := 73) (tgt := 77) dX12_isSeen_70 rfl rfl (fun c11 => ?_) (fun c11 => ?_)
              · refine g_iconst (pc' := 78) (by unfold r32; decide) dX12_isSeen_77 rfl ?_
                exact (hj _ (by rw [if_neg c7, if_pos c10, if_neg c11])).to ((sb_c rfl (sb_c rfl sb_n)))
              · refine g_iconst (pc' := 74) (by unfold r32; decide) dX12_isSeen_73 rfl ?_
                refine g_goto (pc' := 78) dX12_isSeen_74 rfl ?_
                exact (hj _ (by rw [if_neg c7, if_pos c10, if_pos c11])).to ((sb_c rfl (sb_c rfl sb_n)))
def P_X12_isSeen (s : Sto) (Q : Int → Sto → Prop) : Prop := (P_X12_lives s (fun _ s1 => (∃ n4, L_X12_isSeen_8 s1 (fun x3 => ((x3 = 0 ∨ x3 = 1) ∧ Q x3 s1)) n4 1 0)))
set_option maxRecDepth 100000 in
theorem C_X12_isSeen {s : Sto} {Q : Int → Sto → Prop}  (h : P_X12_isSeen s Q) : sr_C yX12_isSeen cX12_isSeen 4 (some .boolean) 5 [vR 69] s Q := by
  refine sr_C.of (by decide +kernel) (Nat.le_of_ble_eq_true rfl) ?_
  show sr_G RX12 cX12_isSeen 4 (some .boolean) 5 0 [(0, vR 69)] [] s Q
  unfold P_X12_isSeen at h
  refine g_aload_n (pc' := 1) dX12_isSeen_0 rfl rfl ?_
  refine g_V0v (pc' := 4) dX12_isSeen_1 rfl mv_RX12_227 kd_69 (by decide) (Nat.le_of_ble_eq_true rfl) (C_X12_lives h) (fun s1 h => ?_)
  refine g_iconst (pc' := 5) (by unfold r32; decide) dX12_isSeen_4 rfl ?_
  refine g_istore_n (pc' := 6) dX12_isSeen_5 rfl (by decide) ?_
  refine g_iconst (pc' := 7) (by unfold r32; decide) dX12_isSeen_6 rfl ?_
  refine g_istore_n (pc' := 8) dX12_isSeen_7 rfl (by decide) ?_
  obtain ⟨n4, h⟩ := h
  refine (SL_X12_isSeen_8  (fun x3 h => ?_) n4 _ _ h).to ((sb_c rfl (sb_c rfl (sb_c rfl sb_n))))
  · refine g_iload_n (pc' := 86) dX12_isSeen_85 rfl rfl ?_
    exact g_zret dX12_isSeen_86 rfl h.1 h.2
def L_X12_neverNow_4  (K42 : Int → Sto → Prop) : Nat → Int → Int → Sto → Prop
  | 0, _, _, _ => False
  | n + 1, v1, v2, s => ((s 69 14 ≤ v2 → K42 v1 s) ∧ (¬ s 69 14 ≤ v2 → (∀ s2 : Sto, s2 = up s 69 25 (iShl 1 v2) → (P_X12_isSeen s2 (fun r4 s3 => (∀ x5 : Int, x5 = (if r4 = 0 then 0 else iShl 1 v2) → (∀ x7 : Int, x7 = iO v1 x5 → L_X12_neverNow_4 K42 n x7 (w32 (v2 + 1)) s3)))))))
set_option maxRecDepth 100000 in
theorem SL_X12_neverNow_4  {K42 : Int → Sto → Prop} {Q : Int → Sto → Prop}  (hK42 : ∀ v1 s, K42 v1 s → sr_G RX12 cX12_neverNow 3 (some .int) 6 42 [(0, vR 69), (1, vI v1)] [] s Q) : ∀ n v1 v2 s, L_X12_neverNow_4 K42 n v1 v2 s → sr_G RX12 cX12_neverNow 3 (some .int) 6 4 [(0, vR 69), (1, vI v1), (2, vI v2)] [] s Q := by
  intro n
  induction n with
  | zero => intro v1 v2 s h; exact h.elim
  | succ n ih =>
    intro v1 v2 s h
    unfold L_X12_neverNow_4 at h
    refine g_iload_n (pc' := 5) dX12_neverNow_4 rfl rfl ?_
    refine g_aload_n (pc' := 6) dX12_neverNow_5 rfl rfl ?_
    refine g_getI (pc' := 9) dX12_neverNow_6 rfl fl_RX12_160 kd_69 (Or.inl rfl) ?_
    refine g_ic_ge (pc' := 12) (tgt := 42) dX12_neverNow_9 rfl rfl (fun c1 => ?_) (fun c1 => ?_)
    · have h := h.1 c1
      exact (hK42 _ _ h).to ((sb_c rfl (sb_c rfl sb_n)))
    · have h := h.2 c1
      refine g_aload_n (pc' := 13) dX12_neverNow_12 rfl rfl ?_
      refine g_iconst (pc' := 14) (by unfold r32; decide) dX12_neverNow_13 rfl ?_
      refine g_iload_n (pc' := 15) dX12_neverNow_14 rfl rfl ?_
      refine g_ishl (pc' := 16) dX12_neverNow_15 rfl ?_
      refine g_putI (pc' := 19) dX12_neverNow_16 rfl fp_RX12_205 kd_69 rfl ?_
      refine g_sto (fun s2 es2 => ?_)
      have h := h s2 es2
      refine g_iload_n (pc' := 20) dX12_neverNow_19 rfl rfl ?_
      refine g_aload_n (pc' := 21) dX12_neverNow_20 rfl rfl ?_
      refine g_V0z (pc' := 24) dX12_neverNow_21 rfl mv_RX12_299 kd_69 (by decide) (Nat.le_of_ble_eq_true rfl) (C_X12_isSeen h) (fun r4 s3 h => ?_)
      refine sr_join (v := (if r4 = 0 then 0 else iShl 1 v2)) (GG := fun x5 => sr_G RX12 cX12_neverNow 3 (some .int) 6 34 [(0, vR 69), (2, vI v2)] [vI x5, vI v1] s3 Q) (fun x5 ex5 => ?_) (fun hj => ?_)
      · have h := h x5 ex5
        refine g_ior (pc' := 35) dX12_neverNow_34 rfl ?_
        refine g_topI (fun x7 ex7 => ?_)
        have h := h x7 ex7
        refine g_istore_n (pc' := 36) dX12_neverNow_35 rfl (by decide) ?_
        refine g_iinc (pc' := 39) dX12_neverNow_36 rfl rfl (by decide) ?_
        refine g_goto (pc' := 4) dX12_neverNow_39 rfl ?_
        exact (ih _ _ _ h).to ((sb_c rfl (sb_c rfl (sb_c rfl sb_n))))
      · refine g_if_eq (pc' := 27) (tgt := 33) dX12_neverNow_24 rfl rfl (fun c6 => ?_) (fun c6 => ?_)
        · refine g_iconst (pc' := 34) (by unfold r32; decide) dX12_neverNow_33 rfl ?_
          exact (hj _ (by rw [if_pos c6])).to ((sb_c rfl (sb_c rfl sb_n)))
        · refine g_iconst (pc' := 28) (by unfold r32; decide) dX12_neverNow_27 rfl ?_
          refine g_iload_n (pc' := 29) dX12_neverNow_28 rfl rfl ?_
          refine g_ishl (pc' := 30) dX12_neverNow_29 rfl ?_
          refine g_goto (pc' := 34) dX12_neverNow_30 rfl ?_
          exact (hj _ (by rw [if_neg c6])).to ((sb_c rfl (sb_c rfl sb_n)))
def P_X12_neverNow (s : Sto) (Q : Int → Sto → Prop) : Prop := (∃ n4, L_X12_neverNow_4 (fun x1 s2 => (∀ s3 : Sto, s3 = up s2 69 25 0 → Q x1 s3)) n4 0 0 s)
set_option maxRecDepth 100000 in
theorem C_X12_neverNow {s : Sto} {Q : Int → Sto → Prop}  (h : P_X12_neverNow s Q) : sr_C yX12_neverNow cX12_neverNow 3 (some .int) 6 [vR 69] s Q := by
  refine sr_C.of (by decide +kernel) (Nat.le_of_ble_eq_true rfl) ?_
  show sr_G RX12 cX12_neverNow 3 (some .int) 6 0 [(0, vR 69)] [] s Q
  unfold P_X12_neverNow at h
  refine g_iconst (pc' := 1) (by unfold r32; decide) dX12_neverNow_0 rfl ?_
  refine g_istore_n (pc' := 2) dX12_neverNow_1 rfl (by decide) ?_
  refine g_iconst (pc' := 3) (by unfold r32; decide) dX12_neverNow_2 rfl ?_
  refine g_istore_n (pc' := 4) dX12_neverNow_3 rfl (by decide) ?_
  obtain ⟨n4, h⟩ := h
  refine (SL_X12_neverNow_4  (fun x1 s2 h => ?_) n4 _ _ _ h).to ((sb_c rfl (sb_c rfl (sb_c rfl sb_n))))
  · refine g_aload_n (pc' := 43) dX12_neverNow_42 rfl rfl ?_
    refine g_iconst (pc' := 44) (by unfold r32; decide) dX12_neverNow_43 rfl ?_
    refine g_putI (pc' := 47) dX12_neverNow_44 rfl fp_RX12_205 kd_69 rfl ?_
    refine g_sto (fun s3 es3 => ?_)
    have h := h s3 es3
    refine g_iload_n (pc' := 48) dX12_neverNow_47 rfl rfl ?_
    exact g_iret dX12_neverNow_48 rfl h
def P_X12_never (s : Sto) (Q : Int → Sto → Prop) : Prop := (P_X12_find s (fun _ s1 => (P_X12_neverNow s1 (fun r4 s3 => Q r4 s3))))
set_option maxRecDepth 100000 in
theorem C_X12_never {s : Sto} {Q : Int → Sto → Prop}  (h : P_X12_never s Q) : sr_C yX12_never cX12_never 1 (some .int) 7 [vR 69] s Q := by
  refine sr_C.of (by decide +kernel) (Nat.le_of_ble_eq_true rfl) ?_
  show sr_G RX12 cX12_never 1 (some .int) 7 0 [(0, vR 69)] [] s Q
  unfold P_X12_never at h
  refine g_aload_n (pc' := 1) dX12_never_0 rfl rfl ?_
  refine g_V0v (pc' := 4) dX12_never_1 rfl mv_RX12_230 kd_69 (by decide) (Nat.le_of_ble_eq_true rfl) (C_X12_find h) (fun s1 h => ?_)
  refine g_aload_n (pc' := 5) dX12_never_4 rfl rfl ?_
  refine g_V0i (pc' := 8) dX12_never_5 rfl mv_RX12_303 kd_69 (by decide) (Nat.le_of_ble_eq_true rfl) (C_X12_neverNow h) (fun r4 s3 h => ?_)
  exact g_iret dX12_never_8 rfl h
def L_X12_whenceOf_20 (v1 : Int) (v2 : Int) (v3 : Int) (K88 : Int → Int → Sto → Prop) : Nat → Int → Int → Int → Sto → Prop
  | 0, _, _, _, _ => False
  | n + 1, v4, v5, v6, s => ((s 69 7 ≤ v6 → K88 v4 v5 s) ∧ (¬ s 69 7 ≤ v6 → (inb (w32 ((w32 (5 * v1)) + 1)) 40 ∧ (∀ s3 : Sto, s3 = up s 79 (w32 ((w32 (5 * v1)) + 1)).toNat v6 → (P_X12_isSeen s3 (fun r5 s4 => (∀ x6 : Int, x6 = (if r5 = 0 then v5 else (if v4 = v2 then v6 else v5)) → (∀ x9 : Int, x9 = (if r5 = 0 then 0 else 1) → (∀ x11 : Int, x11 = w32 (v4 + x9) → L_X12_whenceOf_20 v1 v2 v3 K88 n x11 x6 (w32 (v6 + 1)) s4)))))))))
set_option maxRecDepth 100000 in
theorem SL_X12_whenceOf_20 {v1 : Int} {v2 : Int} {v3 : Int} {K88 : Int → Int → Sto → Prop} {Q : Int → Sto → Prop}  (hK88 : ∀ v4 v5 s, K88 v4 v5 s → sr_G RX12 cX12_whenceOf 8 (some .int) 6 88 [(0, vR 69), (1, vI v1), (2, vI v2), (3, vI v3), (4, vI v4), (5, vI v5)] [] s Q) : ∀ n v4 v5 v6 s, L_X12_whenceOf_20 v1 v2 v3 K88 n v4 v5 v6 s → sr_G RX12 cX12_whenceOf 8 (some .int) 6 20 [(0, vR 69), (1, vI v1), (2, vI v2), (3, vI v3), (4, vI v4), (5, vI v5), (6, vI v6)] [] s Q := by
  intro n
  induction n with
  | zero => intro v4 v5 v6 s h; exact h.elim
  | succ n ih =>
    intro v4 v5 v6 s h
    unfold L_X12_whenceOf_20 at h
    refine g_iload (pc' := 22) dX12_whenceOf_20 rfl rfl ?_
    refine g_aload_n (pc' := 23) dX12_whenceOf_22 rfl rfl ?_
    refine g_getI (pc' := 26) dX12_whenceOf_23 rfl fl_RX12_109 kd_69 (Or.inl rfl) ?_
    refine g_ic_ge (pc' := 29) (tgt := 88) dX12_whenceOf_26 rfl rfl (fun c1 => ?_) (fun c1 => ?_)
    · have h := h.1 c1
      exact (hK88 _ _ _ h).to ((sb_c rfl (sb_c rfl (sb_c rfl (sb_c rfl (sb_c rfl (sb_c rfl sb_n)))))))
    · have h := h.2 c1
      refine g_aload_n (pc' := 30) dX12_whenceOf_29 rfl rfl ?_
      refine g_getR (pc' := 33) (r := 79) dX12_whenceOf_30 rfl fl_RX12_37 kd_69 rfl rf_69_15 ?_
      refine g_iconst (pc' := 34) (by unfold r32; decide) dX12_whenceOf_33 rfl ?_
      refine g_iload_n (pc' := 35) dX12_whenceOf_34 rfl rfl ?_
      refine g_imul (pc' := 36) dX12_whenceOf_35 rfl ?_
      refine g_iconst (pc' := 37) (by unfold r32; decide) dX12_whenceOf_36 rfl ?_
      refine g_iadd (pc' := 38) dX12_whenceOf_37 rfl ?_
      refine g_iload (pc' := 40) dX12_whenceOf_38 rfl rfl ?_
      obtain ⟨ob2, h⟩ := h
      refine g_iast (pc' := 41) dX12_whenceOf_40 rfl kd_79 ob2 ?_
      refine g_sto (fun s3 es3 => ?_)
      have h := h s3 es3
      refine g_aload_n (pc' := 42) dX12_whenceOf_41 rfl rfl ?_
      refine g_V0z (pc' := 45) dX12_whenceOf_42 rfl mv_RX12_299 kd_69 (by decide) (Nat.le_of_ble_eq_true rfl) (C_X12_isSeen h) (fun r5 s4 h => ?_)
      refine g_istore (pc' := 47) dX12_whenceOf_45 rfl (by decide) ?_
      refine g_iload (pc' := 49) dX12_whenceOf_47 rfl rfl ?_
      refine sr_join (v := (if r5 = 0 then v5 else (if v4 = v2 then v6 else v5))) (GG := fun x6 => sr_G RX12 cX12_whenceOf 8 (some .int) 6 65 [(0, vR 69), (1, vI v1), (2, vI v2), (3, vI v3), (4, vI v4), (6, vI v6), (7, vI r5)] [vI x6] s4 Q) (fun x6 ex6 => ?_) (fun hj => ?_)
      · have h := h x6 ex6
        refine g_istore (pc' := 67) dX12_whenceOf_65 rfl (by decide) ?_
        refine g_iload (pc' := 69) dX12_whenceOf_67 rfl rfl ?_
        refine g_iload (pc' := 71) dX12_whenceOf_69 rfl rfl ?_
        refine sr_join (v := (if r5 = 0 then 0 else 1)) (GG := fun x9 => sr_G RX12 cX12_whenceOf 8 (some .int) 6 79 [(0, vR 69), (1, vI v1), (2, vI v2), (3, vI v3), (5, vI x6), (6, vI v6)] [vI x9, vI v4] s4 Q) (fun x9 ex9 => ?_) (fun hj => ?_)
        · have h := h x9 ex9
          refine g_iadd (pc' := 80) dX12_whenceOf_79 rfl ?_
          refine g_topI (fun x11 ex11 => ?_)
          have h := h x11 ex11
          refine g_istore (pc' := 82) dX12_whenceOf_80 rfl (by decide) ?_
          refine g_iinc (pc' := 85) dX12_whenceOf_82 rfl rfl (by decide) ?_
          refine g_goto (pc' := 20) dX12_whenceOf_85 rfl ?_
          exact (ih _ _ _ _ h).to ((sb_c rfl (sb_c rfl (sb_c rfl (sb_c rfl (sb_c rfl (sb_c rfl (sb_c rfl sb_n))))))))
        · refine g_if_eq (pc' := 74) (tgt := 78) dX12_whenceOf_71 rfl rfl (fun c10 => ?_) (fun c10 => ?_)
          · refine g_iconst (pc' := 79) (by unfold r32; decide) dX12_whenceOf_78 rfl ?_
            exact (hj _ (by rw [if_pos c10])).to ((sb_c rfl (sb_c rfl (sb_c rfl (sb_c rfl (sb_c rfl (sb_c rfl sb_n)))))))
          · refine g_iconst (pc' := 75) (by unfold r32; decide) dX12_whenceOf_74 rfl ?_
            refine g_goto (pc' := 79) dX12_whenceOf_75 rfl ?_
            exact (hj _ (by rw [if_neg c10])).to ((sb_c rfl (sb_c rfl (sb_c rfl (sb_c rfl (sb_c rfl (sb_c rfl sb_n)))))))
      · refine g_if_eq (pc' := 52) (tgt := 63) dX12_whenceOf_49 rfl rfl (fun c7 => ?_) (fun c7 => ?_)
        · refine g_iload (pc' := 65) dX12_whenceOf_63 rfl rfl ?_
          exact (hj _ (by rw [if_pos c7])).to ((sb_c rfl (sb_c rfl (sb_c rfl (sb_c rfl (sb_c rfl (sb_c rfl (sb_c rfl sb_n))))))))
        · refine g_iload (pc' := 54) dX12_whenceOf_52 rfl rfl ?_
          refine g_iload_n (pc' := 55) dX12_whenceOf_54 rfl rfl ?_
          refine g_ic_ne (pc' := 58) (tgt := 63) dX12_whenceOf_55 rfl rfl (fun c8 => ?_) (fun c8 => ?_)
          · refine g_iload (pc' := 65) dX12_whenceOf_63 rfl rfl ?_
            exact (hj _ (by rw [if_neg c7, if_neg c8])).to ((sb_c rfl (sb_c rfl (sb_c rfl (sb_c rfl (sb_c rfl (sb_c rfl (sb_c rfl sb_n))))))))
          · refine g_iload (pc' := 60) dX12_whenceOf_58 rfl rfl ?_
            refine g_goto (pc' := 65) dX12_whenceOf_60 rfl ?_
            exact (hj _ (by rw [if_neg c7, if_pos c8])).to ((sb_c rfl (sb_c rfl (sb_c rfl (sb_c rfl (sb_c rfl (sb_c rfl (sb_c rfl sb_n))))))))
def P_X12_whenceOf (v1 : Int) (v2 : Int) (s : Sto) (Q : Int → Sto → Prop) : Prop := (inb (w32 ((w32 (5 * v1)) + 1)) 40 ∧ (∀ x2 : Int, x2 = s 79 (w32 ((w32 (5 * v1)) + 1)).toNat → (∃ n9, L_X12_whenceOf_20 v1 v2 x2 (fun x3 x4 s5 => (inb (w32 ((w32 (5 * v1)) + 1)) 40 ∧ (∀ s7 : Sto, s7 = up s5 79 (w32 ((w32 (5 * v1)) + 1)).toNat x2 → ((v2 = (-1) → Q x3 s7) ∧ (¬ v2 = (-1) → Q x4 s7))))) n9 0 ((-1)) 0 s)))
set_option maxRecDepth 100000 in
theorem C_X12_whenceOf {v1 : Int} {v2 : Int} {s : Sto} {Q : Int → Sto → Prop}  (h : P_X12_whenceOf v1 v2 s Q) : sr_C yX12_whenceOf cX12_whenceOf 8 (some .int) 6 [vR 69, vI v1, vI v2] s Q := by
  refine sr_C.of (by decide +kernel) (Nat.le_of_ble_eq_true rfl) ?_
  show sr_G RX12 cX12_whenceOf 8 (some .int) 6 0 [(0, vR 69), (1, vI v1), (2, vI v2)] [] s Q
  unfold P_X12_whenceOf at h
  refine g_aload_n (pc' := 1) dX12_whenceOf_0 rfl rfl ?_
  refine g_getR (pc' := 4) (r := 79) dX12_whenceOf_1 rfl fl_RX12_37 kd_69 rfl rf_69_15 ?_
  refine g_iconst (pc' := 5) (by unfold r32; decide) dX12_whenceOf_4 rfl ?_
  refine g_iload_n (pc' := 6) dX12_whenceOf_5 rfl rfl ?_
  refine g_imul (pc' := 7) dX12_whenceOf_6 rfl ?_
  refine g_iconst (pc' := 8) (by unfold r32; decide) dX12_whenceOf_7 rfl ?_
  refine g_iadd (pc' := 9) dX12_whenceOf_8 rfl ?_
  obtain ⟨ob1, h⟩ := h
  refine g_iald (pc' := 10) dX12_whenceOf_9 rfl kd_79 ob1 ?_
  refine g_topI (fun x2 ex2 => ?_)
  have h := h x2 ex2
  refine g_istore_n (pc' := 11) dX12_whenceOf_10 rfl (by decide) ?_
  refine g_iconst (pc' := 12) (by unfold r32; decide) dX12_whenceOf_11 rfl ?_
  refine g_istore (pc' := 14) dX12_whenceOf_12 rfl (by decide) ?_
  refine g_iconst (pc' := 15) (by unfold r32; decide) dX12_whenceOf_14 rfl ?_
  refine g_istore (pc' := 17) dX12_whenceOf_15 rfl (by decide) ?_
  refine g_iconst (pc' := 18) (by unfold r32; decide) dX12_whenceOf_17 rfl ?_
  refine g_istore (pc' := 20) dX12_whenceOf_18 rfl (by decide) ?_
  obtain ⟨n9, h⟩ := h
  refine (SL_X12_whenceOf_20  (fun x3 x4 s5 h => ?_) n9 _ _ _ _ h).to ((sb_c rfl (sb_c rfl (sb_c rfl (sb_c rfl (sb_c rfl (sb_c rfl (sb_c rfl sb_n))))))))
  · refine g_aload_n (pc' := 89) dX12_whenceOf_88 rfl rfl ?_
    refine g_getR (pc' := 92) (r := 79) dX12_whenceOf_89 rfl fl_RX12_37 kd_69 rfl rf_69_15 ?_
    refine g_iconst (pc' := 93) (by unfold r32; decide) dX12_whenceOf_92 rfl ?_
    refine g_iload_n (pc' := 94) dX12_whenceOf_93 rfl rfl ?_
    refine g_imul (pc' := 95) dX12_whenceOf_94 rfl ?_
    refine g_iconst (pc' := 96) (by unfold r32; decide) dX12_whenceOf_95 rfl ?_
    refine g_iadd (pc' := 97) dX12_whenceOf_96 rfl ?_
    refine g_iload_n (pc' := 98) dX12_whenceOf_97 rfl rfl ?_
    obtain ⟨ob6, h⟩ := h
    refine g_iast (pc' := 99) dX12_whenceOf_98 rfl kd_79 ob6 ?_
    refine g_sto (fun s7 es7 => ?_)
    have h := h s7 es7
    refine g_iload_n (pc' := 100) dX12_whenceOf_99 rfl rfl ?_
    refine g_iconst (pc' := 101) (by unfold r32; decide) dX12_whenceOf_100 rfl ?_
    refine g_ic_ne (pc' := 104) (tgt := 109) dX12_whenceOf_101 rfl rfl (fun c8 => ?_) (fun c8 => ?_)
    · have h := h.2 c8
      refine g_iload (pc' := 111) dX12_whenceOf_109 rfl rfl ?_
      exact g_iret dX12_whenceOf_111 rfl h
    · have h := h.1 c8
      refine g_iload (pc' := 106) dX12_whenceOf_104 rfl rfl ?_
      refine g_goto (pc' := 111) dX12_whenceOf_106 rfl ?_
      exact g_iret dX12_whenceOf_111 rfl h
def P_X12_whence (v1 : Int) (v2 : Int) (s : Sto) (Q : Int → Sto → Prop) : Prop := (P_X12_find s (fun _ s1 => ((F_X12_isRing v1 s1 = 0 → Q ((-2)) s1) ∧ (¬ F_X12_isRing v1 s1 = 0 → ((F_X12_in v2 ((-1)) 35 s1 = 0 → Q ((-2)) s1) ∧ (¬ F_X12_in v2 ((-1)) 35 s1 = 0 → (P_X12_whenceOf v1 v2 s1 (fun r8 s7 => Q r8 s7))))))))
set_option maxRecDepth 100000 in
theorem C_X12_whence {v1 : Int} {v2 : Int} {s : Sto} {Q : Int → Sto → Prop}  (h : P_X12_whence v1 v2 s Q) : sr_C yX12_whence cX12_whence 3 (some .int) 7 [vR 69, vI v1, vI v2] s Q := by
  refine sr_C.of (by decide +kernel) (Nat.le_of_ble_eq_true rfl) ?_
  show sr_G RX12 cX12_whence 3 (some .int) 7 0 [(0, vR 69), (1, vI v1), (2, vI v2)] [] s Q
  unfold P_X12_whence at h
  refine g_aload_n (pc' := 1) dX12_whence_0 rfl rfl ?_
  refine g_V0v (pc' := 4) dX12_whence_1 rfl mv_RX12_230 kd_69 (by decide) (Nat.le_of_ble_eq_true rfl) (C_X12_find h) (fun s1 h => ?_)
  refine g_aload_n (pc' := 5) dX12_whence_4 rfl rfl ?_
  refine g_iload_n (pc' := 6) dX12_whence_5 rfl rfl ?_
  refine g_V1z (pc' := 9) dX12_whence_6 rfl mv_RX12_169 kd_69 (by decide) (Nat.le_of_ble_eq_true rfl) C_X12_isRing (sr_purb (fun hb3 => ?_))
  refine g_if_eq (pc' := 12) (tgt := 35) dX12_whence_9 rfl rfl (fun c4 => ?_) (fun c4 => ?_)
  · have h := h.1 c4
    refine g_bipush (pc' := 37) ⟨by unfold r32; decide, rfl⟩ dX12_whence_35 rfl ?_
    exact g_iret dX12_whence_37 rfl h
  · have h := h.2 c4
    refine g_iload_n (pc' := 13) dX12_whence_12 rfl rfl ?_
    refine g_i2l (pc' := 14) dX12_whence_13 rfl ?_
    refine g_ldc2 (pc' := 17) (z := (-1)) (by unfold r64; decide) kc_RX12_278 dX12_whence_14 rfl ?_
    refine g_ldc2 (pc' := 20) (z := 35) (by unfold r64; decide) kc_RX12_150 dX12_whence_17 rfl ?_
    refine g_S3z (pc' := 23) dX12_whence_20 rfl ms_RX12_76 (by decide) (Nat.le_of_ble_eq_true rfl) C_X12_in (sr_purb (fun hb5 => ?_))
    refine g_if_eq (pc' := 26) (tgt := 35) dX12_whence_23 rfl rfl (fun c6 => ?_) (fun c6 => ?_)
    · have h := h.1 c6
      refine g_bipush (pc' := 37) ⟨by unfold r32; decide, rfl⟩ dX12_whence_35 rfl ?_
      exact g_iret dX12_whence_37 rfl h
    · have h := h.2 c6
      refine g_aload_n (pc' := 27) dX12_whence_26 rfl rfl ?_
      refine g_iload_n (pc' := 28) dX12_whence_27 rfl rfl ?_
      refine g_iload_n (pc' := 29) dX12_whence_28 rfl rfl ?_
      refine g_V2i (pc' := 32) dX12_whence_29 rfl mv_RX12_306 kd_69 (by decide) (Nat.le_of_ble_eq_true rfl) (C_X12_whenceOf h) (fun r8 s7 h => ?_)
      refine g_goto (pc' := 37) dX12_whence_32 rfl ?_
      exact g_iret dX12_whence_37 rfl h
def L_X12_pacesNow_9 (v1 : Int) (K42 : Int → Sto → Prop) : Nat → Int → Int → Sto → Prop
  | 0, _, _, _ => False
  | n + 1, v2, v3, s => ((5 ≤ v3 → K42 v2 s) ∧ (¬ 5 ≤ v3 → (∀ s2 : Sto, s2 = up s 69 13 v3 → (P_X12_isSeen s2 (fun r4 s3 => (∀ x5 : Int, x5 = (if r4 = 0 then 0 else iShl 1 v3) → (∀ x7 : Int, x7 = iO v2 x5 → L_X12_pacesNow_9 v1 K42 n x7 (w32 (v3 + 1)) s3)))))))
set_option maxRecDepth 100000 in
theorem SL_X12_pacesNow_9 {v1 : Int} {K42 : Int → Sto → Prop} {Q : Int → Sto → Prop}  (hK42 : ∀ v2 s, K42 v2 s → sr_G RX12 cX12_pacesNow 4 (some .int) 6 42 [(0, vR 69), (1, vI v1), (2, vI v2)] [] s Q) : ∀ n v2 v3 s, L_X12_pacesNow_9 v1 K42 n v2 v3 s → sr_G RX12 cX12_pacesNow 4 (some .int) 6 9 [(0, vR 69), (1, vI v1), (2, vI v2), (3, vI v3)] [] s Q := by
  intro n
  induction n with
  | zero => intro v2 v3 s h; exact h.elim
  | succ n ih =>
    intro v2 v3 s h
    unfold L_X12_pacesNow_9 at h
    refine g_iload_n (pc' := 10) dX12_pacesNow_9 rfl rfl ?_
    refine g_iconst (pc' := 11) (by unfold r32; decide) dX12_pacesNow_10 rfl ?_
    refine g_ic_ge (pc' := 14) (tgt := 42) dX12_pacesNow_11 rfl rfl (fun c1 => ?_) (fun c1 => ?_)
    · have h := h.1 c1
      exact (hK42 _ _ h).to ((sb_c rfl (sb_c rfl (sb_c rfl sb_n))))
    · have h := h.2 c1
      refine g_aload_n (pc' := 15) dX12_pacesNow_14 rfl rfl ?_
      refine g_iload_n (pc' := 16) dX12_pacesNow_15 rfl rfl ?_
      refine g_putI (pc' := 19) dX12_pacesNow_16 rfl fp_RX12_70 kd_69 rfl ?_
      refine g_sto (fun s2 es2 => ?_)
      have h := h s2 es2
      refine g_iload_n (pc' := 20) dX12_pacesNow_19 rfl rfl ?_
      refine g_aload_n (pc' := 21) dX12_pacesNow_20 rfl rfl ?_
      refine g_V0z (pc' := 24) dX12_pacesNow_21 rfl mv_RX12_299 kd_69 (by decide) (Nat.le_of_ble_eq_true rfl) (C_X12_isSeen h) (fun r4 s3 h => ?_)
      refine sr_join (v := (if r4 = 0 then 0 else iShl 1 v3)) (GG := fun x5 => sr_G RX12 cX12_pacesNow 4 (some .int) 6 34 [(0, vR 69), (1, vI v1), (3, vI v3)] [vI x5, vI v2] s3 Q) (fun x5 ex5 => ?_) (fun hj => ?_)
      · have h := h x5 ex5
        refine g_ior (pc' := 35) dX12_pacesNow_34 rfl ?_
        refine g_topI (fun x7 ex7 => ?_)
        have h := h x7 ex7
        refine g_istore_n (pc' := 36) dX12_pacesNow_35 rfl (by decide) ?_
        refine g_iinc (pc' := 39) dX12_pacesNow_36 rfl rfl (by decide) ?_
        refine g_goto (pc' := 9) dX12_pacesNow_39 rfl ?_
        exact (ih _ _ _ h).to ((sb_c rfl (sb_c rfl (sb_c rfl (sb_c rfl sb_n)))))
      · refine g_if_eq (pc' := 27) (tgt := 33) dX12_pacesNow_24 rfl rfl (fun c6 => ?_) (fun c6 => ?_)
        · refine g_iconst (pc' := 34) (by unfold r32; decide) dX12_pacesNow_33 rfl ?_
          exact (hj _ (by rw [if_pos c6])).to ((sb_c rfl (sb_c rfl (sb_c rfl sb_n))))
        · refine g_iconst (pc' := 28) (by unfold r32; decide) dX12_pacesNow_27 rfl ?_
          refine g_iload_n (pc' := 29) dX12_pacesNow_28 rfl rfl ?_
          refine g_ishl (pc' := 30) dX12_pacesNow_29 rfl ?_
          refine g_goto (pc' := 34) dX12_pacesNow_30 rfl ?_
          exact (hj _ (by rw [if_neg c6])).to ((sb_c rfl (sb_c rfl (sb_c rfl sb_n))))
def P_X12_pacesNow (s : Sto) (Q : Int → Sto → Prop) : Prop := (∀ x1 : Int, x1 = s 69 13 → (∃ n5, L_X12_pacesNow_9 x1 (fun x2 s3 => (∀ s4 : Sto, s4 = up s3 69 13 x1 → Q x2 s4)) n5 0 1 s))
set_option maxRecDepth 100000 in
theorem C_X12_pacesNow {s : Sto} {Q : Int → Sto → Prop}  (h : P_X12_pacesNow s Q) : sr_C yX12_pacesNow cX12_pacesNow 4 (some .int) 6 [vR 69] s Q := by
  refine sr_C.of (by decide +kernel) (Nat.le_of_ble_eq_true rfl) ?_
  show sr_G RX12 cX12_pacesNow 4 (some .int) 6 0 [(0, vR 69)] [] s Q
  unfold P_X12_pacesNow at h
  refine g_aload_n (pc' := 1) dX12_pacesNow_0 rfl rfl ?_
  refine g_getI (pc' := 4) dX12_pacesNow_1 rfl fl_RX12_70 kd_69 (Or.inl rfl) ?_
  refine g_topI (fun x1 ex1 => ?_)
  have h := h x1 ex1
  refine g_istore_n (pc' := 5) dX12_pacesNow_4 rfl (by decide) ?_
  refine g_iconst (pc' := 6) (by unfold r32; decide) dX12_pacesNow_5 rfl ?_
  refine g_istore_n (pc' := 7) dX12_pacesNow_6 rfl (by decide) ?_
  refine g_iconst (pc' := 8) (by unfold r32; decide) dX12_pacesNow_7 rfl ?_
  refine g_istore_n (pc' := 9) dX12_pacesNow_8 rfl (by decide) ?_
  obtain ⟨n5, h⟩ := h
  refine (SL_X12_pacesNow_9  (fun x2 s3 h => ?_) n5 _ _ _ h).to ((sb_c rfl (sb_c rfl (sb_c rfl (sb_c rfl sb_n)))))
  · refine g_aload_n (pc' := 43) dX12_pacesNow_42 rfl rfl ?_
    refine g_iload_n (pc' := 44) dX12_pacesNow_43 rfl rfl ?_
    refine g_putI (pc' := 47) dX12_pacesNow_44 rfl fp_RX12_70 kd_69 rfl ?_
    refine g_sto (fun s4 es4 => ?_)
    have h := h s4 es4
    refine g_iload_n (pc' := 48) dX12_pacesNow_47 rfl rfl ?_
    exact g_iret dX12_pacesNow_48 rfl h
def P_X12_paces (s : Sto) (Q : Int → Sto → Prop) : Prop := (P_X12_find s (fun _ s1 => (P_X12_pacesNow s1 (fun r4 s3 => Q r4 s3))))
set_option maxRecDepth 100000 in
theorem C_X12_paces {s : Sto} {Q : Int → Sto → Prop}  (h : P_X12_paces s Q) : sr_C yX12_paces cX12_paces 1 (some .int) 7 [vR 69] s Q := by
  refine sr_C.of (by decide +kernel) (Nat.le_of_ble_eq_true rfl) ?_
  show sr_G RX12 cX12_paces 1 (some .int) 7 0 [(0, vR 69)] [] s Q
  unfold P_X12_paces at h
  refine g_aload_n (pc' := 1) dX12_paces_0 rfl rfl ?_
  refine g_V0v (pc' := 4) dX12_paces_1 rfl mv_RX12_230 kd_69 (by decide) (Nat.le_of_ble_eq_true rfl) (C_X12_find h) (fun s1 h => ?_)
  refine g_aload_n (pc' := 5) dX12_paces_4 rfl rfl ?_
  refine g_V0i (pc' := 8) dX12_paces_5 rfl mv_RX12_309 kd_69 (by decide) (Nat.le_of_ble_eq_true rfl) (C_X12_pacesNow h) (fun r4 s3 h => ?_)
  exact g_iret dX12_paces_8 rfl h
def L_X12_askNow_7 (v1 : Int) (K26 : Sto → Prop) : Nat → Int → Sto → Prop
  | 0, _, _ => False
  | n + 1, v2, s => ((40 ≤ v2 → K26 s) ∧ (¬ 40 ≤ v2 → (inb v2 40 ∧ (∀ s3 : Sto, s3 = up s 88 v2.toNat 0 → L_X12_askNow_7 v1 K26 n (w32 (v2 + 1)) s3))))
set_option maxRecDepth 100000 in
theorem SL_X12_askNow_7 {v1 : Int} {K26 : Sto → Prop} {Q : Int → Sto → Prop}  (hK26 : ∀ s, K26 s → sr_G RX12 cX12_askNow 7 (some .int) 7 26 [(0, vR 69), (1, vI v1)] [] s Q) : ∀ n v2 s, L_X12_askNow_7 v1 K26 n v2 s → sr_G RX12 cX12_askNow 7 (some .int) 7 7 [(0, vR 69), (1, vI v1), (2, vI v2)] [] s Q := by
  intro n
  induction n with
  | zero => intro v2 s h; exact h.elim
  | succ n ih =>
    intro v2 s h
    unfold L_X12_askNow_7 at h
    refine g_iload_n (pc' := 8) dX12_askNow_7 rfl rfl ?_
    refine g_bipush (pc' := 10) ⟨by unfold r32; decide, rfl⟩ dX12_askNow_8 rfl ?_
    refine g_ic_ge (pc' := 13) (tgt := 26) dX12_askNow_10 rfl rfl (fun c1 => ?_) (fun c1 => ?_)
    · have h := h.1 c1
      exact (hK26 _ h).to ((sb_c rfl (sb_c rfl sb_n)))
    · have h := h.2 c1
      refine g_aload_n (pc' := 14) dX12_askNow_13 rfl rfl ?_
      refine g_getR (pc' := 17) (r := 88) dX12_askNow_14 rfl fl_RX12_64 kd_69 rfl rf_69_29 ?_
      refine g_iload_n (pc' := 18) dX12_askNow_17 rfl rfl ?_
      refine g_iconst (pc' := 19) (by unfold r32; decide) dX12_askNow_18 rfl ?_
      obtain ⟨ob2, h⟩ := h
      refine g_iast (pc' := 20) dX12_askNow_19 rfl kd_88 ob2 ?_
      refine g_sto (fun s3 es3 => ?_)
      have h := h s3 es3
      refine g_iinc (pc' := 23) dX12_askNow_20 rfl rfl (by decide) ?_
      refine g_goto (pc' := 7) dX12_askNow_23 rfl ?_
      exact (ih _ _ h).to ((sb_c rfl (sb_c rfl (sb_c rfl sb_n))))
def L_X12_askNow_57 (v1 : Int) (v2 : Int) (K91 : Sto → Prop) : Nat → Int → Sto → Prop
  | 0, _, _ => False
  | n + 1, v3, s => ((s 69 10 ≤ v3 → K91 s) ∧ (¬ s 69 10 ≤ v3 → (O_X12_whomOf v3 s ∧ (inb (w32 ((w32 ((w32 (5 * v3)) + (F_X12_whomOf v3 s))) + 1)) 40 ∧ (inb (w32 ((w32 ((w32 (5 * v3)) + (F_X12_whomOf v3 s))) + 1)) 40 ∧ (∀ s5 : Sto, s5 = up s 88 (w32 ((w32 ((w32 (5 * v3)) + (F_X12_whomOf v3 s))) + 1)).toNat (w32 ((s 88 (w32 ((w32 ((w32 (5 * v3)) + (F_X12_whomOf v3 s))) + 1)).toNat) + 1)) → L_X12_askNow_57 v1 v2 K91 n (w32 (v3 + 1)) s5))))))
set_option maxRecDepth 100000 in
theorem SL_X12_askNow_57 {v1 : Int} {v2 : Int} {K91 : Sto → Prop} {Q : Int → Sto → Prop}  (hK91 : ∀ s, K91 s → sr_G RX12 cX12_askNow 7 (some .int) 7 91 [(0, vR 69), (1, vI v1), (2, vI v2)] [] s Q) : ∀ n v3 s, L_X12_askNow_57 v1 v2 K91 n v3 s → sr_G RX12 cX12_askNow 7 (some .int) 7 57 [(0, vR 69), (1, vI v1), (2, vI v2), (3, vI v3)] [] s Q := by
  intro n
  induction n with
  | zero => intro v3 s h; exact h.elim
  | succ n ih =>
    intro v3 s h
    unfold L_X12_askNow_57 at h
    refine g_iload_n (pc' := 58) dX12_askNow_57 rfl rfl ?_
    refine g_aload_n (pc' := 59) dX12_askNow_58 rfl rfl ?_
    refine g_getI (pc' := 62) dX12_askNow_59 rfl fl_RX12_126 kd_69 (Or.inl rfl) ?_
    refine g_ic_ge (pc' := 65) (tgt := 91) dX12_askNow_62 rfl rfl (fun c1 => ?_) (fun c1 => ?_)
    · have h := h.1 c1
      exact (hK91 _ h).to ((sb_c rfl (sb_c rfl (sb_c rfl sb_n))))
    · have h := h.2 c1
      refine g_aload_n (pc' := 66) dX12_askNow_65 rfl rfl ?_
      refine g_getR (pc' := 69) (r := 88) dX12_askNow_66 rfl fl_RX12_64 kd_69 rfl rf_69_29 ?_
      refine g_iconst (pc' := 70) (by unfold r32; decide) dX12_askNow_69 rfl ?_
      refine g_iload_n (pc' := 71) dX12_askNow_70 rfl rfl ?_
      refine g_imul (pc' := 72) dX12_askNow_71 rfl ?_
      refine g_aload_n (pc' := 73) dX12_askNow_72 rfl rfl ?_
      refine g_iload_n (pc' := 74) dX12_askNow_73 rfl rfl ?_
      obtain ⟨ob2, h⟩ := h
      refine g_V1i (pc' := 77) dX12_askNow_74 rfl mv_RX12_233 kd_69 (by decide) (Nat.le_of_ble_eq_true rfl) (C_X12_whomOf ob2) (sr_pur ?_)
      refine g_iadd (pc' := 78) dX12_askNow_77 rfl ?_
      refine g_iconst (pc' := 79) (by unfold r32; decide) dX12_askNow_78 rfl ?_
      refine g_iadd (pc' := 80) dX12_askNow_79 rfl ?_
      refine g_dup2 (pc' := 81) dX12_askNow_80 rfl ?_
      obtain ⟨ob3, h⟩ := h
      refine g_iald (pc' := 82) dX12_askNow_81 rfl kd_88 ob3 ?_
      refine g_iconst (pc' := 83) (by unfold r32; decide) dX12_askNow_82 rfl ?_
      refine g_iadd (pc' := 84) dX12_askNow_83 rfl ?_
      obtain ⟨ob4, h⟩ := h
      refine g_iast (pc' := 85) dX12_askNow_84 rfl kd_88 ob4 ?_
      refine g_sto (fun s5 es5 => ?_)
      have h := h s5 es5
      refine g_iinc (pc' := 88) dX12_askNow_85 rfl rfl (by decide) ?_
      refine g_goto (pc' := 57) dX12_askNow_88 rfl ?_
      exact (ih _ _ h).to ((sb_c rfl (sb_c rfl (sb_c rfl (sb_c rfl sb_n)))))
def L_X12_askNow_28 (v1 : Int) (K97 : Sto → Prop) : Nat → Int → Sto → Prop
  | 0, _, _ => False
  | n + 1, v2, s => ((s 69 14 ≤ v2 → K97 s) ∧ (¬ s 69 14 ≤ v2 → ((F_X12_isIn v1 v2 s = 0 → L_X12_askNow_28 v1 K97 n (w32 (v2 + 1)) s) ∧ (¬ F_X12_isIn v1 v2 s = 0 → (∀ s4 : Sto, s4 = up s 69 25 (iShl 1 v2) → (P_X12_lives s4 (fun _ s5 => (∃ n8, L_X12_askNow_57 v1 v2 (fun s7 => L_X12_askNow_28 v1 K97 n (w32 (v2 + 1)) s7) n8 0 s5))))))))
set_option maxRecDepth 100000 in
theorem SL_X12_askNow_28 {v1 : Int} {K97 : Sto → Prop} {Q : Int → Sto → Prop}  (hK97 : ∀ s, K97 s → sr_G RX12 cX12_askNow 7 (some .int) 7 97 [(0, vR 69)] [] s Q) : ∀ n v2 s, L_X12_askNow_28 v1 K97 n v2 s → sr_G RX12 cX12_askNow 7 (some .int) 7 28 [(0, vR 69), (1, vI v1), (2, vI v2)] [] s Q := by
  intro n
  induction n with
  | zero => intro v2 s h; exact h.elim
  | succ n ih =>
    intro v2 s h
    unfold L_X12_askNow_28 at h
    refine g_iload_n (pc' := 29) dX12_askNow_28 rfl rfl ?_
    refine g_aload_n (pc' := 30) dX12_askNow_29 rfl rfl ?_
    refine g_getI (pc' := 33) dX12_askNow_30 rfl fl_RX12_160 kd_69 (Or.inl rfl) ?_
    refine g_ic_ge (pc' := 36) (tgt := 97) dX12_askNow_33 rfl rfl (fun c1 => ?_) (fun c1 => ?_)
    · have h := h.1 c1
      exact (hK97 _ h).to ((sb_c rfl sb_n))
    · have h := h.2 c1
      refine g_iload_n (pc' := 37) dX12_askNow_36 rfl rfl ?_
      refine g_iload_n (pc' := 38) dX12_askNow_37 rfl rfl ?_
      refine g_S2z (pc' := 41) dX12_askNow_38 rfl ms_RX12_186 (by decide) (Nat.le_of_ble_eq_true rfl) C_X12_isIn (sr_purb (fun hb2 => ?_))
      refine g_if_eq (pc' := 44) (tgt := 91) dX12_askNow_41 rfl rfl (fun c3 => ?_) (fun c3 => ?_)
      · have h := h.1 c3
        refine g_iinc (pc' := 94) dX12_askNow_91 rfl rfl (by decide) ?_
        refine g_goto (pc' := 28) dX12_askNow_94 rfl ?_
        exact (ih _ _ h).to ((sb_c rfl (sb_c rfl (sb_c rfl sb_n))))
      · have h := h.2 c3
        refine g_aload_n (pc' := 45) dX12_askNow_44 rfl rfl ?_
        refine g_iconst (pc' := 46) (by unfold r32; decide) dX12_askNow_45 rfl ?_
        refine g_iload_n (pc' := 47) dX12_askNow_46 rfl rfl ?_
        refine g_ishl (pc' := 48) dX12_askNow_47 rfl ?_
        refine g_putI (pc' := 51) dX12_askNow_48 rfl fp_RX12_205 kd_69 rfl ?_
        refine g_sto (fun s4 es4 => ?_)
        have h := h s4 es4
        refine g_aload_n (pc' := 52) dX12_askNow_51 rfl rfl ?_
        refine g_V0v (pc' := 55) dX12_askNow_52 rfl mv_RX12_227 kd_69 (by decide) (Nat.le_of_ble_eq_true rfl) (C_X12_lives h) (fun s5 h => ?_)
        refine g_iconst (pc' := 56) (by unfold r32; decide) dX12_askNow_55 rfl ?_
        refine g_istore_n (pc' := 57) dX12_askNow_56 rfl (by decide) ?_
        obtain ⟨n8, h⟩ := h
        refine (SL_X12_askNow_57  (fun s7 h => ?_) n8 _ _ h).to ((sb_c rfl (sb_c rfl (sb_c rfl (sb_c rfl sb_n)))))
        · refine g_iinc (pc' := 94) dX12_askNow_91 rfl rfl (by decide) ?_
          refine g_goto (pc' := 28) dX12_askNow_94 rfl ?_
          exact (ih _ _ h).to ((sb_c rfl (sb_c rfl (sb_c rfl sb_n))))
def L_X12_askNow_124 (v2 : Int) (v3 : Int) (v4 : Int) (s : Sto) (K155 : Int → Prop) : Nat → Int → Int → Prop
  | 0, _, _ => False
  | n + 1, v5, v6 => ((5 ≤ v6 → K155 v5) ∧ (¬ 5 ≤ v6 → (inb (w32 ((w32 (5 * v4)) + v6)) 40 ∧ (∀ x3 : Int, x3 = F_X12_greater (s 88 (w32 ((w32 (5 * v4)) + v6)).toNat) v5 s → L_X12_askNow_124 v2 v3 v4 s K155 n x3 (w32 (v6 + 1))))))
set_option maxRecDepth 100000 in
theorem SL_X12_askNow_124 {v2 : Int} {v3 : Int} {v4 : Int} {s : Sto} {K155 : Int → Prop} {Q : Int → Sto → Prop}  (hK155 : ∀ v5, K155 v5 → sr_G RX12 cX12_askNow 7 (some .int) 7 155 [(0, vR 69), (2, vI v2), (3, vI v3), (4, vI v4), (5, vI v5)] [] s Q) : ∀ n v5 v6, L_X12_askNow_124 v2 v3 v4 s K155 n v5 v6 → sr_G RX12 cX12_askNow 7 (some .int) 7 124 [(0, vR 69), (2, vI v2), (3, vI v3), (4, vI v4), (5, vI v5), (6, vI v6)] [] s Q := by
  intro n
  induction n with
  | zero => intro v5 v6 h; exact h.elim
  | succ n ih =>
    intro v5 v6 h
    unfold L_X12_askNow_124 at h
    refine g_iload (pc' := 126) dX12_askNow_124 rfl rfl ?_
    refine g_iconst (pc' := 127) (by unfold r32; decide) dX12_askNow_126 rfl ?_
    refine g_ic_ge (pc' := 130) (tgt := 155) dX12_askNow_127 rfl rfl (fun c1 => ?_) (fun c1 => ?_)
    · have h := h.1 c1
      exact (hK155 _ h).to ((sb_c rfl (sb_c rfl (sb_c rfl (sb_c rfl (sb_c rfl sb_n))))))
    · have h := h.2 c1
      refine g_aload_n (pc' := 131) dX12_askNow_130 rfl rfl ?_
      refine g_getR (pc' := 134) (r := 88) dX12_askNow_131 rfl fl_RX12_64 kd_69 rfl rf_69_29 ?_
      refine g_iconst (pc' := 135) (by unfold r32; decide) dX12_askNow_134 rfl ?_
      refine g_iload (pc' := 137) dX12_askNow_135 rfl rfl ?_
      refine g_imul (pc' := 138) dX12_askNow_137 rfl ?_
      refine g_iload (pc' := 140) dX12_askNow_138 rfl rfl ?_
      refine g_iadd (pc' := 141) dX12_askNow_140 rfl ?_
      obtain ⟨ob2, h⟩ := h
      refine g_iald (pc' := 142) dX12_askNow_141 rfl kd_88 ob2 ?_
      refine g_iload (pc' := 144) dX12_askNow_142 rfl rfl ?_
      refine g_S2i (pc' := 147) dX12_askNow_144 rfl ms_RX12_254 (by decide) (Nat.le_of_ble_eq_true rfl) C_X12_greater (sr_pur ?_)
      refine g_topI (fun x3 ex3 => ?_)
      have h := h x3 ex3
      refine g_istore (pc' := 149) dX12_askNow_147 rfl (by decide) ?_
      refine g_iinc (pc' := 152) dX12_askNow_149 rfl rfl (by decide) ?_
      refine g_goto (pc' := 124) dX12_askNow_152 rfl ?_
      exact (ih _ _ h).to ((sb_c rfl (sb_c rfl (sb_c rfl (sb_c rfl (sb_c rfl (sb_c rfl sb_n)))))))
def L_X12_askNow_109 (s : Sto) (K203 : Int → Prop) : Nat → Int → Int → Int → Prop
  | 0, _, _, _ => False
  | n + 1, v2, v3, v4 => ((s 69 10 ≤ v4 → K203 v2) ∧ (¬ s 69 10 ≤ v4 → (∃ n10, L_X12_askNow_124 v2 v3 v4 s (fun x2 => (∀ x3 : Int, x3 = (if v2 = (-1) then 1 else (if v3 ≤ x2 then 0 else 1)) → (∀ x6 : Int, x6 = (if x3 = 0 then v2 else v4) → (∀ x8 : Int, x8 = (if x3 = 0 then v3 else x2) → L_X12_askNow_109 s K203 n x6 x8 (w32 (v4 + 1)))))) n10 0 0)))
set_option maxRecDepth 100000 in
theorem SL_X12_askNow_109 {s : Sto} {K203 : Int → Prop} {Q : Int → Sto → Prop}  (hK203 : ∀ v2, K203 v2 → sr_G RX12 cX12_askNow 7 (some .int) 7 203 [(2, vI v2)] [] s Q) : ∀ n v2 v3 v4, L_X12_askNow_109 s K203 n v2 v3 v4 → sr_G RX12 cX12_askNow 7 (some .int) 7 109 [(0, vR 69), (2, vI v2), (3, vI v3), (4, vI v4)] [] s Q := by
  intro n
  induction n with
  | zero => intro v2 v3 v4 h; exact h.elim
  | succ n ih =>
    intro v2 v3 v4 h
    unfold L_X12_askNow_109 at h
    refine g_iload (pc' := 111) dX12_askNow_109 rfl rfl ?_
    refine g_aload_n (pc' := 112) dX12_askNow_111 rfl rfl ?_
    refine g_getI (pc' := 115) dX12_askNow_112 rfl fl_RX12_126 kd_69 (Or.inl rfl) ?_
    refine g_ic_ge (pc' := 118) (tgt := 203) dX12_askNow_115 rfl rfl (fun c1 => ?_) (fun c1 => ?_)
    · have h := h.1 c1
      exact (hK203 _ h).to ((sb_c rfl sb_n))
    · have h := h.2 c1
      refine g_iconst (pc' := 119) (by unfold r32; decide) dX12_askNow_118 rfl ?_
      refine g_istore (pc' := 121) dX12_askNow_119 rfl (by decide) ?_
      refine g_iconst (pc' := 122) (by unfold r32; decide) dX12_askNow_121 rfl ?_
      refine g_istore (pc' := 124) dX12_askNow_122 rfl (by decide) ?_
      obtain ⟨n10, h⟩ := h
      refine (SL_X12_askNow_124  (fun x2 h => ?_) n10 _ _ h).to ((sb_c rfl (sb_c rfl (sb_c rfl (sb_c rfl (sb_c rfl (sb_c rfl sb_n)))))))
      · refine g_iload_n (pc' := 156) dX12_askNow_155 rfl rfl ?_
        refine g_iconst (pc' := 157) (by unfold r32; decide) dX12_askNow_156 rfl ?_
        refine sr_join (v := (if v2 = (-1) then 1 else (if v3 ≤ x2 then 0 else 1))) (GG := fun x3 => sr_G RX12 cX12_askNow 7 (some .int) 7 171 [(0, vR 69), (2, vI v2), (3, vI v3), (4, vI v4), (5, vI x2)] [vI x3] s Q) (fun x3 ex3 => ?_) (fun hj => ?_)
        · have h := h x3 ex3
          refine g_istore (pc' := 173) dX12_askNow_171 rfl (by decide) ?_
          refine g_iload (pc' := 175) dX12_askNow_173 rfl rfl ?_
          refine sr_join (v := (if x3 = 0 then v2 else v4)) (GG := fun x6 => sr_G RX12 cX12_askNow 7 (some .int) 7 184 [(0, vR 69), (3, vI v3), (4, vI v4), (5, vI x2), (6, vI x3)] [vI x6] s Q) (fun x6 ex6 => ?_) (fun hj => ?_)
          · have h := h x6 ex6
            refine g_istore_n (pc' := 185) dX12_askNow_184 rfl (by decide) ?_
            refine g_iload (pc' := 187) dX12_askNow_185 rfl rfl ?_
            refine sr_join (v := (if x3 = 0 then v3 else x2)) (GG := fun x8 => sr_G RX12 cX12_askNow 7 (some .int) 7 196 [(0, vR 69), (2, vI x6), (4, vI v4)] [vI x8] s Q) (fun x8 ex8 => ?_) (fun hj => ?_)
            · have h := h x8 ex8
              refine g_istore_n (pc' := 197) dX12_askNow_196 rfl (by decide) ?_
              refine g_iinc (pc' := 200) dX12_askNow_197 rfl rfl (by decide) ?_
              refine g_goto (pc' := 109) dX12_askNow_200 rfl ?_
              exact (ih _ _ _ h).to ((sb_c rfl (sb_c rfl (sb_c rfl (sb_c rfl sb_n)))))
            · refine g_if_eq (pc' := 190) (tgt := 195) dX12_askNow_187 rfl rfl (fun c9 => ?_) (fun c9 => ?_)
              · refine g_iload_n (pc' := 196) dX12_askNow_195 rfl rfl ?_
                exact (hj _ (by rw [if_pos c9])).to ((sb_c rfl (sb_c rfl (sb_c rfl sb_n))))
              · refine g_iload (pc' := 192) dX12_askNow_190 rfl rfl ?_
                refine g_goto (pc' := 196) dX12_askNow_192 rfl ?_
                exact (hj _ (by rw [if_neg c9])).to ((sb_c rfl (sb_c rfl (sb_c rfl sb_n))))
          · refine g_if_eq (pc' := 178) (tgt := 183) dX12_askNow_175 rfl rfl (fun c7 => ?_) (fun c7 => ?_)
            · refine g_iload_n (pc' := 184) dX12_askNow_183 rfl rfl ?_
              exact (hj _ (by rw [if_pos c7])).to ((sb_c rfl (sb_c rfl (sb_c rfl (sb_c rfl (sb_c rfl sb_n))))))
            · refine g_iload (pc' := 180) dX12_askNow_178 rfl rfl ?_
              refine g_goto (pc' := 184) dX12_askNow_180 rfl ?_
              exact (hj _ (by rw [if_neg c7])).to ((sb_c rfl (sb_c rfl (sb_c rfl (sb_c rfl (sb_c rfl sb_n))))))
        · refine g_ic_eq (pc' := 160) (tgt := 166) dX12_askNow_157 rfl rfl (fun c4 => ?_) (fun c4 => ?_)
          · refine g_iconst (pc' := 167) (by unfold r32; decide) dX12_askNow_166 rfl ?_
            refine g_goto (pc' := 171) dX12_askNow_167 rfl ?_
            exact (hj _ (by rw [if_pos c4])).to ((sb_c rfl (sb_c rfl (sb_c rfl (sb_c rfl (sb_c rfl sb_n))))))
          · refine g_iload (pc' := 162) dX12_askNow_160 rfl rfl ?_
            refine g_iload_n (pc' := 163) dX12_askNow_162 rfl rfl ?_
            refine g_ic_ge (pc' := 166) (tgt := 170) dX12_askNow_163 rfl rfl (fun c5 => ?_) (fun c5 => ?_)
            · refine g_iconst (pc' := 171) (by unfold r32; decide) dX12_askNow_170 rfl ?_
              exact (hj _ (by rw [if_neg c4, if_pos c5])).to ((sb_c rfl (sb_c rfl (sb_c rfl (sb_c rfl (sb_c rfl sb_n))))))
            · refine g_iconst (pc' := 167) (by unfold r32; decide) dX12_askNow_166 rfl ?_
              refine g_goto (pc' := 171) dX12_askNow_167 rfl ?_
              exact (hj _ (by rw [if_neg c4, if_neg c5])).to ((sb_c rfl (sb_c rfl (sb_c rfl (sb_c rfl (sb_c rfl sb_n))))))
def P_X12_askNow (s : Sto) (Q : Int → Sto → Prop) : Prop := (P_X12_neverNow s (fun r2 s1 => (∃ n9, L_X12_askNow_7 r2 (fun s3 => (∃ n8, L_X12_askNow_28 r2 (fun s4 => (∀ s5 : Sto, s5 = up s4 69 25 0 → (∃ n7, L_X12_askNow_109 s5 (fun x6 => Q x6 s5) n7 ((-1)) 0 0))) n8 0 s3)) n9 0 s1)))
set_option maxRecDepth 100000 in
theorem C_X12_askNow {s : Sto} {Q : Int → Sto → Prop}  (h : P_X12_askNow s Q) : sr_C yX12_askNow cX12_askNow 7 (some .int) 7 [vR 69] s Q := by
  refine sr_C.of (by decide +kernel) (Nat.le_of_ble_eq_true rfl) ?_
  show sr_G RX12 cX12_askNow 7 (some .int) 7 0 [(0, vR 69)] [] s Q
  unfold P_X12_askNow at h
  refine g_aload_n (pc' := 1) dX12_askNow_0 rfl rfl ?_
  refine g_V0i (pc' := 4) dX12_askNow_1 rfl mv_RX12_303 kd_69 (by decide) (Nat.le_of_ble_eq_true rfl) (C_X12_neverNow h) (fun r2 s1 h => ?_)
  refine g_istore_n (pc' := 5) dX12_askNow_4 rfl (by decide) ?_
  refine g_iconst (pc' := 6) (by unfold r32; decide) dX12_askNow_5 rfl ?_
  refine g_istore_n (pc' := 7) dX12_askNow_6 rfl (by decide) ?_
  obtain ⟨n9, h⟩ := h
  refine (SL_X12_askNow_7  (fun s3 h => ?_) n9 _ _ h).to ((sb_c rfl (sb_c rfl (sb_c rfl sb_n))))
  · refine g_iconst (pc' := 27) (by unfold r32; decide) dX12_askNow_26 rfl ?_
    refine g_istore_n (pc' := 28) dX12_askNow_27 rfl (by decide) ?_
    obtain ⟨n8, h⟩ := h
    refine (SL_X12_askNow_28  (fun s4 h => ?_) n8 _ _ h).to ((sb_c rfl (sb_c rfl (sb_c rfl sb_n))))
    · refine g_aload_n (pc' := 98) dX12_askNow_97 rfl rfl ?_
      refine g_iconst (pc' := 99) (by unfold r32; decide) dX12_askNow_98 rfl ?_
      refine g_putI (pc' := 102) dX12_askNow_99 rfl fp_RX12_205 kd_69 rfl ?_
      refine g_sto (fun s5 es5 => ?_)
      have h := h s5 es5
      refine g_iconst (pc' := 103) (by unfold r32; decide) dX12_askNow_102 rfl ?_
      refine g_istore_n (pc' := 104) dX12_askNow_103 rfl (by decide) ?_
      refine g_iconst (pc' := 105) (by unfold r32; decide) dX12_askNow_104 rfl ?_
      refine g_istore_n (pc' := 106) dX12_askNow_105 rfl (by decide) ?_
      refine g_iconst (pc' := 107) (by unfold r32; decide) dX12_askNow_106 rfl ?_
      refine g_istore (pc' := 109) dX12_askNow_107 rfl (by decide) ?_
      obtain ⟨n7, h⟩ := h
      refine (SL_X12_askNow_109  (fun x6 h => ?_) n7 _ _ _ h).to ((sb_c rfl (sb_c rfl (sb_c rfl (sb_c rfl sb_n)))))
      · refine g_iload_n (pc' := 204) dX12_askNow_203 rfl rfl ?_
        exact g_iret dX12_askNow_204 rfl h
def P_X12_ask (s : Sto) (Q : Int → Sto → Prop) : Prop := (P_X12_find s (fun _ s1 => (P_X12_askNow s1 (fun r4 s3 => Q r4 s3))))
set_option maxRecDepth 100000 in
theorem C_X12_ask {s : Sto} {Q : Int → Sto → Prop}  (h : P_X12_ask s Q) : sr_C yX12_ask cX12_ask 1 (some .int) 8 [vR 69] s Q := by
  refine sr_C.of (by decide +kernel) (Nat.le_of_ble_eq_true rfl) ?_
  show sr_G RX12 cX12_ask 1 (some .int) 8 0 [(0, vR 69)] [] s Q
  unfold P_X12_ask at h
  refine g_aload_n (pc' := 1) dX12_ask_0 rfl rfl ?_
  refine g_V0v (pc' := 4) dX12_ask_1 rfl mv_RX12_230 kd_69 (by decide) (Nat.le_of_ble_eq_true rfl) (C_X12_find h) (fun s1 h => ?_)
  refine g_aload_n (pc' := 5) dX12_ask_4 rfl rfl ?_
  refine g_V0i (pc' := 8) dX12_ask_5 rfl mv_RX12_312 kd_69 (by decide) (Nat.le_of_ble_eq_true rfl) (C_X12_askNow h) (fun r4 s3 h => ?_)
  exact g_iret dX12_ask_8 rfl h
def L_X12_stillOf_40 (v1 : Int) (v2 : Int) (v3 : Int) (v4 : Int) (v5 : Int) (v6 : Int) (v8 : Int) (s : Sto) (K77 : Int → Prop) : Nat → Int → Int → Prop
  | 0, _, _ => False
  | n + 1, v9, v11 => ((v2 < v11 → K77 v9) ∧ (¬ v2 < v11 → (∀ x3 : Int, x3 = (if F_X12_isIn v8 v11 s = 0 then w32 (16 - v1) else v1) → (∀ x5 : Int, x5 = w64 (v9 * x3) → L_X12_stillOf_40 v1 v2 v3 v4 v5 v6 v8 s K77 n x5 (w32 (v11 + 1))))))
set_option maxRecDepth 100000 in
theorem SL_X12_stillOf_40 {v1 : Int} {v2 : Int} {v3 : Int} {v4 : Int} {v5 : Int} {v6 : Int} {v8 : Int} {s : Sto} {K77 : Int → Prop} {Q : Int → Sto → Prop}  (hK77 : ∀ v9, K77 v9 → sr_G RX12 cX12_stillOf 12 (some .long) 5 77 [(0, vR 69), (1, vI v1), (2, vI v2), (3, vI v3), (4, vI v4), (5, vI v5), (6, vL v6), (8, vI v8), (9, vL v9)] [] s Q) : ∀ n v9 v11, L_X12_stillOf_40 v1 v2 v3 v4 v5 v6 v8 s K77 n v9 v11 → sr_G RX12 cX12_stillOf 12 (some .long) 5 40 [(0, vR 69), (1, vI v1), (2, vI v2), (3, vI v3), (4, vI v4), (5, vI v5), (6, vL v6), (8, vI v8), (9, vL v9), (11, vI v11)] [] s Q := by
  intro n
  induction n with
  | zero => intro v9 v11 h; exact h.elim
  | succ n ih =>
    intro v9 v11 h
    unfold L_X12_stillOf_40 at h
    refine g_iload (pc' := 42) dX12_stillOf_40 rfl rfl ?_
    refine g_iload_n (pc' := 43) dX12_stillOf_42 rfl rfl ?_
    refine g_ic_gt (pc' := 46) (tgt := 77) dX12_stillOf_43 rfl rfl (fun c1 => ?_) (fun c1 => ?_)
    · have h := h.1 c1
      exact (hK77 _ h).to ((sb_c rfl (sb_c rfl (sb_c rfl (sb_c rfl (sb_c rfl (sb_c rfl (sb_c rfl (sb_c rfl (sb_c rfl sb_n))))))))))
    · have h := h.2 c1
      refine g_lload (pc' := 48) dX12_stillOf_46 rfl rfl ?_
      refine g_iload (pc' := 50) dX12_stillOf_48 rfl rfl ?_
      refine g_iload (pc' := 52) dX12_stillOf_50 rfl rfl ?_
      refine g_S2z (pc' := 55) dX12_stillOf_52 rfl ms_RX12_186 (by decide) (Nat.le_of_ble_eq_true rfl) C_X12_isIn (sr_purb (fun hb2 => ?_))
      refine sr_join (v := (if F_X12_isIn v8 v11 s = 0 then w32 (16 - v1) else v1)) (GG := fun x3 => sr_G RX12 cX12_stillOf 12 (some .long) 5 68 [(0, vR 69), (1, vI v1), (2, vI v2), (3, vI v3), (4, vI v4), (5, vI v5), (6, vL v6), (8, vI v8), (11, vI v11)] [vL x3, vL v9] s Q) (fun x3 ex3 => ?_) (fun hj => ?_)
      · have h := h x3 ex3
        refine g_lmul (pc' := 69) dX12_stillOf_68 rfl ?_
        refine g_topL (fun x5 ex5 => ?_)
        have h := h x5 ex5
        refine g_lstore (pc' := 71) dX12_stillOf_69 rfl (by decide) ?_
        refine g_iinc (pc' := 74) dX12_stillOf_71 rfl rfl (by decide) ?_
        refine g_goto (pc' := 40) dX12_stillOf_74 rfl ?_
        exact (ih _ _ h).to ((sb_c rfl (sb_c rfl (sb_c rfl (sb_c rfl (sb_c rfl (sb_c rfl (sb_c rfl (sb_c rfl (sb_c rfl (sb_c rfl sb_n)))))))))))
      · refine g_if_eq (pc' := 58) (tgt := 63) dX12_stillOf_55 rfl rfl (fun c4 => ?_) (fun c4 => ?_)
        · refine g_bipush (pc' := 65) ⟨by unfold r32; decide, rfl⟩ dX12_stillOf_63 rfl ?_
          refine g_iload_n (pc' := 66) dX12_stillOf_65 rfl rfl ?_
          refine g_isub (pc' := 67) dX12_stillOf_66 rfl ?_
          refine g_i2l (pc' := 68) dX12_stillOf_67 rfl ?_
          exact (hj _ (by rw [if_pos c4])).to ((sb_c rfl (sb_c rfl (sb_c rfl (sb_c rfl (sb_c rfl (sb_c rfl (sb_c rfl (sb_c rfl (sb_c rfl sb_n))))))))))
        · refine g_iload_n (pc' := 59) dX12_stillOf_58 rfl rfl ?_
          refine g_i2l (pc' := 60) dX12_stillOf_59 rfl ?_
          refine g_goto (pc' := 68) dX12_stillOf_60 rfl ?_
          exact (hj _ (by rw [if_neg c4])).to ((sb_c rfl (sb_c rfl (sb_c rfl (sb_c rfl (sb_c rfl (sb_c rfl (sb_c rfl (sb_c rfl (sb_c rfl sb_n))))))))))
def L_X12_stillOf_6 (v1 : Int) (v2 : Int) (v3 : Int) (v4 : Int) (v5 : Int) (K90 : Int → Sto → Prop) : Nat → Int → Int → Sto → Prop
  | 0, _, _, _ => False
  | n + 1, v6, v8, s => ((iShl 2 v2 ≤ v8 → K90 v6 s) ∧ (¬ iShl 2 v2 ≤ v8 → (∀ s2 : Sto, s2 = up s 69 26 v8 → (P_X12_lives s2 (fun _ s3 => (O_X12_whomOf v3 s3 ∧ ((F_X12_whomOf v3 s3 = v4 → (∃ n9, L_X12_stillOf_40 v1 v2 v3 v4 v5 v6 v8 s3 (fun x7 => (∀ x8 : Int, x8 = w64 (v6 + x7) → L_X12_stillOf_6 v1 v2 v3 v4 v5 K90 n x8 (w32 (v8 + 1)) s3)) n9 1 0)) ∧ (¬ F_X12_whomOf v3 s3 = v4 → L_X12_stillOf_6 v1 v2 v3 v4 v5 K90 n v6 (w32 (v8 + 1)) s3))))))))
set_option maxRecDepth 100000 in
theorem SL_X12_stillOf_6 {v1 : Int} {v2 : Int} {v3 : Int} {v4 : Int} {v5 : Int} {K90 : Int → Sto → Prop} {Q : Int → Sto → Prop}  (hK90 : ∀ v6 s, K90 v6 s → sr_G RX12 cX12_stillOf 12 (some .long) 5 90 [(0, vR 69), (2, vI v2), (5, vI v5), (6, vL v6)] [] s Q) : ∀ n v6 v8 s, L_X12_stillOf_6 v1 v2 v3 v4 v5 K90 n v6 v8 s → sr_G RX12 cX12_stillOf 12 (some .long) 5 6 [(0, vR 69), (1, vI v1), (2, vI v2), (3, vI v3), (4, vI v4), (5, vI v5), (6, vL v6), (8, vI v8)] [] s Q := by
  intro n
  induction n with
  | zero => intro v6 v8 s h; exact h.elim
  | succ n ih =>
    intro v6 v8 s h
    unfold L_X12_stillOf_6 at h
    refine g_iload (pc' := 8) dX12_stillOf_6 rfl rfl ?_
    refine g_iconst (pc' := 9) (by unfold r32; decide) dX12_stillOf_8 rfl ?_
    refine g_iload_n (pc' := 10) dX12_stillOf_9 rfl rfl ?_
    refine g_ishl (pc' := 11) dX12_stillOf_10 rfl ?_
    refine g_ic_ge (pc' := 14) (tgt := 90) dX12_stillOf_11 rfl rfl (fun c1 => ?_) (fun c1 => ?_)
    · have h := h.1 c1
      exact (hK90 _ _ h).to ((sb_c rfl (sb_c rfl (sb_c rfl (sb_c rfl sb_n)))))
    · have h := h.2 c1
      refine g_aload_n (pc' := 15) dX12_stillOf_14 rfl rfl ?_
      refine g_iload (pc' := 17) dX12_stillOf_15 rfl rfl ?_
      refine g_putI (pc' := 20) dX12_stillOf_17 rfl fp_RX12_183 kd_69 rfl ?_
      refine g_sto (fun s2 es2 => ?_)
      have h := h s2 es2
      refine g_aload_n (pc' := 21) dX12_stillOf_20 rfl rfl ?_
      refine g_V0v (pc' := 24) dX12_stillOf_21 rfl mv_RX12_227 kd_69 (by decide) (Nat.le_of_ble_eq_true rfl) (C_X12_lives h) (fun s3 h => ?_)
      refine g_aload_n (pc' := 25) dX12_stillOf_24 rfl rfl ?_
      refine g_iload_n (pc' := 26) dX12_stillOf_25 rfl rfl ?_
      obtain ⟨ob5, h⟩ := h
      refine g_V1i (pc' := 29) dX12_stillOf_26 rfl mv_RX12_233 kd_69 (by decide) (Nat.le_of_ble_eq_true rfl) (C_X12_whomOf ob5) (sr_pur ?_)
      refine g_iload (pc' := 31) dX12_stillOf_29 rfl rfl ?_
      refine g_ic_ne (pc' := 34) (tgt := 84) dX12_stillOf_31 rfl rfl (fun c6 => ?_) (fun c6 => ?_)
      · have h := h.2 c6
        refine g_iinc (pc' := 87) dX12_stillOf_84 rfl rfl (by decide) ?_
        refine g_goto (pc' := 6) dX12_stillOf_87 rfl ?_
        exact (ih _ _ _ h).to ((sb_c rfl (sb_c rfl (sb_c rfl (sb_c rfl (sb_c rfl (sb_c rfl (sb_c rfl (sb_c rfl sb_n)))))))))
      · have h := h.1 c6
        refine g_lconst (pc' := 35) (z := 1) ⟨by unfold r64; decide, rfl⟩ dX12_stillOf_34 rfl ?_
        refine g_lstore (pc' := 37) dX12_stillOf_35 rfl (by decide) ?_
        refine g_iconst (pc' := 38) (by unfold r32; decide) dX12_stillOf_37 rfl ?_
        refine g_istore (pc' := 40) dX12_stillOf_38 rfl (by decide) ?_
        obtain ⟨n9, h⟩ := h
        refine (SL_X12_stillOf_40  (fun x7 h => ?_) n9 _ _ h).to ((sb_c rfl (sb_c rfl (sb_c rfl (sb_c rfl (sb_c rfl (sb_c rfl (sb_c rfl (sb_c rfl (sb_c rfl (sb_c rfl sb_n)))))))))))
        · refine g_lload (pc' := 79) dX12_stillOf_77 rfl rfl ?_
          refine g_lload (pc' := 81) dX12_stillOf_79 rfl rfl ?_
          refine g_ladd (pc' := 82) dX12_stillOf_81 rfl ?_
          refine g_topL (fun x8 ex8 => ?_)
          have h := h x8 ex8
          refine g_lstore (pc' := 84) dX12_stillOf_82 rfl (by decide) ?_
          refine g_iinc (pc' := 87) dX12_stillOf_84 rfl rfl (by decide) ?_
          refine g_goto (pc' := 6) dX12_stillOf_87 rfl ?_
          exact (ih _ _ _ h).to ((sb_c rfl (sb_c rfl (sb_c rfl (sb_c rfl (sb_c rfl (sb_c rfl (sb_c rfl (sb_c rfl sb_n)))))))))
def P_X12_stillOf (v1 : Int) (v2 : Int) (v3 : Int) (v4 : Int) (v5 : Int) (s : Sto) (Q : Int → Sto → Prop) : Prop := (∃ n6, L_X12_stillOf_6 v1 v2 v3 v4 v5 (fun x1 s2 => (∀ s3 : Sto, s3 = up s2 69 26 0 → (P_X12_part x1 (lShl 1 (w32 (4 * (w32 (v2 + 1))))) v5 s3 (fun r5 s4 => Q r5 s4)))) n6 0 0 s)
set_option maxRecDepth 100000 in
theorem C_X12_stillOf {v1 : Int} {v2 : Int} {v3 : Int} {v4 : Int} {v5 : Int} {s : Sto} {Q : Int → Sto → Prop}  (h : P_X12_stillOf v1 v2 v3 v4 v5 s Q) : sr_C yX12_stillOf cX12_stillOf 12 (some .long) 5 [vR 69, vI v1, vI v2, vI v3, vI v4, vI v5] s Q := by
  refine sr_C.of (by decide +kernel) (Nat.le_of_ble_eq_true rfl) ?_
  show sr_G RX12 cX12_stillOf 12 (some .long) 5 0 [(0, vR 69), (1, vI v1), (2, vI v2), (3, vI v3), (4, vI v4), (5, vI v5)] [] s Q
  unfold P_X12_stillOf at h
  refine g_lconst (pc' := 1) (z := 0) ⟨by unfold r64; decide, rfl⟩ dX12_stillOf_0 rfl ?_
  refine g_lstore (pc' := 3) dX12_stillOf_1 rfl (by decide) ?_
  refine g_iconst (pc' := 4) (by unfold r32; decide) dX12_stillOf_3 rfl ?_
  refine g_istore (pc' := 6) dX12_stillOf_4 rfl (by decide) ?_
  obtain ⟨n6, h⟩ := h
  refine (SL_X12_stillOf_6  (fun x1 s2 h => ?_) n6 _ _ _ h).to ((sb_c rfl (sb_c rfl (sb_c rfl (sb_c rfl (sb_c rfl (sb_c rfl (sb_c rfl (sb_c rfl sb_n)))))))))
  · refine g_aload_n (pc' := 91) dX12_stillOf_90 rfl rfl ?_
    refine g_iconst (pc' := 92) (by unfold r32; decide) dX12_stillOf_91 rfl ?_
    refine g_putI (pc' := 95) dX12_stillOf_92 rfl fp_RX12_183 kd_69 rfl ?_
    refine g_sto (fun s3 es3 => ?_)
    have h := h s3 es3
    refine g_lload (pc' := 97) dX12_stillOf_95 rfl rfl ?_
    refine g_lconst (pc' := 98) (z := 1) ⟨by unfold r64; decide, rfl⟩ dX12_stillOf_97 rfl ?_
    refine g_iconst (pc' := 99) (by unfold r32; decide) dX12_stillOf_98 rfl ?_
    refine g_iload_n (pc' := 100) dX12_stillOf_99 rfl rfl ?_
    refine g_iconst (pc' := 101) (by unfold r32; decide) dX12_stillOf_100 rfl ?_
    refine g_iadd (pc' := 102) dX12_stillOf_101 rfl ?_
    refine g_imul (pc' := 103) dX12_stillOf_102 rfl ?_
    refine g_lshl (pc' := 104) dX12_stillOf_103 rfl ?_
    refine g_iload (pc' := 106) dX12_stillOf_104 rfl rfl ?_
    refine g_S3l (pc' := 109) dX12_stillOf_106 rfl ms_RX12_315 (by decide) (Nat.le_of_ble_eq_true rfl) (C_X12_part h) (fun r5 s4 h => ?_)
    exact g_lret dX12_stillOf_109 rfl h
def P_X12_still (v1 : Int) (v2 : Int) (v3 : Int) (v4 : Int) (v5 : Int) (s : Sto) (Q : Int → Sto → Prop) : Prop := (P_X12_find s (fun _ s1 => ((F_X12_in v1 0 16 s1 = 0 → Q (F_X12_no ((-2)) s1) s1) ∧ (¬ F_X12_in v1 0 16 s1 = 0 → ((F_X12_in v2 0 9 s1 = 0 → Q (F_X12_no ((-2)) s1) s1) ∧ (¬ F_X12_in v2 0 9 s1 = 0 → ((F_X12_isThing v3 s1 = 0 → Q (F_X12_no ((-2)) s1) s1) ∧ (¬ F_X12_isThing v3 s1 = 0 → ((F_X12_in v4 0 3 s1 = 0 → Q (F_X12_no ((-2)) s1) s1) ∧ (¬ F_X12_in v4 0 3 s1 = 0 → ((F_X12_isTwo v5 s1 = 0 → Q (F_X12_no ((-2)) s1) s1) ∧ (¬ F_X12_isTwo v5 s1 = 0 → (P_X12_stillOf v1 v2 v3 v4 v5 s1 (fun r14 s13 => Q r14 s13))))))))))))))
set_option maxRecDepth 100000 in
theorem C_X12_still {v1 : Int} {v2 : Int} {v3 : Int} {v4 : Int} {v5 : Int} {s : Sto} {Q : Int → Sto → Prop}  (h : P_X12_still v1 v2 v3 v4 v5 s Q) : sr_C yX12_still cX12_still 6 (some .long) 6 [vR 69, vI v1, vI v2, vI v3, vI v4, vI v5] s Q := by
  refine sr_C.of (by decide +kernel) (Nat.le_of_ble_eq_true rfl) ?_
  show sr_G RX12 cX12_still 6 (some .long) 6 0 [(0, vR 69), (1, vI v1), (2, vI v2), (3, vI v3), (4, vI v4), (5, vI v5)] [] s Q
  unfold P_X12_still at h
  refine g_aload_n (pc' := 1) dX12_still_0 rfl rfl ?_
  refine g_V0v (pc' := 4) dX12_still_1 rfl mv_RX12_230 kd_69 (by decide) (Nat.le_of_ble_eq_true rfl) (C_X12_find h) (fun s1 h => ?_)
  refine g_iload_n (pc' := 5) dX12_still_4 rfl rfl ?_
  refine g_i2l (pc' := 6) dX12_still_5 rfl ?_
  refine g_lconst (pc' := 7) (z := 0) ⟨by unfold r64; decide, rfl⟩ dX12_still_6 rfl ?_
  refine g_ldc2 (pc' := 10) (z := 16) (by unfold r64; decide) kc_RX12_319 dX12_still_7 rfl ?_
  refine g_S3z (pc' := 13) dX12_still_10 rfl ms_RX12_76 (by decide) (Nat.le_of_ble_eq_true rfl) C_X12_in (sr_purb (fun hb3 => ?_))
  refine g_if_eq (pc' := 16) (tgt := 71) dX12_still_13 rfl rfl (fun c4 => ?_) (fun c4 => ?_)
  · have h := h.1 c4
    refine g_bipush (pc' := 73) ⟨by unfold r32; decide, rfl⟩ dX12_still_71 rfl ?_
    refine g_S1l (pc' := 76) dX12_still_73 rfl ms_RX12_325 (by decide) (Nat.le_of_ble_eq_true rfl) C_X12_no (sr_pur ?_)
    exact g_lret dX12_still_76 rfl h
  · have h := h.2 c4
    refine g_iload_n (pc' := 17) dX12_still_16 rfl rfl ?_
    refine g_i2l (pc' := 18) dX12_still_17 rfl ?_
    refine g_lconst (pc' := 19) (z := 0) ⟨by unfold r64; decide, rfl⟩ dX12_still_18 rfl ?_
    refine g_ldc2 (pc' := 22) (z := 9) (by unfold r64; decide) kc_RX12_163 dX12_still_19 rfl ?_
    refine g_S3z (pc' := 25) dX12_still_22 rfl ms_RX12_76 (by decide) (Nat.le_of_ble_eq_true rfl) C_X12_in (sr_purb (fun hb5 => ?_))
    refine g_if_eq (pc' := 28) (tgt := 71) dX12_still_25 rfl rfl (fun c6 => ?_) (fun c6 => ?_)
    · have h := h.1 c6
      refine g_bipush (pc' := 73) ⟨by unfold r32; decide, rfl⟩ dX12_still_71 rfl ?_
      refine g_S1l (pc' := 76) dX12_still_73 rfl ms_RX12_325 (by decide) (Nat.le_of_ble_eq_true rfl) C_X12_no (sr_pur ?_)
      exact g_lret dX12_still_76 rfl h
    · have h := h.2 c6
      refine g_aload_n (pc' := 29) dX12_still_28 rfl rfl ?_
      refine g_iload_n (pc' := 30) dX12_still_29 rfl rfl ?_
      refine g_V1z (pc' := 33) dX12_still_30 rfl mv_RX12_152 kd_69 (by decide) (Nat.le_of_ble_eq_true rfl) C_X12_isThing (sr_purb (fun hb7 => ?_))
      refine g_if_eq (pc' := 36) (tgt := 71) dX12_still_33 rfl rfl (fun c8 => ?_) (fun c8 => ?_)
      · have h := h.1 c8
        refine g_bipush (pc' := 73) ⟨by unfold r32; decide, rfl⟩ dX12_still_71 rfl ?_
        refine g_S1l (pc' := 76) dX12_still_73 rfl ms_RX12_325 (by decide) (Nat.le_of_ble_eq_true rfl) C_X12_no (sr_pur ?_)
        exact g_lret dX12_still_76 rfl h
      · have h := h.2 c8
        refine g_iload (pc' := 38) dX12_still_36 rfl rfl ?_
        refine g_i2l (pc' := 39) dX12_still_38 rfl ?_
        refine g_lconst (pc' := 40) (z := 0) ⟨by unfold r64; decide, rfl⟩ dX12_still_39 rfl ?_
        refine g_ldc2 (pc' := 43) (z := 3) (by unfold r64; decide) kc_RX12_83 dX12_still_40 rfl ?_
        refine g_S3z (pc' := 46) dX12_still_43 rfl ms_RX12_76 (by decide) (Nat.le_of_ble_eq_true rfl) C_X12_in (sr_purb (fun hb9 => ?_))
        refine g_if_eq (pc' := 49) (tgt := 71) dX12_still_46 rfl rfl (fun c10 => ?_) (fun c10 => ?_)
        · have h := h.1 c10
          refine g_bipush (pc' := 73) ⟨by unfold r32; decide, rfl⟩ dX12_still_71 rfl ?_
          refine g_S1l (pc' := 76) dX12_still_73 rfl ms_RX12_325 (by decide) (Nat.le_of_ble_eq_true rfl) C_X12_no (sr_pur ?_)
          exact g_lret dX12_still_76 rfl h
        · have h := h.2 c10
          refine g_iload (pc' := 51) dX12_still_49 rfl rfl ?_
          refine g_S1z (pc' := 54) dX12_still_51 rfl ms_RX12_242 (by decide) (Nat.le_of_ble_eq_true rfl) C_X12_isTwo (sr_purb (fun hb11 => ?_))
          refine g_if_eq (pc' := 57) (tgt := 71) dX12_still_54 rfl rfl (fun c12 => ?_) (fun c12 => ?_)
          · have h := h.1 c12
            refine g_bipush (pc' := 73) ⟨by unfold r32; decide, rfl⟩ dX12_still_71 rfl ?_
            refine g_S1l (pc' := 76) dX12_still_73 rfl ms_RX12_325 (by decide) (Nat.le_of_ble_eq_true rfl) C_X12_no (sr_pur ?_)
            exact g_lret dX12_still_76 rfl h
          · have h := h.2 c12
            refine g_aload_n (pc' := 58) dX12_still_57 rfl rfl ?_
            refine g_iload_n (pc' := 59) dX12_still_58 rfl rfl ?_
            refine g_iload_n (pc' := 60) dX12_still_59 rfl rfl ?_
            refine g_iload_n (pc' := 61) dX12_still_60 rfl rfl ?_
            refine g_iload (pc' := 63) dX12_still_61 rfl rfl ?_
            refine g_iload (pc' := 65) dX12_still_63 rfl rfl ?_
            refine g_V5l (pc' := 68) dX12_still_65 rfl mv_RX12_321 kd_69 (by decide) (Nat.le_of_ble_eq_true rfl) (C_X12_stillOf h) (fun r14 s13 h => ?_)
            refine g_goto (pc' := 76) dX12_still_68 rfl ?_
            exact g_lret dX12_still_76 rfl h
def F_X12_lot (v1 : Int) (s : Sto) : Int := w32 ((iUshr (up s 69 30 (w32 ((w32 (1103515245 * (s 69 30))) + 12345)) 69 30) 16).tmod v1)
def S_X12_lot (v1 : Int) (s : Sto) : Sto := up s 69 30 (w32 ((w32 (1103515245 * (s 69 30))) + 12345))
def O_X12_lot (v1 : Int) (s : Sto) : Prop := (v1 ≠ 0 ∧ True)
set_option maxRecDepth 100000 in
theorem C_X12_lot {v1 : Int} {s : Sto}  (h : O_X12_lot v1 s) : sr_C yX12_lot cX12_lot 2 (some .int) 0 [vR 69, vI v1] s (fun r s' => r = F_X12_lot v1 s ∧ s' = S_X12_lot v1 s) := by
  refine sr_C.of (by decide +kernel) (Nat.le_of_ble_eq_true rfl) ?_
  show sr_G RX12 cX12_lot 2 (some .int) 0 0 [(0, vR 69), (1, vI v1)] [] s (fun r s' => r = F_X12_lot v1 s ∧ s' = S_X12_lot v1 s)
  unfold O_X12_lot at h
  refine g_aload_n (pc' := 1) dX12_lot_0 rfl rfl ?_
  refine g_ldcw (pc' := 4) (z := 1103515245) (by unfold r32; decide) kc_RX12_329 dX12_lot_1 rfl ?_
  refine g_aload_n (pc' := 5) dX12_lot_4 rfl rfl ?_
  refine g_getI (pc' := 8) dX12_lot_5 rfl fl_RX12_330 kd_69 (Or.inl rfl) ?_
  refine g_imul (pc' := 9) dX12_lot_8 rfl ?_
  refine g_sipush (pc' := 12) ⟨by unfold r32; decide, rfl⟩ dX12_lot_9 rfl ?_
  refine g_iadd (pc' := 13) dX12_lot_12 rfl ?_
  refine g_putI (pc' := 16) dX12_lot_13 rfl fp_RX12_330 kd_69 rfl ?_
  refine g_aload_n (pc' := 17) dX12_lot_16 rfl rfl ?_
  refine g_getI (pc' := 20) dX12_lot_17 rfl fl_RX12_330 kd_69 (Or.inl rfl) ?_
  refine g_bipush (pc' := 22) ⟨by unfold r32; decide, rfl⟩ dX12_lot_20 rfl ?_
  refine g_iushr (pc' := 23) dX12_lot_22 rfl ?_
  refine g_iload_n (pc' := 24) dX12_lot_23 rfl rfl ?_
  obtain ⟨ob1, h⟩ := h
  refine g_irem (pc' := 25) dX12_lot_24 rfl ob1 ?_
  exact g_iret dX12_lot_25 rfl ⟨rfl, rfl⟩
def L_X12_eveningOf_9 (v1 : Int) (v2 : Int) (v3 : Int) (v4 : Int) (K36 : Sto → Prop) : Nat → Int → Sto → Prop
  | 0, _, _ => False
  | n + 1, v5, s => ((40 ≤ v5 → K36 s) ∧ (¬ 40 ≤ v5 → (inb v5 40 ∧ (inb v5 40 ∧ (∀ s4 : Sto, s4 = up s 89 v5.toNat (s 79 v5.toNat) → L_X12_eveningOf_9 v1 v2 v3 v4 K36 n (w32 (v5 + 1)) s4)))))
set_option maxRecDepth 100000 in
theorem SL_X12_eveningOf_9 {v1 : Int} {v2 : Int} {v3 : Int} {v4 : Int} {K36 : Sto → Prop} {Q : Int → Sto → Prop}  (hK36 : ∀ s, K36 s → sr_G RX12 cX12_eveningOf 8 (some .int) 5 36 [(0, vR 69), (1, vI v1), (2, vI v2), (3, vI v3), (4, vI v4)] [] s Q) : ∀ n v5 s, L_X12_eveningOf_9 v1 v2 v3 v4 K36 n v5 s → sr_G RX12 cX12_eveningOf 8 (some .int) 5 9 [(0, vR 69), (1, vI v1), (2, vI v2), (3, vI v3), (4, vI v4), (5, vI v5)] [] s Q := by
  intro n
  induction n with
  | zero => intro v5 s h; exact h.elim
  | succ n ih =>
    intro v5 s h
    unfold L_X12_eveningOf_9 at h
    refine g_iload (pc' := 11) dX12_eveningOf_9 rfl rfl ?_
    refine g_bipush (pc' := 13) ⟨by unfold r32; decide, rfl⟩ dX12_eveningOf_11 rfl ?_
    refine g_ic_ge (pc' := 16) (tgt := 36) dX12_eveningOf_13 rfl rfl (fun c1 => ?_) (fun c1 => ?_)
    · have h := h.1 c1
      exact (hK36 _ h).to ((sb_c rfl (sb_c rfl (sb_c rfl (sb_c rfl (sb_c rfl sb_n))))))
    · have h := h.2 c1
      refine g_aload_n (pc' := 17) dX12_eveningOf_16 rfl rfl ?_
      refine g_getR (pc' := 20) (r := 89) dX12_eveningOf_17 rfl fl_RX12_67 kd_69 rfl rf_69_31 ?_
      refine g_iload (pc' := 22) dX12_eveningOf_20 rfl rfl ?_
      refine g_aload_n (pc' := 23) dX12_eveningOf_22 rfl rfl ?_
      refine g_getR (pc' := 26) (r := 79) dX12_eveningOf_23 rfl fl_RX12_37 kd_69 rfl rf_69_15 ?_
      refine g_iload (pc' := 28) dX12_eveningOf_26 rfl rfl ?_
      obtain ⟨ob2, h⟩ := h
      refine g_iald (pc' := 29) dX12_eveningOf_28 rfl kd_79 ob2 ?_
      obtain ⟨ob3, h⟩ := h
      refine g_iast (pc' := 30) dX12_eveningOf_29 rfl kd_89 ob3 ?_
      refine g_sto (fun s4 es4 => ?_)
      have h := h s4 es4
      refine g_iinc (pc' := 33) dX12_eveningOf_30 rfl rfl (by decide) ?_
      refine g_goto (pc' := 9) dX12_eveningOf_33 rfl ?_
      exact (ih _ _ h).to ((sb_c rfl (sb_c rfl (sb_c rfl (sb_c rfl (sb_c rfl (sb_c rfl sb_n)))))))
def L_X12_eveningOf_49 (v2 : Int) (v3 : Int) (v4 : Int) (K104 : Sto → Prop) : Nat → Int → Sto → Prop
  | 0, _, _ => False
  | n + 1, v5, s => ((v2 ≤ v5 → K104 s) ∧ (¬ v2 ≤ v5 → ((s 69 7 ≤ 0 → K104 s) ∧ (¬ s 69 7 ≤ 0 → (O_X12_lot (s 69 7) s ∧ (∀ s4 : Sto, s4 = S_X12_lot (s 69 7) s → (∀ x5 : Int, x5 = F_X12_lot (s 69 7) s → (O_X12_lot 4 s4 ∧ (∀ s7 : Sto, s7 = S_X12_lot 4 s4 → (∀ x8 : Int, x8 = F_X12_lot 4 s4 → (O_X12_lot 9 s7 ∧ (∀ s10 : Sto, s10 = S_X12_lot 9 s7 → (O_X12_puts v5 x5 x8 (w32 ((F_X12_lot 9 s7) + 1)) 0 s10 ∧ (∀ s12 : Sto, s12 = S_X12_puts v5 x5 x8 (w32 ((F_X12_lot 9 s7) + 1)) 0 s10 → L_X12_eveningOf_49 v2 v3 v4 K104 n (w32 (v5 + 1)) s12))))))))))))))
set_option maxRecDepth 100000 in
theorem SL_X12_eveningOf_49 {v2 : Int} {v3 : Int} {v4 : Int} {K104 : Sto → Prop} {Q : Int → Sto → Prop}  (hK104 : ∀ s, K104 s → sr_G RX12 cX12_eveningOf 8 (some .int) 5 104 [(0, vR 69), (3, vI v3), (4, vI v4)] [] s Q) : ∀ n v5 s, L_X12_eveningOf_49 v2 v3 v4 K104 n v5 s → sr_G RX12 cX12_eveningOf 8 (some .int) 5 49 [(0, vR 69), (2, vI v2), (3, vI v3), (4, vI v4), (5, vI v5)] [] s Q := by
  intro n
  induction n with
  | zero => intro v5 s h; exact h.elim
  | succ n ih =>
    intro v5 s h
    unfold L_X12_eveningOf_49 at h
    refine g_iload (pc' := 51) dX12_eveningOf_49 rfl rfl ?_
    refine g_iload_n (pc' := 52) dX12_eveningOf_51 rfl rfl ?_
    refine g_ic_ge (pc' := 55) (tgt := 104) dX12_eveningOf_52 rfl rfl (fun c1 => ?_) (fun c1 => ?_)
    · have h := h.1 c1
      exact (hK104 _ h).to ((sb_c rfl (sb_c rfl (sb_c rfl sb_n))))
    · have h := h.2 c1
      refine g_aload_n (pc' := 56) dX12_eveningOf_55 rfl rfl ?_
      refine g_getI (pc' := 59) dX12_eveningOf_56 rfl fl_RX12_109 kd_69 (Or.inl rfl) ?_
      refine g_if_le (pc' := 62) (tgt := 104) dX12_eveningOf_59 rfl rfl (fun c2 => ?_) (fun c2 => ?_)
      · have h := h.1 c2
        exact (hK104 _ h).to ((sb_c rfl (sb_c rfl (sb_c rfl sb_n))))
      · have h := h.2 c2
        refine g_aload_n (pc' := 63) dX12_eveningOf_62 rfl rfl ?_
        refine g_aload_n (pc' := 64) dX12_eveningOf_63 rfl rfl ?_
        refine g_getI (pc' := 67) dX12_eveningOf_64 rfl fl_RX12_109 kd_69 (Or.inl rfl) ?_
        obtain ⟨ob3, h⟩ := h
        refine g_V1i (pc' := 70) dX12_eveningOf_67 rfl mv_RX12_333 kd_69 (by decide) (Nat.le_of_ble_eq_true rfl) (C_X12_lot ob3) (sr_pur ?_)
        refine g_sto (fun s4 es4 => ?_)
        have h := h s4 es4
        refine g_topI (fun x5 ex5 => ?_)
        have h := h x5 ex5
        refine g_istore (pc' := 72) dX12_eveningOf_70 rfl (by decide) ?_
        refine g_aload_n (pc' := 73) dX12_eveningOf_72 rfl rfl ?_
        refine g_iconst (pc' := 74) (by unfold r32; decide) dX12_eveningOf_73 rfl ?_
        obtain ⟨ob6, h⟩ := h
        refine g_V1i (pc' := 77) dX12_eveningOf_74 rfl mv_RX12_333 kd_69 (by decide) (Nat.le_of_ble_eq_true rfl) (C_X12_lot ob6) (sr_pur ?_)
        refine g_sto (fun s7 es7 => ?_)
        have h := h s7 es7
        refine g_topI (fun x8 ex8 => ?_)
        have h := h x8 ex8
        refine g_istore (pc' := 79) dX12_eveningOf_77 rfl (by decide) ?_
        refine g_aload_n (pc' := 80) dX12_eveningOf_79 rfl rfl ?_
        refine g_iload (pc' := 82) dX12_eveningOf_80 rfl rfl ?_
        refine g_iload (pc' := 84) dX12_eveningOf_82 rfl rfl ?_
        refine g_iload (pc' := 86) dX12_eveningOf_84 rfl rfl ?_
        refine g_aload_n (pc' := 87) dX12_eveningOf_86 rfl rfl ?_
        refine g_bipush (pc' := 89) ⟨by unfold r32; decide, rfl⟩ dX12_eveningOf_87 rfl ?_
        obtain ⟨ob9, h⟩ := h
        refine g_V1i (pc' := 92) dX12_eveningOf_89 rfl mv_RX12_333 kd_69 (by decide) (Nat.le_of_ble_eq_true rfl) (C_X12_lot ob9) (sr_pur ?_)
        refine g_sto (fun s10 es10 => ?_)
        have h := h s10 es10
        refine g_iconst (pc' := 93) (by unfold r32; decide) dX12_eveningOf_92 rfl ?_
        refine g_iadd (pc' := 94) dX12_eveningOf_93 rfl ?_
        refine g_iconst (pc' := 95) (by unfold r32; decide) dX12_eveningOf_94 rfl ?_
        obtain ⟨ob11, h⟩ := h
        refine g_V5v (pc' := 98) dX12_eveningOf_95 rfl mv_RX12_165 kd_69 (by decide) (Nat.le_of_ble_eq_true rfl) (C_X12_puts ob11) (sr_purv ?_)
        refine g_sto (fun s12 es12 => ?_)
        have h := h s12 es12
        refine g_iinc (pc' := 101) dX12_eveningOf_98 rfl rfl (by decide) ?_
        refine g_goto (pc' := 49) dX12_eveningOf_101 rfl ?_
        exact (ih _ _ h).to ((sb_c rfl (sb_c rfl (sb_c rfl (sb_c rfl (sb_c rfl sb_n))))))
def L_X12_eveningOf_114 (v3 : Int) (v4 : Int) (s : Sto) (K150 : Int → Prop) : Nat → Int → Int → Prop
  | 0, _, _ => False
  | n + 1, v5, v6 => ((s 69 14 ≤ v6 → K150 v5) ∧ (¬ s 69 14 ≤ v6 → (inb v6 8 ∧ (∀ x3 : Int, x3 = (if s 80 v6.toNat = 3 then 1 else 0) → (∀ x5 : Int, x5 = w32 (v5 + x3) → L_X12_eveningOf_114 v3 v4 s K150 n x5 (w32 (v6 + 1)))))))
set_option maxRecDepth 100000 in
theorem SL_X12_eveningOf_114 {v3 : Int} {v4 : Int} {s : Sto} {K150 : Int → Prop} {Q : Int → Sto → Prop}  (hK150 : ∀ v5, K150 v5 → sr_G RX12 cX12_eveningOf 8 (some .int) 5 150 [(0, vR 69), (3, vI v3), (4, vI v4), (5, vI v5)] [] s Q) : ∀ n v5 v6, L_X12_eveningOf_114 v3 v4 s K150 n v5 v6 → sr_G RX12 cX12_eveningOf 8 (some .int) 5 114 [(0, vR 69), (3, vI v3), (4, vI v4), (5, vI v5), (6, vI v6)] [] s Q := by
  intro n
  induction n with
  | zero => intro v5 v6 h; exact h.elim
  | succ n ih =>
    intro v5 v6 h
    unfold L_X12_eveningOf_114 at h
    refine g_iload (pc' := 116) dX12_eveningOf_114 rfl rfl ?_
    refine g_aload_n (pc' := 117) dX12_eveningOf_116 rfl rfl ?_
    refine g_getI (pc' := 120) dX12_eveningOf_117 rfl fl_RX12_160 kd_69 (Or.inl rfl) ?_
    refine g_ic_ge (pc' := 123) (tgt := 150) dX12_eveningOf_120 rfl rfl (fun c1 => ?_) (fun c1 => ?_)
    · have h := h.1 c1
      exact (hK150 _ h).to ((sb_c rfl (sb_c rfl (sb_c rfl (sb_c rfl sb_n)))))
    · have h := h.2 c1
      refine g_iload (pc' := 125) dX12_eveningOf_123 rfl rfl ?_
      refine g_aload_n (pc' := 126) dX12_eveningOf_125 rfl rfl ?_
      refine g_getR (pc' := 129) (r := 80) dX12_eveningOf_126 rfl fl_RX12_40 kd_69 rfl rf_69_16 ?_
      refine g_iload (pc' := 131) dX12_eveningOf_129 rfl rfl ?_
      obtain ⟨ob2, h⟩ := h
      refine g_iald (pc' := 132) dX12_eveningOf_131 rfl kd_80 ob2 ?_
      refine g_iconst (pc' := 133) (by unfold r32; decide) dX12_eveningOf_132 rfl ?_
      refine sr_join (v := (if s 80 v6.toNat = 3 then 1 else 0)) (GG := fun x3 => sr_G RX12 cX12_eveningOf 8 (some .int) 5 141 [(0, vR 69), (3, vI v3), (4, vI v4), (6, vI v6)] [vI x3, vI v5] s Q) (fun x3 ex3 => ?_) (fun hj => ?_)
      · have h := h x3 ex3
        refine g_iadd (pc' := 142) dX12_eveningOf_141 rfl ?_
        refine g_topI (fun x5 ex5 => ?_)
        have h := h x5 ex5
        refine g_istore (pc' := 144) dX12_eveningOf_142 rfl (by decide) ?_
        refine g_iinc (pc' := 147) dX12_eveningOf_144 rfl rfl (by decide) ?_
        refine g_goto (pc' := 114) dX12_eveningOf_147 rfl ?_
        exact (ih _ _ h).to ((sb_c rfl (sb_c rfl (sb_c rfl (sb_c rfl (sb_c rfl sb_n))))))
      · refine g_ic_ne (pc' := 136) (tgt := 140) dX12_eveningOf_133 rfl rfl (fun c4 => ?_) (fun c4 => ?_)
        · refine g_iconst (pc' := 141) (by unfold r32; decide) dX12_eveningOf_140 rfl ?_
          exact (hj _ (by rw [if_neg c4])).to ((sb_c rfl (sb_c rfl (sb_c rfl (sb_c rfl sb_n)))))
        · refine g_iconst (pc' := 137) (by unfold r32; decide) dX12_eveningOf_136 rfl ?_
          refine g_goto (pc' := 141) dX12_eveningOf_137 rfl ?_
          exact (hj _ (by rw [if_pos c4])).to ((sb_c rfl (sb_c rfl (sb_c rfl (sb_c rfl sb_n)))))
def L_X12_eveningOf_159 (v3 : Int) (v4 : Int) (v5 : Int) (v6 : Int) (K186 : Sto → Prop) : Nat → Int → Sto → Prop
  | 0, _, _ => False
  | n + 1, v7, s => ((40 ≤ v7 → K186 s) ∧ (¬ 40 ≤ v7 → (inb v7 40 ∧ (inb v7 40 ∧ (∀ s4 : Sto, s4 = up s 79 v7.toNat (s 89 v7.toNat) → L_X12_eveningOf_159 v3 v4 v5 v6 K186 n (w32 (v7 + 1)) s4)))))
set_option maxRecDepth 100000 in
theorem SL_X12_eveningOf_159 {v3 : Int} {v4 : Int} {v5 : Int} {v6 : Int} {K186 : Sto → Prop} {Q : Int → Sto → Prop}  (hK186 : ∀ s, K186 s → sr_G RX12 cX12_eveningOf 8 (some .int) 5 186 [(0, vR 69), (3, vI v3), (4, vI v4), (5, vI v5), (6, vI v6)] [] s Q) : ∀ n v7 s, L_X12_eveningOf_159 v3 v4 v5 v6 K186 n v7 s → sr_G RX12 cX12_eveningOf 8 (some .int) 5 159 [(0, vR 69), (3, vI v3), (4, vI v4), (5, vI v5), (6, vI v6), (7, vI v7)] [] s Q := by
  intro n
  induction n with
  | zero => intro v7 s h; exact h.elim
  | succ n ih =>
    intro v7 s h
    unfold L_X12_eveningOf_159 at h
    refine g_iload (pc' := 161) dX12_eveningOf_159 rfl rfl ?_
    refine g_bipush (pc' := 163) ⟨by unfold r32; decide, rfl⟩ dX12_eveningOf_161 rfl ?_
    refine g_ic_ge (pc' := 166) (tgt := 186) dX12_eveningOf_163 rfl rfl (fun c1 => ?_) (fun c1 => ?_)
    · have h := h.1 c1
      exact (hK186 _ h).to ((sb_c rfl (sb_c rfl (sb_c rfl (sb_c rfl (sb_c rfl sb_n))))))
    · have h := h.2 c1
      refine g_aload_n (pc' := 167) dX12_eveningOf_166 rfl rfl ?_
      refine g_getR (pc' := 170) (r := 79) dX12_eveningOf_167 rfl fl_RX12_37 kd_69 rfl rf_69_15 ?_
      refine g_iload (pc' := 172) dX12_eveningOf_170 rfl rfl ?_
      refine g_aload_n (pc' := 173) dX12_eveningOf_172 rfl rfl ?_
      refine g_getR (pc' := 176) (r := 89) dX12_eveningOf_173 rfl fl_RX12_67 kd_69 rfl rf_69_31 ?_
      refine g_iload (pc' := 178) dX12_eveningOf_176 rfl rfl ?_
      obtain ⟨ob2, h⟩ := h
      refine g_iald (pc' := 179) dX12_eveningOf_178 rfl kd_89 ob2 ?_
      obtain ⟨ob3, h⟩ := h
      refine g_iast (pc' := 180) dX12_eveningOf_179 rfl kd_79 ob3 ?_
      refine g_sto (fun s4 es4 => ?_)
      have h := h s4 es4
      refine g_iinc (pc' := 183) dX12_eveningOf_180 rfl rfl (by decide) ?_
      refine g_goto (pc' := 159) dX12_eveningOf_183 rfl ?_
      exact (ih _ _ h).to ((sb_c rfl (sb_c rfl (sb_c rfl (sb_c rfl (sb_c rfl (sb_c rfl sb_n)))))))
def P_X12_eveningOf (v1 : Int) (v2 : Int) (v3 : Int) (s : Sto) (Q : Int → Sto → Prop) : Prop := (∀ x1 : Int, x1 = s 69 14 → (∃ n17, L_X12_eveningOf_9 v1 v2 v3 x1 (fun s2 => (∀ s3 : Sto, s3 = up s2 69 30 v1 → (∀ s4 : Sto, s4 = up s3 69 14 0 → (∃ n16, L_X12_eveningOf_49 v2 v3 x1 (fun s5 => (P_X12_lives s5 (fun _ s6 => (∃ n15, L_X12_eveningOf_114 v3 x1 s6 (fun x8 => (P_X12_allBound s6 (fun r10 s9 => (∃ n14, L_X12_eveningOf_159 v3 x1 x8 r10 (fun s11 => (∀ s12 : Sto, s12 = up s11 69 14 x1 → ((v3 = 0 → Q r10 s12) ∧ (¬ v3 = 0 → Q x8 s12)))) n14 0 s9)))) n15 0 0)))) n16 0 s4)))) n17 0 s))
set_option maxRecDepth 100000 in
theorem C_X12_eveningOf {v1 : Int} {v2 : Int} {v3 : Int} {s : Sto} {Q : Int → Sto → Prop}  (h : P_X12_eveningOf v1 v2 v3 s Q) : sr_C yX12_eveningOf cX12_eveningOf 8 (some .int) 5 [vR 69, vI v1, vI v2, vI v3] s Q := by
  refine sr_C.of (by decide +kernel) (Nat.le_of_ble_eq_true rfl) ?_
  show sr_G RX12 cX12_eveningOf 8 (some .int) 5 0 [(0, vR 69), (1, vI v1), (2, vI v2), (3, vI v3)] [] s Q
  unfold P_X12_eveningOf at h
  refine g_aload_n (pc' := 1) dX12_eveningOf_0 rfl rfl ?_
  refine g_getI (pc' := 4) dX12_eveningOf_1 rfl fl_RX12_160 kd_69 (Or.inl rfl) ?_
  refine g_topI (fun x1 ex1 => ?_)
  have h := h x1 ex1
  refine g_istore (pc' := 6) dX12_eveningOf_4 rfl (by decide) ?_
  refine g_iconst (pc' := 7) (by unfold r32; decide) dX12_eveningOf_6 rfl ?_
  refine g_istore (pc' := 9) dX12_eveningOf_7 rfl (by decide) ?_
  obtain ⟨n17, h⟩ := h
  refine (SL_X12_eveningOf_9  (fun s2 h => ?_) n17 _ _ h).to ((sb_c rfl (sb_c rfl (sb_c rfl (sb_c rfl (sb_c rfl (sb_c rfl sb_n)))))))
  · refine g_aload_n (pc' := 37) dX12_eveningOf_36 rfl rfl ?_
    refine g_iload_n (pc' := 38) dX12_eveningOf_37 rfl rfl ?_
    refine g_putI (pc' := 41) dX12_eveningOf_38 rfl fp_RX12_330 kd_69 rfl ?_
    refine g_sto (fun s3 es3 => ?_)
    have h := h s3 es3
    refine g_aload_n (pc' := 42) dX12_eveningOf_41 rfl rfl ?_
    refine g_iconst (pc' := 43) (by unfold r32; decide) dX12_eveningOf_42 rfl ?_
    refine g_putI (pc' := 46) dX12_eveningOf_43 rfl fp_RX12_160 kd_69 rfl ?_
    refine g_sto (fun s4 es4 => ?_)
    have h := h s4 es4
    refine g_iconst (pc' := 47) (by unfold r32; decide) dX12_eveningOf_46 rfl ?_
    refine g_istore (pc' := 49) dX12_eveningOf_47 rfl (by decide) ?_
    obtain ⟨n16, h⟩ := h
    refine (SL_X12_eveningOf_49  (fun s5 h => ?_) n16 _ _ h).to ((sb_c rfl (sb_c rfl (sb_c rfl (sb_c rfl (sb_c rfl sb_n))))))
    · refine g_aload_n (pc' := 105) dX12_eveningOf_104 rfl rfl ?_
      refine g_V0v (pc' := 108) dX12_eveningOf_105 rfl mv_RX12_227 kd_69 (by decide) (Nat.le_of_ble_eq_true rfl) (C_X12_lives h) (fun s6 h => ?_)
      refine g_iconst (pc' := 109) (by unfold r32; decide) dX12_eveningOf_108 rfl ?_
      refine g_istore (pc' := 111) dX12_eveningOf_109 rfl (by decide) ?_
      refine g_iconst (pc' := 112) (by unfold r32; decide) dX12_eveningOf_111 rfl ?_
      refine g_istore (pc' := 114) dX12_eveningOf_112 rfl (by decide) ?_
      obtain ⟨n15, h⟩ := h
      refine (SL_X12_eveningOf_114  (fun x8 h => ?_) n15 _ _ h).to ((sb_c rfl (sb_c rfl (sb_c rfl (sb_c rfl (sb_c rfl sb_n))))))
      · refine g_aload_n (pc' := 151) dX12_eveningOf_150 rfl rfl ?_
        refine g_V0i (pc' := 154) dX12_eveningOf_151 rfl mv_RX12_266 kd_69 (by decide) (Nat.le_of_ble_eq_true rfl) (C_X12_allBound h) (fun r10 s9 h => ?_)
        refine g_istore (pc' := 156) dX12_eveningOf_154 rfl (by decide) ?_
        refine g_iconst (pc' := 157) (by unfold r32; decide) dX12_eveningOf_156 rfl ?_
        refine g_istore (pc' := 159) dX12_eveningOf_157 rfl (by decide) ?_
        obtain ⟨n14, h⟩ := h
        refine (SL_X12_eveningOf_159  (fun s11 h => ?_) n14 _ _ h).to ((sb_c rfl (sb_c rfl (sb_c rfl (sb_c rfl (sb_c rfl (sb_c rfl sb_n)))))))
        · refine g_aload_n (pc' := 187) dX12_eveningOf_186 rfl rfl ?_
          refine g_iload (pc' := 189) dX12_eveningOf_187 rfl rfl ?_
          refine g_putI (pc' := 192) dX12_eveningOf_189 rfl fp_RX12_160 kd_69 rfl ?_
          refine g_sto (fun s12 es12 => ?_)
          have h := h s12 es12
          refine g_iload_n (pc' := 193) dX12_eveningOf_192 rfl rfl ?_
          refine g_if_ne (pc' := 196) (tgt := 201) dX12_eveningOf_193 rfl rfl (fun c13 => ?_) (fun c13 => ?_)
          · have h := h.2 c13
            refine g_iload (pc' := 203) dX12_eveningOf_201 rfl rfl ?_
            exact g_iret dX12_eveningOf_203 rfl h
          · have h := h.1 c13
            refine g_iload (pc' := 198) dX12_eveningOf_196 rfl rfl ?_
            refine g_goto (pc' := 203) dX12_eveningOf_198 rfl ?_
            exact g_iret dX12_eveningOf_203 rfl h
