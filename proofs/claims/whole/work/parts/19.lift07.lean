def L_X12_readsValley_24 (v1 : Int) (K65 : Int → Sto → Prop) (K125 : Int → Sto → Prop) (K172 : Int → Sto → Prop) : Nat → Int → Int → Int → Sto → Prop
  | 0, _, _, _, _ => False
  | n + 1, v2, v3, v4, s => ((v1 ≤ v4 → K172 v3 s) ∧ (¬ v1 ≤ v4 → (inb v4 126 ∧ (∀ x3 : Int, x3 = s 74 v4.toNat → ((x3 = 59 → ((v3 = 0 → K65 v4 s) ∧ (¬ v3 = 0 → ((s 69 8 ≤ 0 → (∀ s7 : Sto, s7 = up s 69 8 v3 → L_X12_readsValley_24 v1 K65 K125 K172 n (w32 (v2 + 1)) 0 (w32 (v4 + 1)) s7)) ∧ (¬ s 69 8 ≤ 0 → ((s 69 8 ≤ v3 → (∀ s9 : Sto, s9 = up s 69 8 v3 → L_X12_readsValley_24 v1 K65 K125 K172 n (w32 (v2 + 1)) 0 (w32 (v4 + 1)) s9)) ∧ (¬ s 69 8 ≤ v3 → K65 v4 s))))))) ∧ (¬ x3 = 59 → ((x3 = 46 → ((v2 = 6 → K125 v4 s) ∧ (¬ v2 = 6 → (∀ x12 : Int, x12 = (if s 69 8 = 0 then 6 else s 69 8) → ((v3 = x12 → K125 v4 s) ∧ (¬ v3 = x12 → (∀ x15 : Int, x15 = (if x3 = 35 then 1 else 0) → (inb (s 69 7) 36 ∧ (∀ s18 : Sto, s18 = up s 76 (s 69 7).toNat x15 → (∀ s19 : Sto, s19 = up s18 69 7 (w32 ((s18 69 7) + 1)) → L_X12_readsValley_24 v1 K65 K125 K172 n v2 (w32 (v3 + 1)) (w32 (v4 + 1)) s19)))))))))) ∧ (¬ x3 = 46 → ((x3 = 35 → ((v2 = 6 → K125 v4 s) ∧ (¬ v2 = 6 → (∀ x22 : Int, x22 = (if s 69 8 = 0 then 6 else s 69 8) → ((v3 = x22 → K125 v4 s) ∧ (¬ v3 = x22 → (inb (s 69 7) 36 ∧ (∀ s27 : Sto, s27 = up s 76 (s 69 7).toNat 1 → (∀ s28 : Sto, s28 = up s27 69 7 (w32 ((s27 69 7) + 1)) → L_X12_readsValley_24 v1 K65 K125 K172 n v2 (w32 (v3 + 1)) (w32 (v4 + 1)) s28))))))))) ∧ (¬ x3 = 35 → K125 v4 s))))))))))
set_option maxRecDepth 100000 in
theorem SL_X12_readsValley_24 {v1 : Int} {K65 : Int → Sto → Prop} {K125 : Int → Sto → Prop} {K172 : Int → Sto → Prop} {Q : Int → Sto → Prop}  (hK65 : ∀ v4 s, K65 v4 s → sr_G RX12 cX12_readsValley 6 (some .int) 1 65 [(0, vR 69), (4, vI v4)] [] s Q) (hK125 : ∀ v4 s, K125 v4 s → sr_G RX12 cX12_readsValley 6 (some .int) 1 125 [(0, vR 69), (4, vI v4)] [] s Q) (hK172 : ∀ v3 s, K172 v3 s → sr_G RX12 cX12_readsValley 6 (some .int) 1 172 [(0, vR 69), (1, vI v1), (3, vI v3)] [] s Q) : ∀ n v2 v3 v4 s, L_X12_readsValley_24 v1 K65 K125 K172 n v2 v3 v4 s → sr_G RX12 cX12_readsValley 6 (some .int) 1 24 [(0, vR 69), (1, vI v1), (2, vI v2), (3, vI v3), (4, vI v4)] [] s Q := by
  intro n
  induction n with
  | zero => intro v2 v3 v4 s h; exact h.elim
  | succ n ih =>
    intro v2 v3 v4 s h
    unfold L_X12_readsValley_24 at h
    refine g_iload (pc' := 26) dX12_readsValley_24 rfl rfl ?_
    refine g_iload_n (pc' := 27) dX12_readsValley_26 rfl rfl ?_
    refine g_ic_ge (pc' := 30) (tgt := 172) dX12_readsValley_27 rfl rfl (fun c1 => ?_) (fun c1 => ?_)
    · have h := h.1 c1
      exact (hK172 _ _ h).to ((sb_c rfl (sb_c rfl (sb_c rfl sb_n))))
    · have h := h.2 c1
      refine g_aload_n (pc' := 31) dX12_readsValley_30 rfl rfl ?_
      refine g_getR (pc' := 34) (r := 74) dX12_readsValley_31 rfl fl_RX12_22 kd_69 rfl rf_69_5 ?_
      refine g_iload (pc' := 36) dX12_readsValley_34 rfl rfl ?_
      obtain ⟨ob2, h⟩ := h
      refine g_iald (pc' := 37) dX12_readsValley_36 rfl kd_74 ob2 ?_
      refine g_topI (fun x3 ex3 => ?_)
      have h := h x3 ex3
      refine g_istore (pc' := 39) dX12_readsValley_37 rfl (by decide) ?_
      refine g_iload (pc' := 41) dX12_readsValley_39 rfl rfl ?_
      refine g_bipush (pc' := 43) ⟨by unfold r32; decide, rfl⟩ dX12_readsValley_41 rfl ?_
      refine g_ic_ne (pc' := 46) (tgt := 85) dX12_readsValley_43 rfl rfl (fun c4 => ?_) (fun c4 => ?_)
      · have h := h.2 c4
        refine g_iload (pc' := 87) dX12_readsValley_85 rfl rfl ?_
        refine g_bipush (pc' := 89) ⟨by unfold r32; decide, rfl⟩ dX12_readsValley_87 rfl ?_
        refine g_ic_eq (pc' := 92) (tgt := 99) dX12_readsValley_89 rfl rfl (fun c10 => ?_) (fun c10 => ?_)
        · have h := h.1 c10
          refine g_iload_n (pc' := 100) dX12_readsValley_99 rfl rfl ?_
          refine g_bipush (pc' := 102) ⟨by unfold r32; decide, rfl⟩ dX12_readsValley_100 rfl ?_
          refine g_ic_eq (pc' := 105) (tgt := 125) dX12_readsValley_102 rfl rfl (fun c11 => ?_) (fun c11 => ?_)
          · have h := h.1 c11
            exact (hK125 _ _ h).to ((sb_c rfl (sb_c rfl sb_n)))
          · have h := h.2 c11
            refine g_iload_n (pc' := 106) dX12_readsValley_105 rfl rfl ?_
            refine g_aload_n (pc' := 107) dX12_readsValley_106 rfl rfl ?_
            refine g_getI (pc' := 110) dX12_readsValley_107 rfl fl_RX12_112 kd_69 (Or.inl rfl) ?_
            refine sr_join (v := (if s 69 8 = 0 then 6 else s 69 8)) (GG := fun x12 => sr_G RX12 cX12_readsValley 6 (some .int) 1 122 [(0, vR 69), (1, vI v1), (2, vI v2), (3, vI v3), (4, vI v4), (5, vI x3)] [vI x12, vI v3] s Q) (fun x12 ex12 => ?_) (fun hj => ?_)
            · have h := h x12 ex12
              refine g_ic_ne (pc' := 125) (tgt := 132) dX12_readsValley_122 rfl rfl (fun c14 => ?_) (fun c14 => ?_)
              · have h := h.2 c14
                refine g_aload_n (pc' := 133) dX12_readsValley_132 rfl rfl ?_
                refine g_getR (pc' := 136) (r := 76) dX12_readsValley_133 rfl fl_RX12_28 kd_69 rfl rf_69_9 ?_
                refine g_aload_n (pc' := 137) dX12_readsValley_136 rfl rfl ?_
                refine g_getI (pc' := 140) dX12_readsValley_137 rfl fl_RX12_109 kd_69 (Or.inl rfl) ?_
                refine g_iload (pc' := 142) dX12_readsValley_140 rfl rfl ?_
                refine g_bipush (pc' := 144) ⟨by unfold r32; decide, rfl⟩ dX12_readsValley_142 rfl ?_
                refine sr_join (v := (if x3 = 35 then 1 else 0)) (GG := fun x15 => sr_G RX12 cX12_readsValley 6 (some .int) 1 152 [(0, vR 69), (1, vI v1), (2, vI v2), (3, vI v3), (4, vI v4)] [vI x15, vI (s 69 7), vR 76] s Q) (fun x15 ex15 => ?_) (fun hj => ?_)
                · have h := h x15 ex15
                  obtain ⟨ob17, h⟩ := h
                  refine g_iast (pc' := 153) dX12_readsValley_152 rfl kd_76 ob17 ?_
                  refine g_sto (fun s18 es18 => ?_)
                  have h := h s18 es18
                  refine g_aload_n (pc' := 154) dX12_readsValley_153 rfl rfl ?_
                  refine g_dupR (pc' := 155) dX12_readsValley_154 rfl ?_
                  refine g_getI (pc' := 158) dX12_readsValley_155 rfl fl_RX12_109 kd_69 (Or.inl rfl) ?_
                  refine g_iconst (pc' := 159) (by unfold r32; decide) dX12_readsValley_158 rfl ?_
                  refine g_iadd (pc' := 160) dX12_readsValley_159 rfl ?_
                  refine g_putI (pc' := 163) dX12_readsValley_160 rfl fp_RX12_109 kd_69 rfl ?_
                  refine g_sto (fun s19 es19 => ?_)
                  have h := h s19 es19
                  refine g_iinc (pc' := 166) dX12_readsValley_163 rfl rfl (by decide) ?_
                  refine g_iinc (pc' := 169) dX12_readsValley_166 rfl rfl (by decide) ?_
                  refine g_goto (pc' := 24) dX12_readsValley_169 rfl ?_
                  exact (ih _ _ _ _ h).to ((sb_c rfl (sb_c rfl (sb_c rfl (sb_c rfl (sb_c rfl sb_n))))))
                · refine g_ic_ne (pc' := 147) (tgt := 151) dX12_readsValley_144 rfl rfl (fun c16 => ?_) (fun c16 => ?_)
                  · refine g_iconst (pc' := 152) (by unfold r32; decide) dX12_readsValley_151 rfl ?_
                    exact (hj _ (by rw [if_neg c16])).to ((sb_c rfl (sb_c rfl (sb_c rfl (sb_c rfl (sb_c rfl sb_n))))))
                  · refine g_iconst (pc' := 148) (by unfold r32; decide) dX12_readsValley_147 rfl ?_
                    refine g_goto (pc' := 152) dX12_readsValley_148 rfl ?_
                    exact (hj _ (by rw [if_pos c16])).to ((sb_c rfl (sb_c rfl (sb_c rfl (sb_c rfl (sb_c rfl sb_n))))))
              · have h := h.1 c14
                exact (hK125 _ _ h).to ((sb_c rfl (sb_c rfl sb_n)))
            · refine g_if_ne (pc' := 113) (tgt := 118) dX12_readsValley_110 rfl rfl (fun c13 => ?_) (fun c13 => ?_)
              · refine g_aload_n (pc' := 119) dX12_readsValley_118 rfl rfl ?_
                refine g_getI (pc' := 122) dX12_readsValley_119 rfl fl_RX12_112 kd_69 (Or.inl rfl) ?_
                exact (hj _ (by rw [if_neg c13])).to ((sb_c rfl (sb_c rfl (sb_c rfl (sb_c rfl (sb_c rfl (sb_c rfl sb_n)))))))
              · refine g_bipush (pc' := 115) ⟨by unfold r32; decide, rfl⟩ dX12_readsValley_113 rfl ?_
                refine g_goto (pc' := 122) dX12_readsValley_115 rfl ?_
                exact (hj _ (by rw [if_pos c13])).to ((sb_c rfl (sb_c rfl (sb_c rfl (sb_c rfl (sb_c rfl (sb_c rfl sb_n)))))))
        · have h := h.2 c10
          refine g_iload (pc' := 94) dX12_readsValley_92 rfl rfl ?_
          refine g_bipush (pc' := 96) ⟨by unfold r32; decide, rfl⟩ dX12_readsValley_94 rfl ?_
          refine g_ic_ne (pc' := 99) (tgt := 125) dX12_readsValley_96 rfl rfl (fun c20 => ?_) (fun c20 => ?_)
          · have h := h.2 c20
            exact (hK125 _ _ h).to ((sb_c rfl (sb_c rfl sb_n)))
          · have h := h.1 c20
            refine g_iload_n (pc' := 100) dX12_readsValley_99 rfl rfl ?_
            refine g_bipush (pc' := 102) ⟨by unfold r32; decide, rfl⟩ dX12_readsValley_100 rfl ?_
            refine g_ic_eq (pc' := 105) (tgt := 125) dX12_readsValley_102 rfl rfl (fun c21 => ?_) (fun c21 => ?_)
            · have h := h.1 c21
              exact (hK125 _ _ h).to ((sb_c rfl (sb_c rfl sb_n)))
            · have h := h.2 c21
              refine g_iload_n (pc' := 106) dX12_readsValley_105 rfl rfl ?_
              refine g_aload_n (pc' := 107) dX12_readsValley_106 rfl rfl ?_
              refine g_getI (pc' := 110) dX12_readsValley_107 rfl fl_RX12_112 kd_69 (Or.inl rfl) ?_
              refine sr_join (v := (if s 69 8 = 0 then 6 else s 69 8)) (GG := fun x22 => sr_G RX12 cX12_readsValley 6 (some .int) 1 122 [(0, vR 69), (1, vI v1), (2, vI v2), (3, vI v3), (4, vI v4), (5, vI x3)] [vI x22, vI v3] s Q) (fun x22 ex22 => ?_) (fun hj => ?_)
              · have h := h x22 ex22
                refine g_ic_ne (pc' := 125) (tgt := 132) dX12_readsValley_122 rfl rfl (fun c24 => ?_) (fun c24 => ?_)
                · have h := h.2 c24
                  refine g_aload_n (pc' := 133) dX12_readsValley_132 rfl rfl ?_
                  refine g_getR (pc' := 136) (r := 76) dX12_readsValley_133 rfl fl_RX12_28 kd_69 rfl rf_69_9 ?_
                  refine g_aload_n (pc' := 137) dX12_readsValley_136 rfl rfl ?_
                  refine g_getI (pc' := 140) dX12_readsValley_137 rfl fl_RX12_109 kd_69 (Or.inl rfl) ?_
                  refine g_iload (pc' := 142) dX12_readsValley_140 rfl rfl ?_
                  refine g_bipush (pc' := 144) ⟨by unfold r32; decide, rfl⟩ dX12_readsValley_142 rfl ?_
                  refine g_ic_ne (pc' := 147) (tgt := 151) dX12_readsValley_144 rfl rfl (fun c25 => absurd c20 c25) (fun c25 => ?_)
                  refine g_iconst (pc' := 148) (by unfold r32; decide) dX12_readsValley_147 rfl ?_
                  refine g_goto (pc' := 152) dX12_readsValley_148 rfl ?_
                  obtain ⟨ob26, h⟩ := h
                  refine g_iast (pc' := 153) dX12_readsValley_152 rfl kd_76 ob26 ?_
                  refine g_sto (fun s27 es27 => ?_)
                  have h := h s27 es27
                  refine g_aload_n (pc' := 154) dX12_readsValley_153 rfl rfl ?_
                  refine g_dupR (pc' := 155) dX12_readsValley_154 rfl ?_
                  refine g_getI (pc' := 158) dX12_readsValley_155 rfl fl_RX12_109 kd_69 (Or.inl rfl) ?_
                  refine g_iconst (pc' := 159) (by unfold r32; decide) dX12_readsValley_158 rfl ?_
                  refine g_iadd (pc' := 160) dX12_readsValley_159 rfl ?_
                  refine g_putI (pc' := 163) dX12_readsValley_160 rfl fp_RX12_109 kd_69 rfl ?_
                  refine g_sto (fun s28 es28 => ?_)
                  have h := h s28 es28
                  refine g_iinc (pc' := 166) dX12_readsValley_163 rfl rfl (by decide) ?_
                  refine g_iinc (pc' := 169) dX12_readsValley_166 rfl rfl (by decide) ?_
                  refine g_goto (pc' := 24) dX12_readsValley_169 rfl ?_
                  exact (ih _ _ _ _ h).to ((sb_c rfl (sb_c rfl (sb_c rfl (sb_c rfl (sb_c rfl sb_n))))))
                · have h := h.1 c24
                  exact (hK125 _ _ h).to ((sb_c rfl (sb_c rfl sb_n)))
              · refine g_if_ne (pc' := 113) (tgt := 118) dX12_readsValley_110 rfl rfl (fun c23 => ?_) (fun c23 => ?_)
                · refine g_aload_n (pc' := 119) dX12_readsValley_118 rfl rfl ?_
                  refine g_getI (pc' := 122) dX12_readsValley_119 rfl fl_RX12_112 kd_69 (Or.inl rfl) ?_
                  exact (hj _ (by rw [if_neg c23])).to ((sb_c rfl (sb_c rfl (sb_c rfl (sb_c rfl (sb_c rfl (sb_c rfl sb_n)))))))
                · refine g_bipush (pc' := 115) ⟨by unfold r32; decide, rfl⟩ dX12_readsValley_113 rfl ?_
                  refine g_goto (pc' := 122) dX12_readsValley_115 rfl ?_
                  exact (hj _ (by rw [if_pos c23])).to ((sb_c rfl (sb_c rfl (sb_c rfl (sb_c rfl (sb_c rfl (sb_c rfl sb_n)))))))
      · have h := h.1 c4
        refine g_iload_n (pc' := 47) dX12_readsValley_46 rfl rfl ?_
        refine g_if_eq (pc' := 50) (tgt := 65) dX12_readsValley_47 rfl rfl (fun c5 => ?_) (fun c5 => ?_)
        · have h := h.1 c5
          exact (hK65 _ _ h).to ((sb_c rfl (sb_c rfl sb_n)))
        · have h := h.2 c5
          refine g_aload_n (pc' := 51) dX12_readsValley_50 rfl rfl ?_
          refine g_getI (pc' := 54) dX12_readsValley_51 rfl fl_RX12_112 kd_69 (Or.inl rfl) ?_
          refine g_if_le (pc' := 57) (tgt := 72) dX12_readsValley_54 rfl rfl (fun c6 => ?_) (fun c6 => ?_)
          · have h := h.1 c6
            refine g_aload_n (pc' := 73) dX12_readsValley_72 rfl rfl ?_
            refine g_iload_n (pc' := 74) dX12_readsValley_73 rfl rfl ?_
            refine g_putI (pc' := 77) dX12_readsValley_74 rfl fp_RX12_112 kd_69 rfl ?_
            refine g_sto (fun s7 es7 => ?_)
            have h := h s7 es7
            refine g_iconst (pc' := 78) (by unfold r32; decide) dX12_readsValley_77 rfl ?_
            refine g_istore_n (pc' := 79) dX12_readsValley_78 rfl (by decide) ?_
            refine g_iinc (pc' := 82) dX12_readsValley_79 rfl rfl (by decide) ?_
            refine g_goto (pc' := 166) dX12_readsValley_82 rfl ?_
            refine g_iinc (pc' := 169) dX12_readsValley_166 rfl rfl (by decide) ?_
            refine g_goto (pc' := 24) dX12_readsValley_169 rfl ?_
            exact (ih _ _ _ _ h).to ((sb_c rfl (sb_c rfl (sb_c rfl (sb_c rfl (sb_c rfl sb_n))))))
          · have h := h.2 c6
            refine g_iload_n (pc' := 58) dX12_readsValley_57 rfl rfl ?_
            refine g_aload_n (pc' := 59) dX12_readsValley_58 rfl rfl ?_
            refine g_getI (pc' := 62) dX12_readsValley_59 rfl fl_RX12_112 kd_69 (Or.inl rfl) ?_
            refine g_ic_ge (pc' := 65) (tgt := 72) dX12_readsValley_62 rfl rfl (fun c8 => ?_) (fun c8 => ?_)
            · have h := h.1 c8
              refine g_aload_n (pc' := 73) dX12_readsValley_72 rfl rfl ?_
              refine g_iload_n (pc' := 74) dX12_readsValley_73 rfl rfl ?_
              refine g_putI (pc' := 77) dX12_readsValley_74 rfl fp_RX12_112 kd_69 rfl ?_
              refine g_sto (fun s9 es9 => ?_)
              have h := h s9 es9
              refine g_iconst (pc' := 78) (by unfold r32; decide) dX12_readsValley_77 rfl ?_
              refine g_istore_n (pc' := 79) dX12_readsValley_78 rfl (by decide) ?_
              refine g_iinc (pc' := 82) dX12_readsValley_79 rfl rfl (by decide) ?_
              refine g_goto (pc' := 166) dX12_readsValley_82 rfl ?_
              refine g_iinc (pc' := 169) dX12_readsValley_166 rfl rfl (by decide) ?_
              refine g_goto (pc' := 24) dX12_readsValley_169 rfl ?_
              exact (ih _ _ _ _ h).to ((sb_c rfl (sb_c rfl (sb_c rfl (sb_c rfl (sb_c rfl sb_n))))))
            · have h := h.2 c8
              exact (hK65 _ _ h).to ((sb_c rfl (sb_c rfl sb_n)))
def P_X12_readsValley (s : Sto) (Q : Int → Sto → Prop) : Prop := (∀ s1 : Sto, s1 = up s 69 7 0 → (∀ s2 : Sto, s2 = up s1 69 8 0 → (inb 0 3 ∧ (∀ x4 : Int, x4 = s2 75 (0 : Int).toNat → (∃ n22, L_X12_readsValley_24 x4 (fun x5 s6 => (∀ s7 : Sto, s7 = S_X12_torn x5 s6 → Q (F_X12_torn x5 s6) s7)) (fun x8 s9 => (∀ s10 : Sto, s10 = S_X12_torn x8 s9 → Q (F_X12_torn x8 s9) s10)) (fun x11 s12 => ((x4 ≤ 0 → (∀ s15 : Sto, s15 = up s12 69 8 0 → Q ((-1)) s15)) ∧ (¬ x4 ≤ 0 → ((x11 = 0 → (∀ s17 : Sto, s17 = S_X12_torn x4 s12 → Q (F_X12_torn x4 s12) s17)) ∧ (¬ x11 = 0 → ((s12 69 8 ≤ x11 → (∀ s20 : Sto, s20 = up s12 69 8 x11 → Q ((-1)) s20)) ∧ (¬ s12 69 8 ≤ x11 → (∀ s21 : Sto, s21 = S_X12_torn x4 s12 → Q (F_X12_torn x4 s12) s21)))))))) n22 0 0 0 s2)))))
set_option maxRecDepth 100000 in
theorem C_X12_readsValley {s : Sto} {Q : Int → Sto → Prop}  (h : P_X12_readsValley s Q) : sr_C yX12_readsValley cX12_readsValley 6 (some .int) 1 [vR 69] s Q := by
  refine sr_C.of (by decide +kernel) (Nat.le_of_ble_eq_true rfl) ?_
  show sr_G RX12 cX12_readsValley 6 (some .int) 1 0 [(0, vR 69)] [] s Q
  unfold P_X12_readsValley at h
  refine g_aload_n (pc' := 1) dX12_readsValley_0 rfl rfl ?_
  refine g_iconst (pc' := 2) (by unfold r32; decide) dX12_readsValley_1 rfl ?_
  refine g_putI (pc' := 5) dX12_readsValley_2 rfl fp_RX12_109 kd_69 rfl ?_
  refine g_sto (fun s1 es1 => ?_)
  have h := h s1 es1
  refine g_aload_n (pc' := 6) dX12_readsValley_5 rfl rfl ?_
  refine g_iconst (pc' := 7) (by unfold r32; decide) dX12_readsValley_6 rfl ?_
  refine g_putI (pc' := 10) dX12_readsValley_7 rfl fp_RX12_112 kd_69 rfl ?_
  refine g_sto (fun s2 es2 => ?_)
  have h := h s2 es2
  refine g_aload_n (pc' := 11) dX12_readsValley_10 rfl rfl ?_
  refine g_getR (pc' := 14) (r := 75) dX12_readsValley_11 rfl fl_RX12_25 kd_69 rfl rf_69_6 ?_
  refine g_iconst (pc' := 15) (by unfold r32; decide) dX12_readsValley_14 rfl ?_
  obtain ⟨ob3, h⟩ := h
  refine g_iald (pc' := 16) dX12_readsValley_15 rfl kd_75 ob3 ?_
  refine g_topI (fun x4 ex4 => ?_)
  have h := h x4 ex4
  refine g_istore_n (pc' := 17) dX12_readsValley_16 rfl (by decide) ?_
  refine g_iconst (pc' := 18) (by unfold r32; decide) dX12_readsValley_17 rfl ?_
  refine g_istore_n (pc' := 19) dX12_readsValley_18 rfl (by decide) ?_
  refine g_iconst (pc' := 20) (by unfold r32; decide) dX12_readsValley_19 rfl ?_
  refine g_istore_n (pc' := 21) dX12_readsValley_20 rfl (by decide) ?_
  refine g_iconst (pc' := 22) (by unfold r32; decide) dX12_readsValley_21 rfl ?_
  refine g_istore (pc' := 24) dX12_readsValley_22 rfl (by decide) ?_
  obtain ⟨n22, h⟩ := h
  refine (SL_X12_readsValley_24  (fun x5 s6 h => ?_) (fun x8 s9 h => ?_) (fun x11 s12 h => ?_) n22 _ _ _ _ h).to ((sb_c rfl (sb_c rfl (sb_c rfl (sb_c rfl (sb_c rfl sb_n))))))
  · refine g_aload_n (pc' := 66) dX12_readsValley_65 rfl rfl ?_
    refine g_iload (pc' := 68) dX12_readsValley_66 rfl rfl ?_
    refine g_V1i (pc' := 71) dX12_readsValley_68 rfl mv_RX12_115 kd_69 (by decide) (Nat.le_of_ble_eq_true rfl) C_X12_torn (sr_pur ?_)
    refine g_sto (fun s7 es7 => ?_)
    have h := h s7 es7
    exact g_iret dX12_readsValley_71 rfl h
  · refine g_aload_n (pc' := 126) dX12_readsValley_125 rfl rfl ?_
    refine g_iload (pc' := 128) dX12_readsValley_126 rfl rfl ?_
    refine g_V1i (pc' := 131) dX12_readsValley_128 rfl mv_RX12_115 kd_69 (by decide) (Nat.le_of_ble_eq_true rfl) C_X12_torn (sr_pur ?_)
    refine g_sto (fun s10 es10 => ?_)
    have h := h s10 es10
    exact g_iret dX12_readsValley_131 rfl h
  · refine g_iload_n (pc' := 173) dX12_readsValley_172 rfl rfl ?_
    refine g_if_le (pc' := 176) (tgt := 194) dX12_readsValley_173 rfl rfl (fun c13 => ?_) (fun c13 => ?_)
    · have h := h.1 c13
      refine g_aload_n (pc' := 195) dX12_readsValley_194 rfl rfl ?_
      refine g_iload_n (pc' := 196) dX12_readsValley_195 rfl rfl ?_
      refine g_if_le (pc' := 199) (tgt := 203) dX12_readsValley_196 rfl rfl (fun c14 => ?_) (fun c14 => absurd c13 c14)
      refine g_iconst (pc' := 204) (by unfold r32; decide) dX12_readsValley_203 rfl ?_
      refine g_putI (pc' := 207) dX12_readsValley_204 rfl fp_RX12_112 kd_69 rfl ?_
      refine g_sto (fun s15 es15 => ?_)
      have h := h s15 es15
      refine g_iconst (pc' := 208) (by unfold r32; decide) dX12_readsValley_207 rfl ?_
      exact g_iret dX12_readsValley_208 rfl h
    · have h := h.2 c13
      refine g_iload_n (pc' := 177) dX12_readsValley_176 rfl rfl ?_
      refine g_if_eq (pc' := 180) (tgt := 188) dX12_readsValley_177 rfl rfl (fun c16 => ?_) (fun c16 => ?_)
      · have h := h.1 c16
        refine g_aload_n (pc' := 189) dX12_readsValley_188 rfl rfl ?_
        refine g_iload_n (pc' := 190) dX12_readsValley_189 rfl rfl ?_
        refine g_V1i (pc' := 193) dX12_readsValley_190 rfl mv_RX12_115 kd_69 (by decide) (Nat.le_of_ble_eq_true rfl) C_X12_torn (sr_pur ?_)
        refine g_sto (fun s17 es17 => ?_)
        have h := h s17 es17
        exact g_iret dX12_readsValley_193 rfl h
      · have h := h.2 c16
        refine g_iload_n (pc' := 181) dX12_readsValley_180 rfl rfl ?_
        refine g_aload_n (pc' := 182) dX12_readsValley_181 rfl rfl ?_
        refine g_getI (pc' := 185) dX12_readsValley_182 rfl fl_RX12_112 kd_69 (Or.inl rfl) ?_
        refine g_ic_ge (pc' := 188) (tgt := 194) dX12_readsValley_185 rfl rfl (fun c18 => ?_) (fun c18 => ?_)
        · have h := h.1 c18
          refine g_aload_n (pc' := 195) dX12_readsValley_194 rfl rfl ?_
          refine g_iload_n (pc' := 196) dX12_readsValley_195 rfl rfl ?_
          refine g_if_le (pc' := 199) (tgt := 203) dX12_readsValley_196 rfl rfl (fun c19 => absurd c19 c13) (fun c19 => ?_)
          refine g_iload_n (pc' := 200) dX12_readsValley_199 rfl rfl ?_
          refine g_goto (pc' := 204) dX12_readsValley_200 rfl ?_
          refine g_putI (pc' := 207) dX12_readsValley_204 rfl fp_RX12_112 kd_69 rfl ?_
          refine g_sto (fun s20 es20 => ?_)
          have h := h s20 es20
          refine g_iconst (pc' := 208) (by unfold r32; decide) dX12_readsValley_207 rfl ?_
          exact g_iret dX12_readsValley_208 rfl h
        · have h := h.2 c18
          refine g_aload_n (pc' := 189) dX12_readsValley_188 rfl rfl ?_
          refine g_iload_n (pc' := 190) dX12_readsValley_189 rfl rfl ?_
          refine g_V1i (pc' := 193) dX12_readsValley_190 rfl mv_RX12_115 kd_69 (by decide) (Nat.le_of_ble_eq_true rfl) C_X12_torn (sr_pur ?_)
          refine g_sto (fun s21 es21 => ?_)
          have h := h s21 es21
          exact g_iret dX12_readsValley_193 rfl h
def F_X12_thingOf (v0 : Int) (v1 : Int) (s : Sto) : Int := (if v0 = 0 then (if F_X12_in v1 48 51 s = 0 then (-9) else w32 (v1 - 48)) else (if v0 = 1 then (if F_X12_in v1 48 57 s = 0 then (-9) else w32 (v1 - 48)) else (if v0 = 2 then (if F_X12_in v1 49 57 s = 0 then (-9) else w32 (v1 - 48)) else (if v0 = 3 then (if v1 = 112 then 0 else (if v1 = 98 then 1 else (if v1 = 116 then 2 else (-9)))) else (if v1 = 59 then 0 else (-9))))))
set_option maxRecDepth 100000 in
theorem C_X12_thingOf {v0 : Int} {v1 : Int} {s : Sto}   : sr_C yX12_thingOf cX12_thingOf 2 (some .int) 1 [vI v0, vI v1] s (fun r s' => r = F_X12_thingOf v0 v1 s ∧ s' = s) := by
  refine sr_C.of (by decide +kernel) (Nat.le_of_ble_eq_true rfl) ?_
  show sr_G RX12 cX12_thingOf 2 (some .int) 1 0 [(0, vI v0), (1, vI v1)] [] s (fun r s' => r = F_X12_thingOf v0 v1 s ∧ s' = s)
  refine g_iload_n (pc' := 1) dX12_thingOf_0 rfl rfl ?_
  by_cases c1 : v0 = 0
  · refine g_tabIn (pc' := 32) dX12_thingOf_1 (le_of_le_of_eq (by decide) c1.symm) (le_of_eq_of_le c1 (by decide)) (by rw [c1]; rfl) rfl ?_
    refine g_iload_n (pc' := 33) dX12_thingOf_32 rfl rfl ?_
    refine g_i2l (pc' := 34) dX12_thingOf_33 rfl ?_
    refine g_ldc2 (pc' := 37) (z := 48) (by unfold r64; decide) kc_RX12_118 dX12_thingOf_34 rfl ?_
    refine g_ldc2 (pc' := 40) (z := 51) (by unfold r64; decide) kc_RX12_120 dX12_thingOf_37 rfl ?_
    refine g_S3z (pc' := 43) dX12_thingOf_40 rfl ms_RX12_76 (by decide) (Nat.le_of_ble_eq_true rfl) C_X12_in (sr_purb (fun hb2 => ?_))
    refine g_if_eq (pc' := 46) (tgt := 53) dX12_thingOf_43 rfl rfl (fun c3 => ?_) (fun c3 => ?_)
    · refine g_bipush (pc' := 55) ⟨by unfold r32; decide, rfl⟩ dX12_thingOf_53 rfl ?_
      exact g_iret dX12_thingOf_55 rfl ⟨(by simp only [F_X12_thingOf, if_pos c1, if_pos c3]), rfl⟩
    · refine g_iload_n (pc' := 47) dX12_thingOf_46 rfl rfl ?_
      refine g_bipush (pc' := 49) ⟨by unfold r32; decide, rfl⟩ dX12_thingOf_47 rfl ?_
      refine g_isub (pc' := 50) dX12_thingOf_49 rfl ?_
      refine g_goto (pc' := 55) dX12_thingOf_50 rfl ?_
      exact g_iret dX12_thingOf_55 rfl ⟨(by simp only [F_X12_thingOf, if_pos c1, if_neg c3]), rfl⟩
  · by_cases c4 : v0 = 1
    · refine g_tabIn (pc' := 56) dX12_thingOf_1 (le_of_le_of_eq (by decide) c4.symm) (le_of_eq_of_le c4 (by decide)) (by rw [c4]; rfl) rfl ?_
      refine g_iload_n (pc' := 57) dX12_thingOf_56 rfl rfl ?_
      refine g_i2l (pc' := 58) dX12_thingOf_57 rfl ?_
      refine g_ldc2 (pc' := 61) (z := 48) (by unfold r64; decide) kc_RX12_118 dX12_thingOf_58 rfl ?_
      refine g_ldc2 (pc' := 64) (z := 57) (by unfold r64; decide) kc_RX12_122 dX12_thingOf_61 rfl ?_
      refine g_S3z (pc' := 67) dX12_thingOf_64 rfl ms_RX12_76 (by decide) (Nat.le_of_ble_eq_true rfl) C_X12_in (sr_purb (fun hb5 => ?_))
      refine g_if_eq (pc' := 70) (tgt := 77) dX12_thingOf_67 rfl rfl (fun c6 => ?_) (fun c6 => ?_)
      · refine g_bipush (pc' := 79) ⟨by unfold r32; decide, rfl⟩ dX12_thingOf_77 rfl ?_
        exact g_iret dX12_thingOf_79 rfl ⟨(by simp only [F_X12_thingOf, if_neg c1, if_pos c4, if_pos c6]), rfl⟩
      · refine g_iload_n (pc' := 71) dX12_thingOf_70 rfl rfl ?_
        refine g_bipush (pc' := 73) ⟨by unfold r32; decide, rfl⟩ dX12_thingOf_71 rfl ?_
        refine g_isub (pc' := 74) dX12_thingOf_73 rfl ?_
        refine g_goto (pc' := 79) dX12_thingOf_74 rfl ?_
        exact g_iret dX12_thingOf_79 rfl ⟨(by simp only [F_X12_thingOf, if_neg c1, if_pos c4, if_neg c6]), rfl⟩
    · by_cases c7 : v0 = 2
      · refine g_tabIn (pc' := 80) dX12_thingOf_1 (le_of_le_of_eq (by decide) c7.symm) (le_of_eq_of_le c7 (by decide)) (by rw [c7]; rfl) rfl ?_
        refine g_iload_n (pc' := 81) dX12_thingOf_80 rfl rfl ?_
        refine g_i2l (pc' := 82) dX12_thingOf_81 rfl ?_
        refine g_ldc2 (pc' := 85) (z := 49) (by unfold r64; decide) kc_RX12_124 dX12_thingOf_82 rfl ?_
        refine g_ldc2 (pc' := 88) (z := 57) (by unfold r64; decide) kc_RX12_122 dX12_thingOf_85 rfl ?_
        refine g_S3z (pc' := 91) dX12_thingOf_88 rfl ms_RX12_76 (by decide) (Nat.le_of_ble_eq_true rfl) C_X12_in (sr_purb (fun hb8 => ?_))
        refine g_if_eq (pc' := 94) (tgt := 101) dX12_thingOf_91 rfl rfl (fun c9 => ?_) (fun c9 => ?_)
        · refine g_bipush (pc' := 103) ⟨by unfold r32; decide, rfl⟩ dX12_thingOf_101 rfl ?_
          exact g_iret dX12_thingOf_103 rfl ⟨(by simp only [F_X12_thingOf, if_neg c1, if_neg c4, if_pos c7, if_pos c9]), rfl⟩
        · refine g_iload_n (pc' := 95) dX12_thingOf_94 rfl rfl ?_
          refine g_bipush (pc' := 97) ⟨by unfold r32; decide, rfl⟩ dX12_thingOf_95 rfl ?_
          refine g_isub (pc' := 98) dX12_thingOf_97 rfl ?_
          refine g_goto (pc' := 103) dX12_thingOf_98 rfl ?_
          exact g_iret dX12_thingOf_103 rfl ⟨(by simp only [F_X12_thingOf, if_neg c1, if_neg c4, if_pos c7, if_neg c9]), rfl⟩
      · by_cases c10 : v0 = 3
        · refine g_tabIn (pc' := 104) dX12_thingOf_1 (le_of_le_of_eq (by decide) c10.symm) (le_of_eq_of_le c10 (by decide)) (by rw [c10]; rfl) rfl ?_
          refine g_iload_n (pc' := 105) dX12_thingOf_104 rfl rfl ?_
          refine g_bipush (pc' := 107) ⟨by unfold r32; decide, rfl⟩ dX12_thingOf_105 rfl ?_
          refine g_ic_ne (pc' := 110) (tgt := 114) dX12_thingOf_107 rfl rfl (fun c11 => ?_) (fun c11 => ?_)
          · refine g_iload_n (pc' := 115) dX12_thingOf_114 rfl rfl ?_
            refine g_bipush (pc' := 117) ⟨by unfold r32; decide, rfl⟩ dX12_thingOf_115 rfl ?_
            refine g_ic_ne (pc' := 120) (tgt := 124) dX12_thingOf_117 rfl rfl (fun c12 => ?_) (fun c12 => ?_)
            · refine g_iload_n (pc' := 125) dX12_thingOf_124 rfl rfl ?_
              refine g_bipush (pc' := 127) ⟨by unfold r32; decide, rfl⟩ dX12_thingOf_125 rfl ?_
              refine g_ic_ne (pc' := 130) (tgt := 134) dX12_thingOf_127 rfl rfl (fun c13 => ?_) (fun c13 => ?_)
              · refine g_bipush (pc' := 136) ⟨by unfold r32; decide, rfl⟩ dX12_thingOf_134 rfl ?_
                exact g_iret dX12_thingOf_136 rfl ⟨(by simp only [F_X12_thingOf, if_neg c1, if_neg c4, if_neg c7, if_pos c10, if_neg c11, if_neg c12, if_neg c13]), rfl⟩
              · refine g_iconst (pc' := 131) (by unfold r32; decide) dX12_thingOf_130 rfl ?_
                refine g_goto (pc' := 136) dX12_thingOf_131 rfl ?_
                exact g_iret dX12_thingOf_136 rfl ⟨(by simp only [F_X12_thingOf, if_neg c1, if_neg c4, if_neg c7, if_pos c10, if_neg c11, if_neg c12, if_pos c13]), rfl⟩
            · refine g_iconst (pc' := 121) (by unfold r32; decide) dX12_thingOf_120 rfl ?_
              refine g_goto (pc' := 136) dX12_thingOf_121 rfl ?_
              exact g_iret dX12_thingOf_136 rfl ⟨(by simp only [F_X12_thingOf, if_neg c1, if_neg c4, if_neg c7, if_pos c10, if_neg c11, if_pos c12]), rfl⟩
          · refine g_iconst (pc' := 111) (by unfold r32; decide) dX12_thingOf_110 rfl ?_
            refine g_goto (pc' := 136) dX12_thingOf_111 rfl ?_
            exact g_iret dX12_thingOf_136 rfl ⟨(by simp only [F_X12_thingOf, if_neg c1, if_neg c4, if_neg c7, if_pos c10, if_pos c11]), rfl⟩
        · refine g_tabOut (pc' := 137) dX12_thingOf_1 (tout_0_3 c1 c4 c7 c10) rfl ?_
          refine g_iload_n (pc' := 138) dX12_thingOf_137 rfl rfl ?_
          refine g_bipush (pc' := 140) ⟨by unfold r32; decide, rfl⟩ dX12_thingOf_138 rfl ?_
          refine g_ic_ne (pc' := 143) (tgt := 147) dX12_thingOf_140 rfl rfl (fun c14 => ?_) (fun c14 => ?_)
          · refine g_bipush (pc' := 149) ⟨by unfold r32; decide, rfl⟩ dX12_thingOf_147 rfl ?_
            exact g_iret dX12_thingOf_149 rfl ⟨(by simp only [F_X12_thingOf, if_neg c1, if_neg c4, if_neg c7, if_neg c10, if_neg c14]), rfl⟩
          · refine g_iconst (pc' := 144) (by unfold r32; decide) dX12_thingOf_143 rfl ?_
            refine g_goto (pc' := 149) dX12_thingOf_144 rfl ?_
            exact g_iret dX12_thingOf_149 rfl ⟨(by simp only [F_X12_thingOf, if_neg c1, if_neg c4, if_neg c7, if_neg c10, if_pos c14]), rfl⟩
def L_X12_readsThings_14 (v1 : Int) (K45 : Int → Sto → Prop) (K149 : Sto → Prop) : Nat → Int → Sto → Prop
  | 0, _, _ => False
  | n + 1, v2, s => ((v1 ≤ v2 → K149 s) ∧ (¬ v1 ≤ v2 → (∀ x2 : Int, x2 = w32 (v2.tmod 5) → (inb (w32 (42 + v2)) 126 ∧ (∀ x4 : Int, x4 = F_X12_thingOf x2 (s 74 (w32 (42 + v2)).toNat) s → ((x4 = (-9) → K45 v2 s) ∧ (¬ x4 = (-9) → (∀ x6 : Int, x6 = w32 (3 * (w32 (v2.tdiv 5))) → ((x2 = 0 → (inb x6 24 ∧ (∀ s9 : Sto, s9 = up s 77 x6.toNat (w32 (10 * x4)) → L_X12_readsThings_14 v1 K45 K149 n (w32 (v2 + 1)) s9))) ∧ (¬ x2 = 0 → ((x2 = 1 → (inb x6 24 ∧ (inb x6 24 ∧ (∀ s13 : Sto, s13 = up s 77 x6.toNat (w32 ((s 77 x6.toNat) + x4)) → L_X12_readsThings_14 v1 K45 K149 n (w32 (v2 + 1)) s13)))) ∧ (¬ x2 = 1 → ((x2 = 2 → (inb (w32 (x6 + 1)) 24 ∧ (∀ s16 : Sto, s16 = up s 77 (w32 (x6 + 1)).toNat x4 → L_X12_readsThings_14 v1 K45 K149 n (w32 (v2 + 1)) s16))) ∧ (¬ x2 = 2 → ((x2 = 3 → (inb (w32 (x6 + 2)) 24 ∧ (∀ s19 : Sto, s19 = up s 77 (w32 (x6 + 2)).toNat x4 → (∀ s20 : Sto, s20 = up s19 69 10 (w32 ((s19 69 10) + 1)) → L_X12_readsThings_14 v1 K45 K149 n (w32 (v2 + 1)) s20)))) ∧ (¬ x2 = 3 → L_X12_readsThings_14 v1 K45 K149 n (w32 (v2 + 1)) s))))))))))))))))
set_option maxRecDepth 100000 in
theorem SL_X12_readsThings_14 {v1 : Int} {K45 : Int → Sto → Prop} {K149 : Sto → Prop} {Q : Int → Sto → Prop}  (hK45 : ∀ v2 s, K45 v2 s → sr_G RX12 cX12_readsThings 6 (some .int) 2 45 [(0, vR 69), (2, vI v2)] [] s Q) (hK149 : ∀ s, K149 s → sr_G RX12 cX12_readsThings 6 (some .int) 2 149 [(0, vR 69), (1, vI v1)] [] s Q) : ∀ n v2 s, L_X12_readsThings_14 v1 K45 K149 n v2 s → sr_G RX12 cX12_readsThings 6 (some .int) 2 14 [(0, vR 69), (1, vI v1), (2, vI v2)] [] s Q := by
  intro n
  induction n with
  | zero => intro v2 s h; exact h.elim
  | succ n ih =>
    intro v2 s h
    unfold L_X12_readsThings_14 at h
    refine g_iload_n (pc' := 15) dX12_readsThings_14 rfl rfl ?_
    refine g_iload_n (pc' := 16) dX12_readsThings_15 rfl rfl ?_
    refine g_ic_ge (pc' := 19) (tgt := 149) dX12_readsThings_16 rfl rfl (fun c1 => ?_) (fun c1 => ?_)
    · have h := h.1 c1
      exact (hK149 _ h).to ((sb_c rfl (sb_c rfl sb_n)))
    · have h := h.2 c1
      refine g_iload_n (pc' := 20) dX12_readsThings_19 rfl rfl ?_
      refine g_iconst (pc' := 21) (by unfold r32; decide) dX12_readsThings_20 rfl ?_
      refine g_irem (pc' := 22) dX12_readsThings_21 rfl (by decide) ?_
      refine g_topI (fun x2 ex2 => ?_)
      have h := h x2 ex2
      refine g_istore_n (pc' := 23) dX12_readsThings_22 rfl (by decide) ?_
      refine g_iload_n (pc' := 24) dX12_readsThings_23 rfl rfl ?_
      refine g_aload_n (pc' := 25) dX12_readsThings_24 rfl rfl ?_
      refine g_getR (pc' := 28) (r := 74) dX12_readsThings_25 rfl fl_RX12_22 kd_69 rfl rf_69_5 ?_
      refine g_bipush (pc' := 30) ⟨by unfold r32; decide, rfl⟩ dX12_readsThings_28 rfl ?_
      refine g_iload_n (pc' := 31) dX12_readsThings_30 rfl rfl ?_
      refine g_iadd (pc' := 32) dX12_readsThings_31 rfl ?_
      obtain ⟨ob3, h⟩ := h
      refine g_iald (pc' := 33) dX12_readsThings_32 rfl kd_74 ob3 ?_
      refine g_S2i (pc' := 36) dX12_readsThings_33 rfl ms_RX12_129 (by decide) (Nat.le_of_ble_eq_true rfl) C_X12_thingOf (sr_pur ?_)
      refine g_topI (fun x4 ex4 => ?_)
      have h := h x4 ex4
      refine g_istore (pc' := 38) dX12_readsThings_36 rfl (by decide) ?_
      refine g_iload (pc' := 40) dX12_readsThings_38 rfl rfl ?_
      refine g_bipush (pc' := 42) ⟨by unfold r32; decide, rfl⟩ dX12_readsThings_40 rfl ?_
      refine g_ic_ne (pc' := 45) (tgt := 52) dX12_readsThings_42 rfl rfl (fun c5 => ?_) (fun c5 => ?_)
      · have h := h.2 c5
        refine g_iconst (pc' := 53) (by unfold r32; decide) dX12_readsThings_52 rfl ?_
        refine g_iload_n (pc' := 54) dX12_readsThings_53 rfl rfl ?_
        refine g_iconst (pc' := 55) (by unfold r32; decide) dX12_readsThings_54 rfl ?_
        refine g_idiv (pc' := 56) dX12_readsThings_55 rfl (by decide) ?_
        refine g_imul (pc' := 57) dX12_readsThings_56 rfl ?_
        refine g_topI (fun x6 ex6 => ?_)
        have h := h x6 ex6
        refine g_istore (pc' := 59) dX12_readsThings_57 rfl (by decide) ?_
        refine g_iload_n (pc' := 60) dX12_readsThings_59 rfl rfl ?_
        refine g_if_ne (pc' := 63) (tgt := 78) dX12_readsThings_60 rfl rfl (fun c7 => ?_) (fun c7 => ?_)
        · have h := h.2 c7
          refine g_iload_n (pc' := 79) dX12_readsThings_78 rfl rfl ?_
          refine g_iconst (pc' := 80) (by unfold r32; decide) dX12_readsThings_79 rfl ?_
          refine g_ic_ne (pc' := 83) (tgt := 98) dX12_readsThings_80 rfl rfl (fun c10 => ?_) (fun c10 => ?_)
          · have h := h.2 c10
            refine g_iload_n (pc' := 99) dX12_readsThings_98 rfl rfl ?_
            refine g_iconst (pc' := 100) (by unfold r32; decide) dX12_readsThings_99 rfl ?_
            refine g_ic_ne (pc' := 103) (tgt := 117) dX12_readsThings_100 rfl rfl (fun c14 => ?_) (fun c14 => ?_)
            · have h := h.2 c14
              refine g_iload_n (pc' := 118) dX12_readsThings_117 rfl rfl ?_
              refine g_iconst (pc' := 119) (by unfold r32; decide) dX12_readsThings_118 rfl ?_
              refine g_ic_ne (pc' := 122) (tgt := 143) dX12_readsThings_119 rfl rfl (fun c17 => ?_) (fun c17 => ?_)
              · have h := h.2 c17
                refine g_iinc (pc' := 146) dX12_readsThings_143 rfl rfl (by decide) ?_
                refine g_goto (pc' := 14) dX12_readsThings_146 rfl ?_
                exact (ih _ _ h).to ((sb_c rfl (sb_c rfl (sb_c rfl sb_n))))
              · have h := h.1 c17
                refine g_aload_n (pc' := 123) dX12_readsThings_122 rfl rfl ?_
                refine g_getR (pc' := 126) (r := 77) dX12_readsThings_123 rfl fl_RX12_31 kd_69 rfl rf_69_11 ?_
                refine g_iload (pc' := 128) dX12_readsThings_126 rfl rfl ?_
                refine g_iconst (pc' := 129) (by unfold r32; decide) dX12_readsThings_128 rfl ?_
                refine g_iadd (pc' := 130) dX12_readsThings_129 rfl ?_
                refine g_iload (pc' := 132) dX12_readsThings_130 rfl rfl ?_
                obtain ⟨ob18, h⟩ := h
                refine g_iast (pc' := 133) dX12_readsThings_132 rfl kd_77 ob18 ?_
                refine g_sto (fun s19 es19 => ?_)
                have h := h s19 es19
                refine g_aload_n (pc' := 134) dX12_readsThings_133 rfl rfl ?_
                refine g_dupR (pc' := 135) dX12_readsThings_134 rfl ?_
                refine g_getI (pc' := 138) dX12_readsThings_135 rfl fl_RX12_126 kd_69 (Or.inl rfl) ?_
                refine g_iconst (pc' := 139) (by unfold r32; decide) dX12_readsThings_138 rfl ?_
                refine g_iadd (pc' := 140) dX12_readsThings_139 rfl ?_
                refine g_putI (pc' := 143) dX12_readsThings_140 rfl fp_RX12_126 kd_69 rfl ?_
                refine g_sto (fun s20 es20 => ?_)
                have h := h s20 es20
                refine g_iinc (pc' := 146) dX12_readsThings_143 rfl rfl (by decide) ?_
                refine g_goto (pc' := 14) dX12_readsThings_146 rfl ?_
                exact (ih _ _ h).to ((sb_c rfl (sb_c rfl (sb_c rfl sb_n))))
            · have h := h.1 c14
              refine g_aload_n (pc' := 104) dX12_readsThings_103 rfl rfl ?_
              refine g_getR (pc' := 107) (r := 77) dX12_readsThings_104 rfl fl_RX12_31 kd_69 rfl rf_69_11 ?_
              refine g_iload (pc' := 109) dX12_readsThings_107 rfl rfl ?_
              refine g_iconst (pc' := 110) (by unfold r32; decide) dX12_readsThings_109 rfl ?_
              refine g_iadd (pc' := 111) dX12_readsThings_110 rfl ?_
              refine g_iload (pc' := 113) dX12_readsThings_111 rfl rfl ?_
              obtain ⟨ob15, h⟩ := h
              refine g_iast (pc' := 114) dX12_readsThings_113 rfl kd_77 ob15 ?_
              refine g_sto (fun s16 es16 => ?_)
              have h := h s16 es16
              refine g_goto (pc' := 143) dX12_readsThings_114 rfl ?_
              refine g_iinc (pc' := 146) dX12_readsThings_143 rfl rfl (by decide) ?_
              refine g_goto (pc' := 14) dX12_readsThings_146 rfl ?_
              exact (ih _ _ h).to ((sb_c rfl (sb_c rfl (sb_c rfl sb_n))))
          · have h := h.1 c10
            refine g_aload_n (pc' := 84) dX12_readsThings_83 rfl rfl ?_
            refine g_getR (pc' := 87) (r := 77) dX12_readsThings_84 rfl fl_RX12_31 kd_69 rfl rf_69_11 ?_
            refine g_iload (pc' := 89) dX12_readsThings_87 rfl rfl ?_
            refine g_dup2 (pc' := 90) dX12_readsThings_89 rfl ?_
            obtain ⟨ob11, h⟩ := h
            refine g_iald (pc' := 91) dX12_readsThings_90 rfl kd_77 ob11 ?_
            refine g_iload (pc' := 93) dX12_readsThings_91 rfl rfl ?_
            refine g_iadd (pc' := 94) dX12_readsThings_93 rfl ?_
            obtain ⟨ob12, h⟩ := h
            refine g_iast (pc' := 95) dX12_readsThings_94 rfl kd_77 ob12 ?_
            refine g_sto (fun s13 es13 => ?_)
            have h := h s13 es13
            refine g_goto (pc' := 143) dX12_readsThings_95 rfl ?_
            refine g_iinc (pc' := 146) dX12_readsThings_143 rfl rfl (by decide) ?_
            refine g_goto (pc' := 14) dX12_readsThings_146 rfl ?_
            exact (ih _ _ h).to ((sb_c rfl (sb_c rfl (sb_c rfl sb_n))))
        · have h := h.1 c7
          refine g_aload_n (pc' := 64) dX12_readsThings_63 rfl rfl ?_
          refine g_getR (pc' := 67) (r := 77) dX12_readsThings_64 rfl fl_RX12_31 kd_69 rfl rf_69_11 ?_
          refine g_iload (pc' := 69) dX12_readsThings_67 rfl rfl ?_
          refine g_bipush (pc' := 71) ⟨by unfold r32; decide, rfl⟩ dX12_readsThings_69 rfl ?_
          refine g_iload (pc' := 73) dX12_readsThings_71 rfl rfl ?_
          refine g_imul (pc' := 74) dX12_readsThings_73 rfl ?_
          obtain ⟨ob8, h⟩ := h
          refine g_iast (pc' := 75) dX12_readsThings_74 rfl kd_77 ob8 ?_
          refine g_sto (fun s9 es9 => ?_)
          have h := h s9 es9
          refine g_goto (pc' := 143) dX12_readsThings_75 rfl ?_
          refine g_iinc (pc' := 146) dX12_readsThings_143 rfl rfl (by decide) ?_
          refine g_goto (pc' := 14) dX12_readsThings_146 rfl ?_
          exact (ih _ _ h).to ((sb_c rfl (sb_c rfl (sb_c rfl sb_n))))
      · have h := h.1 c5
        exact (hK45 _ _ h).to ((sb_c rfl (sb_c rfl sb_n)))
def P_X12_readsThings (s : Sto) (Q : Int → Sto → Prop) : Prop := (∀ s1 : Sto, s1 = up s 69 10 0 → (inb 1 3 ∧ (∀ x3 : Int, x3 = s1 75 (1 : Int).toNat → (∃ n11, L_X12_readsThings_14 x3 (fun x4 s5 => (∀ s6 : Sto, s6 = up s5 69 10 0 → Q x4 s6)) (fun s7 => ((x3 ≤ 0 → Q ((-1)) s7) ∧ (¬ x3 ≤ 0 → ((w32 (x3.tmod 5) = 4 → Q ((-1)) s7) ∧ (¬ w32 (x3.tmod 5) = 4 → (∀ s10 : Sto, s10 = up s7 69 10 0 → Q x3 s10)))))) n11 0 s1))))
set_option maxRecDepth 100000 in
theorem C_X12_readsThings {s : Sto} {Q : Int → Sto → Prop}  (h : P_X12_readsThings s Q) : sr_C yX12_readsThings cX12_readsThings 6 (some .int) 2 [vR 69] s Q := by
  refine sr_C.of (by decide +kernel) (Nat.le_of_ble_eq_true rfl) ?_
  show sr_G RX12 cX12_readsThings 6 (some .int) 2 0 [(0, vR 69)] [] s Q
  unfold P_X12_readsThings at h
  refine g_aload_n (pc' := 1) dX12_readsThings_0 rfl rfl ?_
  refine g_iconst (pc' := 2) (by unfold r32; decide) dX12_readsThings_1 rfl ?_
  refine g_putI (pc' := 5) dX12_readsThings_2 rfl fp_RX12_126 kd_69 rfl ?_
  refine g_sto (fun s1 es1 => ?_)
  have h := h s1 es1
  refine g_aload_n (pc' := 6) dX12_readsThings_5 rfl rfl ?_
  refine g_getR (pc' := 9) (r := 75) dX12_readsThings_6 rfl fl_RX12_25 kd_69 rfl rf_69_6 ?_
  refine g_iconst (pc' := 10) (by unfold r32; decide) dX12_readsThings_9 rfl ?_
  obtain ⟨ob2, h⟩ := h
  refine g_iald (pc' := 11) dX12_readsThings_10 rfl kd_75 ob2 ?_
  refine g_topI (fun x3 ex3 => ?_)
  have h := h x3 ex3
  refine g_istore_n (pc' := 12) dX12_readsThings_11 rfl (by decide) ?_
  refine g_iconst (pc' := 13) (by unfold r32; decide) dX12_readsThings_12 rfl ?_
  refine g_istore_n (pc' := 14) dX12_readsThings_13 rfl (by decide) ?_
  obtain ⟨n11, h⟩ := h
  refine (SL_X12_readsThings_14  (fun x4 s5 h => ?_) (fun s7 h => ?_) n11 _ _ h).to ((sb_c rfl (sb_c rfl (sb_c rfl sb_n))))
  · refine g_aload_n (pc' := 46) dX12_readsThings_45 rfl rfl ?_
    refine g_iconst (pc' := 47) (by unfold r32; decide) dX12_readsThings_46 rfl ?_
    refine g_putI (pc' := 50) dX12_readsThings_47 rfl fp_RX12_126 kd_69 rfl ?_
    refine g_sto (fun s6 es6 => ?_)
    have h := h s6 es6
    refine g_iload_n (pc' := 51) dX12_readsThings_50 rfl rfl ?_
    exact g_iret dX12_readsThings_51 rfl h
  · refine g_iload_n (pc' := 150) dX12_readsThings_149 rfl rfl ?_
    refine g_if_le (pc' := 153) (tgt := 167) dX12_readsThings_150 rfl rfl (fun c8 => ?_) (fun c8 => ?_)
    · have h := h.1 c8
      refine g_iconst (pc' := 168) (by unfold r32; decide) dX12_readsThings_167 rfl ?_
      exact g_iret dX12_readsThings_168 rfl h
    · have h := h.2 c8
      refine g_iload_n (pc' := 154) dX12_readsThings_153 rfl rfl ?_
      refine g_iconst (pc' := 155) (by unfold r32; decide) dX12_readsThings_154 rfl ?_
      refine g_irem (pc' := 156) dX12_readsThings_155 rfl (by decide) ?_
      refine g_iconst (pc' := 157) (by unfold r32; decide) dX12_readsThings_156 rfl ?_
      refine g_ic_eq (pc' := 160) (tgt := 167) dX12_readsThings_157 rfl rfl (fun c9 => ?_) (fun c9 => ?_)
      · have h := h.1 c9
        refine g_iconst (pc' := 168) (by unfold r32; decide) dX12_readsThings_167 rfl ?_
        exact g_iret dX12_readsThings_168 rfl h
      · have h := h.2 c9
        refine g_aload_n (pc' := 161) dX12_readsThings_160 rfl rfl ?_
        refine g_iconst (pc' := 162) (by unfold r32; decide) dX12_readsThings_161 rfl ?_
        refine g_putI (pc' := 165) dX12_readsThings_162 rfl fp_RX12_126 kd_69 rfl ?_
        refine g_sto (fun s10 es10 => ?_)
        have h := h s10 es10
        refine g_iload_n (pc' := 166) dX12_readsThings_165 rfl rfl ?_
        exact g_iret dX12_readsThings_166 rfl h
def L_X12_stills_2  (K21 : Sto → Prop) : Nat → Int → Sto → Prop
  | 0, _, _ => False
  | n + 1, v1, s => ((20 ≤ v1 → K21 s) ∧ (¬ 20 ≤ v1 → (inb v1 20 ∧ (∀ s3 : Sto, s3 = up s 78 v1.toNat ((-1)) → L_X12_stills_2 K21 n (w32 (v1 + 1)) s3))))
set_option maxRecDepth 100000 in
theorem SL_X12_stills_2  {K21 : Sto → Prop} {Q : Int → Sto → Prop}  (hK21 : ∀ s, K21 s → sr_G RX12 cX12_stills 2 none 0 21 [] [] s Q) : ∀ n v1 s, L_X12_stills_2 K21 n v1 s → sr_G RX12 cX12_stills 2 none 0 2 [(0, vR 69), (1, vI v1)] [] s Q := by
  intro n
  induction n with
  | zero => intro v1 s h; exact h.elim
  | succ n ih =>
    intro v1 s h
    unfold L_X12_stills_2 at h
    refine g_iload_n (pc' := 3) dX12_stills_2 rfl rfl ?_
    refine g_bipush (pc' := 5) ⟨by unfold r32; decide, rfl⟩ dX12_stills_3 rfl ?_
    refine g_ic_ge (pc' := 8) (tgt := 21) dX12_stills_5 rfl rfl (fun c1 => ?_) (fun c1 => ?_)
    · have h := h.1 c1
      exact (hK21 _ h).to (sb_n)
    · have h := h.2 c1
      refine g_aload_n (pc' := 9) dX12_stills_8 rfl rfl ?_
      refine g_getR (pc' := 12) (r := 78) dX12_stills_9 rfl fl_RX12_34 kd_69 rfl rf_69_12 ?_
      refine g_iload_n (pc' := 13) dX12_stills_12 rfl rfl ?_
      refine g_iconst (pc' := 14) (by unfold r32; decide) dX12_stills_13 rfl ?_
      obtain ⟨ob2, h⟩ := h
      refine g_iast (pc' := 15) dX12_stills_14 rfl kd_78 ob2 ?_
      refine g_sto (fun s3 es3 => ?_)
      have h := h s3 es3
      refine g_iinc (pc' := 18) dX12_stills_15 rfl rfl (by decide) ?_
      refine g_goto (pc' := 2) dX12_stills_18 rfl ?_
      exact (ih _ _ h).to ((sb_c rfl (sb_c rfl sb_n)))
def P_X12_stills (s : Sto) (Q : Int → Sto → Prop) : Prop := (∃ n2, L_X12_stills_2 (fun s1 => Q 0 s1) n2 0 s)
set_option maxRecDepth 100000 in
theorem C_X12_stills {s : Sto} {Q : Int → Sto → Prop}  (h : P_X12_stills s Q) : sr_C yX12_stills cX12_stills 2 none 0 [vR 69] s Q := by
  refine sr_C.of (by decide +kernel) (Nat.le_of_ble_eq_true rfl) ?_
  show sr_G RX12 cX12_stills 2 none 0 0 [(0, vR 69)] [] s Q
  unfold P_X12_stills at h
  refine g_iconst (pc' := 1) (by unfold r32; decide) dX12_stills_0 rfl ?_
  refine g_istore_n (pc' := 2) dX12_stills_1 rfl (by decide) ?_
  obtain ⟨n2, h⟩ := h
  refine (SL_X12_stills_2  (fun s1 h => ?_) n2 _ _ h).to ((sb_c rfl (sb_c rfl sb_n)))
  · exact g_vret dX12_stills_21 rfl h
def L_X12_readsWind_6  (K85 : Int → Sto → Prop) (K104 : Sto → Prop) : Nat → Int → Sto → Prop
  | 0, _, _ => False
  | n + 1, v1, s => (inb 2 3 ∧ ((s 75 (2 : Int).toNat ≤ v1 → K104 s) ∧ (¬ s 75 (2 : Int).toNat ≤ v1 → (inb (w32 (84 + v1)) 126 ∧ (∀ x4 : Int, x4 = s 74 (w32 (84 + v1)).toNat → (∀ x5 : Int, x5 = (if x4 = 110 then 0 else (if x4 = 101 then 1 else (if x4 = 115 then 2 else (if x4 = 119 then 3 else (if x4 = 46 then (-1) else (-9)))))) → ((x5 = (-9) → K85 v1 s) ∧ (¬ x5 = (-9) → (inb v1 20 ∧ (∀ s13 : Sto, s13 = up s 78 v1.toNat x5 → L_X12_readsWind_6 K85 K104 n (w32 (v1 + 1)) s13))))))))))
set_option maxRecDepth 100000 in
theorem SL_X12_readsWind_6  {K85 : Int → Sto → Prop} {K104 : Sto → Prop} {Q : Int → Sto → Prop}  (hK85 : ∀ v1 s, K85 v1 s → sr_G RX12 cX12_readsWind 4 (some .int) 1 85 [(0, vR 69), (1, vI v1)] [] s Q) (hK104 : ∀ s, K104 s → sr_G RX12 cX12_readsWind 4 (some .int) 1 104 [] [] s Q) : ∀ n v1 s, L_X12_readsWind_6 K85 K104 n v1 s → sr_G RX12 cX12_readsWind 4 (some .int) 1 6 [(0, vR 69), (1, vI v1)] [] s Q := by
  intro n
  induction n with
  | zero => intro v1 s h; exact h.elim
  | succ n ih =>
    intro v1 s h
    unfold L_X12_readsWind_6 at h
    refine g_iload_n (pc' := 7) dX12_readsWind_6 rfl rfl ?_
    refine g_aload_n (pc' := 8) dX12_readsWind_7 rfl rfl ?_
    refine g_getR (pc' := 11) (r := 75) dX12_readsWind_8 rfl fl_RX12_25 kd_69 rfl rf_69_6 ?_
    refine g_iconst (pc' := 12) (by unfold r32; decide) dX12_readsWind_11 rfl ?_
    obtain ⟨ob1, h⟩ := h
    refine g_iald (pc' := 13) dX12_readsWind_12 rfl kd_75 ob1 ?_
    refine g_ic_ge (pc' := 16) (tgt := 104) dX12_readsWind_13 rfl rfl (fun c2 => ?_) (fun c2 => ?_)
    · have h := h.1 c2
      exact (hK104 _ h).to (sb_n)
    · have h := h.2 c2
      refine g_aload_n (pc' := 17) dX12_readsWind_16 rfl rfl ?_
      refine g_getR (pc' := 20) (r := 74) dX12_readsWind_17 rfl fl_RX12_22 kd_69 rfl rf_69_5 ?_
      refine g_bipush (pc' := 22) ⟨by unfold r32; decide, rfl⟩ dX12_readsWind_20 rfl ?_
      refine g_iload_n (pc' := 23) dX12_readsWind_22 rfl rfl ?_
      refine g_iadd (pc' := 24) dX12_readsWind_23 rfl ?_
      obtain ⟨ob3, h⟩ := h
      refine g_iald (pc' := 25) dX12_readsWind_24 rfl kd_74 ob3 ?_
      refine g_topI (fun x4 ex4 => ?_)
      have h := h x4 ex4
      refine g_istore_n (pc' := 26) dX12_readsWind_25 rfl (by decide) ?_
      refine g_iload_n (pc' := 27) dX12_readsWind_26 rfl rfl ?_
      refine g_bipush (pc' := 29) ⟨by unfold r32; decide, rfl⟩ dX12_readsWind_27 rfl ?_
      refine sr_join (v := (if x4 = 110 then 0 else (if x4 = 101 then 1 else (if x4 = 115 then 2 else (if x4 = 119 then 3 else (if x4 = 46 then (-1) else (-9))))))) (GG := fun x5 => sr_G RX12 cX12_readsWind 4 (some .int) 1 78 [(0, vR 69), (1, vI v1)] [vI x5] s Q) (fun x5 ex5 => ?_) (fun hj => ?_)
      · have h := h x5 ex5
        refine g_istore_n (pc' := 79) dX12_readsWind_78 rfl (by decide) ?_
        refine g_iload_n (pc' := 80) dX12_readsWind_79 rfl rfl ?_
        refine g_bipush (pc' := 82) ⟨by unfold r32; decide, rfl⟩ dX12_readsWind_80 rfl ?_
        refine g_ic_ne (pc' := 85) (tgt := 91) dX12_readsWind_82 rfl rfl (fun c11 => ?_) (fun c11 => ?_)
        · have h := h.2 c11
          refine g_aload_n (pc' := 92) dX12_readsWind_91 rfl rfl ?_
          refine g_getR (pc' := 95) (r := 78) dX12_readsWind_92 rfl fl_RX12_34 kd_69 rfl rf_69_12 ?_
          refine g_iload_n (pc' := 96) dX12_readsWind_95 rfl rfl ?_
          refine g_iload_n (pc' := 97) dX12_readsWind_96 rfl rfl ?_
          obtain ⟨ob12, h⟩ := h
          refine g_iast (pc' := 98) dX12_readsWind_97 rfl kd_78 ob12 ?_
          refine g_sto (fun s13 es13 => ?_)
          have h := h s13 es13
          refine g_iinc (pc' := 101) dX12_readsWind_98 rfl rfl (by decide) ?_
          refine g_goto (pc' := 6) dX12_readsWind_101 rfl ?_
          exact (ih _ _ h).to ((sb_c rfl (sb_c rfl sb_n)))
        · have h := h.1 c11
          exact (hK85 _ _ h).to ((sb_c rfl (sb_c rfl sb_n)))
      · refine g_ic_ne (pc' := 32) (tgt := 36) dX12_readsWind_29 rfl rfl (fun c6 => ?_) (fun c6 => ?_)
        · refine g_iload_n (pc' := 37) dX12_readsWind_36 rfl rfl ?_
          refine g_bipush (pc' := 39) ⟨by unfold r32; decide, rfl⟩ dX12_readsWind_37 rfl ?_
          refine g_ic_ne (pc' := 42) (tgt := 46) dX12_readsWind_39 rfl rfl (fun c7 => ?_) (fun c7 => ?_)
          · refine g_iload_n (pc' := 47) dX12_readsWind_46 rfl rfl ?_
            refine g_bipush (pc' := 49) ⟨by unfold r32; decide, rfl⟩ dX12_readsWind_47 rfl ?_
            refine g_ic_ne (pc' := 52) (tgt := 56) dX12_readsWind_49 rfl rfl (fun c8 => ?_) (fun c8 => ?_)
            · refine g_iload_n (pc' := 57) dX12_readsWind_56 rfl rfl ?_
              refine g_bipush (pc' := 59) ⟨by unfold r32; decide, rfl⟩ dX12_readsWind_57 rfl ?_
              refine g_ic_ne (pc' := 62) (tgt := 66) dX12_readsWind_59 rfl rfl (fun c9 => ?_) (fun c9 => ?_)
              · refine g_iload_n (pc' := 67) dX12_readsWind_66 rfl rfl ?_
                refine g_bipush (pc' := 69) ⟨by unfold r32; decide, rfl⟩ dX12_readsWind_67 rfl ?_
                refine g_ic_ne (pc' := 72) (tgt := 76) dX12_readsWind_69 rfl rfl (fun c10 => ?_) (fun c10 => ?_)
                · refine g_bipush (pc' := 78) ⟨by unfold r32; decide, rfl⟩ dX12_readsWind_76 rfl ?_
                  exact (hj _ (by rw [if_neg c6, if_neg c7, if_neg c8, if_neg c9, if_neg c10])).to ((sb_c rfl (sb_c rfl sb_n)))
                · refine g_iconst (pc' := 73) (by unfold r32; decide) dX12_readsWind_72 rfl ?_
                  refine g_goto (pc' := 78) dX12_readsWind_73 rfl ?_
                  exact (hj _ (by rw [if_neg c6, if_neg c7, if_neg c8, if_neg c9, if_pos c10])).to ((sb_c rfl (sb_c rfl sb_n)))
              · refine g_iconst (pc' := 63) (by unfold r32; decide) dX12_readsWind_62 rfl ?_
                refine g_goto (pc' := 78) dX12_readsWind_63 rfl ?_
                exact (hj _ (by rw [if_neg c6, if_neg c7, if_neg c8, if_pos c9])).to ((sb_c rfl (sb_c rfl sb_n)))
            · refine g_iconst (pc' := 53) (by unfold r32; decide) dX12_readsWind_52 rfl ?_
              refine g_goto (pc' := 78) dX12_readsWind_53 rfl ?_
              exact (hj _ (by rw [if_neg c6, if_neg c7, if_pos c8])).to ((sb_c rfl (sb_c rfl sb_n)))
          · refine g_iconst (pc' := 43) (by unfold r32; decide) dX12_readsWind_42 rfl ?_
            refine g_goto (pc' := 78) dX12_readsWind_43 rfl ?_
            exact (hj _ (by rw [if_neg c6, if_pos c7])).to ((sb_c rfl (sb_c rfl sb_n)))
        · refine g_iconst (pc' := 33) (by unfold r32; decide) dX12_readsWind_32 rfl ?_
          refine g_goto (pc' := 78) dX12_readsWind_33 rfl ?_
          exact (hj _ (by rw [if_pos c6])).to ((sb_c rfl (sb_c rfl sb_n)))
def P_X12_readsWind (s : Sto) (Q : Int → Sto → Prop) : Prop := (P_X12_stills s (fun _ s1 => (∃ n8, L_X12_readsWind_6 (fun x3 s4 => (P_X12_stills s4 (fun _ s5 => Q x3 s5))) (fun s7 => Q ((-1)) s7) n8 0 s1)))
set_option maxRecDepth 100000 in
theorem C_X12_readsWind {s : Sto} {Q : Int → Sto → Prop}  (h : P_X12_readsWind s Q) : sr_C yX12_readsWind cX12_readsWind 4 (some .int) 1 [vR 69] s Q := by
  refine sr_C.of (by decide +kernel) (Nat.le_of_ble_eq_true rfl) ?_
  show sr_G RX12 cX12_readsWind 4 (some .int) 1 0 [(0, vR 69)] [] s Q
  unfold P_X12_readsWind at h
  refine g_aload_n (pc' := 1) dX12_readsWind_0 rfl rfl ?_
  refine g_V0v (pc' := 4) dX12_readsWind_1 rfl mv_RX12_132 kd_69 (by decide) (Nat.le_of_ble_eq_true rfl) (C_X12_stills h) (fun s1 h => ?_)
  refine g_iconst (pc' := 5) (by unfold r32; decide) dX12_readsWind_4 rfl ?_
  refine g_istore_n (pc' := 6) dX12_readsWind_5 rfl (by decide) ?_
  obtain ⟨n8, h⟩ := h
  refine (SL_X12_readsWind_6  (fun x3 s4 h => ?_) (fun s7 h => ?_) n8 _ _ h).to ((sb_c rfl (sb_c rfl sb_n)))
  · refine g_aload_n (pc' := 86) dX12_readsWind_85 rfl rfl ?_
    refine g_V0v (pc' := 89) dX12_readsWind_86 rfl mv_RX12_132 kd_69 (by decide) (Nat.le_of_ble_eq_true rfl) (C_X12_stills h) (fun s5 h => ?_)
    refine g_iload_n (pc' := 90) dX12_readsWind_89 rfl rfl ?_
    exact g_iret dX12_readsWind_90 rfl h
  · refine g_iconst (pc' := 105) (by unfold r32; decide) dX12_readsWind_104 rfl ?_
    exact g_iret dX12_readsWind_105 rfl h
def P_X12_readsText (v1 : Int) (s : Sto) (Q : Int → Sto → Prop) : Prop := ((v1 = 0 → (P_X12_readsValley s (fun r3 s2 => Q r3 s2))) ∧ (¬ v1 = 0 → ((v1 = 1 → (P_X12_readsThings s (fun r6 s5 => Q r6 s5))) ∧ (¬ v1 = 1 → (P_X12_readsWind s (fun r8 s7 => Q r8 s7))))))
set_option maxRecDepth 100000 in
theorem C_X12_readsText {v1 : Int} {s : Sto} {Q : Int → Sto → Prop}  (h : P_X12_readsText v1 s Q) : sr_C yX12_readsText cX12_readsText 2 (some .int) 3 [vR 69, vI v1] s Q := by
  refine sr_C.of (by decide +kernel) (Nat.le_of_ble_eq_true rfl) ?_
  show sr_G RX12 cX12_readsText 2 (some .int) 3 0 [(0, vR 69), (1, vI v1)] [] s Q
  unfold P_X12_readsText at h
  refine g_iload_n (pc' := 1) dX12_readsText_0 rfl rfl ?_
  refine g_if_ne (pc' := 4) (tgt := 11) dX12_readsText_1 rfl rfl (fun c1 => ?_) (fun c1 => ?_)
  · have h := h.2 c1
    refine g_iload_n (pc' := 12) dX12_readsText_11 rfl rfl ?_
    refine g_iconst (pc' := 13) (by unfold r32; decide) dX12_readsText_12 rfl ?_
    refine g_ic_ne (pc' := 16) (tgt := 23) dX12_readsText_13 rfl rfl (fun c4 => ?_) (fun c4 => ?_)
    · have h := h.2 c4
      refine g_aload_n (pc' := 24) dX12_readsText_23 rfl rfl ?_
      refine g_V0i (pc' := 27) dX12_readsText_24 rfl mv_RX12_142 kd_69 (by decide) (Nat.le_of_ble_eq_true rfl) (C_X12_readsWind h) (fun r8 s7 h => ?_)
      exact g_iret dX12_readsText_27 rfl h
    · have h := h.1 c4
      refine g_aload_n (pc' := 17) dX12_readsText_16 rfl rfl ?_
      refine g_V0i (pc' := 20) dX12_readsText_17 rfl mv_RX12_139 kd_69 (by decide) (Nat.le_of_ble_eq_true rfl) (C_X12_readsThings h) (fun r6 s5 h => ?_)
      refine g_goto (pc' := 27) dX12_readsText_20 rfl ?_
      exact g_iret dX12_readsText_27 rfl h
  · have h := h.1 c1
    refine g_aload_n (pc' := 5) dX12_readsText_4 rfl rfl ?_
    refine g_V0i (pc' := 8) dX12_readsText_5 rfl mv_RX12_135 kd_69 (by decide) (Nat.le_of_ble_eq_true rfl) (C_X12_readsValley h) (fun r3 s2 h => ?_)
    refine g_goto (pc' := 27) dX12_readsText_8 rfl ?_
    exact g_iret dX12_readsText_27 rfl h
def P_X12_fault (v1 : Int) (s : Sto) (Q : Int → Sto → Prop) : Prop := ((F_X12_isText v1 s = 0 → Q ((-2)) s) ∧ (¬ F_X12_isText v1 s = 0 → (P_X12_readsText v1 s (fun r4 s3 => Q r4 s3))))
set_option maxRecDepth 100000 in
theorem C_X12_fault {v1 : Int} {s : Sto} {Q : Int → Sto → Prop}  (h : P_X12_fault v1 s Q) : sr_C yX12_fault cX12_fault 2 (some .int) 4 [vR 69, vI v1] s Q := by
  refine sr_C.of (by decide +kernel) (Nat.le_of_ble_eq_true rfl) ?_
  show sr_G RX12 cX12_fault 2 (some .int) 4 0 [(0, vR 69), (1, vI v1)] [] s Q
  unfold P_X12_fault at h
  refine g_iload_n (pc' := 1) dX12_fault_0 rfl rfl ?_
  refine g_S1z (pc' := 4) dX12_fault_1 rfl ms_RX12_104 (by decide) (Nat.le_of_ble_eq_true rfl) C_X12_isText (sr_purb (fun hb1 => ?_))
  refine g_if_eq (pc' := 7) (tgt := 15) dX12_fault_4 rfl rfl (fun c2 => ?_) (fun c2 => ?_)
  · have h := h.1 c2
    refine g_bipush (pc' := 17) ⟨by unfold r32; decide, rfl⟩ dX12_fault_15 rfl ?_
    exact g_iret dX12_fault_17 rfl h
  · have h := h.2 c2
    refine g_aload_n (pc' := 8) dX12_fault_7 rfl rfl ?_
    refine g_iload_n (pc' := 9) dX12_fault_8 rfl rfl ?_
    refine g_V1i (pc' := 12) dX12_fault_9 rfl mv_RX12_145 kd_69 (by decide) (Nat.le_of_ble_eq_true rfl) (C_X12_readsText h) (fun r4 s3 h => ?_)
    refine g_goto (pc' := 17) dX12_fault_12 rfl ?_
    exact g_iret dX12_fault_17 rfl h
def F_X12_isCell (v1 : Int) (s : Sto) : Int := F_X12_in v1 0 (w32 ((s 69 7) - 1)) s
set_option maxRecDepth 100000 in
theorem C_X12_isCell {v1 : Int} {s : Sto}   : sr_C yX12_isCell cX12_isCell 2 (some .boolean) 1 [vR 69, vI v1] s (fun r s' => r = F_X12_isCell v1 s ∧ s' = s ∧ (r = 0 ∨ r = 1)) := by
  refine sr_C.of (by decide +kernel) (Nat.le_of_ble_eq_true rfl) ?_
  show sr_G RX12 cX12_isCell 2 (some .boolean) 1 0 [(0, vR 69), (1, vI v1)] [] s (fun r s' => r = F_X12_isCell v1 s ∧ s' = s ∧ (r = 0 ∨ r = 1))
  refine g_iload_n (pc' := 1) dX12_isCell_0 rfl rfl ?_
  refine g_i2l (pc' := 2) dX12_isCell_1 rfl ?_
  refine g_lconst (pc' := 3) (z := 0) ⟨by unfold r64; decide, rfl⟩ dX12_isCell_2 rfl ?_
  refine g_aload_n (pc' := 4) dX12_isCell_3 rfl rfl ?_
  refine g_getI (pc' := 7) dX12_isCell_4 rfl fl_RX12_109 kd_69 (Or.inl rfl) ?_
  refine g_iconst (pc' := 8) (by unfold r32; decide) dX12_isCell_7 rfl ?_
  refine g_isub (pc' := 9) dX12_isCell_8 rfl ?_
  refine g_i2l (pc' := 10) dX12_isCell_9 rfl ?_
  refine g_S3z (pc' := 13) dX12_isCell_10 rfl ms_RX12_76 (by decide) (Nat.le_of_ble_eq_true rfl) C_X12_in (sr_purb (fun hb1 => ?_))
  exact g_zret dX12_isCell_13 rfl hb1 ⟨rfl, rfl, hb1⟩
def F_X12_isThing (v1 : Int) (s : Sto) : Int := F_X12_in v1 0 (w32 ((s 69 10) - 1)) s
set_option maxRecDepth 100000 in
theorem C_X12_isThing {v1 : Int} {s : Sto}   : sr_C yX12_isThing cX12_isThing 2 (some .boolean) 1 [vR 69, vI v1] s (fun r s' => r = F_X12_isThing v1 s ∧ s' = s ∧ (r = 0 ∨ r = 1)) := by
  refine sr_C.of (by decide +kernel) (Nat.le_of_ble_eq_true rfl) ?_
  show sr_G RX12 cX12_isThing 2 (some .boolean) 1 0 [(0, vR 69), (1, vI v1)] [] s (fun r s' => r = F_X12_isThing v1 s ∧ s' = s ∧ (r = 0 ∨ r = 1))
  refine g_iload_n (pc' := 1) dX12_isThing_0 rfl rfl ?_
  refine g_i2l (pc' := 2) dX12_isThing_1 rfl ?_
  refine g_lconst (pc' := 3) (z := 0) ⟨by unfold r64; decide, rfl⟩ dX12_isThing_2 rfl ?_
  refine g_aload_n (pc' := 4) dX12_isThing_3 rfl rfl ?_
  refine g_getI (pc' := 7) dX12_isThing_4 rfl fl_RX12_126 kd_69 (Or.inl rfl) ?_
  refine g_iconst (pc' := 8) (by unfold r32; decide) dX12_isThing_7 rfl ?_
  refine g_isub (pc' := 9) dX12_isThing_8 rfl ?_
  refine g_i2l (pc' := 10) dX12_isThing_9 rfl ?_
  refine g_S3z (pc' := 13) dX12_isThing_10 rfl ms_RX12_76 (by decide) (Nat.le_of_ble_eq_true rfl) C_X12_in (sr_purb (fun hb1 => ?_))
  exact g_zret dX12_isThing_13 rfl hb1 ⟨rfl, rfl, hb1⟩
def F_X12_isStep (v0 : Int) (s : Sto) : Int := F_X12_in v0 0 19 s
set_option maxRecDepth 100000 in
theorem C_X12_isStep {v0 : Int} {s : Sto}   : sr_C yX12_isStep cX12_isStep 1 (some .boolean) 1 [vI v0] s (fun r s' => r = F_X12_isStep v0 s ∧ s' = s ∧ (r = 0 ∨ r = 1)) := by
  refine sr_C.of (by decide +kernel) (Nat.le_of_ble_eq_true rfl) ?_
  show sr_G RX12 cX12_isStep 1 (some .boolean) 1 0 [(0, vI v0)] [] s (fun r s' => r = F_X12_isStep v0 s ∧ s' = s ∧ (r = 0 ∨ r = 1))
  refine g_iload_n (pc' := 1) dX12_isStep_0 rfl rfl ?_
  refine g_i2l (pc' := 2) dX12_isStep_1 rfl ?_
  refine g_lconst (pc' := 3) (z := 0) ⟨by unfold r64; decide, rfl⟩ dX12_isStep_2 rfl ?_
  refine g_ldc2 (pc' := 6) (z := 19) (by unfold r64; decide) kc_RX12_148 dX12_isStep_3 rfl ?_
  refine g_S3z (pc' := 9) dX12_isStep_6 rfl ms_RX12_76 (by decide) (Nat.le_of_ble_eq_true rfl) C_X12_in (sr_purb (fun hb1 => ?_))
  exact g_zret dX12_isStep_9 rfl hb1 ⟨rfl, rfl, hb1⟩
def P_X12_cell (v1 : Int) (s : Sto) (Q : Int → Sto → Prop) : Prop := (P_X12_readsValley s (fun r2 s1 => ((F_X12_in v1 0 35 s1 = 0 → Q ((-2)) s1) ∧ (¬ F_X12_in v1 0 35 s1 = 0 → ((s1 69 7 ≤ v1 → Q ((-1)) s1) ∧ (¬ s1 69 7 ≤ v1 → (inb v1 36 ∧ Q (s1 76 v1.toNat) s1)))))))
set_option maxRecDepth 100000 in
theorem C_X12_cell {v1 : Int} {s : Sto} {Q : Int → Sto → Prop}  (h : P_X12_cell v1 s Q) : sr_C yX12_cell cX12_cell 2 (some .int) 2 [vR 69, vI v1] s Q := by
  refine sr_C.of (by decide +kernel) (Nat.le_of_ble_eq_true rfl) ?_
  show sr_G RX12 cX12_cell 2 (some .int) 2 0 [(0, vR 69), (1, vI v1)] [] s Q
  unfold P_X12_cell at h
  refine g_aload_n (pc' := 1) dX12_cell_0 rfl rfl ?_
  refine g_V0i (pc' := 4) dX12_cell_1 rfl mv_RX12_135 kd_69 (by decide) (Nat.le_of_ble_eq_true rfl) (C_X12_readsValley h) (fun r2 s1 h => ?_)
  refine g_pop (pc' := 5) dX12_cell_4 rfl ?_
  refine g_iload_n (pc' := 6) dX12_cell_5 rfl rfl ?_
  refine g_i2l (pc' := 7) dX12_cell_6 rfl ?_
  refine g_lconst (pc' := 8) (z := 0) ⟨by unfold r64; decide, rfl⟩ dX12_cell_7 rfl ?_
  refine g_ldc2 (pc' := 11) (z := 35) (by unfold r64; decide) kc_RX12_150 dX12_cell_8 rfl ?_
  refine g_S3z (pc' := 14) dX12_cell_11 rfl ms_RX12_76 (by decide) (Nat.le_of_ble_eq_true rfl) C_X12_in (sr_purb (fun hb3 => ?_))
  refine g_if_ne (pc' := 17) (tgt := 22) dX12_cell_14 rfl rfl (fun c4 => ?_) (fun c4 => ?_)
  · have h := h.2 c4
    refine g_iload_n (pc' := 23) dX12_cell_22 rfl rfl ?_
    refine g_aload_n (pc' := 24) dX12_cell_23 rfl rfl ?_
    refine g_getI (pc' := 27) dX12_cell_24 rfl fl_RX12_109 kd_69 (Or.inl rfl) ?_
    refine g_ic_ge (pc' := 30) (tgt := 39) dX12_cell_27 rfl rfl (fun c5 => ?_) (fun c5 => ?_)
    · have h := h.1 c5
      refine g_iconst (pc' := 40) (by unfold r32; decide) dX12_cell_39 rfl ?_
      exact g_iret dX12_cell_40 rfl h
    · have h := h.2 c5
      refine g_aload_n (pc' := 31) dX12_cell_30 rfl rfl ?_
      refine g_getR (pc' := 34) (r := 76) dX12_cell_31 rfl fl_RX12_28 kd_69 rfl rf_69_9 ?_
      refine g_iload_n (pc' := 35) dX12_cell_34 rfl rfl ?_
      obtain ⟨ob6, h⟩ := h
      refine g_iald (pc' := 36) dX12_cell_35 rfl kd_76 ob6 ?_
      refine g_goto (pc' := 40) dX12_cell_36 rfl ?_
      exact g_iret dX12_cell_40 rfl h
  · have h := h.1 c4
    refine g_bipush (pc' := 19) ⟨by unfold r32; decide, rfl⟩ dX12_cell_17 rfl ?_
    refine g_goto (pc' := 40) dX12_cell_19 rfl ?_
    exact g_iret dX12_cell_40 rfl h
def P_X12_thing (v1 : Int) (v2 : Int) (s : Sto) (Q : Int → Sto → Prop) : Prop := (P_X12_readsThings s (fun r2 s1 => ((F_X12_isThing v1 s1 = 0 → Q ((-2)) s1) ∧ (¬ F_X12_isThing v1 s1 = 0 → ((F_X12_in v2 0 2 s1 = 0 → Q ((-2)) s1) ∧ (¬ F_X12_in v2 0 2 s1 = 0 → (inb (w32 ((w32 (3 * v1)) + v2)) 24 ∧ Q (s1 77 (w32 ((w32 (3 * v1)) + v2)).toNat) s1)))))))
set_option maxRecDepth 100000 in
theorem C_X12_thing {v1 : Int} {v2 : Int} {s : Sto} {Q : Int → Sto → Prop}  (h : P_X12_thing v1 v2 s Q) : sr_C yX12_thing cX12_thing 3 (some .int) 3 [vR 69, vI v1, vI v2] s Q := by
  refine sr_C.of (by decide +kernel) (Nat.le_of_ble_eq_true rfl) ?_
  show sr_G RX12 cX12_thing 3 (some .int) 3 0 [(0, vR 69), (1, vI v1), (2, vI v2)] [] s Q
  unfold P_X12_thing at h
  refine g_aload_n (pc' := 1) dX12_thing_0 rfl rfl ?_
  refine g_V0i (pc' := 4) dX12_thing_1 rfl mv_RX12_139 kd_69 (by decide) (Nat.le_of_ble_eq_true rfl) (C_X12_readsThings h) (fun r2 s1 h => ?_)
  refine g_pop (pc' := 5) dX12_thing_4 rfl ?_
  refine g_aload_n (pc' := 6) dX12_thing_5 rfl rfl ?_
  refine g_iload_n (pc' := 7) dX12_thing_6 rfl rfl ?_
  refine g_V1z (pc' := 10) dX12_thing_7 rfl mv_RX12_152 kd_69 (by decide) (Nat.le_of_ble_eq_true rfl) C_X12_isThing (sr_purb (fun hb3 => ?_))
  refine g_if_eq (pc' := 13) (tgt := 38) dX12_thing_10 rfl rfl (fun c4 => ?_) (fun c4 => ?_)
  · have h := h.1 c4
    refine g_bipush (pc' := 40) ⟨by unfold r32; decide, rfl⟩ dX12_thing_38 rfl ?_
    exact g_iret dX12_thing_40 rfl h
  · have h := h.2 c4
    refine g_iload_n (pc' := 14) dX12_thing_13 rfl rfl ?_
    refine g_i2l (pc' := 15) dX12_thing_14 rfl ?_
    refine g_lconst (pc' := 16) (z := 0) ⟨by unfold r64; decide, rfl⟩ dX12_thing_15 rfl ?_
    refine g_ldc2 (pc' := 19) (z := 2) (by unfold r64; decide) kc_RX12_89 dX12_thing_16 rfl ?_
    refine g_S3z (pc' := 22) dX12_thing_19 rfl ms_RX12_76 (by decide) (Nat.le_of_ble_eq_true rfl) C_X12_in (sr_purb (fun hb5 => ?_))
    refine g_if_eq (pc' := 25) (tgt := 38) dX12_thing_22 rfl rfl (fun c6 => ?_) (fun c6 => ?_)
    · have h := h.1 c6
      refine g_bipush (pc' := 40) ⟨by unfold r32; decide, rfl⟩ dX12_thing_38 rfl ?_
      exact g_iret dX12_thing_40 rfl h
    · have h := h.2 c6
      refine g_aload_n (pc' := 26) dX12_thing_25 rfl rfl ?_
      refine g_getR (pc' := 29) (r := 77) dX12_thing_26 rfl fl_RX12_31 kd_69 rfl rf_69_11 ?_
      refine g_iconst (pc' := 30) (by unfold r32; decide) dX12_thing_29 rfl ?_
      refine g_iload_n (pc' := 31) dX12_thing_30 rfl rfl ?_
      refine g_imul (pc' := 32) dX12_thing_31 rfl ?_
      refine g_iload_n (pc' := 33) dX12_thing_32 rfl rfl ?_
      refine g_iadd (pc' := 34) dX12_thing_33 rfl ?_
      obtain ⟨ob7, h⟩ := h
      refine g_iald (pc' := 35) dX12_thing_34 rfl kd_77 ob7 ?_
      refine g_goto (pc' := 40) dX12_thing_35 rfl ?_
      exact g_iret dX12_thing_40 rfl h
def P_X12_wind (v1 : Int) (s : Sto) (Q : Int → Sto → Prop) : Prop := (P_X12_readsWind s (fun r2 s1 => ((F_X12_isStep v1 s1 = 0 → Q ((-2)) s1) ∧ (¬ F_X12_isStep v1 s1 = 0 → (inb v1 20 ∧ Q (s1 78 v1.toNat) s1)))))
set_option maxRecDepth 100000 in
theorem C_X12_wind {v1 : Int} {s : Sto} {Q : Int → Sto → Prop}  (h : P_X12_wind v1 s Q) : sr_C yX12_wind cX12_wind 2 (some .int) 2 [vR 69, vI v1] s Q := by
  refine sr_C.of (by decide +kernel) (Nat.le_of_ble_eq_true rfl) ?_
  show sr_G RX12 cX12_wind 2 (some .int) 2 0 [(0, vR 69), (1, vI v1)] [] s Q
  unfold P_X12_wind at h
  refine g_aload_n (pc' := 1) dX12_wind_0 rfl rfl ?_
  refine g_V0i (pc' := 4) dX12_wind_1 rfl mv_RX12_142 kd_69 (by decide) (Nat.le_of_ble_eq_true rfl) (C_X12_readsWind h) (fun r2 s1 h => ?_)
  refine g_pop (pc' := 5) dX12_wind_4 rfl ?_
  refine g_iload_n (pc' := 6) dX12_wind_5 rfl rfl ?_
  refine g_S1z (pc' := 9) dX12_wind_6 rfl ms_RX12_155 (by decide) (Nat.le_of_ble_eq_true rfl) C_X12_isStep (sr_purb (fun hb3 => ?_))
  refine g_if_eq (pc' := 12) (tgt := 21) dX12_wind_9 rfl rfl (fun c4 => ?_) (fun c4 => ?_)
  · have h := h.1 c4
    refine g_bipush (pc' := 23) ⟨by unfold r32; decide, rfl⟩ dX12_wind_21 rfl ?_
    exact g_iret dX12_wind_23 rfl h
  · have h := h.2 c4
    refine g_aload_n (pc' := 13) dX12_wind_12 rfl rfl ?_
    refine g_getR (pc' := 16) (r := 78) dX12_wind_13 rfl fl_RX12_34 kd_69 rfl rf_69_12 ?_
    refine g_iload_n (pc' := 17) dX12_wind_16 rfl rfl ?_
    obtain ⟨ob5, h⟩ := h
    refine g_iald (pc' := 18) dX12_wind_17 rfl kd_78 ob5 ?_
    refine g_goto (pc' := 23) dX12_wind_18 rfl ?_
    exact g_iret dX12_wind_23 rfl h
def F_X12_widens (v1 : Int) (s : Sto) : Int := (if F_X12_in v1 1 4 s = 0 then (-2) else s 69 13)
def S_X12_widens (v1 : Int) (s : Sto) : Sto := (if F_X12_in v1 1 4 s = 0 then s else up s 69 13 v1)
set_option maxRecDepth 100000 in
theorem C_X12_widens {v1 : Int} {s : Sto}   : sr_C yX12_widens cX12_widens 3 (some .int) 1 [vR 69, vI v1] s (fun r s' => r = F_X12_widens v1 s ∧ s' = S_X12_widens v1 s) := by
  refine sr_C.of (by decide +kernel) (Nat.le_of_ble_eq_true rfl) ?_
  show sr_G RX12 cX12_widens 3 (some .int) 1 0 [(0, vR 69), (1, vI v1)] [] s (fun r s' => r = F_X12_widens v1 s ∧ s' = S_X12_widens v1 s)
  refine g_iload_n (pc' := 1) dX12_widens_0 rfl rfl ?_
  refine g_i2l (pc' := 2) dX12_widens_1 rfl ?_
  refine g_lconst (pc' := 3) (z := 1) ⟨by unfold r64; decide, rfl⟩ dX12_widens_2 rfl ?_
  refine g_ldc2 (pc' := 6) (z := 4) (by unfold r64; decide) kc_RX12_158 dX12_widens_3 rfl ?_
  refine g_S3z (pc' := 9) dX12_widens_6 rfl ms_RX12_76 (by decide) (Nat.le_of_ble_eq_true rfl) C_X12_in (sr_purb (fun hb1 => ?_))
  refine g_if_ne (pc' := 12) (tgt := 15) dX12_widens_9 rfl rfl (fun c2 => ?_) (fun c2 => ?_)
  · refine g_aload_n (pc' := 16) dX12_widens_15 rfl rfl ?_
    refine g_getI (pc' := 19) dX12_widens_16 rfl fl_RX12_70 kd_69 (Or.inl rfl) ?_
    refine g_istore_n (pc' := 20) dX12_widens_19 rfl (by decide) ?_
    refine g_aload_n (pc' := 21) dX12_widens_20 rfl rfl ?_
    refine g_iload_n (pc' := 22) dX12_widens_21 rfl rfl ?_
    refine g_putI (pc' := 25) dX12_widens_22 rfl fp_RX12_70 kd_69 rfl ?_
    refine g_iload_n (pc' := 26) dX12_widens_25 rfl rfl ?_
    exact g_iret dX12_widens_26 rfl ⟨(by simp only [F_X12_widens, if_neg c2]), (by simp only [S_X12_widens, if_neg c2])⟩
  · refine g_bipush (pc' := 14) ⟨by unfold r32; decide, rfl⟩ dX12_widens_12 rfl ?_
    exact g_iret dX12_widens_14 rfl ⟨(by simp only [F_X12_widens, if_pos c2]), (by simp only [S_X12_widens, if_pos c2])⟩
def S_X12_puts (v1 : Int) (v2 : Int) (v3 : Int) (v4 : Int) (v5 : Int) (s : Sto) : Sto := up (up (up (up (up (up s 79 (w32 (5 * (s 69 14))).toNat v1) 79 (w32 ((w32 (5 * (up s 79 (w32 (5 * (s 69 14))).toNat v1 69 14))) + 1)).toNat v2) 79 (w32 ((w32 (5 * (up (up s 79 (w32 (5 * (s 69 14))).toNat v1) 79 (w32 ((w32 (5 * (up s 79 (w32 (5 * (s 69 14))).toNat v1 69 14))) + 1)).toNat v2 69 14))) + 2)).toNat v3) 79 (w32 ((w32 (5 * (up (up (up s 79 (w32 (5 * (s 69 14))).toNat v1) 79 (w32 ((w32 (5 * (up s 79 (w32 (5 * (s 69 14))).toNat v1 69 14))) + 1)).toNat v2) 79 (w32 ((w32 (5 * (up (up s 79 (w32 (5 * (s 69 14))).toNat v1) 79 (w32 ((w32 (5 * (up s 79 (w32 (5 * (s 69 14))).toNat v1 69 14))) + 1)).toNat v2 69 14))) + 2)).toNat v3 69 14))) + 3)).toNat v4) 79 (w32 ((w32 (5 * (up (up (up (up s 79 (w32 (5 * (s 69 14))).toNat v1) 79 (w32 ((w32 (5 * (up s 79 (w32 (5 * (s 69 14))).toNat v1 69 14))) + 1)).toNat v2) 79 (w32 ((w32 (5 * (up (up s 79 (w32 (5 * (s 69 14))).toNat v1) 79 (w32 ((w32 (5 * (up s 79 (w32 (5 * (s 69 14))).toNat v1 69 14))) + 1)).toNat v2 69 14))) + 2)).toNat v3) 79 (w32 ((w32 (5 * (up (up (up s 79 (w32 (5 * (s 69 14))).toNat v1) 79 (w32 ((w32 (5 * (up s 79 (w32 (5 * (s 69 14))).toNat v1 69 14))) + 1)).toNat v2) 79 (w32 ((w32 (5 * (up (up s 79 (w32 (5 * (s 69 14))).toNat v1) 79 (w32 ((w32 (5 * (up s 79 (w32 (5 * (s 69 14))).toNat v1 69 14))) + 1)).toNat v2 69 14))) + 2)).toNat v3 69 14))) + 3)).toNat v4 69 14))) + 4)).toNat v5) 69 14 (w32 ((up (up (up (up (up s 79 (w32 (5 * (s 69 14))).toNat v1) 79 (w32 ((w32 (5 * (up s 79 (w32 (5 * (s 69 14))).toNat v1 69 14))) + 1)).toNat v2) 79 (w32 ((w32 (5 * (up (up s 79 (w32 (5 * (s 69 14))).toNat v1) 79 (w32 ((w32 (5 * (up s 79 (w32 (5 * (s 69 14))).toNat v1 69 14))) + 1)).toNat v2 69 14))) + 2)).toNat v3) 79 (w32 ((w32 (5 * (up (up (up s 79 (w32 (5 * (s 69 14))).toNat v1) 79 (w32 ((w32 (5 * (up s 79 (w32 (5 * (s 69 14))).toNat v1 69 14))) + 1)).toNat v2) 79 (w32 ((w32 (5 * (up (up s 79 (w32 (5 * (s 69 14))).toNat v1) 79 (w32 ((w32 (5 * (up s 79 (w32 (5 * (s 69 14))).toNat v1 69 14))) + 1)).toNat v2 69 14))) + 2)).toNat v3 69 14))) + 3)).toNat v4) 79 (w32 ((w32 (5 * (up (up (up (up s 79 (w32 (5 * (s 69 14))).toNat v1) 79 (w32 ((w32 (5 * (up s 79 (w32 (5 * (s 69 14))).toNat v1 69 14))) + 1)).toNat v2) 79 (w32 ((w32 (5 * (up (up s 79 (w32 (5 * (s 69 14))).toNat v1) 79 (w32 ((w32 (5 * (up s 79 (w32 (5 * (s 69 14))).toNat v1 69 14))) + 1)).toNat v2 69 14))) + 2)).toNat v3) 79 (w32 ((w32 (5 * (up (up (up s 79 (w32 (5 * (s 69 14))).toNat v1) 79 (w32 ((w32 (5 * (up s 79 (w32 (5 * (s 69 14))).toNat v1 69 14))) + 1)).toNat v2) 79 (w32 ((w32 (5 * (up (up s 79 (w32 (5 * (s 69 14))).toNat v1) 79 (w32 ((w32 (5 * (up s 79 (w32 (5 * (s 69 14))).toNat v1 69 14))) + 1)).toNat v2 69 14))) + 2)).toNat v3 69 14))) + 3)).toNat v4 69 14))) + 4)).toNat v5 69 14) + 1))
def O_X12_puts (v1 : Int) (v2 : Int) (v3 : Int) (v4 : Int) (v5 : Int) (s : Sto) : Prop := (inb (w32 (5 * (s 69 14))) 40 ∧ (inb (w32 ((w32 (5 * (up s 79 (w32 (5 * (s 69 14))).toNat v1 69 14))) + 1)) 40 ∧ (inb (w32 ((w32 (5 * (up (up s 79 (w32 (5 * (s 69 14))).toNat v1) 79 (w32 ((w32 (5 * (up s 79 (w32 (5 * (s 69 14))).toNat v1 69 14))) + 1)).toNat v2 69 14))) + 2)) 40 ∧ (inb (w32 ((w32 (5 * (up (up (up s 79 (w32 (5 * (s 69 14))).toNat v1) 79 (w32 ((w32 (5 * (up s 79 (w32 (5 * (s 69 14))).toNat v1 69 14))) + 1)).toNat v2) 79 (w32 ((w32 (5 * (up (up s 79 (w32 (5 * (s 69 14))).toNat v1) 79 (w32 ((w32 (5 * (up s 79 (w32 (5 * (s 69 14))).toNat v1 69 14))) + 1)).toNat v2 69 14))) + 2)).toNat v3 69 14))) + 3)) 40 ∧ (inb (w32 ((w32 (5 * (up (up (up (up s 79 (w32 (5 * (s 69 14))).toNat v1) 79 (w32 ((w32 (5 * (up s 79 (w32 (5 * (s 69 14))).toNat v1 69 14))) + 1)).toNat v2) 79 (w32 ((w32 (5 * (up (up s 79 (w32 (5 * (s 69 14))).toNat v1) 79 (w32 ((w32 (5 * (up s 79 (w32 (5 * (s 69 14))).toNat v1 69 14))) + 1)).toNat v2 69 14))) + 2)).toNat v3) 79 (w32 ((w32 (5 * (up (up (up s 79 (w32 (5 * (s 69 14))).toNat v1) 79 (w32 ((w32 (5 * (up s 79 (w32 (5 * (s 69 14))).toNat v1 69 14))) + 1)).toNat v2) 79 (w32 ((w32 (5 * (up (up s 79 (w32 (5 * (s 69 14))).toNat v1) 79 (w32 ((w32 (5 * (up s 79 (w32 (5 * (s 69 14))).toNat v1 69 14))) + 1)).toNat v2 69 14))) + 2)).toNat v3 69 14))) + 3)).toNat v4 69 14))) + 4)) 40 ∧ True)))))
set_option maxRecDepth 100000 in
theorem C_X12_puts {v1 : Int} {v2 : Int} {v3 : Int} {v4 : Int} {v5 : Int} {s : Sto}  (h : O_X12_puts v1 v2 v3 v4 v5 s) : sr_C yX12_puts cX12_puts 6 none 0 [vR 69, vI v1, vI v2, vI v3, vI v4, vI v5] s (fun r s' => r = 0 ∧ s' = S_X12_puts v1 v2 v3 v4 v5 s) := by
  refine sr_C.of (by decide +kernel) (Nat.le_of_ble_eq_true rfl) ?_
  show sr_G RX12 cX12_puts 6 none 0 0 [(0, vR 69), (1, vI v1), (2, vI v2), (3, vI v3), (4, vI v4), (5, vI v5)] [] s (fun r s' => r = 0 ∧ s' = S_X12_puts v1 v2 v3 v4 v5 s)
  unfold O_X12_puts at h
  refine g_aload_n (pc' := 1) dX12_puts_0 rfl rfl ?_
  refine g_getR (pc' := 4) (r := 79) dX12_puts_1 rfl fl_RX12_37 kd_69 rfl rf_69_15 ?_
  refine g_iconst (pc' := 5) (by unfold r32; decide) dX12_puts_4 rfl ?_
  refine g_aload_n (pc' := 6) dX12_puts_5 rfl rfl ?_
  refine g_getI (pc' := 9) dX12_puts_6 rfl fl_RX12_160 kd_69 (Or.inl rfl) ?_
  refine g_imul (pc' := 10) dX12_puts_9 rfl ?_
  refine g_iload_n (pc' := 11) dX12_puts_10 rfl rfl ?_
  obtain ⟨ob1, h⟩ := h
  refine g_iast (pc' := 12) dX12_puts_11 rfl kd_79 ob1 ?_
  refine g_aload_n (pc' := 13) dX12_puts_12 rfl rfl ?_
  refine g_getR (pc' := 16) (r := 79) dX12_puts_13 rfl fl_RX12_37 kd_69 rfl rf_69_15 ?_
  refine g_iconst (pc' := 17) (by unfold r32; decide) dX12_puts_16 rfl ?_
  refine g_aload_n (pc' := 18) dX12_puts_17 rfl rfl ?_
  refine g_getI (pc' := 21) dX12_puts_18 rfl fl_RX12_160 kd_69 (Or.inl rfl) ?_
  refine g_imul (pc' := 22) dX12_puts_21 rfl ?_
  refine g_iconst (pc' := 23) (by unfold r32; decide) dX12_puts_22 rfl ?_
  refine g_iadd (pc' := 24) dX12_puts_23 rfl ?_
  refine g_iload_n (pc' := 25) dX12_puts_24 rfl rfl ?_
  obtain ⟨ob2, h⟩ := h
  refine g_iast (pc' := 26) dX12_puts_25 rfl kd_79 ob2 ?_
  refine g_aload_n (pc' := 27) dX12_puts_26 rfl rfl ?_
  refine g_getR (pc' := 30) (r := 79) dX12_puts_27 rfl fl_RX12_37 kd_69 rfl rf_69_15 ?_
  refine g_iconst (pc' := 31) (by unfold r32; decide) dX12_puts_30 rfl ?_
  refine g_aload_n (pc' := 32) dX12_puts_31 rfl rfl ?_
  refine g_getI (pc' := 35) dX12_puts_32 rfl fl_RX12_160 kd_69 (Or.inl rfl) ?_
  refine g_imul (pc' := 36) dX12_puts_35 rfl ?_
  refine g_iconst (pc' := 37) (by unfold r32; decide) dX12_puts_36 rfl ?_
  refine g_iadd (pc' := 38) dX12_puts_37 rfl ?_
  refine g_iload_n (pc' := 39) dX12_puts_38 rfl rfl ?_
  obtain ⟨ob3, h⟩ := h
  refine g_iast (pc' := 40) dX12_puts_39 rfl kd_79 ob3 ?_
  refine g_aload_n (pc' := 41) dX12_puts_40 rfl rfl ?_
  refine g_getR (pc' := 44) (r := 79) dX12_puts_41 rfl fl_RX12_37 kd_69 rfl rf_69_15 ?_
  refine g_iconst (pc' := 45) (by unfold r32; decide) dX12_puts_44 rfl ?_
  refine g_aload_n (pc' := 46) dX12_puts_45 rfl rfl ?_
  refine g_getI (pc' := 49) dX12_puts_46 rfl fl_RX12_160 kd_69 (Or.inl rfl) ?_
  refine g_imul (pc' := 50) dX12_puts_49 rfl ?_
  refine g_iconst (pc' := 51) (by unfold r32; decide) dX12_puts_50 rfl ?_
  refine g_iadd (pc' := 52) dX12_puts_51 rfl ?_
  refine g_iload (pc' := 54) dX12_puts_52 rfl rfl ?_
  obtain ⟨ob4, h⟩ := h
  refine g_iast (pc' := 55) dX12_puts_54 rfl kd_79 ob4 ?_
  refine g_aload_n (pc' := 56) dX12_puts_55 rfl rfl ?_
  refine g_getR (pc' := 59) (r := 79) dX12_puts_56 rfl fl_RX12_37 kd_69 rfl rf_69_15 ?_
  refine g_iconst (pc' := 60) (by unfold r32; decide) dX12_puts_59 rfl ?_
  refine g_aload_n (pc' := 61) dX12_puts_60 rfl rfl ?_
  refine g_getI (pc' := 64) dX12_puts_61 rfl fl_RX12_160 kd_69 (Or.inl rfl) ?_
  refine g_imul (pc' := 65) dX12_puts_64 rfl ?_
  refine g_iconst (pc' := 66) (by unfold r32; decide) dX12_puts_65 rfl ?_
  refine g_iadd (pc' := 67) dX12_puts_66 rfl ?_
  refine g_iload (pc' := 69) dX12_puts_67 rfl rfl ?_
  obtain ⟨ob5, h⟩ := h
  refine g_iast (pc' := 70) dX12_puts_69 rfl kd_79 ob5 ?_
  refine g_aload_n (pc' := 71) dX12_puts_70 rfl rfl ?_
  refine g_dupR (pc' := 72) dX12_puts_71 rfl ?_
  refine g_getI (pc' := 75) dX12_puts_72 rfl fl_RX12_160 kd_69 (Or.inl rfl) ?_
  refine g_iconst (pc' := 76) (by unfold r32; decide) dX12_puts_75 rfl ?_
  refine g_iadd (pc' := 77) dX12_puts_76 rfl ?_
  refine g_putI (pc' := 80) dX12_puts_77 rfl fp_RX12_160 kd_69 rfl ?_
  exact g_vret dX12_puts_80 rfl ⟨rfl, rfl⟩
def F_X12_blow (v1 : Int) (v2 : Int) (v3 : Int) (v4 : Int) (v5 : Int) (s : Sto) : Int := (if F_X12_isStep v1 s = 0 then (-2) else (if F_X12_in v2 0 35 s = 0 then (-2) else (if F_X12_in v3 0 3 s = 0 then (-2) else (if F_X12_in v4 1 9 s = 0 then (-2) else (if F_X12_in v5 0 3 s = 0 then (-2) else (if s 69 14 = 8 then (-4) else S_X12_puts v1 v2 v3 v4 v5 s 69 14))))))
def S_X12_blow (v1 : Int) (v2 : Int) (v3 : Int) (v4 : Int) (v5 : Int) (s : Sto) : Sto := (if F_X12_isStep v1 s = 0 then s else (if F_X12_in v2 0 35 s = 0 then s else (if F_X12_in v3 0 3 s = 0 then s else (if F_X12_in v4 1 9 s = 0 then s else (if F_X12_in v5 0 3 s = 0 then s else (if s 69 14 = 8 then s else S_X12_puts v1 v2 v3 v4 v5 s))))))
def O_X12_blow (v1 : Int) (v2 : Int) (v3 : Int) (v4 : Int) (v5 : Int) (s : Sto) : Prop := ((F_X12_isStep v1 s = 0 → True) ∧ (¬ F_X12_isStep v1 s = 0 → ((F_X12_in v2 0 35 s = 0 → True) ∧ (¬ F_X12_in v2 0 35 s = 0 → ((F_X12_in v3 0 3 s = 0 → True) ∧ (¬ F_X12_in v3 0 3 s = 0 → ((F_X12_in v4 1 9 s = 0 → True) ∧ (¬ F_X12_in v4 1 9 s = 0 → ((F_X12_in v5 0 3 s = 0 → True) ∧ (¬ F_X12_in v5 0 3 s = 0 → ((s 69 14 = 8 → True) ∧ (¬ s 69 14 = 8 → (O_X12_puts v1 v2 v3 v4 v5 s ∧ True)))))))))))))
set_option maxRecDepth 100000 in
theorem C_X12_blow {v1 : Int} {v2 : Int} {v3 : Int} {v4 : Int} {v5 : Int} {s : Sto}  (h : O_X12_blow v1 v2 v3 v4 v5 s) : sr_C yX12_blow cX12_blow 6 (some .int) 2 [vR 69, vI v1, vI v2, vI v3, vI v4, vI v5] s (fun r s' => r = F_X12_blow v1 v2 v3 v4 v5 s ∧ s' = S_X12_blow v1 v2 v3 v4 v5 s) := by
  refine sr_C.of (by decide +kernel) (Nat.le_of_ble_eq_true rfl) ?_
  show sr_G RX12 cX12_blow 6 (some .int) 2 0 [(0, vR 69), (1, vI v1), (2, vI v2), (3, vI v3), (4, vI v4), (5, vI v5)] [] s (fun r s' => r = F_X12_blow v1 v2 v3 v4 v5 s ∧ s' = S_X12_blow v1 v2 v3 v4 v5 s)
  unfold O_X12_blow at h
  refine g_iload_n (pc' := 1) dX12_blow_0 rfl rfl ?_
  refine g_S1z (pc' := 4) dX12_blow_1 rfl ms_RX12_155 (by decide) (Nat.le_of_ble_eq_true rfl) C_X12_isStep (sr_purb (fun hb1 => ?_))
  refine g_if_eq (pc' := 7) (tgt := 57) dX12_blow_4 rfl rfl (fun c2 => ?_) (fun c2 => ?_)
  · have h := h.1 c2
    refine g_bipush (pc' := 59) ⟨by unfold r32; decide, rfl⟩ dX12_blow_57 rfl ?_
    exact g_iret dX12_blow_59 rfl ⟨(by simp only [F_X12_blow, if_pos c2]), (by simp only [S_X12_blow, if_pos c2])⟩
  · have h := h.2 c2
    refine g_iload_n (pc' := 8) dX12_blow_7 rfl rfl ?_
    refine g_i2l (pc' := 9) dX12_blow_8 rfl ?_
    refine g_lconst (pc' := 10) (z := 0) ⟨by unfold r64; decide, rfl⟩ dX12_blow_9 rfl ?_
    refine g_ldc2 (pc' := 13) (z := 35) (by unfold r64; decide) kc_RX12_150 dX12_blow_10 rfl ?_
    refine g_S3z (pc' := 16) dX12_blow_13 rfl ms_RX12_76 (by decide) (Nat.le_of_ble_eq_true rfl) C_X12_in (sr_purb (fun hb3 => ?_))
    refine g_if_eq (pc' := 19) (tgt := 57) dX12_blow_16 rfl rfl (fun c4 => ?_) (fun c4 => ?_)
    · have h := h.1 c4
      refine g_bipush (pc' := 59) ⟨by unfold r32; decide, rfl⟩ dX12_blow_57 rfl ?_
      exact g_iret dX12_blow_59 rfl ⟨(by simp only [F_X12_blow, if_neg c2, if_pos c4]), (by simp only [S_X12_blow, if_neg c2, if_pos c4])⟩
    · have h := h.2 c4
      refine g_iload_n (pc' := 20) dX12_blow_19 rfl rfl ?_
      refine g_i2l (pc' := 21) dX12_blow_20 rfl ?_
      refine g_lconst (pc' := 22) (z := 0) ⟨by unfold r64; decide, rfl⟩ dX12_blow_21 rfl ?_
      refine g_ldc2 (pc' := 25) (z := 3) (by unfold r64; decide) kc_RX12_83 dX12_blow_22 rfl ?_
      refine g_S3z (pc' := 28) dX12_blow_25 rfl ms_RX12_76 (by decide) (Nat.le_of_ble_eq_true rfl) C_X12_in (sr_purb (fun hb5 => ?_))
      refine g_if_eq (pc' := 31) (tgt := 57) dX12_blow_28 rfl rfl (fun c6 => ?_) (fun c6 => ?_)
      · have h := h.1 c6
        refine g_bipush (pc' := 59) ⟨by unfold r32; decide, rfl⟩ dX12_blow_57 rfl ?_
        exact g_iret dX12_blow_59 rfl ⟨(by simp only [F_X12_blow, if_neg c2, if_neg c4, if_pos c6]), (by simp only [S_X12_blow, if_neg c2, if_neg c4, if_pos c6])⟩
      · have h := h.2 c6
        refine g_iload (pc' := 33) dX12_blow_31 rfl rfl ?_
        refine g_i2l (pc' := 34) dX12_blow_33 rfl ?_
        refine g_lconst (pc' := 35) (z := 1) ⟨by unfold r64; decide, rfl⟩ dX12_blow_34 rfl ?_
        refine g_ldc2 (pc' := 38) (z := 9) (by unfold r64; decide) kc_RX12_163 dX12_blow_35 rfl ?_
        refine g_S3z (pc' := 41) dX12_blow_38 rfl ms_RX12_76 (by decide) (Nat.le_of_ble_eq_true rfl) C_X12_in (sr_purb (fun hb7 => ?_))
        refine g_if_eq (pc' := 44) (tgt := 57) dX12_blow_41 rfl rfl (fun c8 => ?_) (fun c8 => ?_)
        · have h := h.1 c8
          refine g_bipush (pc' := 59) ⟨by unfold r32; decide, rfl⟩ dX12_blow_57 rfl ?_
          exact g_iret dX12_blow_59 rfl ⟨(by simp only [F_X12_blow, if_neg c2, if_neg c4, if_neg c6, if_pos c8]), (by simp only [S_X12_blow, if_neg c2, if_neg c4, if_neg c6, if_pos c8])⟩
        · have h := h.2 c8
          refine g_iload (pc' := 46) dX12_blow_44 rfl rfl ?_
          refine g_i2l (pc' := 47) dX12_blow_46 rfl ?_
          refine g_lconst (pc' := 48) (z := 0) ⟨by unfold r64; decide, rfl⟩ dX12_blow_47 rfl ?_
          refine g_ldc2 (pc' := 51) (z := 3) (by unfold r64; decide) kc_RX12_83 dX12_blow_48 rfl ?_
          refine g_S3z (pc' := 54) dX12_blow_51 rfl ms_RX12_76 (by decide) (Nat.le_of_ble_eq_true rfl) C_X12_in (sr_purb (fun hb9 => ?_))
          refine g_if_ne (pc' := 57) (tgt := 60) dX12_blow_54 rfl rfl (fun c10 => ?_) (fun c10 => ?_)
          · have h := h.2 c10
            refine g_aload_n (pc' := 61) dX12_blow_60 rfl rfl ?_
            refine g_getI (pc' := 64) dX12_blow_61 rfl fl_RX12_160 kd_69 (Or.inl rfl) ?_
            refine g_bipush (pc' := 66) ⟨by unfold r32; decide, rfl⟩ dX12_blow_64 rfl ?_
            refine g_ic_ne (pc' := 69) (tgt := 72) dX12_blow_66 rfl rfl (fun c11 => ?_) (fun c11 => ?_)
            · have h := h.2 c11
              refine g_aload_n (pc' := 73) dX12_blow_72 rfl rfl ?_
              refine g_iload_n (pc' := 74) dX12_blow_73 rfl rfl ?_
              refine g_iload_n (pc' := 75) dX12_blow_74 rfl rfl ?_
              refine g_iload_n (pc' := 76) dX12_blow_75 rfl rfl ?_
              refine g_iload (pc' := 78) dX12_blow_76 rfl rfl ?_
              refine g_iload (pc' := 80) dX12_blow_78 rfl rfl ?_
              obtain ⟨ob12, h⟩ := h
              refine g_V5v (pc' := 83) dX12_blow_80 rfl mv_RX12_165 kd_69 (by decide) (Nat.le_of_ble_eq_true rfl) (C_X12_puts ob12) (sr_purv ?_)
              refine g_aload_n (pc' := 84) dX12_blow_83 rfl rfl ?_
              refine g_getI (pc' := 87) dX12_blow_84 rfl fl_RX12_160 kd_69 (Or.inl rfl) ?_
              exact g_iret dX12_blow_87 rfl ⟨(by simp only [F_X12_blow, if_neg c2, if_neg c4, if_neg c6, if_neg c8, if_neg c10, if_neg c11]), (by simp only [S_X12_blow, if_neg c2, if_neg c4, if_neg c6, if_neg c8, if_neg c10, if_neg c11])⟩
            · have h := h.1 c11
              refine g_bipush (pc' := 71) ⟨by unfold r32; decide, rfl⟩ dX12_blow_69 rfl ?_
              exact g_iret dX12_blow_71 rfl ⟨(by simp only [F_X12_blow, if_neg c2, if_neg c4, if_neg c6, if_neg c8, if_neg c10, if_pos c11]), (by simp only [S_X12_blow, if_neg c2, if_neg c4, if_neg c6, if_neg c8, if_neg c10, if_pos c11])⟩
          · have h := h.1 c10
            refine g_bipush (pc' := 59) ⟨by unfold r32; decide, rfl⟩ dX12_blow_57 rfl ?_
            exact g_iret dX12_blow_59 rfl ⟨(by simp only [F_X12_blow, if_neg c2, if_neg c4, if_neg c6, if_neg c8, if_pos c10]), (by simp only [S_X12_blow, if_neg c2, if_neg c4, if_neg c6, if_neg c8, if_pos c10])⟩
def F_X12_isRing (v1 : Int) (s : Sto) : Int := F_X12_in v1 0 (w32 ((s 69 14) - 1)) s
set_option maxRecDepth 100000 in
theorem C_X12_isRing {v1 : Int} {s : Sto}   : sr_C yX12_isRing cX12_isRing 2 (some .boolean) 1 [vR 69, vI v1] s (fun r s' => r = F_X12_isRing v1 s ∧ s' = s ∧ (r = 0 ∨ r = 1)) := by
  refine sr_C.of (by decide +kernel) (Nat.le_of_ble_eq_true rfl) ?_
  show sr_G RX12 cX12_isRing 2 (some .boolean) 1 0 [(0, vR 69), (1, vI v1)] [] s (fun r s' => r = F_X12_isRing v1 s ∧ s' = s ∧ (r = 0 ∨ r = 1))
  refine g_iload_n (pc' := 1) dX12_isRing_0 rfl rfl ?_
  refine g_i2l (pc' := 2) dX12_isRing_1 rfl ?_
  refine g_lconst (pc' := 3) (z := 0) ⟨by unfold r64; decide, rfl⟩ dX12_isRing_2 rfl ?_
  refine g_aload_n (pc' := 4) dX12_isRing_3 rfl rfl ?_
  refine g_getI (pc' := 7) dX12_isRing_4 rfl fl_RX12_160 kd_69 (Or.inl rfl) ?_
  refine g_iconst (pc' := 8) (by unfold r32; decide) dX12_isRing_7 rfl ?_
  refine g_isub (pc' := 9) dX12_isRing_8 rfl ?_
  refine g_i2l (pc' := 10) dX12_isRing_9 rfl ?_
  refine g_S3z (pc' := 13) dX12_isRing_10 rfl ms_RX12_76 (by decide) (Nat.le_of_ble_eq_true rfl) C_X12_in (sr_purb (fun hb1 => ?_))
  exact g_zret dX12_isRing_13 rfl hb1 ⟨rfl, rfl, hb1⟩
def F_X12_ring (v1 : Int) (v2 : Int) (s : Sto) : Int := (if F_X12_isRing v1 s = 0 then (-2) else (if F_X12_in v2 0 4 s = 0 then (-2) else s 79 (w32 ((w32 (5 * v1)) + v2)).toNat))
def O_X12_ring (v1 : Int) (v2 : Int) (s : Sto) : Prop := ((F_X12_isRing v1 s = 0 → True) ∧ (¬ F_X12_isRing v1 s = 0 → ((F_X12_in v2 0 4 s = 0 → True) ∧ (¬ F_X12_in v2 0 4 s = 0 → (inb (w32 ((w32 (5 * v1)) + v2)) 40 ∧ True)))))
set_option maxRecDepth 100000 in
theorem C_X12_ring {v1 : Int} {v2 : Int} {s : Sto}  (h : O_X12_ring v1 v2 s) : sr_C yX12_ring cX12_ring 3 (some .int) 2 [vR 69, vI v1, vI v2] s (fun r s' => r = F_X12_ring v1 v2 s ∧ s' = s) := by
  refine sr_C.of (by decide +kernel) (Nat.le_of_ble_eq_true rfl) ?_
  show sr_G RX12 cX12_ring 3 (some .int) 2 0 [(0, vR 69), (1, vI v1), (2, vI v2)] [] s (fun r s' => r = F_X12_ring v1 v2 s ∧ s' = s)
  unfold O_X12_ring at h
  refine g_aload_n (pc' := 1) dX12_ring_0 rfl rfl ?_
  refine g_iload_n (pc' := 2) dX12_ring_1 rfl rfl ?_
  refine g_V1z (pc' := 5) dX12_ring_2 rfl mv_RX12_169 kd_69 (by decide) (Nat.le_of_ble_eq_true rfl) C_X12_isRing (sr_purb (fun hb1 => ?_))
  refine g_if_eq (pc' := 8) (tgt := 33) dX12_ring_5 rfl rfl (fun c2 => ?_) (fun c2 => ?_)
  · have h := h.1 c2
    refine g_bipush (pc' := 35) ⟨by unfold r32; decide, rfl⟩ dX12_ring_33 rfl ?_
    exact g_iret dX12_ring_35 rfl ⟨(by simp only [F_X12_ring, if_pos c2]), rfl⟩
  · have h := h.2 c2
    refine g_iload_n (pc' := 9) dX12_ring_8 rfl rfl ?_
    refine g_i2l (pc' := 10) dX12_ring_9 rfl ?_
    refine g_lconst (pc' := 11) (z := 0) ⟨by unfold r64; decide, rfl⟩ dX12_ring_10 rfl ?_
    refine g_ldc2 (pc' := 14) (z := 4) (by unfold r64; decide) kc_RX12_158 dX12_ring_11 rfl ?_
    refine g_S3z (pc' := 17) dX12_ring_14 rfl ms_RX12_76 (by decide) (Nat.le_of_ble_eq_true rfl) C_X12_in (sr_purb (fun hb3 => ?_))
    refine g_if_eq (pc' := 20) (tgt := 33) dX12_ring_17 rfl rfl (fun c4 => ?_) (fun c4 => ?_)
    · have h := h.1 c4
      refine g_bipush (pc' := 35) ⟨by unfold r32; decide, rfl⟩ dX12_ring_33 rfl ?_
      exact g_iret dX12_ring_35 rfl ⟨(by simp only [F_X12_ring, if_neg c2, if_pos c4]), rfl⟩
    · have h := h.2 c4
      refine g_aload_n (pc' := 21) dX12_ring_20 rfl rfl ?_
      refine g_getR (pc' := 24) (r := 79) dX12_ring_21 rfl fl_RX12_37 kd_69 rfl rf_69_15 ?_
      refine g_iconst (pc' := 25) (by unfold r32; decide) dX12_ring_24 rfl ?_
      refine g_iload_n (pc' := 26) dX12_ring_25 rfl rfl ?_
      refine g_imul (pc' := 27) dX12_ring_26 rfl ?_
      refine g_iload_n (pc' := 28) dX12_ring_27 rfl rfl ?_
      refine g_iadd (pc' := 29) dX12_ring_28 rfl ?_
      obtain ⟨ob5, h⟩ := h
      refine g_iald (pc' := 30) dX12_ring_29 rfl kd_79 ob5 ?_
      refine g_goto (pc' := 35) dX12_ring_30 rfl ?_
      exact g_iret dX12_ring_35 rfl ⟨(by simp only [F_X12_ring, if_neg c2, if_neg c4]), rfl⟩
def F_X12_back (s : Sto) : Int := (if s 69 14 = 0 then (-3) else up s 69 14 (w32 ((s 69 14) - 1)) 69 14)
def S_X12_back (s : Sto) : Sto := (if s 69 14 = 0 then s else up s 69 14 (w32 ((s 69 14) - 1)))
set_option maxRecDepth 100000 in
theorem C_X12_back {s : Sto}   : sr_C yX12_back cX12_back 1 (some .int) 0 [vR 69] s (fun r s' => r = F_X12_back s ∧ s' = S_X12_back s) := by
  refine sr_C.of (by decide +kernel) (Nat.le_of_ble_eq_true rfl) ?_
  show sr_G RX12 cX12_back 1 (some .int) 0 0 [(0, vR 69)] [] s (fun r s' => r = F_X12_back s ∧ s' = S_X12_back s)
  refine g_aload_n (pc' := 1) dX12_back_0 rfl rfl ?_
  refine g_getI (pc' := 4) dX12_back_1 rfl fl_RX12_160 kd_69 (Or.inl rfl) ?_
  refine g_if_ne (pc' := 7) (tgt := 10) dX12_back_4 rfl rfl (fun c1 => ?_) (fun c1 => ?_)
  · refine g_aload_n (pc' := 11) dX12_back_10 rfl rfl ?_
    refine g_dupR (pc' := 12) dX12_back_11 rfl ?_
    refine g_getI (pc' := 15) dX12_back_12 rfl fl_RX12_160 kd_69 (Or.inl rfl) ?_
    refine g_iconst (pc' := 16) (by unfold r32; decide) dX12_back_15 rfl ?_
    refine g_isub (pc' := 17) dX12_back_16 rfl ?_
    refine g_putI (pc' := 20) dX12_back_17 rfl fp_RX12_160 kd_69 rfl ?_
    refine g_aload_n (pc' := 21) dX12_back_20 rfl rfl ?_
    refine g_getI (pc' := 24) dX12_back_21 rfl fl_RX12_160 kd_69 (Or.inl rfl) ?_
    exact g_iret dX12_back_24 rfl ⟨(by simp only [F_X12_back, if_neg c1]), (by simp only [S_X12_back, if_neg c1])⟩
  · refine g_bipush (pc' := 9) ⟨by unfold r32; decide, rfl⟩ dX12_back_7 rfl ?_
    exact g_iret dX12_back_9 rfl ⟨(by simp only [F_X12_back, if_pos c1]), (by simp only [S_X12_back, if_pos c1])⟩
def L_X12_read_29 (v1 : Int) (K128 : Int → Sto → Prop) : Nat → Int → Int → Sto → Prop
  | 0, _, _, _ => False
  | n + 1, v2, v3, s => ((v3 = 0 → K128 v2 s) ∧ (¬ v3 = 0 → (inb v1 4 ∧ ((s 71 v1.toNat < w32 ((w32 (5 * v2)) + 5) → K128 v2 s) ∧ (¬ s 71 v1.toNat < w32 ((w32 (5 * v2)) + 5) → (∀ x4 : Int, x4 = w32 ((w32 (60 * v1)) + (w32 (5 * v2))) → (inb x4 240 ∧ (inb (w32 (x4 + 1)) 240 ∧ (inb (w32 (x4 + 2)) 240 ∧ (inb (w32 (x4 + 3)) 240 ∧ (inb (w32 (x4 + 4)) 240 ∧ (O_X12_blow (s 72 x4.toNat) (s 72 (w32 (x4 + 1)).toNat) (s 72 (w32 (x4 + 2)).toNat) (s 72 (w32 (x4 + 3)).toNat) (s 72 (w32 (x4 + 4)).toNat) s ∧ (∀ s11 : Sto, s11 = S_X12_blow (s 72 x4.toNat) (s 72 (w32 (x4 + 1)).toNat) (s 72 (w32 (x4 + 2)).toNat) (s 72 (w32 (x4 + 3)).toNat) (s 72 (w32 (x4 + 4)).toNat) s → (∀ x12 : Int, x12 = (if F_X12_blow (s 72 x4.toNat) (s 72 (w32 (x4 + 1)).toNat) (s 72 (w32 (x4 + 2)).toNat) (s 72 (w32 (x4 + 3)).toNat) (s 72 (w32 (x4 + 4)).toNat) s < 0 then 0 else 1) → (∀ x14 : Int, x14 = (if x12 = 0 then 0 else 1) → (∀ x16 : Int, x16 = w32 (v2 + x14) → L_X12_read_29 v1 K128 n x16 x12 s11))))))))))))))))
set_option maxRecDepth 100000 in
theorem SL_X12_read_29 {v1 : Int} {K128 : Int → Sto → Prop} {Q : Int → Sto → Prop}  (hK128 : ∀ v2 s, K128 v2 s → sr_G RX12 cX12_read 5 (some .int) 3 128 [(2, vI v2)] [] s Q) : ∀ n v2 v3 s, L_X12_read_29 v1 K128 n v2 v3 s → sr_G RX12 cX12_read 5 (some .int) 3 29 [(0, vR 69), (1, vI v1), (2, vI v2), (3, vI v3)] [] s Q := by
  intro n
  induction n with
  | zero => intro v2 v3 s h; exact h.elim
  | succ n ih =>
    intro v2 v3 s h
    unfold L_X12_read_29 at h
    refine g_iload_n (pc' := 30) dX12_read_29 rfl rfl ?_
    refine g_if_eq (pc' := 33) (tgt := 128) dX12_read_30 rfl rfl (fun c1 => ?_) (fun c1 => ?_)
    · have h := h.1 c1
      exact (hK128 _ _ h).to ((sb_c rfl sb_n))
    · have h := h.2 c1
      refine g_iconst (pc' := 34) (by unfold r32; decide) dX12_read_33 rfl ?_
      refine g_iload_n (pc' := 35) dX12_read_34 rfl rfl ?_
      refine g_imul (pc' := 36) dX12_read_35 rfl ?_
      refine g_iconst (pc' := 37) (by unfold r32; decide) dX12_read_36 rfl ?_
      refine g_iadd (pc' := 38) dX12_read_37 rfl ?_
      refine g_aload_n (pc' := 39) dX12_read_38 rfl rfl ?_
      refine g_getR (pc' := 42) (r := 71) dX12_read_39 rfl fl_RX12_13 kd_69 rfl rf_69_1 ?_
      refine g_iload_n (pc' := 43) dX12_read_42 rfl rfl ?_
      obtain ⟨ob2, h⟩ := h
      refine g_iald (pc' := 44) dX12_read_43 rfl kd_71 ob2 ?_
      refine g_ic_gt (pc' := 47) (tgt := 128) dX12_read_44 rfl rfl (fun c3 => ?_) (fun c3 => ?_)
      · have h := h.1 c3
        exact (hK128 _ _ h).to ((sb_c rfl sb_n))
      · have h := h.2 c3
        refine g_bipush (pc' := 49) ⟨by unfold r32; decide, rfl⟩ dX12_read_47 rfl ?_
        refine g_iload_n (pc' := 50) dX12_read_49 rfl rfl ?_
        refine g_imul (pc' := 51) dX12_read_50 rfl ?_
        refine g_iconst (pc' := 52) (by unfold r32; decide) dX12_read_51 rfl ?_
        refine g_iload_n (pc' := 53) dX12_read_52 rfl rfl ?_
        refine g_imul (pc' := 54) dX12_read_53 rfl ?_
        refine g_iadd (pc' := 55) dX12_read_54 rfl ?_
        refine g_topI (fun x4 ex4 => ?_)
        have h := h x4 ex4
        refine g_istore (pc' := 57) dX12_read_55 rfl (by decide) ?_
        refine g_aload_n (pc' := 58) dX12_read_57 rfl rfl ?_
        refine g_aload_n (pc' := 59) dX12_read_58 rfl rfl ?_
        refine g_getR (pc' := 62) (r := 72) dX12_read_59 rfl fl_RX12_16 kd_69 rfl rf_69_2 ?_
        refine g_iload (pc' := 64) dX12_read_62 rfl rfl ?_
        obtain ⟨ob5, h⟩ := h
        refine g_iald (pc' := 65) dX12_read_64 rfl kd_72 ob5 ?_
        refine g_aload_n (pc' := 66) dX12_read_65 rfl rfl ?_
        refine g_getR (pc' := 69) (r := 72) dX12_read_66 rfl fl_RX12_16 kd_69 rfl rf_69_2 ?_
        refine g_iload (pc' := 71) dX12_read_69 rfl rfl ?_
        refine g_iconst (pc' := 72) (by unfold r32; decide) dX12_read_71 rfl ?_
        refine g_iadd (pc' := 73) dX12_read_72 rfl ?_
        obtain ⟨ob6, h⟩ := h
        refine g_iald (pc' := 74) dX12_read_73 rfl kd_72 ob6 ?_
        refine g_aload_n (pc' := 75) dX12_read_74 rfl rfl ?_
        refine g_getR (pc' := 78) (r := 72) dX12_read_75 rfl fl_RX12_16 kd_69 rfl rf_69_2 ?_
        refine g_iload (pc' := 80) dX12_read_78 rfl rfl ?_
        refine g_iconst (pc' := 81) (by unfold r32; decide) dX12_read_80 rfl ?_
        refine g_iadd (pc' := 82) dX12_read_81 rfl ?_
        obtain ⟨ob7, h⟩ := h
        refine g_iald (pc' := 83) dX12_read_82 rfl kd_72 ob7 ?_
        refine g_aload_n (pc' := 84) dX12_read_83 rfl rfl ?_
        refine g_getR (pc' := 87) (r := 72) dX12_read_84 rfl fl_RX12_16 kd_69 rfl rf_69_2 ?_
        refine g_iload (pc' := 89) dX12_read_87 rfl rfl ?_
        refine g_iconst (pc' := 90) (by unfold r32; decide) dX12_read_89 rfl ?_
        refine g_iadd (pc' := 91) dX12_read_90 rfl ?_
        obtain ⟨ob8, h⟩ := h
        refine g_iald (pc' := 92) dX12_read_91 rfl kd_72 ob8 ?_
        refine g_aload_n (pc' := 93) dX12_read_92 rfl rfl ?_
        refine g_getR (pc' := 96) (r := 72) dX12_read_93 rfl fl_RX12_16 kd_69 rfl rf_69_2 ?_
        refine g_iload (pc' := 98) dX12_read_96 rfl rfl ?_
        refine g_iconst (pc' := 99) (by unfold r32; decide) dX12_read_98 rfl ?_
        refine g_iadd (pc' := 100) dX12_read_99 rfl ?_
        obtain ⟨ob9, h⟩ := h
        refine g_iald (pc' := 101) dX12_read_100 rfl kd_72 ob9 ?_
        obtain ⟨ob10, h⟩ := h
        refine g_V5i (pc' := 104) dX12_read_101 rfl mv_RX12_172 kd_69 (by decide) (Nat.le_of_ble_eq_true rfl) (C_X12_blow ob10) (sr_pur ?_)
        refine g_sto (fun s11 es11 => ?_)
        have h := h s11 es11
        refine sr_join (v := (if F_X12_blow (s 72 x4.toNat) (s 72 (w32 (x4 + 1)).toNat) (s 72 (w32 (x4 + 2)).toNat) (s 72 (w32 (x4 + 3)).toNat) (s 72 (w32 (x4 + 4)).toNat) s < 0 then 0 else 1)) (GG := fun x12 => sr_G RX12 cX12_read 5 (some .int) 3 112 [(0, vR 69), (1, vI v1), (2, vI v2)] [vI x12] s11 Q) (fun x12 ex12 => ?_) (fun hj => ?_)
        · have h := h x12 ex12
          refine g_istore_n (pc' := 113) dX12_read_112 rfl (by decide) ?_
          refine g_iload_n (pc' := 114) dX12_read_113 rfl rfl ?_
          refine g_iload_n (pc' := 115) dX12_read_114 rfl rfl ?_
          refine sr_join (v := (if x12 = 0 then 0 else 1)) (GG := fun x14 => sr_G RX12 cX12_read 5 (some .int) 3 123 [(0, vR 69), (1, vI v1), (3, vI x12)] [vI x14, vI v2] s11 Q) (fun x14 ex14 => ?_) (fun hj => ?_)
          · have h := h x14 ex14
            refine g_iadd (pc' := 124) dX12_read_123 rfl ?_
            refine g_topI (fun x16 ex16 => ?_)
            have h := h x16 ex16
            refine g_istore_n (pc' := 125) dX12_read_124 rfl (by decide) ?_
            refine g_goto (pc' := 29) dX12_read_125 rfl ?_
            exact (ih _ _ _ h).to ((sb_c rfl (sb_c rfl (sb_c rfl (sb_c rfl sb_n)))))
          · refine g_if_eq (pc' := 118) (tgt := 122) dX12_read_115 rfl rfl (fun c15 => ?_) (fun c15 => ?_)
            · refine g_iconst (pc' := 123) (by unfold r32; decide) dX12_read_122 rfl ?_
              exact (hj _ (by rw [if_pos c15])).to ((sb_c rfl (sb_c rfl (sb_c rfl sb_n))))
            · refine g_iconst (pc' := 119) (by unfold r32; decide) dX12_read_118 rfl ?_
              refine g_goto (pc' := 123) dX12_read_119 rfl ?_
              exact (hj _ (by rw [if_neg c15])).to ((sb_c rfl (sb_c rfl (sb_c rfl sb_n))))
        · refine g_if_lt (pc' := 107) (tgt := 111) dX12_read_104 rfl rfl (fun c13 => ?_) (fun c13 => ?_)
          · refine g_iconst (pc' := 112) (by unfold r32; decide) dX12_read_111 rfl ?_
            exact (hj _ (by rw [if_pos c13])).to ((sb_c rfl (sb_c rfl (sb_c rfl sb_n))))
          · refine g_iconst (pc' := 108) (by unfold r32; decide) dX12_read_107 rfl ?_
            refine g_goto (pc' := 112) dX12_read_108 rfl ?_
            exact (hj _ (by rw [if_neg c13])).to ((sb_c rfl (sb_c rfl (sb_c rfl sb_n))))
def P_X12_read (v1 : Int) (s : Sto) (Q : Int → Sto → Prop) : Prop := ((F_X12_isSheet v1 s = 0 → Q ((-2)) s) ∧ (¬ F_X12_isSheet v1 s = 0 → (inb v1 4 ∧ ((0 ≤ s 70 v1.toNat → (∃ n7, L_X12_read_29 v1 (fun x5 s6 => Q x5 s6) n7 0 1 s)) ∧ (¬ 0 ≤ s 70 v1.toNat → (∀ s8 : Sto, s8 = S_X12_finds 1 s → Q (F_X12_finds 1 s) s8))))))
set_option maxRecDepth 100000 in
theorem C_X12_read {v1 : Int} {s : Sto} {Q : Int → Sto → Prop}  (h : P_X12_read v1 s Q) : sr_C yX12_read cX12_read 5 (some .int) 3 [vR 69, vI v1] s Q := by
  refine sr_C.of (by decide +kernel) (Nat.le_of_ble_eq_true rfl) ?_
  show sr_G RX12 cX12_read 5 (some .int) 3 0 [(0, vR 69), (1, vI v1)] [] s Q
  unfold P_X12_read at h
  refine g_iload_n (pc' := 1) dX12_read_0 rfl rfl ?_
  refine g_S1z (pc' := 4) dX12_read_1 rfl ms_RX12_85 (by decide) (Nat.le_of_ble_eq_true rfl) C_X12_isSheet (sr_purb (fun hb1 => ?_))
  refine g_if_ne (pc' := 7) (tgt := 10) dX12_read_4 rfl rfl (fun c2 => ?_) (fun c2 => ?_)
  · have h := h.2 c2
    refine g_aload_n (pc' := 11) dX12_read_10 rfl rfl ?_
    refine g_getR (pc' := 14) (r := 70) dX12_read_11 rfl fl_RX12_7 kd_69 rfl rf_69_0 ?_
    refine g_iload_n (pc' := 15) dX12_read_14 rfl rfl ?_
    obtain ⟨ob3, h⟩ := h
    refine g_iald (pc' := 16) dX12_read_15 rfl kd_70 ob3 ?_
    refine g_if_ge (pc' := 19) (tgt := 25) dX12_read_16 rfl rfl (fun c4 => ?_) (fun c4 => ?_)
    · have h := h.1 c4
      refine g_iconst (pc' := 26) (by unfold r32; decide) dX12_read_25 rfl ?_
      refine g_istore_n (pc' := 27) dX12_read_26 rfl (by decide) ?_
      refine g_iconst (pc' := 28) (by unfold r32; decide) dX12_read_27 rfl ?_
      refine g_istore_n (pc' := 29) dX12_read_28 rfl (by decide) ?_
      obtain ⟨n7, h⟩ := h
      refine (SL_X12_read_29  (fun x5 s6 h => ?_) n7 _ _ _ h).to ((sb_c rfl (sb_c rfl (sb_c rfl (sb_c rfl sb_n)))))
      · refine g_iload_n (pc' := 129) dX12_read_128 rfl rfl ?_
        exact g_iret dX12_read_129 rfl h
    · have h := h.2 c4
      refine g_aload_n (pc' := 20) dX12_read_19 rfl rfl ?_
      refine g_iconst (pc' := 21) (by unfold r32; decide) dX12_read_20 rfl ?_
      refine g_V1i (pc' := 24) dX12_read_21 rfl mv_RX12_91 kd_69 (by decide) (Nat.le_of_ble_eq_true rfl) C_X12_finds (sr_pur ?_)
      refine g_sto (fun s8 es8 => ?_)
      have h := h s8 es8
      exact g_iret dX12_read_24 rfl h
  · have h := h.1 c2
    refine g_bipush (pc' := 9) ⟨by unfold r32; decide, rfl⟩ dX12_read_7 rfl ?_
    exact g_iret dX12_read_9 rfl h
