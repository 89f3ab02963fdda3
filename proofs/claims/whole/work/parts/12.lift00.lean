theorem sr_pur {X : Int → Sto → Prop} {v : Int} {s' : Sto} (k : X v s') : ∀ r s1, (r = v ∧ s1 = s') → X r s1 := fun r s1 h => by rw [h.1, h.2]; exact k
theorem sr_purb {X : Int → Sto → Prop} {v : Int} {s' : Sto} (k : (v = 0 ∨ v = 1) → X v s') : ∀ r s1, (r = v ∧ s1 = s' ∧ (r = 0 ∨ r = 1)) → X r s1 := fun r s1 h => by
  obtain ⟨h1, h2, h3⟩ := h
  rw [h1] at h3
  rw [h1, h2]
  exact k h3
theorem sr_purv {X : Sto → Prop} {s' : Sto} (k : X s') : ∀ s1, ((0 : Int) = 0 ∧ s1 = s') → X s1 := fun s1 h => by rw [h.2]; exact k
theorem al_r (c : Nat) : r32 (al c : Int) := by
  have h : ∀ i, i < NP → al i < 2147483648 := by decide +kernel
  rcases Nat.lt_or_ge c NP with q | q
  · have := h c q
    unfold r32; omega
  · have e : al c = 0 := by
      unfold al
      rw [List.getD_eq_getElem?_getD, List.getElem?_eq_none (by exact q)]
      rfl
    rw [e]; unfold r32; omega
theorem tout_0_2 {x : Int} (c0 : ¬ x = 0) (c1 : ¬ x = 1) (c2 : ¬ x = 2) : x < 0 ∨ 2 < x := by omega
theorem tout_0_3 {x : Int} (c0 : ¬ x = 0) (c1 : ¬ x = 1) (c2 : ¬ x = 2) (c3 : ¬ x = 3) : x < 0 ∨ 3 < x := by omega
theorem tout_0_4 {x : Int} (c0 : ¬ x = 0) (c1 : ¬ x = 1) (c2 : ¬ x = 2) (c3 : ¬ x = 3) (c4 : ¬ x = 4) : x < 0 ∨ 4 < x := by omega
theorem tout_0_8 {x : Int} (c0 : ¬ x = 0) (c1 : ¬ x = 1) (c2 : ¬ x = 2) (c3 : ¬ x = 3) (c4 : ¬ x = 4) (c5 : ¬ x = 5) (c6 : ¬ x = 6) (c7 : ¬ x = 7) (c8 : ¬ x = 8) : x < 0 ∨ 8 < x := by omega
def F_J9_min_7cf53 (v0 : Int) (v1 : Int) (s : Sto) : Int := (if v1 < v0 then v1 else v0)
set_option maxRecDepth 100000 in
theorem C_J9_min_7cf53 {v0 : Int} {v1 : Int} {s : Sto}   : sr_C yJ9_min_7cf53 cJ9_min_7cf53 2 (some .int) 0 [vI v0, vI v1] s (fun r s' => r = F_J9_min_7cf53 v0 v1 s ∧ s' = s) := by
  refine sr_C.of (by decide +kernel) (Nat.le_of_ble_eq_true rfl) ?_
  show sr_G RJ9 cJ9_min_7cf53 2 (some .int) 0 0 [(0, vI v0), (1, vI v1)] [] s (fun r s' => r = F_J9_min_7cf53 v0 v1 s ∧ s' = s)
  refine g_iload_n (pc' := 1) dJ9_min_7cf53_0 rfl rfl ?_
  refine g_iload_n (pc' := 2) dJ9_min_7cf53_1 rfl rfl ?_
  refine g_ic_gt (pc' := 5) (tgt := 9) dJ9_min_7cf53_2 rfl rfl (fun c1 => ?_) (fun c1 => ?_)
  · refine g_iload_n (pc' := 10) dJ9_min_7cf53_9 rfl rfl ?_
    exact g_iret dJ9_min_7cf53_10 rfl ⟨(by simp only [F_J9_min_7cf53, if_pos c1]), rfl⟩
  · refine g_iload_n (pc' := 6) dJ9_min_7cf53_5 rfl rfl ?_
    refine g_goto (pc' := 10) dJ9_min_7cf53_6 rfl ?_
    exact g_iret dJ9_min_7cf53_10 rfl ⟨(by simp only [F_J9_min_7cf53, if_neg c1]), rfl⟩
def L_X0_findWindy_5 (v1 : Int) (s : Sto) (K36 : Int → Prop) : Nat → Int → Int → Prop
  | 0, _, _ => False
  | n + 1, v2, v3 => ((s 6 0 ≤ v3 → K36 v2) ∧ (¬ s 6 0 ≤ v3 → (inb v3 8 ∧ (∀ x3 : Int, x3 = F_J9_min_7cf53 v2 (s 7 v3.toNat) s → L_X0_findWindy_5 v1 s K36 n x3 (w32 (v3 + 1))))))
set_option maxRecDepth 100000 in
theorem SL_X0_findWindy_5 {v1 : Int} {s : Sto} {K36 : Int → Prop} {Q : Int → Sto → Prop}  (hK36 : ∀ v2, K36 v2 → sr_G RX0 cX0_findWindy 4 none 1 36 [(0, vR 66), (1, vI v1), (2, vI v2)] [] s Q) : ∀ n v2 v3, L_X0_findWindy_5 v1 s K36 n v2 v3 → sr_G RX0 cX0_findWindy 4 none 1 5 [(0, vR 66), (1, vI v1), (2, vI v2), (3, vI v3)] [] s Q := by
  intro n
  induction n with
  | zero => intro v2 v3 h; exact h.elim
  | succ n ih =>
    intro v2 v3 h
    unfold L_X0_findWindy_5 at h
    refine g_iload_n (pc' := 6) dX0_findWindy_5 rfl rfl ?_
    refine g_aload_n (pc' := 7) dX0_findWindy_6 rfl rfl ?_
    refine g_getR (pc' := 10) (r := 6) dX0_findWindy_7 rfl fl_RX0_36 kd_66 rfl rf_66_1 ?_
    refine g_getI (pc' := 13) dX0_findWindy_10 rfl fl_RX0_77 kd_6 (Or.inl rfl) ?_
    refine g_ic_ge (pc' := 16) (tgt := 36) dX0_findWindy_13 rfl rfl (fun c1 => ?_) (fun c1 => ?_)
    · have h := h.1 c1
      exact (hK36 _ h).to ((sb_c rfl (sb_c rfl (sb_c rfl sb_n))))
    · have h := h.2 c1
      refine g_iload_n (pc' := 17) dX0_findWindy_16 rfl rfl ?_
      refine g_aload_n (pc' := 18) dX0_findWindy_17 rfl rfl ?_
      refine g_getR (pc' := 21) (r := 6) dX0_findWindy_18 rfl fl_RX0_36 kd_66 rfl rf_66_1 ?_
      refine g_getR (pc' := 24) (r := 7) dX0_findWindy_21 rfl fl_RX0_80 kd_6 rfl rf_6_1 ?_
      refine g_iload_n (pc' := 25) dX0_findWindy_24 rfl rfl ?_
      obtain ⟨ob2, h⟩ := h
      refine g_iald (pc' := 26) dX0_findWindy_25 rfl kd_7 ob2 ?_
      refine g_S2i (pc' := 29) dX0_findWindy_26 rfl ms_RX0_83 (by decide) (Nat.le_of_ble_eq_true rfl) C_J9_min_7cf53 (sr_pur ?_)
      refine g_topI (fun x3 ex3 => ?_)
      have h := h x3 ex3
      refine g_istore_n (pc' := 30) dX0_findWindy_29 rfl (by decide) ?_
      refine g_iinc (pc' := 33) dX0_findWindy_30 rfl rfl (by decide) ?_
      refine g_goto (pc' := 5) dX0_findWindy_33 rfl ?_
      exact (ih _ _ h).to ((sb_c rfl (sb_c rfl (sb_c rfl (sb_c rfl sb_n)))))
def L_X0_findWindy_43 (v1 : Int) (v2 : Int) (K110 : Sto → Prop) : Nat → Int → Sto → Prop
  | 0, _, _ => False
  | n + 1, v3, s => ((v1 < v3 → K110 s) ∧ (¬ v1 < v3 → ((9 < v3 → K110 s) ∧ (¬ 9 < v3 → ((v3 ≤ v2 → L_X0_findWindy_43 v1 v2 K110 n (w32 (v3 + 1)) s) ∧ (¬ v3 ≤ v2 → (inb v3 20 ∧ ((s 15 v3.toNat = (-1) → L_X0_findWindy_43 v1 v2 K110 n (w32 (v3 + 1)) s) ∧ (¬ s 15 v3.toNat = (-1) → ((10 ≤ s 66 5 → L_X0_findWindy_43 v1 v2 K110 n (w32 (v3 + 1)) s) ∧ (¬ 10 ≤ s 66 5 → (inb (s 66 5) 10 ∧ (∀ s8 : Sto, s8 = up s 67 (s 66 5).toNat v3 → (∀ s9 : Sto, s9 = up s8 66 5 (w32 ((s8 66 5) + 1)) → L_X0_findWindy_43 v1 v2 K110 n (w32 (v3 + 1)) s9))))))))))))))
set_option maxRecDepth 100000 in
theorem SL_X0_findWindy_43 {v1 : Int} {v2 : Int} {K110 : Sto → Prop} {Q : Int → Sto → Prop}  (hK110 : ∀ s, K110 s → sr_G RX0 cX0_findWindy 4 none 1 110 [] [] s Q) : ∀ n v3 s, L_X0_findWindy_43 v1 v2 K110 n v3 s → sr_G RX0 cX0_findWindy 4 none 1 43 [(0, vR 66), (1, vI v1), (2, vI v2), (3, vI v3)] [] s Q := by
  intro n
  induction n with
  | zero => intro v3 s h; exact h.elim
  | succ n ih =>
    intro v3 s h
    unfold L_X0_findWindy_43 at h
    refine g_iload_n (pc' := 44) dX0_findWindy_43 rfl rfl ?_
    refine g_iload_n (pc' := 45) dX0_findWindy_44 rfl rfl ?_
    refine g_ic_gt (pc' := 48) (tgt := 110) dX0_findWindy_45 rfl rfl (fun c1 => ?_) (fun c1 => ?_)
    · have h := h.1 c1
      exact (hK110 _ h).to (sb_n)
    · have h := h.2 c1
      refine g_iload_n (pc' := 49) dX0_findWindy_48 rfl rfl ?_
      refine g_bipush (pc' := 51) ⟨by unfold r32; decide, rfl⟩ dX0_findWindy_49 rfl ?_
      refine g_ic_gt (pc' := 54) (tgt := 110) dX0_findWindy_51 rfl rfl (fun c2 => ?_) (fun c2 => ?_)
      · have h := h.1 c2
        exact (hK110 _ h).to (sb_n)
      · have h := h.2 c2
        refine g_iload_n (pc' := 55) dX0_findWindy_54 rfl rfl ?_
        refine g_iload_n (pc' := 56) dX0_findWindy_55 rfl rfl ?_
        refine g_ic_le (pc' := 59) (tgt := 104) dX0_findWindy_56 rfl rfl (fun c3 => ?_) (fun c3 => ?_)
        · have h := h.1 c3
          refine g_iinc (pc' := 107) dX0_findWindy_104 rfl rfl (by decide) ?_
          refine g_goto (pc' := 43) dX0_findWindy_107 rfl ?_
          exact (ih _ _ h).to ((sb_c rfl (sb_c rfl (sb_c rfl (sb_c rfl sb_n)))))
        · have h := h.2 c3
          refine g_aload_n (pc' := 60) dX0_findWindy_59 rfl rfl ?_
          refine g_getR (pc' := 63) (r := 6) dX0_findWindy_60 rfl fl_RX0_36 kd_66 rfl rf_66_1 ?_
          refine g_getR (pc' := 66) (r := 15) dX0_findWindy_63 rfl fl_RX0_89 kd_6 rfl rf_6_10 ?_
          refine g_iload_n (pc' := 67) dX0_findWindy_66 rfl rfl ?_
          obtain ⟨ob4, h⟩ := h
          refine g_iald (pc' := 68) dX0_findWindy_67 rfl kd_15 ob4 ?_
          refine g_iconst (pc' := 69) (by unfold r32; decide) dX0_findWindy_68 rfl ?_
          refine g_ic_eq (pc' := 72) (tgt := 104) dX0_findWindy_69 rfl rfl (fun c5 => ?_) (fun c5 => ?_)
          · have h := h.1 c5
            refine g_iinc (pc' := 107) dX0_findWindy_104 rfl rfl (by decide) ?_
            refine g_goto (pc' := 43) dX0_findWindy_107 rfl ?_
            exact (ih _ _ h).to ((sb_c rfl (sb_c rfl (sb_c rfl (sb_c rfl sb_n)))))
          · have h := h.2 c5
            refine g_aload_n (pc' := 73) dX0_findWindy_72 rfl rfl ?_
            refine g_getI (pc' := 76) dX0_findWindy_73 rfl fl_RX0_15 kd_66 (Or.inl rfl) ?_
            refine g_aload_n (pc' := 77) dX0_findWindy_76 rfl rfl ?_
            refine g_getR (pc' := 80) (r := 67) dX0_findWindy_77 rfl fl_RX0_9 kd_66 rfl rf_66_4 ?_
            refine g_alen (pc' := 81) (n := 10) dX0_findWindy_80 rfl (by rw [kd_67]; decide) (by rw [kd_67]; decide) rfl (by unfold r32; decide) ?_
            refine g_ic_ge (pc' := 84) (tgt := 104) dX0_findWindy_81 rfl rfl (fun c6 => ?_) (fun c6 => ?_)
            · have h := h.1 c6
              refine g_iinc (pc' := 107) dX0_findWindy_104 rfl rfl (by decide) ?_
              refine g_goto (pc' := 43) dX0_findWindy_107 rfl ?_
              exact (ih _ _ h).to ((sb_c rfl (sb_c rfl (sb_c rfl (sb_c rfl sb_n)))))
            · have h := h.2 c6
              refine g_aload_n (pc' := 85) dX0_findWindy_84 rfl rfl ?_
              refine g_getR (pc' := 88) (r := 67) dX0_findWindy_85 rfl fl_RX0_9 kd_66 rfl rf_66_4 ?_
              refine g_aload_n (pc' := 89) dX0_findWindy_88 rfl rfl ?_
              refine g_getI (pc' := 92) dX0_findWindy_89 rfl fl_RX0_15 kd_66 (Or.inl rfl) ?_
              refine g_iload_n (pc' := 93) dX0_findWindy_92 rfl rfl ?_
              obtain ⟨ob7, h⟩ := h
              refine g_iast (pc' := 94) dX0_findWindy_93 rfl kd_67 ob7 ?_
              refine g_sto (fun s8 es8 => ?_)
              have h := h s8 es8
              refine g_aload_n (pc' := 95) dX0_findWindy_94 rfl rfl ?_
              refine g_dupR (pc' := 96) dX0_findWindy_95 rfl ?_
              refine g_getI (pc' := 99) dX0_findWindy_96 rfl fl_RX0_15 kd_66 (Or.inl rfl) ?_
              refine g_iconst (pc' := 100) (by unfold r32; decide) dX0_findWindy_99 rfl ?_
              refine g_iadd (pc' := 101) dX0_findWindy_100 rfl ?_
              refine g_putI (pc' := 104) dX0_findWindy_101 rfl fp_RX0_15 kd_66 rfl ?_
              refine g_sto (fun s9 es9 => ?_)
              have h := h s9 es9
              refine g_iinc (pc' := 107) dX0_findWindy_104 rfl rfl (by decide) ?_
              refine g_goto (pc' := 43) dX0_findWindy_107 rfl ?_
              exact (ih _ _ h).to ((sb_c rfl (sb_c rfl (sb_c rfl (sb_c rfl sb_n)))))
def P_X0_findWindy (v1 : Int) (s : Sto) (Q : Int → Sto → Prop) : Prop := (∃ n5, L_X0_findWindy_5 v1 s (fun x1 => (∀ s2 : Sto, s2 = up s 66 5 0 → (∃ n4, L_X0_findWindy_43 v1 x1 (fun s3 => Q 0 s3) n4 0 s2))) n5 20 0)
set_option maxRecDepth 100000 in
theorem C_X0_findWindy {v1 : Int} {s : Sto} {Q : Int → Sto → Prop}  (h : P_X0_findWindy v1 s Q) : sr_C yX0_findWindy cX0_findWindy 4 none 1 [vR 66, vI v1] s Q := by
  refine sr_C.of (by decide +kernel) (Nat.le_of_ble_eq_true rfl) ?_
  show sr_G RX0 cX0_findWindy 4 none 1 0 [(0, vR 66), (1, vI v1)] [] s Q
  unfold P_X0_findWindy at h
  refine g_bipush (pc' := 2) ⟨by unfold r32; decide, rfl⟩ dX0_findWindy_0 rfl ?_
  refine g_istore_n (pc' := 3) dX0_findWindy_2 rfl (by decide) ?_
  refine g_iconst (pc' := 4) (by unfold r32; decide) dX0_findWindy_3 rfl ?_
  refine g_istore_n (pc' := 5) dX0_findWindy_4 rfl (by decide) ?_
  obtain ⟨n5, h⟩ := h
  refine (SL_X0_findWindy_5  (fun x1 h => ?_) n5 _ _ h).to ((sb_c rfl (sb_c rfl (sb_c rfl (sb_c rfl sb_n)))))
  · refine g_aload_n (pc' := 37) dX0_findWindy_36 rfl rfl ?_
    refine g_iconst (pc' := 38) (by unfold r32; decide) dX0_findWindy_37 rfl ?_
    refine g_putI (pc' := 41) dX0_findWindy_38 rfl fp_RX0_15 kd_66 rfl ?_
    refine g_sto (fun s2 es2 => ?_)
    have h := h s2 es2
    refine g_iconst (pc' := 42) (by unfold r32; decide) dX0_findWindy_41 rfl ?_
    refine g_istore_n (pc' := 43) dX0_findWindy_42 rfl (by decide) ?_
    obtain ⟨n4, h⟩ := h
    refine (SL_X0_findWindy_43  (fun s3 h => ?_) n4 _ _ h).to ((sb_c rfl (sb_c rfl (sb_c rfl (sb_c rfl sb_n)))))
    · exact g_vret dX0_findWindy_110 rfl h
def L_J7_fill_d0a16_6 (p0 : Nat) (v1 : Int) (v4 : Int) (K22 : Sto → Prop) : Nat → Int → Sto → Prop
  | 0, _, _ => False
  | n + 1, v3, s => ((v4 ≤ v3 → K22 s) ∧ (¬ v4 ≤ v3 → (inb v3 (al p0) ∧ (∀ s3 : Sto, s3 = up s p0 v3.toNat v1 → L_J7_fill_d0a16_6 p0 v1 v4 K22 n (w32 (v3 + 1)) s3))))
set_option maxRecDepth 100000 in
theorem SL_J7_fill_d0a16_6 {p0 : Nat} {v1 : Int} {v4 : Int} {K22 : Sto → Prop} {Q : Int → Sto → Prop} (hp0 : kd p0 = 2) (hK22 : ∀ s, K22 s → sr_G RJ7 cJ7_fill_d0a16 5 none 0 22 [] [] s Q) : ∀ n v3 s, L_J7_fill_d0a16_6 p0 v1 v4 K22 n v3 s → sr_G RJ7 cJ7_fill_d0a16 5 none 0 6 [(0, vR p0), (1, vL v1), (3, vI v3), (4, vI v4)] [] s Q := by
  intro n
  induction n with
  | zero => intro v3 s h; exact h.elim
  | succ n ih =>
    intro v3 s h
    unfold L_J7_fill_d0a16_6 at h
    refine g_iload_n (pc' := 7) dJ7_fill_d0a16_6 rfl rfl ?_
    refine g_iload (pc' := 9) dJ7_fill_d0a16_7 rfl rfl ?_
    refine g_ic_ge (pc' := 12) (tgt := 22) dJ7_fill_d0a16_9 rfl rfl (fun c1 => ?_) (fun c1 => ?_)
    · have h := h.1 c1
      exact (hK22 _ h).to (sb_n)
    · have h := h.2 c1
      refine g_aload_n (pc' := 13) dJ7_fill_d0a16_12 rfl rfl ?_
      refine g_iload_n (pc' := 14) dJ7_fill_d0a16_13 rfl rfl ?_
      refine g_lload_n (pc' := 15) dJ7_fill_d0a16_14 rfl rfl ?_
      obtain ⟨ob2, h⟩ := h
      refine g_last (pc' := 16) dJ7_fill_d0a16_15 rfl hp0 ob2 ?_
      refine g_sto (fun s3 es3 => ?_)
      have h := h s3 es3
      refine g_iinc (pc' := 19) dJ7_fill_d0a16_16 rfl rfl (by decide) ?_
      refine g_goto (pc' := 6) dJ7_fill_d0a16_19 rfl ?_
      exact (ih _ _ h).to ((sb_c rfl (sb_c rfl (sb_c rfl (sb_c rfl sb_n)))))
def P_J7_fill_d0a16 (p0 : Nat) (v1 : Int) (s : Sto) (Q : Int → Sto → Prop) : Prop := (∀ x1 : Int, x1 = (al p0 : Int) → (∃ n3, L_J7_fill_d0a16_6 p0 v1 x1 (fun s2 => Q 0 s2) n3 0 s))
set_option maxRecDepth 100000 in
theorem C_J7_fill_d0a16 {p0 : Nat} {v1 : Int} {s : Sto} {Q : Int → Sto → Prop} (hp0 : kd p0 = 2) (h : P_J7_fill_d0a16 p0 v1 s Q) : sr_C yJ7_fill_d0a16 cJ7_fill_d0a16 5 none 0 [vR p0, vL v1] s Q := by
  refine sr_C.of (by decide +kernel) (Nat.le_of_ble_eq_true rfl) ?_
  show sr_G RJ7 cJ7_fill_d0a16 5 none 0 0 [(0, vR p0), (1, vL v1)] [] s Q
  unfold P_J7_fill_d0a16 at h
  refine g_iconst (pc' := 1) (by unfold r32; decide) dJ7_fill_d0a16_0 rfl ?_
  refine g_istore_n (pc' := 2) dJ7_fill_d0a16_1 rfl (by decide) ?_
  refine g_aload_n (pc' := 3) dJ7_fill_d0a16_2 rfl rfl ?_
  refine g_alen (pc' := 4) (n := (al p0 : Int)) dJ7_fill_d0a16_3 rfl (by rw [hp0]; decide) (by rw [hp0]; decide) rfl (al_r _) ?_
  refine g_topI (fun x1 ex1 => ?_)
  have h := h x1 ex1
  refine g_istore (pc' := 6) dJ7_fill_d0a16_4 rfl (by decide) ?_
  obtain ⟨n3, h⟩ := h
  refine (SL_J7_fill_d0a16_6 hp0 (fun s2 h => ?_) n3 _ _ h).to ((sb_c rfl (sb_c rfl (sb_c rfl (sb_c rfl sb_n)))))
  · exact g_vret dJ7_fill_d0a16_22 rfl h
def P_X4_becomes (o : Nat) (p1 : Nat) (s : Sto) (Q : Int → Sto → Prop) : Prop := (∀ s1 : Sto, s1 = up s o 0 (s p1 0) → (∀ s7 : Sto, s7 = cpy s1 (p1 + 1) (0 : Int).toNat (o + 1) (0 : Int).toNat (8 : Int).toNat → (∀ s13 : Sto, s13 = cpy s7 (p1 + 2) (0 : Int).toNat (o + 2) (0 : Int).toNat (8 : Int).toNat → (∀ s19 : Sto, s19 = cpy s13 (p1 + 3) (0 : Int).toNat (o + 3) (0 : Int).toNat (8 : Int).toNat → (∀ s25 : Sto, s25 = cpy s19 (p1 + 4) (0 : Int).toNat (o + 4) (0 : Int).toNat (8 : Int).toNat → (∀ s31 : Sto, s31 = cpy s25 (p1 + 5) (0 : Int).toNat (o + 5) (0 : Int).toNat (8 : Int).toNat → (∀ s32 : Sto, s32 = up s31 o 6 (s31 p1 6) → (∀ s38 : Sto, s38 = cpy s32 (p1 + 6) (0 : Int).toNat (o + 6) (0 : Int).toNat (8 : Int).toNat → (∀ s44 : Sto, s44 = cpy s38 (p1 + 7) (0 : Int).toNat (o + 7) (0 : Int).toNat (8 : Int).toNat → (∀ s50 : Sto, s50 = cpy s44 (p1 + 8) (0 : Int).toNat (o + 8) (0 : Int).toNat (8 : Int).toNat → (∀ s56 : Sto, s56 = cpy s50 (p1 + 9) (0 : Int).toNat (o + 9) (0 : Int).toNat (20 : Int).toNat → (∀ s57 : Sto, s57 = up s56 o 11 (s56 p1 11) → Q 0 s57))))))))))))
set_option maxRecDepth 100000 in
theorem C_X4_becomes {o : Nat} {p1 : Nat} {s : Sto} {Q : Int → Sto → Prop} (ho : kd o = 14) (hp1 : kd p1 = 14) (h : P_X4_becomes o p1 s Q) : sr_C yX4_becomes cX4_becomes 2 none 1 [vR o, vR p1] s Q := by
  refine sr_C.of (by decide +kernel) (Nat.le_of_ble_eq_true rfl) ?_
  show sr_G RX4 cX4_becomes 2 none 1 0 [(0, vR o), (1, vR p1)] [] s Q
  unfold P_X4_becomes at h
  refine g_aload_n (pc' := 1) dX4_becomes_0 rfl rfl ?_
  refine g_aload_n (pc' := 2) dX4_becomes_1 rfl rfl ?_
  refine g_getI (pc' := 5) dX4_becomes_2 rfl fl_RX4_9 hp1 (Or.inl rfl) ?_
  refine g_putI (pc' := 8) dX4_becomes_5 rfl fp_RX4_9 ho rfl ?_
  refine g_sto (fun s1 es1 => ?_)
  have h := h s1 es1
  refine g_aload_n (pc' := 9) dX4_becomes_8 rfl rfl ?_
  refine g_getR (pc' := 12) (r := p1 + 1) dX4_becomes_9 rfl fl_RX4_15 hp1 rfl (ly_4_1 hp1) ?_
  refine g_iconst (pc' := 13) (by unfold r32; decide) dX4_becomes_12 rfl ?_
  refine g_aload_n (pc' := 14) dX4_becomes_13 rfl rfl ?_
  refine g_getR (pc' := 17) (r := o + 1) dX4_becomes_14 rfl fl_RX4_15 ho rfl (ly_4_1 ho) ?_
  refine g_iconst (pc' := 18) (by unfold r32; decide) dX4_becomes_17 rfl ?_
  refine g_bipush (pc' := 20) ⟨by unfold r32; decide, rfl⟩ dX4_becomes_18 rfl ?_
  refine g_acpy (pc' := 23) dX4_becomes_20 rfl ac_RX4_55 ac_n ac_s ac_i (lk_4_1 hp1) (lk_4_1 ho) (by decide) (by decide) (by decide) (by first | decide | (rw [la_4_1 hp1]; decide)) (by first | decide | (rw [la_4_1 ho]; decide)) (by decide) (Nat.le_of_ble_eq_true rfl) ?_
  refine g_sto (fun s7 es7 => ?_)
  have h := h s7 es7
  refine g_aload_n (pc' := 24) dX4_becomes_23 rfl rfl ?_
  refine g_getR (pc' := 27) (r := p1 + 2) dX4_becomes_24 rfl fl_RX4_19 hp1 rfl (ly_4_2 hp1) ?_
  refine g_iconst (pc' := 28) (by unfold r32; decide) dX4_becomes_27 rfl ?_
  refine g_aload_n (pc' := 29) dX4_becomes_28 rfl rfl ?_
  refine g_getR (pc' := 32) (r := o + 2) dX4_becomes_29 rfl fl_RX4_19 ho rfl (ly_4_2 ho) ?_
  refine g_iconst (pc' := 33) (by unfold r32; decide) dX4_becomes_32 rfl ?_
  refine g_bipush (pc' := 35) ⟨by unfold r32; decide, rfl⟩ dX4_becomes_33 rfl ?_
  refine g_acpy (pc' := 38) dX4_becomes_35 rfl ac_RX4_55 ac_n ac_s ac_i (lk_4_2 hp1) (lk_4_2 ho) (by decide) (by decide) (by decide) (by first | decide | (rw [la_4_2 hp1]; decide)) (by first | decide | (rw [la_4_2 ho]; decide)) (by decide) (Nat.le_of_ble_eq_true rfl) ?_
  refine g_sto (fun s13 es13 => ?_)
  have h := h s13 es13
  refine g_aload_n (pc' := 39) dX4_becomes_38 rfl rfl ?_
  refine g_getR (pc' := 42) (r := p1 + 3) dX4_becomes_39 rfl fl_RX4_22 hp1 rfl (ly_4_3 hp1) ?_
  refine g_iconst (pc' := 43) (by unfold r32; decide) dX4_becomes_42 rfl ?_
  refine g_aload_n (pc' := 44) dX4_becomes_43 rfl rfl ?_
  refine g_getR (pc' := 47) (r := o + 3) dX4_becomes_44 rfl fl_RX4_22 ho rfl (ly_4_3 ho) ?_
  refine g_iconst (pc' := 48) (by unfold r32; decide) dX4_becomes_47 rfl ?_
  refine g_bipush (pc' := 50) ⟨by unfold r32; decide, rfl⟩ dX4_becomes_48 rfl ?_
  refine g_acpy (pc' := 53) dX4_becomes_50 rfl ac_RX4_55 ac_n ac_s ac_i (lk_4_3 hp1) (lk_4_3 ho) (by decide) (by decide) (by decide) (by first | decide | (rw [la_4_3 hp1]; decide)) (by first | decide | (rw [la_4_3 ho]; decide)) (by decide) (Nat.le_of_ble_eq_true rfl) ?_
  refine g_sto (fun s19 es19 => ?_)
  have h := h s19 es19
  refine g_aload_n (pc' := 54) dX4_becomes_53 rfl rfl ?_
  refine g_getR (pc' := 57) (r := p1 + 4) dX4_becomes_54 rfl fl_RX4_25 hp1 rfl (ly_4_4 hp1) ?_
  refine g_iconst (pc' := 58) (by unfold r32; decide) dX4_becomes_57 rfl ?_
  refine g_aload_n (pc' := 59) dX4_becomes_58 rfl rfl ?_
  refine g_getR (pc' := 62) (r := o + 4) dX4_becomes_59 rfl fl_RX4_25 ho rfl (ly_4_4 ho) ?_
  refine g_iconst (pc' := 63) (by unfold r32; decide) dX4_becomes_62 rfl ?_
  refine g_bipush (pc' := 65) ⟨by unfold r32; decide, rfl⟩ dX4_becomes_63 rfl ?_
  refine g_acpy (pc' := 68) dX4_becomes_65 rfl ac_RX4_55 ac_n ac_s ac_i (lk_4_4 hp1) (lk_4_4 ho) (by decide) (by decide) (by decide) (by first | decide | (rw [la_4_4 hp1]; decide)) (by first | decide | (rw [la_4_4 ho]; decide)) (by decide) (Nat.le_of_ble_eq_true rfl) ?_
  refine g_sto (fun s25 es25 => ?_)
  have h := h s25 es25
  refine g_aload_n (pc' := 69) dX4_becomes_68 rfl rfl ?_
  refine g_getR (pc' := 72) (r := p1 + 5) dX4_becomes_69 rfl fl_RX4_28 hp1 rfl (ly_4_5 hp1) ?_
  refine g_iconst (pc' := 73) (by unfold r32; decide) dX4_becomes_72 rfl ?_
  refine g_aload_n (pc' := 74) dX4_becomes_73 rfl rfl ?_
  refine g_getR (pc' := 77) (r := o + 5) dX4_becomes_74 rfl fl_RX4_28 ho rfl (ly_4_5 ho) ?_
  refine g_iconst (pc' := 78) (by unfold r32; decide) dX4_becomes_77 rfl ?_
  refine g_bipush (pc' := 80) ⟨by unfold r32; decide, rfl⟩ dX4_becomes_78 rfl ?_
  refine g_acpy (pc' := 83) dX4_becomes_80 rfl ac_RX4_55 ac_n ac_s ac_i (lk_4_5 hp1) (lk_4_5 ho) (by decide) (by decide) (by decide) (by first | decide | (rw [la_4_5 hp1]; decide)) (by first | decide | (rw [la_4_5 ho]; decide)) (by decide) (Nat.le_of_ble_eq_true rfl) ?_
  refine g_sto (fun s31 es31 => ?_)
  have h := h s31 es31
  refine g_aload_n (pc' := 84) dX4_becomes_83 rfl rfl ?_
  refine g_aload_n (pc' := 85) dX4_becomes_84 rfl rfl ?_
  refine g_getI (pc' := 88) dX4_becomes_85 rfl fl_RX4_31 hp1 (Or.inl rfl) ?_
  refine g_putI (pc' := 91) dX4_becomes_88 rfl fp_RX4_31 ho rfl ?_
  refine g_sto (fun s32 es32 => ?_)
  have h := h s32 es32
  refine g_aload_n (pc' := 92) dX4_becomes_91 rfl rfl ?_
  refine g_getR (pc' := 95) (r := p1 + 6) dX4_becomes_92 rfl fl_RX4_34 hp1 rfl (ly_4_7 hp1) ?_
  refine g_iconst (pc' := 96) (by unfold r32; decide) dX4_becomes_95 rfl ?_
  refine g_aload_n (pc' := 97) dX4_becomes_96 rfl rfl ?_
  refine g_getR (pc' := 100) (r := o + 6) dX4_becomes_97 rfl fl_RX4_34 ho rfl (ly_4_7 ho) ?_
  refine g_iconst (pc' := 101) (by unfold r32; decide) dX4_becomes_100 rfl ?_
  refine g_bipush (pc' := 103) ⟨by unfold r32; decide, rfl⟩ dX4_becomes_101 rfl ?_
  refine g_acpy (pc' := 106) dX4_becomes_103 rfl ac_RX4_55 ac_n ac_s ac_i (lk_4_7 hp1) (lk_4_7 ho) (by decide) (by decide) (by decide) (by first | decide | (rw [la_4_7 hp1]; decide)) (by first | decide | (rw [la_4_7 ho]; decide)) (by decide) (Nat.le_of_ble_eq_true rfl) ?_
  refine g_sto (fun s38 es38 => ?_)
  have h := h s38 es38
  refine g_aload_n (pc' := 107) dX4_becomes_106 rfl rfl ?_
  refine g_getR (pc' := 110) (r := p1 + 7) dX4_becomes_107 rfl fl_RX4_37 hp1 rfl (ly_4_8 hp1) ?_
  refine g_iconst (pc' := 111) (by unfold r32; decide) dX4_becomes_110 rfl ?_
  refine g_aload_n (pc' := 112) dX4_becomes_111 rfl rfl ?_
  refine g_getR (pc' := 115) (r := o + 7) dX4_becomes_112 rfl fl_RX4_37 ho rfl (ly_4_8 ho) ?_
  refine g_iconst (pc' := 116) (by unfold r32; decide) dX4_becomes_115 rfl ?_
  refine g_bipush (pc' := 118) ⟨by unfold r32; decide, rfl⟩ dX4_becomes_116 rfl ?_
  refine g_acpy (pc' := 121) dX4_becomes_118 rfl ac_RX4_55 ac_n ac_s ac_i (lk_4_8 hp1) (lk_4_8 ho) (by decide) (by decide) (by decide) (by first | decide | (rw [la_4_8 hp1]; decide)) (by first | decide | (rw [la_4_8 ho]; decide)) (by decide) (Nat.le_of_ble_eq_true rfl) ?_
  refine g_sto (fun s44 es44 => ?_)
  have h := h s44 es44
  refine g_aload_n (pc' := 122) dX4_becomes_121 rfl rfl ?_
  refine g_getR (pc' := 125) (r := p1 + 8) dX4_becomes_122 rfl fl_RX4_40 hp1 rfl (ly_4_9 hp1) ?_
  refine g_iconst (pc' := 126) (by unfold r32; decide) dX4_becomes_125 rfl ?_
  refine g_aload_n (pc' := 127) dX4_becomes_126 rfl rfl ?_
  refine g_getR (pc' := 130) (r := o + 8) dX4_becomes_127 rfl fl_RX4_40 ho rfl (ly_4_9 ho) ?_
  refine g_iconst (pc' := 131) (by unfold r32; decide) dX4_becomes_130 rfl ?_
  refine g_bipush (pc' := 133) ⟨by unfold r32; decide, rfl⟩ dX4_becomes_131 rfl ?_
  refine g_acpy (pc' := 136) dX4_becomes_133 rfl ac_RX4_55 ac_n ac_s ac_i (lk_4_9 hp1) (lk_4_9 ho) (by decide) (by decide) (by decide) (by first | decide | (rw [la_4_9 hp1]; decide)) (by first | decide | (rw [la_4_9 ho]; decide)) (by decide) (Nat.le_of_ble_eq_true rfl) ?_
  refine g_sto (fun s50 es50 => ?_)
  have h := h s50 es50
  refine g_aload_n (pc' := 137) dX4_becomes_136 rfl rfl ?_
  refine g_getR (pc' := 140) (r := p1 + 9) dX4_becomes_137 rfl fl_RX4_43 hp1 rfl (ly_4_10 hp1) ?_
  refine g_iconst (pc' := 141) (by unfold r32; decide) dX4_becomes_140 rfl ?_
  refine g_aload_n (pc' := 142) dX4_becomes_141 rfl rfl ?_
  refine g_getR (pc' := 145) (r := o + 9) dX4_becomes_142 rfl fl_RX4_43 ho rfl (ly_4_10 ho) ?_
  refine g_iconst (pc' := 146) (by unfold r32; decide) dX4_becomes_145 rfl ?_
  refine g_bipush (pc' := 148) ⟨by unfold r32; decide, rfl⟩ dX4_becomes_146 rfl ?_
  refine g_acpy (pc' := 151) dX4_becomes_148 rfl ac_RX4_55 ac_n ac_s ac_i (lk_4_10 hp1) (lk_4_10 ho) (by decide) (by decide) (by decide) (by first | decide | (rw [la_4_10 hp1]; decide)) (by first | decide | (rw [la_4_10 ho]; decide)) (by decide) (Nat.le_of_ble_eq_true rfl) ?_
  refine g_sto (fun s56 es56 => ?_)
  have h := h s56 es56
  refine g_aload_n (pc' := 152) dX4_becomes_151 rfl rfl ?_
  refine g_aload_n (pc' := 153) dX4_becomes_152 rfl rfl ?_
  refine g_getI (pc' := 156) dX4_becomes_153 rfl fl_RX4_46 hp1 (Or.inl rfl) ?_
  refine g_putI (pc' := 159) dX4_becomes_156 rfl fp_RX4_46 ho rfl ?_
  refine g_sto (fun s57 es57 => ?_)
  have h := h s57 es57
  exact g_vret dX4_becomes_159 rfl h
def F_J6_bitCount_0f7a4 (v0 : Int) (s : Sto) : Int := iA (w32 ((w32 ((iA (w32 ((w32 ((iA (w32 (v0 - (iA (iUshr v0 1) 1431655765))) 858993459) + (iA (iUshr (w32 (v0 - (iA (iUshr v0 1) 1431655765))) 2) 858993459))) + (iUshr (w32 ((iA (w32 (v0 - (iA (iUshr v0 1) 1431655765))) 858993459) + (iA (iUshr (w32 (v0 - (iA (iUshr v0 1) 1431655765))) 2) 858993459))) 4))) 252645135) + (iUshr (iA (w32 ((w32 ((iA (w32 (v0 - (iA (iUshr v0 1) 1431655765))) 858993459) + (iA (iUshr (w32 (v0 - (iA (iUshr v0 1) 1431655765))) 2) 858993459))) + (iUshr (w32 ((iA (w32 (v0 - (iA (iUshr v0 1) 1431655765))) 858993459) + (iA (iUshr (w32 (v0 - (iA (iUshr v0 1) 1431655765))) 2) 858993459))) 4))) 252645135) 8))) + (iUshr (w32 ((iA (w32 ((w32 ((iA (w32 (v0 - (iA (iUshr v0 1) 1431655765))) 858993459) + (iA (iUshr (w32 (v0 - (iA (iUshr v0 1) 1431655765))) 2) 858993459))) + (iUshr (w32 ((iA (w32 (v0 - (iA (iUshr v0 1) 1431655765))) 858993459) + (iA (iUshr (w32 (v0 - (iA (iUshr v0 1) 1431655765))) 2) 858993459))) 4))) 252645135) + (iUshr (iA (w32 ((w32 ((iA (w32 (v0 - (iA (iUshr v0 1) 1431655765))) 858993459) + (iA (iUshr (w32 (v0 - (iA (iUshr v0 1) 1431655765))) 2) 858993459))) + (iUshr (w32 ((iA (w32 (v0 - (iA (iUshr v0 1) 1431655765))) 858993459) + (iA (iUshr (w32 (v0 - (iA (iUshr v0 1) 1431655765))) 2) 858993459))) 4))) 252645135) 8))) 16))) 63
set_option maxRecDepth 100000 in
theorem C_J6_bitCount_0f7a4 {v0 : Int} {s : Sto}   : sr_C yJ6_bitCount_0f7a4 cJ6_bitCount_0f7a4 1 (some .int) 0 [vI v0] s (fun r s' => r = F_J6_bitCount_0f7a4 v0 s ∧ s' = s) := by
  refine sr_C.of (by decide +kernel) (Nat.le_of_ble_eq_true rfl) ?_
  show sr_G RJ6 cJ6_bitCount_0f7a4 1 (some .int) 0 0 [(0, vI v0)] [] s (fun r s' => r = F_J6_bitCount_0f7a4 v0 s ∧ s' = s)
  refine g_iload_n (pc' := 1) dJ6_bitCount_0f7a4_0 rfl rfl ?_
  refine g_iload_n (pc' := 2) dJ6_bitCount_0f7a4_1 rfl rfl ?_
  refine g_iconst (pc' := 3) (by unfold r32; decide) dJ6_bitCount_0f7a4_2 rfl ?_
  refine g_iushr (pc' := 4) dJ6_bitCount_0f7a4_3 rfl ?_
  refine g_ldcw (pc' := 7) (z := 1431655765) (by unfold r32; decide) kc_RJ6_265 dJ6_bitCount_0f7a4_4 rfl ?_
  refine g_iand (pc' := 8) dJ6_bitCount_0f7a4_7 rfl ?_
  refine g_isub (pc' := 9) dJ6_bitCount_0f7a4_8 rfl ?_
  refine g_istore_n (pc' := 10) dJ6_bitCount_0f7a4_9 rfl (by decide) ?_
  refine g_iload_n (pc' := 11) dJ6_bitCount_0f7a4_10 rfl rfl ?_
  refine g_ldcw (pc' := 14) (z := 858993459) (by unfold r32; decide) kc_RJ6_266 dJ6_bitCount_0f7a4_11 rfl ?_
  refine g_iand (pc' := 15) dJ6_bitCount_0f7a4_14 rfl ?_
  refine g_iload_n (pc' := 16) dJ6_bitCount_0f7a4_15 rfl rfl ?_
  refine g_iconst (pc' := 17) (by unfold r32; decide) dJ6_bitCount_0f7a4_16 rfl ?_
  refine g_iushr (pc' := 18) dJ6_bitCount_0f7a4_17 rfl ?_
  refine g_ldcw (pc' := 21) (z := 858993459) (by unfold r32; decide) kc_RJ6_266 dJ6_bitCount_0f7a4_18 rfl ?_
  refine g_iand (pc' := 22) dJ6_bitCount_0f7a4_21 rfl ?_
  refine g_iadd (pc' := 23) dJ6_bitCount_0f7a4_22 rfl ?_
  refine g_istore_n (pc' := 24) dJ6_bitCount_0f7a4_23 rfl (by decide) ?_
  refine g_iload_n (pc' := 25) dJ6_bitCount_0f7a4_24 rfl rfl ?_
  refine g_iload_n (pc' := 26) dJ6_bitCount_0f7a4_25 rfl rfl ?_
  refine g_iconst (pc' := 27) (by unfold r32; decide) dJ6_bitCount_0f7a4_26 rfl ?_
  refine g_iushr (pc' := 28) dJ6_bitCount_0f7a4_27 rfl ?_
  refine g_iadd (pc' := 29) dJ6_bitCount_0f7a4_28 rfl ?_
  refine g_ldcw (pc' := 32) (z := 252645135) (by unfold r32; decide) kc_RJ6_267 dJ6_bitCount_0f7a4_29 rfl ?_
  refine g_iand (pc' := 33) dJ6_bitCount_0f7a4_32 rfl ?_
  refine g_istore_n (pc' := 34) dJ6_bitCount_0f7a4_33 rfl (by decide) ?_
  refine g_iload_n (pc' := 35) dJ6_bitCount_0f7a4_34 rfl rfl ?_
  refine g_iload_n (pc' := 36) dJ6_bitCount_0f7a4_35 rfl rfl ?_
  refine g_bipush (pc' := 38) ⟨by unfold r32; decide, rfl⟩ dJ6_bitCount_0f7a4_36 rfl ?_
  refine g_iushr (pc' := 39) dJ6_bitCount_0f7a4_38 rfl ?_
  refine g_iadd (pc' := 40) dJ6_bitCount_0f7a4_39 rfl ?_
  refine g_istore_n (pc' := 41) dJ6_bitCount_0f7a4_40 rfl (by decide) ?_
  refine g_iload_n (pc' := 42) dJ6_bitCount_0f7a4_41 rfl rfl ?_
  refine g_iload_n (pc' := 43) dJ6_bitCount_0f7a4_42 rfl rfl ?_
  refine g_bipush (pc' := 45) ⟨by unfold r32; decide, rfl⟩ dJ6_bitCount_0f7a4_43 rfl ?_
  refine g_iushr (pc' := 46) dJ6_bitCount_0f7a4_45 rfl ?_
  refine g_iadd (pc' := 47) dJ6_bitCount_0f7a4_46 rfl ?_
  refine g_istore_n (pc' := 48) dJ6_bitCount_0f7a4_47 rfl (by decide) ?_
  refine g_iload_n (pc' := 49) dJ6_bitCount_0f7a4_48 rfl rfl ?_
  refine g_bipush (pc' := 51) ⟨by unfold r32; decide, rfl⟩ dJ6_bitCount_0f7a4_49 rfl ?_
  refine g_iand (pc' := 52) dJ6_bitCount_0f7a4_51 rfl ?_
  exact g_iret dJ6_bitCount_0f7a4_52 rfl ⟨rfl, rfl⟩
def L_X0_power_5 (v0 : Int) (v2 : Int) (s : Sto) (K21 : Int → Prop) : Nat → Int → Int → Prop
  | 0, _, _ => False
  | n + 1, v3, v5 => ((v2 ≤ v5 → K21 v3) ∧ (¬ v2 ≤ v5 → (∀ x2 : Int, x2 = w64 (v3 * v0) → L_X0_power_5 v0 v2 s K21 n x2 (w32 (v5 + 1)))))
set_option maxRecDepth 100000 in
theorem SL_X0_power_5 {v0 : Int} {v2 : Int} {s : Sto} {K21 : Int → Prop} {Q : Int → Sto → Prop}  (hK21 : ∀ v3, K21 v3 → sr_G RX0 cX0_power 6 (some .long) 0 21 [(3, vL v3)] [] s Q) : ∀ n v3 v5, L_X0_power_5 v0 v2 s K21 n v3 v5 → sr_G RX0 cX0_power 6 (some .long) 0 5 [(0, vL v0), (2, vI v2), (3, vL v3), (5, vI v5)] [] s Q := by
  intro n
  induction n with
  | zero => intro v3 v5 h; exact h.elim
  | succ n ih =>
    intro v3 v5 h
    unfold L_X0_power_5 at h
    refine g_iload (pc' := 7) dX0_power_5 rfl rfl ?_
    refine g_iload_n (pc' := 8) dX0_power_7 rfl rfl ?_
    refine g_ic_ge (pc' := 11) (tgt := 21) dX0_power_8 rfl rfl (fun c1 => ?_) (fun c1 => ?_)
    · have h := h.1 c1
      exact (hK21 _ h).to ((sb_c rfl sb_n))
    · have h := h.2 c1
      refine g_lload_n (pc' := 12) dX0_power_11 rfl rfl ?_
      refine g_lload_n (pc' := 13) dX0_power_12 rfl rfl ?_
      refine g_lmul (pc' := 14) dX0_power_13 rfl ?_
      refine g_topL (fun x2 ex2 => ?_)
      have h := h x2 ex2
      refine g_lstore_n (pc' := 15) dX0_power_14 rfl (by decide) ?_
      refine g_iinc (pc' := 18) dX0_power_15 rfl rfl (by decide) ?_
      refine g_goto (pc' := 5) dX0_power_18 rfl ?_
      exact (ih _ _ h).to ((sb_c rfl (sb_c rfl (sb_c rfl (sb_c rfl sb_n)))))
def P_X0_power (v0 : Int) (v2 : Int) (s : Sto) (Q : Int → Sto → Prop) : Prop := (∃ n2, L_X0_power_5 v0 v2 s (fun x1 => Q x1 s) n2 1 0)
set_option maxRecDepth 100000 in
theorem C_X0_power {v0 : Int} {v2 : Int} {s : Sto} {Q : Int → Sto → Prop}  (h : P_X0_power v0 v2 s Q) : sr_C yX0_power cX0_power 6 (some .long) 0 [vL v0, vI v2] s Q := by
  refine sr_C.of (by decide +kernel) (Nat.le_of_ble_eq_true rfl) ?_
  show sr_G RX0 cX0_power 6 (some .long) 0 0 [(0, vL v0), (2, vI v2)] [] s Q
  unfold P_X0_power at h
  refine g_lconst (pc' := 1) (z := 1) ⟨by unfold r64; decide, rfl⟩ dX0_power_0 rfl ?_
  refine g_lstore_n (pc' := 2) dX0_power_1 rfl (by decide) ?_
  refine g_iconst (pc' := 3) (by unfold r32; decide) dX0_power_2 rfl ?_
  refine g_istore (pc' := 5) dX0_power_3 rfl (by decide) ?_
  obtain ⟨n2, h⟩ := h
  refine (SL_X0_power_5  (fun x1 h => ?_) n2 _ _ h).to ((sb_c rfl (sb_c rfl (sb_c rfl (sb_c rfl sb_n)))))
  · refine g_lload_n (pc' := 22) dX0_power_21 rfl rfl ?_
    exact g_lret dX0_power_22 rfl h
def L_X6_begin_7 (p0 : Nat) (p1 : Nat) (K75 : Sto → Prop) : Nat → Int → Sto → Prop
  | 0, _, _ => False
  | n + 1, v2, s => ((s p1 0 ≤ v2 → K75 s) ∧ (¬ s p1 0 ≤ v2 → (inb v2 8 ∧ (∀ s3 : Sto, s3 = up s (p0 + 1) v2.toNat 0 → (inb v2 8 ∧ (∀ s5 : Sto, s5 = up s3 (p0 + 2) v2.toNat ((-1)) → (inb v2 8 ∧ (∀ s7 : Sto, s7 = up s5 (p0 + 3) v2.toNat 0 → (inb v2 8 ∧ (inb v2 8 ∧ (∀ s10 : Sto, s10 = up s7 (p0 + 4) v2.toNat (s7 (p1 + 4) v2.toNat) → (inb v2 8 ∧ ((20 ≤ s10 (p1 + 1) v2.toNat → L_X6_begin_7 p0 p1 K75 n (w32 (v2 + 1)) s10) ∧ (¬ 20 ≤ s10 (p1 + 1) v2.toNat → (∀ s13 : Sto, s13 = up s10 p0 11 (w32 ((s10 p0 11) + 1)) → L_X6_begin_7 p0 p1 K75 n (w32 (v2 + 1)) s13)))))))))))))))
set_option maxRecDepth 100000 in
theorem SL_X6_begin_7 {p0 : Nat} {p1 : Nat} {K75 : Sto → Prop} {Q : Int → Sto → Prop} (hp0 : kd p0 = 16) (hp1 : kd p1 = 14) (hK75 : ∀ s, K75 s → sr_G RX6 cX6_begin 3 none 0 75 [(0, vR p0), (1, vR p1)] [] s Q) : ∀ n v2 s, L_X6_begin_7 p0 p1 K75 n v2 s → sr_G RX6 cX6_begin 3 none 0 7 [(0, vR p0), (1, vR p1), (2, vI v2)] [] s Q := by
  intro n
  induction n with
  | zero => intro v2 s h; exact h.elim
  | succ n ih =>
    intro v2 s h
    unfold L_X6_begin_7 at h
    refine g_iload_n (pc' := 8) dX6_begin_7 rfl rfl ?_
    refine g_aload_n (pc' := 9) dX6_begin_8 rfl rfl ?_
    refine g_getI (pc' := 12) dX6_begin_9 rfl fl_RX6_62 hp1 (Or.inl rfl) ?_
    refine g_ic_ge (pc' := 15) (tgt := 75) dX6_begin_12 rfl rfl (fun c1 => ?_) (fun c1 => ?_)
    · have h := h.1 c1
      exact (hK75 _ h).to ((sb_c rfl (sb_c rfl sb_n)))
    · have h := h.2 c1
      refine g_aload_n (pc' := 16) dX6_begin_15 rfl rfl ?_
      refine g_getR (pc' := 19) (r := p0 + 1) dX6_begin_16 rfl fl_RX6_9 hp0 rfl (ly_6_1 hp0) ?_
      refine g_iload_n (pc' := 20) dX6_begin_19 rfl rfl ?_
      refine g_iconst (pc' := 21) (by unfold r32; decide) dX6_begin_20 rfl ?_
      obtain ⟨ob2, h⟩ := h
      refine g_iast (pc' := 22) dX6_begin_21 rfl (lk_6_1 hp0) (Eq.mpr (congrArg (inb _) (la_6_1 hp0)) ob2) ?_
      refine g_sto (fun s3 es3 => ?_)
      have h := h s3 es3
      refine g_aload_n (pc' := 23) dX6_begin_22 rfl rfl ?_
      refine g_getR (pc' := 26) (r := p0 + 2) dX6_begin_23 rfl fl_RX6_15 hp0 rfl (ly_6_2 hp0) ?_
      refine g_iload_n (pc' := 27) dX6_begin_26 rfl rfl ?_
      refine g_iconst (pc' := 28) (by unfold r32; decide) dX6_begin_27 rfl ?_
      obtain ⟨ob4, h⟩ := h
      refine g_iast (pc' := 29) dX6_begin_28 rfl (lk_6_2 hp0) (Eq.mpr (congrArg (inb _) (la_6_2 hp0)) ob4) ?_
      refine g_sto (fun s5 es5 => ?_)
      have h := h s5 es5
      refine g_aload_n (pc' := 30) dX6_begin_29 rfl rfl ?_
      refine g_getR (pc' := 33) (r := p0 + 3) dX6_begin_30 rfl fl_RX6_18 hp0 rfl (ly_6_3 hp0) ?_
      refine g_iload_n (pc' := 34) dX6_begin_33 rfl rfl ?_
      refine g_iconst (pc' := 35) (by unfold r32; decide) dX6_begin_34 rfl ?_
      obtain ⟨ob6, h⟩ := h
      refine g_iast (pc' := 36) dX6_begin_35 rfl (lk_6_3 hp0) (Eq.mpr (congrArg (inb _) (la_6_3 hp0)) ob6) ?_
      refine g_sto (fun s7 es7 => ?_)
      have h := h s7 es7
      refine g_aload_n (pc' := 37) dX6_begin_36 rfl rfl ?_
      refine g_getR (pc' := 40) (r := p0 + 4) dX6_begin_37 rfl fl_RX6_21 hp0 rfl (ly_6_4 hp0) ?_
      refine g_iload_n (pc' := 41) dX6_begin_40 rfl rfl ?_
      refine g_aload_n (pc' := 42) dX6_begin_41 rfl rfl ?_
      refine g_getR (pc' := 45) (r := p1 + 4) dX6_begin_42 rfl fl_RX6_67 hp1 rfl (ly_4_4 hp1) ?_
      refine g_iload_n (pc' := 46) dX6_begin_45 rfl rfl ?_
      obtain ⟨ob8, h⟩ := h
      refine g_iald (pc' := 47) dX6_begin_46 rfl (lk_4_4 hp1) (Eq.mpr (congrArg (inb _) (la_4_4 hp1)) ob8) ?_
      obtain ⟨ob9, h⟩ := h
      refine g_iast (pc' := 48) dX6_begin_47 rfl (lk_6_4 hp0) (Eq.mpr (congrArg (inb _) (la_6_4 hp0)) ob9) ?_
      refine g_sto (fun s10 es10 => ?_)
      have h := h s10 es10
      refine g_aload_n (pc' := 49) dX6_begin_48 rfl rfl ?_
      refine g_getR (pc' := 52) (r := p1 + 1) dX6_begin_49 rfl fl_RX6_70 hp1 rfl (ly_4_1 hp1) ?_
      refine g_iload_n (pc' := 53) dX6_begin_52 rfl rfl ?_
      obtain ⟨ob11, h⟩ := h
      refine g_iald (pc' := 54) dX6_begin_53 rfl (lk_4_1 hp1) (Eq.mpr (congrArg (inb _) (la_4_1 hp1)) ob11) ?_
      refine g_bipush (pc' := 56) ⟨by unfold r32; decide, rfl⟩ dX6_begin_54 rfl ?_
      refine g_ic_ge (pc' := 59) (tgt := 69) dX6_begin_56 rfl rfl (fun c12 => ?_) (fun c12 => ?_)
      · have h := h.1 c12
        refine g_iinc (pc' := 72) dX6_begin_69 rfl rfl (by decide) ?_
        refine g_goto (pc' := 7) dX6_begin_72 rfl ?_
        exact (ih _ _ h).to ((sb_c rfl (sb_c rfl (sb_c rfl sb_n))))
      · have h := h.2 c12
        refine g_aload_n (pc' := 60) dX6_begin_59 rfl rfl ?_
        refine g_dupR (pc' := 61) dX6_begin_60 rfl ?_
        refine g_getI (pc' := 64) dX6_begin_61 rfl fl_RX6_43 hp0 (Or.inl rfl) ?_
        refine g_iconst (pc' := 65) (by unfold r32; decide) dX6_begin_64 rfl ?_
        refine g_iadd (pc' := 66) dX6_begin_65 rfl ?_
        refine g_putI (pc' := 69) dX6_begin_66 rfl fp_RX6_43 hp0 rfl ?_
        refine g_sto (fun s13 es13 => ?_)
        have h := h s13 es13
        refine g_iinc (pc' := 72) dX6_begin_69 rfl rfl (by decide) ?_
        refine g_goto (pc' := 7) dX6_begin_72 rfl ?_
        exact (ih _ _ h).to ((sb_c rfl (sb_c rfl (sb_c rfl sb_n))))
def L_X6_begin_82 (p0 : Nat) (p1 : Nat) (K134 : Sto → Prop) : Nat → Int → Sto → Prop
  | 0, _, _ => False
  | n + 1, v2, s => ((s p1 6 ≤ v2 → K134 s) ∧ (¬ s p1 6 ≤ v2 → (inb v2 8 ∧ (∀ s3 : Sto, s3 = up s (p0 + 5) v2.toNat ((-1)) → (inb v2 8 ∧ (∀ s5 : Sto, s5 = up s3 (p0 + 6) v2.toNat ((-1)) → (inb v2 8 ∧ (∀ s7 : Sto, s7 = up s5 (p0 + 7) v2.toNat ((-1)) → (inb v2 8 ∧ (∀ s9 : Sto, s9 = up s7 p0 12 (lO (s7 p0 12) (lShl 1 (s7 (p1 + 6) v2.toNat))) → L_X6_begin_82 p0 p1 K134 n (w32 (v2 + 1)) s9))))))))))
set_option maxRecDepth 100000 in
theorem SL_X6_begin_82 {p0 : Nat} {p1 : Nat} {K134 : Sto → Prop} {Q : Int → Sto → Prop} (hp0 : kd p0 = 16) (hp1 : kd p1 = 14) (hK134 : ∀ s, K134 s → sr_G RX6 cX6_begin 3 none 0 134 [(0, vR p0)] [] s Q) : ∀ n v2 s, L_X6_begin_82 p0 p1 K134 n v2 s → sr_G RX6 cX6_begin 3 none 0 82 [(0, vR p0), (1, vR p1), (2, vI v2)] [] s Q := by
  intro n
  induction n with
  | zero => intro v2 s h; exact h.elim
  | succ n ih =>
    intro v2 s h
    unfold L_X6_begin_82 at h
    refine g_iload_n (pc' := 83) dX6_begin_82 rfl rfl ?_
    refine g_aload_n (pc' := 84) dX6_begin_83 rfl rfl ?_
    refine g_getI (pc' := 87) dX6_begin_84 rfl fl_RX6_73 hp1 (Or.inl rfl) ?_
    refine g_ic_ge (pc' := 90) (tgt := 134) dX6_begin_87 rfl rfl (fun c1 => ?_) (fun c1 => ?_)
    · have h := h.1 c1
      exact (hK134 _ h).to ((sb_c rfl sb_n))
    · have h := h.2 c1
      refine g_aload_n (pc' := 91) dX6_begin_90 rfl rfl ?_
      refine g_getR (pc' := 94) (r := p0 + 5) dX6_begin_91 rfl fl_RX6_24 hp0 rfl (ly_6_5 hp0) ?_
      refine g_iload_n (pc' := 95) dX6_begin_94 rfl rfl ?_
      refine g_iconst (pc' := 96) (by unfold r32; decide) dX6_begin_95 rfl ?_
      obtain ⟨ob2, h⟩ := h
      refine g_iast (pc' := 97) dX6_begin_96 rfl (lk_6_5 hp0) (Eq.mpr (congrArg (inb _) (la_6_5 hp0)) ob2) ?_
      refine g_sto (fun s3 es3 => ?_)
      have h := h s3 es3
      refine g_aload_n (pc' := 98) dX6_begin_97 rfl rfl ?_
      refine g_getR (pc' := 101) (r := p0 + 6) dX6_begin_98 rfl fl_RX6_27 hp0 rfl (ly_6_6 hp0) ?_
      refine g_iload_n (pc' := 102) dX6_begin_101 rfl rfl ?_
      refine g_iconst (pc' := 103) (by unfold r32; decide) dX6_begin_102 rfl ?_
      obtain ⟨ob4, h⟩ := h
      refine g_iast (pc' := 104) dX6_begin_103 rfl (lk_6_6 hp0) (Eq.mpr (congrArg (inb _) (la_6_6 hp0)) ob4) ?_
      refine g_sto (fun s5 es5 => ?_)
      have h := h s5 es5
      refine g_aload_n (pc' := 105) dX6_begin_104 rfl rfl ?_
      refine g_getR (pc' := 108) (r := p0 + 7) dX6_begin_105 rfl fl_RX6_30 hp0 rfl (ly_6_7 hp0) ?_
      refine g_iload_n (pc' := 109) dX6_begin_108 rfl rfl ?_
      refine g_iconst (pc' := 110) (by unfold r32; decide) dX6_begin_109 rfl ?_
      obtain ⟨ob6, h⟩ := h
      refine g_iast (pc' := 111) dX6_begin_110 rfl (lk_6_7 hp0) (Eq.mpr (congrArg (inb _) (la_6_7 hp0)) ob6) ?_
      refine g_sto (fun s7 es7 => ?_)
      have h := h s7 es7
      refine g_aload_n (pc' := 112) dX6_begin_111 rfl rfl ?_
      refine g_dupR (pc' := 113) dX6_begin_112 rfl ?_
      refine g_getL (pc' := 116) dX6_begin_113 rfl fl_RX6_46 hp0 rfl ?_
      refine g_lconst (pc' := 117) (z := 1) ⟨by unfold r64; decide, rfl⟩ dX6_begin_116 rfl ?_
      refine g_aload_n (pc' := 118) dX6_begin_117 rfl rfl ?_
      refine g_getR (pc' := 121) (r := p1 + 6) dX6_begin_118 rfl fl_RX6_76 hp1 rfl (ly_4_7 hp1) ?_
      refine g_iload_n (pc' := 122) dX6_begin_121 rfl rfl ?_
      obtain ⟨ob8, h⟩ := h
      refine g_iald (pc' := 123) dX6_begin_122 rfl (lk_4_7 hp1) (Eq.mpr (congrArg (inb _) (la_4_7 hp1)) ob8) ?_
      refine g_lshl (pc' := 124) dX6_begin_123 rfl ?_
      refine g_lor (pc' := 125) dX6_begin_124 rfl ?_
      refine g_putL (pc' := 128) dX6_begin_125 rfl fp_RX6_46 hp0 rfl ?_
      refine g_sto (fun s9 es9 => ?_)
      have h := h s9 es9
      refine g_iinc (pc' := 131) dX6_begin_128 rfl rfl (by decide) ?_
      refine g_goto (pc' := 82) dX6_begin_131 rfl ?_
      exact (ih _ _ h).to ((sb_c rfl (sb_c rfl (sb_c rfl sb_n))))
def P_X6_begin (o : Nat) (p1 : Nat) (s : Sto) (Q : Int → Sto → Prop) : Prop := (∀ s1 : Sto, s1 = up s o 11 0 → (∃ n9, L_X6_begin_7 o p1 (fun s2 => (∀ s3 : Sto, s3 = up s2 o 12 0 → (∃ n8, L_X6_begin_82 o p1 (fun s4 => (∀ s5 : Sto, s5 = up s4 o 8 0 → (∀ s6 : Sto, s6 = up s5 o 9 0 → (∀ s7 : Sto, s7 = up s6 o 10 ((-1)) → Q 0 s7)))) n8 0 s3))) n9 0 s1))
set_option maxRecDepth 100000 in
theorem C_X6_begin {o : Nat} {p1 : Nat} {s : Sto} {Q : Int → Sto → Prop} (ho : kd o = 16) (hp1 : kd p1 = 14) (h : P_X6_begin o p1 s Q) : sr_C yX6_begin cX6_begin 3 none 0 [vR o, vR p1] s Q := by
  refine sr_C.of (by decide +kernel) (Nat.le_of_ble_eq_true rfl) ?_
  show sr_G RX6 cX6_begin 3 none 0 0 [(0, vR o), (1, vR p1)] [] s Q
  unfold P_X6_begin at h
  refine g_aload_n (pc' := 1) dX6_begin_0 rfl rfl ?_
  refine g_iconst (pc' := 2) (by unfold r32; decide) dX6_begin_1 rfl ?_
  refine g_putI (pc' := 5) dX6_begin_2 rfl fp_RX6_43 ho rfl ?_
  refine g_sto (fun s1 es1 => ?_)
  have h := h s1 es1
  refine g_iconst (pc' := 6) (by unfold r32; decide) dX6_begin_5 rfl ?_
  refine g_istore_n (pc' := 7) dX6_begin_6 rfl (by decide) ?_
  obtain ⟨n9, h⟩ := h
  refine (SL_X6_begin_7 ho hp1 (fun s2 h => ?_) n9 _ _ h).to ((sb_c rfl (sb_c rfl (sb_c rfl sb_n))))
  · refine g_aload_n (pc' := 76) dX6_begin_75 rfl rfl ?_
    refine g_lconst (pc' := 77) (z := 0) ⟨by unfold r64; decide, rfl⟩ dX6_begin_76 rfl ?_
    refine g_putL (pc' := 80) dX6_begin_77 rfl fp_RX6_46 ho rfl ?_
    refine g_sto (fun s3 es3 => ?_)
    have h := h s3 es3
    refine g_iconst (pc' := 81) (by unfold r32; decide) dX6_begin_80 rfl ?_
    refine g_istore_n (pc' := 82) dX6_begin_81 rfl (by decide) ?_
    obtain ⟨n8, h⟩ := h
    refine (SL_X6_begin_82 ho hp1 (fun s4 h => ?_) n8 _ _ h).to ((sb_c rfl (sb_c rfl (sb_c rfl sb_n))))
    · refine g_aload_n (pc' := 135) dX6_begin_134 rfl rfl ?_
      refine g_iconst (pc' := 136) (by unfold r32; decide) dX6_begin_135 rfl ?_
      refine g_putI (pc' := 139) dX6_begin_136 rfl fp_RX6_33 ho rfl ?_
      refine g_sto (fun s5 es5 => ?_)
      have h := h s5 es5
      refine g_aload_n (pc' := 140) dX6_begin_139 rfl rfl ?_
      refine g_iconst (pc' := 141) (by unfold r32; decide) dX6_begin_140 rfl ?_
      refine g_putI (pc' := 144) dX6_begin_141 rfl fp_RX6_37 ho rfl ?_
      refine g_sto (fun s6 es6 => ?_)
      have h := h s6 es6
      refine g_aload_n (pc' := 145) dX6_begin_144 rfl rfl ?_
      refine g_iconst (pc' := 146) (by unfold r32; decide) dX6_begin_145 rfl ?_
      refine g_putI (pc' := 149) dX6_begin_146 rfl fp_RX6_40 ho rfl ?_
      refine g_sto (fun s7 es7 => ?_)
      have h := h s7 es7
      exact g_vret dX6_begin_149 rfl h
def F_X6_shift (o : Nat) (v1 : Int) (v2 : Int) (s : Sto) : Int := (if w32 ((w32 ((s (o + 2) v1.toNat) * 4)) + v2) < 0 then 0 else (if 144 ≤ w32 ((w32 ((s (o + 2) v1.toNat) * 4)) + v2) then 0 else (if s 5 (w32 ((w32 ((s (o + 2) v1.toNat) * 4)) + v2)).toNat = (-1) then 0 else 1)))
def S_X6_shift (o : Nat) (v1 : Int) (v2 : Int) (s : Sto) : Sto := (if w32 ((w32 ((s (o + 2) v1.toNat) * 4)) + v2) < 0 then s else (if 144 ≤ w32 ((w32 ((s (o + 2) v1.toNat) * 4)) + v2) then s else (if s 5 (w32 ((w32 ((s (o + 2) v1.toNat) * 4)) + v2)).toNat = (-1) then s else up s (o + 2) v1.toNat (s 5 (w32 ((w32 ((s (o + 2) v1.toNat) * 4)) + v2)).toNat))))
def O_X6_shift (o : Nat) (v1 : Int) (v2 : Int) (s : Sto) : Prop := (inb v1 8 ∧ ((w32 ((w32 ((s (o + 2) v1.toNat) * 4)) + v2) < 0 → True) ∧ (¬ w32 ((w32 ((s (o + 2) v1.toNat) * 4)) + v2) < 0 → ((144 ≤ w32 ((w32 ((s (o + 2) v1.toNat) * 4)) + v2) → True) ∧ (¬ 144 ≤ w32 ((w32 ((s (o + 2) v1.toNat) * 4)) + v2) → (inb (w32 ((w32 ((s (o + 2) v1.toNat) * 4)) + v2)) 144 ∧ ((s 5 (w32 ((w32 ((s (o + 2) v1.toNat) * 4)) + v2)).toNat = (-1) → True) ∧ (¬ s 5 (w32 ((w32 ((s (o + 2) v1.toNat) * 4)) + v2)).toNat = (-1) → (inb v1 8 ∧ True)))))))))
set_option maxRecDepth 100000 in
theorem C_X6_shift {o : Nat} {v1 : Int} {v2 : Int} {s : Sto} (ho : kd o = 16) (h : O_X6_shift o v1 v2 s) : sr_C yX6_shift cX6_shift 5 (some .boolean) 0 [vR o, vI v1, vI v2] s (fun r s' => r = F_X6_shift o v1 v2 s ∧ s' = S_X6_shift o v1 v2 s ∧ (r = 0 ∨ r = 1)) := by
  refine sr_C.of (by decide +kernel) (Nat.le_of_ble_eq_true rfl) ?_
  show sr_G RX6 cX6_shift 5 (some .boolean) 0 0 [(0, vR o), (1, vI v1), (2, vI v2)] [] s (fun r s' => r = F_X6_shift o v1 v2 s ∧ s' = S_X6_shift o v1 v2 s ∧ (r = 0 ∨ r = 1))
  unfold O_X6_shift at h
  refine g_aload_n (pc' := 1) dX6_shift_0 rfl rfl ?_
  refine g_getR (pc' := 4) (r := o + 2) dX6_shift_1 rfl fl_RX6_15 ho rfl (ly_6_2 ho) ?_
  refine g_iload_n (pc' := 5) dX6_shift_4 rfl rfl ?_
  obtain ⟨ob1, h⟩ := h
  refine g_iald (pc' := 6) dX6_shift_5 rfl (lk_6_2 ho) (Eq.mpr (congrArg (inb _) (la_6_2 ho)) ob1) ?_
  refine g_iconst (pc' := 7) (by unfold r32; decide) dX6_shift_6 rfl ?_
  refine g_imul (pc' := 8) dX6_shift_7 rfl ?_
  refine g_iload_n (pc' := 9) dX6_shift_8 rfl rfl ?_
  refine g_iadd (pc' := 10) dX6_shift_9 rfl ?_
  refine g_istore_n (pc' := 11) dX6_shift_10 rfl (by decide) ?_
  refine g_iload_n (pc' := 12) dX6_shift_11 rfl rfl ?_
  refine g_if_lt (pc' := 15) (tgt := 39) dX6_shift_12 rfl rfl (fun c2 => ?_) (fun c2 => ?_)
  · have h := h.1 c2
    refine g_iconst (pc' := 40) (by unfold r32; decide) dX6_shift_39 rfl ?_
    refine g_istore (pc' := 42) dX6_shift_40 rfl (by decide) ?_
    refine g_iload (pc' := 44) dX6_shift_42 rfl rfl ?_
    refine g_iconst (pc' := 45) (by unfold r32; decide) dX6_shift_44 rfl ?_
    refine g_ic_ne (pc' := 48) (tgt := 50) dX6_shift_45 rfl rfl (fun c3 => absurd (by decide) c3) (fun c3 => ?_)
    refine g_iconst (pc' := 49) (by unfold r32; decide) dX6_shift_48 rfl ?_
    exact g_zret dX6_shift_49 rfl (Or.inl rfl) ⟨(by simp only [F_X6_shift, if_pos c2]), (by simp only [S_X6_shift, if_pos c2]), (Or.inl rfl)⟩
  · have h := h.2 c2
    refine g_iload_n (pc' := 16) dX6_shift_15 rfl rfl ?_
    refine g_aload_n (pc' := 17) dX6_shift_16 rfl rfl ?_
    refine g_getR (pc' := 20) (r := 3) dX6_shift_17 rfl fl_RX6_50 ho rfl (ly_6_0 ho) ?_
    refine g_getR (pc' := 23) (r := 5) dX6_shift_20 rfl fl_RX6_109 kd_3 rfl rf_3_2 ?_
    refine g_alen (pc' := 24) (n := 144) dX6_shift_23 rfl (by rw [kd_5]; decide) (by rw [kd_5]; decide) rfl (by unfold r32; decide) ?_
    refine g_ic_ge (pc' := 27) (tgt := 39) dX6_shift_24 rfl rfl (fun c4 => ?_) (fun c4 => ?_)
    · have h := h.1 c4
      refine g_iconst (pc' := 40) (by unfold r32; decide) dX6_shift_39 rfl ?_
      refine g_istore (pc' := 42) dX6_shift_40 rfl (by decide) ?_
      refine g_iload (pc' := 44) dX6_shift_42 rfl rfl ?_
      refine g_iconst (pc' := 45) (by unfold r32; decide) dX6_shift_44 rfl ?_
      refine g_ic_ne (pc' := 48) (tgt := 50) dX6_shift_45 rfl rfl (fun c5 => absurd (by decide) c5) (fun c5 => ?_)
      refine g_iconst (pc' := 49) (by unfold r32; decide) dX6_shift_48 rfl ?_
      exact g_zret dX6_shift_49 rfl (Or.inl rfl) ⟨(by simp only [F_X6_shift, if_neg c2, if_pos c4]), (by simp only [S_X6_shift, if_neg c2, if_pos c4]), (Or.inl rfl)⟩
    · have h := h.2 c4
      refine g_aload_n (pc' := 28) dX6_shift_27 rfl rfl ?_
      refine g_getR (pc' := 31) (r := 3) dX6_shift_28 rfl fl_RX6_50 ho rfl (ly_6_0 ho) ?_
      refine g_getR (pc' := 34) (r := 5) dX6_shift_31 rfl fl_RX6_109 kd_3 rfl rf_3_2 ?_
      refine g_iload_n (pc' := 35) dX6_shift_34 rfl rfl ?_
      obtain ⟨ob6, h⟩ := h
      refine g_iald (pc' := 36) dX6_shift_35 rfl kd_5 ob6 ?_
      refine g_goto (pc' := 40) dX6_shift_36 rfl ?_
      refine g_istore (pc' := 42) dX6_shift_40 rfl (by decide) ?_
      refine g_iload (pc' := 44) dX6_shift_42 rfl rfl ?_
      refine g_iconst (pc' := 45) (by unfold r32; decide) dX6_shift_44 rfl ?_
      refine g_ic_ne (pc' := 48) (tgt := 50) dX6_shift_45 rfl rfl (fun c7 => ?_) (fun c7 => ?_)
      · have h := h.2 c7
        refine g_aload_n (pc' := 51) dX6_shift_50 rfl rfl ?_
        refine g_getR (pc' := 54) (r := o + 2) dX6_shift_51 rfl fl_RX6_15 ho rfl (ly_6_2 ho) ?_
        refine g_iload_n (pc' := 55) dX6_shift_54 rfl rfl ?_
        refine g_iload (pc' := 57) dX6_shift_55 rfl rfl ?_
        obtain ⟨ob8, h⟩ := h
        refine g_iast (pc' := 58) dX6_shift_57 rfl (lk_6_2 ho) (Eq.mpr (congrArg (inb _) (la_6_2 ho)) ob8) ?_
        refine g_iconst (pc' := 59) (by unfold r32; decide) dX6_shift_58 rfl ?_
        exact g_zret dX6_shift_59 rfl (Or.inr rfl) ⟨(by simp only [F_X6_shift, if_neg c2, if_neg c4, if_neg c7]), (by simp only [S_X6_shift, if_neg c2, if_neg c4, if_neg c7]), (Or.inr rfl)⟩
      · have h := h.1 c7
        refine g_iconst (pc' := 49) (by unfold r32; decide) dX6_shift_48 rfl ?_
        exact g_zret dX6_shift_49 rfl (Or.inl rfl) ⟨(by simp only [F_X6_shift, if_neg c2, if_neg c4, if_pos c7]), (by simp only [S_X6_shift, if_neg c2, if_neg c4, if_pos c7]), (Or.inl rfl)⟩
def S_X6_settle (o : Nat) (v1 : Int) (v2 : Int) (s : Sto) : Sto := up (up s (o + 1) v1.toNat v2) o 11 (w32 ((up s (o + 1) v1.toNat v2 o 11) - 1))
def O_X6_settle (o : Nat) (v1 : Int) (v2 : Int) (s : Sto) : Prop := (inb v1 8 ∧ True)
set_option maxRecDepth 100000 in
theorem C_X6_settle {o : Nat} {v1 : Int} {v2 : Int} {s : Sto} (ho : kd o = 16) (h : O_X6_settle o v1 v2 s) : sr_C yX6_settle cX6_settle 3 none 0 [vR o, vI v1, vI v2] s (fun r s' => r = 0 ∧ s' = S_X6_settle o v1 v2 s) := by
  refine sr_C.of (by decide +kernel) (Nat.le_of_ble_eq_true rfl) ?_
  show sr_G RX6 cX6_settle 3 none 0 0 [(0, vR o), (1, vI v1), (2, vI v2)] [] s (fun r s' => r = 0 ∧ s' = S_X6_settle o v1 v2 s)
  unfold O_X6_settle at h
  refine g_aload_n (pc' := 1) dX6_settle_0 rfl rfl ?_
  refine g_getR (pc' := 4) (r := o + 1) dX6_settle_1 rfl fl_RX6_9 ho rfl (ly_6_1 ho) ?_
  refine g_iload_n (pc' := 5) dX6_settle_4 rfl rfl ?_
  refine g_iload_n (pc' := 6) dX6_settle_5 rfl rfl ?_
  obtain ⟨ob1, h⟩ := h
  refine g_iast (pc' := 7) dX6_settle_6 rfl (lk_6_1 ho) (Eq.mpr (congrArg (inb _) (la_6_1 ho)) ob1) ?_
  refine g_aload_n (pc' := 8) dX6_settle_7 rfl rfl ?_
  refine g_dupR (pc' := 9) dX6_settle_8 rfl ?_
  refine g_getI (pc' := 12) dX6_settle_9 rfl fl_RX6_43 ho (Or.inl rfl) ?_
  refine g_iconst (pc' := 13) (by unfold r32; decide) dX6_settle_12 rfl ?_
  refine g_isub (pc' := 14) dX6_settle_13 rfl ?_
  refine g_putI (pc' := 17) dX6_settle_14 rfl fp_RX6_43 ho rfl ?_
  exact g_vret dX6_settle_17 rfl ⟨rfl, rfl⟩
def P_X6_move (o : Nat) (p1 : Nat) (v2 : Int) (v3 : Int) (s : Sto) (Q : Int → Sto → Prop) : Prop := (inb v2 8 ∧ ((s (o + 4) v2.toNat ≤ 0 → (inb v3 20 ∧ ((s (p1 + 9) v3.toNat = (-1) → (inb v2 8 ∧ (inb v2 8 ∧ ((w32 (v3 - (s (p1 + 1) v2.toNat)) < w32 ((s (o + 3) v2.toNat) * (s p1 11)) → (inb v2 8 ∧ ((s (o + 3) v2.toNat ≤ 9 → Q 0 s) ∧ (¬ s (o + 3) v2.toNat ≤ 9 → (O_X6_settle o v2 4 s ∧ (∀ s13 : Sto, s13 = S_X6_settle o v2 4 s → Q 0 s13)))))) ∧ (¬ w32 (v3 - (s (p1 + 1) v2.toNat)) < w32 ((s (o + 3) v2.toNat) * (s p1 11)) → (inb v2 8 ∧ (inb v2 8 ∧ (∀ s16 : Sto, s16 = up s (o + 3) v2.toNat (w32 ((s (o + 3) v2.toNat) + 1)) → (inb v2 8 ∧ ((s16 (o + 3) v2.toNat ≤ 9 → Q 0 s16) ∧ (¬ s16 (o + 3) v2.toNat ≤ 9 → (O_X6_settle o v2 4 s16 ∧ (∀ s20 : Sto, s20 = S_X6_settle o v2 4 s16 → Q 0 s20))))))))))))) ∧ (¬ s (p1 + 9) v3.toNat = (-1) → (inb v3 20 ∧ (O_X6_shift o v2 (s (p1 + 9) v3.toNat) s ∧ (∀ s24 : Sto, s24 = S_X6_shift o v2 (s (p1 + 9) v3.toNat) s → (∀ x25 : Int, x25 = F_X6_shift o v2 (s (p1 + 9) v3.toNat) s → ((x25 = 0 → (O_X6_settle o v2 3 s24 ∧ (∀ s28 : Sto, s28 = S_X6_settle o v2 3 s24 → Q 0 s28))) ∧ (¬ x25 = 0 → (inb v2 8 ∧ (inb v2 8 ∧ ((w32 (v3 - (s24 (p1 + 1) v2.toNat)) < w32 ((s24 (o + 3) v2.toNat) * (s24 p1 11)) → (inb v2 8 ∧ ((s24 (o + 3) v2.toNat ≤ 9 → Q 0 s24) ∧ (¬ s24 (o + 3) v2.toNat ≤ 9 → (O_X6_settle o v2 4 s24 ∧ (∀ s35 : Sto, s35 = S_X6_settle o v2 4 s24 → Q 0 s35)))))) ∧ (¬ w32 (v3 - (s24 (p1 + 1) v2.toNat)) < w32 ((s24 (o + 3) v2.toNat) * (s24 p1 11)) → (inb v2 8 ∧ (inb v2 8 ∧ (∀ s38 : Sto, s38 = up s24 (o + 3) v2.toNat (w32 ((s24 (o + 3) v2.toNat) + 1)) → (inb v2 8 ∧ ((s38 (o + 3) v2.toNat ≤ 9 → Q 0 s38) ∧ (¬ s38 (o + 3) v2.toNat ≤ 9 → (O_X6_settle o v2 4 s38 ∧ (∀ s42 : Sto, s42 = S_X6_settle o v2 4 s38 → Q 0 s42)))))))))))))))))))))) ∧ (¬ s (o + 4) v2.toNat ≤ 0 → (inb v2 8 ∧ (inb v2 8 ∧ (∀ s45 : Sto, s45 = up s (o + 4) v2.toNat (w32 ((s (o + 4) v2.toNat) - 1)) → (inb v2 8 ∧ (O_X6_shift o v2 (s45 (p1 + 3) v2.toNat) s45 ∧ (∀ s49 : Sto, s49 = S_X6_shift o v2 (s45 (p1 + 3) v2.toNat) s45 → (∀ x50 : Int, x50 = F_X6_shift o v2 (s45 (p1 + 3) v2.toNat) s45 → ((x50 = 0 → (O_X6_settle o v2 3 s49 ∧ (∀ s54 : Sto, s54 = S_X6_settle o v2 3 s49 → Q 0 s54))) ∧ (¬ x50 = 0 → (inb v3 20 ∧ ((s49 (p1 + 9) v3.toNat = (-1) → (inb v2 8 ∧ (inb v2 8 ∧ ((w32 (v3 - (s49 (p1 + 1) v2.toNat)) < w32 ((s49 (o + 3) v2.toNat) * (s49 p1 11)) → (inb v2 8 ∧ ((s49 (o + 3) v2.toNat ≤ 9 → Q 0 s49) ∧ (¬ s49 (o + 3) v2.toNat ≤ 9 → (O_X6_settle o v2 4 s49 ∧ (∀ s64 : Sto, s64 = S_X6_settle o v2 4 s49 → Q 0 s64)))))) ∧ (¬ w32 (v3 - (s49 (p1 + 1) v2.toNat)) < w32 ((s49 (o + 3) v2.toNat) * (s49 p1 11)) → (inb v2 8 ∧ (inb v2 8 ∧ (∀ s67 : Sto, s67 = up s49 (o + 3) v2.toNat (w32 ((s49 (o + 3) v2.toNat) + 1)) → (inb v2 8 ∧ ((s67 (o + 3) v2.toNat ≤ 9 → Q 0 s67) ∧ (¬ s67 (o + 3) v2.toNat ≤ 9 → (O_X6_settle o v2 4 s67 ∧ (∀ s71 : Sto, s71 = S_X6_settle o v2 4 s67 → Q 0 s71))))))))))))) ∧ (¬ s49 (p1 + 9) v3.toNat = (-1) → (inb v3 20 ∧ (O_X6_shift o v2 (s49 (p1 + 9) v3.toNat) s49 ∧ (∀ s75 : Sto, s75 = S_X6_shift o v2 (s49 (p1 + 9) v3.toNat) s49 → (∀ x76 : Int, x76 = F_X6_shift o v2 (s49 (p1 + 9) v3.toNat) s49 → ((x76 = 0 → (O_X6_settle o v2 3 s75 ∧ (∀ s79 : Sto, s79 = S_X6_settle o v2 3 s75 → Q 0 s79))) ∧ (¬ x76 = 0 → (inb v2 8 ∧ (inb v2 8 ∧ ((w32 (v3 - (s75 (p1 + 1) v2.toNat)) < w32 ((s75 (o + 3) v2.toNat) * (s75 p1 11)) → (inb v2 8 ∧ ((s75 (o + 3) v2.toNat ≤ 9 → Q 0 s75) ∧ (¬ s75 (o + 3) v2.toNat ≤ 9 → (O_X6_settle o v2 4 s75 ∧ (∀ s86 : Sto, s86 = S_X6_settle o v2 4 s75 → Q 0 s86)))))) ∧ (¬ w32 (v3 - (s75 (p1 + 1) v2.toNat)) < w32 ((s75 (o + 3) v2.toNat) * (s75 p1 11)) → (inb v2 8 ∧ (inb v2 8 ∧ (∀ s89 : Sto, s89 = up s75 (o + 3) v2.toNat (w32 ((s75 (o + 3) v2.toNat) + 1)) → (inb v2 8 ∧ ((s89 (o + 3) v2.toNat ≤ 9 → Q 0 s89) ∧ (¬ s89 (o + 3) v2.toNat ≤ 9 → (O_X6_settle o v2 4 s89 ∧ (∀ s93 : Sto, s93 = S_X6_settle o v2 4 s89 → Q 0 s93)))))))))))))))))))))))))))))))))
set_option maxRecDepth 100000 in
theorem C_X6_move {o : Nat} {p1 : Nat} {v2 : Int} {v3 : Int} {s : Sto} {Q : Int → Sto → Prop} (ho : kd o = 16) (hp1 : kd p1 = 14) (h : P_X6_move o p1 v2 v3 s Q) : sr_C yX6_move cX6_move 5 none 1 [vR o, vR p1, vI v2, vI v3] s Q := by
  refine sr_C.of (by decide +kernel) (Nat.le_of_ble_eq_true rfl) ?_
  show sr_G RX6 cX6_move 5 none 1 0 [(0, vR o), (1, vR p1), (2, vI v2), (3, vI v3)] [] s Q
  unfold P_X6_move at h
  refine g_iconst (pc' := 1) (by unfold r32; decide) dX6_move_0 rfl ?_
  refine g_istore (pc' := 3) dX6_move_1 rfl (by decide) ?_
  refine g_aload_n (pc' := 4) dX6_move_3 rfl rfl ?_
  refine g_getR (pc' := 7) (r := o + 4) dX6_move_4 rfl fl_RX6_21 ho rfl (ly_6_4 ho) ?_
  refine g_iload_n (pc' := 8) dX6_move_7 rfl rfl ?_
  obtain ⟨ob1, h⟩ := h
  refine g_iald (pc' := 9) dX6_move_8 rfl (lk_6_4 ho) (Eq.mpr (congrArg (inb _) (la_6_4 ho)) ob1) ?_
  refine g_if_le (pc' := 12) (tgt := 35) dX6_move_9 rfl rfl (fun c2 => ?_) (fun c2 => ?_)
  · have h := h.1 c2
    refine g_iload (pc' := 37) dX6_move_35 rfl rfl ?_
    refine g_if_eq (pc' := 40) (tgt := 63) dX6_move_37 rfl rfl (fun c3 => absurd c3 (by decide)) (fun c3 => ?_)
    refine g_aload_n (pc' := 41) dX6_move_40 rfl rfl ?_
    refine g_getR (pc' := 44) (r := p1 + 9) dX6_move_41 rfl fl_RX6_99 hp1 rfl (ly_4_10 hp1) ?_
    refine g_iload_n (pc' := 45) dX6_move_44 rfl rfl ?_
    obtain ⟨ob4, h⟩ := h
    refine g_iald (pc' := 46) dX6_move_45 rfl (lk_4_10 hp1) (Eq.mpr (congrArg (inb _) (la_4_10 hp1)) ob4) ?_
    refine g_iconst (pc' := 47) (by unfold r32; decide) dX6_move_46 rfl ?_
    refine g_ic_eq (pc' := 50) (tgt := 63) dX6_move_47 rfl rfl (fun c5 => ?_) (fun c5 => ?_)
    · have h := h.1 c5
      refine g_iload (pc' := 65) dX6_move_63 rfl rfl ?_
      refine g_if_ne (pc' := 68) (tgt := 75) dX6_move_65 rfl rfl (fun c6 => ?_) (fun c6 => absurd c6 (by decide))
      refine g_iload_n (pc' := 76) dX6_move_75 rfl rfl ?_
      refine g_aload_n (pc' := 77) dX6_move_76 rfl rfl ?_
      refine g_getR (pc' := 80) (r := p1 + 1) dX6_move_77 rfl fl_RX6_70 hp1 rfl (ly_4_1 hp1) ?_
      refine g_iload_n (pc' := 81) dX6_move_80 rfl rfl ?_
      obtain ⟨ob7, h⟩ := h
      refine g_iald (pc' := 82) dX6_move_81 rfl (lk_4_1 hp1) (Eq.mpr (congrArg (inb _) (la_4_1 hp1)) ob7) ?_
      refine g_isub (pc' := 83) dX6_move_82 rfl ?_
      refine g_aload_n (pc' := 84) dX6_move_83 rfl rfl ?_
      refine g_getR (pc' := 87) (r := o + 3) dX6_move_84 rfl fl_RX6_18 ho rfl (ly_6_3 ho) ?_
      refine g_iload_n (pc' := 88) dX6_move_87 rfl rfl ?_
      obtain ⟨ob8, h⟩ := h
      refine g_iald (pc' := 89) dX6_move_88 rfl (lk_6_3 ho) (Eq.mpr (congrArg (inb _) (la_6_3 ho)) ob8) ?_
      refine g_aload_n (pc' := 90) dX6_move_89 rfl rfl ?_
      refine g_getI (pc' := 93) dX6_move_90 rfl fl_RX6_106 hp1 (Or.inl rfl) ?_
      refine g_imul (pc' := 94) dX6_move_93 rfl ?_
      refine g_ic_lt (pc' := 97) (tgt := 107) dX6_move_94 rfl rfl (fun c9 => ?_) (fun c9 => ?_)
      · have h := h.1 c9
        refine g_aload_n (pc' := 108) dX6_move_107 rfl rfl ?_
        refine g_getR (pc' := 111) (r := o + 3) dX6_move_108 rfl fl_RX6_18 ho rfl (ly_6_3 ho) ?_
        refine g_iload_n (pc' := 112) dX6_move_111 rfl rfl ?_
        obtain ⟨ob10, h⟩ := h
        refine g_iald (pc' := 113) dX6_move_112 rfl (lk_6_3 ho) (Eq.mpr (congrArg (inb _) (la_6_3 ho)) ob10) ?_
        refine g_bipush (pc' := 115) ⟨by unfold r32; decide, rfl⟩ dX6_move_113 rfl ?_
        refine g_ic_le (pc' := 118) (tgt := 124) dX6_move_115 rfl rfl (fun c11 => ?_) (fun c11 => ?_)
        · have h := h.1 c11
          exact g_vret dX6_move_124 rfl h
        · have h := h.2 c11
          refine g_aload_n (pc' := 119) dX6_move_118 rfl rfl ?_
          refine g_iload_n (pc' := 120) dX6_move_119 rfl rfl ?_
          refine g_iconst (pc' := 121) (by unfold r32; decide) dX6_move_120 rfl ?_
          obtain ⟨ob12, h⟩ := h
          refine g_V2v (pc' := 124) dX6_move_121 rfl mv_RX6_102 ho (by decide) (Nat.le_of_ble_eq_true rfl) (C_X6_settle ho ob12) (sr_purv ?_)
          refine g_sto (fun s13 es13 => ?_)
          have h := h s13 es13
          exact g_vret dX6_move_124 rfl h
      · have h := h.2 c9
        refine g_aload_n (pc' := 98) dX6_move_97 rfl rfl ?_
        refine g_getR (pc' := 101) (r := o + 3) dX6_move_98 rfl fl_RX6_18 ho rfl (ly_6_3 ho) ?_
        refine g_iload_n (pc' := 102) dX6_move_101 rfl rfl ?_
        refine g_dup2 (pc' := 103) dX6_move_102 rfl ?_
        obtain ⟨ob14, h⟩ := h
        refine g_iald (pc' := 104) dX6_move_103 rfl (lk_6_3 ho) (Eq.mpr (congrArg (inb _) (la_6_3 ho)) ob14) ?_
        refine g_iconst (pc' := 105) (by unfold r32; decide) dX6_move_104 rfl ?_
        refine g_iadd (pc' := 106) dX6_move_105 rfl ?_
        obtain ⟨ob15, h⟩ := h
        refine g_iast (pc' := 107) dX6_move_106 rfl (lk_6_3 ho) (Eq.mpr (congrArg (inb _) (la_6_3 ho)) ob15) ?_
        refine g_sto (fun s16 es16 => ?_)
        have h := h s16 es16
        refine g_aload_n (pc' := 108) dX6_move_107 rfl rfl ?_
        refine g_getR (pc' := 111) (r := o + 3) dX6_move_108 rfl fl_RX6_18 ho rfl (ly_6_3 ho) ?_
        refine g_iload_n (pc' := 112) dX6_move_111 rfl rfl ?_
        obtain ⟨ob17, h⟩ := h
        refine g_iald (pc' := 113) dX6_move_112 rfl (lk_6_3 ho) (Eq.mpr (congrArg (inb _) (la_6_3 ho)) ob17) ?_
        refine g_bipush (pc' := 115) ⟨by unfold r32; decide, rfl⟩ dX6_move_113 rfl ?_
        refine g_ic_le (pc' := 118) (tgt := 124) dX6_move_115 rfl rfl (fun c18 => ?_) (fun c18 => ?_)
        · have h := h.1 c18
          exact g_vret dX6_move_124 rfl h
        · have h := h.2 c18
          refine g_aload_n (pc' := 119) dX6_move_118 rfl rfl ?_
          refine g_iload_n (pc' := 120) dX6_move_119 rfl rfl ?_
          refine g_iconst (pc' := 121) (by unfold r32; decide) dX6_move_120 rfl ?_
          obtain ⟨ob19, h⟩ := h
          refine g_V2v (pc' := 124) dX6_move_121 rfl mv_RX6_102 ho (by decide) (Nat.le_of_ble_eq_true rfl) (C_X6_settle ho ob19) (sr_purv ?_)
          refine g_sto (fun s20 es20 => ?_)
          have h := h s20 es20
          exact g_vret dX6_move_124 rfl h
    · have h := h.2 c5
      refine g_aload_n (pc' := 51) dX6_move_50 rfl rfl ?_
      refine g_iload_n (pc' := 52) dX6_move_51 rfl rfl ?_
      refine g_aload_n (pc' := 53) dX6_move_52 rfl rfl ?_
      refine g_getR (pc' := 56) (r := p1 + 9) dX6_move_53 rfl fl_RX6_99 hp1 rfl (ly_4_10 hp1) ?_
      refine g_iload_n (pc' := 57) dX6_move_56 rfl rfl ?_
      obtain ⟨ob21, h⟩ := h
      refine g_iald (pc' := 58) dX6_move_57 rfl (lk_4_10 hp1) (Eq.mpr (congrArg (inb _) (la_4_10 hp1)) ob21) ?_
      obtain ⟨ob22, h⟩ := h
      refine g_V2z (pc' := 61) dX6_move_58 rfl mv_RX6_95 ho (by decide) (Nat.le_of_ble_eq_true rfl) (C_X6_shift ho ob22) (sr_purb (fun hb23 => ?_))
      refine g_sto (fun s24 es24 => ?_)
      have h := h s24 es24
      refine g_topI (fun x25 ex25 => ?_)
      have h := h x25 ex25
      refine g_istore (pc' := 63) dX6_move_61 rfl (by decide) ?_
      refine g_iload (pc' := 65) dX6_move_63 rfl rfl ?_
      refine g_if_ne (pc' := 68) (tgt := 75) dX6_move_65 rfl rfl (fun c26 => ?_) (fun c26 => ?_)
      · have h := h.2 c26
        refine g_iload_n (pc' := 76) dX6_move_75 rfl rfl ?_
        refine g_aload_n (pc' := 77) dX6_move_76 rfl rfl ?_
        refine g_getR (pc' := 80) (r := p1 + 1) dX6_move_77 rfl fl_RX6_70 hp1 rfl (ly_4_1 hp1) ?_
        refine g_iload_n (pc' := 81) dX6_move_80 rfl rfl ?_
        obtain ⟨ob29, h⟩ := h
        refine g_iald (pc' := 82) dX6_move_81 rfl (lk_4_1 hp1) (Eq.mpr (congrArg (inb _) (la_4_1 hp1)) ob29) ?_
        refine g_isub (pc' := 83) dX6_move_82 rfl ?_
        refine g_aload_n (pc' := 84) dX6_move_83 rfl rfl ?_
        refine g_getR (pc' := 87) (r := o + 3) dX6_move_84 rfl fl_RX6_18 ho rfl (ly_6_3 ho) ?_
        refine g_iload_n (pc' := 88) dX6_move_87 rfl rfl ?_
        obtain ⟨ob30, h⟩ := h
        refine g_iald (pc' := 89) dX6_move_88 rfl (lk_6_3 ho) (Eq.mpr (congrArg (inb _) (la_6_3 ho)) ob30) ?_
        refine g_aload_n (pc' := 90) dX6_move_89 rfl rfl ?_
        refine g_getI (pc' := 93) dX6_move_90 rfl fl_RX6_106 hp1 (Or.inl rfl) ?_
        refine g_imul (pc' := 94) dX6_move_93 rfl ?_
        refine g_ic_lt (pc' := 97) (tgt := 107) dX6_move_94 rfl rfl (fun c31 => ?_) (fun c31 => ?_)
        · have h := h.1 c31
          refine g_aload_n (pc' := 108) dX6_move_107 rfl rfl ?_
          refine g_getR (pc' := 111) (r := o + 3) dX6_move_108 rfl fl_RX6_18 ho rfl (ly_6_3 ho) ?_
          refine g_iload_n (pc' := 112) dX6_move_111 rfl rfl ?_
          obtain ⟨ob32, h⟩ := h
          refine g_iald (pc' := 113) dX6_move_112 rfl (lk_6_3 ho) (Eq.mpr (congrArg (inb _) (la_6_3 ho)) ob32) ?_
          refine g_bipush (pc' := 115) ⟨by unfold r32; decide, rfl⟩ dX6_move_113 rfl ?_
          refine g_ic_le (pc' := 118) (tgt := 124) dX6_move_115 rfl rfl (fun c33 => ?_) (fun c33 => ?_)
          · have h := h.1 c33
            exact g_vret dX6_move_124 rfl h
          · have h := h.2 c33
            refine g_aload_n (pc' := 119) dX6_move_118 rfl rfl ?_
            refine g_iload_n (pc' := 120) dX6_move_119 rfl rfl ?_
            refine g_iconst (pc' := 121) (by unfold r32; decide) dX6_move_120 rfl ?_
            obtain ⟨ob34, h⟩ := h
            refine g_V2v (pc' := 124) dX6_move_121 rfl mv_RX6_102 ho (by decide) (Nat.le_of_ble_eq_true rfl) (C_X6_settle ho ob34) (sr_purv ?_)
            refine g_sto (fun s35 es35 => ?_)
            have h := h s35 es35
            exact g_vret dX6_move_124 rfl h
        · have h := h.2 c31
          refine g_aload_n (pc' := 98) dX6_move_97 rfl rfl ?_
          refine g_getR (pc' := 101) (r := o + 3) dX6_move_98 rfl fl_RX6_18 ho rfl (ly_6_3 ho) ?_
          refine g_iload_n (pc' := 102) dX6_move_101 rfl rfl ?_
          refine g_dup2 (pc' := 103) dX6_move_102 rfl ?_
          obtain ⟨ob36, h⟩ := h
          refine g_iald (pc' := 104) dX6_move_103 rfl (lk_6_3 ho) (Eq.mpr (congrArg (inb _) (la_6_3 ho)) ob36) ?_
          refine g_iconst (pc' := 105) (by unfold r32; decide) dX6_move_104 rfl ?_
          refine g_iadd (pc' := 106) dX6_move_105 rfl ?_
          obtain ⟨ob37, h⟩ := h
          refine g_iast (pc' := 107) dX6_move_106 rfl (lk_6_3 ho) (Eq.mpr (congrArg (inb _) (la_6_3 ho)) ob37) ?_
          refine g_sto (fun s38 es38 => ?_)
          have h := h s38 es38
          refine g_aload_n (pc' := 108) dX6_move_107 rfl rfl ?_
          refine g_getR (pc' := 111) (r := o + 3) dX6_move_108 rfl fl_RX6_18 ho rfl (ly_6_3 ho) ?_
          refine g_iload_n (pc' := 112) dX6_move_111 rfl rfl ?_
          obtain ⟨ob39, h⟩ := h
          refine g_iald (pc' := 113) dX6_move_112 rfl (lk_6_3 ho) (Eq.mpr (congrArg (inb _) (la_6_3 ho)) ob39) ?_
          refine g_bipush (pc' := 115) ⟨by unfold r32; decide, rfl⟩ dX6_move_113 rfl ?_
          refine g_ic_le (pc' := 118) (tgt := 124) dX6_move_115 rfl rfl (fun c40 => ?_) (fun c40 => ?_)
          · have h := h.1 c40
            exact g_vret dX6_move_124 rfl h
          · have h := h.2 c40
            refine g_aload_n (pc' := 119) dX6_move_118 rfl rfl ?_
            refine g_iload_n (pc' := 120) dX6_move_119 rfl rfl ?_
            refine g_iconst (pc' := 121) (by unfold r32; decide) dX6_move_120 rfl ?_
            obtain ⟨ob41, h⟩ := h
            refine g_V2v (pc' := 124) dX6_move_121 rfl mv_RX6_102 ho (by decide) (Nat.le_of_ble_eq_true rfl) (C_X6_settle ho ob41) (sr_purv ?_)
            refine g_sto (fun s42 es42 => ?_)
            have h := h s42 es42
            exact g_vret dX6_move_124 rfl h
      · have h := h.1 c26
        refine g_aload_n (pc' := 69) dX6_move_68 rfl rfl ?_
        refine g_iload_n (pc' := 70) dX6_move_69 rfl rfl ?_
        refine g_iconst (pc' := 71) (by unfold r32; decide) dX6_move_70 rfl ?_
        obtain ⟨ob27, h⟩ := h
        refine g_V2v (pc' := 74) dX6_move_71 rfl mv_RX6_102 ho (by decide) (Nat.le_of_ble_eq_true rfl) (C_X6_settle ho ob27) (sr_purv ?_)
        refine g_sto (fun s28 es28 => ?_)
        have h := h s28 es28
        exact g_vret dX6_move_74 rfl h
  · have h := h.2 c2
    refine g_aload_n (pc' := 13) dX6_move_12 rfl rfl ?_
    refine g_getR (pc' := 16) (r := o + 4) dX6_move_13 rfl fl_RX6_21 ho rfl (ly_6_4 ho) ?_
    refine g_iload_n (pc' := 17) dX6_move_16 rfl rfl ?_
    refine g_dup2 (pc' := 18) dX6_move_17 rfl ?_
    obtain ⟨ob43, h⟩ := h
    refine g_iald (pc' := 19) dX6_move_18 rfl (lk_6_4 ho) (Eq.mpr (congrArg (inb _) (la_6_4 ho)) ob43) ?_
    refine g_iconst (pc' := 20) (by unfold r32; decide) dX6_move_19 rfl ?_
    refine g_isub (pc' := 21) dX6_move_20 rfl ?_
    obtain ⟨ob44, h⟩ := h
    refine g_iast (pc' := 22) dX6_move_21 rfl (lk_6_4 ho) (Eq.mpr (congrArg (inb _) (la_6_4 ho)) ob44) ?_
    refine g_sto (fun s45 es45 => ?_)
    have h := h s45 es45
    refine g_aload_n (pc' := 23) dX6_move_22 rfl rfl ?_
    refine g_iload_n (pc' := 24) dX6_move_23 rfl rfl ?_
    refine g_aload_n (pc' := 25) dX6_move_24 rfl rfl ?_
    refine g_getR (pc' := 28) (r := p1 + 3) dX6_move_25 rfl fl_RX6_92 hp1 rfl (ly_4_3 hp1) ?_
    refine g_iload_n (pc' := 29) dX6_move_28 rfl rfl ?_
    obtain ⟨ob46, h⟩ := h
    refine g_iald (pc' := 30) dX6_move_29 rfl (lk_4_3 hp1) (Eq.mpr (congrArg (inb _) (la_4_3 hp1)) ob46) ?_
    obtain ⟨ob47, h⟩ := h
    refine g_V2z (pc' := 33) dX6_move_30 rfl mv_RX6_95 ho (by decide) (Nat.le_of_ble_eq_true rfl) (C_X6_shift ho ob47) (sr_purb (fun hb48 => ?_))
    refine g_sto (fun s49 es49 => ?_)
    have h := h s49 es49
    refine g_topI (fun x50 ex50 => ?_)
    have h := h x50 ex50
    refine g_istore (pc' := 35) dX6_move_33 rfl (by decide) ?_
    refine g_iload (pc' := 37) dX6_move_35 rfl rfl ?_
    refine g_if_eq (pc' := 40) (tgt := 63) dX6_move_37 rfl rfl (fun c51 => ?_) (fun c51 => ?_)
    · have h := h.1 c51
      refine g_iload (pc' := 65) dX6_move_63 rfl rfl ?_
      refine g_if_ne (pc' := 68) (tgt := 75) dX6_move_65 rfl rfl (fun c52 => absurd c51 c52) (fun c52 => ?_)
      refine g_aload_n (pc' := 69) dX6_move_68 rfl rfl ?_
      refine g_iload_n (pc' := 70) dX6_move_69 rfl rfl ?_
      refine g_iconst (pc' := 71) (by unfold r32; decide) dX6_move_70 rfl ?_
      obtain ⟨ob53, h⟩ := h
      refine g_V2v (pc' := 74) dX6_move_71 rfl mv_RX6_102 ho (by decide) (Nat.le_of_ble_eq_true rfl) (C_X6_settle ho ob53) (sr_purv ?_)
      refine g_sto (fun s54 es54 => ?_)
      have h := h s54 es54
      exact g_vret dX6_move_74 rfl h
    · have h := h.2 c51
      refine g_aload_n (pc' := 41) dX6_move_40 rfl rfl ?_
      refine g_getR (pc' := 44) (r := p1 + 9) dX6_move_41 rfl fl_RX6_99 hp1 rfl (ly_4_10 hp1) ?_
      refine g_iload_n (pc' := 45) dX6_move_44 rfl rfl ?_
      obtain ⟨ob55, h⟩ := h
      refine g_iald (pc' := 46) dX6_move_45 rfl (lk_4_10 hp1) (Eq.mpr (congrArg (inb _) (la_4_10 hp1)) ob55) ?_
      refine g_iconst (pc' := 47) (by unfold r32; decide) dX6_move_46 rfl ?_
      refine g_ic_eq (pc' := 50) (tgt := 63) dX6_move_47 rfl rfl (fun c56 => ?_) (fun c56 => ?_)
      · have h := h.1 c56
        refine g_iload (pc' := 65) dX6_move_63 rfl rfl ?_
        refine g_if_ne (pc' := 68) (tgt := 75) dX6_move_65 rfl rfl (fun c57 => ?_) (fun c57 => absurd c57 c51)
        refine g_iload_n (pc' := 76) dX6_move_75 rfl rfl ?_
        refine g_aload_n (pc' := 77) dX6_move_76 rfl rfl ?_
        refine g_getR (pc' := 80) (r := p1 + 1) dX6_move_77 rfl fl_RX6_70 hp1 rfl (ly_4_1 hp1) ?_
        refine g_iload_n (pc' := 81) dX6_move_80 rfl rfl ?_
        obtain ⟨ob58, h⟩ := h
        refine g_iald (pc' := 82) dX6_move_81 rfl (lk_4_1 hp1) (Eq.mpr (congrArg (inb _) (la_4_1 hp1)) ob58) ?_
        refine g_isub (pc' := 83) dX6_move_82 rfl ?_
        refine g_aload_n (pc' := 84) dX6_move_83 rfl rfl ?_
        refine g_getR (pc' := 87) (r := o + 3) dX6_move_84 rfl fl_RX6_18 ho rfl (ly_6_3 ho) ?_
        refine g_iload_n (pc' := 88) dX6_move_87 rfl rfl ?_
        obtain ⟨ob59, h⟩ := h
        refine g_iald (pc' := 89) dX6_move_88 rfl (lk_6_3 ho) (Eq.mpr (congrArg (inb _) (la_6_3 ho)) ob59) ?_
        refine g_aload_n (pc' := 90) dX6_move_89 rfl rfl ?_
        refine g_getI (pc' := 93) dX6_move_90 rfl fl_RX6_106 hp1 (Or.inl rfl) ?_
        refine g_imul (pc' := 94) dX6_move_93 rfl ?_
        refine g_ic_lt (pc' := 97) (tgt := 107) dX6_move_94 rfl rfl (fun c60 => ?_) (fun c60 => ?_)
        · have h := h.1 c60
          refine g_aload_n (pc' := 108) dX6_move_107 rfl rfl ?_
          refine g_getR (pc' := 111) (r := o + 3) dX6_move_108 rfl fl_RX6_18 ho rfl (ly_6_3 ho) ?_
          refine g_iload_n (pc' := 112) dX6_move_111 rfl rfl ?_
          obtain ⟨ob61, h⟩ := h
          refine g_iald (pc' := 113) dX6_move_112 rfl (lk_6_3 ho) (Eq.mpr (congrArg (inb _) (la_6_3 ho)) ob61) ?_
          refine g_bipush (pc' := 115) ⟨by unfold r32; decide, rfl⟩ dX6_move_113 rfl ?_
          refine g_ic_le (pc' := 118) (tgt := 124) dX6_move_115 rfl rfl (fun c62 => ?_) (fun c62 => ?_)
          · have h := h.1 c62
            exact g_vret dX6_move_124 rfl h
          · have h := h.2 c62
            refine g_aload_n (pc' := 119) dX6_move_118 rfl rfl ?_
            refine g_iload_n (pc' := 120) dX6_move_119 rfl rfl ?_
            refine g_iconst (pc' := 121) (by unfold r32; decide) dX6_move_120 rfl ?_
            obtain ⟨ob63, h⟩ := h
            refine g_V2v (pc' := 124) dX6_move_121 rfl mv_RX6_102 ho (by decide) (Nat.le_of_ble_eq_true rfl) (C_X6_settle ho ob63) (sr_purv ?_)
            refine g_sto (fun s64 es64 => ?_)
            have h := h s64 es64
            exact g_vret dX6_move_124 rfl h
        · have h := h.2 c60
          refine g_aload_n (pc' := 98) dX6_move_97 rfl rfl ?_
          refine g_getR (pc' := 101) (r := o + 3) dX6_move_98 rfl fl_RX6_18 ho rfl (ly_6_3 ho) ?_
          refine g_iload_n (pc' := 102) dX6_move_101 rfl rfl ?_
          refine g_dup2 (pc' := 103) dX6_move_102 rfl ?_
          obtain ⟨ob65, h⟩ := h
          refine g_iald (pc' := 104) dX6_move_103 rfl (lk_6_3 ho) (Eq.mpr (congrArg (inb _) (la_6_3 ho)) ob65) ?_
          refine g_iconst (pc' := 105) (by unfold r32; decide) dX6_move_104 rfl ?_
          refine g_iadd (pc' := 106) dX6_move_105 rfl ?_
          obtain ⟨ob66, h⟩ := h
          refine g_iast (pc' := 107) dX6_move_106 rfl (lk_6_3 ho) (Eq.mpr (congrArg (inb _) (la_6_3 ho)) ob66) ?_
          refine g_sto (fun s67 es67 => ?_)
          have h := h s67 es67
          refine g_aload_n (pc' := 108) dX6_move_107 rfl rfl ?_
          refine g_getR (pc' := 111) (r := o + 3) dX6_move_108 rfl fl_RX6_18 ho rfl (ly_6_3 ho) ?_
          refine g_iload_n (pc' := 112) dX6_move_111 rfl rfl ?_
          obtain ⟨ob68, h⟩ := h
          refine g_iald (pc' := 113) dX6_move_112 rfl (lk_6_3 ho) (Eq.mpr (congrArg (inb _) (la_6_3 ho)) ob68) ?_
          refine g_bipush (pc' := 115) ⟨by unfold r32; decide, rfl⟩ dX6_move_113 rfl ?_
          refine g_ic_le (pc' := 118) (tgt := 124) dX6_move_115 rfl rfl (fun c69 => ?_) (fun c69 => ?_)
          · have h := h.1 c69
            exact g_vret dX6_move_124 rfl h
          · have h := h.2 c69
            refine g_aload_n (pc' := 119) dX6_move_118 rfl rfl ?_
            refine g_iload_n (pc' := 120) dX6_move_119 rfl rfl ?_
            refine g_iconst (pc' := 121) (by unfold r32; decide) dX6_move_120 rfl ?_
            obtain ⟨ob70, h⟩ := h
            refine g_V2v (pc' := 124) dX6_move_121 rfl mv_RX6_102 ho (by decide) (Nat.le_of_ble_eq_true rfl) (C_X6_settle ho ob70) (sr_purv ?_)
            refine g_sto (fun s71 es71 => ?_)
            have h := h s71 es71
            exact g_vret dX6_move_124 rfl h
      · have h := h.2 c56
        refine g_aload_n (pc' := 51) dX6_move_50 rfl rfl ?_
        refine g_iload_n (pc' := 52) dX6_move_51 rfl rfl ?_
        refine g_aload_n (pc' := 53) dX6_move_52 rfl rfl ?_
        refine g_getR (pc' := 56) (r := p1 + 9) dX6_move_53 rfl fl_RX6_99 hp1 rfl (ly_4_10 hp1) ?_
        refine g_iload_n (pc' := 57) dX6_move_56 rfl rfl ?_
        obtain ⟨ob72, h⟩ := h
        refine g_iald (pc' := 58) dX6_move_57 rfl (lk_4_10 hp1) (Eq.mpr (congrArg (inb _) (la_4_10 hp1)) ob72) ?_
        obtain ⟨ob73, h⟩ := h
        refine g_V2z (pc' := 61) dX6_move_58 rfl mv_RX6_95 ho (by decide) (Nat.le_of_ble_eq_true rfl) (C_X6_shift ho ob73) (sr_purb (fun hb74 => ?_))
        refine g_sto (fun s75 es75 => ?_)
        have h := h s75 es75
        refine g_topI (fun x76 ex76 => ?_)
        have h := h x76 ex76
        refine g_istore (pc' := 63) dX6_move_61 rfl (by decide) ?_
        refine g_iload (pc' := 65) dX6_move_63 rfl rfl ?_
        refine g_if_ne (pc' := 68) (tgt := 75) dX6_move_65 rfl rfl (fun c77 => ?_) (fun c77 => ?_)
        · have h := h.2 c77
          refine g_iload_n (pc' := 76) dX6_move_75 rfl rfl ?_
          refine g_aload_n (pc' := 77) dX6_move_76 rfl rfl ?_
          refine g_getR (pc' := 80) (r := p1 + 1) dX6_move_77 rfl fl_RX6_70 hp1 rfl (ly_4_1 hp1) ?_
          refine g_iload_n (pc' := 81) dX6_move_80 rfl rfl ?_
          obtain ⟨ob80, h⟩ := h
          refine g_iald (pc' := 82) dX6_move_81 rfl (lk_4_1 hp1) (Eq.mpr (congrArg (inb _) (la_4_1 hp1)) ob80) ?_
          refine g_isub (pc' := 83) dX6_move_82 rfl ?_
          refine g_aload_n (pc' := 84) dX6_move_83 rfl rfl ?_
          refine g_getR (pc' := 87) (r := o + 3) dX6_move_84 rfl fl_RX6_18 ho rfl (ly_6_3 ho) ?_
          refine g_iload_n (pc' := 88) dX6_move_87 rfl rfl ?_
          obtain ⟨ob81, h⟩ := h
          refine g_iald (pc' := 89) dX6_move_88 rfl (lk_6_3 ho) (Eq.mpr (congrArg (inb _) (la_6_3 ho)) ob81) ?_
          refine g_aload_n (pc' := 90) dX6_move_89 rfl rfl ?_
          refine g_getI (pc' := 93) dX6_move_90 rfl fl_RX6_106 hp1 (Or.inl rfl) ?_
          refine g_imul (pc' := 94) dX6_move_93 rfl ?_
          refine g_ic_lt (pc' := 97) (tgt := 107) dX6_move_94 rfl rfl (fun c82 => ?_) (fun c82 => ?_)
          · have h := h.1 c82
            refine g_aload_n (pc' := 108) dX6_move_107 rfl rfl ?_
            refine g_getR (pc' := 111) (r := o + 3) dX6_move_108 rfl fl_RX6_18 ho rfl (ly_6_3 ho) ?_
            refine g_iload_n (pc' := 112) dX6_move_111 rfl rfl ?_
            obtain ⟨ob83, h⟩ := h
            refine g_iald (pc' := 113) dX6_move_112 rfl (lk_6_3 ho) (Eq.mpr (congrArg (inb _) (la_6_3 ho)) ob83) ?_
            refine g_bipush (pc' := 115) ⟨by unfold r32; decide, rfl⟩ dX6_move_113 rfl ?_
            refine g_ic_le (pc' := 118) (tgt := 124) dX6_move_115 rfl rfl (fun c84 => ?_) (fun c84 => ?_)
            · have h := h.1 c84
              exact g_vret dX6_move_124 rfl h
            · have h := h.2 c84
              refine g_aload_n (pc' := 119) dX6_move_118 rfl rfl ?_
              refine g_iload_n (pc' := 120) dX6_move_119 rfl rfl ?_
              refine g_iconst (pc' := 121) (by unfold r32; decide) dX6_move_120 rfl ?_
              obtain ⟨ob85, h⟩ := h
              refine g_V2v (pc' := 124) dX6_move_121 rfl mv_RX6_102 ho (by decide) (Nat.le_of_ble_eq_true rfl) (C_X6_settle ho ob85) (sr_purv ?_)
              refine g_sto (fun s86 es86 => ?_)
              have h := h s86 es86
              exact g_vret dX6_move_124 rfl h
          · have h := h.2 c82
            refine g_aload_n (pc' := 98) dX6_move_97 rfl rfl ?_
            refine g_getR (pc' := 101) (r := o + 3) dX6_move_98 rfl fl_RX6_18 ho rfl (ly_6_3 ho) ?_
            refine g_iload_n (pc' := 102) dX6_move_101 rfl rfl ?_
            refine g_dup2 (pc' := 103) dX6_move_102 rfl ?_
            obtain ⟨ob87, h⟩ := h
            refine g_iald (pc' := 104) dX6_move_103 rfl (lk_6_3 ho) (Eq.mpr (congrArg (inb _) (la_6_3 ho)) ob87) ?_
            refine g_iconst (pc' := 105) (by unfold r32; decide) dX6_move_104 rfl ?_
            refine g_iadd (pc' := 106) dX6_move_105 rfl ?_
            obtain ⟨ob88, h⟩ := h
            refine g_iast (pc' := 107) dX6_move_106 rfl (lk_6_3 ho) (Eq.mpr (congrArg (inb _) (la_6_3 ho)) ob88) ?_
            refine g_sto (fun s89 es89 => ?_)
            have h := h s89 es89
            refine g_aload_n (pc' := 108) dX6_move_107 rfl rfl ?_
            refine g_getR (pc' := 111) (r := o + 3) dX6_move_108 rfl fl_RX6_18 ho rfl (ly_6_3 ho) ?_
            refine g_iload_n (pc' := 112) dX6_move_111 rfl rfl ?_
            obtain ⟨ob90, h⟩ := h
            refine g_iald (pc' := 113) dX6_move_112 rfl (lk_6_3 ho) (Eq.mpr (congrArg (inb _) (la_6_3 ho)) ob90) ?_
            refine g_bipush (pc' := 115) ⟨by unfold r32; decide, rfl⟩ dX6_move_113 rfl ?_
            refine g_ic_le (pc' := 118) (tgt := 124) dX6_move_115 rfl rfl (fun c91 => ?_) (fun c91 => ?_)
            · have h := h.1 c91
              exact g_vret dX6_move_124 rfl h
            · have h := h.2 c91
              refine g_aload_n (pc' := 119) dX6_move_118 rfl rfl ?_
              refine g_iload_n (pc' := 120) dX6_move_119 rfl rfl ?_
              refine g_iconst (pc' := 121) (by unfold r32; decide) dX6_move_120 rfl ?_
              obtain ⟨ob92, h⟩ := h
              refine g_V2v (pc' := 124) dX6_move_121 rfl mv_RX6_102 ho (by decide) (Nat.le_of_ble_eq_true rfl) (C_X6_settle ho ob92) (sr_purv ?_)
              refine g_sto (fun s93 es93 => ?_)
              have h := h s93 es93
              exact g_vret dX6_move_124 rfl h
        · have h := h.1 c77
          refine g_aload_n (pc' := 69) dX6_move_68 rfl rfl ?_
          refine g_iload_n (pc' := 70) dX6_move_69 rfl rfl ?_
          refine g_iconst (pc' := 71) (by unfold r32; decide) dX6_move_70 rfl ?_
          obtain ⟨ob78, h⟩ := h
          refine g_V2v (pc' := 74) dX6_move_71 rfl mv_RX6_102 ho (by decide) (Nat.le_of_ble_eq_true rfl) (C_X6_settle ho ob78) (sr_purv ?_)
          refine g_sto (fun s79 es79 => ?_)
          have h := h s79 es79
          exact g_vret dX6_move_74 rfl h
def F_X10_isOpen (v1 : Int) (s : Sto) : Int := (if v1 < 0 then 0 else (if s 3 0 ≤ v1 then 0 else (if s 4 v1.toNat = 0 then 0 else 1)))
def O_X10_isOpen (v1 : Int) (s : Sto) : Prop := ((v1 < 0 → True) ∧ (¬ v1 < 0 → ((s 3 0 ≤ v1 → True) ∧ (¬ s 3 0 ≤ v1 → (inb v1 36 ∧ True)))))
set_option maxRecDepth 100000 in
theorem C_X10_isOpen {v1 : Int} {s : Sto}  (h : O_X10_isOpen v1 s) : sr_C yX10_isOpen cX10_isOpen 2 (some .boolean) 0 [vR 3, vI v1] s (fun r s' => r = F_X10_isOpen v1 s ∧ s' = s ∧ (r = 0 ∨ r = 1)) := by
  refine sr_C.of (by decide +kernel) (Nat.le_of_ble_eq_true rfl) ?_
  show sr_G RX10 cX10_isOpen 2 (some .boolean) 0 0 [(0, vR 3), (1, vI v1)] [] s (fun r s' => r = F_X10_isOpen v1 s ∧ s' = s ∧ (r = 0 ∨ r = 1))
  unfold O_X10_isOpen at h
  refine g_iload_n (pc' := 1) dX10_isOpen_0 rfl rfl ?_
  refine g_if_lt (pc' := 4) (tgt := 25) dX10_isOpen_1 rfl rfl (fun c1 => ?_) (fun c1 => ?_)
  · have h := h.1 c1
    refine g_iconst (pc' := 26) (by unfold r32; decide) dX10_isOpen_25 rfl ?_
    exact g_zret dX10_isOpen_26 rfl (Or.inl rfl) ⟨(by simp only [F_X10_isOpen, if_pos c1]), rfl, (Or.inl rfl)⟩
  · have h := h.2 c1
    refine g_iload_n (pc' := 5) dX10_isOpen_4 rfl rfl ?_
    refine g_aload_n (pc' := 6) dX10_isOpen_5 rfl rfl ?_
    refine g_getI (pc' := 9) dX10_isOpen_6 rfl fl_RX10_9 kd_3 (Or.inl rfl) ?_
    refine g_ic_ge (pc' := 12) (tgt := 25) dX10_isOpen_9 rfl rfl (fun c2 => ?_) (fun c2 => ?_)
    · have h := h.1 c2
      refine g_iconst (pc' := 26) (by unfold r32; decide) dX10_isOpen_25 rfl ?_
      exact g_zret dX10_isOpen_26 rfl (Or.inl rfl) ⟨(by simp only [F_X10_isOpen, if_neg c1, if_pos c2]), rfl, (Or.inl rfl)⟩
    · have h := h.2 c2
      refine g_aload_n (pc' := 13) dX10_isOpen_12 rfl rfl ?_
      refine g_getR (pc' := 16) (r := 4) dX10_isOpen_13 rfl fl_RX10_15 kd_3 rfl rf_3_1 ?_
      refine g_iload_n (pc' := 17) dX10_isOpen_16 rfl rfl ?_
      obtain ⟨ob3, h⟩ := h
      refine g_bald (pc' := 18) dX10_isOpen_17 rfl kd_4 ob3 ?_
      refine g_if_eq (pc' := 21) (tgt := 25) dX10_isOpen_18 rfl rfl (fun c4 => ?_) (fun c4 => ?_)
      · refine g_iconst (pc' := 26) (by unfold r32; decide) dX10_isOpen_25 rfl ?_
        exact g_zret dX10_isOpen_26 rfl (Or.inl rfl) ⟨(by simp only [F_X10_isOpen, if_neg c1, if_neg c2, if_pos c4]), rfl, (Or.inl rfl)⟩
      · refine g_iconst (pc' := 22) (by unfold r32; decide) dX10_isOpen_21 rfl ?_
        refine g_goto (pc' := 26) dX10_isOpen_22 rfl ?_
        exact g_zret dX10_isOpen_26 rfl (Or.inr rfl) ⟨(by simp only [F_X10_isOpen, if_neg c1, if_neg c2, if_neg c4]), rfl, (Or.inr rfl)⟩
def S_X6_start (o : Nat) (p1 : Nat) (v2 : Int) (s : Sto) : Sto := (if up s (o + 3) v2.toNat 1 3 0 ≤ up s (o + 3) v2.toNat 1 (p1 + 2) v2.toNat then (if F_X10_isOpen (up (up s (o + 3) v2.toNat 1) (o + 2) v2.toNat ((-1)) (o + 2) v2.toNat) (up (up s (o + 3) v2.toNat 1) (o + 2) v2.toNat ((-1))) = 0 then S_X6_settle o v2 3 (up (up s (o + 3) v2.toNat 1) (o + 2) v2.toNat ((-1))) else up (up (up s (o + 3) v2.toNat 1) (o + 2) v2.toNat ((-1))) (o + 1) v2.toNat 1) else (if F_X10_isOpen (up (up s (o + 3) v2.toNat 1) (o + 2) v2.toNat (up s (o + 3) v2.toNat 1 (p1 + 2) v2.toNat) (o + 2) v2.toNat) (up (up s (o + 3) v2.toNat 1) (o + 2) v2.toNat (up s (o + 3) v2.toNat 1 (p1 + 2) v2.toNat)) = 0 then S_X6_settle o v2 3 (up (up s (o + 3) v2.toNat 1) (o + 2) v2.toNat (up s (o + 3) v2.toNat 1 (p1 + 2) v2.toNat)) else up (up (up s (o + 3) v2.toNat 1) (o + 2) v2.toNat (up s (o + 3) v2.toNat 1 (p1 + 2) v2.toNat)) (o + 1) v2.toNat 1))
def O_X6_start (o : Nat) (p1 : Nat) (v2 : Int) (s : Sto) : Prop := (inb v2 8 ∧ (inb v2 8 ∧ ((up s (o + 3) v2.toNat 1 3 0 ≤ up s (o + 3) v2.toNat 1 (p1 + 2) v2.toNat → (inb v2 8 ∧ (inb v2 8 ∧ (O_X10_isOpen (up (up s (o + 3) v2.toNat 1) (o + 2) v2.toNat ((-1)) (o + 2) v2.toNat) (up (up s (o + 3) v2.toNat 1) (o + 2) v2.toNat ((-1))) ∧ ((F_X10_isOpen (up (up s (o + 3) v2.toNat 1) (o + 2) v2.toNat ((-1)) (o + 2) v2.toNat) (up (up s (o + 3) v2.toNat 1) (o + 2) v2.toNat ((-1))) = 0 → (O_X6_settle o v2 3 (up (up s (o + 3) v2.toNat 1) (o + 2) v2.toNat ((-1))) ∧ True)) ∧ (¬ F_X10_isOpen (up (up s (o + 3) v2.toNat 1) (o + 2) v2.toNat ((-1)) (o + 2) v2.toNat) (up (up s (o + 3) v2.toNat 1) (o + 2) v2.toNat ((-1))) = 0 → (inb v2 8 ∧ True))))))) ∧ (¬ up s (o + 3) v2.toNat 1 3 0 ≤ up s (o + 3) v2.toNat 1 (p1 + 2) v2.toNat → (inb v2 8 ∧ (inb v2 8 ∧ (inb v2 8 ∧ (O_X10_isOpen (up (up s (o + 3) v2.toNat 1) (o + 2) v2.toNat (up s (o + 3) v2.toNat 1 (p1 + 2) v2.toNat) (o + 2) v2.toNat) (up (up s (o + 3) v2.toNat 1) (o + 2) v2.toNat (up s (o + 3) v2.toNat 1 (p1 + 2) v2.toNat)) ∧ ((F_X10_isOpen (up (up s (o + 3) v2.toNat 1) (o + 2) v2.toNat (up s (o + 3) v2.toNat 1 (p1 + 2) v2.toNat) (o + 2) v2.toNat) (up (up s (o + 3) v2.toNat 1) (o + 2) v2.toNat (up s (o + 3) v2.toNat 1 (p1 + 2) v2.toNat)) = 0 → (O_X6_settle o v2 3 (up (up s (o + 3) v2.toNat 1) (o + 2) v2.toNat (up s (o + 3) v2.toNat 1 (p1 + 2) v2.toNat)) ∧ True)) ∧ (¬ F_X10_isOpen (up (up s (o + 3) v2.toNat 1) (o + 2) v2.toNat (up s (o + 3) v2.toNat 1 (p1 + 2) v2.toNat) (o + 2) v2.toNat) (up (up s (o + 3) v2.toNat 1) (o + 2) v2.toNat (up s (o + 3) v2.toNat 1 (p1 + 2) v2.toNat)) = 0 → (inb v2 8 ∧ True)))))))))))
set_option maxRecDepth 100000 in
theorem C_X6_start {o : Nat} {p1 : Nat} {v2 : Int} {s : Sto} (ho : kd o = 16) (hp1 : kd p1 = 14) (h : O_X6_start o p1 v2 s) : sr_C yX6_start cX6_start 3 none 1 [vR o, vR p1, vI v2] s (fun r s' => r = 0 ∧ s' = S_X6_start o p1 v2 s) := by
  refine sr_C.of (by decide +kernel) (Nat.le_of_ble_eq_true rfl) ?_
  show sr_G RX6 cX6_start 3 none 1 0 [(0, vR o), (1, vR p1), (2, vI v2)] [] s (fun r s' => r = 0 ∧ s' = S_X6_start o p1 v2 s)
  unfold O_X6_start at h
  refine g_aload_n (pc' := 1) dX6_start_0 rfl rfl ?_
  refine g_getR (pc' := 4) (r := o + 3) dX6_start_1 rfl fl_RX6_18 ho rfl (ly_6_3 ho) ?_
  refine g_iload_n (pc' := 5) dX6_start_4 rfl rfl ?_
  refine g_iconst (pc' := 6) (by unfold r32; decide) dX6_start_5 rfl ?_
  obtain ⟨ob1, h⟩ := h
  refine g_iast (pc' := 7) dX6_start_6 rfl (lk_6_3 ho) (Eq.mpr (congrArg (inb _) (la_6_3 ho)) ob1) ?_
  refine g_aload_n (pc' := 8) dX6_start_7 rfl rfl ?_
  refine g_getR (pc' := 11) (r := o + 2) dX6_start_8 rfl fl_RX6_15 ho rfl (ly_6_2 ho) ?_
  refine g_iload_n (pc' := 12) dX6_start_11 rfl rfl ?_
  refine g_aload_n (pc' := 13) dX6_start_12 rfl rfl ?_
  refine g_getR (pc' := 16) (r := p1 + 2) dX6_start_13 rfl fl_RX6_114 hp1 rfl (ly_4_2 hp1) ?_
  refine g_iload_n (pc' := 17) dX6_start_16 rfl rfl ?_
  obtain ⟨ob2, h⟩ := h
  refine g_iald (pc' := 18) dX6_start_17 rfl (lk_4_2 hp1) (Eq.mpr (congrArg (inb _) (la_4_2 hp1)) ob2) ?_
  refine g_aload_n (pc' := 19) dX6_start_18 rfl rfl ?_
  refine g_getR (pc' := 22) (r := 3) dX6_start_19 rfl fl_RX6_50 ho rfl (ly_6_0 ho) ?_
  refine g_getI (pc' := 25) dX6_start_22 rfl fl_RX6_117 kd_3 (Or.inl rfl) ?_
  refine g_ic_ge (pc' := 28) (tgt := 37) dX6_start_25 rfl rfl (fun c3 => ?_) (fun c3 => ?_)
  · have h := h.1 c3
    refine g_iconst (pc' := 38) (by unfold r32; decide) dX6_start_37 rfl ?_
    obtain ⟨ob4, h⟩ := h
    refine g_iast (pc' := 39) dX6_start_38 rfl (lk_6_2 ho) (Eq.mpr (congrArg (inb _) (la_6_2 ho)) ob4) ?_
    refine g_aload_n (pc' := 40) dX6_start_39 rfl rfl ?_
    refine g_getR (pc' := 43) (r := 3) dX6_start_40 rfl fl_RX6_50 ho rfl (ly_6_0 ho) ?_
    refine g_aload_n (pc' := 44) dX6_start_43 rfl rfl ?_
    refine g_getR (pc' := 47) (r := o + 2) dX6_start_44 rfl fl_RX6_15 ho rfl (ly_6_2 ho) ?_
    refine g_iload_n (pc' := 48) dX6_start_47 rfl rfl ?_
    obtain ⟨ob5, h⟩ := h
    refine g_iald (pc' := 49) dX6_start_48 rfl (lk_6_2 ho) (Eq.mpr (congrArg (inb _) (la_6_2 ho)) ob5) ?_
    obtain ⟨ob6, h⟩ := h
    refine g_V1z (pc' := 52) dX6_start_49 rfl mv_RX6_120 kd_3 (by decide) (Nat.le_of_ble_eq_true rfl) (C_X10_isOpen ob6) (sr_purb (fun hb7 => ?_))
    refine g_if_eq (pc' := 55) (tgt := 65) dX6_start_52 rfl rfl (fun c8 => ?_) (fun c8 => ?_)
    · have h := h.1 c8
      refine g_aload_n (pc' := 66) dX6_start_65 rfl rfl ?_
      refine g_iload_n (pc' := 67) dX6_start_66 rfl rfl ?_
      refine g_iconst (pc' := 68) (by unfold r32; decide) dX6_start_67 rfl ?_
      obtain ⟨ob9, h⟩ := h
      refine g_V2v (pc' := 71) dX6_start_68 rfl mv_RX6_102 ho (by decide) (Nat.le_of_ble_eq_true rfl) (C_X6_settle ho ob9) (sr_purv ?_)
      exact g_vret dX6_start_71 rfl ⟨rfl, (by simp only [S_X6_start, if_pos c3, if_pos c8])⟩
    · have h := h.2 c8
      refine g_aload_n (pc' := 56) dX6_start_55 rfl rfl ?_
      refine g_getR (pc' := 59) (r := o + 1) dX6_start_56 rfl fl_RX6_9 ho rfl (ly_6_1 ho) ?_
      refine g_iload_n (pc' := 60) dX6_start_59 rfl rfl ?_
      refine g_iconst (pc' := 61) (by unfold r32; decide) dX6_start_60 rfl ?_
      obtain ⟨ob10, h⟩ := h
      refine g_iast (pc' := 62) dX6_start_61 rfl (lk_6_1 ho) (Eq.mpr (congrArg (inb _) (la_6_1 ho)) ob10) ?_
      refine g_goto (pc' := 71) dX6_start_62 rfl ?_
      exact g_vret dX6_start_71 rfl ⟨rfl, (by simp only [S_X6_start, if_pos c3, if_neg c8])⟩
  · have h := h.2 c3
    refine g_aload_n (pc' := 29) dX6_start_28 rfl rfl ?_
    refine g_getR (pc' := 32) (r := p1 + 2) dX6_start_29 rfl fl_RX6_114 hp1 rfl (ly_4_2 hp1) ?_
    refine g_iload_n (pc' := 33) dX6_start_32 rfl rfl ?_
    obtain ⟨ob11, h⟩ := h
    refine g_iald (pc' := 34) dX6_start_33 rfl (lk_4_2 hp1) (Eq.mpr (congrArg (inb _) (la_4_2 hp1)) ob11) ?_
    refine g_goto (pc' := 38) dX6_start_34 rfl ?_
    obtain ⟨ob12, h⟩ := h
    refine g_iast (pc' := 39) dX6_start_38 rfl (lk_6_2 ho) (Eq.mpr (congrArg (inb _) (la_6_2 ho)) ob12) ?_
    refine g_aload_n (pc' := 40) dX6_start_39 rfl rfl ?_
    refine g_getR (pc' := 43) (r := 3) dX6_start_40 rfl fl_RX6_50 ho rfl (ly_6_0 ho) ?_
    refine g_aload_n (pc' := 44) dX6_start_43 rfl rfl ?_
    refine g_getR (pc' := 47) (r := o + 2) dX6_start_44 rfl fl_RX6_15 ho rfl (ly_6_2 ho) ?_
    refine g_iload_n (pc' := 48) dX6_start_47 rfl rfl ?_
    obtain ⟨ob13, h⟩ := h
    refine g_iald (pc' := 49) dX6_start_48 rfl (lk_6_2 ho) (Eq.mpr (congrArg (inb _) (la_6_2 ho)) ob13) ?_
    obtain ⟨ob14, h⟩ := h
    refine g_V1z (pc' := 52) dX6_start_49 rfl mv_RX6_120 kd_3 (by decide) (Nat.le_of_ble_eq_true rfl) (C_X10_isOpen ob14) (sr_purb (fun hb15 => ?_))
    refine g_if_eq (pc' := 55) (tgt := 65) dX6_start_52 rfl rfl (fun c16 => ?_) (fun c16 => ?_)
    · have h := h.1 c16
      refine g_aload_n (pc' := 66) dX6_start_65 rfl rfl ?_
      refine g_iload_n (pc' := 67) dX6_start_66 rfl rfl ?_
      refine g_iconst (pc' := 68) (by unfold r32; decide) dX6_start_67 rfl ?_
      obtain ⟨ob17, h⟩ := h
      refine g_V2v (pc' := 71) dX6_start_68 rfl mv_RX6_102 ho (by decide) (Nat.le_of_ble_eq_true rfl) (C_X6_settle ho ob17) (sr_purv ?_)
      exact g_vret dX6_start_71 rfl ⟨rfl, (by simp only [S_X6_start, if_neg c3, if_pos c16])⟩
    · have h := h.2 c16
      refine g_aload_n (pc' := 56) dX6_start_55 rfl rfl ?_
      refine g_getR (pc' := 59) (r := o + 1) dX6_start_56 rfl fl_RX6_9 ho rfl (ly_6_1 ho) ?_
      refine g_iload_n (pc' := 60) dX6_start_59 rfl rfl ?_
      refine g_iconst (pc' := 61) (by unfold r32; decide) dX6_start_60 rfl ?_
      obtain ⟨ob18, h⟩ := h
      refine g_iast (pc' := 62) dX6_start_61 rfl (lk_6_1 ho) (Eq.mpr (congrArg (inb _) (la_6_1 ho)) ob18) ?_
      refine g_goto (pc' := 71) dX6_start_62 rfl ?_
      exact g_vret dX6_start_71 rfl ⟨rfl, (by simp only [S_X6_start, if_neg c3, if_neg c16])⟩
def L_X6_meet_20 (p0 : Nat) (p1 : Nat) (v2 : Int) (v4 : Int) (K138 : Int → Sto → Prop) : Nat → Int → Int → Sto → Prop
  | 0, _, _, _ => False
  | n + 1, v3, v5, s => ((s p1 0 ≤ v5 → K138 v3 s) ∧ (¬ s p1 0 ≤ v5 → (inb v4 8 ∧ ((s (p0 + 1) v4.toNat = 1 → (inb v5 8 ∧ ((s (p0 + 1) v5.toNat = 1 → (inb v4 8 ∧ (inb v5 8 ∧ ((s (p0 + 2) v4.toNat = s (p0 + 2) v5.toNat → (inb v4 8 ∧ (inb v5 8 ∧ ((s (p0 + 3) v4.toNat = s (p0 + 3) v5.toNat → (∀ x12 : Int, x12 = iO v3 (iO (iShl 1 v4) (iShl 1 v5)) → L_X6_meet_20 p0 p1 v2 v4 K138 n x12 (w32 (v5 + 1)) s)) ∧ (¬ s (p0 + 3) v4.toNat = s (p0 + 3) v5.toNat → (∀ x13 : Int, x13 = (if s p0 9 = 0 then v2 else s p0 10) → (∀ s15 : Sto, s15 = up s p0 10 x13 → (∀ s16 : Sto, s16 = up s15 p0 9 (w32 ((s15 p0 9) + 1)) → L_X6_meet_20 p0 p1 v2 v4 K138 n v3 (w32 (v5 + 1)) s16)))))))) ∧ (¬ s (p0 + 2) v4.toNat = s (p0 + 2) v5.toNat → L_X6_meet_20 p0 p1 v2 v4 K138 n v3 (w32 (v5 + 1)) s))))) ∧ (¬ s (p0 + 1) v5.toNat = 1 → L_X6_meet_20 p0 p1 v2 v4 K138 n v3 (w32 (v5 + 1)) s)))) ∧ (¬ s (p0 + 1) v4.toNat = 1 → K138 v3 s)))))
set_option maxRecDepth 100000 in
theorem SL_X6_meet_20 {p0 : Nat} {p1 : Nat} {v2 : Int} {v4 : Int} {K138 : Int → Sto → Prop} {Q : Int → Sto → Prop} (hp0 : kd p0 = 16) (hp1 : kd p1 = 14) (hK138 : ∀ v3 s, K138 v3 s → sr_G RX6 cX6_meet 6 none 1 138 [(0, vR p0), (1, vR p1), (2, vI v2), (3, vI v3), (4, vI v4)] [] s Q) : ∀ n v3 v5 s, L_X6_meet_20 p0 p1 v2 v4 K138 n v3 v5 s → sr_G RX6 cX6_meet 6 none 1 20 [(0, vR p0), (1, vR p1), (2, vI v2), (3, vI v3), (4, vI v4), (5, vI v5)] [] s Q := by
  intro n
  induction n with
  | zero => intro v3 v5 s h; exact h.elim
  | succ n ih =>
    intro v3 v5 s h
    unfold L_X6_meet_20 at h
    refine g_iload (pc' := 22) dX6_meet_20 rfl rfl ?_
    refine g_aload_n (pc' := 23) dX6_meet_22 rfl rfl ?_
    refine g_getI (pc' := 26) dX6_meet_23 rfl fl_RX6_62 hp1 (Or.inl rfl) ?_
    refine g_ic_ge (pc' := 29) (tgt := 138) dX6_meet_26 rfl rfl (fun c1 => ?_) (fun c1 => ?_)
    · have h := h.1 c1
      exact (hK138 _ _ h).to ((sb_c rfl (sb_c rfl (sb_c rfl (sb_c rfl (sb_c rfl sb_n))))))
    · have h := h.2 c1
      refine g_aload_n (pc' := 30) dX6_meet_29 rfl rfl ?_
      refine g_getR (pc' := 33) (r := p0 + 1) dX6_meet_30 rfl fl_RX6_9 hp0 rfl (ly_6_1 hp0) ?_
      refine g_iload (pc' := 35) dX6_meet_33 rfl rfl ?_
      obtain ⟨ob2, h⟩ := h
      refine g_iald (pc' := 36) dX6_meet_35 rfl (lk_6_1 hp0) (Eq.mpr (congrArg (inb _) (la_6_1 hp0)) ob2) ?_
      refine g_iconst (pc' := 37) (by unfold r32; decide) dX6_meet_36 rfl ?_
      refine g_ic_ne (pc' := 40) (tgt := 138) dX6_meet_37 rfl rfl (fun c3 => ?_) (fun c3 => ?_)
      · have h := h.2 c3
        exact (hK138 _ _ h).to ((sb_c rfl (sb_c rfl (sb_c rfl (sb_c rfl (sb_c rfl sb_n))))))
      · have h := h.1 c3
        refine g_aload_n (pc' := 41) dX6_meet_40 rfl rfl ?_
        refine g_getR (pc' := 44) (r := p0 + 1) dX6_meet_41 rfl fl_RX6_9 hp0 rfl (ly_6_1 hp0) ?_
        refine g_iload (pc' := 46) dX6_meet_44 rfl rfl ?_
        obtain ⟨ob4, h⟩ := h
        refine g_iald (pc' := 47) dX6_meet_46 rfl (lk_6_1 hp0) (Eq.mpr (congrArg (inb _) (la_6_1 hp0)) ob4) ?_
        refine g_iconst (pc' := 48) (by unfold r32; decide) dX6_meet_47 rfl ?_
        refine g_ic_ne (pc' := 51) (tgt := 132) dX6_meet_48 rfl rfl (fun c5 => ?_) (fun c5 => ?_)
        · have h := h.2 c5
          refine g_iinc (pc' := 135) dX6_meet_132 rfl rfl (by decide) ?_
          refine g_goto (pc' := 20) dX6_meet_135 rfl ?_
          exact (ih _ _ _ h).to ((sb_c rfl (sb_c rfl (sb_c rfl (sb_c rfl (sb_c rfl (sb_c rfl sb_n)))))))
        · have h := h.1 c5
          refine g_aload_n (pc' := 52) dX6_meet_51 rfl rfl ?_
          refine g_getR (pc' := 55) (r := p0 + 2) dX6_meet_52 rfl fl_RX6_15 hp0 rfl (ly_6_2 hp0) ?_
          refine g_iload (pc' := 57) dX6_meet_55 rfl rfl ?_
          obtain ⟨ob6, h⟩ := h
          refine g_iald (pc' := 58) dX6_meet_57 rfl (lk_6_2 hp0) (Eq.mpr (congrArg (inb _) (la_6_2 hp0)) ob6) ?_
          refine g_aload_n (pc' := 59) dX6_meet_58 rfl rfl ?_
          refine g_getR (pc' := 62) (r := p0 + 2) dX6_meet_59 rfl fl_RX6_15 hp0 rfl (ly_6_2 hp0) ?_
          refine g_iload (pc' := 64) dX6_meet_62 rfl rfl ?_
          obtain ⟨ob7, h⟩ := h
          refine g_iald (pc' := 65) dX6_meet_64 rfl (lk_6_2 hp0) (Eq.mpr (congrArg (inb _) (la_6_2 hp0)) ob7) ?_
          refine g_ic_eq (pc' := 68) (tgt := 71) dX6_meet_65 rfl rfl (fun c8 => ?_) (fun c8 => ?_)
          · have h := h.1 c8
            refine g_aload_n (pc' := 72) dX6_meet_71 rfl rfl ?_
            refine g_getR (pc' := 75) (r := p0 + 3) dX6_meet_72 rfl fl_RX6_18 hp0 rfl (ly_6_3 hp0) ?_
            refine g_iload (pc' := 77) dX6_meet_75 rfl rfl ?_
            obtain ⟨ob9, h⟩ := h
            refine g_iald (pc' := 78) dX6_meet_77 rfl (lk_6_3 hp0) (Eq.mpr (congrArg (inb _) (la_6_3 hp0)) ob9) ?_
            refine g_aload_n (pc' := 79) dX6_meet_78 rfl rfl ?_
            refine g_getR (pc' := 82) (r := p0 + 3) dX6_meet_79 rfl fl_RX6_18 hp0 rfl (ly_6_3 hp0) ?_
            refine g_iload (pc' := 84) dX6_meet_82 rfl rfl ?_
            obtain ⟨ob10, h⟩ := h
            refine g_iald (pc' := 85) dX6_meet_84 rfl (lk_6_3 hp0) (Eq.mpr (congrArg (inb _) (la_6_3 hp0)) ob10) ?_
            refine g_ic_ne (pc' := 88) (tgt := 103) dX6_meet_85 rfl rfl (fun c11 => ?_) (fun c11 => ?_)
            · have h := h.2 c11
              refine g_aload_n (pc' := 104) dX6_meet_103 rfl rfl ?_
              refine g_aload_n (pc' := 105) dX6_meet_104 rfl rfl ?_
              refine g_getI (pc' := 108) dX6_meet_105 rfl fl_RX6_37 hp0 (Or.inl rfl) ?_
              refine sr_join (v := (if s p0 9 = 0 then v2 else s p0 10)) (GG := fun x13 => sr_G RX6 cX6_meet 6 none 1 119 [(0, vR p0), (1, vR p1), (2, vI v2), (3, vI v3), (4, vI v4), (5, vI v5)] [vI x13, vR p0] s Q) (fun x13 ex13 => ?_) (fun hj => ?_)
              · have h := h x13 ex13
                refine g_putI (pc' := 122) dX6_meet_119 rfl fp_RX6_40 hp0 rfl ?_
                refine g_sto (fun s15 es15 => ?_)
                have h := h s15 es15
                refine g_aload_n (pc' := 123) dX6_meet_122 rfl rfl ?_
                refine g_dupR (pc' := 124) dX6_meet_123 rfl ?_
                refine g_getI (pc' := 127) dX6_meet_124 rfl fl_RX6_37 hp0 (Or.inl rfl) ?_
                refine g_iconst (pc' := 128) (by unfold r32; decide) dX6_meet_127 rfl ?_
                refine g_iadd (pc' := 129) dX6_meet_128 rfl ?_
                refine g_putI (pc' := 132) dX6_meet_129 rfl fp_RX6_37 hp0 rfl ?_
                refine g_sto (fun s16 es16 => ?_)
                have h := h s16 es16
                refine g_iinc (pc' := 135) dX6_meet_132 rfl rfl (by decide) ?_
                refine g_goto (pc' := 20) dX6_meet_135 rfl ?_
                exact (ih _ _ _ h).to ((sb_c rfl (sb_c rfl (sb_c rfl (sb_c rfl (sb_c rfl (sb_c rfl sb_n)))))))
              · refine g_if_ne (pc' := 111) (tgt := 115) dX6_meet_108 rfl rfl (fun c14 => ?_) (fun c14 => ?_)
                · refine g_aload_n (pc' := 116) dX6_meet_115 rfl rfl ?_
                  refine g_getI (pc' := 119) dX6_meet_116 rfl fl_RX6_40 hp0 (Or.inl rfl) ?_
                  exact (hj _ (by rw [if_neg c14])).to ((sb_c rfl (sb_c rfl (sb_c rfl (sb_c rfl (sb_c rfl (sb_c rfl sb_n)))))))
                · refine g_iload_n (pc' := 112) dX6_meet_111 rfl rfl ?_
                  refine g_goto (pc' := 119) dX6_meet_112 rfl ?_
                  exact (hj _ (by rw [if_pos c14])).to ((sb_c rfl (sb_c rfl (sb_c rfl (sb_c rfl (sb_c rfl (sb_c rfl sb_n)))))))
            · have h := h.1 c11
              refine g_iload_n (pc' := 89) dX6_meet_88 rfl rfl ?_
              refine g_iconst (pc' := 90) (by unfold r32; decide) dX6_meet_89 rfl ?_
              refine g_iload (pc' := 92) dX6_meet_90 rfl rfl ?_
              refine g_ishl (pc' := 93) dX6_meet_92 rfl ?_
              refine g_iconst (pc' := 94) (by unfold r32; decide) dX6_meet_93 rfl ?_
              refine g_iload (pc' := 96) dX6_meet_94 rfl rfl ?_
              refine g_ishl (pc' := 97) dX6_meet_96 rfl ?_
              refine g_ior (pc' := 98) dX6_meet_97 rfl ?_
              refine g_ior (pc' := 99) dX6_meet_98 rfl ?_
              refine g_topI (fun x12 ex12 => ?_)
              have h := h x12 ex12
              refine g_istore_n (pc' := 100) dX6_meet_99 rfl (by decide) ?_
              refine g_goto (pc' := 132) dX6_meet_100 rfl ?_
              refine g_iinc (pc' := 135) dX6_meet_132 rfl rfl (by decide) ?_
              refine g_goto (pc' := 20) dX6_meet_135 rfl ?_
              exact (ih _ _ _ h).to ((sb_c rfl (sb_c rfl (sb_c rfl (sb_c rfl (sb_c rfl (sb_c rfl sb_n)))))))
          · have h := h.2 c8
            refine g_goto (pc' := 132) dX6_meet_68 rfl ?_
            refine g_iinc (pc' := 135) dX6_meet_132 rfl rfl (by decide) ?_
            refine g_goto (pc' := 20) dX6_meet_135 rfl ?_
            exact (ih _ _ _ h).to ((sb_c rfl (sb_c rfl (sb_c rfl (sb_c rfl (sb_c rfl (sb_c rfl sb_n)))))))
def L_X6_meet_5 (p0 : Nat) (p1 : Nat) (v2 : Int) (K144 : Int → Sto → Prop) : Nat → Int → Int → Sto → Prop
  | 0, _, _, _ => False
  | n + 1, v3, v4, s => ((s p1 0 ≤ v4 → K144 v3 s) ∧ (¬ s p1 0 ≤ v4 → (∀ x2 : Int, x2 = w32 (v4 + 1) → (∃ n5, L_X6_meet_20 p0 p1 v2 v4 (fun x3 s4 => L_X6_meet_5 p0 p1 v2 K144 n x3 (w32 (v4 + 1)) s4) n5 v3 x2 s))))
set_option maxRecDepth 100000 in
theorem SL_X6_meet_5 {p0 : Nat} {p1 : Nat} {v2 : Int} {K144 : Int → Sto → Prop} {Q : Int → Sto → Prop} (hp0 : kd p0 = 16) (hp1 : kd p1 = 14) (hK144 : ∀ v3 s, K144 v3 s → sr_G RX6 cX6_meet 6 none 1 144 [(0, vR p0), (1, vR p1), (3, vI v3)] [] s Q) : ∀ n v3 v4 s, L_X6_meet_5 p0 p1 v2 K144 n v3 v4 s → sr_G RX6 cX6_meet 6 none 1 5 [(0, vR p0), (1, vR p1), (2, vI v2), (3, vI v3), (4, vI v4)] [] s Q := by
  intro n
  induction n with
  | zero => intro v3 v4 s h; exact h.elim
  | succ n ih =>
    intro v3 v4 s h
    unfold L_X6_meet_5 at h
    refine g_iload (pc' := 7) dX6_meet_5 rfl rfl ?_
    refine g_aload_n (pc' := 8) dX6_meet_7 rfl rfl ?_
    refine g_getI (pc' := 11) dX6_meet_8 rfl fl_RX6_62 hp1 (Or.inl rfl) ?_
    refine g_ic_ge (pc' := 14) (tgt := 144) dX6_meet_11 rfl rfl (fun c1 => ?_) (fun c1 => ?_)
    · have h := h.1 c1
      exact (hK144 _ _ h).to ((sb_c rfl (sb_c rfl (sb_c rfl sb_n))))
    · have h := h.2 c1
      refine g_iload (pc' := 16) dX6_meet_14 rfl rfl ?_
      refine g_iconst (pc' := 17) (by unfold r32; decide) dX6_meet_16 rfl ?_
      refine g_iadd (pc' := 18) dX6_meet_17 rfl ?_
      refine g_topI (fun x2 ex2 => ?_)
      have h := h x2 ex2
      refine g_istore (pc' := 20) dX6_meet_18 rfl (by decide) ?_
      obtain ⟨n5, h⟩ := h
      refine (SL_X6_meet_20 hp0 hp1 (fun x3 s4 h => ?_) n5 _ _ _ h).to ((sb_c rfl (sb_c rfl (sb_c rfl (sb_c rfl (sb_c rfl (sb_c rfl sb_n)))))))
      · refine g_iinc (pc' := 141) dX6_meet_138 rfl rfl (by decide) ?_
        refine g_goto (pc' := 5) dX6_meet_141 rfl ?_
        exact (ih _ _ _ h).to ((sb_c rfl (sb_c rfl (sb_c rfl (sb_c rfl (sb_c rfl sb_n))))))
def L_X6_meet_147 (p0 : Nat) (p1 : Nat) (v3 : Int) (K178 : Sto → Prop) : Nat → Int → Sto → Prop
  | 0, _, _ => False
  | n + 1, v4, s => ((s p1 0 ≤ v4 → K178 s) ∧ (¬ s p1 0 ≤ v4 → ((iA (iShr v3 v4) 1 = 0 → L_X6_meet_147 p0 p1 v3 K178 n (w32 (v4 + 1)) s) ∧ (¬ iA (iShr v3 v4) 1 = 0 → (O_X6_settle p0 v4 3 s ∧ (∀ s4 : Sto, s4 = S_X6_settle p0 v4 3 s → L_X6_meet_147 p0 p1 v3 K178 n (w32 (v4 + 1)) s4))))))
set_option maxRecDepth 100000 in
theorem SL_X6_meet_147 {p0 : Nat} {p1 : Nat} {v3 : Int} {K178 : Sto → Prop} {Q : Int → Sto → Prop} (hp0 : kd p0 = 16) (hp1 : kd p1 = 14) (hK178 : ∀ s, K178 s → sr_G RX6 cX6_meet 6 none 1 178 [] [] s Q) : ∀ n v4 s, L_X6_meet_147 p0 p1 v3 K178 n v4 s → sr_G RX6 cX6_meet 6 none 1 147 [(0, vR p0), (1, vR p1), (3, vI v3), (4, vI v4)] [] s Q := by
  intro n
  induction n with
  | zero => intro v4 s h; exact h.elim
  | succ n ih =>
    intro v4 s h
    unfold L_X6_meet_147 at h
    refine g_iload (pc' := 149) dX6_meet_147 rfl rfl ?_
    refine g_aload_n (pc' := 150) dX6_meet_149 rfl rfl ?_
    refine g_getI (pc' := 153) dX6_meet_150 rfl fl_RX6_62 hp1 (Or.inl rfl) ?_
    refine g_ic_ge (pc' := 156) (tgt := 178) dX6_meet_153 rfl rfl (fun c1 => ?_) (fun c1 => ?_)
    · have h := h.1 c1
      exact (hK178 _ h).to (sb_n)
    · have h := h.2 c1
      refine g_iload_n (pc' := 157) dX6_meet_156 rfl rfl ?_
      refine g_iload (pc' := 159) dX6_meet_157 rfl rfl ?_
      refine g_ishr (pc' := 160) dX6_meet_159 rfl ?_
      refine g_iconst (pc' := 161) (by unfold r32; decide) dX6_meet_160 rfl ?_
      refine g_iand (pc' := 162) dX6_meet_161 rfl ?_
      refine g_if_eq (pc' := 165) (tgt := 172) dX6_meet_162 rfl rfl (fun c2 => ?_) (fun c2 => ?_)
      · have h := h.1 c2
        refine g_iinc (pc' := 175) dX6_meet_172 rfl rfl (by decide) ?_
        refine g_goto (pc' := 147) dX6_meet_175 rfl ?_
        exact (ih _ _ h).to ((sb_c rfl (sb_c rfl (sb_c rfl (sb_c rfl sb_n)))))
      · have h := h.2 c2
        refine g_aload_n (pc' := 166) dX6_meet_165 rfl rfl ?_
        refine g_iload (pc' := 168) dX6_meet_166 rfl rfl ?_
        refine g_iconst (pc' := 169) (by unfold r32; decide) dX6_meet_168 rfl ?_
        obtain ⟨ob3, h⟩ := h
        refine g_V2v (pc' := 172) dX6_meet_169 rfl mv_RX6_102 hp0 (by decide) (Nat.le_of_ble_eq_true rfl) (C_X6_settle hp0 ob3) (sr_purv ?_)
        refine g_sto (fun s4 es4 => ?_)
        have h := h s4 es4
        refine g_iinc (pc' := 175) dX6_meet_172 rfl rfl (by decide) ?_
        refine g_goto (pc' := 147) dX6_meet_175 rfl ?_
        exact (ih _ _ h).to ((sb_c rfl (sb_c rfl (sb_c rfl (sb_c rfl sb_n)))))
def P_X6_meet (o : Nat) (p1 : Nat) (v2 : Int) (s : Sto) (Q : Int → Sto → Prop) : Prop := (∃ n5, L_X6_meet_5 o p1 v2 (fun x1 s2 => (∃ n4, L_X6_meet_147 o p1 x1 (fun s3 => Q 0 s3) n4 0 s2)) n5 0 0 s)
set_option maxRecDepth 100000 in
theorem C_X6_meet {o : Nat} {p1 : Nat} {v2 : Int} {s : Sto} {Q : Int → Sto → Prop} (ho : kd o = 16) (hp1 : kd p1 = 14) (h : P_X6_meet o p1 v2 s Q) : sr_C yX6_meet cX6_meet 6 none 1 [vR o, vR p1, vI v2] s Q := by
  refine sr_C.of (by decide +kernel) (Nat.le_of_ble_eq_true rfl) ?_
  show sr_G RX6 cX6_meet 6 none 1 0 [(0, vR o), (1, vR p1), (2, vI v2)] [] s Q
  unfold P_X6_meet at h
  refine g_iconst (pc' := 1) (by unfold r32; decide) dX6_meet_0 rfl ?_
  refine g_istore_n (pc' := 2) dX6_meet_1 rfl (by decide) ?_
  refine g_iconst (pc' := 3) (by unfold r32; decide) dX6_meet_2 rfl ?_
  refine g_istore (pc' := 5) dX6_meet_3 rfl (by decide) ?_
  obtain ⟨n5, h⟩ := h
  refine (SL_X6_meet_5 ho hp1 (fun x1 s2 h => ?_) n5 _ _ _ h).to ((sb_c rfl (sb_c rfl (sb_c rfl (sb_c rfl (sb_c rfl sb_n))))))
  · refine g_iconst (pc' := 145) (by unfold r32; decide) dX6_meet_144 rfl ?_
    refine g_istore (pc' := 147) dX6_meet_145 rfl (by decide) ?_
    obtain ⟨n4, h⟩ := h
    refine (SL_X6_meet_147 ho hp1 (fun s3 h => ?_) n4 _ _ h).to ((sb_c rfl (sb_c rfl (sb_c rfl (sb_c rfl sb_n)))))
    · exact g_vret dX6_meet_178 rfl h
