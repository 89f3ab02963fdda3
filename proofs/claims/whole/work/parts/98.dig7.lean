theorem T_mdig2 {N s : Sto} {n : Nat} {th oc : Nat → Int} {d : Int} {Q : Int → Sto → Prop} (h : CtM N n th oc s) (k : ∀ t, CtM N n th oc t → Q (dgE N n th oc (fdI (dgW N) (fdI (dgT N) (fdI (dgR N n th oc) d (nR N)) (nT N)) 4)) t) : (∃ n48, L_X12_digest_117 (fun x7 s8 => (∃ n47, L_X12_digest_140 (fun x9 s10 => (P_X12_lives s10 (fun _ s11 => (∃ n46, L_X12_digest_167 (fun x13 s14 => (∀ x15 : Int, x15 = w64 ((w64 (31 * x13)) + (s14 69 23)) → (∀ x16 : Int, x16 = w64 ((w64 (31 * x15)) + (s14 69 24)) → (P_X12_missedNow s14 (fun r18 s17 => (∀ x19 : Int, x19 = w64 ((w64 (31 * x16)) + r18) → (P_X12_richestNow s17 (fun r21 s20 => (∀ x22 : Int, x22 = w64 ((w64 (31 * x19)) + r21) → (P_X12_lonelyNow s20 (fun r24 s23 => (∀ x25 : Int, x25 = w64 ((w64 (31 * x22)) + r24) → (P_X12_calmBy 0 s23 (fun r27 s26 => (∀ x28 : Int, x28 = w64 ((w64 (31 * x25)) + r27) → (P_X12_calmBy 1 s26 (fun r30 s29 => (∀ x31 : Int, x31 = w64 ((w64 (31 * x28)) + r30) → (P_X12_neverNow s29 (fun r33 s32 => (∀ x34 : Int, x34 = w64 ((w64 (31 * x31)) + r33) → (P_X12_pacesNow s32 (fun r36 s35 => (∀ x37 : Int, x37 = w64 ((w64 (31 * x34)) + r36) → (P_X12_askNow s35 (fun r39 s38 => (∀ x40 : Int, x40 = w64 ((w64 (31 * x37)) + r39) → (P_X12_eveningOf 7 6 0 s38 (fun r42 s41 => (∀ x43 : Int, x43 = w64 ((w64 (31 * x40)) + r42) → (P_X12_eveningOf 7 6 1 s41 (fun r45 s44 => Q (w64 ((w64 (31 * x43)) + r45)) s44)))))))))))))))))))))))))))))))) n46 x9 0 s11)))) n47 x7 0 s8)) n48 d 0 s) := by
  have hN : NOk N := by rw [← h.2.2.1]; exact tN_ok h.1
  obtain ⟨r1, r2, r3⟩ := nR8 hN
  obtain ⟨t1, t2, t3⟩ := nT8 hN
  have hI := (sm_inv hN 20 (Nat.le_refl 20)).1.2
  refine lp3 (L_X12_digest_117 _) (fun x y u => ∃ i : Nat, y = (i : Int) ∧ i ≤ nR N ∧ x = fdI (dgR N n th oc) d i ∧ CtM N n th oc u) (fun _ y _ => (9 - y).toNat) ?_ d 0 s ⟨0, rfl, by omega, rfl, h⟩
  intro m x y u ⟨i, hy, hi, hx, hCu⟩ ih
  subst hy
  have hw := (ix3 (Nat.le_trans hi r1)).2.2.1
  have hmu := mu9 (Nat.le_trans hi r1)
  unfold L_X12_digest_117
  rw [hw, hCu.2.1.1]
  clear hw
  refine ⟨fun q => ?_, fun q => ?_⟩
  · have e := r2 i hi q
    rw [e] at hx
    refine lp3 (L_X12_digest_140 _) (fun x y u => ∃ i : Nat, y = (i : Int) ∧ i ≤ nT N ∧ x = fdI (dgT N) (fdI (dgR N n th oc) d (nR N)) i ∧ CtM N n th oc u) (fun _ y _ => (9 - y).toNat) ?_ x 0 u ⟨0, rfl, by omega, hx.trans fdI_0.symm, hCu⟩
    intro m2 x y u2 ⟨i, hy, hi, hx, hCu2⟩ ih2
    subst hy
    have hw := (ix3 (Nat.le_trans hi t1)).2.2.1
    have hmu := mu9 (Nat.le_trans hi t1)
    unfold L_X12_digest_140
    rw [hw, hCu2.2.1.2.1]
    clear hw
    refine ⟨fun q => ?_, fun q => ?_⟩
    · have e := t2 i hi q
      rw [e] at hx
      refine T_lives hN hCu2.2.1 (fun u3 hP3 _ hS3 => ?_)
      have hCu3 := CtM_sc hCu2 (NtM_cg hCu2.2.1 hS3) (Same_Ml hS3)
      refine lp3 (L_X12_digest_167 _) (fun x y u => ∃ i : Nat, y = (i : Int) ∧ i ≤ 4 ∧ x = fdI (dgW N) (fdI (dgT N) (fdI (dgR N n th oc) d (nR N)) (nT N)) i ∧ CtM N n th oc u ∧ PlM N (sm N 20) u) (fun _ y _ => (9 - y).toNat) ?_ x 0 u3 ⟨0, rfl, by omega, hx.trans fdI_0.symm, hCu3, hP3⟩
      intro m3 x y u4 ⟨i, hy, hi, hx, hCu4, hP4⟩ ih3
      subst hy
      have hw := (ix3 (Nat.le_trans hi (by decide))).2.2.1
      have hmu := mu9 (Nat.le_trans hi (by decide))
      unfold L_X12_digest_167
      rw [hw]
      clear hw
      refine ⟨fun q => ?_, fun q => ?_⟩
      · have e : i = 4 := by omega
        rw [e] at hx
        have kk := T_mdE (Q := Q) (v := x) hCu4 hP4 (fun t g => by rw [hx]; exact k t g)
        exact kk
      · refine T_mwed hN hCu4.2.1 hP4 hI (fun x4 e4 => ?_)
        refine T_mwed hN hCu4.2.1 hP4 hI (fun x7 e7 => ?_)
        refine T_mfree hN hCu4.2.1 (by decide) (fun u5 hM5 hP5 hS5 x10 e10 => ?_)
        have hCu5 := CtM_sc hCu4 hM5 (Same_Ml hS5)
        refine T_mfree hN hCu5.2.1 (by decide) (fun u6 hM6 hP6 hS6 x13 e13 => ?_)
        have hCu6 := CtM_sc hCu5 hM6 (Same_Ml hS6)
        refine ih3 _ _ _ ⟨i + 1, rfl, by omega, ?_, hCu6, hP6⟩ hmu
        rw [if_pos rfl] at e4
        rw [if_neg (by decide)] at e7
        rw [e13, e10, e7, e4, hx]
        rfl
    · obtain ⟨i8, hir, i1⟩ := t3 i hi q
      exact T_mdt hCu2 hir (fun t g1 _ => ih2 _ _ _ ⟨i + 1, rfl, i1, by rw [hx]; rfl, g1⟩ hmu)
  · obtain ⟨i8, hir, i1⟩ := r3 i hi q
    exact T_mdr hCu hir (fun t g1 _ => ih _ _ _ ⟨i + 1, rfl, i1, by rw [hx]; rfl, g1⟩ hmu)
theorem T_mdig {N s : Sto} {n : Nat} {th oc : Nat → Int} {Q : Int → Sto → Prop} (h : Rel s) (eN : tN s = N) (hG : SgM n th oc s) (k : ∀ t, CtM N n th oc t → Q (dgV N n th oc (fun w => cV s N w) (s 2)) t) : P_X12_digest s Q := by
  have hN : NOk N := by rw [← eN]; exact tN_ok h
  have h36 := hN.2.2.2.1
  unfold P_X12_digest
  refine lp3 (L_X12_digest_6 _) (fun x y u => ∃ i : Nat, y = (i : Int) ∧ i ≤ 8 ∧ x = fdI (fun x k => mx x (cV s N (k : Int))) 17 i ∧ Rel u ∧ tN u = N ∧ Same DScr s u) (fun _ y _ => (9 - y).toNat) ?_ 17 0 s ⟨0, rfl, by omega, rfl, h, eN, Same.rfl'⟩
  intro m x y u ⟨i, hy, hi, hx, b1, b3, b4⟩ ih
  subst hy
  have hw := (ix3 hi).2.2.1
  have hmu := mu9 hi
  have cc : cV u N (i : Int) = cV s N (i : Int) := cV_cg (funext (fun b => b4 75 b (by unfold DScr; omega))) (b4 69 27 (by unfold DScr; omega)) (b4 69 4 (by unfold DScr; omega))
  unfold L_X12_digest_6
  rw [hw]
  clear hw
  refine ⟨fun q => ?_, fun q => ?_⟩
  · have e : i = 8 := by omega
    rw [e] at hx
    subst hx
    generalize hd1 : fdI (fun x k => mx x (cV s N (k : Int))) 17 8 = d1
    refine T_mrd b1 (fun v hM hS => ?_)
    rw [b3] at hM
    have hC : CtM N n th oc v := by
      obtain ⟨g1, g2⟩ := Rel_sc b1 hS
      exact ⟨g1, hM, g2.trans b3, SgM_cg hG (fun a b q => (b4.trans hS) a b (by unfold DScr; omega))⟩
    rw [b4 2 0 (by unfold DScr; omega), b4 2 1 (by unfold DScr; omega), b4 2 2 (by unfold DScr; omega)]
    have hd2 : mx (mx (mx d1 (s 2 0)) (s 2 1)) (s 2 2) = fdI (fun x k => mx x (s 2 k)) d1 3 := rfl
    rw [hd2]
    clear hd2
    generalize hd2 : fdI (fun x k => mx x (s 2 k)) d1 3 = d2
    refine lp2 (L_X12_digest_59 v _) (fun x y => ∃ i : Nat, y = (i : Int) ∧ i ≤ (N 0 1).toNat ∧ x = fdI (fun x c => mx x (1 - N 10 c)) d2 i) (fun _ y => (37 - y).toNat) ?_ _ 0 ⟨0, rfl, by omega, rfl⟩
    intro m x y ⟨i, hy, hi, hx⟩ ih3
    subst hy
    have h37 : i ≤ 36 := by omega
    have hw := ix36 h37
    have hmu := mu37 h37
    unfold L_X12_digest_59
    rw [hw, hM.2.2.2.1, Int.toNat_natCast]
    clear hw
    refine ⟨fun q => ?_, fun q => ?_⟩
    · have e : i = (N 0 1).toNat := by omega
      rw [e] at hx
      subst hx
      generalize hd3 : fdI (fun x c => mx x (1 - N 10 c)) d2 (N 0 1).toNat = d3
      refine lp2 (L_X12_digest_89 v _) (fun x y => ∃ i : Nat, y = (i : Int) ∧ i ≤ 20 ∧ x = fdI (fun x k => mx x (N 9 k)) d3 i) (fun _ y => (37 - y).toNat) ?_ _ 0 ⟨0, rfl, by omega, rfl⟩
      intro m x y ⟨i, hy, hi, hx⟩ ih4
      subst hy
      have h37 : i ≤ 36 := by omega
      have hw := ix36 h37
      have hmu := mu37 h37
      unfold L_X12_digest_89
      rw [hw, Int.toNat_natCast]
      clear hw
      refine ⟨fun q => ?_, fun q => ?_⟩
      · have e : i = 20 := by omega
        rw [e] at hx
        have hd : x = dg0 N (fun w => cV s N w) (s 2) := by
          unfold dg0
          rw [hd1, hd2, hd3]
          exact hx
        clear hd1 hd2 hd3 hx
        rw [hd]
        refine T_mdig2 hC (fun t g => ?_)
        have kk := k t g
        unfold dgV at kk
        exact kk
      · have i20 : i < 20 := by omega
        have e9 := hM.2.2.2.2.2.2.1 i i20
        rw [(CtM_0 hC).2, ib_0, if_neg (by decide)] at e9
        rw [← e9]
        exact ⟨inb_n i20, fun x3 e3 => ih4 _ _ ⟨i + 1, rfl, i20, by rw [e3, hx]; rfl⟩ hmu⟩
    · have ic : (i : Int) < N 0 1 := by omega
      rw [hM.2.2.2.2.2.2.2.1 i ic]
      exact ⟨inb_n (by omega), fun x3 e3 => ih3 _ _ ⟨i + 1, rfl, by omega, by rw [e3, hx]; rfl⟩ hmu⟩
  · refine T_Mcount b1 b3 (fun t c1 c2 c3 c4 x4 e4 => ?_)
    rw [cc] at e4
    exact ih _ _ _ ⟨i + 1, rfl, by omega, by rw [e4, hx]; rfl, c1, c3, b4.trans c4⟩ hmu
theorem R_digest {s : Sto} (h : Rel s) : P_X11_digest s (fun r s1 => P_X12_digest s1 (fun r2 s2 => r2 = r ∧ Rel s2)) := by
  obtain ⟨hG, hG2⟩ := Rel_sg h
  refine T_cdig h rfl hG (fun t h1 h2 hS => ?_)
  have e : ∀ a b, (a < 16 ∧ a ≠ 0) ∨ (26 ≤ a ∧ a ≤ 43) ∨ (70 ≤ a ∧ a ≤ 75) ∨ a = 87 ∨ (a = 69 ∧ (b = 27 ∨ b = 4)) → t a b = s a b := fun a b q => hS a b (by unfold DDg DPt DScr; omega)
  have hG3 : SgM (s 69 27).toNat (s 27) (s 28) t := SgM_cg hG2 (fun a b q => e a b (by omega))
  have c1 : ∀ w, cV t (tN s) w = cV s (tN s) w := fun w => cV_cg (funext (fun b => e 75 b (by omega))) (e 69 27 (by omega)) (e 69 4 (by omega))
  have c2 : t 2 = s 2 := funext (fun b => e 2 b (by omega))
  refine T_mdig h1 h2 hG3 (fun u g => ⟨?_, g.1⟩)
  rw [c2, funext c1]
