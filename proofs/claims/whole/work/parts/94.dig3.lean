theorem T_XcountP {N s : Sto} {w : Int} {Q : Int → Sto → Prop} (h : Rel s) (hP : Pld N s) (eN : tN s = N) (k : ∀ t, Rel t → Pld N t → tN t = N → Same DPt s t → Q (cV s N w) t) : P_X11_count w s Q := by
  have ks := k s h hP eN Same.rfl'
  have e0 : N 0 1 = s 3 0 := by rw [← eN]; rfl
  have e1 : N 0 6 = s 6 6 := by rw [← eN]; rfl
  have e5 : N 0 0 = s 6 0 := by rw [← eN]; rfl
  have t0 : s 30 1 = s 75 0 := (h.2.2.2.2.1 0 (by decide)).1
  have t1 : s 32 1 = s 75 1 := (h.2.2.2.2.1 1 (by decide)).1
  have t2 : s 34 1 = s 75 2 := (h.2.2.2.2.1 2 (by decide)).1
  have e7 : s 26 2 = s 69 27 := h.2.2.2.1.1
  have e8 : s 0 11 = s 69 4 := h.1.1
  unfold cV at ks k
  unfold P_X11_count
  refine ⟨fun q => ?_, fun q => ⟨fun q1 => ?_, fun q1 => ⟨fun q2 => ⟨⟨by decide, by decide⟩, ?_⟩, fun q2 => ⟨fun q3 => ⟨⟨by decide, by decide⟩, ?_⟩, fun q3 => ⟨fun q4 => ⟨⟨by decide, by decide⟩, ?_⟩, fun q4 => ⟨fun q5 => ?_, fun q5 => ⟨fun q6 => ?_, fun q6 => ⟨fun q7 => ?_, fun q7 => ⟨fun q8 => ?_, fun q8 => ?_⟩⟩⟩⟩⟩⟩⟩⟩⟩
  · rw [if_pos q, e0] at ks; exact ks
  · rw [if_neg q, if_pos q1, e1] at ks; exact ks
  · rw [if_neg q, if_neg q1, if_pos q2, ← t0] at ks; exact ks
  · rw [if_neg q, if_neg q1, if_neg q2, if_pos q3, ← t1] at ks; exact ks
  · rw [if_neg q, if_neg q1, if_neg q2, if_neg q3, if_pos q4, ← t2] at ks; exact ks
  · rw [if_neg q, if_neg q1, if_neg q2, if_neg q3, if_neg q4, if_pos q5, e5] at ks; exact ks
  · refine T_playTold h (fun t hRt hPt eNt hSt => ?_)
    have kt := k t hRt (by rw [← eN]; exact hPt) (eNt.trans eN) hSt
    rw [if_neg q, if_neg q1, if_neg q2, if_neg q3, if_neg q4, if_neg q5, if_pos q6] at kt
    rw [eN] at hPt
    rw [show t 16 8 = nbd N from hPt.1.2.2.1]
    exact kt
  · rw [if_neg q, if_neg q1, if_neg q2, if_neg q3, if_neg q4, if_neg q5, if_neg q6, if_pos q7, ← e7] at ks; exact ks
  · rw [if_neg q, if_neg q1, if_neg q2, if_neg q3, if_neg q4, if_neg q5, if_neg q6, if_neg q7, if_pos q8, ← e8] at ks; exact ks
  · rw [if_neg q, if_neg q1, if_neg q2, if_neg q3, if_neg q4, if_neg q5, if_neg q6, if_neg q7, if_neg q8] at ks; exact ks
theorem cell_N {N s : Sto} {c : Nat} (hN : NOk N) (hC : NtC N 6 s) (hc : (c : Int) < N 0 1) : O_X11_cell (c : Int) s ∧ F_X11_cell (c : Int) s = 1 - N 10 c := by
  have h36 := hN.2.2.2.1
  obtain ⟨o1, o2⟩ := isOpen_v (u := s) (z := (c : Int)) hN hC.2.2.2.1 hC.2.2.2.2.2.2.2.1
  unfold O_X11_cell F_X11_cell
  rw [hC.2.2.2.1, if_neg (nn within_0 ⟨by omega, by omega⟩), if_pos hc, o1, Int.toNat_natCast]
  refine ⟨⟨fun _ => trivial, fun _ => ⟨fun _ => ⟨o2, trivial⟩, fun _ => trivial⟩⟩, ?_⟩
  rcases hN.2.2.2.2.2.2.2.2.1 c with w | w
  · rw [w, if_neg (fun q : 0 ≤ (c : Int) ∧ (0 : Int) = 1 => absurd q.2 (by decide)), if_pos rfl]; decide
  · rw [w, if_pos (⟨by omega, rfl⟩ : 0 ≤ (c : Int) ∧ (1 : Int) = 1), if_neg (by decide)]; decide
theorem mu37 {i : Nat} (h : i ≤ 36) : (37 - ((i + 1 : Nat) : Int)).toNat < (37 - (i : Int)).toNat := by omega
theorem ix36 {j : Nat} (h : j ≤ 36) : w32 ((j : Int) + 1) = ((j + 1 : Nat) : Int) := by
  rw [w32_of (by omega) (by omega)]; omega
theorem fdI_0 {f : Int → Nat → Int} {v : Int} : fdI f v 0 = v := rfl
theorem T_cdig2 {N s : Sto} {n : Nat} {th oc : Nat → Int} {d : Int} {Q : Int → Sto → Prop} (h : CtC N n th oc s) (k : ∀ t, CtC N n th oc t → Same DDg s t → Q (dgE N n th oc (fdI (dgW N) (fdI (dgT N) (fdI (dgR N n th oc) d (nR N)) (nT N)) 4)) t) : ∃ n20, L_X11_digest_119 (fun x8 s9 => (P_X0_weigh 5 5 s9 (fun _ s10 => (∃ n19, L_X11_digest_154 (fun x12 s13 => (∃ n18, L_X11_digest_180 (fun x14 s15 => (P_X11_digestRest x14 s15 (fun r17 s16 => Q r17 s16))) n18 x12 0 s13)) n19 x8 0 s10)))) n20 d 0 s := by
  have hN : NOk N := by rw [← h.2.2.1]; exact tN_ok h.1
  obtain ⟨r1, r2, r3⟩ := nR8 hN
  obtain ⟨t1, t2, t3⟩ := nT8 hN
  refine lp3 (L_X11_digest_119 _) (fun x y u => ∃ i : Nat, y = (i : Int) ∧ i ≤ nR N ∧ x = fdI (dgR N n th oc) d i ∧ CtC N n th oc u ∧ Same DScr s u) (fun _ y _ => (9 - y).toNat) ?_ d 0 s ⟨0, rfl, by omega, rfl, h, Same.rfl'⟩
  intro m x y u ⟨i, hy, hi, hx, hCu, hSu⟩ ih
  subst hy
  have hw := (ix3 (Nat.le_trans hi r1)).2.2.1
  have hmu := mu9 (Nat.le_trans hi r1)
  unfold L_X11_digest_119
  rw [hw, (NtC_of hCu.2.2.1).1]
  clear hw
  refine ⟨fun q => ?_, fun q => ?_⟩
  · have e := r2 i hi q
    rw [e] at hx
    refine T_weigh (D := 6) (c := 5) hN (NtC_of hCu.2.2.1) (by decide) (by decide) (fun v ws m hW h5 hv hSv => ?_)
    have hCv := CtC_sc hCu hSv
    refine lp3 (L_X11_digest_154 _) (fun x y u => ∃ i : Nat, y = (i : Int) ∧ i ≤ nT N ∧ x = fdI (dgT N) (fdI (dgR N n th oc) d (nR N)) i ∧ CtC N n th oc u ∧ Same DSq v u) (fun _ y _ => (9 - y).toNat) ?_ x 0 v ⟨0, rfl, by omega, hx.trans fdI_0.symm, hCv, Same.rfl'⟩
    intro m2 x y u2 ⟨i, hy, hi, hx, hCu2, hSu2⟩ ih2
    subst hy
    have hw := (ix3 (Nat.le_trans hi t1)).2.2.1
    have hmu := mu9 (Nat.le_trans hi t1)
    unfold L_X11_digest_154
    rw [hw, (NtC_of hCu2.2.2.1).2.1]
    clear hw
    refine ⟨fun q => ?_, fun q => ?_⟩
    · have e := t2 i hi q
      rw [e] at hx
      refine lp3 (L_X11_digest_180 _) (fun x y u => ∃ i : Nat, y = (i : Int) ∧ i ≤ 4 ∧ x = fdI (dgW N) (fdI (dgT N) (fdI (dgR N n th oc) d (nR N)) (nT N)) i ∧ CtC N n th oc u ∧ Same DScr u2 u) (fun _ y _ => (9 - y).toNat) ?_ x 0 u2 ⟨0, rfl, by omega, hx.trans fdI_0.symm, hCu2, Same.rfl'⟩
      intro m3 x y u3 ⟨i, hy, hi, hx, hCu3, hSu3⟩ ih3
      subst hy
      have hw := (ix3 (Nat.le_trans hi (by decide))).2.2.1
      have hmu := mu9 (Nat.le_trans hi (by decide))
      unfold L_X11_digest_180
      rw [hw]
      clear hw
      refine ⟨fun q => ?_, fun q => ?_⟩
      · have e : i = 4 := by omega
        rw [e] at hx
        rw [hx]
        exact T_cdE hCu3 (fun t g1 g2 => k t g1 ((DDg_s (((hSu.trans hSv).trans (DSq_sc hSu2)).trans hSu3)).trans g2))
      · exact T_cdw hCu3 (fun t g => ih3 _ _ _ ⟨i + 1, rfl, by omega, by rw [hx]; rfl, CtC_sc hCu3 g, hSu3.trans g⟩ hmu)
    · obtain ⟨i8, hir, i1⟩ := t3 i hi q
      refine T_cdt hCu2 hir hW (by rw [hSu2 66 5 (by unfold DSq; omega)]; exact h5) (fun y w hy hw => by rw [hSu2 68 _ (by unfold DSq; omega)]; exact hv y w hy hw) (fun t g => ih2 _ _ _ ⟨i + 1, rfl, i1, by rw [hx]; rfl, CtC_sc hCu2 (DSq_sc g), hSu2.trans g⟩ hmu)
  · obtain ⟨i8, hir, i1⟩ := r3 i hi q
    exact T_cdr hCu hir (fun t g => ih _ _ _ ⟨i + 1, rfl, i1, by rw [hx]; rfl, CtC_sc hCu g, hSu.trans g⟩ hmu)
theorem T_cdig {N s : Sto} {n : Nat} {th oc : Nat → Int} {Q : Int → Sto → Prop} (h : Rel s) (eN : tN s = N) (hG : SgC n th oc s) (k : ∀ t, Rel t → tN t = N → Same DDg s t → Q (dgV N n th oc (fun w => cV s N w) (s 2)) t) : P_X11_digest s Q := by
  have hN : NOk N := by rw [← eN]; exact tN_ok h
  obtain ⟨r1, r2, r3⟩ := nR8 hN
  obtain ⟨t1, t2, t3⟩ := nT8 hN
  have h36 := hN.2.2.2.1
  unfold P_X11_digest
  refine T_playTold h (fun s1 a1 a2 a3 a4 => ?_)
  rw [eN] at a2 a3
  refine lp3 (L_X11_digest_10 _) (fun x y u => ∃ i : Nat, y = (i : Int) ∧ i ≤ 8 ∧ x = fdI (fun x k => mx x (cV s N (k : Int))) 17 i ∧ Rel u ∧ Pld N u ∧ tN u = N ∧ Same DPt s u) (fun _ y _ => (9 - y).toNat) ?_ 17 0 s1 ⟨0, rfl, by omega, rfl, a1, a2, a3, a4⟩
  intro m x y u ⟨i, hy, hi, hx, b1, b2, b3, b4⟩ ih
  subst hy
  have hw := (ix3 hi).2.2.1
  have hmu := mu9 hi
  have cc : cV u N (i : Int) = cV s N (i : Int) := cV_cg (funext (fun b => b4 75 b (by unfold DPt; omega))) (b4 69 27 (by unfold DPt; omega)) (b4 69 4 (by unfold DPt; omega))
  unfold L_X11_digest_10
  rw [hw]
  clear hw
  refine ⟨fun q => ?_, fun q => ?_⟩
  · have e : i = 8 := by omega
    rw [e] at hx
    subst hx
    have hCu := NtC_of b3
    generalize hd1 : fdI (fun x k => mx x (cV s N (k : Int))) 17 8 = d1
    refine lp2 (L_X11_digest_35 u _) (fun x y => ∃ i : Nat, y = (i : Int) ∧ i ≤ 3 ∧ x = fdI (fun x k => mx x (s 2 k)) d1 i) (fun _ y => (9 - y).toNat) ?_ _ 0 ⟨0, rfl, by omega, rfl⟩
    intro m x y ⟨i, hy, hi, hx⟩ ih2
    subst hy
    have hw := (ix3 (Nat.le_trans hi (by decide))).2.2.1
    have hmu := mu9 (Nat.le_trans hi (by decide))
    unfold L_X11_digest_35
    rw [hw, Int.toNat_natCast, b4 2 i (by unfold DPt; omega)]
    clear hw
    refine ⟨fun q => ?_, fun q => ⟨inb_n (by omega), fun x3 e3 => ih2 _ _ ⟨i + 1, rfl, by omega, by rw [e3, hx]; rfl⟩ hmu⟩⟩
    have e : i = 3 := by omega
    rw [e] at hx
    subst hx
    generalize hd2 : fdI (fun x k => mx x (s 2 k)) d1 3 = d2
    refine lp2 (L_X11_digest_60 u _) (fun x y => ∃ i : Nat, y = (i : Int) ∧ i ≤ (N 0 1).toNat ∧ x = fdI (fun x c => mx x (1 - N 10 c)) d2 i) (fun _ y => (37 - y).toNat) ?_ _ 0 ⟨0, rfl, by omega, rfl⟩
    intro m x y ⟨i, hy, hi, hx⟩ ih3
    subst hy
    have h37 : i ≤ 36 := by omega
    have hw := ix36 h37
    have hmu := mu37 h37
    unfold L_X11_digest_60
    rw [hw, hCu.2.2.2.1]
    clear hw
    refine ⟨fun q => ?_, fun q => ?_⟩
    · have e : i = (N 0 1).toNat := by omega
      rw [e] at hx
      subst hx
      generalize hd3 : fdI (fun x c => mx x (1 - N 10 c)) d2 (N 0 1).toNat = d3
      refine lp2 (L_X11_digest_90 u _) (fun x y => ∃ i : Nat, y = (i : Int) ∧ i ≤ 20 ∧ x = fdI (fun x k => mx x (N 9 k)) d3 i) (fun _ y => (37 - y).toNat) ?_ _ 0 ⟨0, rfl, by omega, rfl⟩
      intro m x y ⟨i, hy, hi, hx⟩ ih4
      subst hy
      have h37 : i ≤ 36 := by omega
      have hw := ix36 h37
      have hmu := mu37 h37
      unfold L_X11_digest_90
      rw [hw, Int.toNat_natCast]
      clear hw
      refine ⟨fun q => ?_, fun q => ⟨inb_n (by omega), fun x3 e3 => ih4 _ _ ⟨i + 1, rfl, by omega, by rw [e3, hx, show u 15 i = N 9 i from hCu.2.2.2.2.2.2.1 i (by omega)]; rfl⟩ hmu⟩⟩
      have e : i = 20 := by omega
      rw [e] at hx
      have hd : x = dg0 N (fun w => cV s N w) (s 2) := by
        unfold dg0
        rw [hd1, hd2, hd3]
        exact hx
      clear hd1 hd2 hd3 hx
      rw [hd]
      have hCC : CtC N n th oc u := ⟨b1, b2, b3, SgC_cg hG (fun a b q1 q2 => b4 a b (by unfold DPt; omega))⟩
      refine T_cdig2 hCC (fun t g1 g2 => ?_)
      have kk := k t g1.1 g1.2.2.1 ((DDg_p b4).trans g2)
      unfold dgV at kk
      exact kk
    · obtain ⟨l1, l2⟩ := cell_N hN hCu (c := i) (by omega)
      exact ⟨l1, fun x3 e3 => ih3 _ _ ⟨i + 1, rfl, by omega, by rw [e3, hx, l2]; rfl⟩ hmu⟩
  · refine T_XcountP b1 b2 b3 (fun t c1 c2 c3 c4 x4 e4 => ?_)
    rw [cc] at e4
    exact ih _ _ _ ⟨i + 1, rfl, by omega, by rw [e4, hx]; rfl, c1, c2, c3, b4.trans c4⟩ hmu
