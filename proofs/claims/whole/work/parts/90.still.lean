/-! ===== still ===== -/
theorem gWt_40 {f : (Nat → Bool) → Bool} {c : Nat} {ws : Nat → Nat} {m : Nat} {S : Nat → Bool} (hc : c ≤ 16) (hm : m ≤ 10) : gWt f c ws m S ≤ 1099511627776 := Nat.le_trans (gWt_le hc m S) (Nat.pow_le_pow_right (by decide) hm : 16 ^ m ≤ 16 ^ 10)
theorem T_weightOf {t : Sto} {x w : Nat} {W : Nat} (hx : x < 8) (hw : w < 4) (hv : t 68 (4 * x + w) = (W : Int)) : O_X0_weightOf (x : Int) (w : Int) t ∧ F_X0_weightOf (x : Int) (w : Int) t = (W : Int) := by
  unfold O_X0_weightOf F_X0_weightOf
  rw [ixw hx hw, Int.toNat_natCast, hv]
  exact ⟨⟨fun _ => trivial, fun _ => ⟨fun _ => trivial, fun _ => ⟨inb_n (by omega), trivial⟩⟩⟩, by rw [if_neg (by omega), if_neg (by omega)]⟩
theorem T_above {N t : Sto} {ws : Nat → Nat} {c D m x w : Nat} {Q : Int → Sto → Prop} (hN : NOk N) (hW : WsO N ws D m) (hc : c ≤ 16) (hD : D ≤ 10) (h5 : t 66 5 = (m : Int)) (hx : x < 8) (hw : w < 4) (hv : t 68 (4 * x + w) = (gWt (fWb N x w) c ws m (fun _ => false) : Int)) (k : Q (stW N c D x w 0 : Int) t) : P_X0_above (x : Int) (w : Int) t Q := by
  have hm : m ≤ 10 := Nat.le_trans hW.1 hD
  obtain ⟨h1, h2⟩ := T_weightOf hx hw hv
  unfold P_X0_above
  rw [h2]
  refine ⟨h1, fun x2 e2 => ?_⟩
  subst e2
  refine T_halvings h5 hm (fun h hh hb hs => ?_)
  rw [lS_nat (Nat.lt_of_le_of_lt (gWt_40 hc hm) (by decide)) (by omega), (st_low hN hW hc hh hb hs).1]
  exact k
theorem T_below {N t : Sto} {ws : Nat → Nat} {c D m x w : Nat} {z : Int} {Q : Int → Sto → Prop} (hN : NOk N) (hW : WsO N ws D m) (hc : c ≤ 16) (hD : D ≤ 10) (h5 : t 66 5 = (m : Int)) (hx : x < 8) (hw : w < 4) (hv : t 68 (4 * x + w) = (gWt (fWb N x w) c ws m (fun _ => false) : Int)) (hz : z ≠ 0) (k : Q (stW N c D x w z : Int) t) : P_X0_below (x : Int) (w : Int) t Q := by
  have hm : m ≤ 10 := Nat.le_trans hW.1 hD
  obtain ⟨h1, h2⟩ := T_weightOf hx hw hv
  unfold P_X0_below
  rw [h2]
  refine ⟨h1, ?_⟩
  refine T_halvings h5 hm (fun h hh hb hs => ?_)
  have i1 : w32 (w32 (4 * (m : Int)) - (h : Int)) = ((4 * m - h : Nat) : Int) := by
    rw [w32_of (z := 4 * (m : Int)) (by omega) (by omega), w32_of (by omega) (by omega)]; omega
  rw [h5, i1, lshl1 _ (by omega), (st_low hN hW hc hh hb hs).2 z hz]
  exact k
theorem shl2 : ∀ d : Nat, d < 10 → iShl 2 (d : Int) = ((2 ^ (d + 1) : Nat) : Int) := by decide +kernel
theorem clN_u {N : Sto} {u : Nat} (hu : u < 1024) : clN N (u : Int) = clS N (fun k => u.testBit k) := by
  funext a k
  unfold clN clS
  rcases Nat.lt_or_ge k 32 with h | h
  · rw [ib_nat h]
  · have e : u.testBit k = false := Nat.testBit_lt_two_pow (Nat.lt_of_lt_of_le (show u < 2 ^ 32 by omega) (Nat.pow_le_pow_right (by decide) h))
    rw [ib_big h, if_neg (fun w => absurd w.2 Bool.false_ne_true), if_neg (fun w => absurd (e.symm.trans w.2) Bool.false_ne_true)]
theorem T_sprod {c D u : Nat} {v3 v4 v5 v6 : Int} {s : Sto} {K : Int → Prop} (hc : c ≤ 16) (hD : 1 ≤ D ∧ D ≤ 10) (k : K (wtM c u D : Int)) : ∃ n, L_X12_stillOf_40 (c : Int) ((D : Int) - 1) v3 v4 v5 v6 (u : Int) s K n 1 0 := by
  refine lp2 (L_X12_stillOf_40 (c : Int) ((D : Int) - 1) v3 v4 v5 v6 (u : Int) s K) (fun x y => ∃ j : Nat, y = (j : Int) ∧ j ≤ D ∧ x = (wtM c u j : Int)) (fun _ y => (11 - y).toNat) ?_ 1 0 ⟨0, rfl, by omega, rfl⟩
  intro n x y ⟨j, hy, hj, hx⟩ ih
  subst hy
  subst hx
  have hw := ix20 (j := j) (by omega)
  unfold L_X12_stillOf_40 F_X12_isIn
  rw [hw, ib_t (by omega), ib_nat (by omega)]
  clear hw
  refine ⟨fun q => ?_, fun q x3 e3 x5 e5 => ?_⟩
  · have e : j = D := by omega
    rw [e]
    exact k
  · refine ih _ _ ⟨j + 1, rfl, by omega, ?_⟩ (by omega)
    have e4 : x3 = ((if u.testBit j = true then c else 16 - c : Nat) : Int) := by
      rw [e3]
      cases u.testBit j with
      | false =>
        show w32 (16 - (c : Int)) = ((16 - c : Nat) : Int)
        rw [w32_of (by omega) (by omega)]
        omega
      | true => rfl
    have hl := wt_lt (c := c) (u := u) (m := j + 1) hc (by omega)
    rw [wtM_s] at hl
    rw [e5, e4, ← Int.natCast_mul, w64_nat (Nat.lt_of_le_of_lt hl (by decide)), wtM_s]
theorem T_mstill {N s : Sto} {c D x w : Nat} {z : Int} {Q : Int → Sto → Prop} (hN : NOk N) (hC : NtM N s) (h0 : s 69 26 = 0) (hc : c ≤ 16) (hD : 1 ≤ D ∧ D ≤ 10) (hx : (x : Int) < N 0 6) (k : ∀ t, NtM N t → Same DScr s t → Q (stW N c D x w z : Int) t) : P_X12_stillOf (c : Int) ((D : Int) - 1) (x : Int) (w : Int) z s Q := by
  have hz : up s 69 26 0 = s := by rw [← h0, up_self]
  obtain ⟨P, hP, hP1, hp⟩ : ∃ P, 2 ^ D = P ∧ 1 ≤ P ∧ P ≤ 1024 := ⟨_, rfl, Nat.pow_pos (by decide), Nat.le_trans (Nat.pow_le_pow_right (n := 2) (by decide) hD.2) (Nat.le_of_eq (by decide))⟩
  have hs2 : iShl 2 ((D : Int) - 1) = (P : Int) := by
    have := shl2 (D - 1) (by omega)
    rw [show D - 1 + 1 = D by omega, hP] at this
    rw [← this, show ((D - 1 : Nat) : Int) = (D : Int) - 1 by omega]
  unfold P_X12_stillOf
  refine lp3 (L_X12_stillOf_6 (c : Int) ((D : Int) - 1) (x : Int) (w : Int) z _) (fun v y t => ∃ u : Nat, y = (u : Int) ∧ u ≤ P ∧ v = (smW (fWb N x w) c (fun k => k) D u : Int) ∧ NtM N (up t 69 26 0) ∧ Same DScr s (up t 69 26 0)) (fun _ y _ => (1025 - y).toNat) ?_ 0 0 s ⟨0, rfl, by omega, rfl, by rw [hz]; exact hC, by rw [hz]; exact Same.rfl'⟩
  intro n v y t ⟨u, hy, hu, hv, hCt, hSt⟩ ih
  subst hy
  have hw := ix1k (Nat.le_trans hu hp)
  have hmu := mu1k (Nat.le_trans hu hp)
  unfold L_X12_stillOf_6
  rw [hs2, hw]
  clear hw
  refine ⟨fun q s3 e3 => ?_, fun q s2 e2 => ?_⟩
  · have e : u = P := by omega
    have kk := k s3 (by rw [e3]; exact hCt) (by rw [e3]; exact hSt)
    have hv2 : v = (stF' N c D x w : Int) := by
      rw [hv, e, ← hP]
      unfold smW stF'
      rw [sum_gWt]
    have i1 : w32 (4 * w32 ((D : Int) - 1 + 1)) = ((4 * D : Nat) : Int) := by
      rw [w32_of (z := (D : Int) - 1 + 1) (by omega) (by omega), w32_of (by omega) (by omega)]; omega
    have h16 : 2 ^ (4 * D) ≤ 1099511627776 := (Nat.pow_le_pow_right (by decide) (by omega) : 2 ^ (4 * D) ≤ 2 ^ 40)
    rw [hv2, i1, lshl1 _ (by omega)]
    refine T_part (Nat.le_trans (gWt_40 hc hD.2) (by decide)) (Nat.le_trans h16 (by decide)) (Nat.pow_pos (by decide)) ?_
    unfold stW at kk
    rw [p16 D] at kk
    exact kk
  · have hu2 : u < P := by omega
    have hC2 := NtM_calm (g := (u : Int)) hCt up_at
    rw [up_up, clN_u (by omega), ← e2] at hC2
    refine T_lives (NOk_S hN) hC2 (fun s3 hP3 _ hS3 => ?_)
    have hC3 := NtM_cg hC2 hS3
    have hx' : (x : Int) < clS N (fun k => u.testBit k) 0 6 := by rw [clS_c (by decide)]; exact hx
    obtain ⟨g1, g2⟩ := mwhom_v (NOk_S hN) hC3 hP3 (sm_inv (NOk_S hN) 20 (Nat.le_refl 20)).1.2 hx'
    have hS : Same DMl (up t 69 26 0) (up s3 69 26 0) := by
      intro a d hd
      by_cases q : a = 69 ∧ d = 26
      · rw [q.1, q.2, up_at, up_at]
      · rw [up_c2 q, up_c2 q, hS3 a d hd, e2, up_c2 q]
    have hmx : mixW (fun k => k) D u (fun _ => false) = fun k => u.testBit k := mixW_id (by rw [hP]; exact hu2)
    have nx : smW (fWb N x w) c (fun k => k) D (u + 1) = smW (fWb N x w) c (fun k => k) D u + (if fWb N x w (fun k => u.testBit k) = true then wtM c u D else 0) := by
      rw [← hmx]; rfl
    refine ⟨g2, fun q2 => ?_, fun q2 => ?_⟩
    · have hf : fWb N x w (fun k => u.testBit k) = true := decide_eq_true (by rw [← g1]; exact q2)
      refine T_sprod hc hD (fun x8 e8 => ?_)
      refine ih _ _ _ ⟨u + 1, rfl, by omega, ?_, NtM_cg hCt hS, hSt.trans (Same_Ml hS)⟩ hmu
      have h1 := smW_le (f := fWb N x w) (ws := fun k => k) (u := u) hc hD.2 (by omega)
      have h2 := wt_lt (u := u) hc hD.2
      rw [e8, hv, ← Int.natCast_add, w64_nat (by omega), nx, if_pos hf]
    · have hf : ¬ fWb N x w (fun k => u.testBit k) = true := fun hf => q2 (by rw [g1]; exact of_decide_eq_true hf)
      refine ih _ _ _ ⟨u + 1, rfl, by omega, ?_, NtM_cg hCt hS, hSt.trans (Same_Ml hS)⟩ hmu
      rw [hv, nx, if_neg hf, Nat.add_zero]
theorem R_still {v1 v2 v3 v4 v5 : Int} {s : Sto} (h : Rel s) : P_X11_still v1 v2 v3 v4 v5 s (fun r s1 => P_X12_still v1 v2 v3 v4 v5 s1 (fun r2 s2 => r2 = r ∧ Rel s2)) := by
  have hN := tN_ok h
  have bad : ¬ ((0 ≤ v1 ∧ v1 ≤ 16) ∧ (0 ≤ v2 ∧ v2 ≤ 9) ∧ (0 ≤ v3 ∧ v3 < tN s 0 6) ∧ (0 ≤ v4 ∧ v4 ≤ 3) ∧ (0 ≤ v5 ∧ v5 ≤ 1)) → P_X12_still v1 v2 v3 v4 v5 s (fun r2 s2 => r2 = -9223372036854775806 ∧ Rel s2) := by
    intro c
    unfold P_X12_still
    refine T_findR h rfl (fun t t1 t2 t3 t4 t5 t6 => ?_)
    exact ⟨fun _ => ⟨rfl, t1⟩, fun q1 => ⟨fun _ => ⟨rfl, t1⟩, fun q2 => ⟨fun _ => ⟨rfl, t1⟩, fun q3 => ⟨fun _ => ⟨rfl, t1⟩, fun q4 => ⟨fun _ => ⟨rfl, t1⟩, fun q5 => absurd ⟨yy in_0 q1, yy in_0 q2, yy (isTM hN t2) q3, yy in_0 q4, yy isTwo_0 q5⟩ c⟩⟩⟩⟩⟩
  unfold P_X11_still
  refine ⟨fun q => bad (fun w => within_0.mp q w.1), fun q1 => ⟨fun q => bad (fun w => within_0.mp q w.2.1), fun q2 => ⟨fun q => bad (fun w => (isTC h).mp q w.2.2.1), fun q3 => ⟨fun q => bad (fun w => within_0.mp q w.2.2.2.1), fun q4 => ⟨fun q => bad (fun w => within_0.mp q w.2.2.2.2), fun q5 => ?_⟩⟩⟩⟩⟩
  have c1 := yy within_0 q1
  have c2 := yy within_0 q2
  have c3 := yy (isTC h) q3
  have c4 := yy within_0 q4
  have c5 := yy within_0 q5
  obtain ⟨c, rfl⟩ : ∃ c : Nat, v1 = (c : Int) := ⟨v1.toNat, by omega⟩
  obtain ⟨D, hD, rfl⟩ : ∃ D : Nat, (1 ≤ D ∧ D ≤ 10) ∧ v2 = (D : Int) - 1 := ⟨v2.toNat + 1, by omega, by omega⟩
  obtain ⟨x, rfl⟩ : ∃ c : Nat, v3 = (c : Int) := ⟨v3.toNat, by omega⟩
  obtain ⟨w, rfl⟩ : ∃ c : Nat, v4 = (c : Int) := ⟨v4.toNat, by omega⟩
  have hc : c ≤ 16 := by omega
  have hw : w < 4 := by omega
  have hx8 : x < 8 := by have := hN.2.1; omega
  have hxT : x < nT (tN s) := by unfold nT; omega
  have M : ∀ t, Rel t → tN t = tN s → P_X12_still (c : Int) ((D : Int) - 1) (x : Int) (w : Int) v5 t (fun r2 s2 => r2 = (stW (tN s) c D x w v5 : Int) ∧ Rel s2) := by
    intro t hR eN
    unfold P_X12_still
    refine T_findR hR eN (fun u u1 u2 u3 u4 u5 u6 => ?_)
    refine ⟨fun q => absurd q (nn in_0 c1), fun _ => ⟨fun q => absurd q (nn in_0 c2), fun _ => ⟨fun q => absurd q (nn (isTM hN u2) c3), fun _ => ⟨fun q => absurd q (nn in_0 c4), fun _ => ⟨fun q => absurd q (nn isTwo_0 c5), fun _ => ?_⟩⟩⟩⟩⟩
    exact T_mstill hN u2 u1.2.2.2.2.2.2.1.2 hc hD c3.2 (fun w w1 w2 => ⟨rfl, (Rel_sc u1 w2).1⟩)
  refine T_weigh hN tN_NtC hD hc (fun t ws m hW h5 hv hS => ?_)
  obtain ⟨r1, r2⟩ := Rel_sc h hS
  refine ⟨fun q => ?_, fun q => ?_⟩
  · have g := M t r1 r2
    rw [q] at g ⊢
    exact T_above hN hW hc hD.2 h5 hx8 hw (hv x w hxT hw) g
  · exact T_below hN hW hc hD.2 h5 hx8 hw (hv x w hxT hw) q (M t r1 r2)
