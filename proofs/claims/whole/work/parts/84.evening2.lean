/-! ===== the reference's evening ===== -/
theorem T_mevening {N s : Sto} {z w : Int} {n : Nat} {Q : Int → Sto → Prop} (hN : NOk N) (hC : NtM N s) (h0 : s 69 25 = 0) (hn : n ≤ 8) (k : ∀ t, NtM N t → Same DScr s t → Q (evV N z n w) t) : P_X12_eveningOf z (n : Int) w s Q := by
  have hc36 := hN.2.2.2.1
  unfold P_X12_eveningOf
  intro x1 e1
  -- what is told is put by
  refine lp2 (L_X12_eveningOf_9 z (n : Int) w x1 _) (fun y u => ∃ i : Nat, y = (i : Int) ∧ i ≤ 40 ∧ (∀ j, j < i → u 89 j = s 79 j) ∧ Same (fun a _ => a = 89) s u) (fun y _ => (41 - y).toNat) ?_ 0 s ⟨0, rfl, by omega, fun j q => absurd q (Nat.not_lt_zero j), Same.rfl'⟩
  intro m y u ⟨i, hy, hi, hp, hSu⟩ ih
  subst hy
  unfold L_X12_eveningOf_9
  rw [Int.toNat_natCast]
  refine ⟨fun c s3 e3 s4 e4 => ?_, fun c => ⟨⟨by omega, by omega⟩, ⟨by omega, by omega⟩, fun s4 e4 => ?_⟩⟩
  rotate_left
  · rw [ixp (b := i) (by omega)]
    refine ih _ _ ⟨i + 1, rfl, by omega, fun j hj => ?_, by rw [e4]; exact hSu.up rfl⟩ (by omega)
    rw [e4]
    by_cases q : j = i
    · rw [q, up_at]; exact hSu _ _ (by omega)
    · rw [up_j q]; exact hp j (by omega)
  have : i = 40 := by omega
  subst this
  have b4 : ∀ a b, a ≠ 89 → ¬ (a = 69 ∧ (b = 30 ∨ b = 14)) → s4 a b = s a b := fun a b q1 q2 => by rw [e4, up_c2 (by omega), e3, up_c2 (by omega)]; exact hSu a b q1
  have hC4 : NtM (up N 0 0 0) s4 := by
    obtain ⟨h1, h2, h3, h4, h5, h6, h7, h8, h9⟩ := hC
    have e : ∀ a x, a ≠ 0 ∨ x ≠ 0 → up N 0 0 0 a x = N a x := fun a x q => up_c2 (by omega)
    have e76 : s4 76 = s 76 := funext (fun y => b4 76 y (by omega) (by omega))
    refine ⟨by rw [e4, up_at, up_at], by rw [b4 _ _ (by omega) (by omega), e _ _ (by omega)]; exact h2, by rw [b4 _ _ (by omega) (by omega), e _ _ (by omega)]; exact h3, by rw [b4 _ _ (by omega) (by omega), e _ _ (by omega)]; exact h4, fun r hr => by rw [up_at] at hr; omega, fun x hx => ?_, fun k hk => ?_, fun c hc => ?_, fun c v hc hv => ?_⟩
    · rw [e _ _ (by omega)] at hx
      rw [b4 _ _ (by omega) (by omega), b4 _ _ (by omega) (by omega), b4 _ _ (by omega) (by omega), e _ _ (by omega), e _ _ (by omega), e _ _ (by omega)]; exact h6 x hx
    · rw [b4 69 26 (by omega) (by omega), b4 _ _ (by omega) (by omega), e _ _ (by omega)]; exact h7 k hk
    · rw [e _ _ (by omega)] at hc
      rw [b4 _ _ (by omega) (by omega), e _ _ (by omega)]; exact h8 c hc
    · rw [e _ _ (by omega)] at hc
      rw [e _ _ (by omega)]
      obtain ⟨g1, g2⟩ := beside_cg (c := (c : Int)) (w := (v : Int)) (b4 69 7 (by omega) (by omega)) (b4 69 8 (by omega) (by omega)) e76
      obtain ⟨k1, k2⟩ := h9 c v hc hv
      exact ⟨by rw [g1]; exact k1, g2 k2⟩
  have z4 : s4 69 30 = z := by rw [e4, up_j (by decide), e3, up_at]
  have g4 : s4 69 25 = 0 := by rw [b4 _ _ (by omega) (by omega)]; exact h0
  have p4 : ∀ j, j < 40 → s4 89 j = s 79 j := fun j hj => by rw [e4, up_c (by decide), e3, up_c (by decide)]; exact hp j hj
  -- the frame of the rest
  have fin : ∀ v, NtM (evR N z (evK N n)).1 v → (∀ j, j < 40 → v 89 j = s 79 j) → Same (fun a b => a = 89 ∨ (a = 69 ∧ (b = 30 ∨ b = 14)) ∨ (a = 79 ∧ b < 40)) s v → P_X12_lives v (fun _ s6 => (∃ n15, L_X12_eveningOf_114 w x1 s6 (fun x8 => (P_X12_allBound s6 (fun r10 s9 => (∃ n14, L_X12_eveningOf_159 w x1 x8 r10 (fun s11 => (∀ s12 : Sto, s12 = up s11 69 14 x1 → ((w = 0 → Q r10 s12) ∧ (¬ w = 0 → Q x8 s12)))) n14 0 s9)))) n15 0 0)) := by
    intro v hCv hpv hSv
    have hE := (evR_ok (z := z) hN (evK N n) (by unfold evK; split <;> omega) (by unfold evK; split <;> omega)).1
    obtain ⟨n1, n2, n3⟩ := nR8 hE
    refine T_lives hE hCv (fun s6 hP6 _ hS6 => ?_)
    have hC6 := NtM_cg hCv hS6
    refine lp2 (L_X12_eveningOf_114 w x1 s6 _) (fun x y => ∃ i : Nat, y = (i : Int) ∧ i ≤ nR (evR N z (evK N n)).1 ∧ x = cntB (fun r => decide (sm (evR N z (evK N n)).1 20 1 r = 3)) i) (fun _ y => (9 - y).toNat) ?_ 0 0 ⟨0, rfl, Nat.zero_le _, rfl⟩
    intro m x y ⟨i, hy, hi, hx⟩ ih2
    subst hy
    have hw := (ix3 (Nat.le_trans hi n1)).2.2.1
    have hmu := mu9 (Nat.le_trans hi n1)
    unfold L_X12_eveningOf_114
    rw [hC6.1, Int.toNat_natCast, hw]
    clear hw
    refine ⟨fun c => ?_, fun c => ?_⟩
    · have q := n2 i hi c
      subst q
      refine T_mall hE hC6 hP6 ?_
      -- what was put by comes back
      refine lp2 (L_X12_eveningOf_159 w x1 x _ _) (fun y u => ∃ i : Nat, y = (i : Int) ∧ i ≤ 40 ∧ (∀ j, j < i → u 79 j = s 79 j) ∧ Same (fun a b => a = 79 ∧ b < 40) s6 u) (fun y _ => (41 - y).toNat) ?_ 0 s6 ⟨0, rfl, by omega, fun j q => absurd q (Nat.not_lt_zero j), Same.rfl'⟩
      intro m2 y u ⟨i, hy, hi, hb, hSu⟩ ih3
      subst hy
      unfold L_X12_eveningOf_159
      rw [Int.toNat_natCast]
      refine ⟨fun c s12 e12 => ?_, fun c => ⟨⟨by omega, by omega⟩, ⟨by omega, by omega⟩, fun s8 e8 => ?_⟩⟩
      · have : i = 40 := by omega
        subst this
        have hS12 : Same DScr s s12 := by
          intro a b hd
          rw [e12]
          by_cases q : a = 69 ∧ b = 14
          · rw [q.1, q.2, up_at, e1]
          · rw [up_c2 q]
            by_cases q2 : a = 79 ∧ b < 40
            · rw [q2.1]; exact hb b q2.2
            · rw [hSu a b q2, hS6 a b (fun w => hd (by unfold DScr; unfold DMl at w; omega))]
              exact hSv a b (fun w => by unfold DScr at hd; omega)
        have kk := k s12 (NtM_keep hC (fun a b q => ?_)) hS12
        · unfold evV at kk
          refine ⟨fun q => ?_, fun q => ?_⟩
          · rw [if_pos q] at kk; exact kk
          · rw [if_neg q] at kk; rw [hx]; exact kk
        · -- the told night's cells are as they were
          rw [e12]
          by_cases q1 : a = 69 ∧ b = 14
          · rw [q1.1, q1.2, up_at, e1]
          · rw [up_c2 q1]
            by_cases q2 : a = 79 ∧ b < 40
            · rw [q2.1]; exact hb b q2.2
            · rw [hSu a b q2, hS6 a b (by unfold DMl; omega)]
              exact hSv a b (by omega)
      · rw [ixp (b := i) (by omega)]
        refine ih3 _ _ ⟨i + 1, rfl, by omega, fun j hj => ?_, by rw [e8]; exact hSu.up ⟨rfl, by omega⟩⟩ (by omega)
        rw [e8]
        by_cases q : j = i
        · rw [q, up_at, hSu 89 i (by omega), hS6 89 i (by unfold DMl; omega)]
          exact hpv i (by omega)
        · rw [up_j q]; exact hb j (by omega)
    · obtain ⟨i8, it, i1⟩ := n3 i hi c
      have e80 : s6 80 i = sm (evR N z (evK N n)).1 20 1 i := (hP6.1 i it).1
      have hcr := cntB_rng (fun r => decide (sm (evR N z (evK N n)).1 20 1 r = 3)) i
      rw [e80]
      refine ⟨inb8 i8, fun x3 e3 x5 e5 => ih2 _ _ ⟨i + 1, rfl, i1, ?_⟩ hmu⟩
      rw [cntB_s, e5, e3, hx]
      by_cases q : sm (evR N z (evK N n)).1 20 1 i = 3
      · rw [if_pos q, if_pos (decide_eq_true q)]; exact w32_of (by omega) (by omega)
      · rw [if_neg q, decide_eq_false q, if_neg Bool.false_ne_true]; exact w32_of (by omega) (by omega)
  have hS4 : Same (fun a b => a = 89 ∨ (a = 69 ∧ (b = 30 ∨ b = 14)) ∨ (a = 79 ∧ b < 40)) s s4 := fun a b q => b4 a b (fun w => q (Or.inl w)) (fun w => q (Or.inr (Or.inl w)))
  refine lp2 (L_X12_eveningOf_49 (n : Int) w x1 _) (fun y u => ∃ i : Nat, y = (i : Int) ∧ i ≤ n ∧ (0 < N 0 1 ∨ i = 0) ∧ NtM (evR N z i).1 u ∧ u 69 30 = (evR N z i).2 ∧ u 69 25 = 0 ∧ (∀ j, j < 40 → u 89 j = s 79 j) ∧ Same (fun a b => a = 89 ∨ (a = 69 ∧ (b = 30 ∨ b = 14)) ∨ (a = 79 ∧ b < 40)) s u) (fun y _ => (9 - y).toNat) ?_ 0 s4 ⟨0, rfl, Nat.zero_le _, Or.inr rfl, hC4, z4, g4, p4, hS4⟩
  intro m y u ⟨i, hy, hi, hc, hCu, hz, hgu, hpu, hSu⟩ ih
  subst hy
  obtain ⟨g1, g2, g3, g4'⟩ := evR_ok (z := z) hN i (by omega) hc
  have e7 : u 69 7 = N 0 1 := by rw [hCu.2.2.2.1, g3]
  unfold L_X12_eveningOf_49
  rw [e7]
  refine ⟨fun q => fin u ?_ hpu hSu, fun q => ⟨fun q2 => fin u ?_ hpu hSu, fun q2 => ?_⟩⟩
  · have : i = n := by omega
    subst this
    have : evK N i = i := by
      unfold evK
      rcases hc with w | w
      · rw [if_pos w]
      · rw [w]; split <;> rfl
    rw [this]
    exact hCu
  · have hi0 : i = 0 := hc.elim (fun w => by omega) id
    have : evK N n = i := by unfold evK; rw [if_neg (by omega), hi0]
    rw [this]
    exact hCu
  · have hc' : 0 < N 0 1 := by omega
    have hin : i < n := by omega
    have i8 : i < 8 := by omega
    have hmu := mu9 (j := i) (by omega)
    obtain ⟨l1, l2, l3⟩ := mlot_v (s := u) hc'
    rw [l1, l2, (ix3 (j := i) (by omega)).2.2.1]
    refine ⟨l3, fun s5 e5 x5 ex5 => ?_⟩
    have z5 : s5 69 30 = nxS (evR N z i).2 := by rw [e5, up_at, hz]
    obtain ⟨l4, l5, l6⟩ := mlot_v (s := s5) (m := 4) (by decide)
    rw [l4, l5, z5]
    refine ⟨l6, fun s7 e7 x8 ex8 => ?_⟩
    have z7 : s7 69 30 = nxS (nxS (evR N z i).2) := by rw [e7, up_at]
    obtain ⟨l7, l8, l9⟩ := mlot_v (s := s7) (m := 9) (by decide)
    rw [l7, l8, z7, w_b1]
    refine ⟨l9, fun s10 e10 => ?_⟩
    have ke : ∀ a b, ¬ (a = 69 ∧ b = 30) → s10 a b = u a b := fun a b w => by rw [e10, up_c2 w, e7, up_c2 w, e5, up_c2 w]
    have hC10 : NtM (evR N z i).1 s10 := NtM_keep hCu (fun a b q => ke a b (by omega))
    obtain ⟨a1, a2⟩ := puts_s (n := i) (a := (i : Int)) (b := x5) (c := x8) (d := lotV (nxS (nxS (evR N z i).2)) 9 + 1) (e := 0) (s := s10) (by rw [hC10.1, g2]) i8
    refine ⟨a2, fun s12 e12 => ih _ _ ⟨i + 1, rfl, hin, Or.inl hc', ?_, ?_, ?_, fun j hj => ?_, ?_⟩ hmu⟩
    · rw [e12, a1, ex5, ex8, hz]
      exact NtM_psh hC10 g2 (by rw [ke _ _ (by omega)]; exact hgu)
    · rw [e12, a1, up_j (by decide), up_c (by decide), up_c (by decide), up_c (by decide), up_c (by decide), up_c (by decide), e10, up_at]
      rfl
    · rw [e12, a1, up_j (by decide), up_c (by decide), up_c (by decide), up_c (by decide), up_c (by decide), up_c (by decide), ke _ _ (by omega)]; exact hgu
    · rw [e12, a1, up_c (by decide), up_c (by decide), up_c (by decide), up_c (by decide), up_c (by decide), up_c (by decide), ke _ _ (by omega)]; exact hpu j hj
    · intro a b q
      rw [e12, a1, up_c2 (by omega), up_c2 (by omega), up_c2 (by omega), up_c2 (by omega), up_c2 (by omega), up_c2 (by omega), ke _ _ (by omega)]
      exact hSu a b q
theorem R_evening {v1 v2 v3 : Int} {s : Sto} (h : Rel s) : P_X11_evening v1 v2 v3 s (fun r s1 => P_X12_evening v1 v2 v3 s1 (fun r2 s2 => r2 = r ∧ Rel s2)) := by
  have hN := tN_ok h
  have bad : ¬ ((1 ≤ v2 ∧ v2 ≤ 8) ∧ (0 ≤ v3 ∧ v3 ≤ 1)) → P_X12_evening v1 v2 v3 s (fun r2 s2 => r2 = -2 ∧ Rel s2) := by
    intro c
    unfold P_X12_evening
    refine T_findR h rfl (fun t t1 t2 t3 t4 t5 t6 => ?_)
    exact ⟨fun _ => ⟨rfl, t1⟩, fun q1 => ⟨fun _ => ⟨rfl, t1⟩, fun q2 => absurd ⟨yy in_0 q1, yy isTwo_0 q2⟩ c⟩⟩
  unfold P_X11_evening
  refine ⟨fun q => bad (fun w => within_0.mp q w.1), fun q1 => ⟨fun q => bad (fun w => within_0.mp q w.2), fun q2 => ?_⟩⟩
  have c1 := yy within_0 q1
  have c2 := yy within_0 q2
  obtain ⟨n, rfl⟩ := Int.eq_ofNat_of_zero_le (show 0 ≤ v2 by omega)
  refine T_cevening hN tN_NtC (by omega) (fun t a0 a1 hSt => ?_)
  obtain ⟨hRt, eNt⟩ := Rel_sc h hSt
  have good : P_X12_evening v1 (n : Int) v3 t (fun r2 s2 => r2 = evV (tN s) v1 n v3 ∧ Rel s2) := by
    unfold P_X12_evening
    refine T_findR hRt eNt (fun u u1 u2 u3 u4 u5 u6 => ?_)
    exact ⟨fun q => absurd q (nn in_0 c1), fun _ => ⟨fun q => absurd q (nn isTwo_0 c2), fun _ => T_mevening hN u2 u1.2.2.2.2.2.2.1.1 (by omega) (fun w w1 w2 => ⟨rfl, (Rel_sc u1 w2).1⟩)⟩⟩
  refine ⟨fun q => ?_, fun q => ?_⟩
  · rw [a0]; rw [q] at good ⊢; exact good
  · have : v3 = 1 := by omega
    rw [a1]; rw [this] at good ⊢; exact good
