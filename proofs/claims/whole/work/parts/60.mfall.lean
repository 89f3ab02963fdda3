/-! ===== the reference lives a night: rings fall, are kept ===== -/
theorem mfits_v {N s : Sto} {r t : Nat} (hN : NOk N) (hC : NtM N s) (hr : r < 8) (ht : (t : Int) < N 0 6) (hw : 1 ≤ s 82 r ∧ s 82 r ≤ 9) : (F_X12_fits (r : Int) (t : Int) s = 0 ↔ ¬ fit (s 82 r) (N 7 t) (N 8 t)) ∧ O_X12_fits (r : Int) (t : Int) s := by
  have hT := hN.2.1
  have hin : inb (r : Int) 8 := ⟨by omega, by omega⟩
  obtain ⟨-, q1, q2⟩ := hN.2.2.2.2.2.1 t ht
  obtain ⟨-, e7, e8⟩ := hC.2.2.2.2.2.1 t ht
  have f1 : w32 (w32 (3 * (t : Int)) + 1) = 3 * (t : Int) + 1 := by rw [w32_of (z := 3 * (t : Int)) (by omega) (by omega), w32_of (by omega) (by omega)]
  have f2 : w32 (w32 (3 * (t : Int)) + 2) = 3 * (t : Int) + 2 := by rw [w32_of (z := 3 * (t : Int)) (by omega) (by omega), w32_of (by omega) (by omega)]
  have f3 : (3 * (t : Int) + 1).toNat = 3 * t + 1 := by omega
  have f4 : (3 * (t : Int) + 2).toNat = 3 * t + 2 := by omega
  unfold F_X12_fits O_X12_fits
  rw [Int.toNat_natCast, f1, f2, f3, f4, e7, e8, w32_of (by omega) (by omega)]
  refine ⟨?_, hin, ⟨by omega, by omega⟩, fun _ => trivial, fun _ => ⟨⟨by omega, by omega⟩, fun _ => trivial, fun _ => ⟨⟨by omega, by omega⟩, trivial⟩⟩⟩
  by_cases c1 : s 82 r - N 7 t < 0
  · rw [if_pos c1]
    exact ⟨fun _ q => by omega, fun _ => rfl⟩
  · rw [if_neg c1]
    by_cases c2 : N 8 t = 0
    · rw [if_pos c2]
      exact ⟨fun q => absurd q (by decide), fun q => absurd (by omega) q⟩
    · rw [if_neg c2]
      by_cases c3 : N 8 t = 1
      · rw [if_pos c3]
        by_cases c4 : 1 < s 82 r - N 7 t
        · rw [if_pos c4]
          exact ⟨fun _ q => by omega, fun _ => rfl⟩
        · rw [if_neg c4]
          exact ⟨fun q => absurd q (by decide), fun q => absurd (by omega) q⟩
      · rw [if_neg c3]
        by_cases c4 : 3 < s 82 r - N 7 t
        · rw [if_pos c4]
          exact ⟨fun _ q => by omega, fun _ => rfl⟩
        · rw [if_neg c4]
          exact ⟨fun q => absurd q (by decide), fun q => absurd (by omega) q⟩
def DMf (a _b : Nat) : Prop := a = 80 ∨ a = 85 ∨ a = 86
theorem Same_fl {s t : Sto} (h : Same DMf s t) : Same DMl s t := h.mono (fun a b q => by unfold DMl; unfold DMf at q; omega)
theorem PlM_fall {N σ s u : Sto} {r j : Nat} {k : Nat} (h : PlM N σ s) (hu : u = up (up (up s 85 j (r : Int)) 86 j (k : Int)) 80 r 2) : PlM N (up (up (up σ 5 j (r : Int)) 6 j (k : Int)) 1 r 2) u ∧ Same DMf s u := by
  have hS17 : ∀ a b, ¬ ((a = 85 ∨ a = 86) ∧ b = j) → ¬ (a = 80 ∧ b = r) → u a b = s a b := fun a b q1 q2 => by rw [hu, up_c2 q2, up_c2 (by omega), up_c2 (by omega)]
  have hτ : ∀ a b, ¬ ((a = 5 ∨ a = 6) ∧ b = j) → ¬ (a = 1 ∧ b = r) → up (up (up σ 5 j (r : Int)) 6 j (k : Int)) 1 r 2 a b = σ a b := fun a b q1 q2 => by
    rw [up_c2 (by omega), up_c2 (by omega), up_c2 (by omega)]
  refine ⟨⟨fun x hx => ?_, fun x hx => ?_, ?_, ?_⟩, fun a b q => hS17 a b (by unfold DMf at q; omega) (by unfold DMf at q; omega)⟩
  · obtain ⟨w1, w2, w3, w4⟩ := h.1 x hx
    rw [hS17 81 x (by omega) (by omega), hS17 82 x (by omega) (by omega), hS17 83 x (by omega) (by omega), hτ 2 x (by omega) (by omega), hτ 3 x (by omega) (by omega), hτ 4 x (by omega) (by omega)]
    refine ⟨?_, w2, w3, w4⟩
    by_cases e : x = r
    · rw [e, up_at, hu, up_at]
    · rw [hS17 80 x (by omega) (by omega), hτ 1 x (by omega) (by omega)]
      exact w1
  · obtain ⟨w1, w2⟩ := h.2.1 x hx
    by_cases e : x = j
    · subst e
      refine ⟨?_, ?_⟩
      · rw [hu, up_c (by decide), up_c (by decide), up_at, up_c (by decide), up_c (by decide), up_at]
      · rw [hu, up_c (by decide), up_at, up_c (by decide), up_at]
    · rw [hS17 _ _ (by omega) (by omega), hS17 _ _ (by omega) (by omega), hτ 5 x (by omega) (by omega), hτ 6 x (by omega) (by omega)]
      exact ⟨w1, w2⟩
  · rw [hS17 _ _ (by omega) (by omega), hτ _ _ (by omega) (by omega)]; exact h.2.2.1
  · rw [hS17 _ _ (by omega) (by omega), hτ _ _ (by omega) (by omega)]; exact h.2.2.2
theorem ix3 {j : Nat} (h : j ≤ 8) : w32 (3 * (j : Int)) = 3 * (j : Int) ∧ (3 * (j : Int)).toNat = 3 * j ∧ w32 ((j : Int) + 1) = ((j + 1 : Nat) : Int) ∧ (j < 8 → inb (j : Int) 8 ∧ inb (3 * (j : Int)) 24) := by
  refine ⟨w32_of (by omega) (by omega), by omega, ?_, fun q => ⟨⟨by omega, by omega⟩, ⟨by omega, by omega⟩⟩⟩
  rw [w32_of (by omega) (by omega)]
  omega
theorem mu9 {j : Nat} (h : j ≤ 8) : (9 - ((j + 1 : Nat) : Int)).toNat < (9 - (j : Int)).toNat := by omega
theorem T_mfalls {N σ s : Sto} {r k : Nat} {Q : Int → Sto → Prop} (hN : NOk N) (hC : NtM N s) (hr : (r : Int) < N 0 0) (hI : Inv N (k + 1) σ) (hP : PlM N σ s) (h : ∀ t, PlM N (fl1 N k r σ (nT N)) t → Same DMf s t → Q 0 t) : P_X12_falls (r : Int) (k : Int) s Q := by
  have hT8 : nT N ≤ 8 := by have := hN.2.1; unfold nT; omega
  have hr8 : r < 8 := by have := hN.1; omega
  have hlt : ∀ j : Nat, j ≤ nT N → ¬ N 0 6 ≤ (j : Int) → j < 8 ∧ (j : Int) < N 0 6 ∧ j + 1 ≤ nT N := fun j q1 q2 => by have := hN.2.1; unfold nT at *; omega
  have hge : ∀ j : Nat, j ≤ nT N → N 0 6 ≤ (j : Int) → j = nT N := fun j q1 q2 => by have := hN.2.1; unfold nT at *; omega
  have hin : inb (r : Int) 8 := ⟨by omega, by omega⟩
  unfold P_X12_falls
  refine lp2 (L_X12_falls_2 (r : Int) (k : Int) _) (fun y u => ∃ j : Nat, y = (j : Int) ∧ j ≤ nT N ∧ PlM N (fl1 N k r σ j) u ∧ Same DMf s u) (fun y _ => (9 - y).toNat) ?_ 0 s ⟨0, rfl, Nat.zero_le _, hP, Same.rfl'⟩
  intro m y u ⟨j, hy, hj, hPu, hSu⟩ ih
  subst hy
  have hCu := NtM_cg hC (Same_fl hSu)
  have hIj := Inv_fl1 (m := k) hr hI j
  obtain ⟨e3, e3', hwj, hins⟩ := ix3 (Nat.le_trans hj hT8)
  have hmu := mu9 (Nat.le_trans hj hT8)
  have hl1 := hlt j hj
  have hg1 := hge j hj
  unfold L_X12_falls_2
  rw [hCu.2.1, Int.toNat_natCast, hwj, e3, e3', Int.toNat_natCast]
  obtain ⟨a1, a2, a3, a4⟩ := hPu.1 r hr
  refine ⟨fun c1 => ?_, fun c1 => ⟨hin, fun c2 => ?_, fun c2 => ?_⟩⟩
  · have q := hg1 c1
    subst q
    exact h u hPu hSu
  · obtain ⟨hj8, htt, hjn⟩ := hl1 c1
    obtain ⟨hinj, hin24⟩ := hins hj8
    obtain ⟨b5, b6⟩ := hPu.2.1 j htt
    have e6 : u 77 (3 * j) = N 6 j := (hCu.2.2.2.2.2.1 j htt).1
    have e1 : fl1 N k r σ j 1 r = 1 := a1.symm.trans c2
    have hwid := wid_rng hN (hIj.1 r hr) e1
    rw [← a3] at hwid
    obtain ⟨f1, f2⟩ := mfits_v hN hCu hr8 htt hwid
    rw [e6]
    have hno : ¬ (fl1 N k r σ j 1 r = 1 ∧ N 6 j = fl1 N k r σ j 2 r ∧ fl1 N k r σ j 5 j = -1 ∧ fit (fl1 N k r σ j 3 r) (N 7 j) (N 8 j)) → L_X12_falls_2 (r : Int) (k : Int) (fun s1 => Q 0 s1) m ((j + 1 : Nat) : Int) u := by
      intro q
      refine ih _ _ ⟨j + 1, rfl, hjn, ?_, hSu⟩ hmu
      show PlM N (ft N k r j (fl1 N k r σ j)) u
      unfold ft
      rw [if_neg q]
      exact hPu
    refine ⟨hin24, hin, fun c3 => ⟨hinj, fun c4 => ⟨f2, fun c5 => hno (fun q => ?_), fun c5 => ⟨hinj, fun s13 e13 => ⟨hinj, fun s15 e15 => ⟨hin, fun s17 e17 => ?_⟩⟩⟩⟩, fun c4 => hno (fun q => c4 (b5.trans q.2.2.1))⟩, fun c3 => hno (fun q => c3 (q.2.1.trans a2.symm))⟩
    · exact f1.mp c5 (by rw [a3]; exact q.2.2.2)
    · obtain ⟨g1, g2⟩ := PlM_fall (k := k) (u := s17) (r := r) (j := j) hPu (by rw [e17, e15, e13])
      refine ih _ _ ⟨j + 1, rfl, hjn, ?_, hSu.trans g2⟩ hmu
      show PlM N (ft N k r j (fl1 N k r σ j)) s17
      unfold ft
      rw [if_pos ⟨e1, c3.trans a2, b5.symm.trans c4, by
        have q := Decidable.not_not.mp (fun w => c5 (f1.mpr w))
        rw [a3] at q
        exact q⟩]
      exact g1
  · refine h u ?_ hSu
    have := fl1_stop (N := N) (σ := σ) (k := k) (r := r) (t := j) (fun w => c2 (a1.trans w)) (nT N - j)
    rw [show j + (nT N - j) = nT N from Nat.add_sub_cancel' hj] at this
    rw [this]
    exact hPu
def KpR (N σ : Sto) (k : Nat) (s : Sto) (r : Nat) : Prop := s 84 (32 * k + 4 * r) = σ 1 r ∧ s 84 (32 * k + 4 * r + 1) = σ 2 r ∧ s 84 (32 * k + 4 * r + 2) = σ 3 r ∧ s 84 (32 * k + 4 * r + 3) = σ 4 r
def DKp (k a b : Nat) : Prop := a = 84 ∧ 32 * k ≤ b ∧ b < 32 * k + 32
theorem T_mkeeps {N σ s : Sto} {k : Nat} {Q : Int → Sto → Prop} (hN : NOk N) (hC : NtM N s) (hk : k < 20) (hP : PlM N σ s) (h : ∀ t, PlM N σ t → (∀ r : Nat, (r : Int) < N 0 0 → KpR N σ k t r) → Same (DKp k) s t → Q 0 t) : P_X12_keeps (k : Int) s Q := by
  have hR := hN.1
  have hnR : (nR N : Int) = N 0 0 := by unfold nR; omega
  unfold P_X12_keeps
  refine lp2 (L_X12_keeps_2 (k : Int) _) (fun y u => ∃ i : Nat, y = (i : Int) ∧ i ≤ nR N ∧ (∀ r, r < i → KpR N σ k u r) ∧ Same (DKp k) s u) (fun y _ => (9 - y).toNat) ?_ 0 s ⟨0, rfl, by omega, fun r q => absurd q (Nat.not_lt_zero r), Same.rfl'⟩
  intro m y u ⟨i, hy, hi, hkp, hSu⟩ ih
  subst hy
  have e : ∀ a b, a ≠ 84 → u a b = s a b := fun a b q => hSu a b (fun w => q w.1)
  have hPu : PlM N σ u := by
    obtain ⟨h1, h2, h3, h4⟩ := hP
    refine ⟨fun r hr => ?_, fun x hx => ?_, ?_, ?_⟩
    · rw [e _ _ (by decide), e _ _ (by decide), e _ _ (by decide), e _ _ (by decide)]; exact h1 r hr
    · rw [e _ _ (by decide), e _ _ (by decide)]; exact h2 x hx
    · rw [e _ _ (by decide)]; exact h3
    · rw [e _ _ (by decide)]; exact h4
  unfold L_X12_keeps_2
  rw [e 69 14 (by decide), hC.1]
  refine ⟨fun c => ?_, fun c => ?_⟩
  · exact h u hPu (fun r hr => hkp r (by omega)) hSu
  · have hr : (i : Int) < N 0 0 := by omega
    have hin : inb (i : Int) 8 := ⟨by omega, by omega⟩
    have hw : w32 ((i : Int) + 1) = ((i + 1 : Nat) : Int) := by rw [w32_of (by omega) (by omega)]; omega
    have f0 : w32 (w32 (32 * (k : Int)) + w32 (4 * (i : Int))) = 32 * (k : Int) + 4 * (i : Int) := by rw [w32_of (z := 32 * (k : Int)) (by omega) (by omega), w32_of (z := 4 * (i : Int)) (by omega) (by omega), w32_of (by omega) (by omega)]
    have f1 : w32 (32 * (k : Int) + 4 * (i : Int) + 1) = 32 * (k : Int) + 4 * (i : Int) + 1 := w32_of (by omega) (by omega)
    have f2 : w32 (32 * (k : Int) + 4 * (i : Int) + 2) = 32 * (k : Int) + 4 * (i : Int) + 2 := w32_of (by omega) (by omega)
    have f3 : w32 (32 * (k : Int) + 4 * (i : Int) + 3) = 32 * (k : Int) + 4 * (i : Int) + 3 := w32_of (by omega) (by omega)
    have g0 : (32 * (k : Int) + 4 * (i : Int)).toNat = 32 * k + 4 * i := by omega
    have g1 : (32 * (k : Int) + 4 * (i : Int) + 1).toNat = 32 * k + 4 * i + 1 := by omega
    have g2 : (32 * (k : Int) + 4 * (i : Int) + 2).toNat = 32 * k + 4 * i + 2 := by omega
    have g3 : (32 * (k : Int) + 4 * (i : Int) + 3).toNat = 32 * k + 4 * i + 3 := by omega
    rw [f0, f1, f2, f3, g0, g1, g2, g3, Int.toNat_natCast, hw]
    refine ⟨hin, ⟨by omega, by omega⟩, fun s4 e4 => ⟨hin, ⟨by omega, by omega⟩, fun s7 e7 => ⟨hin, ⟨by omega, by omega⟩, fun s10 e10 => ⟨hin, ⟨by omega, by omega⟩, fun s13 e13 => ?_⟩⟩⟩⟩
    obtain ⟨a1, a2, a3, a4⟩ := hPu.1 i hr
    have h4 : ∀ b, s4 81 b = u 81 b := fun b => by rw [e4, up_c (by decide)]
    have h7 : ∀ b, s7 82 b = u 82 b := fun b => by rw [e7, up_c (by decide), e4, up_c (by decide)]
    have h10 : ∀ b, s10 83 b = u 83 b := fun b => by rw [e10, up_c (by decide), e7, up_c (by decide), e4, up_c (by decide)]
    rw [h4] at e7
    rw [h7] at e10
    rw [h10] at e13
    have hS : ∀ a b, ¬ (a = 84 ∧ 32 * k + 4 * i ≤ b ∧ b < 32 * k + 4 * i + 4) → s13 a b = u a b := fun a b q => by
      rw [e13, up_c2 (by omega), e10, up_c2 (by omega), e7, up_c2 (by omega), e4, up_c2 (by omega)]
    refine ih _ _ ⟨i + 1, rfl, by omega, fun r hr2 => ?_, hSu.trans (fun a b q => hS a b (by unfold DKp at q; omega))⟩ (by omega)
    by_cases q : r = i
    · rw [q]
      refine ⟨?_, ?_, ?_, ?_⟩
      · rw [e13, up_j (by omega), e10, up_j (by omega), e7, up_j (by omega), e4, up_at]; exact a1
      · rw [e13, up_j (by omega), e10, up_j (by omega), e7, up_at]; exact a2
      · rw [e13, up_j (by omega), e10, up_at]; exact a3
      · rw [e13, up_at]; exact a4
    · obtain ⟨w1, w2, w3, w4⟩ := hkp r (by omega)
      unfold KpR
      rw [hS _ _ (by omega), hS _ _ (by omega), hS _ _ (by omega), hS _ _ (by omega)]
      exact ⟨w1, w2, w3, w4⟩
