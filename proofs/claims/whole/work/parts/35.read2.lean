/-! ===== read: rings out of a sheet ===== -/
/-- the c-th ring of a sheet of z items may be told behind n0 others -/
def rdOk (it : Nat → Int) (z : Int) (n0 c : Nat) : Prop := 5 * (c : Int) + 5 ≤ z ∧ n0 + c < 8 ∧ legal (it (5 * c)) (it (5 * c + 1)) (it (5 * c + 2)) (it (5 * c + 3)) (it (5 * c + 4))
theorem rdOk_one {it : Nat → Int} {z : Int} {n0 c d : Nat} (hc : ∀ j, j < c → rdOk it z n0 j) (hc2 : ¬ rdOk it z n0 c) (hd : ∀ j, j < d → rdOk it z n0 j) (hd2 : ¬ rdOk it z n0 d) : c = d := by
  rcases Nat.lt_trichotomy c d with h | h | h
  · exact absurd (hd c h) hc2
  · exact h
  · exact absurd (hc d h) hd2
theorem T_cread {o n0 : Nat} {s : Sto} {K1 K2 : Int → Sto → Prop} (ho : 11 < o) (hz : 0 ≤ s o 1 ∧ s o 1 ≤ 60) (h0 : s 6 0 = n0) (h8 : n0 ≤ 8)
    (h : ∀ (c : Nat) (t : Sto), (∀ j, j < c → rdOk (s (o + 1)) (s o 1) n0 j) → ¬ rdOk (s (o + 1)) (s o 1) n0 c → t 6 0 = (n0 : Int) + c → (∀ j, j < c → t 7 (n0 + j) = s (o + 1) (5 * j) ∧ t 8 (n0 + j) = s (o + 1) (5 * j + 1) ∧ t 9 (n0 + j) = s (o + 1) (5 * j + 2) ∧ t 10 (n0 + j) = s (o + 1) (5 * j + 3) ∧ t 11 (n0 + j) = s (o + 1) (5 * j + 4)) → Same (fun a b => (a = 6 ∧ b = 0) ∨ (7 ≤ a ∧ a ≤ 11 ∧ n0 ≤ b)) s t → K1 c t ∧ K2 c t) : ∃ m, L_X11_read_37 o K1 K2 m 0 0 s := by
  refine lp3 (L_X11_read_37 o K1 K2) (fun x y t => ∃ c : Nat, x = c ∧ y = 5 * (c : Int) ∧ n0 + c ≤ 8 ∧ (∀ j, j < c → rdOk (s (o + 1)) (s o 1) n0 j) ∧ t 6 0 = (n0 : Int) + c ∧ (∀ j, j < c → t 7 (n0 + j) = s (o + 1) (5 * j) ∧ t 8 (n0 + j) = s (o + 1) (5 * j + 1) ∧ t 9 (n0 + j) = s (o + 1) (5 * j + 2) ∧ t 10 (n0 + j) = s (o + 1) (5 * j + 3) ∧ t 11 (n0 + j) = s (o + 1) (5 * j + 4)) ∧ Same (fun a b => (a = 6 ∧ b = 0) ∨ (7 ≤ a ∧ a ≤ 11 ∧ n0 ≤ b)) s t) (fun x _ _ => (9 - x).toNat) ?_ 0 0 s ⟨0, rfl, rfl, by omega, fun j hj => absurd hj (Nat.not_lt_zero j), by rw [h0]; omega, fun j hj => absurd hj (Nat.not_lt_zero j), Same.rfl'⟩
  rintro m x y t ⟨c, rfl, rfl, i1, i2, i3, i4, i5⟩ ih
  have e1 : t o 1 = s o 1 := i5 o 1 (by omega)
  have eI : ∀ b, t (o + 1) b = s (o + 1) b := fun b => i5 (o + 1) b (by omega)
  unfold L_X11_read_37
  rw [e1, w32_of (z := 5 * (c : Int) + 5) (by omega) (by omega)]
  refine ⟨fun q => ?_, fun q => ⟨fun q2 => ?_, fun q2 => ?_⟩⟩
  · exact (h c t i2 (fun w => by unfold rdOk at w; omega) i3 i4 i5).2
  · exact (h c t i2 (fun w => by unfold rdOk at w; omega) i3 i4 i5).2
  · rw [w32_of (z := 5 * (c : Int) + 1) (by omega) (by omega), w32_of (z := 5 * (c : Int) + 2) (by omega) (by omega), w32_of (z := 5 * (c : Int) + 3) (by omega) (by omega), w32_of (z := 5 * (c : Int) + 4) (by omega) (by omega)]
    have hit : ∀ d : Nat, d < 5 → F_X7_item o (5 * (c : Int) + d) t = s (o + 1) (5 * c + d) ∧ O_X7_item o (5 * (c : Int) + d) t := by
      intro d hd
      have hh : ¬ F_X7_hasItem o (5 * (c : Int) + d) t = 0 := by
        unfold F_X7_hasItem
        rw [if_neg (by omega), e1, if_neg (by omega)]
        decide
      have hd2 : (5 * (c : Int) + d).toNat = 5 * c + d := by omega
      constructor
      · unfold F_X7_item
        rw [if_neg hh, hd2, eI]
      · unfold O_X7_item
        exact ⟨fun w => absurd w hh, fun _ => ⟨⟨by omega, by omega⟩, trivial⟩⟩
    have t0 := hit 0 (by omega)
    have t1 := hit 1 (by omega)
    have t2 := hit 2 (by omega)
    have t3 := hit 3 (by omega)
    have t4 := hit 4 (by omega)
    simp only [Int.ofNat_zero, Int.natCast_zero, Int.add_zero, Nat.add_zero, Int.natCast_one] at t0 t1
    refine ⟨t0.2, fun x4 e4 => ⟨t1.2, fun x6 e6 => ⟨t2.2, fun x8 e8 => ⟨t3.2, fun x10 e10 => ⟨t4.2, fun x12 e12 => ?_⟩⟩⟩⟩⟩
    rw [t0.1] at e4
    rw [t1.1] at e6
    rw [show F_X7_item o (5 * (c : Int) + 2) t = s (o + 1) (5 * c + 2) from t2.1] at e8
    rw [show F_X7_item o (5 * (c : Int) + 3) t = s (o + 1) (5 * c + 3) from t3.1] at e10
    rw [show F_X7_item o (5 * (c : Int) + 4) t = s (o + 1) (5 * c + 4) from t4.1] at e12
    refine ⟨fun w => ?_, fun w => ?_⟩
    · refine (h c t i2 (fun w2 => ?_) i3 i4 i5).1
      rw [mayBlow_0, e4, e6, e8, e10, e12] at w
      exact w w2.2.2
    · have hl := Classical.not_not.mp (mt mayBlow_0.mpr w)
      have hnc : n0 + c < 8 := by omega
      obtain ⟨a1, a2⟩ := addRing_s (o := 6) (n := n0 + c) (a := x4) (b := x6) (c := x8) (d := x10) (e := x12) (s := t) (by rw [i3]; omega) hnc
      refine ⟨a2, fun s16 e16 => ?_⟩
      rw [a1] at e16
      rw [w32_of (by omega) (by omega)]
      have eA : ∀ a b, a ≠ 6 → ¬ (7 ≤ a ∧ a ≤ 11 ∧ b = n0 + c) → s16 a b = t a b := fun a b q1 q3 => by
        rw [e16, up_c q1, up_c2 (by omega), up_c2 (by omega), up_c2 (by omega), up_c2 (by omega), up_c2 (by omega)]
      refine ih _ _ _ ⟨c + 1, by omega, by omega, by omega, fun j hj => ?_, ?_, fun j hj => ?_, ?_⟩ (by omega)
      · by_cases ej : j = c
        · subst ej
          refine ⟨by omega, hnc, ?_⟩
          rw [← e4, ← e6, ← e8, ← e10, ← e12]
          exact hl
        · exact i2 j (by omega)
      · rw [e16, up_at]; omega
      · by_cases ej : j = c
        · subst ej
          rw [e16]
          refine ⟨?_, ?_, ?_, ?_, ?_⟩
          · rw [up_c (by omega), up_c (by omega), up_c (by omega), up_c (by omega), up_c (by omega), up_at, e4]
          · rw [up_c (by omega), up_c (by omega), up_c (by omega), up_c (by omega), up_at, e6]
          · rw [up_c (by omega), up_c (by omega), up_c (by omega), up_at, e8]
          · rw [up_c (by omega), up_c (by omega), up_at, e10]
          · rw [up_c (by omega), up_at, e12]
        · rw [eA _ _ (by omega) (by omega), eA _ _ (by omega) (by omega), eA _ _ (by omega) (by omega), eA _ _ (by omega) (by omega), eA _ _ (by omega) (by omega)]
          exact i4 j (by omega)
      · intro a b hd
        rw [← i5 a b hd]
        by_cases e6' : a = 6
        · subst e6'
          rw [e16, up_c2 (by omega), up_c (by omega), up_c (by omega), up_c (by omega), up_c (by omega), up_c (by omega)]
        · exact eA a b e6' (by omega)
theorem blow_m {a b c d e : Int} {t : Sto} {n : Nat} (hn : t 69 14 = n) (h8 : n ≤ 8) : (legal a b c d e → n < 8 → F_X12_blow a b c d e t = (n : Int) + 1 ∧ S_X12_blow a b c d e t = up (up (up (up (up (up t 79 (5 * n) a) 79 (5 * n + 1) b) 79 (5 * n + 2) c) 79 (5 * n + 3) d) 79 (5 * n + 4) e) 69 14 ((n : Int) + 1)) ∧ (¬ (legal a b c d e ∧ n < 8) → F_X12_blow a b c d e t < 0 ∧ S_X12_blow a b c d e t = t) ∧ O_X12_blow a b c d e t := by
  have hO : n < 8 → O_X12_puts a b c d e t := fun q => (puts_s hn q).2
  refine ⟨fun hl hn8 => ?_, fun hl => ?_, ?_⟩
  · obtain ⟨l1, l2, l3, l4, l5⟩ := hl
    unfold F_X12_blow S_X12_blow
    rw [if_neg (fun q => absurd l1 (isStep_0.mp q)), if_neg (fun q => absurd l2 (in_0.mp q)), if_neg (fun q => absurd l3 (in_0.mp q)), if_neg (fun q => absurd l4 (in_0.mp q)), if_neg (fun q => absurd l5 (in_0.mp q)), if_neg (fun q => absurd l1 (isStep_0.mp q)), if_neg (fun q => absurd l2 (in_0.mp q)), if_neg (fun q => absurd l3 (in_0.mp q)), if_neg (fun q => absurd l4 (in_0.mp q)), if_neg (fun q => absurd l5 (in_0.mp q)), if_neg (by omega), if_neg (by omega), (puts_s hn hn8).1]
    exact ⟨up_at, rfl⟩
  · unfold F_X12_blow S_X12_blow
    split
    · exact ⟨by decide, rfl⟩
    · split
      · exact ⟨by decide, rfl⟩
      · split
        · exact ⟨by decide, rfl⟩
        · split
          · exact ⟨by decide, rfl⟩
          · split
            · exact ⟨by decide, rfl⟩
            · next g1 g2 g3 g4 g5 =>
              have hleg : legal a b c d e := ⟨Decidable.not_not.mp (mt isStep_0.mpr g1), Decidable.not_not.mp (mt in_0.mpr g2), Decidable.not_not.mp (mt in_0.mpr g3), Decidable.not_not.mp (mt in_0.mpr g4), Decidable.not_not.mp (mt in_0.mpr g5)⟩
              have hn8 : ¬ n < 8 := fun q => hl ⟨hleg, q⟩
              rw [if_pos (by omega), if_pos (by omega)]
              exact ⟨by decide, rfl⟩
  · unfold O_X12_blow
    exact ⟨fun _ => trivial, fun _ => ⟨fun _ => trivial, fun _ => ⟨fun _ => trivial, fun _ => ⟨fun _ => trivial, fun _ => ⟨fun _ => trivial, fun _ => ⟨fun _ => trivial, fun q => ⟨hO (by omega), trivial⟩⟩⟩⟩⟩⟩⟩
theorem T_mread {k n0 : Nat} {s : Sto} {K : Int → Sto → Prop} (hk : k < 4) (hz : 0 ≤ s 71 k ∧ s 71 k ≤ 60) (h0 : s 69 14 = n0) (h8 : n0 ≤ 8)
    (h : ∀ (c : Nat) (t : Sto), (∀ j, j < c → rdOk (fun j => s 72 (60 * k + j)) (s 71 k) n0 j) → ¬ rdOk (fun j => s 72 (60 * k + j)) (s 71 k) n0 c → t 69 14 = (n0 : Int) + c → (∀ j, j < c → ∀ q, q < 5 → t 79 (5 * (n0 + j) + q) = s 72 (60 * k + (5 * j + q))) → Same (fun a b => (a = 69 ∧ b = 14) ∨ (a = 79 ∧ 5 * n0 ≤ b)) s t → K c t) : ∃ m, L_X12_read_29 (k : Int) K m 0 1 s := by
  refine lp3 (L_X12_read_29 (k : Int) K) (fun x y t => ∃ c : Nat, x = c ∧ (y = 1 ∨ (y = 0 ∧ ¬ rdOk (fun j => s 72 (60 * k + j)) (s 71 k) n0 c)) ∧ n0 + c ≤ 8 ∧ (∀ j, j < c → rdOk (fun j => s 72 (60 * k + j)) (s 71 k) n0 j) ∧ t 69 14 = (n0 : Int) + c ∧ (∀ j, j < c → ∀ q, q < 5 → t 79 (5 * (n0 + j) + q) = s 72 (60 * k + (5 * j + q))) ∧ Same (fun a b => (a = 69 ∧ b = 14) ∨ (a = 79 ∧ 5 * n0 ≤ b)) s t) (fun x y _ => (2 * (9 - x) + y).toNat) ?_ 0 1 s ⟨0, rfl, Or.inl rfl, by omega, fun j hj => absurd hj (Nat.not_lt_zero j), by rw [h0]; omega, fun j hj => absurd hj (Nat.not_lt_zero j), Same.rfl'⟩
  rintro m x y t ⟨c, rfl, i0, i1, i2, i3, i4, i5⟩ ih
  have e71 : t 71 k = s 71 k := i5 _ _ (by omega)
  have e72 : ∀ b, t 72 b = s 72 b := fun b => i5 _ _ (by omega)
  unfold L_X12_read_29
  rw [Int.toNat_natCast, e71, w32_of (z := 5 * (c : Int)) (by omega) (by omega), w32_of (z := 5 * (c : Int) + 5) (by omega) (by omega)]
  refine ⟨fun q => ?_, fun q => ⟨⟨by omega, by omega⟩, fun q2 => ?_, fun q2 x4 e4 => ?_⟩⟩
  · have hs : ¬ rdOk (fun j => s 72 (60 * k + j)) (s 71 k) n0 c := by
      rcases i0 with w | w
      · omega
      · exact w.2
    exact h c t i2 hs i3 i4 i5
  · exact h c t i2 (fun w => by unfold rdOk at w; omega) i3 i4 i5
  · have y1 : y = 1 := by
      rcases i0 with w | w
      · exact w
      · exact absurd w.1 q
    rw [w32_of (z := 60 * (k : Int)) (by omega) (by omega), w32_of (by omega) (by omega)] at e4
    subst e4
    rw [w32_of (z := 60 * (k : Int) + 5 * (c : Int) + 1) (by omega) (by omega), w32_of (z := 60 * (k : Int) + 5 * (c : Int) + 2) (by omega) (by omega), w32_of (z := 60 * (k : Int) + 5 * (c : Int) + 3) (by omega) (by omega), w32_of (z := 60 * (k : Int) + 5 * (c : Int) + 4) (by omega) (by omega)]
    have f0 : (60 * (k : Int) + 5 * (c : Int)).toNat = 60 * k + 5 * c := by omega
    have f1 : (60 * (k : Int) + 5 * (c : Int) + 1).toNat = 60 * k + (5 * c + 1) := by omega
    have f2 : (60 * (k : Int) + 5 * (c : Int) + 2).toNat = 60 * k + (5 * c + 2) := by omega
    have f3 : (60 * (k : Int) + 5 * (c : Int) + 3).toNat = 60 * k + (5 * c + 3) := by omega
    have f4 : (60 * (k : Int) + 5 * (c : Int) + 4).toNat = 60 * k + (5 * c + 4) := by omega
    rw [f0, f1, f2, f3, f4]
    simp only [e72]
    obtain ⟨b1, b2, b3⟩ := blow_m (a := s 72 (60 * k + 5 * c)) (b := s 72 (60 * k + (5 * c + 1))) (c := s 72 (60 * k + (5 * c + 2))) (d := s 72 (60 * k + (5 * c + 3))) (e := s 72 (60 * k + (5 * c + 4))) (t := t) (n := n0 + c) (by rw [i3]; omega) i1
    refine ⟨⟨by omega, by omega⟩, ⟨by omega, by omega⟩, ⟨by omega, by omega⟩, ⟨by omega, by omega⟩, ⟨by omega, by omega⟩, b3, fun s11 e11 x12 e12 x14 e14 x16 e16 => ?_⟩
    by_cases g : legal (s 72 (60 * k + 5 * c)) (s 72 (60 * k + (5 * c + 1))) (s 72 (60 * k + (5 * c + 2))) (s 72 (60 * k + (5 * c + 3))) (s 72 (60 * k + (5 * c + 4))) ∧ n0 + c < 8
    · obtain ⟨d1, d2⟩ := b1 g.1 g.2
      rw [d1, if_neg (by omega)] at e12
      rw [e12, if_neg (by decide)] at e14
      rw [e14, w32_of (by omega) (by omega)] at e16
      rw [d2] at e11
      have eA : ∀ a b, ¬ (a = 69 ∧ b = 14) → ¬ (a = 79 ∧ 5 * (n0 + c) ≤ b) → s11 a b = t a b := fun a b w1 w2 => by
        rw [e11, up_c2 w1, up_c2 (by omega), up_c2 (by omega), up_c2 (by omega), up_c2 (by omega), up_c2 (by omega)]
      refine ih _ _ _ ⟨c + 1, by omega, Or.inl e12, by omega, fun j hj => ?_, ?_, fun j hj q hq => ?_, fun a b hd => ?_⟩ (by omega)
      · by_cases ej : j = c
        · subst ej
          exact ⟨by omega, g.2, g.1⟩
        · exact i2 j (by omega)
      · rw [e11, up_at]; omega
      · by_cases ej : j = c
        · subst ej
          rw [e11, up_c (by omega)]
          have hq5 : q = 0 ∨ q = 1 ∨ q = 2 ∨ q = 3 ∨ q = 4 := by omega
          rcases hq5 with rfl | rfl | rfl | rfl | rfl
          · rw [up_j (by omega), up_j (by omega), up_j (by omega), up_j (by omega), Nat.add_zero, up_at]; rfl
          · rw [up_j (by omega), up_j (by omega), up_j (by omega), up_at]
          · rw [up_j (by omega), up_j (by omega), up_at]
          · rw [up_j (by omega), up_at]
          · rw [up_at]
        · rw [eA _ _ (by omega) (by omega)]
          exact i4 j (by omega) q hq
      · rw [← i5 a b hd]
        exact eA a b (by omega) (by omega)
    · obtain ⟨d1, d2⟩ := b2 g
      rw [if_pos d1] at e12
      rw [e12, if_pos rfl] at e14
      rw [e14, w32_of (by omega) (by omega)] at e16
      rw [d2] at e11
      subst e11
      refine ih _ _ _ ⟨c, by omega, Or.inr ⟨e12, fun w => g ⟨w.2.2, w.2.1⟩⟩, i1, i2, i3, i4, i5⟩ (by omega)
