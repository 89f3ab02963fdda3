theorem up_c2 {s : Sto} {c j a b : Nat} {z : Int} (h : ¬ (a = c ∧ b = j)) : up s c j z a b = s a b := by unfold up; rw [if_neg h]
/-! ===== rings told: blow, ring, back, widens; sights: seen, forget ===== -/
def RR1 (s : Sto) (r : Nat) : Prop := (s 7 r = s 79 (5 * r) ∧ s 8 r = s 79 (5 * r + 1) ∧ s 9 r = s 79 (5 * r + 2) ∧ s 10 r = s 79 (5 * r + 3) ∧ s 11 r = s 79 (5 * r + 4)) ∧ (0 ≤ s 79 (5 * r) ∧ s 79 (5 * r) ≤ 19) ∧ (0 ≤ s 79 (5 * r + 1) ∧ s 79 (5 * r + 1) ≤ 35) ∧ (0 ≤ s 79 (5 * r + 2) ∧ s 79 (5 * r + 2) ≤ 3) ∧ (1 ≤ s 79 (5 * r + 3) ∧ s 79 (5 * r + 3) ≤ 9) ∧ (0 ≤ s 79 (5 * r + 4) ∧ s 79 (5 * r + 4) ≤ 3)
def RRg (s : Sto) : Prop := s 6 0 = s 69 14 ∧ (0 ≤ s 69 14 ∧ s 69 14 ≤ 8) ∧ ∀ r : Nat, (r : Int) < s 69 14 → RR1 s r
def DRg (a b : Nat) : Prop := (a = 6 ∧ b = 0) ∨ (7 ≤ a ∧ a ≤ 11) ∨ (a = 69 ∧ b = 14) ∨ a = 79 ∨ (a = 0 ∧ b = 12)
def legal (a b c d e : Int) : Prop := (0 ≤ a ∧ a ≤ 19) ∧ (0 ≤ b ∧ b ≤ 35) ∧ (0 ≤ c ∧ c ≤ 3) ∧ (1 ≤ d ∧ d ≤ 9) ∧ (0 ≤ e ∧ e ≤ 3)
theorem mayBlow_0 {a b c d e : Int} {s : Sto} : F_X11_mayBlow a b c d e s = 0 ↔ ¬ legal a b c d e := by
  unfold F_X11_mayBlow legal
  simp only [within_0]
  split
  · exact ⟨fun _ q => by omega, fun _ => rfl⟩
  · split
    · exact ⟨fun _ q => by omega, fun _ => rfl⟩
    · split
      · exact ⟨fun _ q => by omega, fun _ => rfl⟩
      · split
        · exact ⟨fun _ q => by omega, fun _ => rfl⟩
        · split
          · exact ⟨fun _ q => by omega, fun _ => rfl⟩
          · exact ⟨fun q => by omega, fun q => absurd (by omega) q⟩
theorem addRing_s {o n : Nat} {a b c d e : Int} {s : Sto} (hn : s o 0 = n) (h : n < 8) : S_X4_addRing o a b c d e s = up (up (up (up (up (up s (o + 1) n a) (o + 2) n b) (o + 3) n c) (o + 4) n d) (o + 5) n e) o 0 ((n : Int) + 1) ∧ O_X4_addRing o a b c d e s := by
  have e1 : ∀ (t : Sto) (j : Nat) (z : Int), up t (o + 1) j z o 0 = t o 0 := fun t j z => up_c (by omega)
  have e2 : ∀ (t : Sto) (j : Nat) (z : Int), up t (o + 2) j z o 0 = t o 0 := fun t j z => up_c (by omega)
  have e3 : ∀ (t : Sto) (j : Nat) (z : Int), up t (o + 3) j z o 0 = t o 0 := fun t j z => up_c (by omega)
  have e4 : ∀ (t : Sto) (j : Nat) (z : Int), up t (o + 4) j z o 0 = t o 0 := fun t j z => up_c (by omega)
  have e5 : ∀ (t : Sto) (j : Nat) (z : Int), up t (o + 5) j z o 0 = t o 0 := fun t j z => up_c (by omega)
  have hi : inb (n : Int) 8 := ⟨by omega, by omega⟩
  unfold S_X4_addRing O_X4_addRing
  rw [if_pos (by omega)]
  simp only [e1, e2, e3, e4, e5, hn, Int.toNat_natCast]
  rw [w32_of (by omega) (by omega)]
  exact ⟨rfl, fun _ => ⟨hi, hi, hi, hi, hi, trivial⟩, fun _ => trivial⟩
theorem puts_s {n : Nat} {a b c d e : Int} {s : Sto} (hn : s 69 14 = n) (h : n < 8) : S_X12_puts a b c d e s = up (up (up (up (up (up s 79 (5 * n) a) 79 (5 * n + 1) b) 79 (5 * n + 2) c) 79 (5 * n + 3) d) 79 (5 * n + 4) e) 69 14 ((n : Int) + 1) ∧ O_X12_puts a b c d e s := by
  have e1 : ∀ (t : Sto) (j : Nat) (z : Int), up t 79 j z 69 14 = t 69 14 := fun t j z => up_c (by omega)
  unfold S_X12_puts O_X12_puts
  simp only [e1, hn]
  have f0 : w32 (5 * (n : Int)) = 5 * (n : Int) := w32_of (by omega) (by omega)
  have f1 : w32 (5 * (n : Int) + 1) = 5 * (n : Int) + 1 := w32_of (by omega) (by omega)
  have f2 : w32 (5 * (n : Int) + 2) = 5 * (n : Int) + 2 := w32_of (by omega) (by omega)
  have f3 : w32 (5 * (n : Int) + 3) = 5 * (n : Int) + 3 := w32_of (by omega) (by omega)
  have f4 : w32 (5 * (n : Int) + 4) = 5 * (n : Int) + 4 := w32_of (by omega) (by omega)
  have f5 : w32 ((n : Int) + 1) = (n : Int) + 1 := w32_of (by omega) (by omega)
  rw [f0, f1, f2, f3, f4, f5]
  have g0 : (5 * (n : Int)).toNat = 5 * n := by omega
  have g1 : (5 * (n : Int) + 1).toNat = 5 * n + 1 := by omega
  have g2 : (5 * (n : Int) + 2).toNat = 5 * n + 2 := by omega
  have g3 : (5 * (n : Int) + 3).toNat = 5 * n + 3 := by omega
  have g4 : (5 * (n : Int) + 4).toNat = 5 * n + 4 := by omega
  rw [g0, g1, g2, g3, g4]
  exact ⟨rfl, ⟨by omega, by omega⟩, ⟨by omega, by omega⟩, ⟨by omega, by omega⟩, ⟨by omega, by omega⟩, ⟨by omega, by omega⟩, trivial⟩
/-- both sides take one ring more -/
theorem RRg.push {s : Sto} {n : Nat} {a b c d e : Int} (h : RRg s) (hn : s 69 14 = n) (h8 : n < 8) (hl : legal a b c d e) (p : Sto → Sto) (hp : ∀ t, ∀ x y, ¬ (x = 0 ∧ y = 12) → p t x y = t x y) : RRg (S_X12_puts a b c d e (p (S_X4_addRing 6 a b c d e s))) ∧ O_X4_addRing 6 a b c d e s ∧ O_X12_puts a b c d e (p (S_X4_addRing 6 a b c d e s)) ∧ Same DRg s (S_X12_puts a b c d e (p (S_X4_addRing 6 a b c d e s))) ∧ p (S_X4_addRing 6 a b c d e s) 6 0 = (n : Int) + 1 ∧ S_X12_puts a b c d e (p (S_X4_addRing 6 a b c d e s)) 69 14 = (n : Int) + 1 ∧ S_X12_puts a b c d e (p (S_X4_addRing 6 a b c d e s)) 0 12 = p (S_X4_addRing 6 a b c d e s) 0 12 := by
  obtain ⟨h1, h2, h3⟩ := h
  obtain ⟨q1, q2⟩ := addRing_s (o := 6) (a := a) (b := b) (c := c) (d := d) (e := e) (s := s) (by rw [h1, hn]) h8
  rw [q1]
  generalize hu : up (up (up (up (up (up s (6 + 1) n a) (6 + 2) n b) (6 + 3) n c) (6 + 4) n d) (6 + 5) n e) 6 0 ((n : Int) + 1) = u
  have hpu := hp u
  generalize p u = w at hpu
  have w69 : w 69 14 = n := by rw [hpu _ _ (by omega), ← hu, ← hn]; simp [up]
  obtain ⟨q3, q4⟩ := puts_s (a := a) (b := b) (c := c) (d := d) (e := e) w69 h8
  rw [q3]
  obtain ⟨l1, l2, l3, l4, l5⟩ := hl
  refine ⟨⟨?_, ?_, fun r hr => ?_⟩, q2, q4, ?_, ?_, up_at, ?_⟩
  · rw [up_at, up_c (by omega), up_c (by omega), up_c (by omega), up_c (by omega), up_c (by omega), up_c (by omega), hpu _ _ (by omega), ← hu, up_at]
  · rw [up_at]; omega
  · rw [up_at] at hr
    have hpu7 : ∀ x y, 7 ≤ x → w x y = u x y := fun x y q => hpu x y (by omega)
    by_cases er : r = n
    · subst er
      unfold RR1
      simp only [up, hpu7 7 r (by omega), hpu7 8 r (by omega), hpu7 9 r (by omega), hpu7 10 r (by omega), hpu7 11 r (by omega), ← hu]
      simp
      exact ⟨l1, l2, l3, l4, l5⟩
    · have hR := h3 r (by omega)
      have e7 : ∀ y, y < 5 → up (up (up (up (up (up w 79 (5 * n) a) 79 (5 * n + 1) b) 79 (5 * n + 2) c) 79 (5 * n + 3) d) 79 (5 * n + 4) e) 69 14 ((n : Int) + 1) 79 (5 * r + y) = s 79 (5 * r + y) := fun y hy => by
        rw [up_c (by omega), up_j (by omega), up_j (by omega), up_j (by omega), up_j (by omega), up_j (by omega), hpu7 _ _ (by omega), ← hu]
        simp [up]
      have e8 : ∀ x, 7 ≤ x → x ≤ 11 → up (up (up (up (up (up w 79 (5 * n) a) 79 (5 * n + 1) b) 79 (5 * n + 2) c) 79 (5 * n + 3) d) 79 (5 * n + 4) e) 69 14 ((n : Int) + 1) x r = s x r := fun x x1 x2 => by
        rw [up_c (by omega), up_c (by omega), up_c (by omega), up_c (by omega), up_c (by omega), up_c (by omega), hpu7 _ _ (by omega), ← hu, up_c (by omega), up_j er, up_j er, up_j er, up_j er, up_j er]
      unfold RR1
      rw [e8 7 (by omega) (by omega), e8 8 (by omega) (by omega), e8 9 (by omega) (by omega), e8 10 (by omega) (by omega), e8 11 (by omega) (by omega), e7 1 (by omega), e7 2 (by omega), e7 3 (by omega), e7 4 (by omega)]
      have e70 := e7 0 (by omega)
      simp only [Nat.add_zero] at e70
      rw [e70]
      exact hR
  · intro x y hd
    unfold DRg at hd
    rw [up_c2 (by omega), up_c (by omega), up_c (by omega), up_c (by omega), up_c (by omega), up_c (by omega), hpu x y (by omega), ← hu, up_c2 (by omega), up_c (by omega), up_c (by omega), up_c (by omega), up_c (by omega), up_c (by omega)]
  · rw [hpu _ _ (by omega), ← hu, up_at]
  · rw [up_c (by omega), up_c (by omega), up_c (by omega), up_c (by omega), up_c (by omega), up_c (by omega)]

theorem op_blow {v1 v2 v3 v4 v5 : Int} {s : Sto} (hR : RRg s) : O_X11_blow v1 v2 v3 v4 v5 s ∧ O_X12_blow v1 v2 v3 v4 v5 (S_X11_blow v1 v2 v3 v4 v5 s) ∧ F_X12_blow v1 v2 v3 v4 v5 (S_X11_blow v1 v2 v3 v4 v5 s) = F_X11_blow v1 v2 v3 v4 v5 s ∧ RRg (S_X12_blow v1 v2 v3 v4 v5 (S_X11_blow v1 v2 v3 v4 v5 s)) ∧ Same DRg s (S_X12_blow v1 v2 v3 v4 v5 (S_X11_blow v1 v2 v3 v4 v5 s)) ∧ (S_X12_blow v1 v2 v3 v4 v5 (S_X11_blow v1 v2 v3 v4 v5 s) = s ∨ S_X12_blow v1 v2 v3 v4 v5 (S_X11_blow v1 v2 v3 v4 v5 s) 0 12 = 0) := by
  by_cases c : legal v1 v2 v3 v4 v5
  · have g0 : ¬ F_X11_mayBlow v1 v2 v3 v4 v5 s = 0 := fun q => absurd c (mayBlow_0.mp q)
    have g1 : ∀ t : Sto, ¬ F_X12_isStep v1 t = 0 := fun t q => absurd c.1 (isStep_0.mp q)
    have g2 : ∀ t : Sto, ¬ F_X12_in v2 0 35 t = 0 := fun t q => absurd c.2.1 (in_0.mp q)
    have g3 : ∀ t : Sto, ¬ F_X12_in v3 0 3 t = 0 := fun t q => absurd c.2.2.1 (in_0.mp q)
    have g4 : ∀ t : Sto, ¬ F_X12_in v4 1 9 t = 0 := fun t q => absurd c.2.2.2.1 (in_0.mp q)
    have g5 : ∀ t : Sto, ¬ F_X12_in v5 0 3 t = 0 := fun t q => absurd c.2.2.2.2 (in_0.mp q)
    have eF : ∀ t, F_X12_blow v1 v2 v3 v4 v5 t = if t 69 14 = 8 then (-4) else S_X12_puts v1 v2 v3 v4 v5 t 69 14 := fun t => by
      unfold F_X12_blow; rw [if_neg (g1 t), if_neg (g2 t), if_neg (g3 t), if_neg (g4 t), if_neg (g5 t)]
    have eS : ∀ t, S_X12_blow v1 v2 v3 v4 v5 t = if t 69 14 = 8 then t else S_X12_puts v1 v2 v3 v4 v5 t := fun t => by
      unfold S_X12_blow; rw [if_neg (g1 t), if_neg (g2 t), if_neg (g3 t), if_neg (g4 t), if_neg (g5 t)]
    have eO : ∀ t, (¬ t 69 14 = 8 → O_X12_puts v1 v2 v3 v4 v5 t) → O_X12_blow v1 v2 v3 v4 v5 t := fun t q => by
      unfold O_X12_blow
      exact ⟨fun w => absurd w (g1 t), fun _ => ⟨fun w => absurd w (g2 t), fun _ => ⟨fun w => absurd w (g3 t), fun _ => ⟨fun w => absurd w (g4 t), fun _ => ⟨fun w => absurd w (g5 t), fun _ => ⟨fun _ => trivial, fun w => ⟨q w, trivial⟩⟩⟩⟩⟩⟩⟩
    by_cases h8 : s 69 14 = 8
    · have e6 : ¬ s 6 0 < 8 := by rw [hR.1]; omega
      have eC : S_X11_blow v1 v2 v3 v4 v5 s = s := by unfold S_X11_blow; rw [if_neg g0, if_neg e6]
      have eCF : F_X11_blow v1 v2 v3 v4 v5 s = -4 := by unfold F_X11_blow; rw [if_neg g0, if_neg e6]
      rw [eC, eCF, eF, eS, if_pos h8, if_pos h8]
      refine ⟨?_, eO s (fun q => absurd h8 q), rfl, hR, Same.rfl', Or.inl rfl⟩
      unfold O_X11_blow
      exact ⟨fun _ => trivial, fun _ => ⟨fun q => absurd q e6, fun _ => trivial⟩⟩
    · obtain ⟨n, hn⟩ := Int.eq_ofNat_of_zero_le hR.2.1.1
      have hn8 : n < 8 := by have := hR.2.1.2; omega
      have e6 : s 6 0 < 8 := by rw [hR.1, hn]; omega
      obtain ⟨z1, z2, z3, z4, z5, z6, z7⟩ := hR.push hn hn8 c (fun t => up t 0 12 0) (fun t x y q => up_c2 q)
      have eC : S_X11_blow v1 v2 v3 v4 v5 s = up (S_X4_addRing 6 v1 v2 v3 v4 v5 s) 0 12 0 := by unfold S_X11_blow; rw [if_neg g0, if_pos e6]
      have eCF : F_X11_blow v1 v2 v3 v4 v5 s = (n : Int) + 1 := by unfold F_X11_blow; rw [if_neg g0, if_pos e6]; exact z5
      have e9 : ¬ up (S_X4_addRing 6 v1 v2 v3 v4 v5 s) 0 12 0 69 14 = 8 := by
        rw [up_c (by omega), (addRing_s (by rw [hR.1, hn]) hn8).1]
        have : up (up (up (up (up (up s (6 + 1) n v1) (6 + 2) n v2) (6 + 3) n v3) (6 + 4) n v4) (6 + 5) n v5) 6 0 ((n : Int) + 1) 69 14 = s 69 14 := by simp [up]
        rw [this]; exact h8
      rw [eC, eCF, eF, eS, if_neg e9, if_neg e9]
      refine ⟨?_, eO _ (fun _ => z3), z6, z1, z4, Or.inr (by rw [z7, up_at])⟩
      unfold O_X11_blow
      exact ⟨fun _ => trivial, fun _ => ⟨fun _ => ⟨z2, trivial⟩, fun _ => trivial⟩⟩
  · have g0 : F_X11_mayBlow v1 v2 v3 v4 v5 s = 0 := mayBlow_0.mpr c
    have eC : S_X11_blow v1 v2 v3 v4 v5 s = s := by unfold S_X11_blow; rw [if_pos g0]
    have eCF : F_X11_blow v1 v2 v3 v4 v5 s = -2 := by unfold F_X11_blow; rw [if_pos g0]
    have eM : F_X12_blow v1 v2 v3 v4 v5 s = -2 ∧ S_X12_blow v1 v2 v3 v4 v5 s = s ∧ O_X12_blow v1 v2 v3 v4 v5 s := by
      unfold F_X12_blow S_X12_blow O_X12_blow legal at *
      simp only [isStep_0, in_0]
      by_cases c1 : 0 ≤ v1 ∧ v1 ≤ 19
      · by_cases c2 : 0 ≤ v2 ∧ v2 ≤ 35
        · by_cases c3 : 0 ≤ v3 ∧ v3 ≤ 3
          · by_cases c4 : 1 ≤ v4 ∧ v4 ≤ 9
            · have c5 : ¬ (0 ≤ v5 ∧ v5 ≤ 3) := fun q => c ⟨c1, c2, c3, c4, q⟩
              simp [c1, c2, c3, c4, c5]
            · simp [c1, c2, c3, c4]
          · simp [c1, c2, c3]
        · simp [c1, c2]
      · simp [c1]
    rw [eC, eCF, eM.1, eM.2.1]
    refine ⟨?_, eM.2.2, rfl, hR, Same.rfl', Or.inl rfl⟩
    unfold O_X11_blow
    exact ⟨fun _ => trivial, fun q => absurd g0 q⟩
theorem isRingC_0 {v : Int} {s : Sto} (h : RRg s) : F_X11_isRing v s = 0 ↔ ¬ (0 ≤ v ∧ v < s 69 14) := by
  unfold F_X11_isRing
  have h2 := h.2.1
  rw [h.1, w32_of (by omega) (by omega), within_0]
  omega
theorem isRingM_0 {v : Int} {s : Sto} (h : 0 ≤ s 69 14 ∧ s 69 14 ≤ 8) : F_X12_isRing v s = 0 ↔ ¬ (0 ≤ v ∧ v < s 69 14) := by
  unfold F_X12_isRing
  rw [w32_of (by omega) (by omega), in_0]
  omega
theorem op_ring {v1 v2 : Int} {s : Sto} (hR : RRg s) : O_X11_ring v1 v2 s ∧ O_X12_ring v1 v2 s ∧ F_X12_ring v1 v2 s = F_X11_ring v1 v2 s := by
  have g := isRingC_0 (v := v1) hR
  have g' := isRingM_0 (v := v1) hR.2.1
  have h8 := hR.2.1
  unfold O_X11_ring O_X12_ring F_X12_ring F_X11_ring
  by_cases c : 0 ≤ v1 ∧ v1 < s 69 14
  · have g1 : ¬ F_X11_isRing v1 s = 0 := fun q => absurd c (g.mp q)
    have g2 : ¬ F_X12_isRing v1 s = 0 := fun q => absurd c (g'.mp q)
    obtain ⟨r, rfl⟩ := Int.eq_ofNat_of_zero_le c.1
    have hi : inb (r : Int) 8 := ⟨by omega, by omega⟩
    obtain ⟨⟨a0, a1, a2, a3, a4⟩, -⟩ := hR.2.2 r c.2
    rw [if_neg g1, if_neg g2]
    refine ⟨⟨fun _ => trivial, fun _ => ⟨fun _ => ⟨hi, trivial⟩, fun _ => ⟨fun _ => ⟨hi, trivial⟩, fun _ => ⟨fun _ => ⟨hi, trivial⟩, fun _ => ⟨fun _ => ⟨hi, trivial⟩, fun _ => ⟨fun _ => ⟨hi, trivial⟩, fun _ => trivial⟩⟩⟩⟩⟩⟩, ⟨fun _ => trivial, fun _ => ⟨fun _ => trivial, fun q => ?_⟩⟩, ?_⟩
    · have q2 := Decidable.not_not.mp (mt in_0.mpr q)
      rw [w32_of (z := 5 * (r : Int)) (by omega) (by omega), w32_of (by omega) (by omega)]
      exact ⟨⟨by omega, by omega⟩, trivial⟩
    · by_cases q2 : 0 ≤ v2 ∧ v2 ≤ 4
      · rw [if_neg (fun q => absurd q2 (in_0.mp q)), w32_of (z := 5 * (r : Int)) (by omega) (by omega), w32_of (by omega) (by omega), Int.toNat_natCast]
        obtain ⟨w, rfl⟩ := Int.eq_ofNat_of_zero_le q2.1
        have e : (5 * (r : Int) + (w : Int)).toNat = 5 * r + w := by omega
        rw [e]
        have hw : w = 0 ∨ w = 1 ∨ w = 2 ∨ w = 3 ∨ w = 4 := by omega
        rcases hw with rfl | rfl | rfl | rfl | rfl
        · exact a0.symm
        · exact a1.symm
        · exact a2.symm
        · exact a3.symm
        · exact a4.symm
      · rw [if_pos (in_0.mpr q2), if_neg (by omega), if_neg (by omega), if_neg (by omega), if_neg (by omega), if_neg (by omega)]
  · have g1 : F_X11_isRing v1 s = 0 := g.mpr c
    have g2 : F_X12_isRing v1 s = 0 := g'.mpr c
    rw [if_pos g1, if_pos g2]
    exact ⟨⟨fun _ => trivial, fun q => absurd g1 q⟩, ⟨fun _ => trivial, fun q => absurd g2 q⟩, rfl⟩
theorem RRg.cg {s t : Sto} (h : RRg s) (hS : ∀ a b, DRg a b → ¬ (a = 0 ∧ b = 12) → t a b = s a b) : RRg t := by
  obtain ⟨h1, h2, h3⟩ := h
  have e14 : t 69 14 = s 69 14 := hS _ _ (by unfold DRg; omega) (by omega)
  refine ⟨?_, by rw [e14]; exact h2, fun r hr => ?_⟩
  · rw [e14, hS 6 0 (by unfold DRg; omega) (by omega)]; exact h1
  · rw [e14] at hr
    have hr2 := h3 r hr
    unfold RR1 at hr2 ⊢
    have e : ∀ b, t 79 b = s 79 b := fun b => hS _ _ (by unfold DRg; omega) (by omega)
    have f : ∀ a, 7 ≤ a → a ≤ 11 → t a r = s a r := fun a a1 a2 => hS _ _ (by unfold DRg; omega) (by omega)
    rw [e, e, e, e, e, f 7 (by omega) (by omega), f 8 (by omega) (by omega), f 9 (by omega) (by omega), f 10 (by omega) (by omega), f 11 (by omega) (by omega)]
    exact hr2
theorem op_back {s : Sto} (hR : RRg s) : F_X12_back (S_X11_back s) = F_X11_back s ∧ RRg (S_X12_back (S_X11_back s)) ∧ Same DRg s (S_X12_back (S_X11_back s)) ∧ (S_X12_back (S_X11_back s) = s ∨ S_X12_back (S_X11_back s) 0 12 = 0) := by
  obtain ⟨h1, h2, h3⟩ := id hR
  unfold F_X12_back F_X11_back S_X12_back S_X11_back
  by_cases c : 0 < s 6 0
  · rw [if_pos c, if_pos c]
    have e : ∀ a b, ¬ (a = 6 ∧ b = 0) → ¬ (a = 0 ∧ b = 12) → up (up s 6 0 (w32 (s 6 0 - 1))) 0 12 0 a b = s a b := fun a b q1 q2 => by rw [up_c2 q2, up_c2 q1]
    have e69 := e 69 14 (by omega) (by omega)
    have c2 : ¬ up (up s 6 0 (w32 (s 6 0 - 1))) 0 12 0 69 14 = 0 := by rw [e69]; omega
    rw [if_neg c2, if_neg c2, e69, up_at, h1, w32_of (by omega) (by omega)]
    have e2 : ∀ a b, ¬ (a = 6 ∧ b = 0) → ¬ (a = 0 ∧ b = 12) → ¬ (a = 69 ∧ b = 14) → up (up (up s 6 0 (s 69 14 - 1)) 0 12 0) 69 14 (s 69 14 - 1) a b = s a b := fun a b q1 q2 q3 => by rw [up_c2 q3, up_c2 q2, up_c2 q1]
    refine ⟨?_, ⟨?_, ?_, fun r hr => ?_⟩, fun a b hd => ?_, Or.inr ?_⟩
    · rw [up_c (by omega), up_at]
    · rw [up_at, up_c (by omega), up_c (by omega), up_at]
    · rw [up_at]; omega
    · rw [up_at] at hr
      have hr2 := h3 r (by omega)
      unfold RR1 at hr2 ⊢
      have f : ∀ a b, 7 ≤ a → a ≠ 69 → up (up (up s 6 0 (s 69 14 - 1)) 0 12 0) 69 14 (s 69 14 - 1) a b = s a b := fun a b q1 q2 => e2 a b (by omega) (by omega) (by omega)
      rw [f _ _ (by omega) (by omega), f _ _ (by omega) (by omega), f _ _ (by omega) (by omega), f _ _ (by omega) (by omega), f _ _ (by omega) (by omega), f _ _ (by omega) (by omega), f _ _ (by omega) (by omega), f _ _ (by omega) (by omega), f _ _ (by omega) (by omega), f _ _ (by omega) (by omega)]
      exact hr2
    · unfold DRg at hd
      exact e2 a b (by omega) (by omega) (by omega)
    · rw [up_c (by omega), up_at]
  · have c2 : s 69 14 = 0 := by omega
    rw [if_neg c, if_neg c, if_pos c2, if_pos c2]
    exact ⟨rfl, hR, Same.rfl', Or.inl rfl⟩
