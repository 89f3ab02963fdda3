/-! ===== the valley's text ===== -/
/-- behind k signs: rows ended, cells in the row, cells of the rows before, cells -/
def vS (b : Nat → Int) : Nat → Int × Int × Int × Int
  | 0 => (0, 0, 0, 0)
  | k + 1 => if b k = 59 then ((vS b k).1 + 1, 0, (vS b k).2.1, (vS b k).2.2.2) else ((vS b k).1, (vS b k).2.1 + 1, (vS b k).2.2.1, (vS b k).2.2.2 + 1)
def vRs (b : Nat → Int) (k : Nat) : Int := (vS b k).1
def vRo (b : Nat → Int) (k : Nat) : Int := (vS b k).2.1
def vWi (b : Nat → Int) (k : Nat) : Int := (vS b k).2.2.1
def vCe (b : Nat → Int) (k : Nat) : Int := (vS b k).2.2.2
def vOk (b : Nat → Int) (k : Nat) : Prop := (b k = 59 ∧ vRo b k ≠ 0 ∧ vWi b k ≤ vRo b k) ∨ ((b k = 46 ∨ b k = 35) ∧ vRs b k ≠ 6 ∧ vRo b k ≠ (if vWi b k = 0 then 6 else vWi b k))
theorem vS_semi {b : Nat → Int} {k : Nat} (h : b k = 59) : vRs b (k + 1) = vRs b k + 1 ∧ vRo b (k + 1) = 0 ∧ vWi b (k + 1) = vRo b k ∧ vCe b (k + 1) = vCe b k := by
  unfold vRs vRo vWi vCe
  simp only [vS, if_pos h]
  exact ⟨trivial, trivial, trivial, trivial⟩
theorem vS_cell {b : Nat → Int} {k : Nat} (h : ¬ b k = 59) : vRs b (k + 1) = vRs b k ∧ vRo b (k + 1) = vRo b k + 1 ∧ vWi b (k + 1) = vWi b k ∧ vCe b (k + 1) = vCe b k + 1 := by
  unfold vRs vRo vWi vCe
  simp only [vS, if_neg h]
  exact ⟨trivial, trivial, trivial, trivial⟩
/-- what holds while there is no fault -/
theorem vInv {b : Nat → Int} : ∀ k : Nat, (∀ j, j < k → vOk b j) → (0 ≤ vRs b k ∧ vRs b k ≤ 6) ∧ (vRs b k = 0 ↔ vWi b k = 0) ∧ (0 ≤ vWi b k ∧ vWi b k ≤ 6) ∧ (0 ≤ vRo b k ∧ vRo b k ≤ (if vWi b k = 0 then 6 else vWi b k)) ∧ (0 ≤ vCe b k ∧ vCe b k ≤ 6 * vRs b k + vRo b k) ∧ (vRs b k = 6 → vRo b k = 0) ∧ (vWi b k = 0 → vCe b k = vRo b k) ∧ (∃ q : Int, vCe b k - vRo b k = q * vWi b k ∧ 0 ≤ q) ∧ vCe b k ≤ (k : Int) := by
  intro k
  induction k with
  | zero =>
    intro _
    have e1 : vRs b 0 = 0 := rfl
    have e2 : vRo b 0 = 0 := rfl
    have e3 : vWi b 0 = 0 := rfl
    have e4 : vCe b 0 = 0 := rfl
    rw [e1, e2, e3, e4]
    refine ⟨by omega, by omega, by omega, by rw [if_pos rfl]; omega, by omega, by omega, by omega, ⟨0, by omega, by omega⟩, by omega⟩
  | succ k ih =>
    intro h
    obtain ⟨a1, a2, a3, a4, a5, a6, a7, ⟨q, a8, a8'⟩, a9⟩ := ih (fun j hj => h j (by omega))
    have hk := h k (by omega)
    by_cases c : b k = 59
    · obtain ⟨e1, e2, e3, e4⟩ := vS_semi c
      have hk2 : vRo b k ≠ 0 ∧ vWi b k ≤ vRo b k := by
        rcases hk with w | w
        · exact w.2
        · omega
      rw [e1, e2, e3, e4]
      by_cases c2 : vWi b k = 0
      · rw [if_pos c2] at a4
        have c3 := a2.mpr c2
        have c7 := a7 c2
        rw [if_neg (by omega)]
        refine ⟨by omega, by omega, by omega, by omega, by omega, by omega, by omega, ⟨1, by omega, by omega⟩, by omega⟩
      · rw [if_neg c2] at a4
        have c3 : ¬ vRs b k = 0 := fun w => c2 (a2.mp w)
        have c4 : vRo b k = vWi b k := by omega
        rw [if_neg (by omega)]
        refine ⟨by omega, by omega, by omega, by omega, by omega, by omega, by omega, ⟨q + 1, ?_, by omega⟩, by omega⟩
        rw [c4] at a8 ⊢
        rw [Int.add_mul]
        omega
    · obtain ⟨e1, e2, e3, e4⟩ := vS_cell c
      have hk2 : vRs b k ≠ 6 ∧ vRo b k ≠ (if vWi b k = 0 then 6 else vWi b k) := by
        rcases hk with w | w
        · exact absurd w.1 c
        · exact w.2
      rw [e1, e2, e3, e4]
      refine ⟨a1, a2, a3, by omega, by omega, by omega, by omega, ⟨q, by omega, a8'⟩, by omega⟩
/-- each cell is told by one sign -/
theorem vSurj {b : Nat → Int} : ∀ (n c : Nat), (c : Int) < vCe b n → ∃ i, i < n ∧ ¬ b i = 59 ∧ vCe b i = (c : Int) := by
  intro n
  induction n with
  | zero =>
    intro c h
    have e4 : vCe b 0 = 0 := rfl
    omega
  | succ n ih =>
    intro c h
    by_cases k : b n = 59
    · rw [(vS_semi k).2.2.2] at h
      obtain ⟨i, h1, h2, h3⟩ := ih c h
      exact ⟨i, by omega, h2, h3⟩
    · rw [(vS_cell k).2.2.2] at h
      by_cases e : (c : Int) = vCe b n
      · exact ⟨n, by omega, k, e.symm⟩
      · obtain ⟨i, h1, h2, h3⟩ := ih c (by omega)
        exact ⟨i, by omega, h2, h3⟩
/-- a valley's text b of n signs: its fault f (-1: none), its cells, how many in a row, its walls -/
def ValleyOf (b : Nat → Int) (n : Nat) (f cs wd : Int) (wall : Nat → Int) : Prop :=
  (f = -1 ∧ (∀ i, i < n → vOk b i) ∧ (n = 0 ∨ (vRo b n ≠ 0 ∧ vWi b n ≤ vRo b n)) ∧ cs = vCe b n ∧ wd = vRo b n ∧ ∀ i, i < n → ¬ b i = 59 → wall (vCe b i).toNat = if b i = 35 then 1 else 0) ∨
  (f = (n : Int) ∧ (∀ i, i < n → vOk b i) ∧ ¬ (n = 0 ∨ (vRo b n ≠ 0 ∧ vWi b n ≤ vRo b n)) ∧ cs = 0 ∧ wd = 0) ∨
  (∃ i, i < n ∧ f = (i : Int) ∧ ¬ vOk b i ∧ (∀ j, j < i → vOk b j) ∧ cs = 0 ∧ wd = 0)
theorem ValleyOf.one {b : Nat → Int} {n : Nat} {f g cs cs2 wd wd2 : Int} {w1 w2 : Nat → Int} (h : ValleyOf b n f cs wd w1) (k : ValleyOf b n g cs2 wd2 w2) : f = g ∧ cs = cs2 ∧ wd = wd2 ∧ ∀ c : Nat, (c : Int) < cs → w1 c = w2 c := by
  rcases h with ⟨h1, h2, h3, h4, h5, h6⟩ | ⟨h1, h2, h3, h4, h5⟩ | ⟨i, h1, h2, h3, h4, h5, h6⟩
  · rcases k with ⟨k1, k2, k3, k4, k5, k6⟩ | ⟨k1, k2, k3, k4, k5⟩ | ⟨j, k1, k2, k3, k4, k5, k6⟩
    · refine ⟨by rw [h1, k1], by rw [h4, k4], by rw [h5, k5], fun c hc => ?_⟩
      rw [h4] at hc
      obtain ⟨i, q1, q2, q3⟩ := vSurj n c hc
      have z1 := h6 i q1 q2
      have z2 := k6 i q1 q2
      rw [q3, Int.toNat_natCast] at z1 z2
      rw [z1, z2]
    · exact absurd h3 k3
    · exact absurd (h2 j k1) k3
  · rcases k with ⟨k1, k2, k3, k4, k5, k6⟩ | ⟨k1, k2, k3, k4, k5⟩ | ⟨j, k1, k2, k3, k4, k5, k6⟩
    · exact absurd k3 h3
    · exact ⟨by rw [h1, k1], by rw [h4, k4], by rw [h5, k5], fun c hc => by omega⟩
    · exact absurd (h2 j k1) k3
  · rcases k with ⟨k1, k2, k3, k4, k5, k6⟩ | ⟨k1, k2, k3, k4, k5⟩ | ⟨j, k1, k2, k3, k4, k5, k6⟩
    · exact absurd (k2 i h1) h3
    · exact absurd (k2 i h1) h3
    · have e : i = j := by
        rcases Nat.lt_trichotomy i j with q | q | q
        · exact absurd (k4 i q) h3
        · exact q
        · exact absurd (h4 j q) k3
      subst e
      exact ⟨by rw [h2, k2], by rw [h5, k5], by rw [h6, k6], fun c hc => by omega⟩
/-- the class finds the fault -/
theorem T_cfault0 {p n : Nat} {s : Sto} {K1 K2 K3 : Int → Prop} {K4 : Int → Int → Prop} (hn : s p 1 = n) (h41 : n ≤ 41) (hal : n ≤ al (p + 1)) (h4 : (∀ i, i < n → vOk (s (p + 1)) i) → K4 (vRo (s (p + 1)) n) (vWi (s (p + 1)) n)) (h1 : ∀ i : Nat, i < n → ¬ vOk (s (p + 1)) i → (∀ j, j < i → vOk (s (p + 1)) j) → K1 i ∧ K2 i ∧ K3 i) : ∃ m, L_X10_firstFault_9 p s K1 K2 K3 K4 m 0 0 0 0 := by
  obtain ⟨b, hb⟩ : ∃ b, b = s (p + 1) := ⟨_, rfl⟩
  rw [← hb] at h4 h1
  refine lp4 (L_X10_firstFault_9 p s K1 K2 K3 K4) (fun x y z w => ∃ k : Nat, w = k ∧ k ≤ n ∧ (∀ j, j < k → vOk b j) ∧ x = vRs b k ∧ y = vRo b k ∧ z = vWi b k) (fun _ _ _ w => ((n : Int) - w).toNat) ?_ 0 0 0 0 ⟨0, rfl, by omega, fun j hj => absurd hj (Nat.not_lt_zero j), rfl, rfl, rfl⟩
  rintro m x y z w ⟨k, rfl, i1, i2, rfl, rfl, rfl⟩ ih
  obtain ⟨a1, a2, a3, a4, a5, a6, a7, -, a9⟩ := vInv k i2
  unfold L_X10_firstFault_9
  rw [hn]
  refine ⟨fun q => ?_, fun q => ?_⟩
  · have e : k = n := by omega
    subst e
    exact h4 i2
  · have eS : F_X9_sign p (k : Int) s = b k := by
      unfold F_X9_sign
      rw [if_neg (by omega), hn, if_neg (by omega), Int.toNat_natCast, hb]
    have eO : O_X9_sign p (k : Int) s := by
      unfold O_X9_sign
      exact ⟨fun _ => trivial, fun _ => ⟨fun _ => trivial, fun _ => ⟨⟨by omega, by omega⟩, trivial⟩⟩⟩
    have hbad : ¬ vOk b k → K1 k ∧ K2 k ∧ K3 k := fun w => h1 k (by omega) w i2
    have hstep : vOk b k → ∀ x' y' z', x' = vRs b (k + 1) → y' = vRo b (k + 1) → z' = vWi b (k + 1) → L_X10_firstFault_9 p s K1 K2 K3 K4 m x' y' z' (w32 ((k : Int) + 1)) := by
      intro hk x' y' z' e1 e2 e3
      rw [w32_of (by omega) (by omega)]
      refine ih _ _ _ _ ⟨k + 1, by omega, by omega, fun j hj => ?_, e1, e2, e3⟩ (by omega)
      by_cases ej : j = k
      · rw [ej]; exact hk
      · exact i2 j (by omega)
    have hcell : ¬ b k = 59 → (b k = 46 ∨ b k = 35) → (6 ≤ vRs b k → K2 k) ∧ (¬ 6 ≤ vRs b k → ∀ x9 : Int, x9 = (if vRs b k = 0 then 6 else vWi b k) → (vRo b k < x9 → L_X10_firstFault_9 p s K1 K2 K3 K4 m (vRs b k) (w32 (vRo b k + 1)) (vWi b k) (w32 ((k : Int) + 1))) ∧ (¬ vRo b k < x9 → K2 k)) := by
      intro c59 c4
      obtain ⟨e1, e2, e3, e4⟩ := vS_cell c59
      have hW : (if vRs b k = 0 then (6 : Int) else vWi b k) = (if vWi b k = 0 then 6 else vWi b k) := by
        by_cases c : vRs b k = 0
        · rw [if_pos c, if_pos (a2.mp c)]
        · rw [if_neg c, if_neg (fun w => c (a2.mpr w))]
      refine ⟨fun w => (hbad (fun v => ?_)).2.1, fun w x9 e9 => ⟨fun w2 => ?_, fun w2 => (hbad (fun v => ?_)).2.1⟩⟩
      · rcases v with v | v
        · exact c59 v.1
        · omega
      · rw [hW] at e9
        rw [w32_of (by omega) (by omega)]
        exact hstep (Or.inr ⟨c4, by omega, by omega⟩) _ _ _ e1.symm e2.symm e3.symm
      · rw [hW] at e9
        rcases v with v | v
        · exact c59 v.1
        · omega
    rw [eS]
    refine ⟨eO, fun x3 e3 => ?_⟩
    subst e3
    refine ⟨fun c => ?_, fun c => ⟨fun c2 => hcell c (Or.inl c2), fun c2 => ⟨fun c3 => hcell c (Or.inr c3), fun c3 => (hbad (fun v => ?_)).2.2⟩⟩⟩
    · obtain ⟨e1, e2, e3, e4⟩ := vS_semi c
      refine ⟨fun w => (hbad (fun v => ?_)).1, fun w => ⟨fun w2 => ?_, fun w2 => (hbad (fun v => ?_)).1⟩⟩
      · rcases v with v | v
        · exact v.2.1 w
        · omega
      · rw [w32_of (by omega) (by omega)]
        exact hstep (Or.inl ⟨c, w, w2⟩) _ _ _ e1.symm e2.symm e3.symm
      · rcases v with v | v
        · exact w2 v.2.2
        · omega
    · rcases v with v | v
      · exact c v.1
      · omega
