/-! ===== widens, seen, forget, read ===== -/
def RWd (s : Sto) : Prop := s 6 11 = s 69 13 ∧ 1 ≤ s 69 13 ∧ s 69 13 ≤ 4
theorem op_widens {v1 : Int} {s : Sto} (hR : RWd s) : F_X12_widens v1 (S_X11_widens v1 s) = F_X11_widens v1 s ∧ RWd (S_X12_widens v1 (S_X11_widens v1 s)) ∧ Same (fun a b => (a = 6 ∧ b = 11) ∨ (a = 0 ∧ b = 12) ∨ (a = 69 ∧ b = 13)) s (S_X12_widens v1 (S_X11_widens v1 s)) ∧ (S_X12_widens v1 (S_X11_widens v1 s) = s ∨ S_X12_widens v1 (S_X11_widens v1 s) 0 12 = 0) := by
  unfold F_X12_widens F_X11_widens S_X12_widens S_X11_widens
  by_cases c : 1 ≤ v1 ∧ v1 ≤ 4
  · have g : ∀ t : Sto, ¬ F_X11_within v1 1 4 t = 0 := fun t q => absurd c (within_0.mp q)
    have g' : ∀ t : Sto, ¬ F_X12_in v1 1 4 t = 0 := fun t q => absurd c (in_0.mp q)
    rw [if_neg (g s), if_neg (g s), if_neg (g' _), if_neg (g' _)]
    refine ⟨?_, ⟨?_, ?_⟩, ?_, Or.inr ?_⟩
    · rw [up_c (by omega), up_c (by omega)]; exact hR.1.symm
    · rw [up_at, up_c (by omega), up_c (by omega), up_at]
    · rw [up_at]; exact c
    · exact ((Same.rfl'.up (Or.inl ⟨rfl, rfl⟩)).up (Or.inr (Or.inl ⟨rfl, rfl⟩))).up (Or.inr (Or.inr ⟨rfl, rfl⟩))
    · rw [up_c (by omega), up_at]
  · have g : ∀ t : Sto, F_X11_within v1 1 4 t = 0 := fun t => within_0.mpr c
    have g' : ∀ t : Sto, F_X12_in v1 1 4 t = 0 := fun t => in_0.mpr c
    rw [if_pos (g s), if_pos (g s), if_pos (g' _), if_pos (g' _)]
    exact ⟨rfl, hR, Same.rfl', Or.inl rfl⟩
def RSt (s : Sto) : Prop := s 26 2 = s 69 27 ∧ (0 ≤ s 69 27 ∧ s 69 27 ≤ 8) ∧ ∀ i : Nat, (i : Int) < s 69 27 → s 27 i = s 87 (2 * i) ∧ s 28 i = s 87 (2 * i + 1) ∧ (0 ≤ s 87 (2 * i) ∧ s 87 (2 * i) ≤ 7) ∧ (0 ≤ s 87 (2 * i + 1) ∧ s 87 (2 * i + 1) ≤ 4)
def DSt (a b : Nat) : Prop := (a = 26 ∧ b = 2) ∨ a = 27 ∨ a = 28 ∨ (a = 69 ∧ b = 27) ∨ a = 87
theorem op_forget {s : Sto} (hR : RSt s) : F_X12_forget (S_X11_forget s) = F_X11_forget s ∧ RSt (S_X12_forget (S_X11_forget s)) ∧ Same DSt s (S_X12_forget (S_X11_forget s)) := by
  unfold F_X12_forget F_X11_forget S_X12_forget S_X11_forget
  refine ⟨?_, ⟨?_, ?_, fun i hi => ?_⟩, ?_⟩
  · rw [up_c (by omega)]; exact hR.1.symm
  · rw [up_at, up_c (by omega), up_at]
  · rw [up_at]; omega
  · rw [up_at] at hi; omega
  · exact (Same.rfl'.up (Or.inl ⟨rfl, rfl⟩)).up (Or.inr (Or.inr (Or.inr (Or.inl ⟨rfl, rfl⟩))))
theorem op_seen {v1 v2 : Int} {s : Sto} (hR : RSt s) : O_X11_seen v1 v2 s ∧ O_X12_seen v1 v2 (S_X11_seen v1 v2 s) ∧ F_X12_seen v1 v2 (S_X11_seen v1 v2 s) = F_X11_seen v1 v2 s ∧ RSt (S_X12_seen v1 v2 (S_X11_seen v1 v2 s)) ∧ Same DSt s (S_X12_seen v1 v2 (S_X11_seen v1 v2 s)) := by
  obtain ⟨h1, h2, h3⟩ := id hR
  obtain ⟨n, hn⟩ := Int.eq_ofNat_of_zero_le h2.1
  by_cases c1 : 0 ≤ v1 ∧ v1 ≤ 7
  · have g1 : ∀ t : Sto, ¬ F_X11_within v1 0 7 t = 0 := fun t q => absurd c1 (within_0.mp q)
    have g1' : ∀ t : Sto, ¬ F_X12_in v1 0 7 t = 0 := fun t q => absurd c1 (in_0.mp q)
    by_cases c2 : 0 ≤ v2 ∧ v2 ≤ 4
    · have g2 : ∀ t : Sto, ¬ F_X11_within v2 0 4 t = 0 := fun t q => absurd c2 (within_0.mp q)
      have g2' : ∀ t : Sto, ¬ F_X12_in v2 0 4 t = 0 := fun t q => absurd c2 (in_0.mp q)
      by_cases c3 : s 69 27 = 8
      · have c4 : ¬ s 26 2 < 8 := by omega
        have eN : F_X8_note v1 v2 s = 0 := by unfold F_X8_note; rw [if_neg c4]
        have eS : S_X11_seen v1 v2 s = s := by unfold S_X11_seen S_X8_note; rw [if_neg (g1 s), if_neg (g2 s), if_pos eN, if_neg c4]
        have eF : F_X11_seen v1 v2 s = -4 := by unfold F_X11_seen; rw [if_neg (g1 s), if_neg (g2 s), if_pos eN]
        rw [eS, eF]
        unfold O_X11_seen O_X12_seen F_X12_seen S_X12_seen O_X8_note
        rw [if_neg (g1' s), if_neg (g2' s), if_pos c3, if_neg (g1' s), if_neg (g2' s), if_pos c3]
        exact ⟨⟨fun _ => trivial, fun _ => ⟨fun _ => trivial, fun _ => ⟨⟨fun q => absurd q c4, fun _ => trivial⟩, trivial⟩⟩⟩, ⟨fun _ => trivial, fun _ => ⟨fun _ => trivial, fun _ => ⟨fun _ => trivial, fun q => absurd c3 q⟩⟩⟩, rfl, hR, Same.rfl'⟩
      · have c4 : s 26 2 < 8 := by omega
        have e26 : s 26 2 = (n : Int) := by rw [h1, hn]
        have hn8 : n < 8 := by omega
        have eN : ¬ F_X8_note v1 v2 s = 0 := by unfold F_X8_note; rw [if_pos c4]; decide
        have eT : S_X8_note v1 v2 s = up (up (up s 27 n v1) 28 n v2) 26 2 ((n : Int) + 1) := by
          unfold S_X8_note
          rw [if_pos c4]
          have f1 : ∀ (t : Sto) (j : Nat) (z : Int), up t 27 j z 26 2 = t 26 2 := fun t j z => up_c (by omega)
          have f2 : ∀ (t : Sto) (j : Nat) (z : Int), up t 28 j z 26 2 = t 26 2 := fun t j z => up_c (by omega)
          simp only [f1, f2, e26, Int.toNat_natCast]
          rw [w32_of (by omega) (by omega)]
        have eS : S_X11_seen v1 v2 s = up (up (up s 27 n v1) 28 n v2) 26 2 ((n : Int) + 1) := by unfold S_X11_seen; rw [if_neg (g1 s), if_neg (g2 s), if_neg eN, eT]
        have eF : F_X11_seen v1 v2 s = (n : Int) + 1 := by unfold F_X11_seen; rw [if_neg (g1 s), if_neg (g2 s), if_neg eN, eT, up_at]
        rw [eS, eF]
        generalize hw : up (up (up s 27 n v1) 28 n v2) 26 2 ((n : Int) + 1) = w
        have w69 : w 69 27 = (n : Int) := by rw [← hw, up_c (by omega), up_c (by omega), up_c (by omega), hn]
        have c5 : ¬ w 69 27 = 8 := by omega
        have f3 : ∀ (t : Sto) (j : Nat) (z : Int), up t 87 j z 69 27 = t 69 27 := fun t j z => up_c (by omega)
        have k0 : w32 (2 * (n : Int)) = 2 * (n : Int) := w32_of (by omega) (by omega)
        have k1 : w32 (2 * (n : Int) + 1) = 2 * (n : Int) + 1 := w32_of (by omega) (by omega)
        have k2 : w32 ((n : Int) + 1) = (n : Int) + 1 := w32_of (by omega) (by omega)
        have k3 : (2 * (n : Int)).toNat = 2 * n := by omega
        have k4 : (2 * (n : Int) + 1).toNat = 2 * n + 1 := by omega
        unfold O_X11_seen O_X12_seen F_X12_seen S_X12_seen O_X8_note
        rw [if_neg (g1' w), if_neg (g2' w), if_neg c5, if_neg (g1' w), if_neg (g2' w), if_neg c5]
        simp only [f3, w69, k0, k1, k2, k3, k4, up_at, e26, Int.toNat_natCast]
        have hin : inb (n : Int) 8 := ⟨by omega, by omega⟩
        refine ⟨⟨fun _ => trivial, fun _ => ⟨fun _ => trivial, fun _ => ⟨⟨fun _ => ⟨hin, by rw [up_c (by omega), e26]; exact hin, trivial⟩, fun _ => trivial⟩, trivial⟩⟩⟩, ⟨fun _ => trivial, fun _ => ⟨fun _ => trivial, fun _ => ⟨fun _ => trivial, fun _ => ⟨⟨by omega, by omega⟩, ⟨by omega, by omega⟩, trivial⟩⟩⟩⟩, trivial, ⟨?_, ?_, fun i hi => ?_⟩, fun a b hd => ?_⟩
        · rw [up_at, up_c (by omega), up_c (by omega), up_c (by omega), ← hw, up_at]
        · rw [up_at]; omega
        · rw [up_at] at hi
          have ea : ∀ a, a ≠ 69 → a ≠ 87 → a ≠ 26 → ∀ b, up (up (up w 87 (2 * n) v1) 87 (2 * n + 1) v2) 69 27 ((n : Int) + 1) a b = up (up s 27 n v1) 28 n v2 a b := fun a q1 q2 q3 b => by rw [up_c q1, up_c q2, up_c q2, ← hw, up_c q3]
          have eb : ∀ b, up (up (up w 87 (2 * n) v1) 87 (2 * n + 1) v2) 69 27 ((n : Int) + 1) 87 b = up (up s 87 (2 * n) v1) 87 (2 * n + 1) v2 87 b := fun b => by
            rw [up_c (by omega)]
            unfold up
            rw [show w 87 b = s 87 b by rw [← hw, up_c (by omega), up_c (by omega), up_c (by omega)]]
          rw [ea 27 (by omega) (by omega) (by omega), ea 28 (by omega) (by omega) (by omega), eb, eb]
          by_cases ei : i = n
          · subst ei
            rw [up_c (by omega), up_at, up_at, up_at, up_j (by omega), up_at]
            exact ⟨rfl, rfl, c1, c2⟩
          · rw [up_j ei, up_j ei, up_j ei, up_j ei, up_j (by omega), up_j (by omega), up_j (by omega), up_j (by omega)]
            exact h3 i (by omega)
        · unfold DSt at hd
          rw [up_c2 (by omega), up_c (by omega), up_c (by omega), ← hw, up_c2 (by omega), up_c (by omega), up_c (by omega)]
    · have g2 : ∀ t : Sto, F_X11_within v2 0 4 t = 0 := fun t => within_0.mpr c2
      have g2' : ∀ t : Sto, F_X12_in v2 0 4 t = 0 := fun t => in_0.mpr c2
      unfold O_X11_seen O_X12_seen F_X12_seen S_X12_seen F_X11_seen S_X11_seen
      rw [if_neg (g1 s), if_pos (g2 s), if_neg (g1 s), if_pos (g2 s), if_neg (g1' s), if_pos (g2' s), if_neg (g1' s), if_pos (g2' s)]
      exact ⟨⟨fun _ => trivial, fun _ => ⟨fun _ => trivial, fun q => absurd (g2 s) q⟩⟩, ⟨fun _ => trivial, fun _ => ⟨fun _ => trivial, fun q => absurd (g2' s) q⟩⟩, rfl, hR, Same.rfl'⟩
  · have g1 : ∀ t : Sto, F_X11_within v1 0 7 t = 0 := fun t => within_0.mpr c1
    have g1' : ∀ t : Sto, F_X12_in v1 0 7 t = 0 := fun t => in_0.mpr c1
    unfold O_X11_seen O_X12_seen F_X12_seen S_X12_seen F_X11_seen S_X11_seen
    rw [if_pos (g1 s), if_pos (g1 s), if_pos (g1' s), if_pos (g1' s)]
    exact ⟨⟨fun _ => trivial, fun q => absurd (g1 s) q⟩, ⟨fun _ => trivial, fun q => absurd (g1' s) q⟩, rfl, hR, Same.rfl'⟩
