/-! ===== the start ===== -/
/-- how both stand behind their constructors -/
def Start (s : Sto) : Prop := (s 0 11 = 0 ∧ s 69 4 = 0) ∧ (∀ k, k < 4 → s (36 + 2 * k) 0 = -1 ∧ s 70 k = -1) ∧ (s 6 0 = 0 ∧ s 69 14 = 0) ∧ (s 6 11 = 2 ∧ s 69 13 = 2) ∧ (s 26 2 = 0 ∧ s 69 27 = 0) ∧ (∀ k, k < 3 → s (30 + 2 * k) 1 = 0 ∧ s 75 k = 0 ∧ s 2 k = -1) ∧ (s 3 0 = 0 ∧ s 6 6 = 0) ∧ (∀ i, i < 20 → s 15 i = -1) ∧ (s 69 25 = 0 ∧ s 69 26 = 0) ∧ s 0 12 = 0
theorem Rel_0 {s : Sto} (h : Start s) : Rel s := by
  obtain ⟨⟨a1, a2⟩, b, ⟨c1, c2⟩, ⟨d1, d2⟩, ⟨e1, e2⟩, f, ⟨g1, g2⟩, i, j, k⟩ := h
  refine ⟨⟨a1.trans a2.symm, fun q hq => ?_⟩, ⟨c1.trans c2.symm, by omega, fun r hr => by omega⟩, ⟨d1.trans d2.symm, by omega, by omega⟩, ⟨e1.trans e2.symm, by omega, fun r hr => by omega⟩, fun q hq => ?_, fun q hq => ?_, j, fun w => absurd k w⟩
  · obtain ⟨b1, b2⟩ := b q hq
    exact ⟨b1.trans b2.symm, by omega, fun w => absurd b2 w⟩
  · obtain ⟨f1, f2, f3⟩ := f q hq
    exact ⟨f1.trans f2.symm, by omega, fun r hr => by omega⟩
  · have hc : q = 0 ∨ q = 1 ∨ q = 2 := by omega
    obtain ⟨f1, f2, f3⟩ := f q hq
    rcases hc with rfl | rfl | rfl
    · show CVal s (s 31) (s 30 1).toNat (s 2 0)
      have f1 : s 30 1 = 0 := f1
      rw [f1, f3]
      refine ⟨0, ?_, fun c hc => by omega, fun w => by omega⟩
      rw [g1]
      exact Or.inl ⟨rfl, fun x hx => absurd hx (Nat.not_lt_zero x), Or.inl rfl, rfl, rfl, fun x hx => absurd hx (Nat.not_lt_zero x)⟩
    · show ThingsOf (s 33) (s 32 1).toNat (s 2 1) (s 6 6) (s 12) (s 13) (s 14)
      have f1 : s 32 1 = 0 := f1
      rw [f1, f3, g2]
      exact Or.inl ⟨rfl, Or.inl rfl, fun x hx => absurd hx (Nat.not_lt_zero x), rfl, fun x hx => absurd hx (Nat.not_lt_zero x)⟩
    · show WindOf (s 35) (s 34 1).toNat (s 2 2) (s 15)
      have f1 : s 34 1 = 0 := f1
      rw [f1, f3]
      exact Or.inl ⟨rfl, fun x hx => absurd hx (Nat.not_lt_zero x), fun x hx => absurd hx (Nat.not_lt_zero x), fun x _ hx => i x hx⟩
