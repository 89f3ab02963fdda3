/-! ===== the valley's text, the model's side ===== -/
theorem T_mvalley0 {n : Nat} {s s1 : Sto} {K1 K2 K3 : Int → Sto → Prop} (h41 : n ≤ 41) (hs1 : Same (fun a b => a = 76 ∨ (a = 69 ∧ (b = 7 ∨ b = 8))) s s1) (h7 : s1 69 7 = 0) (h8 : s1 69 8 = 0)
    (h3 : ∀ t, (∀ i, i < n → vOk (s 74) i) → t 69 7 = vCe (s 74) n → t 69 8 = vWi (s 74) n → (∀ i, i < n → ¬ s 74 i = 59 → t 76 (vCe (s 74) i).toNat = if s 74 i = 35 then 1 else 0) → Same (fun a b => a = 76 ∨ (a = 69 ∧ (b = 7 ∨ b = 8))) s t → K3 (vRo (s 74) n) t)
    (h1 : ∀ (i : Nat) (t : Sto), i < n → ¬ vOk (s 74) i → (∀ j, j < i → vOk (s 74) j) → Same (fun a b => a = 76 ∨ (a = 69 ∧ (b = 7 ∨ b = 8))) s t → K1 i t ∧ K2 i t) : ∃ m, L_X12_readsValley_24 (n : Int) K1 K2 K3 m 0 0 0 s1 := by
  obtain ⟨b, hb⟩ : ∃ b, b = s 74 := ⟨_, rfl⟩
  rw [← hb] at h3 h1
  refine lp4 (L_X12_readsValley_24 (n : Int) K1 K2 K3) (fun x y w t => ∃ k : Nat, w = k ∧ k ≤ n ∧ (∀ j, j < k → vOk b j) ∧ x = vRs b k ∧ y = vRo b k ∧ t 69 7 = vCe b k ∧ t 69 8 = vWi b k ∧ (∀ i, i < k → ¬ b i = 59 → t 76 (vCe b i).toNat = if b i = 35 then 1 else 0) ∧ Same (fun a b => a = 76 ∨ (a = 69 ∧ (b = 7 ∨ b = 8))) s t) (fun _ _ w _ => ((n : Int) - w).toNat) ?_ 0 0 0 s1 ⟨0, rfl, by omega, fun j hj => absurd hj (Nat.not_lt_zero j), rfl, rfl, h7, h8, fun j hj => absurd hj (Nat.not_lt_zero j), hs1⟩
  rintro m x y w t ⟨k, rfl, i1, i2, rfl, rfl, i3, i4, i5, i6⟩ ih
  obtain ⟨a1, a2, a3, a4, a5, a6, a7, -, a9⟩ := vInv k i2
  unfold L_X12_readsValley_24
  refine ⟨fun q => ?_, fun q => ⟨⟨by omega, by omega⟩, fun x3 e3 => ?_⟩⟩
  · have e : k = n := by omega
    subst e
    exact h3 t i2 i3 i4 i5 i6
  · rw [Int.toNat_natCast, i6 74 k (by omega), ← hb] at e3
    subst e3
    rw [i4, i3]
    have hbad : ¬ vOk b k → K1 k t ∧ K2 k t := fun w => h1 k t (by omega) w i2 i6
    have i2' : vOk b k → ∀ j, j < k + 1 → vOk b j := fun hk j hj => by
      by_cases ej : j = k
      · rw [ej]; exact hk
      · exact i2 j (by omega)
    have hmono : ∀ i, i < k → ¬ b i = 59 → vCe b i < vCe b k := by
      intro i hi hc
      have : ∀ d, vCe b i + 1 ≤ vCe b (i + 1 + d) := by
        intro d
        induction d with
        | zero => rw [Nat.add_zero, (vS_cell hc).2.2.2]; omega
        | succ d ihd =>
          by_cases c : b (i + 1 + d) = 59
          · rw [← Nat.add_assoc, (vS_semi c).2.2.2]; exact ihd
          · rw [← Nat.add_assoc, (vS_cell c).2.2.2]; omega
      have h2 := this (k - (i + 1))
      rw [show i + 1 + (k - (i + 1)) = k by omega] at h2
      omega
    have hnn : ∀ i, i ≤ k → 0 ≤ vCe b i := fun i hi => (vInv i (fun j hj => i2 j (by omega))).2.2.2.2.1.1
    have hsemi : b k = 59 → vOk b k → ∀ s7, s7 = up t 69 8 (vRo b k) → L_X12_readsValley_24 (n : Int) K1 K2 K3 m (w32 (vRs b k + 1)) 0 (w32 ((k : Int) + 1)) s7 := by
      intro c hk s7 e7
      obtain ⟨e1, e2, e3, e4⟩ := vS_semi c
      rw [w32_of (by omega) (by omega), w32_of (by omega) (by omega)]
      refine ih _ _ _ _ ⟨k + 1, by omega, by omega, i2' hk, e1.symm, e2.symm, ?_, ?_, fun i hi hc => ?_, by rw [e7]; exact i6.up (Or.inr ⟨rfl, Or.inr rfl⟩)⟩ (by omega)
      · rw [e7, up_j (by omega), i3, e4]
      · rw [e7, up_at, e3]
      · rw [e7, up_c (by omega)]
        by_cases ei : i = k
        · rw [ei] at hc; exact absurd c hc
        · exact i5 i (by omega) hc
    have hcell : ¬ b k = 59 → vOk b k → ∀ v : Int, v = (if b k = 35 then 1 else 0) → ∀ s18 : Sto, s18 = up t 76 (vCe b k).toNat v → ∀ s19 : Sto, s19 = up s18 69 7 (w32 (s18 69 7 + 1)) → L_X12_readsValley_24 (n : Int) K1 K2 K3 m (vRs b k) (w32 (vRo b k + 1)) (w32 ((k : Int) + 1)) s19 := by
      intro c hk v ev s18 e18 s19 e19
      obtain ⟨e1, e2, e3, e4⟩ := vS_cell c
      have e7 : s18 69 7 = vCe b k := by rw [e18, up_c (by omega), i3]
      rw [e7, w32_of (by omega) (by omega)] at e19
      rw [w32_of (by omega) (by omega), w32_of (by omega) (by omega)]
      refine ih _ _ _ _ ⟨k + 1, by omega, by omega, i2' hk, e1.symm, e2.symm, ?_, ?_, fun i hi hc => ?_, by rw [e19, e18]; exact (i6.up (Or.inl rfl)).up (Or.inr ⟨rfl, Or.inl rfl⟩)⟩ (by omega)
      · rw [e19, up_at, e4]
      · rw [e19, up_j (by omega), e18, up_c (by omega), i4, e3]
      · rw [e19, up_c (by omega), e18]
        by_cases ei : i = k
        · rw [ei, up_at, ev]
        · have z1 := hmono i (by omega) hc
          have z2 := hnn i (by omega)
          rw [up_j (by omega)]
          exact i5 i (by omega) hc
    have hc6 : ¬ b k = 59 → (b k = 46 ∨ b k = 35) → ¬ vRs b k = 6 → ¬ vRo b k = (if vWi b k = 0 then 6 else vWi b k) → vOk b k ∧ inb (vCe b k) 36 := by
      intro c c4 c5 c6
      refine ⟨Or.inr ⟨c4, c5, c6⟩, by omega, ?_⟩
      split at c6 <;> split at a4 <;> omega
    refine ⟨fun c => ⟨fun w => (hbad (fun v => ?_)).1, fun w => ⟨fun w2 s7 e7 => hsemi c (Or.inl ⟨c, w, by omega⟩) s7 e7, fun w2 => ⟨fun w3 s9 e9 => hsemi c (Or.inl ⟨c, w, w3⟩) s9 e9, fun w3 => (hbad (fun v => ?_)).1⟩⟩⟩, fun c => ⟨fun c2 => ⟨fun w => (hbad (fun v => ?_)).2, fun w x12 e12 => ⟨fun w2 => (hbad (fun v => ?_)).2, fun w2 x15 e15 => ?_⟩⟩, fun c2 => ⟨fun c3 => ⟨fun w => (hbad (fun v => ?_)).2, fun w x22 e22 => ⟨fun w2 => (hbad (fun v => ?_)).2, fun w2 => ?_⟩⟩, fun c3 => (hbad (fun v => ?_)).2⟩⟩⟩
    · rcases v with v | v
      · exact v.2.1 w
      · omega
    · rcases v with v | v
      · exact w3 v.2.2
      · omega
    · rcases v with v | v
      · exact c v.1
      · exact v.2.1 w
    · rw [e12] at w2
      rcases v with v | v
      · exact c v.1
      · exact v.2.2 w2
    · rw [e12] at w2
      obtain ⟨g1, g2⟩ := hc6 c (Or.inl c2) w w2
      exact ⟨g2, fun s18 e18 s19 e19 => hcell c g1 x15 e15 s18 e18 s19 e19⟩
    · rcases v with v | v
      · exact c v.1
      · exact v.2.1 w
    · rw [e22] at w2
      rcases v with v | v
      · exact c v.1
      · exact v.2.2 w2
    · rw [e22] at w2
      obtain ⟨g1, g2⟩ := hc6 c (Or.inr c3) w w2
      exact ⟨g2, fun s18 e18 s19 e19 => hcell c g1 1 (by rw [if_pos c3]) s18 e18 s19 e19⟩
    · rcases v with v | v
      · exact c v.1
      · omega
theorem T_mvalley {n : Nat} {s : Sto} {Q : Int → Sto → Prop} (hn : s 75 0 = n) (h41 : n ≤ 41) (h : ∀ f t, ValleyOf (s 74) n f (t 69 7) (t 69 8) (t 76) → Same (fun a b => a = 76 ∨ (a = 69 ∧ (b = 7 ∨ b = 8))) s t → Q f t) : P_X12_readsValley s Q := by
  unfold P_X12_readsValley
  intro s1 e1 s2 e2
  refine ⟨⟨by omega, by omega⟩, fun x4 e4 => ?_⟩
  have ex : x4 = (n : Int) := by rw [e4, show (0 : Int).toNat = 0 from rfl, e2, up_c (by omega), e1, up_c (by omega), hn]
  subst ex
  have hS2 : Same (fun a b => a = 76 ∨ (a = 69 ∧ (b = 7 ∨ b = 8))) s s2 := by rw [e2, e1]; exact (Same.rfl'.up (Or.inr ⟨rfl, Or.inl rfl⟩)).up (Or.inr ⟨rfl, Or.inr rfl⟩)
  have htorn : ∀ (t u : Sto) (z : Int), u = S_X12_torn z t → Same (fun a b => a = 76 ∨ (a = 69 ∧ (b = 7 ∨ b = 8))) s t → u 69 7 = 0 ∧ u 69 8 = 0 ∧ F_X12_torn z t = z ∧ Same (fun a b => a = 76 ∨ (a = 69 ∧ (b = 7 ∨ b = 8))) s u := by
    intro t u z e hS
    unfold S_X12_torn at e
    refine ⟨by rw [e, up_j (by omega), up_at], by rw [e, up_at], rfl, ?_⟩
    rw [e]; exact (hS.up (Or.inr ⟨rfl, Or.inl rfl⟩)).up (Or.inr ⟨rfl, Or.inr rfl⟩)
  refine T_mvalley0 h41 hS2 (by rw [e2, up_j (by omega), e1, up_at]) (by rw [e2, up_at]) (fun t t1 t2 t3 t4 t5 => ?_) (fun i t t1 t2 t3 t4 => ⟨fun s7 e7 => ?_, fun s7 e7 => ?_⟩)
  · obtain ⟨a1, a2, a3, a4, a5, a6, a7, -, a9⟩ := vInv n t1
    refine ⟨fun q s15 e15 => ?_, fun q => ⟨fun q2 s17 e17 => ?_, fun q2 => ⟨fun q3 s20 e20 => ?_, fun q3 s21 e21 => ?_⟩⟩⟩
    · have hn0 : n = 0 := by omega
      have hv : vRo (s 74) n = 0 := by rw [hn0]; rfl
      refine h _ s15 (Or.inl ⟨rfl, t1, Or.inl hn0, ?_, ?_, fun i hi hc => ?_⟩) (by rw [e15]; exact t5.up (Or.inr ⟨rfl, Or.inr rfl⟩))
      · rw [e15, up_j (by omega), t2]
      · rw [e15, up_at, hv]
      · omega
    · obtain ⟨z1, z2, z3, z4⟩ := htorn t s17 n e17 t5
      rw [z3]
      exact h _ s17 (Or.inr (Or.inl ⟨rfl, t1, by omega, z1, z2⟩)) z4
    · rw [t3] at q3
      refine h _ s20 (Or.inl ⟨rfl, t1, Or.inr ⟨q2, q3⟩, ?_, ?_, fun i hi hc => ?_⟩) (by rw [e20]; exact t5.up (Or.inr ⟨rfl, Or.inr rfl⟩))
      · rw [e20, up_j (by omega), t2]
      · rw [e20, up_at]
      · rw [e20, up_c (by omega)]; exact t4 i hi hc
    · rw [t3] at q3
      obtain ⟨z1, z2, z3, z4⟩ := htorn t s21 n e21 t5
      rw [z3]
      exact h _ s21 (Or.inr (Or.inl ⟨rfl, t1, by omega, z1, z2⟩)) z4
  · obtain ⟨z1, z2, z3, z4⟩ := htorn t s7 i e7 t4
    rw [z3]
    exact h _ s7 (Or.inr (Or.inr ⟨i, t1, rfl, t2, t3, z1, z2⟩)) z4
  · obtain ⟨z1, z2, z3, z4⟩ := htorn t s7 i e7 t4
    rw [z3]
    exact h _ s7 (Or.inr (Or.inr ⟨i, t1, rfl, t2, t3, z1, z2⟩)) z4
