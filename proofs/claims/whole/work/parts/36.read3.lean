theorem op_read {v1 : Int} {s : Sto} (hS : RSh s) (hR : RRg s) : P_X11_read v1 s (fun r s1 => P_X12_read v1 s1 (fun r2 s2 => r2 = r ∧ RSh s2 ∧ RRg s2 ∧ Same (fun a b => DRg a b ∨ (a = 0 ∧ b = 11) ∨ (a = 69 ∧ b = 4)) s s2 ∧ (Same (fun a b => (a = 0 ∧ b = 11) ∨ (a = 69 ∧ b = 4)) s s2 ∨ s2 0 12 = 0))) := by
  unfold P_X11_read
  refine ⟨fun h => ?_, fun h => ?_⟩
  · unfold P_X12_read
    exact ⟨fun _ => ⟨rfl, hS, hR, Same.rfl', Or.inl Same.rfl'⟩, fun q => absurd (isSheet_0.mpr (within_0.mp h)) q⟩
  · have hv := Decidable.not_not.mp (mt within_0.mpr h)
    obtain ⟨k, rfl⟩ := Int.eq_ofNat_of_zero_le hv.1
    have hk : k < 4 := by omega
    have hin : inb (k : Int) 4 := ⟨by omega, by omega⟩
    have g : ∀ t : Sto, ¬ F_X12_isSheet (k : Int) t = 0 := fun t q => absurd hv (isSheet_0.mp q)
    obtain ⟨a1, a2, a3⟩ := hS.2 k hk
    obtain ⟨r1, r2, r3⟩ := id hR
    obtain ⟨n0, hn0⟩ := Int.eq_ofNat_of_zero_le r2.1
    rw [Int.toNat_natCast]
    refine ⟨hin, fun h2 => ?_, fun h2 s13 e13 => ?_⟩
    · rw [isLost_0, a1] at h2
      obtain ⟨b1, b2, b3, b4⟩ := a3 h2
      have main : ∀ (c : Nat) (t : Sto), (∀ j, j < c → rdOk (s (36 + 2 * k + 1)) (s (36 + 2 * k) 1) n0 j) → ¬ rdOk (s (36 + 2 * k + 1)) (s (36 + 2 * k) 1) n0 c → t 6 0 = (n0 : Int) + c → (∀ j, j < c → t 7 (n0 + j) = s (36 + 2 * k + 1) (5 * j) ∧ t 8 (n0 + j) = s (36 + 2 * k + 1) (5 * j + 1) ∧ t 9 (n0 + j) = s (36 + 2 * k + 1) (5 * j + 2) ∧ t 10 (n0 + j) = s (36 + 2 * k + 1) (5 * j + 3) ∧ t 11 (n0 + j) = s (36 + 2 * k + 1) (5 * j + 4)) → Same (fun a b => (a = 6 ∧ b = 0) ∨ (7 ≤ a ∧ a ≤ 11 ∧ n0 ≤ b)) s t → ∀ s8 : Sto, s8 = up t 0 12 0 → P_X12_read (k : Int) s8 (fun r2 s2 => r2 = (c : Int) ∧ RSh s2 ∧ RRg s2 ∧ Same (fun a b => DRg a b ∨ (a = 0 ∧ b = 11) ∨ (a = 69 ∧ b = 4)) s s2 ∧ (Same (fun a b => (a = 0 ∧ b = 11) ∨ (a = 69 ∧ b = 4)) s s2 ∨ s2 0 12 = 0)) := by
        intro c t t1 t2 t3 t4 t5 s8 e8
        have e9 : ∀ a b, ¬ (a = 0 ∧ b = 12) → ¬ ((a = 6 ∧ b = 0) ∨ (7 ≤ a ∧ a ≤ 11 ∧ n0 ≤ b)) → s8 a b = s a b := fun a b q1 q2 => by rw [e8, up_c2 q1, t5 a b q2]
        have e70 : s8 70 k = s 70 k := e9 _ _ (by omega) (by omega)
        have e71 : s8 71 k = s 71 k := e9 _ _ (by omega) (by omega)
        have e72 : ∀ b, s8 72 b = s 72 b := fun b => e9 _ _ (by omega) (by omega)
        unfold P_X12_read
        rw [Int.toNat_natCast, e70]
        refine ⟨fun q => absurd q (g s8), fun _ => ⟨hin, fun _ => ?_, fun q => absurd (by omega) q⟩⟩
        refine T_mread hk (by rw [e71]; exact ⟨b2, b3⟩) (by rw [e9 _ _ (by omega) (by omega), hn0]) (by omega) (fun d u u1 u2 u3 u4 u5 => ?_)
        rw [e71] at u1 u2
        simp only [e72] at u1 u2 u4
        have tr : ∀ j, rdOk (s (36 + 2 * k + 1)) (s (36 + 2 * k) 1) n0 j ↔ rdOk (fun j => s 72 (60 * k + j)) (s 71 k) n0 j := by
          intro j
          unfold rdOk
          rw [b1]
          constructor
          · rintro ⟨w1, w2, w3⟩
            refine ⟨w1, w2, ?_⟩
            rw [b4 _ (by omega), b4 _ (by omega), b4 _ (by omega), b4 _ (by omega), b4 _ (by omega)] at w3
            exact w3
          · rintro ⟨w1, w2, w3⟩
            refine ⟨w1, w2, ?_⟩
            rw [b4 _ (by omega), b4 _ (by omega), b4 _ (by omega), b4 _ (by omega), b4 _ (by omega)]
            exact w3
        have ecd : c = d := rdOk_one (fun j hj => (tr j).mp (t1 j hj)) (fun w => t2 ((tr c).mpr w)) u1 u2
        subst ecd
        have hc8 : n0 + c ≤ 8 := by
          rcases Nat.eq_zero_or_pos c with w | w
          · omega
          · have := (t1 (c - 1) (by omega)).2.1
            omega
        have eu : ∀ a b, ¬ (a = 0 ∧ b = 12) → ¬ ((a = 6 ∧ b = 0) ∨ (7 ≤ a ∧ a ≤ 11 ∧ n0 ≤ b)) → ¬ ((a = 69 ∧ b = 14) ∨ (a = 79 ∧ 5 * n0 ≤ b)) → u a b = s a b := fun a b q1 q2 q3 => by rw [u5 a b q3, e9 a b q1 q2]
        have ec : ∀ a b, 6 ≤ a → a ≤ 11 → u a b = t a b := fun a b q1 q2 => by rw [u5 a b (by omega), e8, up_c (by omega)]
        refine ⟨rfl, ⟨?_, fun j hj => (hS.2 j hj).cg ?_ ?_ ?_ ?_ (fun i _ => ?_) (fun i _ => ?_)⟩, ⟨?_, ?_, fun r hr => ?_⟩, fun a b hd => ?_, Or.inr ?_⟩
        · rw [eu _ _ (by omega) (by omega) (by omega), eu _ _ (by omega) (by omega) (by omega)]; exact hS.1
        · exact eu _ _ (by omega) (by omega) (by omega)
        · exact eu _ _ (by omega) (by omega) (by omega)
        · exact eu _ _ (by omega) (by omega) (by omega)
        · exact eu _ _ (by omega) (by omega) (by omega)
        · exact eu _ _ (by omega) (by omega) (by omega)
        · exact eu _ _ (by omega) (by omega) (by omega)
        · rw [ec _ _ (by omega) (by omega), t3, u3]
        · rw [u3]; omega
        · rw [u3] at hr
          by_cases er : r < n0
          · have hr3 := r3 r (by omega)
            unfold RR1 at hr3 ⊢
            rw [eu 7 r (by omega) (by omega) (by omega), eu 8 r (by omega) (by omega) (by omega), eu 9 r (by omega) (by omega) (by omega), eu 10 r (by omega) (by omega) (by omega), eu 11 r (by omega) (by omega) (by omega), eu 79 _ (by omega) (by omega) (by omega), eu 79 _ (by omega) (by omega) (by omega), eu 79 _ (by omega) (by omega) (by omega), eu 79 _ (by omega) (by omega) (by omega), eu 79 _ (by omega) (by omega) (by omega)]
            exact hr3
          · obtain ⟨j, rfl⟩ : ∃ j, r = n0 + j := ⟨r - n0, by omega⟩
            have hj : j < c := by omega
            obtain ⟨w1, w2, w3⟩ := t1 j hj
            rw [b1] at w1
            obtain ⟨z0, z1, z2, z3, z4⟩ := t4 j hj
            have y0 := u4 j hj 0 (by omega)
            have y1 := u4 j hj 1 (by omega)
            have y2 := u4 j hj 2 (by omega)
            have y3 := u4 j hj 3 (by omega)
            have y4 := u4 j hj 4 (by omega)
            simp only [Nat.add_zero] at y0
            rw [b4 _ (by omega)] at z0 z1 z2 z3 z4
            rw [b4 _ (by omega), b4 _ (by omega), b4 _ (by omega), b4 _ (by omega), b4 _ (by omega)] at w3
            unfold RR1
            rw [ec 7 _ (by omega) (by omega), ec 8 _ (by omega) (by omega), ec 9 _ (by omega) (by omega), ec 10 _ (by omega) (by omega), ec 11 _ (by omega) (by omega), z0, z1, z2, z3, z4, y0, y1, y2, y3, y4]
            exact ⟨⟨rfl, rfl, rfl, rfl, rfl⟩, w3.1, w3.2.1, w3.2.2.1, w3.2.2.2.1, w3.2.2.2.2⟩
        · unfold DRg at hd
          exact eu a b (by omega) (by omega) (by omega)
        · rw [u5 _ _ (by omega), e8, up_at]
      exact T_cread (by omega) (by rw [b1]; exact ⟨b2, b3⟩) (by rw [r1, hn0]) (by omega) (fun c t t1 t2 t3 t4 t5 => ⟨main c t t1 t2 t3 t4 t5, main c t t1 t2 t3 t4 t5⟩)
    · have h3 : s 70 k = -1 := by
        rw [isLost_0, a1] at h2
        exact Decidable.not_not.mp h2
      have e70 : s13 70 k = -1 := by rw [e13]; unfold S_X11_found; rw [up_c (by omega)]; exact h3
      unfold P_X12_read
      rw [Int.toNat_natCast]
      refine ⟨fun q => absurd q (g s13), fun _ => ⟨hin, fun q => absurd q (by omega), fun _ s8 e8 => ?_⟩⟩
      subst e8
      subst e13
      have hsm : Same (fun a b => (a = 0 ∧ b = 11) ∨ (a = 69 ∧ b = 4)) s (S_X12_finds 1 (S_X11_found 1 s)) := (Same.rfl'.up (Or.inl ⟨rfl, rfl⟩)).up (Or.inr ⟨rfl, rfl⟩)
      refine ⟨rfl, hS.found, hR.cg (fun a b q1 q2 => hsm a b (by unfold DRg at q1; omega)), hsm.mono (fun a b q => Or.inr q), Or.inl hsm⟩
