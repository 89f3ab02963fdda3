/-! ===== copy ===== -/
/-- what is found of a copy: 0 nothing -/
def cpF (f1 f3 n1 n3 i j n : Int) : Int := if f1 < 0 ∨ f3 < 0 then 1 else if f1 ≠ f3 then 4 else if 0 ≤ i ∧ 0 ≤ j ∧ 0 ≤ n ∧ i + n ≤ n1 ∧ j + n ≤ n3 then 0 else 2
theorem T_mcopy {k1 k3 : Nat} {i j n : Int} {s : Sto} {Q : Int → Sto → Prop} (h1 : k1 < 4) (h3 : k3 < 4) (ri : r32 i) (rj : r32 j) (rn : r32 n) (hl1 : 0 ≤ s 70 k1 → s 71 k1 ≤ 60) (hl3 : 0 ≤ s 70 k3 → s 71 k3 ≤ 60)
    (hf : ∀ c, cpF (s 70 k1) (s 70 k3) (s 71 k1) (s 71 k3) i j n = c → c ≠ 0 → Q (F_X12_finds c s) (up s 69 4 c))
    (h0 : cpF (s 70 k1) (s 70 k3) (s 71 k1) (s 71 k3) i j n = 0 → 0 ≤ i → 0 ≤ j → 0 ≤ n → i + n ≤ s 71 k1 → j + n ≤ s 71 k3 → ∀ t, (∀ a : Nat, (a : Int) < n → t 72 (60 * k3 + (j.toNat + a)) = s 72 (60 * k1 + (i.toNat + a))) → Same (fun a b => a = 73 ∨ (a = 72 ∧ (60 * k3 + j.toNat ≤ b ∧ b < 60 * k3 + j.toNat + n.toNat))) s t → Q 1 t) :
    P_X12_copy (k1 : Int) i (k3 : Int) j n s Q := by
  have b1 : inb (k1 : Int) 4 := ⟨by omega, by omega⟩
  have b3 : inb (k3 : Int) 4 := ⟨by omega, by omega⟩
  unfold r32 at ri rj rn
  unfold P_X12_copy
  rw [Int.toNat_natCast, Int.toNat_natCast]
  refine ⟨fun q => absurd (isSheet_0.mp q) (by omega), fun _ => ⟨fun q => absurd (isSheet_0.mp q) (by omega), fun _ => ⟨b1, fun c1 => ?_, fun c1 => ⟨b3, fun c2 => ⟨b1, b3, fun c3 => ?_, fun c3 => ?_⟩, fun c2 => ?_⟩⟩⟩⟩
  · intro s7 e7; subst e7
    exact hf 1 (by unfold cpF; rw [if_pos (Or.inl c1)]) (by decide)
  · have e : w64 (i + n) = i + n := w64_of (by omega) (by omega)
    have e' : w64 (j + n) = j + n := w64_of (by omega) (by omega)
    have hc : ¬ (s 70 k1 < 0 ∨ s 70 k3 < 0) := by omega
    have f2 : ¬ (0 ≤ i ∧ 0 ≤ j ∧ 0 ≤ n ∧ i + n ≤ s 71 k1 ∧ j + n ≤ s 71 k3) → cpF (s 70 k1) (s 70 k3) (s 71 k1) (s 71 k3) i j n = 2 := fun q => by
      unfold cpF; rw [if_neg hc, if_neg (fun w => w c3), if_neg q]
    rw [e, e']
    refine ⟨fun d => ?_, fun d => ⟨fun d2 => ?_, fun d2 => ⟨fun d3 => ?_, fun d3 => ⟨b1, fun d4 => ?_, fun d4 => ⟨b3, fun d5 => ?_, fun d5 => ?_⟩⟩⟩⟩⟩
    · intro s7 e7; subst e7; exact hf 2 (f2 (by omega)) (by decide)
    · intro s7 e7; subst e7; exact hf 2 (f2 (by omega)) (by decide)
    · intro s7 e7; subst e7; exact hf 2 (f2 (by omega)) (by decide)
    · intro s7 e7; subst e7; exact hf 2 (f2 (by omega)) (by decide)
    · have hl1 := hl1 (by omega)
      have hl3 := hl3 (by omega)
      refine T_mcopy1 h1 (by omega) (by omega) (by omega) (fun t t1 t2 => ?_)
      refine T_mcopy2 h3 (by omega) (by omega) (by omega) (fun u u1 u2 => ?_)
      refine h0 (by unfold cpF; rw [if_neg hc, if_neg (fun w => w c3), if_pos (by omega)]) (by omega) (by omega) (by omega) (by omega) (by omega) u (fun a ha => ?_) ((t2.mono (fun a b q => Or.inl q)).trans (u2.mono (fun a b q => Or.inr q)))
      rw [u1 a ha, t1 a ha]
    · intro s7 e7; subst e7; exact hf 2 (f2 (by omega)) (by decide)
  · intro s7 e7; subst e7
    exact hf 4 (by unfold cpF; rw [if_neg (by omega), if_pos c3]) (by decide)
  · intro s7 e7; subst e7
    exact hf 1 (by unfold cpF; rw [if_pos (Or.inr (by omega))]) (by decide)
theorem T_ccopy {k1 k3 : Nat} {i j n : Int} {s : Sto} {Q : Int → Sto → Prop} (h1 : k1 < 4) (h3 : k3 < 4) (ri : r32 i) (rj : r32 j) (hR : RSh s)
    (hf : ∀ c, cpF (s 70 k1) (s 70 k3) (s 71 k1) (s 71 k3) i j n = c → c ≠ 0 → Q (F_X11_found c s) (up s 0 11 c))
    (h0 : cpF (s 70 k1) (s 70 k3) (s 71 k1) (s 71 k3) i j n = 0 → 0 ≤ i → 0 ≤ j → 0 ≤ n → i + n ≤ s 71 k1 → j + n ≤ s 71 k3 → s 71 k1 ≤ 60 → s 71 k3 ≤ 60 → Q 1 (cpy s (36 + 2 * k1 + 1) i.toNat (36 + 2 * k3 + 1) j.toNat n.toNat)) :
    P_X11_copy (k1 : Int) i (k3 : Int) j n s Q := by
  have b1 : inb (k1 : Int) 4 := ⟨by omega, by omega⟩
  have b3 : inb (k3 : Int) 4 := ⟨by omega, by omega⟩
  obtain ⟨p1, p2, p3⟩ := hR.2 k1 h1
  obtain ⟨q1, q2, q3⟩ := hR.2 k3 h3
  unfold P_X11_copy
  rw [Int.toNat_natCast, Int.toNat_natCast]
  refine ⟨fun q => absurd (within_0.mp q) (by omega), fun _ => ⟨fun q => absurd (within_0.mp q) (by omega), fun _ => ⟨b1, b3, fun c1 => ⟨fun c2 => ⟨fun c3 => ?_, fun c3 => ?_⟩, fun c2 => ?_⟩, fun c1 => ?_⟩⟩⟩
  · rw [isLost_0, p1] at c1
    rw [isLost_0, q1] at c2
    rw [p1, q1] at c3
    obtain ⟨p4, p5, p6, p7⟩ := p3 c1
    obtain ⟨q4, q5, q6, q7⟩ := q3 c2
    have hc : ¬ (s 70 k1 < 0 ∨ s 70 k3 < 0) := by omega
    have z1 := hasRun_0 (o := 36 + 2 * k1) (n := n) (s := s) ri (by rw [p4]; omega)
    have z3 := hasRun_0 (o := 36 + 2 * k3) (n := n) (s := s) rj (by rw [q4]; omega)
    rw [p4] at z1
    rw [q4] at z3
    have f2 : ¬ (0 ≤ i ∧ 0 ≤ j ∧ 0 ≤ n ∧ i + n ≤ s 71 k1 ∧ j + n ≤ s 71 k3) → cpF (s 70 k1) (s 70 k3) (s 71 k1) (s 71 k3) i j n = 2 := fun q => by
      unfold cpF; rw [if_neg hc, if_neg (fun w => w c3), if_neg q]
    refine ⟨fun d => ?_, fun d => ⟨fun d2 => ?_, fun d2 => ?_⟩⟩
    · intro s7 e7; subst e7
      have := z1.mp d
      exact hf 2 (f2 (by omega)) (by decide)
    · intro s7 e7; subst e7
      have := z3.mp d2
      exact hf 2 (f2 (by omega)) (by decide)
    · have y1 := Decidable.not_not.mp (mt z1.mpr d)
      have y3 := Decidable.not_not.mp (mt z3.mpr d2)
      refine ⟨y1.1, y3.1, y1.2.1, by omega, by omega, fun s23 e23 => ?_⟩
      subst e23
      exact h0 (by unfold cpF; rw [if_neg hc, if_neg (fun w => w c3), if_pos (by omega)]) y1.1 y3.1 y1.2.1 y1.2.2 y3.2.2 p6 q6
  · rw [isLost_0, p1] at c1
    rw [isLost_0, q1] at c2
    rw [p1, q1] at c3
    intro s7 e7; subst e7
    exact hf 4 (by unfold cpF; rw [if_neg (by omega), if_pos c3]) (by decide)
  · rw [isLost_0, q1] at c2
    have := Decidable.not_not.mp c2
    intro s7 e7; subst e7
    exact hf 1 (by unfold cpF; rw [if_pos (Or.inr (by omega))]) (by decide)
  · rw [isLost_0, p1] at c1
    have := Decidable.not_not.mp c1
    intro s7 e7; subst e7
    exact hf 1 (by unfold cpF; rw [if_pos (Or.inl (by omega))]) (by decide)
theorem op_copy {v1 v2 v3 v4 v5 : Int} {s : Sto} (hR : RSh s) (r2 : r32 v2) (r4 : r32 v4) (r5 : r32 v5) : P_X11_copy v1 v2 v3 v4 v5 s (fun r s1 => P_X12_copy v1 v2 v3 v4 v5 s1 (fun r2 s2 => r2 = r ∧ RSh s2 ∧ Same DSh s s2)) := by
  by_cases c1 : 0 ≤ v1 ∧ v1 ≤ 3
  · by_cases c3 : 0 ≤ v3 ∧ v3 ≤ 3
    · obtain ⟨k1, rfl⟩ := Int.eq_ofNat_of_zero_le c1.1
      obtain ⟨k3, rfl⟩ := Int.eq_ofNat_of_zero_le c3.1
      have h1 : k1 < 4 := by omega
      have h3 : k3 < 4 := by omega
      obtain ⟨p1, p2, p3⟩ := hR.2 k1 h1
      obtain ⟨q1, q2, q3⟩ := hR.2 k3 h3
      refine T_ccopy h1 h3 r2 r4 hR (fun c hc hc0 => ?_) (fun hc i0 j0 n0 l1 l3 m1 m3 => ?_)
      · have e : ∀ a b, a ≠ 0 → up s 0 11 c a b = s a b := fun a b q => up_c q
        refine T_mcopy h1 h3 r2 r4 r5 ?_ ?_ (fun c' hc' hc0' => ?_) (fun hc' => ?_)
        · rw [e _ _ (by decide), e _ _ (by decide)]; exact fun q => (p3 (by omega)).2.2.1
        · rw [e _ _ (by decide), e _ _ (by decide)]; exact fun q => (q3 (by omega)).2.2.1
        · rw [e _ _ (by decide), e _ _ (by decide), e _ _ (by decide), e _ _ (by decide), hc] at hc'
          subst hc'
          exact ⟨rfl, hR.found, DSh.found⟩
        · rw [e _ _ (by decide), e _ _ (by decide), e _ _ (by decide), e _ _ (by decide), hc] at hc'
          exact absurd hc' hc0
      · have e : ∀ a b, a ≠ 36 + 2 * k3 + 1 → cpy s (36 + 2 * k1 + 1) v2.toNat (36 + 2 * k3 + 1) v4.toNat v5.toNat a b = s a b := fun a b q => by unfold cpy upR; rw [if_neg q]
        refine T_mcopy h1 h3 r2 r4 r5 ?_ ?_ (fun c' hc' hc0' => ?_) (fun hc' _ _ _ _ _ t t1 t2 => ?_)
        · rw [e _ _ (by omega), e _ _ (by omega)]; exact fun q => (p3 (by omega)).2.2.1
        · rw [e _ _ (by omega), e _ _ (by omega)]; exact fun q => (q3 (by omega)).2.2.1
        · rw [e _ _ (by omega), e _ _ (by omega), e _ _ (by omega), e _ _ (by omega), hc] at hc'
          exact absurd hc'.symm hc0'
        · have f1 : s 70 k1 = s 70 k3 ∧ 0 ≤ s 70 k1 := by
            unfold cpF at hc
            split at hc
            · omega
            · split at hc
              · omega
              · next w1 w2 => exact ⟨Decidable.not_not.mp w2, by omega⟩
          obtain ⟨p4, p5, p6, p7⟩ := p3 (by omega)
          obtain ⟨q4, q5, q6, q7⟩ := q3 (by omega)
          have g : ∀ a b, a ≠ 73 → ¬ (a = 72 ∧ (60 * k3 + v4.toNat ≤ b ∧ b < 60 * k3 + v4.toNat + v5.toNat)) → a ≠ 36 + 2 * k3 + 1 → t a b = s a b := fun a b w1 w2 w3 => by
            rw [t2 a b (by omega), e a b w3]
          have g2 : ∀ b, t (36 + 2 * k3 + 1) b = if v4.toNat ≤ b ∧ b < v4.toNat + v5.toNat then s (36 + 2 * k1 + 1) (v2.toNat + (b - v4.toNat)) else s (36 + 2 * k3 + 1) b := fun b => by
            rw [t2 _ b (by omega)]
            unfold cpy upR
            rw [if_pos rfl]
          refine ⟨rfl, ⟨?_, fun j hj => ?_⟩, fun a b hd => ?_⟩
          · rw [g _ _ (by omega) (by omega) (by omega), g _ _ (by omega) (by omega) (by omega)]; exact hR.1
          · by_cases ej : j = k3
            · subst ej
              unfold RS1
              rw [g _ _ (by omega) (by omega) (by omega), g _ _ (by omega) (by omega) (by omega), g _ _ (by omega) (by omega) (by omega), g _ _ (by omega) (by omega) (by omega)]
              refine ⟨q1, q2, fun _ => ⟨q4, q5, q6, fun b hb => ?_⟩⟩
              rw [g2 b]
              by_cases w : v4.toNat ≤ b ∧ b < v4.toNat + v5.toNat
              · rw [if_pos w]
                have z := t1 (b - v4.toNat) (by omega)
                rw [show j = j from rfl, show v4.toNat + (b - v4.toNat) = b by omega, e _ _ (by omega)] at z
                rw [z]
                exact p7 _ (by omega)
              · rw [if_neg w, g 72 _ (by omega) (by omega) (by omega)]
                exact q7 b hb
            · refine (hR.2 j hj).cg ?_ ?_ ?_ ?_ (fun i _ => ?_) (fun i _ => ?_)
              all_goals exact g _ _ (by omega) (by omega) (by omega)
          · unfold DSh at hd
            exact g a b (by omega) (by omega) (by omega)
    · unfold P_X11_copy
      refine ⟨fun q => absurd c1 (within_0.mp q), fun _ => ⟨fun _ => ?_, fun q => absurd (within_0.mpr c3) q⟩⟩
      unfold P_X12_copy
      exact ⟨fun q => absurd c1 (isSheet_0.mp q), fun _ => ⟨fun _ => ⟨rfl, hR, Same.rfl'⟩, fun q => absurd (isSheet_0.mpr c3) q⟩⟩
  · unfold P_X11_copy
    refine ⟨fun _ => ?_, fun q => absurd (within_0.mpr c1) q⟩
    unfold P_X12_copy
    exact ⟨fun _ => ⟨rfl, hR, Same.rfl'⟩, fun q => absurd (isSheet_0.mpr c1) q⟩
