theorem isCell_v {N s : Sto} {c : Int} (hN : NOk N) (h7 : s 69 7 = N 0 1) : F_X12_isCell c s = 0 ↔ ¬ (0 ≤ c ∧ c < N 0 1) := by
  have := hN.2.2.2.1
  unfold F_X12_isCell
  rw [h7, w32_of (by omega) (by omega), in_0]
  omega
theorem T_mblown {N σ s : Sto} {r k : Nat} (hN : NOk N) (hC : NtM N s) (hr : (r : Int) < N 0 0) (hσ : σ 1 r = 0) (hb : N 1 r = (k : Int)) (h4 : s 83 r = σ 4 r) : O_X12_isBlown (r : Int) s ∧ (∀ t, t = S_X12_isBlown (r : Int) s → t 80 r = pA1 N k σ r ∧ t 81 r = pA2 N k σ r ∧ t 82 r = 1 ∧ t 83 r = pA4 σ r ∧ Same (DMr r) s t) := by
  have hR := hN.1
  have hin : inb (r : Int) 8 := ⟨by omega, by omega⟩
  have hRr := hN.2.2.2.2.1 r hr
  have hc36 := hN.2.2.2.1
  have n1 : ¬ σ 1 r = 1 := by omega
  have q4 : pA4 σ r = σ 4 r := by unfold pA4; rw [if_neg n1]
  have q1 : pA1 N k σ r = if N 10 (N 2 r).toNat = 1 then 1 else 3 := by unfold pA1; rw [if_neg n1, if_pos ⟨hσ, hb⟩]
  have q2 : pA2 N k σ r = if N 2 r < N 0 1 then N 2 r else -1 := by unfold pA2; rw [if_neg n1, if_pos ⟨hσ, hb⟩]
  have e5 : w32 (w32 (5 * (r : Int)) + 1) = 5 * (r : Int) + 1 := by rw [w32_of (z := 5 * (r : Int)) (by omega) (by omega), w32_of (by omega) (by omega)]
  have e6 : (5 * (r : Int) + 1).toNat = 5 * r + 1 := by omega
  have e7 : s 79 (5 * r + 1) = N 2 r := (hC.2.2.2.2.1 r hr).2.2.1
  have hin40 : inb (5 * (r : Int) + 1) 40 := ⟨by omega, by omega⟩
  have g1 := isCell_v (c := N 2 r) hN hC.2.2.2.1
  have g2 : ∀ z : Int, F_X12_isCell (N 2 r) (up s 81 r z) = F_X12_isCell (N 2 r) s := fun z => by unfold F_X12_isCell F_X12_in; rw [up_c (by decide)]
  have g3 : ∀ z : Int, ∀ c, up s 81 r z 76 c = s 76 c := fun z c => up_c (by decide)
  have fin : ∀ (a b : Int) (t : Sto), t = up (up (up s 81 r a) 80 r b) 82 r 1 → b = pA1 N k σ r → a = pA2 N k σ r → t 80 r = pA1 N k σ r ∧ t 81 r = pA2 N k σ r ∧ t 82 r = 1 ∧ t 83 r = pA4 σ r ∧ Same (DMr r) s t := by
    intro a b t et w1 w2
    refine ⟨?_, ?_, by rw [et, up_at], ?_, ?_⟩
    · rw [et, up_c (by omega), up_at]; exact w1
    · rw [et, up_c (by omega), up_c (by omega), up_at]; exact w2
    · rw [et, up_c (by omega), up_c (by omega), up_c (by omega), q4]; exact h4
    · rw [et]
      exact ((Same.rfl'.up ⟨⟨by omega, by omega⟩, rfl⟩).up ⟨⟨by omega, by omega⟩, rfl⟩).up ⟨⟨by omega, by omega⟩, rfl⟩
  unfold S_X12_isBlown O_X12_isBlown
  rw [Int.toNat_natCast, e5, e6, e7]
  simp only [g2, g3]
  by_cases c : N 2 r < N 0 1
  · have f1 : ¬ F_X12_isCell (N 2 r) s = 0 := fun q => absurd (g1.mp q) (by omega)
    have e76 := hC.2.2.2.2.2.2.2.1 (N 2 r).toNat (by omega)
    rw [if_neg f1, if_neg f1]
    refine ⟨⟨hin40, fun q => absurd q f1, fun _ => ⟨hin, fun q => absurd q f1, fun _ => ⟨⟨by omega, by omega⟩, fun _ => ⟨hin, hin, trivial⟩, fun _ => ⟨hin, hin, trivial⟩⟩⟩⟩, fun t et => ?_⟩
    by_cases c2 : N 10 (N 2 r).toNat = 1
    · rw [if_pos (by omega)] at et
      exact fin _ _ t et (by rw [q1, if_pos c2]) (by rw [q2, if_pos c])
    · rw [if_neg (by omega)] at et
      exact fin _ _ t et (by rw [q1, if_neg c2]) (by rw [q2, if_pos c])
  · have f1 : F_X12_isCell (N 2 r) s = 0 := g1.mpr (by omega)
    rw [if_pos f1, if_pos f1]
    have c2 : ¬ N 10 (N 2 r).toNat = 1 := by
      have := hN.2.2.2.2.2.2.2.2.2 (N 2 r).toNat (by omega)
      omega
    refine ⟨⟨hin40, fun _ => ⟨hin, fun _ => ⟨hin, hin, trivial⟩, fun q => absurd f1 q⟩, fun q => absurd f1 q⟩, fun t et => ?_⟩
    exact fin _ _ t et (by rw [q1, if_neg c2]) (by rw [q2, if_neg c])
theorem T_mgrows {N s : Sto} {r k : Nat} (hN : NOk N) (hC : NtM N s) (hr : (r : Int) < N 0 0) (hk : k < 20) (hb : N 1 r ≤ (k : Int)) : O_X12_grows (r : Int) (k : Int) s ∧ (∀ t, t = S_X12_grows (r : Int) (k : Int) s → t 80 r = (if 9 < wdt N k r then 4 else 1) ∧ t 81 r = s 81 r ∧ t 82 r = wdt N k r ∧ t 83 r = s 83 r ∧ Same (DMr r) s t) := by
  have hR := hN.1
  have hin : inb (r : Int) 8 := ⟨by omega, by omega⟩
  have hRr := hN.2.2.2.2.1 r hr
  have hw := hN.2.2.1
  have e5 : w32 (5 * (r : Int)) = 5 * (r : Int) := w32_of (by omega) (by omega)
  have e6 : (5 * (r : Int)).toNat = 5 * r := by omega
  have e7 : s 79 (5 * r) = N 1 r := by
    obtain ⟨g1, g2, -⟩ := hC.2.2.2.2.1 r hr
    cases q : ib (s 69 25) r with
    | false => exact g2 q
    | true => have := g1 q; omega
  have e8 : w32 ((k : Int) - N 1 r) = (k : Int) - N 1 r := w32_of (by omega) (by omega)
  have e9 : ((k : Int) - N 1 r).tdiv (N 0 11) = ((k : Int) - N 1 r) / N 0 11 := Int.tdiv_eq_ediv_of_nonneg (by omega)
  have h5 : N 0 11 = 1 ∨ N 0 11 = 2 ∨ N 0 11 = 3 ∨ N 0 11 = 4 := by omega
  have e10 : 0 ≤ ((k : Int) - N 1 r) / N 0 11 ∧ ((k : Int) - N 1 r) / N 0 11 ≤ 20 := by
    rcases h5 with e | e | e | e <;> rw [e] <;> omega
  have e11 : w32 (1 + ((k : Int) - N 1 r) / N 0 11) = wdt N k r := by
    unfold wdt
    exact w32_of (by omega) (by omega)
  unfold S_X12_grows O_X12_grows
  rw [Int.toNat_natCast, e5, e6, e7, hC.2.2.1, e8, e9, w32_of (z := ((k : Int) - N 1 r) / N 0 11) (by omega) (by omega), e11, up_at]
  refine ⟨⟨⟨by omega, by omega⟩, by omega, hin, hin, fun _ => ⟨hin, trivial⟩, fun _ => ⟨hin, trivial⟩⟩, fun t et => ?_⟩
  have hS : ∀ z : Int, Same (DMr r) s (up (up s 82 r (wdt N k r)) 80 r z) := fun z => (Same.rfl'.up ⟨⟨by omega, by omega⟩, rfl⟩).up ⟨⟨by omega, by omega⟩, rfl⟩
  by_cases c : 9 < wdt N k r
  · rw [if_neg (by omega)] at et
    rw [if_pos c]
    refine ⟨by rw [et, up_at], by rw [et, up_c (by omega), up_c (by omega)], by rw [et, up_c (by omega), up_at], by rw [et, up_c (by omega), up_c (by omega)], by rw [et]; exact hS _⟩
  · rw [if_pos (by omega)] at et
    rw [if_neg c]
    refine ⟨by rw [et, up_at], by rw [et, up_c (by omega), up_c (by omega)], by rw [et, up_c (by omega), up_at], by rw [et, up_c (by omega), up_c (by omega)], by rw [et]; exact hS _⟩
def DMq (a _b : Nat) : Prop := 80 ≤ a ∧ a ≤ 83
theorem Same_q {r : Nat} {s t : Sto} (h : Same (DMr r) s t) : Same DMq s t := h.mono (fun a b q => q.1)
theorem Same_ql {s t : Sto} (h : Same DMq s t) : Same DMl s t := h.mono (fun a b q => by unfold DMl; unfold DMq at q; omega)
/-- the three walks over the rings -/
theorem T_mphase {N σ s : Sto} {k : Nat} {K : Sto → Prop} (hN : NOk N) (hC : NtM N s) (hk : k < 20) (hI : Inv N k σ) (hP : PlM N σ s) (h : ∀ t, PlM N (pA N k σ) t → Same DMq s t → K t) :
    ∃ n12, L_X12_steps_2 (k : Int) (fun s1 => (∃ n11, L_X12_steps_34 (k : Int) (fun s2 => (∃ n10, L_X12_steps_78 (k : Int) K n10 0 s2)) n11 0 s1)) n12 0 s := by
  have hR := hN.1
  have hnR : (nR N : Int) = N 0 0 := by unfold nR; omega
  refine lp2 (L_X12_steps_2 (k : Int) _) (fun y t => ∃ i : Nat, y = (i : Int) ∧ i ≤ nR N ∧ (∀ r, r < nR N → t 80 r = (if r < i ∧ σ 1 r = 1 then (if mA2 N k σ r = -1 then 3 else 1) else σ 1 r) ∧ t 81 r = (if r < i ∧ σ 1 r = 1 then mB2 N k σ r else σ 2 r) ∧ t 82 r = σ 3 r ∧ t 83 r = (if r < i then pA4 σ r else σ 4 r)) ∧ Same DMq s t) (fun y _ => (9 - y).toNat) ?_ 0 s ⟨0, rfl, by omega, fun r hr => ?_, Same.rfl'⟩
  rotate_left
  · rw [if_neg (fun q => Nat.not_lt_zero r q.1), if_neg (fun q => Nat.not_lt_zero r q.1), if_neg (Nat.not_lt_zero r)]
    exact hP.1 r (by omega)
  intro n y t ⟨i, hy, hi, hrow, hSt⟩ ih
  subst hy
  have hCt := NtM_cg hC (Same_ql hSt)
  unfold L_X12_steps_2
  rw [hCt.1]
  refine ⟨fun c => ?_, fun c => ?_⟩
  · -- the second walk
    have : i = nR N := by omega
    subst this
    refine lp2 (L_X12_steps_34 (k : Int) _) (fun y t => ∃ i : Nat, y = (i : Int) ∧ i ≤ nR N ∧ (∀ r, r < nR N → t 80 r = (if σ 1 r = 1 then (if mA2 N k σ r = -1 then 3 else 1) else if r < i then pA1 N k σ r else σ 1 r) ∧ t 81 r = (if σ 1 r = 1 ∨ r < i then pA2 N k σ r else σ 2 r) ∧ t 82 r = (if r < i ∧ σ 1 r = 0 ∧ N 1 r = (k : Int) then 1 else σ 3 r) ∧ t 83 r = pA4 σ r) ∧ Same DMq s t) (fun y _ => (9 - y).toNat) ?_ 0 t ⟨0, rfl, by omega, fun r hr => ?_, hSt⟩
    rotate_left
    · obtain ⟨w1, w2, w3, w4⟩ := hrow r hr
      rw [if_neg (Nat.not_lt_zero r), if_neg (fun q : r < 0 ∧ σ 1 r = 0 ∧ N 1 r = (k : Int) => Nat.not_lt_zero r q.1)]
      rw [if_pos hr] at w4
      by_cases q : σ 1 r = 1
      · rw [if_pos ⟨hr, q⟩] at w1 w2
        rw [if_pos q, if_pos (Or.inl q)]
        exact ⟨w1, by rw [w2]; unfold pA2; rw [if_pos q], w3, w4⟩
      · rw [if_neg (fun w => q w.2)] at w1 w2
        rw [if_neg q, if_neg (fun w => w.elim q (Nat.not_lt_zero r))]
        exact ⟨w1, w2, w3, w4⟩
    intro n y u ⟨i, hy, hi, hrow, hSu⟩ ih2
    subst hy
    have hCu := NtM_cg hC (Same_ql hSu)
    unfold L_X12_steps_34
    rw [hCu.1]
    refine ⟨fun c => ?_, fun c => ?_⟩
    · -- the third walk
      have : i = nR N := by omega
      subst this
      refine lp2 (L_X12_steps_78 (k : Int) _) (fun y t => ∃ i : Nat, y = (i : Int) ∧ i ≤ nR N ∧ (∀ r, r < nR N → t 80 r = (if r < i then pA1 N k σ r else if σ 1 r = 1 then (if mA2 N k σ r = -1 then 3 else 1) else pA1 N k σ r) ∧ t 81 r = pA2 N k σ r ∧ t 82 r = (if r < i then pA3 N k σ r else if σ 1 r = 0 ∧ N 1 r = (k : Int) then 1 else σ 3 r) ∧ t 83 r = pA4 σ r) ∧ Same DMq s t) (fun y _ => (9 - y).toNat) ?_ 0 u ⟨0, rfl, by omega, fun r hr => ?_, hSu⟩
      rotate_left
      · obtain ⟨w1, w2, w3, w4⟩ := hrow r hr
        rw [if_pos hr] at w1
        rw [if_pos (Or.inr hr)] at w2
        rw [if_neg (Nat.not_lt_zero r), if_neg (Nat.not_lt_zero r)]
        refine ⟨w1, w2, ?_, w4⟩
        rw [w3]
        by_cases q : σ 1 r = 0 ∧ N 1 r = (k : Int)
        · rw [if_pos q, if_pos ⟨hr, q⟩]
        · rw [if_neg q, if_neg (fun w => q w.2)]
      intro n y v ⟨i, hy, hi, hrow, hSv⟩ ih3
      subst hy
      have hCv := NtM_cg hC (Same_ql hSv)
      unfold L_X12_steps_78
      rw [hCv.1]
      refine ⟨fun c => ?_, fun c => ?_⟩
      · have : i = nR N := by omega
        subst this
        refine h v ⟨fun r hr => ?_, fun x hx => ?_, ?_, ?_⟩ hSv
        · have hrR : r < nR N := by omega
          obtain ⟨w1, w2, w3, w4⟩ := hrow r hrR
          rw [if_pos hrR] at w1 w3
          obtain ⟨g1, g2, g3, g4⟩ := pAi_lt (N := N) (σ := σ) (k := k) hrR
          unfold pA
          rw [g1, g2, g3, g4]
          exact ⟨w1, w2, w3, w4⟩
        · unfold pA
          rw [pAi_o (by decide), pAi_o (by decide), hSv _ _ (by unfold DMq; omega), hSv _ _ (by unfold DMq; omega)]
          exact hP.2.1 x hx
        · unfold pA
          rw [pAi_o (by decide), hSv _ _ (by unfold DMq; omega)]
          exact hP.2.2.1
        · unfold pA
          rw [pAi_o (by decide), hSv _ _ (by unfold DMq; omega)]
          exact hP.2.2.2
      · have hr : (i : Int) < N 0 0 := by omega
        have hiR : i < nR N := by omega
        have hin : inb (i : Int) 8 := ⟨by omega, by omega⟩
        have hw : w32 ((i : Int) + 1) = ((i + 1 : Nat) : Int) := by rw [w32_of (by omega) (by omega)]; omega
        obtain ⟨w1, w2, w3, w4⟩ := hrow i hiR
        rw [if_neg (Nat.lt_irrefl i)] at w1 w3
        rw [Int.toNat_natCast, hw]
        obtain ⟨i1, i2, i3, i4, i5⟩ := hI.1 i hr
        have others : ∀ v', Same (DMr i) v v' → v' 80 i = pA1 N k σ i → v' 81 i = pA2 N k σ i → v' 82 i = pA3 N k σ i → v' 83 i = pA4 σ i → L_X12_steps_78 (k : Int) K n ((i + 1 : Nat) : Int) v' := by
          intro v' hS' z1 z2 z3 z4
          refine ih3 _ _ ⟨i + 1, rfl, by omega, fun r hr => ?_, hSv.trans (Same_q hS')⟩ (by omega)
          by_cases e : r = i
          · rw [e, if_pos (by omega), if_pos (by omega)]
            exact ⟨z1, z2, z3, z4⟩
          · obtain ⟨y1, y2, y3, y4⟩ := hrow r hr
            rw [hS' _ _ (by unfold DMr; omega), hS' _ _ (by unfold DMr; omega), hS' _ _ (by unfold DMr; omega), hS' _ _ (by unfold DMr; omega)]
            have e2 : r < i + 1 ↔ r < i := ⟨fun q => by omega, fun q => by omega⟩
            simp only [e2]
            exact ⟨y1, y2, y3, y4⟩
        refine ⟨hin, fun c1 => ?_, fun c1 => ?_⟩
        · have hb : N 1 i ≤ (k : Int) := by
            by_cases q : σ 1 i = 1
            · have := i3 (by omega); omega
            · rw [if_neg q] at w1
              rw [w1] at c1
              unfold pA1 at c1
              rw [if_neg q] at c1
              by_cases q2 : σ 1 i = 0 ∧ N 1 i = (k : Int)
              · omega
              · rw [if_neg q2] at c1; exact absurd c1 q
          obtain ⟨g1, g2⟩ := T_mgrows hN hCv hr hk hb
          refine ⟨g1, fun s5 e5 => ?_⟩
          obtain ⟨z1, z2, z3, z4, z5⟩ := g2 s5 e5
          refine others s5 z5 ?_ (by rw [z2, w2]) ?_ (by rw [z4, w4])
          · rw [z1]
            unfold pA1
            by_cases q : σ 1 i = 1
            · rw [if_pos q] at w1
              rw [if_pos q]
              by_cases q3 : mA2 N k σ i = -1
              · rw [if_pos q3] at w1; omega
              · rw [if_neg q3]
            · rw [if_neg q] at w1
              rw [if_neg q]
              rw [w1] at c1
              unfold pA1 at c1
              rw [if_neg q] at c1
              by_cases q2 : σ 1 i = 0 ∧ N 1 i = (k : Int)
              · rw [if_pos q2] at c1 ⊢
                rw [c1, wdt_0 hN q2.2, if_neg (by decide)]
              · rw [if_neg q2] at c1; exact absurd c1 q
          · rw [z3]
            unfold pA3
            by_cases q : σ 1 i = 1
            · rw [if_pos q] at w1
              rw [if_pos q]
              by_cases q3 : mA2 N k σ i = -1
              · rw [if_pos q3] at w1; omega
              · rw [if_neg q3]
            · rw [if_neg q] at w1
              rw [if_neg q]
              rw [w1] at c1
              unfold pA1 at c1
              rw [if_neg q] at c1
              by_cases q2 : σ 1 i = 0 ∧ N 1 i = (k : Int)
              · rw [if_pos q2, wdt_0 hN q2.2]
              · rw [if_neg q2] at c1; exact absurd c1 q
        · refine others v Same.rfl' ?_ w2 ?_ w4
          · rw [w1]
            by_cases q : σ 1 i = 1
            · rw [if_pos q] at w1 ⊢
              unfold pA1
              rw [if_pos q]
              by_cases q3 : mA2 N k σ i = -1
              · rw [if_pos q3, if_pos q3]
              · rw [if_neg q3] at w1; exact absurd w1 c1
            · rw [if_neg q]
          · rw [w3]
            unfold pA3
            by_cases q : σ 1 i = 1
            · rw [if_pos q] at w1
              rw [if_pos q, if_neg (fun w => by omega)]
              by_cases q3 : mA2 N k σ i = -1
              · rw [if_pos q3]
              · rw [if_neg q3] at w1; exact absurd w1 c1
            · rw [if_neg q]
    · have hr : (i : Int) < N 0 0 := by omega
      have hiR : i < nR N := by omega
      have hw : w32 ((i : Int) + 1) = ((i + 1 : Nat) : Int) := by rw [w32_of (by omega) (by omega)]; omega
      have e5 : w32 (5 * (i : Int)) = 5 * (i : Int) := w32_of (by omega) (by omega)
      have e6 : (5 * (i : Int)).toNat = 5 * i := by omega
      obtain ⟨w1, w2, w3, w4⟩ := hrow i hiR
      rw [if_neg (Nat.lt_irrefl i)] at w1
      rw [if_neg (fun q => Nat.lt_irrefl i q.1)] at w3
      rw [e5, e6, isIn_v (by omega), hw]
      obtain ⟨i1, i2, i3, i4, i5⟩ := hI.1 i hr
      obtain ⟨k1, k2, -⟩ := hCu.2.2.2.2.1 i hr
      have others : ∀ v', Same (DMr i) u v' → v' 80 i = (if σ 1 i = 1 then (if mA2 N k σ i = -1 then 3 else 1) else pA1 N k σ i) → v' 81 i = pA2 N k σ i → v' 82 i = (if σ 1 i = 0 ∧ N 1 i = (k : Int) then 1 else σ 3 i) → v' 83 i = pA4 σ i → L_X12_steps_34 (k : Int) (fun s2 => (∃ n10, L_X12_steps_78 (k : Int) K n10 0 s2)) n ((i + 1 : Nat) : Int) v' := by
        intro v' hS' z1 z2 z3 z4
        refine ih2 _ _ ⟨i + 1, rfl, by omega, fun r hr => ?_, hSu.trans (Same_q hS')⟩ (by omega)
        by_cases e : r = i
        · rw [e, if_pos (Nat.lt_succ_self i), if_pos (Or.inr (Nat.lt_succ_self i)), z3]
          refine ⟨z1, z2, ?_, z4⟩
          by_cases q : σ 1 i = 0 ∧ N 1 i = (k : Int)
          · rw [if_pos q, if_pos (⟨Nat.lt_succ_self i, q⟩ : i < i + 1 ∧ σ 1 i = 0 ∧ N 1 i = (k : Int))]
          · rw [if_neg q, if_neg (fun w => q w.2)]
        · obtain ⟨y1, y2, y3, y4⟩ := hrow r hr
          rw [hS' _ _ (by unfold DMr; omega), hS' _ _ (by unfold DMr; omega), hS' _ _ (by unfold DMr; omega), hS' _ _ (by unfold DMr; omega)]
          have e2 : r < i + 1 ↔ r < i := ⟨fun q => by omega, fun q => by omega⟩
          simp only [e2]
          exact ⟨y1, y2, y3, y4⟩
      have same : ¬ (σ 1 i = 0 ∧ N 1 i = (k : Int)) → L_X12_steps_34 (k : Int) (fun s2 => (∃ n10, L_X12_steps_78 (k : Int) K n10 0 s2)) n ((i + 1 : Nat) : Int) u := by
        intro q
        refine others u Same.rfl' ?_ ?_ ?_ w4
        · rw [w1]
          by_cases q2 : σ 1 i = 1
          · rw [if_pos q2, if_pos q2]
          · rw [if_neg q2, if_neg q2]
            unfold pA1
            rw [if_neg q2, if_neg q]
        · rw [w2]
          by_cases q2 : σ 1 i = 1
          · rw [if_pos (Or.inl q2)]
          · rw [if_neg (fun w => w.elim q2 (Nat.lt_irrefl i))]
            unfold pA2
            rw [if_neg q2, if_neg q]
        · rw [w3, if_neg q]
      refine ⟨⟨by omega, by omega⟩, fun c1 => ⟨fun c2 => ?_, fun c2 => ?_⟩, fun c1 => same (fun q => ?_)⟩
      · have cg : ib (u 69 25) i = false := by
          cases q : ib (u 69 25) i with
          | false => rfl
          | true => rw [q, if_pos rfl] at c2; exact absurd c2 (by decide)
        have hb : N 1 i = (k : Int) := by rw [← k2 cg]; exact c1
        have h0 : σ 1 i = 0 := by
          by_cases q : σ 1 i = 0
          · exact q
          · have := i3 q; omega
        obtain ⟨g1, g2⟩ := T_mblown (σ := σ) hN hCu hr h0 hb (by rw [w4]; unfold pA4; rw [if_neg (by omega)])
        refine ⟨g1, fun s7 e7 => ?_⟩
        obtain ⟨z1, z2, z3, z4, z5⟩ := g2 s7 e7
        refine others s7 z5 ?_ z2 ?_ z4
        · rw [if_neg (by omega)]; exact z1
        · rw [if_pos ⟨h0, hb⟩]; exact z3
      · have cg : ib (u 69 25) i = true := by
          cases q : ib (u 69 25) i with
          | false => rw [q, if_neg (by decide)] at c2; exact absurd rfl c2
          | true => rfl
        have := k1 cg
        exact same (fun q => by omega)
      · have := q.2
        cases q2 : ib (u 69 25) i with
        | false => rw [k2 q2] at c1; exact c1 this
        | true => have := k1 q2; omega
  · have hr : (i : Int) < N 0 0 := by omega
    have hiR : i < nR N := by omega
    have hin : inb (i : Int) 8 := ⟨by omega, by omega⟩
    have hw : w32 ((i : Int) + 1) = ((i + 1 : Nat) : Int) := by rw [w32_of (by omega) (by omega)]; omega
    obtain ⟨w1, w2, w3, w4⟩ := hrow i hiR
    rw [if_neg (fun q => Nat.lt_irrefl i q.1)] at w1 w2
    rw [if_neg (Nat.lt_irrefl i)] at w4
    rw [Int.toNat_natCast, hw, w1]
    have others : ∀ v', Same (DMr i) t v' → v' 80 i = (if σ 1 i = 1 then (if mA2 N k σ i = -1 then 3 else 1) else σ 1 i) → v' 81 i = (if σ 1 i = 1 then mB2 N k σ i else σ 2 i) → v' 82 i = σ 3 i → v' 83 i = pA4 σ i → L_X12_steps_2 (k : Int) (fun s1 => (∃ n11, L_X12_steps_34 (k : Int) (fun s2 => (∃ n10, L_X12_steps_78 (k : Int) K n10 0 s2)) n11 0 s1)) n ((i + 1 : Nat) : Int) v' := by
      intro v' hS' z1 z2 z3 z4
      refine ih _ _ ⟨i + 1, rfl, by omega, fun r hr => ?_, hSt.trans (Same_q hS')⟩ (by omega)
      by_cases e : r = i
      · rw [e, if_pos (Nat.lt_succ_self i), z1, z2]
        refine ⟨?_, ?_, z3, z4⟩
        · by_cases q : σ 1 i = 1
          · rw [if_pos q, if_pos (⟨Nat.lt_succ_self i, q⟩ : i < i + 1 ∧ σ 1 i = 1)]
          · rw [if_neg q, if_neg (fun w => q w.2)]
        · by_cases q : σ 1 i = 1
          · rw [if_pos q, if_pos (⟨Nat.lt_succ_self i, q⟩ : i < i + 1 ∧ σ 1 i = 1)]
          · rw [if_neg q, if_neg (fun w => q w.2)]
      · obtain ⟨y1, y2, y3, y4⟩ := hrow r hr
        rw [hS' _ _ (by unfold DMr; omega), hS' _ _ (by unfold DMr; omega), hS' _ _ (by unfold DMr; omega), hS' _ _ (by unfold DMr; omega)]
        have e2 : r < i + 1 ↔ r < i := ⟨fun q => by omega, fun q => by omega⟩
        simp only [e2]
        exact ⟨y1, y2, y3, y4⟩
    refine ⟨hin, fun c1 => ?_, fun c1 => ?_⟩
    · obtain ⟨g1, g2⟩ := T_mmoves hN hCt hr hk (hI.1 i hr) c1 w1 w2 w4
      refine ⟨g1, fun s5 e5 => ?_⟩
      obtain ⟨z1, z2, z3, z4, z5⟩ := g2 s5 e5
      refine others s5 z5 ?_ ?_ (by rw [z3, w3]) z4
      · rw [if_pos c1]; exact z1
      · rw [if_pos c1]; exact z2
    · refine others t Same.rfl' ?_ ?_ w3 ?_
      · rw [if_neg c1]; exact w1
      · rw [if_neg c1]; exact w2
      · rw [w4]; unfold pA4; rw [if_neg c1]
