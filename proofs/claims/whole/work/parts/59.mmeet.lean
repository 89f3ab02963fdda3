/-! ===== the reference lives a night: rings meet, fall, are kept ===== -/
theorem PlM_ring {N σ τ s t : Sto} (h : PlM N σ s) (hτ : ∀ a b, ¬ (a = 1) → τ a b = σ a b) (hrow : ∀ r : Nat, (r : Int) < N 0 0 → t 80 r = τ 1 r) (hS : ∀ a b, a ≠ 80 → t a b = s a b) : PlM N τ t := by
  obtain ⟨h1, h2, h3, h4⟩ := h
  refine ⟨fun r hr => ?_, fun x hx => ?_, ?_, ?_⟩
  · obtain ⟨-, g2, g3, g4⟩ := h1 r hr
    rw [hS 81 r (by decide), hS 82 r (by decide), hS 83 r (by decide), hτ 2 r (by decide), hτ 3 r (by decide), hτ 4 r (by decide)]
    exact ⟨hrow r hr, g2, g3, g4⟩
  · rw [hS _ _ (by decide), hS _ _ (by decide), hτ _ _ (by decide), hτ _ _ (by decide)]
    exact h2 x hx
  · rw [hS _ _ (by decide), hτ _ _ (by decide)]; exact h3
  · rw [hS _ _ (by decide), hτ _ _ (by decide)]; exact h4
theorem PlM_pair {N σ s t : Sto} {k : Nat} {c d : Int} (h : PlM N (pBp k σ c) s) (hd : (d = c ∧ t 69 23 = s 69 23 ∧ t 69 24 = s 69 24) ∨ (d = c + 1 ∧ 0 ≤ c ∧ t 69 23 = s 69 23 + 1 ∧ t 69 24 = if s 69 24 = -1 then (k : Int) else s 69 24)) (hk : k < 20) (hS : ∀ a b, ¬ (a = 69 ∧ (b = 23 ∨ b = 24)) → t a b = s a b) : PlM N (pBp k σ d) t := by
  obtain ⟨h1, h2, h3, h4⟩ := h
  rw [(pBp_0 (k := k) (σ := σ) (c := c)).1] at h3
  rw [(pBp_0 (k := k) (σ := σ) (c := c)).2] at h4
  refine ⟨fun r hr => ?_, fun x hx => ?_, ?_, ?_⟩
  · rw [hS _ _ (by omega), hS _ _ (by omega), hS _ _ (by omega), hS _ _ (by omega), pBp_a (by decide), pBp_a (by decide), pBp_a (by decide), pBp_a (by decide)]
    have := h1 r hr
    rw [pBp_a (by decide), pBp_a (by decide), pBp_a (by decide), pBp_a (by decide)] at this
    exact this
  · rw [hS _ _ (by omega), hS _ _ (by omega), pBp_a (by decide), pBp_a (by decide)]
    have := h2 x hx
    rw [pBp_a (by decide), pBp_a (by decide)] at this
    exact this
  · rw [(pBp_0 (k := k) (σ := σ) (c := d)).1]
    rcases hd with ⟨q1, q2, q3⟩ | ⟨q1, q2, q3, q4⟩
    · rw [q2, h3, q1]
    · rw [q3, h3, q1]; omega
  · rw [(pBp_0 (k := k) (σ := σ) (c := d)).2]
    rcases hd with ⟨q1, q2, q3⟩ | ⟨q1, q2, q3, q4⟩
    · rw [q3, h4, q1]
    · rw [q4, h4, q1]
      by_cases w : σ 0 1 = -1
      · by_cases w2 : c = 0
        · rw [if_neg (fun w3 : σ 0 1 = -1 ∧ c ≠ 0 => w3.2 w2), if_pos w, if_pos (⟨w, by omega⟩ : σ 0 1 = -1 ∧ c + 1 ≠ 0)]
        · rw [if_pos (⟨w, w2⟩ : σ 0 1 = -1 ∧ c ≠ 0), if_pos (⟨w, by omega⟩ : σ 0 1 = -1 ∧ c + 1 ≠ 0), if_neg (by omega)]
      · rw [if_neg (fun w3 : σ 0 1 = -1 ∧ c ≠ 0 => w w3.1), if_neg w, if_neg (fun w3 : σ 0 1 = -1 ∧ c + 1 ≠ 0 => w w3.1)]
def MbX (R : Nat) (σ : Sto) (a b : Nat) (x : Int) : Prop := r32 x ∧ ∀ c : Nat, c < 8 → (ib x c = true ↔ (c < a ∧ brB R σ c = true) ∨ (c = a ∧ anyB (eqB σ a) b = true))
theorem anyB_s (f : Nat → Bool) (n : Nat) : anyB f (n + 1) = (anyB f n || f n) := rfl
def DMm (a b : Nat) : Prop := a = 80 ∨ (a = 69 ∧ (b = 23 ∨ b = 24))
theorem Same_ml {s t : Sto} (h : Same DMm s t) : Same DMl s t := h.mono (fun a b q => by unfold DMl; unfold DMm at q; omega)
theorem T_mmeet {N τ s : Sto} {k : Nat} {Q : Int → Sto → Prop} (hN : NOk N) (hC : NtM N s) (hk : k < 20) (hP : PlM N τ s) (hz : 0 ≤ τ 0 0 ∧ τ 0 0 ≤ 2000) (h : ∀ t, PlM N (pB (nR N) k τ) t → Same DMm s t → Q 0 t) : P_X12_meet (k : Int) s Q := by
  have hR := hN.1
  have hnR : (nR N : Int) = N 0 0 := by unfold nR; omega
  have hR8 : nR N ≤ 8 := by omega
  unfold P_X12_meet
  refine lp3 (L_X12_meet_4 (k : Int) _) (fun x y t => ∃ a : Nat, y = (a : Int) ∧ a ≤ nR N ∧ MbX (nR N) τ a 0 x ∧ PlM N (pBp k τ (sumI (fun x => cntB (prB τ x) (nR N)) a)) t ∧ Same DMm s t) (fun _ y _ => (9 - y).toNat) ?_ 0 0 s ⟨0, rfl, by omega, ⟨r32_0, fun c _ => ?_⟩, by show PlM N (pBp k τ 0) s; rw [pBp_z]; exact hP, Same.rfl'⟩
  rotate_left
  · rw [ib_0]
    exact ⟨fun q => absurd q (by decide), fun q => q.elim (fun w => absurd w.1 (Nat.not_lt_zero c)) (fun w => absurd w.2 Bool.false_ne_true)⟩
  intro n x y t ⟨a, hy, ha, ⟨hxr, hx⟩, hPt, hSt⟩ ih
  subst hy
  have hCt := NtM_cg hC (Same_ml hSt)
  unfold L_X12_meet_4
  rw [hCt.1]
  refine ⟨fun c => ?_, fun c => ?_⟩
  · have : a = nR N := by omega
    subst this
    refine lp2 (L_X12_meet_197 x _) (fun y u => ∃ i : Nat, y = (i : Int) ∧ i ≤ nR N ∧ PlM N (pBr (nR N) i (pBp k τ (prC (nR N) τ))) u ∧ Same DMm s u) (fun y _ => (9 - y).toNat) ?_ 0 t ⟨0, rfl, by omega, ?_, hSt⟩
    rotate_left
    · have : pBr (nR N) 0 (pBp k τ (prC (nR N) τ)) = pBp k τ (prC (nR N) τ) := by
        funext a b
        unfold pBr
        rw [if_neg (fun q => Nat.not_lt_zero b q.2.1)]
      rw [this]
      exact hPt
    intro n y u ⟨i, hy, hi, hPu, hSu⟩ ih2
    subst hy
    have hCu := NtM_cg hC (Same_ml hSu)
    unfold L_X12_meet_197
    rw [hCu.1]
    refine ⟨fun c => ?_, fun c => ?_⟩
    · have : i = nR N := by omega
      subst this
      exact h u hPu hSu
    · have hr : (i : Int) < N 0 0 := by omega
      have hin : inb (i : Int) 8 := ⟨by omega, by omega⟩
      have hw : w32 ((i : Int) + 1) = ((i + 1 : Nat) : Int) := by rw [w32_of (by omega) (by omega)]; omega
      have hbit : ib x i = true ↔ brB (nR N) τ i = true := by
        rw [hx i (by omega)]
        exact ⟨fun q => q.elim (fun w => w.2) (fun w => by omega), fun q => Or.inl ⟨by omega, q⟩⟩
      rw [isIn_v (by omega), hw, Int.toNat_natCast]
      refine ⟨⟨fun _ => ⟨hin, trivial⟩, fun _ => trivial⟩, fun x3 e3 => ⟨hin, fun s7 e7 => ?_⟩⟩
      have hS7 : ∀ a b, ¬ (a = 80 ∧ b = i) → s7 a b = u a b := fun a b q => by rw [e7, up_c2 q]
      refine ih2 _ _ ⟨i + 1, rfl, by omega, PlM_ring hPu (fun a b q => ?_) (fun r hr => ?_) (fun a b q => hS7 a b (fun w => q w.1)), hSu.trans (fun a b q => hS7 a b (by unfold DMm at q; omega))⟩ (by omega)
      · unfold pBr
        rw [if_neg (fun w => q w.1), if_neg (fun w => q w.1)]
      · obtain ⟨g1, -⟩ := hPu.1 r hr
        unfold pBr at g1 ⊢
        by_cases e : r = i
        · subst e
          rw [if_neg (fun w : 1 = 1 ∧ r < r ∧ _ => Nat.lt_irrefl r w.2.1)] at g1
          rw [e7, up_at, e3]
          by_cases cb : ib x r = true
          · rw [if_pos cb, if_neg (by decide), if_pos ⟨rfl, Nat.lt_succ_self r, by rw [brB_p]; exact hbit.mp cb⟩]
          · rw [if_neg cb, if_pos rfl, if_neg (fun w => cb (hbit.mpr (by have := w.2.2; rw [brB_p] at this; exact this)))]
            exact g1
        · rw [hS7 _ _ (by omega), g1]
          have e2 : r < i + 1 ↔ r < i := ⟨fun q => by omega, fun q => by omega⟩
          simp only [e2]
  · have har : (a : Int) < N 0 0 := by omega
    have hina : inb (a : Int) 8 := ⟨by omega, by omega⟩
    have hw : w32 ((a : Int) + 1) = ((a + 1 : Nat) : Int) := by rw [w32_of (by omega) (by omega)]; omega
    refine lp3 (L_X12_meet_15 (k : Int) (a : Int) _) (fun x y t => ∃ b : Nat, y = (b : Int) ∧ b ≤ nR N ∧ MbX (nR N) τ a b x ∧ PlM N (pBp k τ (sumI (fun x => cntB (prB τ x) (nR N)) a + cntB (prB τ a) b)) t ∧ Same DMm s t) (fun _ y _ => (9 - y).toNat) ?_ x 0 t ⟨0, rfl, by omega, ⟨hxr, hx⟩, by show PlM N (pBp k τ (sumI (fun x => cntB (prB τ x) (nR N)) a + 0)) t; rw [Int.add_zero]; exact hPt, hSt⟩
    intro m x y u ⟨b, hy, hb, ⟨hxr, hxb⟩, hPu, hSu⟩ ih2
    subst hy
    have hCu := NtM_cg hC (Same_ml hSu)
    unfold L_X12_meet_15
    rw [hCu.1, Int.toNat_natCast]
    refine ⟨fun c => ?_, fun c => ?_⟩
    · have : b = nR N := by omega
      subst this
      rw [hw]
      refine ih _ _ _ ⟨a + 1, rfl, by omega, ⟨hxr, fun d hd => ?_⟩, hPu, hSu⟩ (by omega)
      rw [hxb d hd]
      constructor
      · rintro (⟨q1, q2⟩ | ⟨q1, q2⟩)
        · exact Or.inl ⟨by omega, q2⟩
        · exact Or.inl ⟨by omega, by rw [q1]; exact q2⟩
      · rintro (⟨q1, q2⟩ | ⟨q1, q2⟩)
        · by_cases e : d = a
          · exact Or.inr ⟨e, by rw [e] at q2; exact q2⟩
          · exact Or.inl ⟨by omega, q2⟩
        · exact absurd q2 Bool.false_ne_true
    · have hbr : (b : Int) < N 0 0 := by omega
      have hinb : inb (b : Int) 8 := ⟨by omega, by omega⟩
      have hwb : w32 ((b : Int) + 1) = ((b + 1 : Nat) : Int) := by rw [w32_of (by omega) (by omega)]; omega
      obtain ⟨a1, a2, a3, -⟩ := hPu.1 a har
      obtain ⟨b1, b2, b3, -⟩ := hPu.1 b hbr
      rw [pBp_a (by decide)] at a1 a2 a3 b1 b2 b3
      rw [Int.toNat_natCast, a1, a2, a3, b1, b2, b3, hwb]
      refine ⟨⟨fun _ => trivial, fun _ => ⟨hina, fun _ => ⟨hinb, fun _ => ⟨hina, hinb, trivial⟩, fun _ => trivial⟩, fun _ => trivial⟩⟩, fun x2 e2 => ⟨⟨fun _ => trivial, fun _ => ⟨fun _ => trivial, fun _ => ⟨hina, hinb, trivial⟩⟩⟩, fun x11 e11 => ⟨⟨fun _ => trivial, fun _ => ⟨hina, hinb, trivial⟩⟩, fun x17 e17 x22 e22 x23 e23 s25 e25 x26 e26 s29 e29 => ?_⟩⟩⟩
      have hcr := cA_rng (σ := τ) hR8 (by omega : a < nR N) hb
      have h23 := hPu.2.2.1
      rw [pBp_0.1] at h23
      -- what the three say
      have k2 : ¬ x2 = 0 ↔ (b ≠ a ∧ τ 1 a = 1 ∧ τ 1 b = 1 ∧ τ 2 a = τ 2 b) := by
        rw [e2]
        by_cases q1 : (a : Int) = (b : Int)
        · rw [if_pos q1]; exact ⟨fun q => absurd rfl q, fun q => by omega⟩
        · rw [if_neg q1]
          by_cases q2 : τ 1 a = 1
          · rw [if_pos q2]
            by_cases q3 : τ 1 b = 1
            · rw [if_pos q3]
              by_cases q4 : τ 2 a = τ 2 b
              · rw [if_pos q4]; exact ⟨fun _ => ⟨by omega, q2, q3, q4⟩, fun _ => by decide⟩
              · rw [if_neg q4]; exact ⟨fun q => absurd rfl q, fun q => absurd q.2.2.2 q4⟩
            · rw [if_neg q3]; exact ⟨fun q => absurd rfl q, fun q => absurd q.2.2.1 q3⟩
          · rw [if_neg q2]; exact ⟨fun q => absurd rfl q, fun q => absurd q.2.1 q2⟩
      have k17 : (eqB τ a b = true → x17 = iShl 1 (a : Int)) ∧ (¬ eqB τ a b = true → x17 = 0) := by
        rw [e17]
        refine ⟨fun q => ?_, fun q => ?_⟩
        · obtain ⟨w1, w2, w3, w4, w5⟩ := eqB_iff.mp q
          rw [if_neg (k2.mpr ⟨w1, w2, w3, w4⟩), if_pos w5]
        · by_cases w : x2 = 0
          · rw [if_pos w]
          · rw [if_neg w]
            obtain ⟨w1, w2, w3, w4⟩ := k2.mp w
            rw [if_neg (fun w5 => q (eqB_iff.mpr ⟨w1, w2, w3, w4, w5⟩))]
      have k11 : ¬ x11 = 0 ↔ prB τ a b = true := by
        rw [e11, prB_iff]
        by_cases w : x2 = 0
        · rw [if_pos w]
          exact ⟨fun q => absurd rfl q, fun q => absurd w (k2.mpr ⟨by omega, q.2.1, q.2.2.1, q.2.2.2.1⟩)⟩
        · obtain ⟨w1, w2, w3, w4⟩ := k2.mp w
          rw [if_neg w]
          by_cases w5 : (b : Int) ≤ (a : Int)
          · rw [if_pos w5]; exact ⟨fun q => absurd rfl q, fun q => by omega⟩
          · rw [if_neg w5]
            by_cases w6 : τ 3 a = τ 3 b
            · rw [if_pos w6]; exact ⟨fun q => absurd rfl q, fun q => absurd w6 q.2.2.2.2⟩
            · rw [if_neg w6]; exact ⟨fun _ => ⟨by omega, w2, w3, w4, w6⟩, fun _ => by decide⟩
      have hS29 : ∀ a b, ¬ (a = 69 ∧ (b = 23 ∨ b = 24)) → s29 a b = u a b := fun a b q => by rw [e29, up_c2 (by omega), e25, up_c2 (by omega)]
      have f24 : s25 69 24 = u 69 24 := by rw [e25, up_j (by decide)]
      have g23 : s29 69 23 = s25 69 23 := by rw [e29, up_j (by decide)]
      have g23' : s25 69 23 = w32 (u 69 23 + x23) := by rw [e25, up_at]
      have g24 : s29 69 24 = x26 := by rw [e29, up_at]
      rw [f24] at e26
      refine ih2 _ _ _ ⟨b + 1, rfl, by omega, ?_, PlM_pair hPu ?_ hk hS29, hSu.trans (fun a b q => hS29 a b (by unfold DMm at q; omega))⟩ (by omega)
      · refine ⟨by rw [e22]; exact iO_r _ _, fun d hd => ?_⟩
        rw [e22, anyB_s, Bool.or_eq_true]
        by_cases q : eqB τ a b = true
        · rw [k17.1 q, ib_O, ib_shl (by omega) (by omega), Bool.or_eq_true, hxb d hd, decide_eq_true_iff]
          constructor
          · rintro ((w | w) | w)
            · exact Or.inl w
            · exact Or.inr ⟨w.1, Or.inl w.2⟩
            · exact Or.inr ⟨w, Or.inr q⟩
          · rintro (w | ⟨w1, w2 | w2⟩)
            · exact Or.inl (Or.inl w)
            · exact Or.inl (Or.inr ⟨w1, w2⟩)
            · exact Or.inr w1
        · rw [k17.2 q, iO_0 hxr, hxb d hd]
          constructor
          · rintro (w | w)
            · exact Or.inl w
            · exact Or.inr ⟨w.1, Or.inl w.2⟩
          · rintro (w | ⟨w1, w2 | w2⟩)
            · exact Or.inl w
            · exact Or.inr ⟨w1, w2⟩
            · exact absurd w2 q
      · by_cases q : prB τ a b = true
        · have n11 := k11.mpr q
          rw [if_neg n11] at e23 e26
          right
          rw [cntB_s, if_pos q, g23, g24, g23', e23, e26]
          refine ⟨by omega, hcr.1, w32_of (by omega) (by omega), rfl⟩
        · have n11 : x11 = 0 := Decidable.not_not.mp (fun w => q (k11.mp w))
          rw [if_pos n11] at e23 e26
          left
          rw [cntB_s, if_neg q, g23, g24, g23', e23, e26]
          refine ⟨by omega, ?_, rfl⟩
          rw [w32_of (by omega) (by omega)]
          omega
