/-! ===== the class plays a night: rings meet ===== -/
theorem pBp_a {k a b : Nat} {σ : Sto} {c : Int} (h : a ≠ 0) : pBp k σ c a b = σ a b := by
  unfold pBp
  rw [up_c h, up_c h]
theorem brB_p {k R r : Nat} {σ : Sto} {c : Int} : brB R (pBp k σ c) r = brB R σ r := by
  unfold brB
  congr 1
theorem pBp_0 {k : Nat} {σ : Sto} {c : Int} : pBp k σ c 0 0 = σ 0 0 + c ∧ pBp k σ c 0 1 = if σ 0 1 = -1 ∧ c ≠ 0 then (k : Int) else σ 0 1 := by
  unfold pBp
  refine ⟨?_, up_at⟩
  rw [up_j (by decide), up_at]
theorem pBp_z {k : Nat} {σ : Sto} : pBp k σ 0 = σ := by
  funext a b
  by_cases h : a = 0
  · subst h
    unfold pBp
    by_cases h1 : b = 1
    · subst h1
      rw [up_at, if_neg (fun q => absurd rfl q.2)]
    · rw [up_j h1]
      by_cases h2 : b = 0
      · subst h2
        rw [up_at, Int.add_zero]
      · rw [up_j h2]
  · exact pBp_a h
theorem Ply_pair {N σ s : Sto} {o k : Nat} {c x : Int} (h : Ply N o (pBp k σ c) s) (ho : o = 16 ∨ o = 54) (hk : k < 20) (hp : (σ 0 1 = -1 ↔ σ 0 0 = 0) ∧ 0 ≤ σ 0 0 ∧ σ 0 0 ≤ 2000) (hc : 0 ≤ c ∧ c ≤ 64) (hx : x = if s o 9 = 0 then (k : Int) else s o 10) : Ply N o (pBp k σ (c + 1)) (up (up s o 10 x) o 9 (w32 (up s o 10 x o 9 + 1))) := by
  obtain ⟨g1, g2, g3, g4, g5, g6, g7⟩ := id h
  obtain ⟨f1, f2⟩ := pBp_0 (k := k) (σ := σ) (c := c)
  obtain ⟨f3, f4⟩ := pBp_0 (k := k) (σ := σ) (c := c + 1)
  have el : live N (pBp k σ (c + 1)) = live N (pBp k σ c) := by funext r; unfold live; rw [pBp_a (by decide), pBp_a (by decide)]
  have eb : bnB (pBp k σ (c + 1)) = bnB (pBp k σ c) := by funext r; unfold bnB; rw [pBp_a (by decide), pBp_a (by decide)]
  rw [f1] at g4
  rw [f2] at g5
  have e9 : up s o 10 x o 9 = s o 9 := up_j (by decide)
  rw [e9, w32_of (by omega) (by omega)]
  have hS : ∀ a b, ¬ (a = o ∧ (b = 9 ∨ b = 10)) → up (up s o 10 x) o 9 (s o 9 + 1) a b = s a b := fun a b q => by rw [up_c2 (by omega), up_c2 (by omega)]
  refine ⟨fun y hy => ?_, fun y hy => ?_, ?_, ?_, ?_, ?_, fun d hd => ?_⟩
  · rw [hS _ _ (by omega), hS _ _ (by omega), hS _ _ (by omega), hS _ _ (by omega), pBp_a (by decide), pBp_a (by decide), pBp_a (by decide), pBp_a (by decide)]
    have := g1 y hy
    rw [pBp_a (by decide), pBp_a (by decide), pBp_a (by decide), pBp_a (by decide)] at this
    exact this
  · have e5 : whm N (pBp k σ (c + 1)) y = whm N (pBp k σ c) y := by unfold whm; rw [pBp_a (by decide), pBp_a (by decide)]
    rw [hS _ _ (by omega), hS _ _ (by omega), hS _ _ (by omega), pBp_a (by decide), pBp_a (by decide), e5]
    have := g2 y hy
    rw [pBp_a (by decide), pBp_a (by decide)] at this
    exact this
  · rw [hS _ _ (by omega), eb]; exact g3
  · rw [up_at, f3, g4]; omega
  · rw [up_j (by decide), up_at, f4, hx, g4, g5]
    by_cases q : σ 0 1 = -1
    · have q0 := hp.1.mp q
      by_cases q2 : c = 0
      · rw [if_pos (by omega), if_pos ⟨q, by omega⟩]
      · rw [if_neg (by omega), if_pos ⟨q, q2⟩, if_pos ⟨q, by omega⟩]
    · have q0 : ¬ σ 0 0 = 0 := fun w => q (hp.1.mpr w)
      rw [if_neg (by omega), if_neg (fun w => q w.1), if_neg (fun w => q w.1)]
  · rw [hS _ _ (by omega), el]; exact g6
  · rw [hS _ _ (by omega)]; exact g7 d hd
def Eq2 (σ : Sto) (i j : Nat) : Prop := σ 1 i = 1 ∧ σ 1 j = 1 ∧ σ 2 i = σ 2 j ∧ σ 3 i = σ 3 j
def BrX (R : Nat) (σ : Sto) (a b : Nat) (x : Int) : Prop := ∀ c : Nat, c < 8 → (ib x c = true ↔ ∃ i j, (i < a ∨ (i = a ∧ j < b)) ∧ i < j ∧ j < R ∧ Eq2 σ i j ∧ (c = i ∨ c = j))
theorem BrX_e {R a b b2 a2 : Nat} {σ : Sto} {x : Int} (h : BrX R σ a b x) (h2 : ∀ i j, i < j → j < R → Eq2 σ i j → ((i < a ∨ (i = a ∧ j < b)) ↔ (i < a2 ∨ (i = a2 ∧ j < b2)))) : BrX R σ a2 b2 x := by
  intro c hc
  rw [h c hc]
  constructor
  · rintro ⟨i, j, q1, q2, q3, q4, q5⟩
    exact ⟨i, j, (h2 i j q2 q3 q4).mp q1, q2, q3, q4, q5⟩
  · rintro ⟨i, j, q1, q2, q3, q4, q5⟩
    exact ⟨i, j, (h2 i j q2 q3 q4).mpr q1, q2, q3, q4, q5⟩
theorem BrX_s {R a b : Nat} {σ : Sto} {x : Int} (h : BrX R σ a b x) (hab : a < b) (hb : b < R) (hR : R ≤ 8) (hE : Eq2 σ a b) : BrX R σ a (b + 1) (iO x (iO (iShl 1 (a : Int)) (iShl 1 (b : Int)))) := by
  intro c hc
  rw [ib_O, ib_O, ib_shl (by omega) (by omega), ib_shl (by omega) (by omega), Bool.or_eq_true, Bool.or_eq_true, h c hc, decide_eq_true_iff, decide_eq_true_iff]
  constructor
  · rintro (⟨i, j, q1, q2, q3, q4, q5⟩ | q)
    · exact ⟨i, j, by omega, q2, q3, q4, q5⟩
    · exact ⟨a, b, Or.inr ⟨rfl, by omega⟩, hab, hb, hE, q⟩
  · rintro ⟨i, j, q1, q2, q3, q4, q5⟩
    by_cases e : i = a ∧ j = b
    · right; omega
    · exact Or.inl ⟨i, j, by omega, q2, q3, q4, q5⟩
theorem BrX_br {R r : Nat} {σ : Sto} {x : Int} (h : BrX R σ R 0 x) (hr : r < R) (hR : R ≤ 8) : ib x r = brB R σ r := by
  have key : ib x r = true ↔ brB R σ r = true := by
    rw [h r (by omega), brB_iff]
    constructor
    · rintro ⟨i, j, q1, q2, q3, ⟨q4, q5, q6, q7⟩, q8⟩
      rcases q8 with rfl | rfl
      · exact ⟨j, q3, by omega, q4, q5, q6, q7⟩
      · exact ⟨i, by omega, by omega, q5, q4, q6.symm, q7.symm⟩
    · rintro ⟨b, q1, q2, q3, q4, q5, q6⟩
      rcases Nat.lt_or_ge b r with q | q
      · exact ⟨b, r, Or.inl (by omega), q, hr, ⟨q4, q3, q5.symm, q6.symm⟩, Or.inr rfl⟩
      · exact ⟨r, b, Or.inl hr, by omega, q1, ⟨q3, q4, q5, q6⟩, Or.inl rfl⟩
  cases q : brB R σ r with
  | true => exact key.mpr q
  | false =>
    cases q2 : ib x r with
    | false => rfl
    | true => rw [key.mp q2] at q; exact absurd q (by decide)
theorem pr_no {σ : Sto} {a b : Nat} (h : ¬ (σ 1 a = 1 ∧ σ 1 b = 1 ∧ σ 2 a = σ 2 b ∧ σ 3 a ≠ σ 3 b)) : prB σ a b = false := by
  cases q : prB σ a b with
  | false => rfl
  | true => exact absurd (prB_iff.mp q).2 h
theorem sumI_s (g : Nat → Int) (n : Nat) : sumI g (n + 1) = sumI g n + g n := rfl
theorem cntB_s (f : Nat → Bool) (n : Nat) : cntB f (n + 1) = cntB f n + (if f n = true then 1 else 0) := rfl
theorem cA_rng {R a b : Nat} {σ : Sto} (hR : R ≤ 8) (ha : a < R) (hb : b ≤ R) : 0 ≤ sumI (fun x => cntB (prB σ x) R) a + cntB (prB σ a) b ∧ sumI (fun x => cntB (prB σ x) R) a + cntB (prB σ a) b ≤ 64 := by
  have h := sumI_le (g := fun x => cntB (prB σ x) R) (m := 8) a (fun i _ => by
    have := cntB_rng (prB σ i) R
    omega)
  have h2 := cntB_rng (prB σ a) b
  omega
theorem T_meet {N τ s : Sto} {o p1 k : Nat} {Q : Int → Sto → Prop} (ho : o = 16 ∨ o = 54) (hp : p1 = 6 ∨ p1 = 44) (hN : NOk N) (hC : NtC N p1 s) (hk : k < 20) (hP : Ply N o τ s) (hz : (τ 0 1 = -1 ↔ τ 0 0 = 0) ∧ 0 ≤ τ 0 0 ∧ τ 0 0 ≤ 2000) (h : ∀ t, Ply N o (pB (nR N) k τ) t → Same (DPl o) s t → Q 0 t) : P_X6_meet o p1 (k : Int) s Q := by
  have hR := hN.1
  have hnR : (nR N : Int) = N 0 0 := by unfold nR; omega
  have hR8 : nR N ≤ 8 := by omega
  unfold P_X6_meet
  refine lp3 (L_X6_meet_5 o p1 (k : Int) _) (fun x y t => ∃ a : Nat, y = (a : Int) ∧ a ≤ nR N ∧ BrX (nR N) τ a 0 x ∧ Ply N o (pBp k τ (sumI (fun x => cntB (prB τ x) (nR N)) a)) t ∧ Same (DPl o) s t) (fun _ y _ => (9 - y).toNat) ?_ 0 0 s ⟨0, rfl, by omega, fun c _ => ?_, by show Ply N o (pBp k τ 0) s; rw [pBp_z]; exact hP, Same.rfl'⟩
  rotate_left
  · rw [ib_0]
    exact ⟨fun q => absurd q (by decide), fun ⟨i, j, q, _⟩ => by omega⟩
  intro n x y t ⟨a, hy, ha, hx, hPt, hSt⟩ ih
  subst hy
  have hCt := NtC_cg ho hp hC hSt
  unfold L_X6_meet_5
  rw [hCt.1]
  refine ⟨fun c => ?_, fun c x2 ex2 => ?_⟩
  · -- the broken ones
    have : a = nR N := by omega
    subst this
    refine lp2 (L_X6_meet_147 o p1 x _) (fun y u => ∃ i : Nat, y = (i : Int) ∧ i ≤ nR N ∧ Ply N o (pBr (nR N) i (pBp k τ (prC (nR N) τ))) u ∧ Same (DPl o) s u) (fun y _ => (9 - y).toNat) ?_ 0 t ⟨0, rfl, by omega, ?_, hSt⟩
    rotate_left
    · have : pBr (nR N) 0 (pBp k τ (prC (nR N) τ)) = pBp k τ (prC (nR N) τ) := by
        funext a b
        unfold pBr
        rw [if_neg (fun q => Nat.not_lt_zero b q.2.1)]
      rw [this]
      exact hPt
    intro n y u ⟨i, hy, hi, hPu, hSu⟩ ih2
    subst hy
    have hCu := NtC_cg ho hp hC hSu
    unfold L_X6_meet_147
    rw [hCu.1]
    refine ⟨fun c => ?_, fun c => ?_⟩
    · have : i = nR N := by omega
      subst this
      exact h u hPu hSu
    · have hr : (i : Int) < N 0 0 := by omega
      have hin : inb (i : Int) 8 := ⟨by omega, by omega⟩
      have hw : w32 ((i : Int) + 1) = ((i + 1 : Nat) : Int) := by rw [w32_of (by omega) (by omega)]; omega
      have hbit := BrX_br hx (by omega : i < nR N) hR8
      rw [ib_t (by omega), hbit, hw]
      by_cases cb : brB (nR N) τ i = true
      · rw [if_pos cb]
        refine ⟨fun q => absurd q (by decide), fun _ => ⟨⟨hin, trivial⟩, fun s4 e4 => ?_⟩⟩
        obtain ⟨b, -, -, q1, -⟩ := brB_iff.mp cb
        have e1 : pBr (nR N) i (pBp k τ (prC (nR N) τ)) 1 i = 1 := by
          unfold pBr
          rw [if_neg (fun q => Nat.lt_irrefl i q.2.1), pBp_a (by decide)]
          exact q1
        have e2 : pBr (nR N) (i + 1) (pBp k τ (prC (nR N) τ)) 1 i = 3 := by
          unfold pBr
          rw [if_pos ⟨rfl, by omega, by rw [brB_p]; exact cb⟩]
        have l1 : live N (pBr (nR N) i (pBp k τ (prC (nR N) τ))) i = true := by unfold live; exact decide_eq_true (Or.inl e1)
        have l2 : live N (pBr (nR N) (i + 1) (pBp k τ (prC (nR N) τ))) i = false := by unfold live; rw [e2]; exact decide_eq_false (by omega)
        have hv := Ply_live hPu hN hr l1
        rw [settle_v hv] at e4
        obtain ⟨u1, u2, u3, u4⟩ := hPu.1 i hr
        have hS4 : ∀ a b, ¬ ((o + 1 ≤ a ∧ a ≤ o + 4 ∧ b = i) ∨ (a = o ∧ b = 11)) → s4 a b = u a b := fun a b q => by rw [e4, up_c2 (by omega), up_c2 (by omega)]
        have hne : ∀ a b, ¬ ((1 ≤ a ∧ a ≤ 4) ∧ b = i) → pBr (nR N) (i + 1) (pBp k τ (prC (nR N) τ)) a b = pBr (nR N) i (pBp k τ (prC (nR N) τ)) a b := fun a b q => by
          unfold pBr
          by_cases c1 : a = 1 ∧ b < i ∧ brB (nR N) (pBp k τ (prC (nR N) τ)) b = true
          · rw [if_pos c1, if_pos ⟨c1.1, by omega, c1.2.2⟩]
          · rw [if_neg c1, if_neg (fun w => c1 ⟨w.1, by omega, w.2.2⟩)]
        have hrow : ∀ a, a ≠ 1 → pBr (nR N) (i + 1) (pBp k τ (prC (nR N) τ)) a i = pBr (nR N) i (pBp k τ (prC (nR N) τ)) a i := fun a q => by
          unfold pBr
          rw [if_neg (fun w => q w.1), if_neg (fun w => q w.1)]
        refine ih2 _ _ ⟨i + 1, rfl, by omega, Ply_ring hPu ho hr hne ?_ ?_ ?_ ?_ ?_ hS4, hSu.trans (fun a b q => hS4 a b (by unfold DPl at q; omega))⟩ (by omega)
        · rw [e2, e4, up_c (by omega), up_at]
        · rw [hrow 2 (by decide), e4, up_c (by omega), up_c (by omega)]; exact u2
        · rw [hrow 3 (by decide), e4, up_c (by omega), up_c (by omega)]; exact u3
        · rw [hrow 4 (by decide), e4, up_c (by omega), up_c (by omega)]; exact u4
        · rw [l1, l2, e4, up_at]; simp
      · rw [if_neg cb]
        refine ⟨fun _ => ih2 _ _ ⟨i + 1, rfl, by omega, ?_, hSu⟩ (by omega), fun q => absurd rfl q⟩
        have : pBr (nR N) (i + 1) (pBp k τ (prC (nR N) τ)) = pBr (nR N) i (pBp k τ (prC (nR N) τ)) := by
          funext a b
          unfold pBr
          by_cases c1 : a = 1 ∧ b < i ∧ brB (nR N) (pBp k τ (prC (nR N) τ)) b = true
          · rw [if_pos c1, if_pos ⟨c1.1, by omega, c1.2.2⟩]
          · refine (if_neg (fun w => ?_)).trans (if_neg c1).symm
            by_cases e : b = i
            · rw [e, brB_p] at w; exact cb w.2.2
            · exact c1 ⟨w.1, by omega, w.2.2⟩
        rw [this]
        exact hPu
  · -- pairs with a
    have har : (a : Int) < N 0 0 := by omega
    have hina : inb (a : Int) 8 := ⟨by omega, by omega⟩
    have hw : w32 ((a : Int) + 1) = ((a + 1 : Nat) : Int) := by rw [w32_of (by omega) (by omega)]; omega
    rw [hw] at ex2
    subst ex2
    refine lp3 (L_X6_meet_20 o p1 (k : Int) (a : Int) _) (fun x y t => ∃ b : Nat, y = (b : Int) ∧ a < b ∧ b ≤ nR N ∧ BrX (nR N) τ a b x ∧ Ply N o (pBp k τ (sumI (fun x => cntB (prB τ x) (nR N)) a + cntB (prB τ a) b)) t ∧ Same (DPl o) s t) (fun _ y _ => (9 - y).toNat) ?_ x ((a + 1 : Nat) : Int) t ⟨a + 1, rfl, by omega, by omega, ?_, ?_, hSt⟩
    rotate_left
    · exact BrX_e hx (fun i j q1 q2 q3 => by omega)
    · have : cntB (prB τ a) (a + 1) = 0 := (cntB_0 _).mpr (fun i hi => by
        cases q : prB τ a i with
        | false => rfl
        | true => have := (prB_iff.mp q).1; omega)
      rw [this, Int.add_zero]
      exact hPt
    intro m x y u ⟨b, hy, hab, hb, hxb, hPu, hSu⟩ ih2
    subst hy
    have hCu := NtC_cg ho hp hC hSu
    have ext : (∀ j, b ≤ j → j < nR N → ¬ Eq2 τ a j ∧ prB τ a j = false) → L_X6_meet_5 o p1 (k : Int) (fun x1 s2 => ∃ n4, L_X6_meet_147 o p1 x1 (fun s3 => Q 0 s3) n4 0 s2) n x (w32 ((a : Int) + 1)) u := by
      intro hno
      rw [hw]
      refine ih _ _ _ ⟨a + 1, rfl, by omega, ?_, ?_, hSu⟩ (by omega)
      · refine BrX_e hxb (fun i j q1 q2 q3 => ?_)
        by_cases e : i = a
        · by_cases e2 : j < b
          · omega
          · exact absurd (e ▸ q3) (hno j (by omega) q2).1
        · omega
      · have : cntB (prB τ a) (nR N) = cntB (prB τ a) b := by
          have hd : ∀ d, b + d ≤ nR N → cntB (prB τ a) (b + d) = cntB (prB τ a) b := by
            intro d
            induction d with
            | zero => intro _; rfl
            | succ d ihd =>
              intro q
              rw [show b + (d + 1) = (b + d) + 1 by omega, cntB_s, ihd (by omega), (hno (b + d) (by omega) (by omega)).2]
              simp
          have := hd (nR N - b) (by omega)
          rw [show b + (nR N - b) = nR N by omega] at this
          exact this
        rw [sumI_s, this]
        exact hPu
    unfold L_X6_meet_20
    rw [hCu.1, Int.toNat_natCast]
    refine ⟨fun c => ext (fun j q1 q2 => by omega), fun c => ⟨hina, fun c1 => ?_, fun c1 => ?_⟩⟩
    · have hbr : (b : Int) < N 0 0 := by omega
      have hinb : inb (b : Int) 8 := ⟨by omega, by omega⟩
      have hwb : w32 ((b : Int) + 1) = ((b + 1 : Nat) : Int) := by rw [w32_of (by omega) (by omega)]; omega
      obtain ⟨a1, a2, a3, -⟩ := hPu.1 a har
      obtain ⟨b1, b2, b3, -⟩ := hPu.1 b hbr
      rw [pBp_a (by decide)] at a1 a2 a3 b1 b2 b3
      have nxt0 : ¬ (τ 1 a = 1 ∧ τ 1 b = 1 ∧ τ 2 a = τ 2 b) → L_X6_meet_20 o p1 (k : Int) (a : Int) (fun x3 s4 => L_X6_meet_5 o p1 (k : Int) (fun x1 s2 => ∃ n4, L_X6_meet_147 o p1 x1 (fun s3 => Q 0 s3) n4 0 s2) n x3 (w32 ((a : Int) + 1)) s4) m x (w32 ((b : Int) + 1)) u := by
        intro q
        rw [hwb]
        refine ih2 _ _ _ ⟨b + 1, rfl, by omega, by omega, BrX_e hxb (fun i j q1 q2 q3 => ?_), ?_, hSu⟩ (by omega)
        · by_cases e : i = a ∧ j = b
          · rw [e.1, e.2] at q3
            exact absurd ⟨q3.1, q3.2.1, q3.2.2.1⟩ q
          · omega
        · rw [cntB_s, pr_no (fun w => q ⟨w.1, w.2.1, w.2.2.1⟩)]
          simp only [Bool.false_eq_true, if_false, Int.add_zero]
          exact hPu
      rw [Int.toNat_natCast]
      refine ⟨hinb, fun c2 => ⟨hina, hinb, fun c3 => ⟨hina, hinb, fun c4 x12 e12 => ?_, fun c4 x13 e13 s15 e15 s16 e16 => ?_⟩, fun c3 => nxt0 (fun q => by omega)⟩, fun c2 => nxt0 (fun q => by omega)⟩
      · rw [hwb]
        subst e12
        refine ih2 _ _ _ ⟨b + 1, rfl, by omega, by omega, BrX_s hxb hab (by omega) hR8 ⟨by omega, by omega, by omega, by omega⟩, ?_, hSu⟩ (by omega)
        rw [cntB_s, pr_no (fun w => w.2.2.2 (by omega))]
        simp only [Bool.false_eq_true, if_false, Int.add_zero]
        exact hPu
      · rw [hwb]
        have hpr : prB τ a b = true := prB_iff.mpr ⟨hab, by omega, by omega, by omega, by omega⟩
        have hP16 := Ply_pair hPu ho hk hz (cA_rng hR8 (by omega) hb) e13
        rw [← e15, ← e16] at hP16
        refine ih2 _ _ _ ⟨b + 1, rfl, by omega, by omega, BrX_e hxb (fun i j q1 q2 q3 => ?_), ?_, ?_⟩ (by omega)
        · by_cases e : i = a ∧ j = b
          · rw [e.1, e.2] at q3
            exact absurd q3.2.2.2 (by omega)
          · omega
        · rw [cntB_s, hpr, if_pos rfl, ← Int.add_assoc]
          exact hP16
        · rw [e16, e15]
          exact (hSu.up (by unfold DPl; omega)).up (by unfold DPl; omega)
    · refine ext (fun j q1 q2 => ?_)
      obtain ⟨a1, -, -, -⟩ := hPu.1 a har
      rw [pBp_a (by decide)] at a1
      exact ⟨fun q => c1 (by rw [a1]; exact q.1), pr_no (fun q => c1 (by rw [a1]; exact q.1))⟩
