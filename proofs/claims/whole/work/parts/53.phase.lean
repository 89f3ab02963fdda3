theorem isOpen_v {N u : Sto} {z : Int} (hN : NOk N) (h3 : u 3 0 = N 0 1) (h4 : ∀ c : Nat, (c : Int) < N 0 1 → u 4 c = N 10 c) : F_X10_isOpen z u = (if 0 ≤ z ∧ N 10 z.toNat = 1 then 1 else 0) ∧ O_X10_isOpen z u := by
  have hc := hN.2.2.2.1
  unfold F_X10_isOpen O_X10_isOpen
  rw [h3]
  by_cases c1 : z < 0
  · rw [if_pos c1, if_neg (by omega)]
    exact ⟨rfl, fun _ => trivial, fun q => absurd c1 q⟩
  · rw [if_neg c1]
    by_cases c2 : N 0 1 ≤ z
    · have := hN.2.2.2.2.2.2.2.2.2 z.toNat (by omega)
      rw [if_pos c2, if_neg (by omega)]
      exact ⟨rfl, fun q => absurd q c1, fun _ => ⟨fun _ => trivial, fun q => absurd c2 q⟩⟩
    · rw [if_neg c2, h4 z.toNat (by omega)]
      refine ⟨?_, fun q => absurd q c1, fun _ => ⟨fun q => absurd q c2, fun _ => ⟨⟨by omega, by omega⟩, trivial⟩⟩⟩
      rcases hN.2.2.2.2.2.2.2.2.1 z.toNat with q | q
      · rw [if_pos q, if_neg (by omega)]
      · rw [if_neg (by omega), if_pos (by omega)]
theorem T_start {N σ s : Sto} {o p1 r k : Nat} (ho : o = 16 ∨ o = 54) (hp : p1 = 6 ∨ p1 = 44) (hN : NOk N) (hC : NtC N p1 s) (hr : (r : Int) < N 0 0) (hσ : σ 1 r = 0) (hb : N 1 r = (k : Int)) (h4 : s (o + 4) r = σ 4 r) (hv : 1 ≤ s o 11 ∧ s o 11 ≤ 8) : O_X6_start o p1 (r : Int) s ∧ (∀ t, t = S_X6_start o p1 (r : Int) s → t (o + 1) r = pA1 N k σ r ∧ t (o + 2) r = pA2 N k σ r ∧ t (o + 3) r = pA3 N k σ r ∧ t (o + 4) r = pA4 σ r ∧ t o 11 = s o 11 + (if pA1 N k σ r = 1 then 0 else -1) ∧ Same (fun a b => (o + 1 ≤ a ∧ a ≤ o + 4 ∧ b = r) ∨ (a = o ∧ b = 11)) s t) := by
  have hR := hN.1
  have hin : inb (r : Int) 8 := ⟨by omega, by omega⟩
  have hRr := hN.2.2.2.2.1 r hr
  have n1 : ¬ σ 1 r = 1 := by omega
  have q3 : pA3 N k σ r = 1 := by unfold pA3; rw [if_neg n1, if_pos ⟨hσ, hb⟩]
  have q4 : pA4 σ r = σ 4 r := by unfold pA4; rw [if_neg n1]
  have q1 : pA1 N k σ r = if N 10 (N 2 r).toNat = 1 then 1 else 3 := by unfold pA1; rw [if_neg n1, if_pos ⟨hσ, hb⟩]
  have q2 : pA2 N k σ r = if N 2 r < N 0 1 then N 2 r else -1 := by unfold pA2; rw [if_neg n1, if_pos ⟨hσ, hb⟩]
  have f1 : up s (o + 3) r 1 3 0 = N 0 1 := by rw [up_c (by omega)]; exact hC.2.2.2.1
  have f2 : up s (o + 3) r 1 (p1 + 2) r = N 2 r := by rw [up_c (by omega)]; exact (hC.2.2.2.2.1 r hr).2.1
  have g : ∀ z w : Int, F_X10_isOpen z (up (up s (o + 3) r 1) (o + 2) r w) = (if 0 ≤ z ∧ N 10 z.toNat = 1 then 1 else 0) ∧ O_X10_isOpen z (up (up s (o + 3) r 1) (o + 2) r w) := fun z w => isOpen_v hN (by rw [up_c (by omega)]; exact f1) (fun c hc => by rw [up_c (by omega), up_c (by omega)]; exact hC.2.2.2.2.2.2.2.1 c hc)
  have v11 : ∀ w : Int, up (up s (o + 3) r 1) (o + 2) r w o 11 = s o 11 := fun w => by rw [up_c (by omega), up_c (by omega)]
  have hS : ∀ w : Int, Same (fun a b => (o + 1 ≤ a ∧ a ≤ o + 4 ∧ b = r) ∨ (a = o ∧ b = 11)) s (up (up s (o + 3) r 1) (o + 2) r w) := fun w => (Same.rfl'.up (Or.inl ⟨by omega, by omega, rfl⟩)).up (Or.inl ⟨by omega, by omega, rfl⟩)
  -- the two ends
  have e1 : ∀ w : Int, ¬ N 10 (N 2 r).toNat = 1 → w = pA2 N k σ r → ∀ t, t = S_X6_settle o (r : Int) 3 (up (up s (o + 3) r 1) (o + 2) r w) → t (o + 1) r = pA1 N k σ r ∧ t (o + 2) r = pA2 N k σ r ∧ t (o + 3) r = pA3 N k σ r ∧ t (o + 4) r = pA4 σ r ∧ t o 11 = s o 11 + (if pA1 N k σ r = 1 then 0 else -1) ∧ Same (fun a b => (o + 1 ≤ a ∧ a ≤ o + 4 ∧ b = r) ∨ (a = o ∧ b = 11)) s t := by
    intro w c1 c2 t et
    rw [settle_v (by rw [v11]; exact hv), v11] at et
    rw [q1, if_neg c1, q3, q4, if_neg (by decide)]
    refine ⟨?_, ?_, ?_, ?_, ?_, ?_⟩
    · rw [et, up_c (by omega), up_at]
    · rw [et, up_c (by omega), up_c (by omega), up_at]; exact c2
    · rw [et, up_c (by omega), up_c (by omega), up_c (by omega), up_at]
    · rw [et, up_c (by omega), up_c (by omega), up_c (by omega), up_c (by omega)]; exact h4
    · rw [et, up_at]; omega
    · rw [et]; exact ((hS w).up (Or.inl ⟨by omega, by omega, rfl⟩)).up (Or.inr ⟨rfl, rfl⟩)
  have e2 : ∀ w : Int, N 10 (N 2 r).toNat = 1 → w = pA2 N k σ r → ∀ t, t = up (up (up s (o + 3) r 1) (o + 2) r w) (o + 1) r 1 → t (o + 1) r = pA1 N k σ r ∧ t (o + 2) r = pA2 N k σ r ∧ t (o + 3) r = pA3 N k σ r ∧ t (o + 4) r = pA4 σ r ∧ t o 11 = s o 11 + (if pA1 N k σ r = 1 then 0 else -1) ∧ Same (fun a b => (o + 1 ≤ a ∧ a ≤ o + 4 ∧ b = r) ∨ (a = o ∧ b = 11)) s t := by
    intro w c1 c2 t et
    rw [q1, if_pos c1, q3, q4, if_pos rfl]
    refine ⟨?_, ?_, ?_, ?_, ?_, ?_⟩
    · rw [et, up_at]
    · rw [et, up_c (by omega), up_at]; exact c2
    · rw [et, up_c (by omega), up_c (by omega), up_at]
    · rw [et, up_c (by omega), up_c (by omega), up_c (by omega)]; exact h4
    · rw [et, up_c (by omega), v11]; omega
    · rw [et]; exact (hS w).up (Or.inl ⟨by omega, by omega, rfl⟩)
  unfold S_X6_start O_X6_start
  rw [Int.toNat_natCast, f1, f2, up_at, up_at, (g _ _).1, (g _ _).1]
  by_cases c : N 2 r < N 0 1
  · have p2 : N 2 r = pA2 N k σ r := by rw [q2, if_pos c]
    have nc : ¬ N 0 1 ≤ N 2 r := by omega
    rw [if_neg nc]
    by_cases c2 : N 10 (N 2 r).toNat = 1
    · rw [if_pos (⟨hRr.2.1.1, c2⟩ : 0 ≤ N 2 r ∧ N 10 (N 2 r).toNat = 1), if_neg (show ¬ (1 : Int) = 0 by decide)]
      refine ⟨⟨hin, hin, fun q => absurd q nc, fun _ => ⟨hin, hin, hin, (g _ _).2, fun q => absurd q (by decide), fun _ => ⟨hin, trivial⟩⟩⟩, e2 _ c2 p2⟩
    · rw [if_neg (fun q : 0 ≤ N 2 r ∧ N 10 (N 2 r).toNat = 1 => c2 q.2), if_pos (show (0 : Int) = 0 from rfl)]
      refine ⟨⟨hin, hin, fun q => absurd q nc, fun _ => ⟨hin, hin, hin, (g _ _).2, fun _ => ⟨⟨hin, trivial⟩, trivial⟩, fun q => absurd rfl q⟩⟩, e1 _ c2 p2⟩
  · have p2 : (-1 : Int) = pA2 N k σ r := by rw [q2, if_neg c]
    have c2 : ¬ N 10 (N 2 r).toNat = 1 := by
      have := hN.2.2.2.2.2.2.2.2.2 (N 2 r).toNat (by omega)
      omega
    have nc : N 0 1 ≤ N 2 r := by omega
    rw [if_pos nc]
    rw [if_neg (fun q : 0 ≤ (-1 : Int) ∧ N 10 (-1 : Int).toNat = 1 => absurd q.1 (by decide)), if_pos (show (0 : Int) = 0 from rfl)]
    refine ⟨⟨hin, hin, fun _ => ⟨hin, hin, (g _ _).2, fun _ => ⟨⟨hin, trivial⟩, trivial⟩, fun q => absurd rfl q⟩, fun q => absurd nc q⟩, e1 _ c2 p2⟩
theorem pAi_lt {N σ : Sto} {k i r : Nat} (h : r < i) : pAi N k i σ 1 r = pA1 N k σ r ∧ pAi N k i σ 2 r = pA2 N k σ r ∧ pAi N k i σ 3 r = pA3 N k σ r ∧ pAi N k i σ 4 r = pA4 σ r := by
  unfold pAi
  simp [h]
theorem pAi_ge {N σ : Sto} {k i r a : Nat} (h : ¬ r < i) : pAi N k i σ a r = σ a r := by
  unfold pAi
  rw [if_neg h]
theorem pAi_o {N σ : Sto} {k i r a : Nat} (h : ¬ (1 ≤ a ∧ a ≤ 4)) : pAi N k i σ a r = σ a r := by
  unfold pAi
  rw [if_neg (show ¬ a = 1 by omega), if_neg (show ¬ a = 2 by omega), if_neg (show ¬ a = 3 by omega), if_neg (show ¬ a = 4 by omega)]
  split <;> rfl
theorem pAi_s {N σ : Sto} {k i : Nat} : ∀ a b, ¬ ((1 ≤ a ∧ a ≤ 4) ∧ b = i) → pAi N k (i + 1) σ a b = pAi N k i σ a b := by
  intro a b h
  by_cases c : 1 ≤ a ∧ a ≤ 4
  · unfold pAi
    by_cases c2 : b < i
    · rw [if_pos c2, if_pos (by omega)]
    · rw [if_neg c2, if_neg (by omega)]
  · rw [pAi_o c, pAi_o c]
theorem pAi_z {N σ : Sto} {k : Nat} : pAi N k 0 σ = σ := by
  funext a b
  exact pAi_ge (Nat.not_lt_zero b)
/-- a ring that neither goes nor is blown now -/
theorem pAi_id {N σ : Sto} {k i : Nat} (h1 : ¬ σ 1 i = 1) (h2 : ¬ (σ 1 i = 0 ∧ N 1 i = (k : Int))) : pAi N k (i + 1) σ = pAi N k i σ ∧ pA1 N k σ i = σ 1 i := by
  have e : pA1 N k σ i = σ 1 i := by unfold pA1; rw [if_neg h1, if_neg h2]
  refine ⟨?_, e⟩
  funext a b
  by_cases c : (1 ≤ a ∧ a ≤ 4) ∧ b = i
  · obtain ⟨c1, rfl⟩ := c
    obtain ⟨g1, g2, g3, g4⟩ := pAi_lt (N := N) (σ := σ) (k := k) (Nat.lt_succ_self b)
    have ha : a = 1 ∨ a = 2 ∨ a = 3 ∨ a = 4 := by omega
    rw [pAi_ge (i := b) (by omega)]
    rcases ha with rfl | rfl | rfl | rfl
    · rw [g1, e]
    · rw [g2]; unfold pA2; rw [if_neg h1, if_neg h2]
    · rw [g3]; unfold pA3; rw [if_neg h1, if_neg h2]
    · rw [g4]; unfold pA4; rw [if_neg h1]
  · exact pAi_s a b c
def TkB (N : Sto) (k i : Nat) (σ : Sto) (x : Int) : Prop := ∀ c : Nat, c < 64 → (lb x c = true ↔ ∃ r, r < i ∧ pA1 N k σ r = 1 ∧ pA2 N k σ r = (c : Int))
def CrB (N : Sto) (k i : Nat) (σ : Sto) (x : Int) : Prop := x = 0 → ∀ a b, a < b → b < i → pA1 N k σ a = 1 → pA1 N k σ b = 1 → ¬ pA2 N k σ a = pA2 N k σ b
theorem TkB_s {N σ : Sto} {k i c : Nat} {x : Int} (h : TkB N k i σ x) (hc : c < 64) (h1 : pA1 N k σ i = 1) (h2 : pA2 N k σ i = (c : Int)) : TkB N k (i + 1) σ (lO x (lShl 1 (c : Int))) := by
  intro d hd
  rw [lb_O, lb_shl hc hd, Bool.or_eq_true, h d hd, decide_eq_true_iff]
  constructor
  · rintro (⟨r, q1, q2, q3⟩ | q)
    · exact ⟨r, by omega, q2, q3⟩
    · exact ⟨i, by omega, h1, by rw [h2, q]⟩
  · rintro ⟨r, q1, q2, q3⟩
    by_cases e : r = i
    · right
      rw [e, h2] at q3
      omega
    · exact Or.inl ⟨r, by omega, q2, q3⟩
theorem TkB_n {N σ : Sto} {k i : Nat} {x : Int} (h : TkB N k i σ x) (h1 : ¬ pA1 N k σ i = 1) : TkB N k (i + 1) σ x := by
  intro d hd
  rw [h d hd]
  constructor
  · rintro ⟨r, q1, q2, q3⟩
    exact ⟨r, by omega, q2, q3⟩
  · rintro ⟨r, q1, q2, q3⟩
    by_cases e : r = i
    · rw [e] at q2; exact absurd q2 h1
    · exact ⟨r, by omega, q2, q3⟩
theorem CrB_s {N σ : Sto} {k i c : Nat} {x y : Int} (h : TkB N k i σ x) (hr : CrB N k i σ y) (hc : c < 64) (h2 : pA2 N k σ i = (c : Int)) : CrB N k (i + 1) σ (if y = 0 then (if lA x (lShl 1 (c : Int)) = 0 then 0 else 1) else 1) := by
  intro q a b q1 q2 q3 q4 q5
  by_cases cy : y = 0
  · rw [if_pos cy] at q
    by_cases cl : lA x (lShl 1 (c : Int)) = 0
    · by_cases e : b = i
      · rw [e, h2] at q5
        exact lA_0.mp cl c hc ((h c hc).mpr ⟨a, by omega, q3, q5⟩) (by rw [lb_shl hc hc, decide_eq_true rfl])
      · exact hr cy a b q1 (by omega) q3 q4 q5
    · rw [if_neg cl] at q
      exact absurd q (by decide)
  · rw [if_neg cy] at q
    exact absurd q (by decide)
theorem CrB_n {N σ : Sto} {k i : Nat} {y : Int} (hr : CrB N k i σ y) (h1 : ¬ pA1 N k σ i = 1) : CrB N k (i + 1) σ y := by
  intro q a b q1 q2 q3 q4
  by_cases e : b = i
  · rw [e] at q4; exact absurd q4 h1
  · exact hr q a b q1 (by omega) q3 q4
theorem Same_r {o r : Nat} {s t : Sto} (h : Same (fun a b => (o + 1 ≤ a ∧ a ≤ o + 4 ∧ b = r) ∨ (a = o ∧ b = 11)) s t) : Same (DPl o) s t := h.mono (fun a b q => by unfold DPl; omega)
theorem T_phaseA {N σ s : Sto} {o p1 k : Nat} {K : Int → Int → Sto → Prop} (ho : o = 16 ∨ o = 54) (hp : p1 = 6 ∨ p1 = 44) (hN : NOk N) (hC : NtC N p1 s) (hk : k < 20) (hI : Inv N k σ) (hP : Ply N o σ s) (h : ∀ x y t, TkB N k (nR N) σ x → CrB N k (nR N) σ y → Ply N o (pA N k σ) t → Same (DPl o) s t → K x y t) : ∃ n, L_X6_takeStep_8 o p1 (k : Int) K n 0 0 0 s := by
  have hR := hN.1
  refine lp4 (L_X6_takeStep_8 o p1 (k : Int) K) (fun x y z t => ∃ i : Nat, z = (i : Int) ∧ i ≤ nR N ∧ TkB N k i σ x ∧ CrB N k i σ y ∧ Ply N o (pAi N k i σ) t ∧ Same (DPl o) s t) (fun _ _ z _ => (9 - z).toNat) ?_ 0 0 0 s ⟨0, rfl, by omega, fun c _ => ?_, fun _ a b _ q => absurd q (Nat.not_lt_zero b), by rw [pAi_z]; exact hP, Same.rfl'⟩
  rotate_left
  · rw [lb_0]
    exact ⟨fun q => absurd q (by decide), fun ⟨r, q, _⟩ => absurd q (Nat.not_lt_zero r)⟩
  intro n x y z t ⟨i, hz, hi, hx, hy, hPt, hSt⟩ ih
  subst hz
  have hCt := NtC_cg ho hp hC hSt
  have hnR : (nR N : Int) = N 0 0 := by unfold nR; omega
  unfold L_X6_takeStep_8
  rw [hCt.1]
  refine ⟨fun c => ?_, fun c => ?_⟩
  · have : i = nR N := by omega
    subst this
    exact h x y t hx hy hPt hSt
  · have hr : (i : Int) < N 0 0 := by omega
    have hin : inb (i : Int) 8 := ⟨by omega, by omega⟩
    have hw : w32 ((i : Int) + 1) = ((i + 1 : Nat) : Int) := by rw [w32_of (by omega) (by omega)]; omega
    obtain ⟨r1, r2, r3, r4⟩ := hPt.1 i hr
    rw [pAi_ge (by omega)] at r1 r2 r3 r4
    have hI1 := hI.1 i hr
    have hA := RInv_pA hN hk hr hI1
    have hlv : live N (pAi N k i σ) i = live N σ i := by unfold live; rw [pAi_ge (by omega)]
    have hA1 : pA N k σ 1 i = pA1 N k σ i := (pAi_lt (by omega)).1
    have hA2 : pA N k σ 2 i = pA2 N k σ i := (pAi_lt (by omega)).2.1
    have fin : ∀ u, Ply N o (pAi N k (i + 1) σ) u → Same (DPl o) s u → (inb (i : Int) 8 ∧ ((u (o + 1) i = 1 → (inb (i : Int) 8 ∧ (∀ x9 : Int, x9 = lShl 1 (u (o + 2) i) → (∀ x10 : Int, x10 = (if y = 0 then (if lA x x9 = 0 then 0 else 1) else 1) → (∀ x13 : Int, x13 = lO x x9 → L_X6_takeStep_8 o p1 (k : Int) K n x13 x10 (w32 ((i : Int) + 1)) u))))) ∧ (¬ u (o + 1) i = 1 → L_X6_takeStep_8 o p1 (k : Int) K n x y (w32 ((i : Int) + 1)) u))) := by
      intro u hPu hSu
      obtain ⟨u1, u2, -, -⟩ := hPu.1 i hr
      obtain ⟨v1, v2, -, -⟩ := pAi_lt (N := N) (σ := σ) (k := k) (Nat.lt_succ_self i)
      rw [v1] at u1
      rw [v2] at u2
      rw [hw, u1, u2]
      refine ⟨hin, fun c1 => ⟨hin, fun x9 e9 x10 e10 x13 e13 => ?_⟩, fun c1 => ?_⟩
      · have hcell := (hA.2.2.2.1 (by rw [hA1]; exact c1)).1
        rw [hA2] at hcell
        have hc36 := hN.2.2.2.1
        obtain ⟨cc, hcc⟩ := Int.eq_ofNat_of_zero_le hcell.1
        rw [hcc] at e9
        subst e9
        subst e10
        subst e13
        exact ih _ _ _ _ ⟨i + 1, rfl, by omega, TkB_s hx (by omega) c1 hcc, CrB_s hx hy (by omega) hcc, hPu, hSu⟩ (by omega)
      · exact ih _ _ _ _ ⟨i + 1, rfl, by omega, TkB_n hx c1, CrB_n hy c1, hPu, hSu⟩ (by omega)
    have chg : ∀ u, live N σ i = true → u (o + 1) i = pA1 N k σ i → u (o + 2) i = pA2 N k σ i → u (o + 3) i = pA3 N k σ i → u (o + 4) i = pA4 σ i → u o 11 = t o 11 + (if pA1 N k σ i = 1 then 0 else -1) → (pA1 N k σ i = 1 ∨ pA1 N k σ i = 3 ∨ pA1 N k σ i = 4) → Same (fun a b => (o + 1 ≤ a ∧ a ≤ o + 4 ∧ b = i) ∨ (a = o ∧ b = 11)) t u → Ply N o (pAi N k (i + 1) σ) u := by
      intro u w0 w1 w2 w3 w4 w5 w6 w7
      obtain ⟨v1, v2, v3, v4⟩ := pAi_lt (N := N) (σ := σ) (k := k) (Nat.lt_succ_self i)
      refine Ply_ring hPt ho hr pAi_s (by rw [w1, v1]) (by rw [w2, v2]) (by rw [w3, v3]) (by rw [w4, v4]) ?_ (fun a b q => w7 a b q)
      rw [hlv, w0, if_pos rfl, w5]
      unfold live
      rw [v1]
      rcases w6 with q | q | q <;> rw [q] <;> simp <;> omega
    rw [Int.toNat_natCast, r1]
    refine ⟨hin, fun c1 => ?_, fun c1 => ⟨hin, fun c2 => ⟨hin, fun c3 => ?_, fun c3 => ⟨hin, ?_⟩⟩, fun c2 => ⟨hin, ?_⟩⟩⟩
    · have w0 : live N σ i = true := by unfold live; exact decide_eq_true (Or.inl c1)
      refine T_move ho hp hN hCt hr hk hI1 c1 r1 r2 r3 r4 (Ply_live hPt hN hr (by rw [hlv]; exact w0)) (fun u u1 u2 u3 u4 u5 u6 => ?_)
      refine fin u (chg u w0 u1 u2 u3 u4 u5 ?_ u6) (hSt.trans (Same_r u6))
      unfold pA1
      rw [if_pos c1]
      split
      · exact Or.inr (Or.inl rfl)
      · split
        · exact Or.inr (Or.inr rfl)
        · exact Or.inl rfl
    · have eN : N 1 i = (k : Int) := by rw [← (hCt.2.2.2.2.1 i hr).1]; exact c3
      have w0 : live N σ i = true := by unfold live; exact decide_eq_true (Or.inr ⟨c2, by omega⟩)
      obtain ⟨g1, g2⟩ := T_start (k := k) ho hp hN hCt hr c2 eN r4 (Ply_live hPt hN hr (by rw [hlv]; exact w0))
      refine ⟨g1, fun u eu => ?_⟩
      obtain ⟨u1, u2, u3, u4, u5, u6⟩ := g2 u eu
      refine fin u (chg u w0 u1 u2 u3 u4 u5 ?_ u6) (hSt.trans (Same_r u6))
      unfold pA1
      rw [if_neg c1, if_pos ⟨c2, eN⟩]
      split
      · exact Or.inl rfl
      · exact Or.inr (Or.inl rfl)
    · have eN : ¬ N 1 i = (k : Int) := by rw [← (hCt.2.2.2.2.1 i hr).1]; exact c3
      obtain ⟨g1, g2⟩ := pAi_id (N := N) (k := k) c1 (fun q => eN q.2)
      rw [hw]
      exact ih _ _ _ _ ⟨i + 1, rfl, by omega, TkB_n hx (by rw [g2]; exact c1), CrB_n hy (by rw [g2]; exact c1), by rw [g1]; exact hPt, hSt⟩ (by omega)
    · obtain ⟨g1, g2⟩ := pAi_id (N := N) (k := k) c1 (fun q => c2 q.1)
      rw [hw]
      exact ih _ _ _ _ ⟨i + 1, rfl, by omega, TkB_n hx (by rw [g2]; exact c1), CrB_n hy (by rw [g2]; exact c1), by rw [g1]; exact hPt, hSt⟩ (by omega)
