/-! ===== the class plays a night: rings fall ===== -/
theorem wid_rng {N σ : Sto} {k r : Nat} (hN : NOk N) (h : RInv N k σ r) (h1 : σ 1 r = 1) : 1 ≤ σ 3 r ∧ σ 3 r ≤ 9 := by
  obtain ⟨-, -, h3, h4, -⟩ := h
  obtain ⟨-, h5, h6⟩ := h4 h1
  exact ⟨(wdt_inc hN (h3 (by omega)) h5).1, h6⟩
theorem fits_v2 {N s : Sto} {p1 t : Nat} {w : Int} (hN : NOk N) (hC : NtC N p1 s) (ht : (t : Int) < N 0 6) (hw : 1 ≤ w ∧ w ≤ 9) : (F_X4_fits p1 w (t : Int) s = 0 ↔ ¬ fit w (N 7 t) (N 8 t)) ∧ O_X4_fits p1 w (t : Int) s := by
  have hT := hN.2.1
  have hin : inb (t : Int) 8 := ⟨by omega, by omega⟩
  obtain ⟨-, q1, q2⟩ := hN.2.2.2.2.2.1 t ht
  obtain ⟨-, e7, e8⟩ := hC.2.2.2.2.2.1 t ht
  unfold F_X4_fits O_X4_fits
  rw [Int.toNat_natCast, e7, e8, w32_of (by omega) (by omega)]
  refine ⟨?_, hin, fun _ => trivial, fun _ => ⟨hin, fun _ => trivial, fun _ => ⟨hin, trivial⟩⟩⟩
  by_cases c1 : w - N 7 t < 0
  · rw [if_pos c1]
    exact ⟨fun _ q => by omega, fun _ => rfl⟩
  · rw [if_neg c1]
    by_cases c2 : N 8 t = 0
    · rw [if_pos c2]
      exact ⟨fun q => absurd q (by decide), fun q => absurd (by omega) q⟩
    · rw [if_neg c2]
      by_cases c3 : N 8 t = 1
      · rw [if_pos c3]
        by_cases c4 : 1 < w - N 7 t
        · rw [if_pos c4]
          exact ⟨fun _ q => by omega, fun _ => rfl⟩
        · rw [if_neg c4]
          exact ⟨fun q => absurd q (by decide), fun q => absurd (by omega) q⟩
      · rw [if_neg c3]
        by_cases c4 : 3 < w - N 7 t
        · rw [if_pos c4]
          exact ⟨fun _ q => by omega, fun _ => rfl⟩
        · rw [if_neg c4]
          exact ⟨fun q => absurd q (by decide), fun q => absurd (by omega) q⟩
theorem Ply_fall {N σ s u : Sto} {o p1 r t k : Nat} (ho : o = 16 ∨ o = 54) (hp : p1 = 6 ∨ p1 = 44) (hN : NOk N) (hC : NtC N p1 s) (h : Ply N o σ s) (hr : (r : Int) < N 0 0) (ht : (t : Int) < N 0 6) (h1 : σ 1 r = 1) (h5 : σ 5 t = -1)
    (hu : u = S_X6_settle o (r : Int) 2 (up (up (up (up s (o + 5) t (r : Int)) (o + 6) t (k : Int)) (o + 7) t (N 5 r)) o 8 (s o 8 + 1))) : Ply N o (up (up (up σ 5 t (r : Int)) 6 t (k : Int)) 1 r 2) u ∧ Same (DPl o) s u := by
  have hl : live N σ r = true := by unfold live; exact decide_eq_true (Or.inl h1)
  have hv := Ply_live h hN hr hl
  have hv2 : up (up (up (up s (o + 5) t (r : Int)) (o + 6) t (k : Int)) (o + 7) t (N 5 r)) o 8 (s o 8 + 1) o 11 = s o 11 := by
    rw [up_j (by decide), up_c (by omega), up_c (by omega), up_c (by omega)]
  rw [settle_v (by rw [hv2]; exact hv), hv2] at hu
  obtain ⟨g1, g2, g3, g4, g5, g6, g7⟩ := h
  have hr0 := hN.1
  have hS : ∀ a b, ¬ ((a = o + 5 ∨ a = o + 6 ∨ a = o + 7) ∧ b = t) → ¬ (a = o + 1 ∧ b = r) → ¬ (a = o ∧ (b = 8 ∨ b = 11)) → u a b = s a b := fun a b q1 q2 q3 => by
    rw [hu, up_c2 (by omega), up_c2 (by omega), up_c2 (by omega), up_c2 (by omega), up_c2 (by omega), up_c2 (by omega)]
  have hτ : ∀ a b, ¬ ((a = 5 ∨ a = 6) ∧ b = t) → ¬ (a = 1 ∧ b = r) → up (up (up σ 5 t (r : Int)) 6 t (k : Int)) 1 r 2 a b = σ a b := fun a b q1 q2 => by
    rw [up_c2 (by omega), up_c2 (by omega), up_c2 (by omega)]
  refine ⟨⟨fun x hx => ?_, fun x hx => ?_, ?_, ?_, ?_, ?_, fun d hd => ?_⟩, fun a b q => ?_⟩
  · obtain ⟨w1, w2, w3, w4⟩ := g1 x hx
    rw [hS (o + 2) x (by omega) (by omega) (by omega), hS (o + 3) x (by omega) (by omega) (by omega), hS (o + 4) x (by omega) (by omega) (by omega), hτ 2 x (by omega) (by omega), hτ 3 x (by omega) (by omega), hτ 4 x (by omega) (by omega)]
    refine ⟨?_, w2, w3, w4⟩
    by_cases e : x = r
    · rw [e, up_at, hu, up_c (by omega), up_at]
    · rw [hS (o + 1) x (by omega) (by omega) (by omega), hτ 1 x (by omega) (by omega)]
      exact w1
  · obtain ⟨w1, w2, w3⟩ := g2 x hx
    by_cases e : x = t
    · subst e
      have e5 : up (up (up σ 5 x (r : Int)) 6 x (k : Int)) 1 r 2 5 x = (r : Int) := by rw [up_c (by decide), up_c (by decide), up_at]
      have e6 : up (up (up σ 5 x (r : Int)) 6 x (k : Int)) 1 r 2 6 x = (k : Int) := by rw [up_c (by decide), up_at]
      refine ⟨?_, ?_, ?_⟩
      · rw [e5, hu, up_c (by omega), up_c (by omega), up_c (by omega), up_c (by omega), up_c (by omega), up_at]
      · rw [e6, hu, up_c (by omega), up_c (by omega), up_c (by omega), up_c (by omega), up_at]
      · unfold whm
        rw [e5, if_neg (by omega), Int.toNat_natCast, hu, up_c (by omega), up_c (by omega), up_c (by omega), up_at]
    · have e5 : whm N (up (up (up σ 5 t (r : Int)) 6 t (k : Int)) 1 r 2) x = whm N σ x := by unfold whm; rw [hτ 5 x (by omega) (by omega)]
      rw [hS _ _ (by omega) (by omega) (by omega), hS _ _ (by omega) (by omega) (by omega), hS _ _ (by omega) (by omega) (by omega), hτ 5 x (by omega) (by omega), hτ 6 x (by omega) (by omega), e5]
      exact ⟨w1, w2, w3⟩
  · rw [cntB_upd (f := bnB σ) (i := t) (nT N) (by unfold nT; omega) (fun j hj => by unfold bnB; rw [hτ 5 j (by omega) (by omega)])]
    have e5 : up (up (up σ 5 t (r : Int)) 6 t (k : Int)) 1 r 2 5 t = (r : Int) := by rw [up_c (by decide), up_c (by decide), up_at]
    have b1 : bnB (up (up (up σ 5 t (r : Int)) 6 t (k : Int)) 1 r 2) t = true := by unfold bnB; rw [e5]; exact decide_eq_true (by omega)
    have b2 : bnB σ t = false := by unfold bnB; rw [h5]; exact decide_eq_false (by decide)
    rw [b1, b2, hu, up_j (by decide), up_c (by omega), up_at, g3]
    simp
  · rw [hS _ _ (by omega) (by omega) (by omega), hτ _ _ (by omega) (by omega)]; exact g4
  · rw [hS _ _ (by omega) (by omega) (by omega), hτ _ _ (by omega) (by omega)]; exact g5
  · rw [cntB_upd (f := live N σ) (i := r) (nR N) (by unfold nR; omega) (fun j hj => by unfold live; rw [hτ 1 j (by omega) (by omega)]), hl, ← g6]
    have e1 : live N (up (up (up σ 5 t (r : Int)) 6 t (k : Int)) 1 r 2) r = false := by unfold live; rw [up_at]; exact decide_eq_false (by omega)
    rw [e1, hu, up_at]
    simp
  · rw [hS _ _ (by omega) (by omega) (by omega)]; exact g7 d hd
  · unfold DPl at q
    exact hS a b (by omega) (by omega) (by omega)
theorem fl1_stop {N σ : Sto} {k r t : Nat} (h : ¬ fl1 N k r σ t 1 r = 1) : ∀ d, fl1 N k r σ (t + d) = fl1 N k r σ t := by
  intro d
  induction d with
  | zero => rfl
  | succ d ih =>
    show ft N k r (t + d) (fl1 N k r σ (t + d)) = _
    rw [ih]
    unfold ft
    rw [if_neg (fun q => h q.1)]
theorem T_fall {N τ s : Sto} {o p1 k : Nat} {Q : Int → Sto → Prop} (ho : o = 16 ∨ o = 54) (hp : p1 = 6 ∨ p1 = 44) (hN : NOk N) (hC : NtC N p1 s) (hk : k < 20) (hP : Ply N o τ s) (hI : Inv N (k + 1) τ) (h : ∀ t, Ply N o (fl N k τ (nR N)) t → Same (DPl o) s t → Q 0 t) : P_X6_fall o p1 (k : Int) s Q := by
  have hR := hN.1
  have hT := hN.2.1
  have hnR : (nR N : Int) = N 0 0 := by unfold nR; omega
  have hnT : (nT N : Int) = N 0 6 := by unfold nT; omega
  unfold P_X6_fall
  refine lp2 (L_X6_fall_2 o p1 (k : Int) _) (fun y t => ∃ r : Nat, y = (r : Int) ∧ r ≤ nR N ∧ Ply N o (fl N k τ r) t ∧ Same (DPl o) s t) (fun y _ => (9 - y).toNat) ?_ 0 s ⟨0, rfl, by omega, hP, Same.rfl'⟩
  intro n y t ⟨r, hy, hr, hPt, hSt⟩ ih
  subst hy
  have hCt := NtC_cg ho hp hC hSt
  unfold L_X6_fall_2
  rw [hCt.1]
  refine ⟨fun c => ?_, fun c => ?_⟩
  · have : r = nR N := by omega
    subst this
    exact h t hPt hSt
  · have hrr : (r : Int) < N 0 0 := by omega
    have hin : inb (r : Int) 8 := ⟨by omega, by omega⟩
    have hw : w32 ((r : Int) + 1) = ((r + 1 : Nat) : Int) := by rw [w32_of (by omega) (by omega)]; omega
    have hIr := Inv_fl (m := k) hI r (by omega)
    refine lp2 (L_X6_fall_13 o p1 (k : Int) (r : Int) _) (fun y u => ∃ j : Nat, y = (j : Int) ∧ j ≤ nT N ∧ Ply N o (fl1 N k r (fl N k τ r) j) u ∧ Same (DPl o) s u) (fun y _ => (9 - y).toNat) ?_ 0 t ⟨0, rfl, by omega, hPt, hSt⟩
    intro m y u ⟨j, hy, hj, hPu, hSu⟩ ih2
    subst hy
    have hCu := NtC_cg ho hp hC hSu
    have hIj := Inv_fl1 (m := k) hrr hIr j
    unfold L_X6_fall_13
    rw [hCu.2.1, Int.toNat_natCast]
    refine ⟨fun c1 => ?_, fun c1 => ⟨hin, fun c2 => ?_, fun c2 => ?_⟩⟩
    · have : j = nT N := by omega
      subst this
      rw [hw]
      exact ih _ _ ⟨r + 1, rfl, by omega, hPu, hSu⟩ (by omega)
    · have htt : (j : Int) < N 0 6 := by omega
      have hinj : inb (j : Int) 8 := ⟨by omega, by omega⟩
      have hwj : w32 ((j : Int) + 1) = ((j + 1 : Nat) : Int) := by rw [w32_of (by omega) (by omega)]; omega
      obtain ⟨a1, a2, a3, -⟩ := hPu.1 r hrr
      obtain ⟨b5, b6, b7⟩ := hPu.2.1 j htt
      have e6 : u (p1 + 6) j = N 6 j := (hCu.2.2.2.2.2.1 j htt).1
      have e1 : fl1 N k r (fl N k τ r) j 1 r = 1 := by omega
      have hwid := wid_rng hN (hIj.1 r hrr) e1
      rw [← a3] at hwid
      obtain ⟨f1, f2⟩ := fits_v2 (w := u (o + 3) r) hN hCu htt hwid
      have hno : ¬ (fl1 N k r (fl N k τ r) j 1 r = 1 ∧ N 6 j = fl1 N k r (fl N k τ r) j 2 r ∧ fl1 N k r (fl N k τ r) j 5 j = -1 ∧ fit (fl1 N k r (fl N k τ r) j 3 r) (N 7 j) (N 8 j)) → L_X6_fall_13 o p1 (k : Int) (r : Int) (fun s2 => L_X6_fall_2 o p1 (k : Int) (fun s1 => Q 0 s1) n (w32 ((r : Int) + 1)) s2) m (w32 ((j : Int) + 1)) u := by
        intro q
        rw [hwj]
        refine ih2 _ _ ⟨j + 1, rfl, by omega, ?_, hSu⟩ (by omega)
        show Ply N o (ft N k r j (fl1 N k r (fl N k τ r) j)) u
        unfold ft
        rw [if_neg q]
        exact hPu
      rw [Int.toNat_natCast, e6]
      refine ⟨hinj, hin, fun c3 => ⟨hinj, fun c4 => ⟨hin, f2, fun c5 => hno (fun q => ?_), fun c5 => ⟨hinj, fun s14 e14 => ⟨hinj, fun s16 e16 => ⟨hin, hinj, fun s19 e19 s20 e20 => ⟨⟨hin, trivial⟩, fun s22 e22 => ?_⟩⟩⟩⟩⟩, fun c4 => hno (fun q => by omega)⟩, fun c3 => hno (fun q => by omega)⟩
      · exact f1.mp c5 (by rw [a3]; exact q.2.2.2)
      · have e16' : s16 (p1 + 5) r = N 5 r := by rw [e16, up_c (by omega), e14, up_c (by omega)]; exact (hCu.2.2.2.2.1 r hrr).2.2.2.2
        have hb := cntB_rng (bnB (fl1 N k r (fl N k τ r) j)) (nT N)
        have e8 : s19 o 8 = u o 8 := by rw [e19, up_c (by omega), e16, up_c (by omega), e14, up_c (by omega)]
        have h8 := hPu.2.2.1
        rw [e8, w32_of (by omega) (by omega)] at e20
        rw [e16'] at e19
        obtain ⟨g1, g2⟩ := Ply_fall (k := k) (u := s22) ho hp hN hCu hPu hrr htt e1 (by omega) (by rw [e22, e20, e19, e16, e14])
        rw [hwj]
        refine ih2 _ _ ⟨j + 1, rfl, by omega, ?_, hSu.trans g2⟩ (by omega)
        show Ply N o (ft N k r j (fl1 N k r (fl N k τ r) j)) s22
        unfold ft
        rw [if_pos ⟨e1, by omega, by omega, by
          have q := Decidable.not_not.mp (fun w => c5 (f1.mpr w))
          rw [a3] at q
          exact q⟩]
        exact g1
    · rw [hw]
      refine ih _ _ ⟨r + 1, rfl, by omega, ?_, hSu⟩ (by omega)
      obtain ⟨a1, -, -, -⟩ := hPu.1 r hrr
      have := fl1_stop (N := N) (σ := fl N k τ r) (k := k) (r := r) (t := j) (by omega) (nT N - j)
      rw [show j + (nT N - j) = nT N by omega] at this
      show Ply N o (fl1 N k r (fl N k τ r) (nT N)) u
      rw [this]
      exact hPu
theorem fl_idle {N τ : Sto} {k : Nat} (h : ∀ r t : Nat, (r : Int) < N 0 0 → (t : Int) < N 0 6 → τ 1 r = 1 → ¬ N 6 t = τ 2 r) : ∀ r : Nat, (r : Int) ≤ N 0 0 → fl N k τ r = τ := by
  intro r
  induction r with
  | zero => intro _; rfl
  | succ r ih =>
    intro hr
    have h1 : ∀ t : Nat, (t : Int) ≤ N 0 6 → fl1 N k r τ t = τ := by
      intro t
      induction t with
      | zero => intro _; rfl
      | succ t iht =>
        intro ht
        show ft N k r t (fl1 N k r τ t) = τ
        rw [iht (by omega)]
        unfold ft
        rw [if_neg (fun q => h r t (by omega) (by omega) q.1 q.2.1)]
    show fl1 N k r (fl N k τ r) (nT N) = τ
    rw [ih (by omega)]
    by_cases c : 0 ≤ N 0 6
    · exact h1 _ (by unfold nT; omega)
    · rw [show nT N = 0 by unfold nT; omega]; rfl
