/-! ===== the class plays a night: a step, all of it ===== -/
theorem pB_idle {R k : Nat} {τ : Sto} (h : ∀ a b, a < b → b < R → τ 1 a = 1 → τ 1 b = 1 → ¬ τ 2 a = τ 2 b) : pB R k τ = τ := by
  have h1 : prC R τ = 0 := by
    have : ∀ n, n ≤ R → sumI (fun a => cntB (prB τ a) R) n = 0 := by
      intro n
      induction n with
      | zero => intro _; rfl
      | succ n ih =>
        intro hn
        rw [sumI_s, ih (by omega), (cntB_0 R).mpr (fun i hi => by
          cases q : prB τ n i with
          | false => rfl
          | true =>
            obtain ⟨q1, q2, q3, q4, -⟩ := prB_iff.mp q
            exact absurd q4 (h n i q1 hi q2 q3))]
        rfl
    exact this R (Nat.le_refl R)
  unfold pB
  rw [h1, pBp_z]
  funext a b
  unfold pBr
  by_cases c : a = 1 ∧ b < R ∧ brB R τ b = true
  · exfalso
    obtain ⟨x, q1, q2, q3, q4, q5, -⟩ := brB_iff.mp c.2.2
    rcases Nat.lt_or_ge x b with q | q
    · exact h x b q c.2.1 q4 q3 q5.symm
    · exact h b x (by omega) q1 q3 q4 q5
  · rw [if_neg c]
theorem T_takeStep {N σ s : Sto} {o p1 k : Nat} {Q : Int → Sto → Prop} (ho : o = 16 ∨ o = 54) (hp : p1 = 6 ∨ p1 = 44) (hN : NOk N) (hC : NtC N p1 s) (hk : k < 20) (hI : Inv N k σ) (hz : PInv k σ) (hP : Ply N o σ s) (h : ∀ t, Ply N o (stp N k σ) t → Same (DPl o) s t → Q 0 t) : P_X6_takeStep o p1 (k : Int) s Q := by
  have hR := hN.1
  have hnR : (nR N : Int) = N 0 0 := by unfold nR; omega
  have hc36 := hN.2.2.2.1
  obtain ⟨hIA, hIB⟩ := Inv_pAB hN hk hI
  have e0 : ∀ b, pA N k σ 0 b = σ 0 b := fun b => pAi_o (by decide)
  unfold P_X6_takeStep
  refine T_phaseA ho hp hN hC hk hI hP (fun x y t hx hy hPt hSt => ?_)
  have hCt := NtC_cg ho hp hC hSt
  have hA1 : ∀ r, r < nR N → pA N k σ 1 r = pA1 N k σ r := fun r q => (pAi_lt q).1
  have hA2 : ∀ r, r < nR N → pA N k σ 2 r = pA2 N k σ r := fun r q => (pAi_lt q).2.1
  -- nothing can fall
  have nofall : ∀ u, Ply N o (pB (nR N) k (pA N k σ)) u → Same (DPl o) s u → lA x (u o 12) = 0 → Q 0 u := by
    intro u hPu hSu q
    refine h u ?_ hSu
    unfold stp
    rw [fl_idle (fun r t hr ht q1 q2 => ?_) (nR N) (by omega)]
    · exact hPu
    · have hrR : r < nR N := by omega
      have q3 : pA N k σ 1 r = 1 := by
        rw [pB_1] at q1
        split at q1
        · exact absurd q1 (by decide)
        · exact q1
      rw [pB_a (by decide) (by decide)] at q2
      have hcell := ((hIA.1 r hr).2.2.2.1 q3).1
      obtain ⟨c, hc⟩ := Int.eq_ofNat_of_zero_le hcell.1
      refine lA_0.mp q c (by omega) ((hx c (by omega)).mpr ⟨r, hrR, by rw [← hA1 r hrR]; exact q3, by rw [← hA2 r hrR]; exact hc⟩) ((hPu.2.2.2.2.2.2 c (by omega)).mpr ⟨t, ht, by rw [q2]; exact hc⟩)
  have dofall : ∀ u, Ply N o (pB (nR N) k (pA N k σ)) u → Same (DPl o) s u → P_X6_fall o p1 (k : Int) u (fun _ s6 => Q 0 s6) := by
    intro u hPu hSu
    refine T_fall ho hp hN (NtC_cg ho hp hC hSu) hk hPu hIB (fun v hPv hSv => h v hPv (hSu.trans hSv))
  refine ⟨fun c => ?_, fun _ => ?_⟩
  · have e : pB (nR N) k (pA N k σ) = pA N k σ := pB_idle (fun a b q1 q2 q3 q4 => by
      rw [hA1 a (by omega)] at q3
      rw [hA1 b q2] at q4
      rw [hA2 a (by omega), hA2 b q2]
      exact hy c a b q1 q2 q3 q4)
    rw [e] at nofall dofall
    exact ⟨fun q => nofall t hPt hSt q, fun _ => dofall t hPt hSt⟩
  · refine T_meet ho hp hN hCt hk hPt ?_ (fun u hPu hSu => ⟨fun q => nofall u hPu (hSt.trans hSu) q, fun _ => dofall u hPu (hSt.trans hSu)⟩)
    rw [e0, e0]
    refine ⟨hz.1, hz.2.1, ?_⟩
    have := hz.2.2
    omega
theorem T_begin {N s : Sto} {o p1 : Nat} {Q : Int → Sto → Prop} (ho : o = 16 ∨ o = 54) (hp : p1 = 6 ∨ p1 = 44) (hN : NOk N) (hC : NtC N p1 s) (h : ∀ t, Ply N o (st0 N) t → Same (DPl o) s t → Q 0 t) : P_X6_begin o p1 s Q := by
  have hR := hN.1
  have hT := hN.2.1
  have hnR : (nR N : Int) = N 0 0 := by unfold nR; omega
  have hnT : (nT N : Int) = N 0 6 := by unfold nT; omega
  unfold P_X6_begin
  intro s1 e1
  refine lp2 (L_X6_begin_7 o p1 _) (fun y t => ∃ i : Nat, y = (i : Int) ∧ i ≤ nR N ∧ (∀ r, r < i → t (o + 1) r = 0 ∧ t (o + 2) r = -1 ∧ t (o + 3) r = 0 ∧ t (o + 4) r = N 4 r) ∧ t o 11 = cntB (live N (st0 N)) i ∧ Same (DPl o) s t) (fun y _ => (9 - y).toNat) ?_ 0 s1 ⟨0, rfl, by omega, fun r q => absurd q (Nat.not_lt_zero r), by rw [e1, up_at]; rfl, by rw [e1]; exact Same.rfl'.up (Or.inr ⟨rfl, by decide, by decide⟩)⟩
  intro n y t ⟨i, hy, hi, hrow, hl, hSt⟩ ih
  subst hy
  have hCt := NtC_cg ho hp hC hSt
  unfold L_X6_begin_7
  rw [hCt.1]
  refine ⟨fun c s3 e3 => ?_, fun c => ?_⟩
  · have : i = nR N := by omega
    subst this
    refine lp2 (L_X6_begin_82 o p1 _) (fun y t => ∃ i : Nat, y = (i : Int) ∧ i ≤ nT N ∧ (∀ r, r < nR N → t (o + 1) r = 0 ∧ t (o + 2) r = -1 ∧ t (o + 3) r = 0 ∧ t (o + 4) r = N 4 r) ∧ t o 11 = cntB (live N (st0 N)) (nR N) ∧ (∀ x, x < i → t (o + 5) x = -1 ∧ t (o + 6) x = -1 ∧ t (o + 7) x = -1) ∧ (∀ c : Nat, c < 64 → (lb (t o 12) c = true ↔ ∃ x : Nat, x < i ∧ N 6 x = (c : Int))) ∧ Same (DPl o) s t) (fun y _ => (9 - y).toNat) ?_ 0 s3 ⟨0, rfl, by omega, fun r q => ?_, ?_, fun x q => absurd q (Nat.not_lt_zero x), fun d _ => ?_, ?_⟩
    rotate_left
    · rw [e3, up_c (by omega), up_c (by omega), up_c (by omega), up_c (by omega)]; exact hrow r q
    · rw [e3, up_j (by decide)]; exact hl
    · rw [e3, up_at, lb_0]
      exact ⟨fun q => absurd q (by decide), fun ⟨x, q, _⟩ => absurd q (Nat.not_lt_zero x)⟩
    · rw [e3]; exact hSt.up (Or.inr ⟨rfl, by decide, by decide⟩)
    intro n y u ⟨j, hy, hj, hrow, hl, hth, hld, hSu⟩ ih2
    subst hy
    have hCu := NtC_cg ho hp hC hSu
    unfold L_X6_begin_82
    rw [hCu.2.1]
    refine ⟨fun c s5 e5 s6 e6 s7 e7 => ?_, fun c => ?_⟩
    · have : j = nT N := by omega
      subst this
      have e : ∀ a b, ¬ (a = o ∧ (b = 8 ∨ b = 9 ∨ b = 10)) → s7 a b = u a b := fun a b q => by rw [e7, up_c2 (by omega), e6, up_c2 (by omega), e5, up_c2 (by omega)]
      refine h s7 ⟨fun r hr => ?_, fun x hx => ?_, ?_, ?_, ?_, ?_, fun d hd => ?_⟩ ?_
      · rw [e _ _ (by omega), e _ _ (by omega), e _ _ (by omega), e _ _ (by omega)]
        exact hrow r (by omega)
      · rw [e _ _ (by omega), e _ _ (by omega), e _ _ (by omega)]
        exact hth x (by omega)
      · rw [e7, up_j (by decide), e6, up_j (by decide), e5, up_at]
        exact ((cntB_0 _).mpr (fun i _ => rfl)).symm
      · rw [e7, up_j (by decide), e6, up_at]; rfl
      · rw [e7, up_at]; rfl
      · rw [e _ _ (by omega)]; exact hl
      · rw [e _ _ (by omega), hld d hd]
        exact ⟨fun ⟨x, q1, q2⟩ => ⟨x, by omega, q2⟩, fun ⟨x, q1, q2⟩ => ⟨x, by omega, q2⟩⟩
      · refine hSu.trans (fun a b q => e a b (by unfold DPl at q; omega))
    · have htt : (j : Int) < N 0 6 := by omega
      have hinj : inb (j : Int) 8 := ⟨by omega, by omega⟩
      have hwj : w32 ((j : Int) + 1) = ((j + 1 : Nat) : Int) := by rw [w32_of (by omega) (by omega)]; omega
      refine ⟨hinj, fun s3 e3 => ⟨hinj, fun s5 e5 => ⟨hinj, fun s7 e7 => ⟨hinj, fun s9 e9 => ?_⟩⟩⟩⟩
      rw [Int.toNat_natCast] at *
      obtain ⟨c, hc⟩ := Int.eq_ofNat_of_zero_le (hN.2.2.2.2.2.1 j htt).1.1
      have hc2 := (hN.2.2.2.2.2.1 j htt).1.2
      have e6 : s7 (p1 + 6) j = (c : Int) := by
        rw [e7, up_c (by omega), e5, up_c (by omega), e3, up_c (by omega), (hCu.2.2.2.2.2.1 j htt).1]; exact hc
      have e12 : s7 o 12 = u o 12 := by rw [e7, up_c (by omega), e5, up_c (by omega), e3, up_c (by omega)]
      rw [e6, e12] at e9
      have e : ∀ a b, ¬ ((a = o + 5 ∨ a = o + 6 ∨ a = o + 7) ∧ b = j) → ¬ (a = o ∧ b = 12) → s9 a b = u a b := fun a b q1 q2 => by rw [e9, up_c2 q2, e7, up_c2 (by omega), e5, up_c2 (by omega), e3, up_c2 (by omega)]
      rw [hwj]
      refine ih2 _ _ ⟨j + 1, rfl, by omega, fun r hr => ?_, ?_, fun x hx => ?_, fun d hd => ?_, ?_⟩ (by omega)
      · rw [e _ _ (by omega) (by omega), e _ _ (by omega) (by omega), e _ _ (by omega) (by omega), e _ _ (by omega) (by omega)]; exact hrow r hr
      · rw [e _ _ (by omega) (by omega)]; exact hl
      · by_cases q : x = j
        · rw [q]
          refine ⟨?_, ?_, ?_⟩
          · rw [e9, up_c (by omega), e7, up_c (by omega), e5, up_c (by omega), e3, up_at]
          · rw [e9, up_c (by omega), e7, up_c (by omega), e5, up_at]
          · rw [e9, up_c (by omega), e7, up_at]
        · rw [e _ _ (by omega) (by omega), e _ _ (by omega) (by omega), e _ _ (by omega) (by omega)]
          exact hth x (by omega)
      · rw [e9, up_at, lb_O, lb_shl (by omega) hd, Bool.or_eq_true, hld d hd, decide_eq_true_iff]
        constructor
        · rintro (⟨x, q1, q2⟩ | q)
          · exact ⟨x, by omega, q2⟩
          · exact ⟨j, by omega, by omega⟩
        · rintro ⟨x, q1, q2⟩
          by_cases q : x = j
          · right; rw [q] at q2; omega
          · exact Or.inl ⟨x, by omega, q2⟩
      · refine hSu.trans (fun a b q => e a b (by unfold DPl at q; omega) (by unfold DPl at q; omega))
  · have hr : (i : Int) < N 0 0 := by omega
    have hin : inb (i : Int) 8 := ⟨by omega, by omega⟩
    have hw : w32 ((i : Int) + 1) = ((i + 1 : Nat) : Int) := by rw [w32_of (by omega) (by omega)]; omega
    have hb := (hN.2.2.2.2.1 i hr).1
    have hcb := cntB_rng (live N (st0 N)) i
    refine ⟨hin, fun s3 e3 => ⟨hin, fun s5 e5 => ⟨hin, fun s7 e7 => ⟨hin, hin, fun s10 e10 => ⟨hin, fun c2 => ?_, fun c2 s13 e13 => ?_⟩⟩⟩⟩⟩
    all_goals
      rw [Int.toNat_natCast] at *
      have f4 : s7 (p1 + 4) i = N 4 i := by rw [e7, up_c (by omega), e5, up_c (by omega), e3, up_c (by omega)]; exact (hCt.2.2.2.2.1 i hr).2.2.2.1
      have f1 : s10 (p1 + 1) i = N 1 i := by rw [e10, up_c (by omega), e7, up_c (by omega), e5, up_c (by omega), e3, up_c (by omega)]; exact (hCt.2.2.2.2.1 i hr).1
      rw [f1] at c2
      rw [f4] at e10
      have e : ∀ a b, ¬ ((o + 1 ≤ a ∧ a ≤ o + 4) ∧ b = i) → s10 a b = t a b := fun a b q => by rw [e10, up_c2 (by omega), e7, up_c2 (by omega), e5, up_c2 (by omega), e3, up_c2 (by omega)]
      have hrow2 : ∀ r, r < i + 1 → s10 (o + 1) r = 0 ∧ s10 (o + 2) r = -1 ∧ s10 (o + 3) r = 0 ∧ s10 (o + 4) r = N 4 r := by
        intro r hr2
        by_cases q : r = i
        · rw [q]
          refine ⟨?_, ?_, ?_, ?_⟩
          · rw [e10, up_c (by omega), e7, up_c (by omega), e5, up_c (by omega), e3, up_at]
          · rw [e10, up_c (by omega), e7, up_c (by omega), e5, up_at]
          · rw [e10, up_c (by omega), e7, up_at]
          · rw [e10, up_at]
        · rw [e _ _ (by omega), e _ _ (by omega), e _ _ (by omega), e _ _ (by omega)]
          exact hrow r (by omega)
      have hS10 : Same (DPl o) s s10 := hSt.trans (fun a b q => e a b (by unfold DPl at q; omega))
      have e11 : s10 o 11 = cntB (live N (st0 N)) i := by rw [e _ _ (by omega)]; exact hl
      rw [hw]
    · refine ih _ _ ⟨i + 1, rfl, by omega, hrow2, ?_, hS10⟩ (by omega)
      have : live N (st0 N) i = false := by
        unfold live
        refine decide_eq_false (fun q => ?_)
        rcases q with q | q
        · exact absurd (show (0 : Int) = 1 from q) (by decide)
        · omega
      rw [cntB_s, this, e11]
      simp
    · rw [e11, w32_of (by omega) (by omega)] at e13
      have e' : ∀ a b, ¬ (a = o ∧ b = 11) → s13 a b = s10 a b := fun a b q => by rw [e13, up_c2 q]
      refine ih _ _ ⟨i + 1, rfl, by omega, fun r hr2 => ?_, ?_, ?_⟩ (by omega)
      · rw [e' _ _ (by omega), e' _ _ (by omega), e' _ _ (by omega), e' _ _ (by omega)]; exact hrow2 r hr2
      · have : live N (st0 N) i = true := by
          unfold live
          exact decide_eq_true (Or.inr ⟨rfl, by omega⟩)
        rw [cntB_s, this, if_pos rfl, e13, up_at]
      · rw [e13]; exact hS10.up (Or.inr ⟨rfl, by decide, by decide⟩)
/-- nobody goes or waits: nothing comes any more -/
theorem stp_idle {N σ : Sto} {k : Nat} (hN : NOk N) (hk : k < 20) (h : ∀ r : Nat, (r : Int) < N 0 0 → live N σ r = false) : stp N k σ = σ := by
  have hR := hN.1
  have hnR : (nR N : Int) = N 0 0 := by unfold nR; omega
  have h1 : ∀ r : Nat, (r : Int) < N 0 0 → ¬ σ 1 r = 1 ∧ ¬ (σ 1 r = 0 ∧ N 1 r = (k : Int)) := by
    intro r hr
    have := h r hr
    unfold live at this
    rw [decide_eq_false_iff_not] at this
    exact ⟨fun q => this (Or.inl q), fun q => this (Or.inr ⟨q.1, by omega⟩)⟩
  have eA : ∀ i : Nat, i ≤ nR N → pAi N k i σ = σ := by
    intro i
    induction i with
    | zero => intro _; exact pAi_z
    | succ i ih =>
      intro hi
      obtain ⟨q1, q2⟩ := h1 i (by omega)
      rw [(pAi_id q1 q2).1]
      exact ih (by omega)
  unfold stp
  rw [show pA N k σ = σ from eA (nR N) (Nat.le_refl _)]
  rw [pB_idle (fun a b q1 q2 q3 => absurd q3 (h1 a (by omega)).1)]
  exact fl_idle (fun r t hr _ q => absurd q (h1 r hr).1) (nR N) (by omega)
theorem sm_idle {N : Sto} {k : Nat} (hN : NOk N) (h : ∀ r : Nat, (r : Int) < N 0 0 → live N (sm N k) r = false) : ∀ d, k + d ≤ 20 → sm N (k + d) = sm N k := by
  intro d
  induction d with
  | zero => intro _; rfl
  | succ d ih =>
    intro hd
    show stp N (k + d) (sm N (k + d)) = sm N k
    rw [ih (by omega)]
    exact stp_idle hN (by omega) h
theorem T_playAll {N s : Sto} {o p1 : Nat} {Q : Int → Sto → Prop} (ho : o = 16 ∨ o = 54) (hp : p1 = 6 ∨ p1 = 44) (hN : NOk N) (hC : NtC N p1 s) (h : ∀ t, Ply N o (sm N 20) t → Same (DPl o) s t → Q 0 t) : P_X6_playAll o p1 s Q := by
  have hR := hN.1
  have hnR : (nR N : Int) = N 0 0 := by unfold nR; omega
  unfold P_X6_playAll
  refine T_begin ho hp hN hC (fun t hPt hSt => ?_)
  refine lp2 (L_X6_playAll_7 o p1 _) (fun y t => ∃ k : Nat, y = (k : Int) ∧ k ≤ 20 ∧ Ply N o (sm N k) t ∧ Same (DPl o) s t) (fun y _ => (21 - y).toNat) ?_ 0 t ⟨0, rfl, by omega, hPt, hSt⟩
  intro n y u ⟨k, hy, hk, hPu, hSu⟩ ih
  subst hy
  have hCu := NtC_cg ho hp hC hSu
  unfold L_X6_playAll_7
  refine ⟨fun c => ?_, fun c => ⟨fun c2 => ?_, fun c2 => ?_⟩⟩
  · have : k = 20 := by omega
    subst this
    exact h u hPu hSu
  · refine h u ?_ hSu
    have hl := hPu.2.2.2.2.2.1
    have hc := cntB_rng (live N (sm N k)) (nR N)
    have h0 := (cntB_0 (nR N)).mp (show cntB (live N (sm N k)) (nR N) = 0 by omega)
    have := sm_idle hN (fun r hr => h0 r (by omega)) (20 - k) (by omega)
    rw [show k + (20 - k) = 20 by omega] at this
    rw [this]
    exact hPu
  · have hw : w32 ((k : Int) + 1) = ((k + 1 : Nat) : Int) := by rw [w32_of (by omega) (by omega)]; omega
    obtain ⟨hI, hz⟩ := sm_inv hN k hk
    refine T_takeStep ho hp hN hCu (by omega) hI hz hPu (fun v hPv hSv => ?_)
    rw [hw]
    exact ih _ _ ⟨k + 1, rfl, by omega, hPv, hSu.trans hSv⟩ (by omega)
