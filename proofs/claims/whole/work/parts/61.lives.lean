/-! ===== the reference lives a night: a step, all of it ===== -/
def DMs (k a b : Nat) : Prop := (80 ≤ a ∧ a ≤ 83) ∨ a = 85 ∨ a = 86 ∨ (a = 69 ∧ (b = 23 ∨ b = 24)) ∨ (a = 84 ∧ 32 * k ≤ b ∧ b < 32 * k + 32)
theorem Same_sl {k : Nat} {s t : Sto} (h : Same (DMs k) s t) : Same DMl s t := h.mono (fun a b q => by unfold DMl; unfold DMs at q; omega)
theorem T_msteps {N σ s : Sto} {k : Nat} {Q : Int → Sto → Prop} (hN : NOk N) (hC : NtM N s) (hk : k < 20) (hI : Inv N k σ) (hz : PInv k σ) (hP : PlM N σ s) (h : ∀ t, PlM N (stp N k σ) t → (∀ r : Nat, (r : Int) < N 0 0 → KpR N (stp N k σ) k t r) → Same (DMs k) s t → Q 0 t) : P_X12_steps (k : Int) s Q := by
  have hR := hN.1
  have hnR : (nR N : Int) = N 0 0 := by unfold nR; omega
  obtain ⟨hIA, hIB⟩ := Inv_pAB hN hk hI
  have e0 : ∀ b, pA N k σ 0 b = σ 0 b := fun b => pAi_o (by decide)
  have hz2 : 0 ≤ pA N k σ 0 0 ∧ pA N k σ 0 0 ≤ 2000 := by rw [e0]; have := hz.2; omega
  have hlt : ∀ j : Nat, j ≤ nR N → ¬ N 0 0 ≤ (j : Int) → (j : Int) < N 0 0 ∧ j + 1 ≤ nR N ∧ w32 ((j : Int) + 1) = ((j + 1 : Nat) : Int) ∧ (9 - ((j + 1 : Nat) : Int)).toNat < (9 - (j : Int)).toNat := fun j q1 q2 => by
    refine ⟨by omega, by omega, ?_, by omega⟩
    rw [w32_of (by omega) (by omega)]; omega
  have hge : ∀ j : Nat, j ≤ nR N → N 0 0 ≤ (j : Int) → j = nR N := fun j q1 q2 => by omega
  unfold P_X12_steps
  refine T_mphase hN hC hk hI hP (fun t hPt hSt => ?_)
  have hCt := NtM_cg hC (Same_ql hSt)
  refine T_mmeet hN hCt hk hPt hz2 (fun u hPu hSu => ?_)
  have hSu2 : Same (DMs k) s u := (hSt.mono (fun a b q => by unfold DMs; unfold DMq at q; omega)).trans (hSu.mono (fun a b q => by unfold DMs; unfold DMm at q; omega))
  refine lp2 (L_X12_steps_115 (k : Int) _) (fun y v => ∃ r : Nat, y = (r : Int) ∧ r ≤ nR N ∧ PlM N (fl N k (pB (nR N) k (pA N k σ)) r) v ∧ Same (DMs k) s v) (fun y _ => (9 - y).toNat) ?_ 0 u ⟨0, rfl, Nat.zero_le _, hPu, hSu2⟩
  intro n y v ⟨r, hy, hr, hPv, hSv⟩ ih
  subst hy
  have hCv := NtM_cg hC (Same_sl hSv)
  have hl1 := hlt r hr
  have hg1 := hge r hr
  unfold L_X12_steps_115
  rw [hCv.1]
  refine ⟨fun c => ?_, fun c => ?_⟩
  · have q := hg1 c
    subst q
    refine T_mkeeps hN hCv hk hPv (fun w hPw hKw hSw => ?_)
    exact h w hPw hKw (hSv.trans (hSw.mono (fun a b q => by unfold DMs; unfold DKp at q; omega)))
  · obtain ⟨hrr, hr1, hw, hmu⟩ := hl1 c
    have hIr := Inv_fl (m := k) hIB r (Int.le_of_lt hrr)
    refine T_mfalls hN hCv hrr hIr hPv (fun w hPw hSw => ?_)
    rw [hw]
    exact ih _ _ ⟨r + 1, rfl, hr1, hPw, hSv.trans (hSw.mono (fun a b q => by unfold DMs; unfold DMf at q; omega))⟩ hmu
def KpM (N s : Sto) (n : Nat) : Prop := ∀ m, m < n → ∀ r : Nat, (r : Int) < N 0 0 → KpR N (sm N (m + 1)) m s r
theorem T_lives {N s : Sto} {Q : Int → Sto → Prop} (hN : NOk N) (hC : NtM N s) (h : ∀ t, PlM N (sm N 20) t → KpM N t 20 → Same DMl s t → Q 0 t) : P_X12_lives s Q := by
  have hR := hN.1
  have hT := hN.2.1
  have hnR : (nR N : Int) = N 0 0 := by unfold nR; omega
  have hnT : (nT N : Int) = N 0 6 := by unfold nT; omega
  unfold P_X12_lives
  refine lp2 (L_X12_lives_2 _) (fun y t => ∃ i : Nat, y = (i : Int) ∧ i ≤ nR N ∧ (∀ r, r < i → t 80 r = 0 ∧ t 81 r = -1 ∧ t 82 r = 0 ∧ t 83 r = N 4 r) ∧ Same DMl s t) (fun y _ => (9 - y).toNat) ?_ 0 s ⟨0, rfl, by omega, fun r q => absurd q (Nat.not_lt_zero r), Same.rfl'⟩
  intro n y t ⟨i, hy, hi, hrow, hSt⟩ ih
  subst hy
  have hCt := NtM_cg hC hSt
  unfold L_X12_lives_2
  rw [hCt.1]
  refine ⟨fun c => ?_, fun c => ?_⟩
  · have : i = nR N := by omega
    subst this
    refine lp2 (L_X12_lives_55 _) (fun y t => ∃ i : Nat, y = (i : Int) ∧ i ≤ nT N ∧ (∀ r, r < nR N → t 80 r = 0 ∧ t 81 r = -1 ∧ t 82 r = 0 ∧ t 83 r = N 4 r) ∧ (∀ x, x < i → t 85 x = -1 ∧ t 86 x = -1) ∧ Same DMl s t) (fun y _ => (9 - y).toNat) ?_ 0 t ⟨0, rfl, by omega, hrow, fun x q => absurd q (Nat.not_lt_zero x), hSt⟩
    intro n y u ⟨j, hy, hj, hrow, hth, hSu⟩ ih2
    subst hy
    have hCu := NtM_cg hC hSu
    unfold L_X12_lives_55
    rw [hCu.2.1]
    refine ⟨fun c s3 e3 s4 e4 => ?_, fun c => ?_⟩
    · have : j = nT N := by omega
      subst this
      have e : ∀ a b, ¬ (a = 69 ∧ (b = 23 ∨ b = 24)) → s4 a b = u a b := fun a b q => by rw [e4, up_c2 (by omega), e3, up_c2 (by omega)]
      have hS4 : Same DMl s s4 := hSu.trans (fun a b q => e a b (by unfold DMl at q; omega))
      have hP4 : PlM N (sm N 0) s4 := by
        refine ⟨fun r hr => ?_, fun x hx => ?_, ?_, ?_⟩
        · rw [e _ _ (by omega), e _ _ (by omega), e _ _ (by omega), e _ _ (by omega)]
          exact hrow r (by omega)
        · rw [e _ _ (by omega), e _ _ (by omega)]
          exact hth x (by omega)
        · rw [e4, up_j (by decide), e3, up_at]; rfl
        · rw [e4, up_at]; rfl
      refine lp2 (L_X12_lives_95 _) (fun y t => ∃ k : Nat, y = (k : Int) ∧ k ≤ 20 ∧ PlM N (sm N k) t ∧ KpM N t k ∧ Same DMl s t) (fun y _ => (21 - y).toNat) ?_ 0 s4 ⟨0, rfl, by omega, hP4, fun m q => absurd q (Nat.not_lt_zero m), hS4⟩
      intro n y v ⟨k, hy, hk, hPv, hKv, hSv⟩ ih3
      subst hy
      have hCv := NtM_cg hC hSv
      unfold L_X12_lives_95
      refine ⟨fun c => ?_, fun c => ?_⟩
      · have : k = 20 := by omega
        subst this
        exact h v hPv hKv hSv
      · have hw : w32 ((k : Int) + 1) = ((k + 1 : Nat) : Int) := by rw [w32_of (by omega) (by omega)]; omega
        have hk2 : k < 20 := by omega
        have hmu : (21 - ((k + 1 : Nat) : Int)).toNat < (21 - (k : Int)).toNat := by omega
        obtain ⟨hI, hz⟩ := sm_inv hN k hk
        refine T_msteps hN hCv hk2 hI hz hPv (fun w hPw hKw hSw => ?_)
        rw [hw]
        refine ih3 _ _ ⟨k + 1, rfl, hk2, hPw, fun m hm r hr => ?_, hSv.trans (Same_sl hSw)⟩ hmu
        by_cases q : m = k
        · rw [q]; exact hKw r hr
        · obtain ⟨w1, w2, w3, w4⟩ := hKv m (by omega) r hr
          have f : ∀ d, d < 4 → w 84 (32 * m + 4 * r + d) = v 84 (32 * m + 4 * r + d) := fun d hd => hSw _ _ (by unfold DMs; omega)
          have f0 := f 0 (by decide)
          rw [Nat.add_zero] at f0
          unfold KpR
          rw [f0, f 1 (by decide), f 2 (by decide), f 3 (by decide)]
          exact ⟨w1, w2, w3, w4⟩
    · have htt : (j : Int) < N 0 6 := by omega
      have hinj : inb (j : Int) 8 := ⟨by omega, by omega⟩
      have hwj : w32 ((j : Int) + 1) = ((j + 1 : Nat) : Int) := by rw [w32_of (by omega) (by omega)]; omega
      refine ⟨hinj, fun s3 e3 => ⟨hinj, fun s5 e5 => ?_⟩⟩
      rw [Int.toNat_natCast] at *
      have e : ∀ a b, ¬ ((a = 85 ∨ a = 86) ∧ b = j) → s5 a b = u a b := fun a b q => by rw [e5, up_c2 (by omega), e3, up_c2 (by omega)]
      rw [hwj]
      refine ih2 _ _ ⟨j + 1, rfl, by omega, fun r hr => ?_, fun x hx => ?_, hSu.trans (fun a b q => e a b (by unfold DMl at q; omega))⟩ (by omega)
      · rw [e _ _ (by omega), e _ _ (by omega), e _ _ (by omega), e _ _ (by omega)]; exact hrow r hr
      · by_cases q : x = j
        · rw [q]
          exact ⟨by rw [e5, up_c (by decide), e3, up_at], by rw [e5, up_at]⟩
        · rw [e _ _ (by omega), e _ _ (by omega)]
          exact hth x (by omega)
  · have hr : (i : Int) < N 0 0 := by omega
    have hin : inb (i : Int) 8 := ⟨by omega, by omega⟩
    have hw : w32 ((i : Int) + 1) = ((i + 1 : Nat) : Int) := by rw [w32_of (by omega) (by omega)]; omega
    have f0 : w32 (w32 (5 * (i : Int)) + 3) = 5 * (i : Int) + 3 := by rw [w32_of (z := 5 * (i : Int)) (by omega) (by omega), w32_of (by omega) (by omega)]
    have g0 : (5 * (i : Int) + 3).toNat = 5 * i + 3 := by omega
    rw [f0, g0, Int.toNat_natCast, hw]
    refine ⟨hin, fun s3 e3 => ⟨hin, fun s5 e5 => ⟨hin, fun s7 e7 => ⟨⟨by omega, by omega⟩, hin, fun s10 e10 => ?_⟩⟩⟩⟩
    have f4 : s7 79 (5 * i + 3) = N 4 i := by rw [e7, up_c (by decide), e5, up_c (by decide), e3, up_c (by decide)]; exact (hCt.2.2.2.2.1 i hr).2.2.2.2.1
    rw [f4] at e10
    have e : ∀ a b, ¬ ((80 ≤ a ∧ a ≤ 83) ∧ b = i) → s10 a b = t a b := fun a b q => by rw [e10, up_c2 (by omega), e7, up_c2 (by omega), e5, up_c2 (by omega), e3, up_c2 (by omega)]
    refine ih _ _ ⟨i + 1, rfl, by omega, fun r hr2 => ?_, hSt.trans (fun a b q => e a b (by unfold DMl at q; omega))⟩ (by omega)
    by_cases q : r = i
    · rw [q]
      refine ⟨?_, ?_, ?_, ?_⟩
      · rw [e10, up_c (by decide), e7, up_c (by decide), e5, up_c (by decide), e3, up_at]
      · rw [e10, up_c (by decide), e7, up_c (by decide), e5, up_at]
      · rw [e10, up_c (by decide), e7, up_at]
      · rw [e10, up_at]
    · rw [e _ _ (by omega), e _ _ (by omega), e _ _ (by omega), e _ _ (by omega)]
      exact hrow r (by omega)
