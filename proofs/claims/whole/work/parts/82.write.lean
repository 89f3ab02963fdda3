/-! ===== write, count ===== -/
theorem T_cwrite {N t : Sto} {k r n : Nat} {f : Int} {Q : Sto → Prop} (hN : NOk N) (hP : Pld N t) (hr : (r : Int) < N 0 0) (hk : k < 4) (hn : n ≤ 20) (hf : t (36 + 2 * k) 0 = f) (hf2 : 0 ≤ f ∧ f ≤ 2) (hl : (n : Int) ≤ t (36 + 2 * k) 1) (h : ∀ u, (∀ i, i < n → u (36 + 2 * k + 1) i = F_X12_cut f (sm N (i + 1) 2 r) t) → Same (fun a b => a = 36 + 2 * k + 1 ∧ b < n) t u → Q u) : ∃ m, L_X11_write_60 (r : Int) (k : Int) (n : Int) Q m 0 t := by
  have hr8 : r < 8 := by have := hN.1; omega
  refine lp2 (L_X11_write_60 (r : Int) (k : Int) (n : Int) Q) (fun y u => ∃ i : Nat, y = (i : Int) ∧ i ≤ n ∧ (∀ j, j < i → u (36 + 2 * k + 1) j = F_X12_cut f (sm N (j + 1) 2 r) t) ∧ Same (fun a b => a = 36 + 2 * k + 1 ∧ b < n) t u) (fun y _ => (21 - y).toNat) ?_ 0 t ⟨0, rfl, Nat.zero_le _, fun j q => absurd q (Nat.not_lt_zero j), Same.rfl'⟩
  intro m y u ⟨i, hy, hi, hu, hSu⟩ ih
  subst hy
  unfold L_X11_write_60
  rw [Int.toNat_natCast]
  refine ⟨fun c => ?_, fun c => ?_⟩
  · have : i = n := by omega
    subst this
    exact h u hu hSu
  · have hin : i < n := by omega
    have hmu : (21 - ((i + 1 : Nat) : Int)).toNat < (21 - (i : Int)).toNat := by omega
    obtain ⟨l1, l2⟩ := look_v (k := i) (r := r) (w := 1) (s := u) (by omega) hr8 (by decide)
    have l1 : F_X1_look (i : Int) (r : Int) 1 u = u 25 (32 * i + 4 * r + 1) := l1
    have l2 : O_X1_look (i : Int) (r : Int) 1 u := l2
    have e25 : u 25 (32 * i + 4 * r + 1) = sm N (i + 1) 2 r := (hSu _ _ (by omega)).trans (hP.2 i (by omega) r hr).2.1
    have e0 : u (36 + 2 * k) 0 = f := (hSu _ _ (by omega)).trans hf
    have e1 : (i : Int) < u (36 + 2 * k) 1 := by rw [hSu _ _ (by omega)]; omega
    have hput := put_s (o := 36 + 2 * k) (v := sm N (i + 1) 2 r) e0 hf2 (show (0 : Int) ≤ (i : Int) by omega) e1 t
    rw [l1, e25, hput, Int.toNat_natCast, ixp (b := i) (by omega)]
    have hin60 : inb (i : Int) 60 := ⟨by omega, by omega⟩
    refine ⟨⟨by omega, by omega⟩, l2, ?_, fun s5 e5 => ih _ _ ⟨i + 1, rfl, hin, fun j hj => ?_, by rw [e5]; exact hSu.up ⟨rfl, hin⟩⟩ hmu⟩
    · unfold O_X7_put
      exact ⟨fun _ => trivial, fun _ => ⟨fun _ => ⟨hin60, trivial⟩, fun _ => ⟨fun _ => ⟨hin60, trivial⟩, fun _ => ⟨hin60, trivial⟩⟩⟩⟩
    · rw [e5]
      by_cases w : j = i
      · rw [w, up_at]
      · rw [up_j w]; exact hu j (by omega)
theorem T_mwrite {N t : Sto} {k r n : Nat} {f : Int} {Q : Sto → Prop} (hN : NOk N) (hK : KpM N t 20) (hr : (r : Int) < N 0 0) (hk : k < 4) (hn : n ≤ 20) (hf : t 70 k = f) (h : ∀ u, (∀ i, i < n → u 72 (60 * k + i) = F_X12_cut f (sm N (i + 1) 2 r) t) → Same (fun a b => a = 72 ∧ 60 * k ≤ b ∧ b < 60 * k + n) t u → Q u) : ∃ m, L_X12_write_52 (r : Int) (k : Int) (n : Int) Q m 0 t := by
  have hr8 : r < 8 := by have := hN.1; omega
  refine lp2 (L_X12_write_52 (r : Int) (k : Int) (n : Int) Q) (fun y u => ∃ i : Nat, y = (i : Int) ∧ i ≤ n ∧ (∀ j, j < i → u 72 (60 * k + j) = F_X12_cut f (sm N (j + 1) 2 r) t) ∧ Same (fun a b => a = 72 ∧ 60 * k ≤ b ∧ b < 60 * k + n) t u) (fun y _ => (21 - y).toNat) ?_ 0 t ⟨0, rfl, Nat.zero_le _, fun j q => absurd q (Nat.not_lt_zero j), Same.rfl'⟩
  intro m y u ⟨i, hy, hi, hu, hSu⟩ ih
  subst hy
  unfold L_X12_write_52
  rw [Int.toNat_natCast]
  refine ⟨fun c => ?_, fun c => ?_⟩
  · have : i = n := by omega
    subst this
    exact h u hu hSu
  · have hin : i < n := by omega
    have hmu : (21 - ((i + 1 : Nat) : Int)).toNat < (21 - (i : Int)).toNat := by omega
    have i1 : w32 (w32 (w32 (32 * (i : Int)) + w32 (4 * (r : Int))) + 1) = 32 * (i : Int) + 4 * (r : Int) + 1 := ixm (w := 1) (by omega) hr8 (by decide)
    have i2 : (32 * (i : Int) + 4 * (r : Int) + 1).toNat = 32 * i + 4 * r + 1 := ixm2 (w := 1)
    have j2 : (60 * (k : Int) + (i : Int)).toNat = 60 * k + i := by clear i1; omega
    have hi0 : (0 : Int) ≤ (i : Int) := by clear i1; omega
    have hi60 : (i : Int) < 60 := by clear i1; omega
    have e84 : u 84 (32 * i + 4 * r + 1) = sm N (i + 1) 2 r := (hSu _ _ (by clear i1; omega)).trans (hK i (by clear i1; omega) r hr).2.1
    have e70 : u 70 k = f := (hSu _ _ (by clear i1; omega)).trans hf
    have b1 : inb (32 * (i : Int) + 4 * (r : Int) + 1) 640 := ⟨by clear i1; omega, by clear i1; omega⟩
    have b2 : inb (60 * (k : Int) + (i : Int)) 240 := ⟨by clear i1; omega, by clear i1; omega⟩
    have b3 : inb (k : Int) 4 := ⟨by clear i1; omega, by clear i1; omega⟩
    have hi1000 : i < 1000 := by clear i1; omega
    rw [i1, i2, sheet_ix hk hi0 hi60, j2, e84, e70, ixp hi1000]
    clear i1
    refine ⟨b3, b1, b2, fun s5 e5 => ih _ _ ⟨i + 1, rfl, hin, fun j hj => ?_, by rw [e5]; exact hSu.up ⟨rfl, by omega, by omega⟩⟩ hmu⟩
    rw [e5]
    by_cases w : j = i
    · rw [w, up_at]; rfl
    · rw [up_j (by omega)]; exact hu j (by omega)
theorem R_write {v1 v2 : Int} {s : Sto} (h : Rel s) : P_X11_write v1 v2 s (fun r s1 => P_X12_write v1 v2 s1 (fun r2 s2 => r2 = r ∧ Rel s2)) := by
  have hN := tN_ok h
  have e00 : tN s 0 0 = s 6 0 := rfl
  have e614 := h.2.1.1
  have hrm : ∀ t : Sto, t 69 14 = s 69 14 → (F_X12_isRing v1 t = 0 ↔ ¬ (0 ≤ v1 ∧ v1 < tN s 0 0)) := fun t ht => by
    rw [isRingM_0 (by rw [ht]; exact h.2.1.2.1), ht, e00, e614]
  have bad : ¬ ((0 ≤ v1 ∧ v1 < tN s 0 0) ∧ (0 ≤ v2 ∧ v2 ≤ 3)) → P_X12_write v1 v2 s (fun r2 s2 => r2 = -2 ∧ Rel s2) := by
    intro c
    unfold P_X12_write
    exact ⟨fun _ => ⟨rfl, h⟩, fun q1 => ⟨fun _ => ⟨rfl, h⟩, fun q2 => absurd ⟨yy (hrm s rfl) q1, yy isSheet_0 q2⟩ c⟩⟩
  unfold P_X11_write
  refine ⟨fun q => bad (fun w => (isRC h).mp q w.1), fun q1 => ⟨fun q => bad (fun w => within_0.mp q w.2), fun q2 => ?_⟩⟩
  have c1 := yy (isRC h) q1
  have c2 := yy within_0 q2
  obtain ⟨r, rfl⟩ := Int.eq_ofNat_of_zero_le c1.1
  obtain ⟨k, rfl⟩ := Int.eq_ofNat_of_zero_le c2.1
  have hk : k < 4 := by omega
  have hin : inb (k : Int) 4 := ⟨by omega, by omega⟩
  obtain ⟨a1, a2, a3⟩ := h.1.2 k hk
  rw [Int.toNat_natCast]
  refine ⟨hin, fun q3 => ?_, fun q3 s14 e14 => ?_⟩
  · rw [isLost_0, a1] at q3
    obtain ⟨b1, b2, b3, b4⟩ := a3 q3
    refine T_playTold h (fun t hRt hPt eNt hSt => ⟨hin, fun x11 e11 => ?_⟩)
    have st : ∀ a b, (26 ≤ a) → t a b = s a b := fun a b q => hSt a b (by unfold DPt; omega)
    rw [st _ _ (by omega), b1, min_v] at e11
    obtain ⟨n, hn⟩ := Int.eq_ofNat_of_zero_le (show 0 ≤ x11 by rw [e11]; split <;> omega)
    have hn20 : n ≤ 20 := by
      have : x11 ≤ 20 := by rw [e11]; split <;> omega
      omega
    have hnl : (n : Int) ≤ s 71 k := by
      rw [← hn, e11]; split <;> omega
    rw [hn]
    refine T_cwrite (f := s 70 k) hN hPt c1.2 hk hn20 (by rw [st _ _ (by omega), a1]) (by omega) (by rw [st _ _ (by omega), b1]; exact hnl) (fun u hu hSu => ?_)
    have hWu : RelW u := RelW_cgx hRt.2 (fun a b q => hSu a b (by omega)) (fun b q => hSu 69 b (by omega))
    have eNu : tN u = tN s := (tN_cg (fun a b q1 q2 => hSu a b (by omega))).trans eNt
    have us : ∀ a b, 26 ≤ a → ¬ (a = 36 + 2 * k + 1) → u a b = s a b := fun a b q1 q2 => (hSu a b (fun w => q2 w.1)).trans (st a b q1)
    unfold P_X12_write
    refine ⟨fun q => absurd q (nn (hrm u (us _ _ (by omega) (by omega))) c1), fun _ => ⟨fun q => absurd q (nn isSheet_0 c2), fun _ => ⟨hin, fun _ => ?_, fun q => absurd (show 0 ≤ u 70 (k : Int).toNat by rw [Int.toNat_natCast, us _ _ (by omega) (by omega)]; omega) q⟩⟩⟩
    refine TW_findR hWu eNu (fun v hWv hCv hPv hKv eNv hSv => ⟨hin, fun x10 e10 => ?_⟩)
    have vs : ∀ a b, 26 ≤ a → ¬ (a = 36 + 2 * k + 1) → ¬ DScr a b → v a b = s a b := fun a b q1 q2 q3 => (hSv a b q3).trans (us a b q1 q2)
    have e10n : x10 = (n : Int) := by
      rw [e10, Int.toNat_natCast, vs _ _ (by omega) (by omega) (by unfold DScr; omega), ← hn, e11]
      unfold F_X12_lesser
      by_cases w : 20 ≤ s 71 k
      · rw [if_pos w]; split <;> omega
      · rw [if_neg w, if_neg (by omega)]
    rw [e10n]
    refine T_mwrite (f := s 70 k) hN hKv c1.2 hk hn20 (vs _ _ (by omega) (by omega) (by unfold DScr; omega)) (fun w hw hSw => ⟨rfl, ?_⟩)
    have ws : ∀ a b, 26 ≤ a → ¬ (a = 36 + 2 * k + 1 ∧ b < n) → ¬ (a = 72 ∧ 60 * k ≤ b ∧ b < 60 * k + n) → ¬ DScr a b → w a b = s a b := fun a b q1 q2 q3 q4 => by
      rw [hSw a b q3, hSv a b q4, hSu a b q2, st a b q1]
    have hWw : RelW w := RelW_cgx hWv (fun a b q => hSw a b (by omega)) (fun b q => hSw 69 b (by omega))
    refine ⟨⟨?_, fun j hj => ?_⟩, hWw⟩
    · have e1 : w 0 11 = s 0 11 := by
        rw [hSw _ _ (by omega), hSv _ _ (by unfold DScr; omega), hSu _ _ (by omega), hSt _ _ (by unfold DPt; omega)]
      rw [e1, ws 69 4 (by omega) (by omega) (by omega) (by unfold DScr; omega)]
      exact h.1.1
    · by_cases ej : j = k
      · subst ej
        have f0 := ws (36 + 2 * j) 0 (by omega) (by omega) (by omega) (by unfold DScr; omega)
        have f1 := ws (36 + 2 * j) 1 (by omega) (by omega) (by omega) (by unfold DScr; omega)
        have f2 := ws 70 j (by omega) (by omega) (by omega) (by unfold DScr; omega)
        have f3 := ws 71 j (by omega) (by omega) (by omega) (by unfold DScr; omega)
        unfold RS1
        rw [f0, f1, f2, f3]
        refine ⟨a1, a2, fun _ => ⟨b1, b2, b3, fun i hi => ?_⟩⟩
        by_cases w1 : i < n
        · rw [hw i w1, hSw _ _ (by omega), hSv _ _ (by unfold DScr; omega), hu i w1]
          rfl
        · rw [ws _ _ (by omega) (by omega) (by omega) (by unfold DScr; omega), ws _ _ (by omega) (by omega) (by omega) (by unfold DScr; omega)]
          exact b4 i hi
      · refine (h.1.2 j hj).cg ?_ ?_ ?_ ?_ (fun i _ => ?_) (fun i _ => ?_)
        all_goals exact ws _ _ (by omega) (by omega) (by omega) (by unfold DScr; omega)
  · have h3 : s 70 k = -1 := by
      rw [isLost_0, a1] at q3
      exact Decidable.not_not.mp q3
    have hS : s14 = up s 0 11 1 := e14
    have g69 : s14 69 14 = s 69 14 := by rw [hS, up_c (by decide)]
    have g70 : s14 70 k = s 70 k := by rw [hS, up_c (by decide)]
    unfold P_X12_write
    dsimp only
    rw [Int.toNat_natCast, g70]
    refine ⟨fun q => absurd q (nn (hrm s14 g69) c1), fun _ => ⟨fun q => absurd q (nn isSheet_0 c2), fun _ => ⟨hin, fun q => by omega, fun _ s13 e13 => ⟨rfl, ?_⟩⟩⟩⟩
    have e : s13 = up (up s 0 11 1) 69 4 1 := by rw [e13, hS]; rfl
    rw [e]
    exact Rel_sh h h.1.found DSh.found
/-! ===== count ===== -/
def cV (s N : Sto) (w : Int) : Int := if w = 0 then N 0 1 else if w = 1 then N 0 6 else if w = 2 then s 75 0 else if w = 3 then s 75 1 else if w = 4 then s 75 2 else if w = 5 then N 0 0 else if w = 6 then nbd N else if w = 7 then s 69 27 else if w = 8 then s 69 4 else -2
theorem T_Xcount {N s : Sto} {w : Int} {Q : Int → Sto → Prop} (h : Rel s) (eN : tN s = N) (k : ∀ t, Rel t → tN t = N → Same DPt s t → Q (cV s N w) t) : P_X11_count w s Q := by
  have ks := k s h eN Same.rfl'
  have e0 : N 0 1 = s 3 0 := by rw [← eN]; rfl
  have e1 : N 0 6 = s 6 6 := by rw [← eN]; rfl
  have e5 : N 0 0 = s 6 0 := by rw [← eN]; rfl
  have t0 : s 30 1 = s 75 0 := (h.2.2.2.2.1 0 (by decide)).1
  have t1 : s 32 1 = s 75 1 := (h.2.2.2.2.1 1 (by decide)).1
  have t2 : s 34 1 = s 75 2 := (h.2.2.2.2.1 2 (by decide)).1
  have e7 : s 26 2 = s 69 27 := h.2.2.2.1.1
  have e8 : s 0 11 = s 69 4 := h.1.1
  unfold cV at ks k
  unfold P_X11_count
  refine ⟨fun q => ?_, fun q => ⟨fun q1 => ?_, fun q1 => ⟨fun q2 => ⟨⟨by decide, by decide⟩, ?_⟩, fun q2 => ⟨fun q3 => ⟨⟨by decide, by decide⟩, ?_⟩, fun q3 => ⟨fun q4 => ⟨⟨by decide, by decide⟩, ?_⟩, fun q4 => ⟨fun q5 => ?_, fun q5 => ⟨fun q6 => ?_, fun q6 => ⟨fun q7 => ?_, fun q7 => ⟨fun q8 => ?_, fun q8 => ?_⟩⟩⟩⟩⟩⟩⟩⟩⟩
  · rw [if_pos q, e0] at ks; exact ks
  · rw [if_neg q, if_pos q1, e1] at ks; exact ks
  · rw [if_neg q, if_neg q1, if_pos q2, ← t0] at ks; exact ks
  · rw [if_neg q, if_neg q1, if_neg q2, if_pos q3, ← t1] at ks; exact ks
  · rw [if_neg q, if_neg q1, if_neg q2, if_neg q3, if_pos q4, ← t2] at ks; exact ks
  · rw [if_neg q, if_neg q1, if_neg q2, if_neg q3, if_neg q4, if_pos q5, e5] at ks; exact ks
  · refine T_playTold h (fun t hRt hPt eNt hSt => ?_)
    have kt := k t hRt (eNt.trans eN) hSt
    rw [if_neg q, if_neg q1, if_neg q2, if_neg q3, if_neg q4, if_neg q5, if_pos q6] at kt
    rw [eN] at hPt
    rw [show t 16 8 = nbd N from hPt.1.2.2.1]
    exact kt
  · rw [if_neg q, if_neg q1, if_neg q2, if_neg q3, if_neg q4, if_neg q5, if_neg q6, if_pos q7, ← e7] at ks; exact ks
  · rw [if_neg q, if_neg q1, if_neg q2, if_neg q3, if_neg q4, if_neg q5, if_neg q6, if_neg q7, if_pos q8, ← e8] at ks; exact ks
  · rw [if_neg q, if_neg q1, if_neg q2, if_neg q3, if_neg q4, if_neg q5, if_neg q6, if_neg q7, if_neg q8] at ks; exact ks
theorem T_Mcount {N s : Sto} {w : Int} {Q : Int → Sto → Prop} (h : Rel s) (eN : tN s = N) (k : ∀ t, Rel t → NtM N t → tN t = N → Same DScr s t → Q (cV s N w) t) : P_X12_count w s Q := by
  have hN : NOk N := by rw [← eN]; exact tN_ok h
  unfold P_X12_count
  refine T_findR h eN (fun t t1 t2 t3 t4 t5 t6 => ?_)
  have kt := k t t1 t2 t5 t6
  have f : ∀ a b, a = 75 ∨ (a = 69 ∧ (b = 27 ∨ b = 4)) → t a b = s a b := fun a b q => t6 a b (by unfold DScr; omega)
  unfold cV at kt
  refine ⟨fun q => ?_, fun q => ⟨fun q1 => ?_, fun q1 => ⟨fun q2 => ?_, fun q2 => ⟨fun q3 => ?_, fun q3 => ⟨fun q4 => ?_, fun q4 => ⟨fun q5 => ?_, fun q5 => ⟨fun q6 => ?_, fun q6 => ⟨fun q7 => ?_, fun q7 => ⟨fun q8 => ?_, fun q8 => ?_⟩⟩⟩⟩⟩⟩⟩⟩⟩
  · rw [if_pos q] at kt; rw [t2.2.2.2.1]; exact kt
  · rw [if_neg q, if_pos q1] at kt; rw [t2.2.1]; exact kt
  · rw [if_neg q, if_neg q1, if_pos q2, ← f 75 0 (by omega)] at kt
    have e : w32 (w - 2) = 0 := by rw [q2]; rfl
    rw [e]; exact ⟨⟨by decide, by decide⟩, kt⟩
  · rw [if_neg q, if_neg q1, if_neg q2, if_pos q3, ← f 75 1 (by omega)] at kt
    have e : w32 (w - 2) = 1 := by rw [q3]; rfl
    rw [e]; exact ⟨⟨by decide, by decide⟩, kt⟩
  · rw [if_neg q, if_neg q1, if_neg q2, if_neg q3, if_pos q4, ← f 75 2 (by omega)] at kt
    have e : w32 (w - 2) = 2 := by rw [q4]; rfl
    rw [e]; exact ⟨⟨by decide, by decide⟩, kt⟩
  · rw [if_neg q, if_neg q1, if_neg q2, if_neg q3, if_neg q4, if_pos q5] at kt; rw [t2.1]; exact kt
  · rw [if_neg q, if_neg q1, if_neg q2, if_neg q3, if_neg q4, if_neg q5, if_pos q6] at kt
    exact T_mall hN t2 t3 kt
  · rw [if_neg q, if_neg q1, if_neg q2, if_neg q3, if_neg q4, if_neg q5, if_neg q6, if_pos q7, ← f 69 27 (by omega)] at kt; exact kt
  · rw [if_neg q, if_neg q1, if_neg q2, if_neg q3, if_neg q4, if_neg q5, if_neg q6, if_neg q7, if_pos q8, ← f 69 4 (by omega)] at kt; exact kt
  · rw [if_neg q, if_neg q1, if_neg q2, if_neg q3, if_neg q4, if_neg q5, if_neg q6, if_neg q7, if_neg q8] at kt; exact kt
theorem cV_cg {s t N : Sto} {w : Int} (h0 : t 75 = s 75) (h1 : t 69 27 = s 69 27) (h2 : t 69 4 = s 69 4) : cV t N w = cV s N w := by
  unfold cV
  rw [h0, h1, h2]
theorem R_count {v1 : Int} {s : Sto} (h : Rel s) : P_X11_count v1 s (fun r s1 => P_X12_count v1 s1 (fun r2 s2 => r2 = r ∧ Rel s2)) :=
  T_Xcount h rfl (fun t h1 h2 h3 => T_Mcount h1 h2 (fun u u1 _ _ _ => ⟨cV_cg (funext (fun b => h3 _ _ (by unfold DPt; omega))) (h3 _ _ (by unfold DPt; omega)) (h3 _ _ (by unfold DPt; omega)), u1⟩))
