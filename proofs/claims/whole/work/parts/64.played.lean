/-! ===== the class plays the told night, and keeps its diary ===== -/
def DKc (k a b : Nat) : Prop := a = 25 ∧ 32 * k ≤ b ∧ b < 32 * k + 32
theorem ixk {k i : Nat} (hk : k < 20) (hi : i < 8) : w32 (w32 (w32 ((k : Int) * 8) + (i : Int)) * 4) = 32 * (k : Int) + 4 * (i : Int) := by
  rw [w32_of (z := (k : Int) * 8) (by omega) (by omega), w32_of (z := (k : Int) * 8 + (i : Int)) (by omega) (by omega), w32_of (by omega) (by omega)]
  omega
theorem ixk2 {k i : Nat} {d : Int} (hk : k < 20) (hi : i < 8) (hd : 0 ≤ d ∧ d ≤ 4) : w32 (32 * (k : Int) + 4 * (i : Int) + d) = 32 * (k : Int) + 4 * (i : Int) + d := w32_of (by omega) (by omega)
theorem ixk3 {k i : Nat} (hk : k < 20) (hi : i < 8) : (32 * (k : Int) + 4 * (i : Int)).toNat = 32 * k + 4 * i ∧ (32 * (k : Int) + 4 * (i : Int) + 1).toNat = 32 * k + 4 * i + 1 ∧ (32 * (k : Int) + 4 * (i : Int) + 2).toNat = 32 * k + 4 * i + 2 ∧ (32 * (k : Int) + 4 * (i : Int) + 3).toNat = 32 * k + 4 * i + 3 := ⟨by omega, by omega, by omega, by omega⟩
theorem T_keep {k : Nat} {s : Sto} {Q : Int → Sto → Prop} (hk : k < 20) (h : ∀ t, (∀ r, r < 8 → t 25 (32 * k + 4 * r) = s 17 r ∧ t 25 (32 * k + 4 * r + 1) = s 18 r ∧ t 25 (32 * k + 4 * r + 2) = s 19 r ∧ t 25 (32 * k + 4 * r + 3) = s 20 r) → Same (DKc k) s t → Q 0 t) : P_X1_keep (k : Int) 16 s Q := by
  unfold P_X1_keep
  refine lp2 (L_X1_keep_2 (k : Int) 16 _) (fun y t => ∃ i : Nat, y = (i : Int) ∧ i ≤ 8 ∧ (∀ r, r < i → t 25 (32 * k + 4 * r) = s 17 r ∧ t 25 (32 * k + 4 * r + 1) = s 18 r ∧ t 25 (32 * k + 4 * r + 2) = s 19 r ∧ t 25 (32 * k + 4 * r + 3) = s 20 r) ∧ Same (DKc k) s t) (fun y _ => (9 - y).toNat) ?_ 0 s ⟨0, rfl, by omega, fun r q => absurd q (Nat.not_lt_zero r), Same.rfl'⟩
  intro n y u ⟨i, hy, hi, hkp, hSu⟩ ih
  subst hy
  unfold L_X1_keep_2
  refine ⟨fun c => ?_, fun c x2 ex2 => ?_⟩
  · have : i = 8 := by omega
    subst this
    exact h u hkp hSu
  · have hi8 : i < 8 := by omega
    have hin : inb (i : Int) 8 := ⟨by omega, by omega⟩
    have hn0 : ¬ 32 * (k : Int) + 4 * (i : Int) < 0 := by omega
    have hn1 : ¬ 640 < 32 * (k : Int) + 4 * (i : Int) + 4 := by omega
    have b0 : inb (32 * (k : Int) + 4 * (i : Int)) 640 := ⟨by omega, by omega⟩
    have b1 : inb (32 * (k : Int) + 4 * (i : Int) + 1) 640 := ⟨by omega, by omega⟩
    have b2 : inb (32 * (k : Int) + 4 * (i : Int) + 2) 640 := ⟨by omega, by omega⟩
    have b3 : inb (32 * (k : Int) + 4 * (i : Int) + 3) 640 := ⟨by omega, by omega⟩
    have hmu := mu9 (j := i) (by omega)
    rw [ixk hk hi8] at ex2
    subst ex2
    obtain ⟨g0, g1, g2, g3⟩ := ixk3 hk hi8
    rw [ixk2 hk hi8 (d := 4) (by omega), ixk2 hk hi8 (d := 1) (by omega), ixk2 hk hi8 (d := 2) (by omega), ixk2 hk hi8 (d := 3) (by omega), g0, g1, g2, g3, Int.toNat_natCast, (ix3 (j := i) (by omega)).2.2.1]
    refine ⟨fun q => absurd q hn0, fun _ => ⟨fun q => absurd q hn1, fun _ => ⟨hin, b0, fun s7 e7 => ⟨hin, b1, fun s10 e10 => ⟨hin, b2, fun s13 e13 => ⟨hin, b3, fun s16 e16 => ?_⟩⟩⟩⟩⟩⟩
    have f : ∀ a b, a ≠ 25 → u a b = s a b := fun a b q => hSu a b (fun w => q w.1)
    have h7 : s7 (16 + 2) i = s 18 i := by rw [e7, up_c (by decide)]; exact f _ _ (by decide)
    have h10 : s10 (16 + 3) i = s 19 i := by rw [e10, up_c (by decide), e7, up_c (by decide)]; exact f _ _ (by decide)
    have h13 : s13 (16 + 4) i = s 20 i := by rw [e13, up_c (by decide), e10, up_c (by decide), e7, up_c (by decide)]; exact f _ _ (by decide)
    have hu : u (16 + 1) i = s 17 i := f _ _ (by decide)
    rw [hu] at e7
    rw [h7] at e10
    rw [h10] at e13
    rw [h13] at e16
    have hS : ∀ a b, ¬ (a = 25 ∧ 32 * k + 4 * i ≤ b ∧ b < 32 * k + 4 * i + 4) → s16 a b = u a b := fun a b q => by
      rw [e16, up_c2 (by omega), e13, up_c2 (by omega), e10, up_c2 (by omega), e7, up_c2 (by omega)]
    refine ih _ _ ⟨i + 1, rfl, by omega, fun r hr => ?_, hSu.trans (fun a b q => hS a b (by unfold DKc at q; omega))⟩ hmu
    by_cases q : r = i
    · rw [q]
      refine ⟨?_, ?_, ?_, ?_⟩
      · rw [e16, up_j (by omega), e13, up_j (by omega), e10, up_j (by omega), e7, up_at]
      · rw [e16, up_j (by omega), e13, up_j (by omega), e10, up_at]
      · rw [e16, up_j (by omega), e13, up_at]
      · rw [e16, up_at]
    · rw [hS _ _ (by omega), hS _ _ (by omega), hS _ _ (by omega), hS _ _ (by omega)]
      exact hkp r (by omega)
def DPt (a b : Nat) : Prop := (16 ≤ a ∧ a ≤ 25) ∨ (a = 0 ∧ b = 12)
theorem Rel_pt {s t : Sto} (h : Rel s) (hS : Same DPt s t) (hp : Pld (tN s) t) : Rel t ∧ tN t = tN s := by
  obtain ⟨h1, h2, h3, h4, h5, h6, h7, h8⟩ := h
  have e : ∀ a b, ¬ (16 ≤ a ∧ a ≤ 25) → ¬ (a = 0 ∧ b = 12) → t a b = s a b := fun a b q q2 => hS a b (by unfold DPt; omega)
  have eN := tN_cg (s := s) (t := t) (fun a b q1 q2 => e a b (by omega) (by omega))
  refine ⟨⟨RSh_cg h1 (fun a b q => e _ _ (by omega) (by omega)), h2.cg (fun a b q q2 => e _ _ (by unfold DRg at q; omega) q2), RWd_cg h3 (e _ _ (by omega) (by omega)) (e _ _ (by omega) (by omega)), RSt_cg h4 (fun a b q => e _ _ (by unfold DSt at q; omega) (by unfold DSt at q; omega)), RTx_cg h5 (fun a b q => e _ _ (by omega) (by omega)), RDv_cg h6 (fun a b q q2 => e _ _ (by unfold DTx at q; omega) q2), ⟨by rw [e _ _ (by omega) (by omega)]; exact h7.1, by rw [e _ _ (by omega) (by omega)]; exact h7.2⟩, fun _ => ?_⟩, eN⟩
  rw [eN]
  exact hp
theorem T_playTold {s : Sto} {Q : Int → Sto → Prop} (h : Rel s) (k : ∀ t, Rel t → Pld (tN s) t → tN t = tN s → Same DPt s t → Q 0 t) : P_X11_playTold s Q := by
  have hN := tN_ok h
  unfold P_X11_playTold
  refine ⟨fun c => ?_, fun c => k s h (h.2.2.2.2.2.2.2 c) rfl Same.rfl'⟩
  refine T_begin (Or.inl rfl) (Or.inl rfl) hN tN_NtC (fun t hPt hSt => ?_)
  have D1 : ∀ {a b}, DPl 16 a b → DPt a b := fun {a b} q => by unfold DPt; unfold DPl at q; omega
  refine lp2 (L_X11_playTold_21 _) (fun y u => ∃ m : Nat, y = (m : Int) ∧ m ≤ 20 ∧ Ply (tN s) 16 (sm (tN s) m) u ∧ (∀ j, j < m → ∀ r : Nat, (r : Int) < tN s 0 0 → DiR (sm (tN s) (j + 1)) j u r) ∧ Same DPt s u) (fun y _ => (21 - y).toNat) ?_ 0 t ⟨0, rfl, by omega, hPt, fun j q => absurd q (Nat.not_lt_zero j), hSt.mono (fun a b q => D1 q)⟩
  intro n y u ⟨m, hy, hm, hPu, hDu, hSu⟩ ih
  subst hy
  have hCu : NtC (tN s) 6 u := by
    have e : ∀ a b, 3 ≤ a → a ≤ 15 → u a b = s a b := fun a b q1 q2 => hSu a b (by unfold DPt; omega)
    have := tN_NtC (s := u)
    rw [tN_cg e] at this
    exact this
  unfold L_X11_playTold_21
  refine ⟨fun c s5 e5 => ?_, fun c => ?_⟩
  · have : m = 20 := by omega
    subst this
    have e : ∀ a b, a ≠ 0 → s5 a b = u a b := fun a b q => by rw [e5, up_c q]
    have hS5 : Same DPt s s5 := by rw [e5]; exact hSu.up (by unfold DPt; omega)
    have hp : Pld (tN s) s5 := Pld_cg ⟨hPu, hDu⟩ (fun a b q1 q2 => e a b (by omega))
    obtain ⟨g1, g2⟩ := Rel_pt h hS5 hp
    exact k s5 g1 hp g2 hS5
  · have hm2 : m < 20 := by omega
    have hmu : (21 - ((m + 1 : Nat) : Int)).toNat < (21 - (m : Int)).toNat := by omega
    have hw : w32 ((m : Int) + 1) = ((m + 1 : Nat) : Int) := by rw [w32_of (by omega) (by omega)]; omega
    obtain ⟨hI, hz⟩ := sm_inv hN m hm
    refine T_takeStep (Or.inl rfl) (Or.inl rfl) hN hCu hm2 hI hz hPu (fun v hPv hSv => ?_)
    refine T_keep hm2 (fun w hkw hSw => ?_)
    rw [hw]
    have f : ∀ a b, a ≠ 25 → w a b = v a b := fun a b q => hSw a b (fun x => q x.1)
    refine ih _ _ ⟨m + 1, rfl, hm2, Ply_cg hPv (fun a b q => f a b (by omega)), fun j hj r hr => ?_, hSu.trans ((hSv.mono (fun a b q => D1 q)).trans (hSw.mono (fun a b q => by unfold DPt; unfold DKc at q; omega)))⟩ hmu
    have hN1 := hN.1
    by_cases q : j = m
    · rw [q]
      obtain ⟨w1, w2, w3, w4⟩ := hkw r (by omega)
      obtain ⟨p1, p2, p3, p4⟩ := hPv.1 r hr
      exact ⟨w1.trans p1, w2.trans p2, w3.trans p3, w4.trans p4⟩
    · obtain ⟨w1, w2, w3, w4⟩ := hDu j (by omega) r hr
      have g : ∀ d, d < 4 → w 25 (32 * j + 4 * r + d) = u 25 (32 * j + 4 * r + d) := fun d hd => by
        rw [hSw _ _ (by unfold DKc; omega), hSv _ _ (by unfold DPl; omega)]
      have g0 := g 0 (by decide)
      rw [Nat.add_zero] at g0
      unfold DiR
      rw [g0, g 1 (by decide), g 2 (by decide), g 3 (by decide)]
      exact ⟨w1, w2, w3, w4⟩
theorem look_v {k r w : Nat} {s : Sto} (hk : k < 20) (hr : r < 8) (hw : w < 4) : F_X1_look (k : Int) (r : Int) (w : Int) s = s 25 (32 * k + 4 * r + w) ∧ O_X1_look (k : Int) (r : Int) (w : Int) s := by
  have e1 : w32 (32 * (k : Int) + 4 * (r : Int) + (w : Int)) = 32 * (k : Int) + 4 * (r : Int) + (w : Int) := w32_of (by omega) (by omega)
  have e2 : (32 * (k : Int) + 4 * (r : Int) + (w : Int)).toNat = 32 * k + 4 * r + w := by omega
  have n1 : ¬ 32 * (k : Int) + 4 * (r : Int) + (w : Int) < 0 := by omega
  have n2 : ¬ 640 ≤ 32 * (k : Int) + 4 * (r : Int) + (w : Int) := by omega
  unfold F_X1_look O_X1_look
  rw [ixk hk hr, e1, e2, if_neg n1, if_neg n2]
  exact ⟨rfl, fun q => absurd q n1, fun _ => ⟨fun q => absurd q n2, fun _ => ⟨⟨by clear e1; omega, by clear e1; omega⟩, trivial⟩⟩⟩
