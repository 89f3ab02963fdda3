/-- how the reference stands while it digests -/
def CtM (N : Sto) (n : Nat) (th oc : Nat → Int) (s : Sto) : Prop := Rel s ∧ NtM N s ∧ tN s = N ∧ SgM n th oc s
theorem CtM_sc {N : Sto} {n : Nat} {th oc : Nat → Int} {s t : Sto} (h : CtM N n th oc s) (hM : NtM N t) (hS : Same DScr s t) : CtM N n th oc t := by
  obtain ⟨r1, r2⟩ := Rel_sc h.1 hS
  exact ⟨r1, hM, r2.trans h.2.2.1, SgM_cg h.2.2.2 (fun a b q => hS a b (by unfold DScr; omega))⟩
theorem CtM_0 {N : Sto} {n : Nat} {th oc : Nat → Int} {s : Sto} (h : CtM N n th oc s) : s 69 25 = 0 ∧ s 69 26 = 0 := h.1.2.2.2.2.2.2.1
theorem mring_N {N s : Sto} {r i : Nat} (hM : NtM N s) (h0 : s 69 25 = 0) (hr : (r : Int) < N 0 0) (hi : i < 5) : s 79 (5 * r + i) = N (i + 1) r := by
  obtain ⟨-, e1, e2, e3, e4, e5⟩ := hM.2.2.2.2.1 r hr
  rw [h0, ib_0] at e1
  have hc : i = 0 ∨ i = 1 ∨ i = 2 ∨ i = 3 ∨ i = 4 := by omega
  rcases hc with rfl | rfl | rfl | rfl | rfl
  · exact e1 rfl
  · exact e2
  · exact e3
  · exact e4
  · exact e5
theorem mthing_N {N s : Sto} {x i : Nat} (hM : NtM N s) (hx : (x : Int) < N 0 6) (hi : i < 3) : s 77 (3 * x + i) = N (i + 6) x := by
  obtain ⟨e1, e2, e3⟩ := hM.2.2.2.2.2.1 x hx
  have hc : i = 0 ∨ i = 1 ∨ i = 2 := by omega
  rcases hc with rfl | rfl | rfl
  · exact e1
  · exact e2
  · exact e3
theorem mkeep_N {N s : Sto} {k r w : Nat} (hK : KpM N s 20) (hk : k < 20) (hr : (r : Int) < N 0 0) (hw : w < 4) : s 84 (32 * k + 4 * r + w) = sm N (k + 1) (w + 1) r := by
  obtain ⟨d1, d2, d3, d4⟩ := hK k hk r hr
  have hc : w = 0 ∨ w = 1 ∨ w = 2 ∨ w = 3 := by omega
  rcases hc with rfl | rfl | rfl | rfl
  · exact d1
  · exact d2
  · exact d3
  · exact d4
theorem T_mstep {N s : Sto} {k r : Nat} {v : Int} {Q : Int → Sto → Prop} (hK : KpM N s 20) (hk : k < 20) (hr : (r : Int) < N 0 0) (hr8 : r < 8) (kk : Q (dgS N r k v) s) : P_X12_tellsStep v (r : Int) (k : Int) s Q := by
  unfold P_X12_tellsStep
  refine lp2 (L_X12_tellsStep_6 (r : Int) (k : Int) s _) (fun x y => ∃ i : Nat, y = (i : Int) ∧ i ≤ 4 ∧ x = fdI (fun x w => mx x (sm N (k + 1) (w + 1) r)) v i) (fun _ y => (9 - y).toNat) ?_ v 0 ⟨0, rfl, by omega, rfl⟩
  intro m x y ⟨i, hy, hi, hx⟩ ih
  subst hy
  have hw := (ix3 (Nat.le_trans hi (by decide))).2.2.1
  have hmu := mu9 (Nat.le_trans hi (by decide))
  unfold L_X12_tellsStep_6
  rw [hw]
  clear hw
  refine ⟨fun q => ?_, fun q => ?_⟩
  · have e : i = 4 := by omega
    rw [e] at hx
    rw [hx]
    exact kk
  · have i4 : i < 4 := by omega
    rw [ixm hk hr8 i4, ixm2, mkeep_N hK hk hr i4]
    refine ⟨⟨by omega, by omega⟩, fun x3 e3 => ih _ _ ⟨i + 1, rfl, i4, ?_⟩ hmu⟩
    rw [e3, hx]
    rfl
theorem T_mdr {N s : Sto} {n r : Nat} {th oc : Nat → Int} {v : Int} {Q : Int → Sto → Prop} (h : CtM N n th oc s) (hr : (r : Int) < N 0 0) (k : ∀ t, CtM N n th oc t → Same DScr s t → Q (dgR N n th oc v r) t) : P_X12_tellsRing v (r : Int) s Q := by
  obtain ⟨hR, hM, eN, hG⟩ := id h
  have hN : NOk N := by rw [← eN]; exact tN_ok hR
  have hr8 : r < 8 := by have := hN.1; omega
  have r0 := (CtM_0 h).1
  unfold P_X12_tellsRing
  refine T_lives hN hM (fun s1 hP1 hK1 hS1 => ?_)
  have h1 := CtM_sc h (NtM_cg hM hS1) (Same_Ml hS1)
  refine lp2 (L_X12_tellsRing_10 (r : Int) s1 _) (fun x y => ∃ i : Nat, y = (i : Int) ∧ i ≤ 5 ∧ x = fdI (fun x i => mx x (N (i + 1) r)) v i) (fun _ y => (9 - y).toNat) ?_ v 0 ⟨0, rfl, by omega, rfl⟩
  intro m x y ⟨i, hy, hi, hx⟩ ih
  subst hy
  have hw := (ix3 (Nat.le_trans hi (by decide))).2.2.1
  have hmu := mu9 (Nat.le_trans hi (by decide))
  unfold L_X12_tellsRing_10
  rw [hw]
  clear hw
  refine ⟨fun q => ?_, fun q => ?_⟩
  · have e : i = 5 := by omega
    rw [e] at hx
    have hx : x = dgA N r v := hx
    refine T_mstep (k := 0) hK1 (by decide) hr hr8 ?_
    refine T_mstep (k := 4) hK1 (by decide) hr hr8 ?_
    refine T_mstep (k := 9) hK1 (by decide) hr hr8 ?_
    refine T_mstep (k := 19) hK1 (by decide) hr hr8 ?_
    have hB : dgS N r 19 (dgS N r 9 (dgS N r 4 (dgS N r 0 x))) = dgB N r (dgA N r v) := by rw [hx]; rfl
    rw [hB]
    generalize hb : dgB N r (dgA N r v) = b
    refine lp3 (L_X12_tellsRing_76 (r : Int) _) (fun x y u => ∃ i : Nat, y = (i : Int) ∧ i ≤ 3 ∧ x = fdI (fun x i => mx x (aimV N r (i : Int))) b i ∧ CtM N n th oc u ∧ Same DScr s u) (fun _ y _ => (9 - y).toNat) ?_ b 0 s1 ⟨0, rfl, by omega, rfl, h1, Same_Ml hS1⟩
    intro m x y u ⟨i, hy, hi, hx, hCu, hSu⟩ ih2
    subst hy
    have hw := (ix3 (Nat.le_trans hi (by decide))).2.2.1
    have hmu := mu9 (Nat.le_trans hi (by decide))
    unfold L_X12_tellsRing_76
    rw [hw, hCu.2.1.2.1]
    clear hw
    refine ⟨fun q => ?_, fun q => ?_⟩
    · have e : i = 3 := by omega
      rw [e] at hx
      have hx : x = dgC N r b := hx
      have whence : ∀ w y, CtM N n th oc w → Same DScr s w → y = mx (dgC N r b) (if 0 < N 0 6 then lbr N r 0 else -2) → P_X12_whenceOf (r : Int) (-1) w (fun r17 s16 => (∀ x18 : Int, x18 = w64 ((w64 (31 * y)) + r17) → (P_X12_whenceOf (r : Int) 0 s16 (fun r20 s19 => Q (w64 ((w64 (31 * x18)) + r20)) s19)))) := by
        intro w y hCw hSw ey
        refine T_mwhence hN hCw.2.1 hCw.2.2.2 hr (fun w1 hM1 hS1 x18 e18 => ?_)
        have hC1 := CtM_sc hCw hM1 hS1
        refine T_mwhence hN hC1.2.1 hC1.2.2.2 hr (fun w2 hM2 hS2 => ?_)
        have kk := k w2 (CtM_sc hC1 hM2 hS2) ((hSw.trans hS1).trans hS2)
        unfold dgR at kk
        rw [hb] at kk
        rw [e18, ey]
        exact kk
      refine ⟨fun q2 x15 e15 => ?_, fun q2 => ?_⟩
      · refine whence u x15 hCu hSu ?_
        rw [e15, hx, if_neg (by omega)]
        rfl
      · refine T_mbreath (x := 0) hN hCu.2.1 hr (show (0 : Int) < N 0 6 by omega) (fun t hMt hSt x23 e23 => ?_)
        refine whence t x23 (CtM_sc hCu hMt hSt) (hSu.trans hSt) ?_
        rw [e23, hx, if_pos (by omega)]
        rfl
    · refine T_maim hN hCu.2.1 hr (fun t hMt hSt x4 e4 => ih2 _ _ _ ⟨i + 1, rfl, by omega, ?_, CtM_sc hCu hMt hSt, hSu.trans hSt⟩ hmu)
      rw [e4, hx]
      rfl
  · have i5 : i < 5 := by omega
    rw [ix5w hr8 i5, (ix5v hr8 i5).1, mring_N h1.2.1 (CtM_0 h1).1 hr i5]
    refine ⟨(ix5v hr8 i5).2, fun x3 e3 => ih _ _ ⟨i + 1, rfl, i5, ?_⟩ hmu⟩
    rw [e3, hx]
    rfl
