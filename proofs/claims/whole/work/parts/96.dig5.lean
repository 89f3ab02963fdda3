theorem T_mdt {N s : Sto} {n x : Nat} {th oc : Nat → Int} {v : Int} {Q : Int → Sto → Prop} (h : CtM N n th oc s) (hx : (x : Int) < N 0 6) (k : ∀ t, CtM N n th oc t → Same DScr s t → Q (dgT N v x) t) : P_X12_tellsThing v (x : Int) s Q := by
  obtain ⟨hR, hM, eN, hG⟩ := id h
  have hN : NOk N := by rw [← eN]; exact tN_ok hR
  have hx8 : x < 8 := by have := hN.2.1; omega
  have hb := inb8 hx8
  unfold P_X12_tellsThing
  refine T_lives hN hM (fun s1 hP1 hK1 hS1 => ?_)
  have h1 := CtM_sc h (NtM_cg hM hS1) (Same_Ml hS1)
  obtain ⟨g1, g2⟩ := mwhom_v hN h1.2.1 hP1 (sm_inv hN 20 (Nat.le_refl 20)).1.2 hx
  obtain ⟨p1, p2⟩ := hP1.2.1 x hx
  refine lp2 (L_X12_tellsThing_10 (x : Int) s1 _) (fun z y => ∃ i : Nat, y = (i : Int) ∧ i ≤ 3 ∧ z = fdI (fun y i => mx y (N (i + 6) x)) v i) (fun _ y => (9 - y).toNat) ?_ v 0 ⟨0, rfl, by omega, rfl⟩
  intro m z y ⟨i, hy, hi, hz⟩ ih
  subst hy
  have hw := (ix3 (Nat.le_trans hi (by decide))).2.2.1
  have hmu := mu9 (Nat.le_trans hi (by decide))
  unfold L_X12_tellsThing_10
  rw [hw]
  clear hw
  refine ⟨fun q => ?_, fun q => ?_⟩
  · have e : i = 3 := by omega
    rw [e] at hz
    have hz : z = dgT1 N x v := hz
    generalize ha : dgT1 N x v = a at hz
    rw [hz]
    refine lp2 (L_X12_tellsThing_46 (x : Int) s1 _) (fun z y => ∃ i : Nat, y = (i : Int) ∧ i ≤ 3 ∧ z = fdI (fun y i => mx y (if i = 0 then sm N 20 5 x else if i = 1 then sm N 20 6 x else whm N (sm N 20) x)) a i) (fun _ y => (9 - y).toNat) ?_ a 0 ⟨0, rfl, by omega, rfl⟩
    intro m z y ⟨i, hy, hi, hz⟩ ih2
    subst hy
    have hw := (ix3 (Nat.le_trans hi (by decide))).2.2.1
    have hmu := mu9 (Nat.le_trans hi (by decide))
    unfold L_X12_tellsThing_46
    rw [hw]
    clear hw
    refine ⟨fun q => ?_, fun q => ?_⟩
    · have e : i = 3 := by omega
      rw [e] at hz
      have hz : z = dgT2 N x a := hz
      refine T_mstand hN h1.2.1 hx (fun s5 hM5 hS5 x7 e7 => ?_)
      have h5 := CtM_sc h1 hM5 hS5
      refine T_mhush hN h5.2.1 (CtM_0 h5).1 hx (fun s8 hM8 hS8 x10 e10 => ?_)
      have h8 := CtM_sc h5 hM8 hS8
      refine T_mhush hN h8.2.1 (CtM_0 h8).1 hx (fun s11 hM11 hS11 x13 e13 => ?_)
      have h11 := CtM_sc h8 hM11 hS11
      refine T_mstill (c := 5) (D := 6) (w := 0) hN h11.2.1 (CtM_0 h11).2 (by decide) (by decide) hx (fun s14 hM14 hS14 x16 e16 => ?_)
      have h14 := CtM_sc h11 hM14 hS14
      refine T_mstill (c := 5) (D := 6) (w := 0) hN h14.2.1 (CtM_0 h14).2 (by decide) (by decide) hx (fun s17 hM17 hS17 => ?_)
      have kk := k s17 (CtM_sc h14 hM17 hS17) ((((((Same_Ml hS1).trans hS5).trans hS8).trans hS11).trans hS14).trans hS17)
      unfold dgT at kk
      rw [ha] at kk
      rw [e16, e13, e10, e7, hz]
      exact kk
    · have hv : O_X12_boundOf (x : Int) (i : Int) s1 ∧ F_X12_boundOf (x : Int) (i : Int) s1 = (if i = 0 then sm N 20 5 x else if i = 1 then sm N 20 6 x else whm N (sm N 20) x) := by
        unfold O_X12_boundOf F_X12_boundOf
        rw [Int.toNat_natCast, p1, p2, g1]
        refine ⟨⟨fun _ => ⟨hb, trivial⟩, fun _ => ⟨fun _ => ⟨hb, trivial⟩, fun _ => ⟨g2, trivial⟩⟩⟩, ?_⟩
        have hc : i = 0 ∨ i = 1 ∨ i = 2 := by omega
        rcases hc with rfl | rfl | rfl <;> rfl
      refine ⟨hv.1, fun x3 e3 => ih2 _ _ ⟨i + 1, rfl, by omega, ?_⟩ hmu⟩
      rw [e3, hz, hv.2]
      rfl
  · have i3 : i < 3 := by omega
    rw [ix3w hx8 i3, (ix3v hx8 i3).1, mthing_N h1.2.1 hx i3]
    refine ⟨(ix3v hx8 i3).2, fun x3 e3 => ih _ _ ⟨i + 1, rfl, i3, ?_⟩ hmu⟩
    rw [e3, hz]
    rfl
theorem T_mdE {N s : Sto} {n : Nat} {th oc : Nat → Int} {v : Int} {Q : Int → Sto → Prop} (h : CtM N n th oc s) (hP : PlM N (sm N 20) s) (k : ∀ t, CtM N n th oc t → Q (dgE N n th oc v) t) : (∀ x15 : Int, x15 = w64 ((w64 (31 * v)) + (s 69 23)) → (∀ x16 : Int, x16 = w64 ((w64 (31 * x15)) + (s 69 24)) → (P_X12_missedNow s (fun r18 s17 => (∀ x19 : Int, x19 = w64 ((w64 (31 * x16)) + r18) → (P_X12_richestNow s17 (fun r21 s20 => (∀ x22 : Int, x22 = w64 ((w64 (31 * x19)) + r21) → (P_X12_lonelyNow s20 (fun r24 s23 => (∀ x25 : Int, x25 = w64 ((w64 (31 * x22)) + r24) → (P_X12_calmBy 0 s23 (fun r27 s26 => (∀ x28 : Int, x28 = w64 ((w64 (31 * x25)) + r27) → (P_X12_calmBy 1 s26 (fun r30 s29 => (∀ x31 : Int, x31 = w64 ((w64 (31 * x28)) + r30) → (P_X12_neverNow s29 (fun r33 s32 => (∀ x34 : Int, x34 = w64 ((w64 (31 * x31)) + r33) → (P_X12_pacesNow s32 (fun r36 s35 => (∀ x37 : Int, x37 = w64 ((w64 (31 * x34)) + r36) → (P_X12_askNow s35 (fun r39 s38 => (∀ x40 : Int, x40 = w64 ((w64 (31 * x37)) + r39) → (P_X12_eveningOf 7 6 0 s38 (fun r42 s41 => (∀ x43 : Int, x43 = w64 ((w64 (31 * x40)) + r42) → (P_X12_eveningOf 7 6 1 s41 (fun r45 s44 => Q (w64 ((w64 (31 * x43)) + r45)) s44))))))))))))))))))))))))))))))) := by
  obtain ⟨hR, hM, eN, hG⟩ := id h
  have hN : NOk N := by rw [← eN]; exact tN_ok hR
  have hI := (sm_inv hN 20 (Nat.le_refl 20)).1.2
  intro x15 e15 x16 e16
  rw [hP.2.2.1] at e15
  rw [hP.2.2.2] at e16
  refine T_mmissed hN hM hP (fun x19 e19 => ?_)
  refine T_mrichest hN hM hP hI (fun x22 e22 => ?_)
  refine T_mlonely hN hM hP (fun x25 e25 => ?_)
  refine T_mcalm hN hM (CtM_0 h).2 (fun s26 a1 a2 x28 e28 => ?_)
  have h26 := CtM_sc h a1 a2
  refine T_mcalm hN h26.2.1 (CtM_0 h26).2 (fun s29 b1 b2 x31 e31 => ?_)
  have h29 := CtM_sc h26 b1 b2
  refine T_mnever hN h29.2.1 (CtM_0 h29).1 h29.2.2.2 (fun s32 c1 _ c2 x34 e34 => ?_)
  have h32 := CtM_sc h29 c1 c2
  refine T_mpaces hN h32.2.1 h32.2.2.2 (fun s35 d1 d2 x37 e37 => ?_)
  have h35 := CtM_sc h32 d1 d2
  refine T_mask hN h35.2.1 (CtM_0 h35).1 h35.2.2.2 (fun s38 f1 _ f2 x40 e40 => ?_)
  have h38 := CtM_sc h35 f1 f2
  refine T_mevening (n := 6) hN h38.2.1 (CtM_0 h38).1 (by decide) (fun s41 i1 i2 x43 e43 => ?_)
  have h41 := CtM_sc h38 i1 i2
  refine T_mevening (n := 6) hN h41.2.1 (CtM_0 h41).1 (by decide) (fun s44 j1 j2 => ?_)
  have kk := k s44 (CtM_sc h41 j1 j2)
  unfold dgE at kk
  rw [e43, e40, e37, e34, e31, e28, e25, e22, e19, e16, e15]
  exact kk
