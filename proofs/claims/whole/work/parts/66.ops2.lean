/-! ===== what is read out of texts, and of the told night ===== -/
theorem isRC {s : Sto} {v : Int} (h : Rel s) : F_X11_isRing v s = 0 ↔ ¬ (0 ≤ v ∧ v < tN s 0 0) := by
  have e : tN s 0 0 = s 6 0 := rfl
  rw [isRingC_0 h.2.1, e, h.2.1.1]
theorem isRM {N t : Sto} {v : Int} (hN : NOk N) (h : NtM N t) : F_X12_isRing v t = 0 ↔ ¬ (0 ≤ v ∧ v < N 0 0) := by
  rw [isRingM_0 (by rw [h.1]; exact hN.1), h.1]
theorem isTC {s : Sto} {v : Int} (h : Rel s) : F_X11_isThing v s = 0 ↔ ¬ (0 ≤ v ∧ v < tN s 0 6) := by
  have e : tN s 0 6 = s 6 6 := rfl
  have h8 := (tN_ok h).2.1
  rw [e] at h8 ⊢
  unfold F_X11_isThing
  rw [w32_of (by omega) (by omega), within_0]
  omega
theorem isTM' {n v : Int} {t : Sto} (h8 : 0 ≤ n ∧ n ≤ 8) (h : t 69 10 = n) : F_X12_isThing v t = 0 ↔ ¬ (0 ≤ v ∧ v < n) := by
  unfold F_X12_isThing
  rw [h, w32_of (by omega) (by omega), in_0]
  omega
theorem isTM {N t : Sto} {v : Int} (hN : NOk N) (h : NtM N t) : F_X12_isThing v t = 0 ↔ ¬ (0 ≤ v ∧ v < N 0 6) := isTM' hN.2.1 h.2.1
theorem nn {p q : Prop} (h : p ↔ ¬ q) (hq : q) : ¬ p := fun w => h.mp w hq
theorem yy {p q : Prop} (h : p ↔ ¬ q) (hp : ¬ p) : q := Classical.byContradiction (fun w => hp (h.mpr w))
theorem R_fault {v1 : Int} {s : Sto} (h : Rel s) : O_X11_fault v1 s ∧ P_X12_fault v1 s (fun r2 s2 => r2 = F_X11_fault v1 s ∧ Rel s2) := by
  unfold O_X11_fault F_X11_fault P_X12_fault
  by_cases c : 0 ≤ v1 ∧ v1 ≤ 2
  · have g : ¬ F_X11_within v1 0 2 s = 0 := nn within_0 c
    have g2 : ¬ F_X12_isText v1 s = 0 := nn isText_0 c
    rw [if_neg g]
    obtain ⟨k, rfl⟩ := Int.eq_ofNat_of_zero_le c.1
    rw [Int.toNat_natCast]
    refine ⟨⟨fun _ => trivial, fun _ => ⟨⟨by omega, by omega⟩, trivial⟩⟩, fun q => absurd q g2, fun _ => ?_⟩
    unfold P_X12_readsText
    have hk : k = 0 ∨ k = 1 ∨ k = 2 := by omega
    rcases hk with rfl | rfl | rfl
    · exact ⟨fun _ => T_rV h (fun t _ S => ⟨rfl, Rel_cg h (Same_RV S)⟩), fun q => absurd rfl q⟩
    · exact ⟨fun q => absurd q (by decide), fun _ => ⟨fun _ => T_rT h (fun t _ _ S => ⟨rfl, Rel_cg h (Same_RT S)⟩), fun q => absurd rfl q⟩⟩
    · exact ⟨fun q => absurd q (by decide), fun _ => ⟨fun q => absurd q (by decide), fun _ => T_rW h (fun t _ S => ⟨rfl, Rel_cg h (Same_RW S)⟩)⟩⟩
  · have g : F_X11_within v1 0 2 s = 0 := within_0.mpr c
    have g2 : F_X12_isText v1 s = 0 := isText_0.mpr c
    rw [if_pos g]
    exact ⟨⟨fun _ => trivial, fun q => absurd g q⟩, fun _ => ⟨rfl, h⟩, fun q => absurd g2 q⟩
theorem R_cell {v1 : Int} {s : Sto} (h : Rel s) : O_X11_cell v1 s ∧ P_X12_cell v1 s (fun r2 s2 => r2 = F_X11_cell v1 s ∧ Rel s2) := by
  have hN := tN_ok h
  have hc := hN.2.2.2.1
  have e1 : tN s 0 1 = s 3 0 := rfl
  rw [e1] at hc
  obtain ⟨o1, o2⟩ := isOpen_v (u := s) (z := v1) hN rfl tN_NtC.2.2.2.2.2.2.2.1
  unfold O_X11_cell F_X11_cell P_X12_cell
  refine ⟨⟨fun _ => trivial, fun _ => ⟨fun _ => ⟨o2, trivial⟩, fun _ => trivial⟩⟩, T_rV h (fun t v S => ?_)⟩
  obtain ⟨w1, w2, -⟩ := v
  have hR := Rel_cg h (Same_RV S)
  rw [w1]
  by_cases c : 0 ≤ v1 ∧ v1 ≤ 35
  · have g : ¬ F_X11_within v1 0 35 s = 0 := nn within_0 c
    have g2 : ¬ F_X12_in v1 0 35 t = 0 := nn in_0 c
    rw [if_neg g]
    refine ⟨fun q => absurd q g2, fun _ => ⟨fun q => ⟨?_, hR⟩, fun q => ⟨⟨by omega, by omega⟩, ?_, hR⟩⟩⟩
    · rw [if_neg (by omega)]
    · have q2 : v1 < s 3 0 := by omega
      have := w2 v1.toNat (by omega)
      rw [if_pos q2, this, o1]
      have e10 : tN s 10 v1.toNat = s 4 v1.toNat := by
        show (if ((v1.toNat : Nat) : Int) < s 3 0 then s 4 v1.toNat else 0) = _
        rw [if_pos (by omega)]
      rw [e10]
      have h01 := hN.2.2.2.2.2.2.2.2.1 v1.toNat
      rw [e10] at h01
      rcases h01 with w | w
      · rw [w, if_neg (fun q : 0 ≤ v1 ∧ (0 : Int) = 1 => absurd q.2 (by decide)), if_pos rfl]; decide
      · rw [w, if_pos (⟨c.1, rfl⟩ : 0 ≤ v1 ∧ (1 : Int) = 1), if_neg (by decide)]; decide
  · have g : F_X11_within v1 0 35 s = 0 := within_0.mpr c
    have g2 : F_X12_in v1 0 35 t = 0 := in_0.mpr c
    rw [if_pos g]
    exact ⟨fun _ => ⟨rfl, hR⟩, fun q => absurd g2 q⟩
theorem ix3w {x w : Nat} (hx : x < 8) (hw : w < 3) : w32 (w32 (3 * (x : Int)) + (w : Int)) = 3 * (x : Int) + (w : Int) := by
  rw [w32_of (z := 3 * (x : Int)) (by omega) (by omega), w32_of (by omega) (by omega)]
theorem ix3v {x w : Nat} (hx : x < 8) (hw : w < 3) : (3 * (x : Int) + (w : Int)).toNat = 3 * x + w ∧ inb (3 * (x : Int) + (w : Int)) 24 := ⟨by omega, by omega, by omega⟩
theorem R_thing {v1 v2 : Int} {s : Sto} (h : Rel s) : O_X11_thing v1 v2 s ∧ P_X12_thing v1 v2 s (fun r2 s2 => r2 = F_X11_thing v1 v2 s ∧ Rel s2) := by
  have hN := tN_ok h
  have h8 := hN.2.1
  have g1 := isTC (v := v1) h
  have e6 : tN s 0 6 = s 6 6 := rfl
  rw [e6] at h8 g1
  unfold O_X11_thing F_X11_thing P_X12_thing
  have hin : ¬ F_X11_isThing v1 s = 0 → inb v1 8 := fun q => by have := yy g1 q; exact ⟨by omega, by omega⟩
  refine ⟨⟨fun _ => trivial, fun q => ⟨fun _ => ⟨hin q, trivial⟩, fun _ => ⟨fun _ => ⟨hin q, trivial⟩, fun _ => ⟨fun _ => ⟨hin q, trivial⟩, fun _ => trivial⟩⟩⟩⟩, T_rT h (fun t w1 w2 S => ?_)⟩
  have hR := Rel_cg h (Same_RT S)
  have g2 := isTM' (v := v1) h8 w1
  by_cases c : 0 ≤ v1 ∧ v1 < s 6 6
  · rw [if_neg (nn g1 c)]
    refine ⟨fun q => absurd q (nn g2 c), fun _ => ⟨fun q => ⟨?_, hR⟩, fun q => ?_⟩⟩
    · have := in_0.mp q
      rw [if_neg (by omega), if_neg (by omega), if_neg (by omega)]
    · have c2 := yy in_0 q
      obtain ⟨x, rfl⟩ := Int.eq_ofNat_of_zero_le c.1
      obtain ⟨w, rfl⟩ := Int.eq_ofNat_of_zero_le c2.1
      obtain ⟨k1, k2, k3⟩ := w2 x c.2
      have hx8 : x < 8 := by omega
      have hw3 : w < 3 := by omega
      rw [ix3w hx8 hw3, (ix3v hx8 hw3).1, Int.toNat_natCast]
      refine ⟨(ix3v hx8 hw3).2, ?_, hR⟩
      have hw : w = 0 ∨ w = 1 ∨ w = 2 := by omega
      rcases hw with rfl | rfl | rfl
      · exact k1
      · exact k2
      · exact k3
  · rw [if_pos (g1.mpr c)]
    exact ⟨fun _ => ⟨rfl, hR⟩, fun q => absurd (g2.mpr c) q⟩
theorem R_wind {v1 : Int} {s : Sto} (h : Rel s) : O_X11_wind v1 s ∧ P_X12_wind v1 s (fun r2 s2 => r2 = F_X11_wind v1 s ∧ Rel s2) := by
  unfold O_X11_wind F_X11_wind P_X12_wind
  refine ⟨⟨fun _ => trivial, fun q => ?_⟩, T_rW h (fun t w S => ?_)⟩
  · have := yy within_0 q
    exact ⟨⟨by omega, by omega⟩, trivial⟩
  have hR := Rel_cg h (Same_RW S)
  by_cases c : 0 ≤ v1 ∧ v1 ≤ 19
  · rw [if_neg (nn within_0 c)]
    exact ⟨fun q => absurd q (nn isStep_0 c), fun _ => ⟨⟨by omega, by omega⟩, w v1.toNat (by omega), hR⟩⟩
  · rw [if_pos (within_0.mpr c)]
    exact ⟨fun _ => ⟨rfl, hR⟩, fun q => absurd (isStep_0.mpr c) q⟩
/-- the reference has found: it stands as the told night does -/
theorem T_findR {N s : Sto} {Q : Int → Sto → Prop} (h : Rel s) (eN : tN s = N) (k : ∀ t, Rel t → NtM N t → PlM N (sm N 20) t → KpM N t 20 → tN t = N → Same DScr s t → Q 0 t) : P_X12_find s Q := by
  subst eN
  exact T_find h (fun t t1 t2 t3 t4 => k t (Rel_cg h t4) t1 t2 t3 (tN_cg (fun a b q1 q2 => t4 a b (by unfold DScr; omega))) t4)
theorem ixm {k r w : Nat} (hk : k < 20) (hr : r < 8) (hw : w < 4) : w32 (w32 (w32 (32 * (k : Int)) + w32 (4 * (r : Int))) + (w : Int)) = 32 * (k : Int) + 4 * (r : Int) + (w : Int) := by
  rw [w32_of (z := 32 * (k : Int)) (by omega) (by omega), w32_of (z := 4 * (r : Int)) (by omega) (by omega), w32_of (z := 32 * (k : Int) + 4 * (r : Int)) (by omega) (by omega), w32_of (by omega) (by omega)]
theorem ixm2 {k r w : Nat} : (32 * (k : Int) + 4 * (r : Int) + (w : Int)).toNat = 32 * k + 4 * r + w := by omega
theorem R_at {v1 v2 v3 : Int} {s : Sto} (h : Rel s) : P_X11_at v1 v2 v3 s (fun r s1 => P_X12_at v1 v2 v3 s1 (fun r2 s2 => r2 = r ∧ Rel s2)) := by
  have hN := tN_ok h
  have bad : ¬ ((0 ≤ v1 ∧ v1 ≤ 19) ∧ (0 ≤ v2 ∧ v2 < tN s 0 0) ∧ (0 ≤ v3 ∧ v3 ≤ 3)) → P_X12_at v1 v2 v3 s (fun r2 s2 => r2 = -2 ∧ Rel s2) := by
    intro c
    unfold P_X12_at
    refine T_findR h rfl (fun t t1 t2 t3 t4 t5 t6 => ?_)
    refine ⟨fun _ => ⟨rfl, t1⟩, fun q1 => ⟨fun _ => ⟨rfl, t1⟩, fun q2 => ⟨fun _ => ⟨rfl, t1⟩, fun q3 => ?_⟩⟩⟩
    exact absurd ⟨yy isStep_0 q1, yy (isRM hN t2) q2, yy in_0 q3⟩ c
  unfold P_X11_at
  refine ⟨fun q => bad (fun w => within_0.mp q w.1), fun q1 => ⟨fun q => bad (fun w => (isRC h).mp q w.2.1), fun q2 => ⟨fun q => bad (fun w => within_0.mp q w.2.2), fun q3 => ?_⟩⟩⟩
  have c1 := yy within_0 q1
  have c2 := yy (isRC h) q2
  have c3 := yy within_0 q3
  obtain ⟨k, rfl⟩ := Int.eq_ofNat_of_zero_le c1.1
  obtain ⟨r, rfl⟩ := Int.eq_ofNat_of_zero_le c2.1
  obtain ⟨w, rfl⟩ := Int.eq_ofNat_of_zero_le c3.1
  have hk : k < 20 := by omega
  have hr8 : r < 8 := by have := hN.1; omega
  have hw : w < 4 := by omega
  refine T_playTold h (fun t hRt hPt eNt hSt => ?_)
  obtain ⟨l1, l2⟩ := look_v (s := t) hk hr8 hw
  refine ⟨l2, ?_⟩
  unfold P_X12_at
  refine T_findR hRt eNt (fun u u1 u2 u3 u4 u5 u6 => ?_)
  refine ⟨fun q => absurd q (nn isStep_0 c1), fun _ => ⟨fun q => absurd q (nn (isRM hN u2) c2), fun _ => ⟨fun q => absurd q (nn in_0 c3), fun _ => ?_⟩⟩⟩
  rw [ixm hk hr8 hw, ixm2, l1]
  refine ⟨⟨by omega, by omega⟩, ?_, u1⟩
  obtain ⟨m1, m2, m3, m4⟩ := u4 k hk r c2.2
  obtain ⟨d1, d2, d3, d4⟩ := hPt.2 k hk r c2.2
  have hw4 : w = 0 ∨ w = 1 ∨ w = 2 ∨ w = 3 := by omega
  rcases hw4 with rfl | rfl | rfl | rfl
  · exact m1.trans d1.symm
  · exact m2.trans d2.symm
  · exact m3.trans d3.symm
  · exact m4.trans d4.symm
theorem ix5b {z : Int} (h : 0 ≤ z ∧ z < 8) : w32 (w32 (5 * z) + 4) = 5 * z + 4 := by
  rw [w32_of (z := 5 * z) (by omega) (by omega), w32_of (by omega) (by omega)]
theorem ix5c {z : Int} (h : 0 ≤ z ∧ z < 8) : (5 * z + 4).toNat = 5 * z.toNat + 4 ∧ inb (5 * z + 4) 40 := ⟨by omega, by omega, by omega⟩
theorem mwhom_v {N σ t : Sto} {x : Nat} (hN : NOk N) (hC : NtM N t) (hP : PlM N σ t) (hI : ∀ x : Nat, (x : Int) < N 0 6 → σ 5 x = -1 ∨ (0 ≤ σ 5 x ∧ σ 5 x < N 0 0)) (hx : (x : Int) < N 0 6) : F_X12_whomOf (x : Int) t = whm N σ x ∧ O_X12_whomOf (x : Int) t := by
  have h0 := hN.1
  have h6 := hN.2.1
  have hin : inb (x : Int) 8 := ⟨by omega, by omega⟩
  unfold F_X12_whomOf O_X12_whomOf whm
  rw [Int.toNat_natCast, (hP.2.1 x hx).1]
  rcases hI x hx with q | q
  · rw [if_pos q, if_pos q]
    exact ⟨rfl, hin, fun _ => trivial, fun w => absurd q w⟩
  · have n : ¬ σ 5 x = -1 := by omega
    have hz : 0 ≤ σ 5 x ∧ σ 5 x < 8 := by omega
    rw [if_neg n, if_neg n, ix5b hz, (ix5c hz).1]
    exact ⟨(hC.2.2.2.2.1 (σ 5 x).toNat (by omega)).2.2.2.2.2, hin, fun w => absurd w n, fun _ => ⟨hin, (ix5c hz).2, trivial⟩⟩
theorem R_bound {v1 v2 : Int} {s : Sto} (h : Rel s) : P_X11_bound v1 v2 s (fun r s1 => P_X12_bound v1 v2 s1 (fun r2 s2 => r2 = r ∧ Rel s2)) := by
  have hN := tN_ok h
  have h6 := hN.2.1
  have hI := (sm_inv hN 20 (Nat.le_refl 20)).1
  have bad : ∀ s1, Rel s1 → tN s1 = tN s → ¬ ((0 ≤ v1 ∧ v1 < tN s 0 6) ∧ (0 ≤ v2 ∧ v2 ≤ 2)) → P_X12_bound v1 v2 s1 (fun r2 s2 => r2 = -2 ∧ Rel s2) := by
    intro s1 h1 e1 c
    unfold P_X12_bound
    refine T_findR h1 e1 (fun t t1 t2 t3 t4 t5 t6 => ?_)
    refine ⟨fun _ => ⟨rfl, t1⟩, fun q1 => ⟨fun _ => ⟨rfl, t1⟩, fun q3 => ?_⟩⟩
    exact absurd ⟨yy (isTM hN t2) q1, yy in_0 q3⟩ c
  unfold P_X11_bound
  refine ⟨fun q => bad s h rfl (fun w => (isTC h).mp q w.1), fun q1 => ?_⟩
  have c1 := yy (isTC h) q1
  obtain ⟨x, rfl⟩ := Int.eq_ofNat_of_zero_le c1.1
  have hin : inb (x : Int) 8 := ⟨by omega, by omega⟩
  refine T_playTold h (fun t hRt hPt eNt hSt => ?_)
  obtain ⟨p5, p6, p7⟩ := hPt.1.2.1 x c1.2
  have good : (0 ≤ v2 ∧ v2 ≤ 2) → P_X12_bound (x : Int) v2 t (fun r2 s2 => r2 = (if v2 = 0 then sm (tN s) 20 5 x else if v2 = 1 then sm (tN s) 20 6 x else whm (tN s) (sm (tN s) 20) x) ∧ Rel s2) := by
    intro c2
    unfold P_X12_bound
    refine T_findR hRt eNt (fun u u1 u2 u3 u4 u5 u6 => ?_)
    obtain ⟨m5, m6⟩ := u3.2.1 x c1.2
    obtain ⟨m7, m8⟩ := mwhom_v hN u2 u3 hI.2 c1.2
    refine ⟨fun q => absurd q (nn (isTM hN u2) c1), fun _ => ⟨fun q => absurd q (nn in_0 c2), fun _ => ⟨⟨fun _ => ⟨hin, trivial⟩, fun _ => ⟨fun _ => ⟨hin, trivial⟩, fun _ => ⟨m8, trivial⟩⟩⟩, ?_, u1⟩⟩⟩
    unfold F_X12_boundOf
    rw [Int.toNat_natCast, m5, m6, m7]
  rw [Int.toNat_natCast]
  refine ⟨fun q => ⟨hin, ?_⟩, fun q => ⟨fun q2 => ⟨hin, ?_⟩, fun q2 => ⟨fun q3 => ⟨hin, ?_⟩, fun q3 => bad t hRt eNt (fun w => by omega)⟩⟩⟩
  · have := good (by omega)
    rw [if_pos q] at this
    rw [show t 21 x = sm (tN s) 20 5 x from p5]
    exact this
  · have := good (by omega)
    rw [if_neg q, if_pos q2] at this
    rw [show t 22 x = sm (tN s) 20 6 x from p6]
    exact this
  · have := good (by omega)
    rw [if_neg q, if_neg q2] at this
    rw [show t 23 x = whm (tN s) (sm (tN s) 20) x from p7]
    exact this
theorem R_throughs {v1 : Int} {s : Sto} (h : Rel s) : P_X11_throughs v1 s (fun r s1 => P_X12_throughs v1 s1 (fun r2 s2 => r2 = r ∧ Rel s2)) := by
  unfold P_X11_throughs
  refine ⟨fun q => ?_, fun q1 => ?_⟩
  · unfold P_X12_throughs
    exact T_findR h rfl (fun t t1 t2 t3 t4 t5 t6 => ⟨fun _ => ⟨rfl, t1⟩, fun q2 => absurd (yy isTwo_0 q2) (within_0.mp q)⟩)
  · have c := yy within_0 q1
    refine T_playTold h (fun t hRt hPt eNt hSt => ?_)
    unfold P_X12_throughs
    refine ⟨fun q => ?_, fun q => ?_⟩
    · refine T_findR hRt eNt (fun u u1 u2 u3 u4 u5 u6 => ⟨fun w => absurd w (nn isTwo_0 c), fun _ => ⟨fun _ => ⟨u3.2.2.1.trans hPt.1.2.2.2.1.symm, u1⟩, fun w => absurd q w⟩⟩)
    · refine T_findR hRt eNt (fun u u1 u2 u3 u4 u5 u6 => ⟨fun w => absurd w (nn isTwo_0 c), fun _ => ⟨fun w => absurd w q, fun _ => ⟨u3.2.2.2.trans hPt.1.2.2.2.2.1.symm, u1⟩⟩⟩)
