/-! ===== the reference's aim; stand ===== -/
theorem NtC_keep {N s t : Sto} (h : NtC N 44 s) (e : ∀ a b, (3 ≤ a ∧ a ≤ 5) ∨ (44 ≤ a ∧ a ≤ 53) → t a b = s a b) : NtC N 44 t := by
  obtain ⟨h1, h2, h3, h4, h5, h6, h7, h8, h9⟩ := h
  exact ⟨by rw [e _ _ (by omega)]; exact h1, by rw [e _ _ (by omega)]; exact h2, by rw [e _ _ (by omega)]; exact h3, by rw [e _ _ (by omega)]; exact h4, fun r hr => by rw [e _ _ (by omega), e _ _ (by omega), e _ _ (by omega), e _ _ (by omega), e _ _ (by omega)]; exact h5 r hr, fun x hx => by rw [e _ _ (by omega), e _ _ (by omega), e _ _ (by omega)]; exact h6 x hx, fun k hk => by rw [e _ _ (by omega)]; exact h7 k hk, fun c hc => by rw [e _ _ (by omega)]; exact h8 c hc, fun i hi => by rw [e _ _ (by omega)]; exact h9 i hi⟩
theorem ix9 {c : Nat} (h : c < 36) : w32 ((c : Int).tdiv 9) = ((c / 9 : Nat) : Int) ∧ w32 (w32 ((c : Int).tmod 9) + 1) = ((c % 9 + 1 : Nat) : Int) := by
  have e1 : (c : Int).tdiv 9 = ((c / 9 : Nat) : Int) := rfl
  have e2 : (c : Int).tmod 9 = ((c % 9 : Nat) : Int) := rfl
  rw [e1, e2]
  refine ⟨w32_of (by omega) (by omega), ?_⟩
  rw [w32_of (z := ((c % 9 : Nat) : Int)) (by omega) (by omega), w32_of (by omega) (by omega)]
  omega
theorem T_maim {N s : Sto} {r : Nat} {w : Int} {Q : Int → Sto → Prop} (hN : NOk N) (hC : NtM N s) (hr : (r : Int) < N 0 0) (k : ∀ t, NtM N t → Same DScr s t → Q (aimV N r w) t) : P_X12_aimOf (r : Int) w s Q := by
  have hr8 : r < 8 := by have := hN.1; omega
  have i1 : w32 (w32 (5 * (r : Int)) + 3) = 5 * (r : Int) + 3 := ix5w (d := 3) hr8 (by decide)
  obtain ⟨i2, i3⟩ := ix5v (d := 3) hr8 (by decide)
  have i2 : (5 * (r : Int) + 3).toNat = 5 * r + 3 := i2
  have i3 : inb (5 * (r : Int) + 3) 40 := i3
  have j1 : w32 (w32 (5 * (r : Int)) + 2) = 5 * (r : Int) + 2 := ix5w (d := 2) hr8 (by decide)
  obtain ⟨j2, j3⟩ := ix5v (d := 2) hr8 (by decide)
  have j2 : (5 * (r : Int) + 2).toNat = 5 * r + 2 := j2
  have j3 : inb (5 * (r : Int) + 2) 40 := j3
  obtain ⟨-, -, -, k3, k4, -⟩ := hC.2.2.2.2.1 r hr
  unfold P_X12_aimOf
  rw [i1, i2, j1, j2]
  refine ⟨j3, fun x2 e2 => ⟨i3, fun x4 e4 => ?_⟩⟩
  have e2' : x2 = N 3 r := by rw [e2]; exact k3
  have e4' : x4 = N 4 r := by rw [e4]; exact k4
  refine lp4 (L_X12_aimOf_32 (r : Int) w x2 x4 _) (fun b m y u => ∃ c : Nat, y = (c : Int) ∧ c ≤ 36 ∧ b = (am N r c).1 ∧ m = (am N r c).2 ∧ (∃ z1 z2, NtM (up (up N 3 r z1) 4 r z2) u) ∧ Same (fun a b => DScr a b ∨ (a = 79 ∧ (b = 5 * r + 2 ∨ b = 5 * r + 3))) s u) (fun _ _ y _ => (37 - y).toNat) ?_ (-1) (-1) 0 s ⟨0, rfl, by omega, rfl, rfl, ⟨N 3 r, N 4 r, by rw [show up N 3 r (N 3 r) = N from up_self, up_self]; exact hC⟩, Same.rfl'⟩
  intro n b m y u ⟨c, hy, hc, hb, hm, ⟨z1, z2, hCu⟩, hSu⟩ ih
  subst hy
  unfold L_X12_aimOf_32
  rw [i1, i2, j1, j2]
  clear i1 j1
  refine ⟨fun c1 => ⟨j3, fun s9 e9 => ⟨i3, fun s11 e11 => ?_⟩⟩, fun c1 => ⟨j3, fun s3 e3 => ⟨i3, fun s5 e5 => ?_⟩⟩⟩
  · have : c = 36 := by omega
    subst this
    have hC9 := NtM_ring (a := 3) (r := r) (z := x2) hCu (by omega)
    rw [up_cm (by omega), up_up, e2', show up N 3 r (N 3 r) = N from up_self, show 5 * r + 3 - 1 = 5 * r + 2 by omega, ← e2', ← e9] at hC9
    have hC11 := NtM_ring (a := 4) (r := r) (z := x4) hC9 (by omega)
    rw [up_up, e4', up_self, show 5 * r + 4 - 1 = 5 * r + 3 by omega, ← e4', ← e11] at hC11
    have hS11 : Same DScr s s11 := by
      intro a d hd
      rw [e11]
      by_cases q : a = 79 ∧ d = 5 * r + 3
      · rw [q.1, q.2, up_at, e4]
      · rw [up_c2 q, e9]
        by_cases q2 : a = 79 ∧ d = 5 * r + 2
        · rw [q2.1, q2.2, up_at, e2]
        · rw [up_c2 q2]; exact hSu a d (fun w => w.elim hd (fun w => by omega))
    have kk := k s11 hC11 hS11
    rcases am_rng (N := N) (r := r) 36 with ⟨q, -⟩ | ⟨-, q1, q2, -⟩
    · omega
    · obtain ⟨cc, hcc⟩ := Int.eq_ofNat_of_zero_le q1
      rw [hcc] at q2
      obtain ⟨m1, m2⟩ := ix9 (c := cc) (by omega)
      unfold aimV at kk
      rw [hb, hm, hcc, m1, m2]
      rw [hcc] at kk
      refine ⟨fun w0 => ?_, fun w0 => ⟨fun w1 => ?_, fun w1 => ?_⟩⟩
      · rw [if_pos w0] at kk; exact kk
      · rw [if_neg w0, if_pos w1] at kk
        exact kk
      · rw [if_neg w0, if_neg w1] at kk; exact kk
  · have hc36 : c < 36 := by omega
    obtain ⟨m1, m2⟩ := ix9 hc36
    rw [m1] at e3
    rw [m2] at e5
    clear m1 m2
    have hC3 := NtM_ring (a := 3) (r := r) (z := ((c / 9 : Nat) : Int)) hCu (by omega)
    rw [up_cm (by omega), up_up, show 5 * r + 3 - 1 = 5 * r + 2 by omega, ← e3] at hC3
    have hC5 := NtM_ring (a := 4) (r := r) (z := ((c % 9 + 1 : Nat) : Int)) hC3 (by omega)
    rw [up_up, show 5 * r + 4 - 1 = 5 * r + 3 by omega, ← e5] at hC5
    have hN5 := NOk_aim (r := r) (w := ((c / 9 : Nat) : Int)) (b := ((c % 9 + 1 : Nat) : Int)) hN (by omega) (by omega)
    have hS5 : Same (fun a b => DScr a b ∨ (a = 79 ∧ (b = 5 * r + 2 ∨ b = 5 * r + 3))) s s5 := by rw [e5, e3]; exact (hSu.up (Or.inr ⟨rfl, Or.inl rfl⟩)).up (Or.inr ⟨rfl, Or.inr rfl⟩)
    refine T_lives hN5 hC5 (fun s6 hP6 _ hS6 => ?_)
    have hC6 := NtM_cg hC5 hS6
    refine T_mall hN5 hC6 hP6 (fun x10 e10 x12 e12 => ?_)
    have en : cntB (bnB (sm (up (up N 3 r ((c / 9 : Nat) : Int)) 4 r ((c % 9 + 1 : Nat) : Int)) 20)) (nT (up (up N 3 r ((c / 9 : Nat) : Int)) 4 r ((c % 9 + 1 : Nat) : Int))) = nbd (aimN N r c) := rfl
    rw [en] at e10 e12
    unfold F_X12_greater at e12
    rw [hm] at e10 e12
    rw [ixp (b := c) (by omega)]
    refine ih _ _ _ _ ⟨c + 1, rfl, by omega, ?_, ?_, ⟨_, _, hC6⟩, hS5.trans ((Same_Ml hS6).mono (fun a b q => Or.inl q))⟩ (by omega)
    · rw [e10, am_s]
      by_cases q : nbd (aimN N r c) ≤ (am N r c).2
      · rw [if_pos q, if_pos q]; exact hb
      · rw [if_neg q, if_neg q]
    · rw [e12, am_s]
      by_cases q : nbd (aimN N r c) ≤ (am N r c).2
      · rw [if_pos q, if_pos q]
      · rw [if_neg q, if_neg q]
theorem AmC_v {N s : Sto} {r : Nat} (h : AmC N r 36 s) : s 62 4 = aimV N r 0 ∧ s 62 5 = aimV N r 1 ∧ s 62 6 = aimV N r 2 := ⟨(h.2 (by decide)).1, (h.2 (by decide)).2, h.1⟩
theorem R_aim {v1 v2 : Int} {s : Sto} (h : Rel s) : P_X11_aim v1 v2 s (fun r s1 => P_X12_aim v1 v2 s1 (fun r2 s2 => r2 = r ∧ Rel s2)) := by
  have hN := tN_ok h
  have bad : ¬ ((0 ≤ v1 ∧ v1 < tN s 0 0) ∧ (0 ≤ v2 ∧ v2 ≤ 2)) → P_X12_aim v1 v2 s (fun r2 s2 => r2 = -2 ∧ Rel s2) := by
    intro c
    unfold P_X12_aim
    refine T_findR h rfl (fun t t1 t2 t3 t4 t5 t6 => ?_)
    exact ⟨fun _ => ⟨rfl, t1⟩, fun q1 => ⟨fun _ => ⟨rfl, t1⟩, fun q2 => absurd ⟨yy (isRM hN t2) q1, yy in_0 q2⟩ c⟩⟩
  unfold P_X11_aim
  refine ⟨fun q => bad (fun w => (isRC h).mp q w.1), fun q1 => ⟨fun q => bad (fun w => within_0.mp q w.2), fun q2 => ?_⟩⟩
  have c1 := yy (isRC h) q1
  have c2 := yy within_0 q2
  obtain ⟨r, rfl⟩ := Int.eq_ofNat_of_zero_le c1.1
  refine T_caim hN tN_NtC c1.2 (fun t hA hSt => ?_)
  obtain ⟨hRt, eNt⟩ := Rel_sc h hSt
  obtain ⟨a0, a1, a2⟩ := AmC_v hA
  have good : P_X12_aim (r : Int) v2 t (fun r2 s2 => r2 = aimV (tN s) r v2 ∧ Rel s2) := by
    unfold P_X12_aim
    refine T_findR hRt eNt (fun u u1 u2 u3 u4 u5 u6 => ?_)
    exact ⟨fun q => absurd q (nn (isRM hN u2) c1), fun _ => ⟨fun q => absurd q (nn in_0 c2), fun _ => T_maim hN u2 c1.2 (fun w w1 w2 => ⟨rfl, (Rel_sc u1 w2).1⟩)⟩⟩
  refine ⟨fun q => ?_, fun q => ⟨fun q3 => ?_, fun q3 => ?_⟩⟩
  · rw [a0]; rw [q] at good ⊢; exact good
  · rw [a1]; rw [q3] at good ⊢; exact good
  · have : v2 = 2 := by omega
    rw [a2]; rw [this] at good ⊢; exact good
/-! ===== stand ===== -/
def stF (N : Sto) (x c : Nat) : Bool := decide (N 10 c = 1 ∧ sm (up N 6 x (c : Int)) 20 5 x = -1)
def stV (N : Sto) (x : Nat) : Int := fstB (stF N x) (N 0 1).toNat
theorem T_binds {N s : Sto} {x : Nat} {Q : Int → Sto → Prop} (hN : NOk N) (hC : NtC N 44 s) (hx : (x : Int) < N 0 6) (k : ∀ t, NtC N 44 t → Same (DPl 54) s t → Q (if sm N 20 5 x = -1 then 0 else 1) t) : P_X5_binds (x : Int) s Q := by
  have hx8 : x < 8 := by have := hN.2.1; omega
  unfold P_X5_binds
  refine T_playAll (Or.inr rfl) (Or.inr rfl) hN hC (fun t hP hS => ?_)
  have h5 : t 59 x = sm N 20 5 x := (hP.2.1 x hx).1
  have kk := k t (NtC_cg (Or.inr rfl) (Or.inr rfl) hC hS) hS
  rw [Int.toNat_natCast, h5]
  refine ⟨inb8 hx8, fun c => ?_, fun c => ?_⟩
  · rw [if_pos c] at kk; exact kk
  · rw [if_neg c] at kk; exact kk
theorem T_cstand {N s : Sto} {x : Nat} {Q : Int → Sto → Prop} (hN : NOk N) (hC : NtC N 6 s) (hx : (x : Int) < N 0 6) (k : ∀ t, Same DScr s t → Q (stV N x) t) : P_X5_safeCell (x : Int) s Q := by
  have hx8 : x < 8 := by have := hN.2.1; omega
  have hc36 := hN.2.2.2.1
  unfold P_X5_safeCell
  refine T_becomes hN hC (fun t hCt hSt => ?_)
  refine lp2 (L_X5_safeCell_13 (x : Int) _ _) (fun y u => ∃ c : Nat, y = (c : Int) ∧ c ≤ (N 0 1).toNat ∧ (∃ z, NtC (up N 6 x z) 44 u) ∧ (∀ j, j < c → stF N x j = false) ∧ Same DScr s u) (fun y _ => (37 - y).toNat) ?_ 0 t ⟨0, rfl, by omega, ⟨N 6 x, by rw [up_self]; exact hCt⟩, fun j q => absurd q (Nat.not_lt_zero j), Same_tr hSt⟩
  intro n y u ⟨c, hy, hc, ⟨z, hCu⟩, hf, hSu⟩ ih
  subst hy
  have e3 : u 3 0 = N 0 1 := by rw [hCu.2.2.2.1, up_c (by decide)]
  unfold L_X5_safeCell_13
  rw [e3, Int.toNat_natCast]
  refine ⟨fun q => ?_, fun q => ⟨inb8 hx8, fun s3 es3 => ?_⟩⟩
  · have : c = (N 0 1).toNat := by omega
    subst this
    rw [show (-1 : Int) = stV N x from (fstB_none _ hf).symm]
    exact k u hSu
  · have hcc : (c : Int) < N 0 1 := by omega
    have hw := ixp (b := c) (by omega)
    have hmu : (37 - ((c + 1 : Nat) : Int)).toNat < (37 - (c : Int)).toNat := by omega
    rw [hw]
    clear hw
    have hC3 : NtC (up N 6 x (c : Int)) 44 s3 := by
      have := NtC_up (a := 6) (b := x) (z := (c : Int)) hCu (by omega)
      rw [up_up] at this
      rw [es3]
      exact this
    have hN3 : NOk (up N 6 x (c : Int)) := NOk_up hN (by unfold lgl; omega)
    have hS3 : Same DScr s s3 := by rw [es3]; exact DScr_tr hSu (by omega)
    have e10 : up N 6 x (c : Int) 10 c = N 10 c := up_c (by decide)
    obtain ⟨o1, o2⟩ := isOpen_v (u := s3) (z := (c : Int)) hN3 hC3.2.2.2.1 hC3.2.2.2.2.2.2.2.1
    rw [Int.toNat_natCast, e10] at o1
    have cont : ∀ v, Same DScr s v → (∃ z, NtC (up N 6 x z) 44 v) → stF N x c = false → L_X5_safeCell_13 (x : Int) (fun x3 s4 => Q x3 s4) (fun s5 => Q (-1) s5) n ((c + 1 : Nat) : Int) v := by
      intro v hSv hCv hfc
      refine ih _ _ ⟨c + 1, rfl, by omega, hCv, fun j hj => ?_, hSv⟩ hmu
      by_cases w : j = c
      · rw [w]; exact hfc
      · exact hf j (by omega)
    refine ⟨o2, fun q2 => cont s3 hS3 ⟨_, hC3⟩ (decide_eq_false (fun w => ?_)), fun q2 => ?_⟩
    · rw [o1, if_pos ⟨by omega, w.1⟩] at q2
      exact absurd q2 (by decide)
    · have h10 : N 10 c = 1 := by
        by_cases w : N 10 c = 1
        · exact w
        · rw [o1, if_neg (fun v => w v.2)] at q2; exact absurd rfl q2
      refine T_binds hN3 hC3 (by rw [up_c (by decide)]; exact hx) (fun s7 hC7 hS7 => ?_)
      have hS7' := hS3.trans (Same_pl hS7)
      by_cases w : sm (up N 6 x (c : Int)) 20 5 x = -1
      · rw [if_pos w]
        refine ⟨fun _ => ?_, fun v => absurd rfl v⟩
        have : stV N x = (c : Int) := fstB_some (decide_eq_true ⟨h10, w⟩) hf _ (by omega)
        rw [← this]
        exact k s7 hS7'
      · rw [if_neg w]
        exact ⟨fun v => absurd v (by decide), fun _ => cont s7 hS7' ⟨_, hC7⟩ (decide_eq_false (fun v => w v.2))⟩
theorem T_mstand {N s : Sto} {x : Nat} {Q : Int → Sto → Prop} (hN : NOk N) (hC : NtM N s) (hx : (x : Int) < N 0 6) (k : ∀ t, NtM N t → Same DScr s t → Q (stV N x) t) : P_X12_standOf (x : Int) s Q := by
  have hx8 : x < 8 := by have := hN.2.1; omega
  have hc36 := hN.2.2.2.1
  obtain ⟨i1, i2, -, i4⟩ := ix3 (j := x) (by omega)
  have i3 := (i4 hx8).2
  obtain ⟨k1, k2, k3⟩ := hC.2.2.2.2.2.1 x hx
  unfold P_X12_standOf
  rw [i1, i2]
  refine ⟨i3, fun x2 e2 x3 e3 => ?_⟩
  have e2' : x2 = N 6 x := by rw [e2]; exact k1
  have e3' : x3 = N 0 1 - 1 := by rw [e3, hC.2.2.2.1]; exact w32_of (by clear i1; omega) (by clear i1; omega)
  obtain ⟨C, hC36⟩ := Int.eq_ofNat_of_zero_le hc36.1
  refine lp3 (L_X12_standOf_19 (x : Int) x2 _) (fun v y u => ∃ b : Nat, y = (b : Int) - 1 ∧ b ≤ C ∧ DnB (stF N x) b C v ∧ (∃ z, NtM (up N 6 x z) u) ∧ Same DScr s u) (fun _ y _ => (y + 1).toNat) ?_ (-1) x3 s ⟨C, by rw [e3', hC36], Nat.le_refl _, DnB_n, ⟨N 6 x, by rw [up_self]; exact hC⟩, Same.rfl'⟩
  intro n v y u ⟨b, hy, hb, hv, ⟨z, hCu⟩, hSu⟩ ih
  subst hy
  unfold L_X12_standOf_19
  rw [i1, i2]
  clear i1
  refine ⟨fun c => ⟨i3, fun s7 e7 => ?_⟩, fun c => ?_⟩
  · have : b = 0 := by omega
    subst this
    have hval : v = stV N x := by
      unfold stV
      rw [hC36, Int.toNat_natCast]
      exact DnB_0 hv (fun j q => absurd q (Nat.not_lt_zero j))
    rw [hval]
    have hC7 := NtM_thing (x := x) (z := x2) hCu
    rw [up_up, e2', up_self, ← e2', ← e7] at hC7
    exact k s7 hC7 (by rw [e7]; exact hSu.up (by unfold DScr; omega))
  · obtain ⟨m, rfl⟩ : ∃ m, b = m + 1 := ⟨b - 1, by omega⟩
    have em : ((m + 1 : Nat) : Int) - 1 = (m : Int) := by omega
    have e7 := hCu.2.2.2.2.2.2.2.1 m (by rw [up_c (by decide)]; omega)
    rw [up_c (by decide)] at e7
    have hwm : w32 ((m : Int) + (-1)) = (m : Int) - 1 := by rw [w32_of (by omega) (by omega)]; omega
    rw [em, Int.toNat_natCast, e7, hwm]
    clear hwm
    have h01 := hN.2.2.2.2.2.2.2.2.1 m
    refine ⟨⟨by omega, by omega⟩, fun q => ⟨i3, fun s5 e5 => ?_⟩, fun q => ?_⟩
    · have h10 : N 10 m = 1 := by omega
      have hC5 := NtM_thing (x := x) (z := (m : Int)) hCu
      rw [up_up, ← e5] at hC5
      have hN5 : NOk (up N 6 x (m : Int)) := NOk_up hN (by unfold lgl; omega)
      refine T_lives hN5 hC5 (fun s6 hP6 _ hS6 => ⟨inb8 hx8, fun x9 e9 => ?_⟩)
      have h5 : s6 85 x = sm (up N 6 x (m : Int)) 20 5 x := (hP6.2.1 x (by rw [up_c (by decide)]; exact hx)).1
      rw [Int.toNat_natCast, h5] at e9
      refine ih _ _ _ ⟨m, rfl, by omega, DnB_s hv (by omega) (fun w => ?_) (fun w => ?_), ⟨_, NtM_cg hC5 hS6⟩, ?_⟩ (by omega)
      · have := of_decide_eq_true w
        rw [e9, if_pos this.2]
      · have := of_decide_eq_false w
        rw [e9, if_neg (fun v => this ⟨h10, v⟩)]
      · refine Same.trans ?_ (Same_Ml hS6)
        rw [e5]; exact hSu.up (by unfold DScr; omega)
    · refine ih _ _ _ ⟨m, rfl, by omega, DnB_s hv (by omega) (fun w => ?_) (fun _ => rfl), ⟨z, hCu⟩, hSu⟩ (by omega)
      have := (of_decide_eq_true w).1
      omega
theorem R_stand {v1 : Int} {s : Sto} (h : Rel s) : P_X11_stand v1 s (fun r s1 => P_X12_stand v1 s1 (fun r2 s2 => r2 = r ∧ Rel s2)) := by
  have hN := tN_ok h
  unfold P_X11_stand
  refine ⟨fun q => ?_, fun q1 => ?_⟩
  · unfold P_X12_stand
    refine T_findR h rfl (fun t t1 t2 t3 t4 t5 t6 => ?_)
    exact ⟨fun _ => ⟨rfl, t1⟩, fun q1 => absurd (yy (isTM hN t2) q1) ((isTC h).mp q)⟩
  have c1 := yy (isTC h) q1
  obtain ⟨x, rfl⟩ := Int.eq_ofNat_of_zero_le c1.1
  refine T_cstand hN tN_NtC c1.2 (fun t hSt => ?_)
  obtain ⟨hRt, eNt⟩ := Rel_sc h hSt
  unfold P_X12_stand
  refine T_findR hRt eNt (fun u u1 u2 u3 u4 u5 u6 => ?_)
  exact ⟨fun q => absurd q (nn (isTM hN u2) c1), fun _ => T_mstand hN u2 c1.2 (fun w w1 w2 => ⟨rfl, (Rel_sc u1 w2).1⟩)⟩
