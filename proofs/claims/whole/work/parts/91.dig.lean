/-! ===== the digest ===== -/
/-- what the seeking calls may change, the weights aside -/
def DSq (a _b : Nat) : Prop := 44 ≤ a ∧ a ≤ 65
theorem DSq_sc {s t : Sto} (h : Same DSq s t) : Same DScr s t := h.mono (fun a b q => by unfold DSq at q; unfold DScr; omega)
theorem Same_trq {s t : Sto} (h : Same (fun a _ => 44 ≤ a ∧ a ≤ 53) s t) : Same DSq s t := h.mono (fun a b q => by unfold DSq; omega)
theorem Same_plq {s t : Sto} (h : Same (DPl 54) s t) : Same DSq s t := h.mono (fun a b q => by unfold DSq; unfold DPl at q; omega)
theorem DSq_tr {s t : Sto} {a b : Nat} {z : Int} (h : Same DSq s t) (ha : 44 ≤ a ∧ a ≤ 65) : Same DSq s (up t a b z) := h.up (by unfold DSq; omega)
theorem Same_63q {s t : Sto} (h : Same (fun x _ => x = 63) s t) : Same DSq s t := h.mono (fun a b q => by unfold DSq; omega)
theorem NtC6_sq {N s t : Sto} (h : NtC N 6 s) (hS : Same DSq s t) : NtC N 6 t := NtC6_sc h (DSq_sc hS)
theorem T_cstandq {N s : Sto} {x : Nat} {Q : Int → Sto → Prop} (hN : NOk N) (hC : NtC N 6 s) (hx : (x : Int) < N 0 6) (k : ∀ t, Same DSq s t → Q (stV N x) t) : P_X5_safeCell (x : Int) s Q := by
  have hx8 : x < 8 := by have := hN.2.1; omega
  have hc36 := hN.2.2.2.1
  unfold P_X5_safeCell
  refine T_becomes hN hC (fun t hCt hSt => ?_)
  refine lp2 (L_X5_safeCell_13 (x : Int) _ _) (fun y u => ∃ c : Nat, y = (c : Int) ∧ c ≤ (N 0 1).toNat ∧ (∃ z, NtC (up N 6 x z) 44 u) ∧ (∀ j, j < c → stF N x j = false) ∧ Same DSq s u) (fun y _ => (37 - y).toNat) ?_ 0 t ⟨0, rfl, by omega, ⟨N 6 x, by rw [up_self]; exact hCt⟩, fun j q => absurd q (Nat.not_lt_zero j), Same_trq hSt⟩
  intro n y u ⟨c, hy, hc, ⟨z, hCu⟩, hf, hSu⟩ ih
  subst hy
  have e3 : u 3 0 = N 0 1 := by rw [hCu.2.2.2.1, up_c (by decide)]
  unfold L_X5_safeCell_13
  rw [e3, Int.toNat_natCast]
  refine ⟨fun q => ?_, fun q => ⟨inb8 hx8, fun s3 es3 => ?_⟩⟩
  · have : c = (N 0 1).toNat := by omega
    subst this
    rw [show (-1 : Int) = stV N x from (fstB_none _ hf).symm]
    exact k u hSu
  · have hcc : (c : Int) < N 0 1 := by omega
    have hw := ixp (b := c) (by omega)
    have hmu : (37 - ((c + 1 : Nat) : Int)).toNat < (37 - (c : Int)).toNat := by omega
    rw [hw]
    clear hw
    have hC3 : NtC (up N 6 x (c : Int)) 44 s3 := by
      have := NtC_up (a := 6) (b := x) (z := (c : Int)) hCu (by omega)
      rw [up_up] at this
      rw [es3]
      exact this
    have hN3 : NOk (up N 6 x (c : Int)) := NOk_up hN (by unfold lgl; omega)
    have hS3 : Same DSq s s3 := by rw [es3]; exact DSq_tr hSu (by omega)
    have e10 : up N 6 x (c : Int) 10 c = N 10 c := up_c (by decide)
    obtain ⟨o1, o2⟩ := isOpen_v (u := s3) (z := (c : Int)) hN3 hC3.2.2.2.1 hC3.2.2.2.2.2.2.2.1
    rw [Int.toNat_natCast, e10] at o1
    have cont : ∀ v, Same DSq s v → (∃ z, NtC (up N 6 x z) 44 v) → stF N x c = false → L_X5_safeCell_13 (x : Int) (fun x3 s4 => Q x3 s4) (fun s5 => Q (-1) s5) n ((c + 1 : Nat) : Int) v := by
      intro v hSv hCv hfc
      refine ih _ _ ⟨c + 1, rfl, by omega, hCv, fun j hj => ?_, hSv⟩ hmu
      by_cases w : j = c
      · rw [w]; exact hfc
      · exact hf j (by omega)
    refine ⟨o2, fun q2 => cont s3 hS3 ⟨_, hC3⟩ (decide_eq_false (fun w => ?_)), fun q2 => ?_⟩
    · rw [o1, if_pos ⟨by omega, w.1⟩] at q2
      exact absurd q2 (by decide)
    · have h10 : N 10 c = 1 := by
        by_cases w : N 10 c = 1
        · exact w
        · rw [o1, if_neg (fun v => w v.2)] at q2; exact absurd rfl q2
      refine T_binds hN3 hC3 (by rw [up_c (by decide)]; exact hx) (fun s7 hC7 hS7 => ?_)
      have hS7' := hS3.trans (Same_plq hS7)
      by_cases w : sm (up N 6 x (c : Int)) 20 5 x = -1
      · rw [if_pos w]
        refine ⟨fun _ => ?_, fun v => absurd rfl v⟩
        have : stV N x = (c : Int) := fstB_some (decide_eq_true ⟨h10, w⟩) hf _ (by omega)
        rw [← this]
        exact k s7 hS7'
      · rw [if_neg w]
        exact ⟨fun v => absurd v (by decide), fun _ => cont s7 hS7' ⟨_, hC7⟩ (decide_eq_false (fun v => w v.2))⟩
theorem T_chushq {N s : Sto} {x : Nat} {Q : Int → Sto → Prop} (hN : NOk N) (hC : NtC N 6 s) (hx : (x : Int) < N 0 6) (k : ∀ t, Few3 (hsT N x) t → Same DSq s t → Q 0 t) : P_X5_seekHush (x : Int) s Q := by
  obtain ⟨n1, n2, n3⟩ := nR8 hN
  unfold P_X5_seekHush
  refine T_becomes hN hC (fun t hCt hSt => ?_)
  have hSt' := Same_trq hSt
  refine T_binds hN hCt hx (fun s3 hC3 hS3 => ?_)
  have hS3' := hSt'.trans (Same_plq hS3)
  by_cases c0 : sm N 20 5 x = -1
  · rw [if_pos c0]
    refine ⟨fun _ s6 e6 => ?_, fun q => absurd rfl q⟩
    obtain ⟨f1, f2⟩ := few_v e6
    exact k s6 (by unfold hsT; rw [trip_0 c0]; exact f1) (hS3'.trans (Same_63q f2))
  rw [if_neg c0]
  refine ⟨fun q => absurd q (by decide), fun _ => ?_⟩
  refine lp2 (L_X5_seekHush_32 (x : Int) _ _) (fun y u => ∃ a : Nat, y = (a : Int) ∧ a ≤ nR N ∧ NtC N 44 u ∧ (∀ j, j < a → hsF N x j = false) ∧ Same DSq s u) (fun y _ => (9 - y).toNat) ?_ 0 s3 ⟨0, rfl, Nat.zero_le _, hC3, fun j q => absurd q (Nat.not_lt_zero j), hS3'⟩
  intro n y u ⟨a, hy, ha, hCu, hf, hSu⟩ ih
  subst hy
  have hw := (ix3 (Nat.le_trans ha n1)).2.2.1
  have hmu := mu9 (Nat.le_trans ha n1)
  unfold L_X5_seekHush_32
  rw [hCu.1, Int.toNat_natCast, hw]
  clear hw
  refine ⟨fun c => ?_, fun c => ?_⟩
  · -- pairs
    have q := n2 a ha c
    subst q
    refine lp2 (L_X5_seekHush_99 (x : Int) _ _) (fun y u => ∃ a : Nat, y = (a : Int) ∧ a ≤ nR N ∧ NtC N 44 u ∧ (∀ i j, i < a → hsG N x i j = false) ∧ Same DSq s u) (fun y _ => (9 - y).toNat) ?_ 0 u ⟨0, rfl, Nat.zero_le _, hCu, fun i j q => absurd q (Nat.not_lt_zero i), hSu⟩
    intro n y u ⟨a, hy, ha, hCu, hg, hSu⟩ ih2
    subst hy
    have hw := (ix3 (Nat.le_trans ha n1)).2.2.1
    have hmu := mu9 (Nat.le_trans ha n1)
    unfold L_X5_seekHush_99
    rw [hCu.1, Int.toNat_natCast, hw]
    clear hw
    refine ⟨fun c => ?_, fun c => ?_⟩
    · have q := n2 a ha c
      subst q
      intro s16 e16
      obtain ⟨f1, f2⟩ := few_v e16
      refine k s16 ?_ (hSu.trans (Same_63q f2))
      unfold hsT
      rw [trip_n c0 hf (fun i j _ _ => ?_)]
      · exact f1
      · cases q : hsG N x i j with
        | false => rfl
        | true =>
          have := of_decide_eq_true q
          rw [hg i j (by omega)] at q
          exact absurd q Bool.false_ne_true
    · obtain ⟨a8, har, a1⟩ := n3 a ha c
      refine ⟨inb8 a8, fun s4 e4 x4 ex4 => ?_⟩
      subst ex4
      have hCa : NtC (up N 1 a 20) 44 s4 := by
        have := NtC_up (a := 1) (b := a) (z := 20) hCu (by omega)
        rw [e4]
        exact this
      have hSa : Same DSq s s4 := by rw [e4]; exact DSq_tr hSu (by omega)
      refine lp2 (L_X5_seekHush_125 (x : Int) (a : Int) _ _) (fun y u => ∃ b : Nat, y = (b : Int) ∧ a < b ∧ b ≤ nR N ∧ NtC (up N 1 a 20) 44 u ∧ (∀ j, j < b → hsG N x a j = false) ∧ Same DSq s u) (fun y _ => (9 - y).toNat) ?_ ((a + 1 : Nat) : Int) s4 ⟨a + 1, rfl, by omega, a1, hCa, fun j hj => decide_eq_false (by omega), hSa⟩
      intro m y v ⟨b, hy, hab, hb, hCv, hgb, hSv⟩ ih3
      subst hy
      have hwb := (ix3 (Nat.le_trans hb n1)).2.2.1
      have hmub := mu9 (Nat.le_trans hb n1)
      unfold L_X5_seekHush_125
      have e44 : v 44 0 = N 0 0 := by rw [hCv.1, up_c (by decide)]
      rw [e44, Int.toNat_natCast, hwb]
      clear hwb
      refine ⟨fun c => ?_, fun c => ?_⟩
      · have q := n2 b hb c
        subst q
        refine ⟨inb8 a8, inb8 a8, fun s10 e10 => ?_⟩
        have h7 : v 7 a = N 1 a := (NtC6_sq hC hSv).2.2.2.2.1 a har |>.1
        rw [h7] at e10
        refine ih2 _ _ ⟨a + 1, rfl, a1, ?_, fun i j hi => ?_, by rw [e10]; exact DSq_tr hSv (by omega)⟩ hmu
        · have := NtC_up (a := 1) (b := a) (z := N 1 a) hCv (by omega)
          rw [up_up, up_self] at this
          rw [e10]
          exact this
        · by_cases w : i = a
          · rw [w]
            rcases Nat.lt_or_ge j (nR N) with w2 | w2
            · exact hgb j w2
            · exact decide_eq_false (by omega)
          · exact hg i j (by omega)
      · obtain ⟨b8, hbr, b1⟩ := n3 b hb c
        refine ⟨inb8 b8, fun s5 e5 => ?_⟩
        have hCb : NtC (up (up N 1 a 20) 1 b 20) 44 s5 := by
          have := NtC_up (a := 1) (b := b) (z := 20) hCv (by omega)
          rw [e5]
          exact this
        have hSb : Same DSq s s5 := by rw [e5]; exact DSq_tr hSv (by omega)
        refine T_binds (NOk_1 (NOk_1 hN)) hCb (by rw [up_c (by decide), up_c (by decide)]; exact hx) (fun s6 hC6 hS6 => ?_)
        have hS6' := hSb.trans (Same_plq hS6)
        by_cases w : sm (up (up N 1 a 20) 1 b 20) 20 5 x = -1
        · rw [if_pos w]
          refine ⟨fun _ s14 e14 => ?_, fun v => absurd rfl v⟩
          obtain ⟨f1, f2⟩ := few_v e14
          refine k s14 ?_ (hS6'.trans (Same_63q f2))
          unfold hsT
          rw [trip_2 c0 hf a8 b8 (decide_eq_true ⟨hab, by omega, w⟩) (fun i j _ _ q => ?_)]
          · exact f1
          · rcases q with q | ⟨q1, q2⟩
            · exact hg i j q
            · rw [q1]; exact hgb j q2
        · rw [if_neg w]
          refine ⟨fun v => absurd v (by decide), fun _ => ⟨inb8 b8, inb8 b8, fun s9 e9 => ?_⟩⟩
          have h7 : s6 7 b = N 1 b := (NtC6_sq hC hS6').2.2.2.2.1 b hbr |>.1
          rw [h7] at e9
          refine ih3 _ _ ⟨b + 1, rfl, by omega, b1, ?_, fun j hj => ?_, by rw [e9]; exact DSq_tr hS6' (by omega)⟩ hmub
          · have := NtC_up (a := 1) (b := b) (z := N 1 b) hC6 (by omega)
            rw [up_up] at this
            have e1 : up (up N 1 a 20) 1 b (N 1 b) = up N 1 a 20 := by
              have : N 1 b = up N 1 a 20 1 b := (up_j (by omega)).symm
              rw [this, up_self]
            rw [e1] at this
            rw [e9]
            exact this
          · by_cases v : j = b
            · rw [v]; exact decide_eq_false (fun q => w q.2.2)
            · exact hgb j (by omega)
  · obtain ⟨a8, har, a1⟩ := n3 a ha c
    refine ⟨inb8 a8, fun s4 e4 => ?_⟩
    have hCa : NtC (up N 1 a 20) 44 s4 := by
      have := NtC_up (a := 1) (b := a) (z := 20) hCu (by omega)
      rw [e4]
      exact this
    have hSa : Same DSq s s4 := by rw [e4]; exact DSq_tr hSu (by omega)
    refine T_binds (NOk_1 hN) hCa (by rw [up_c (by decide)]; exact hx) (fun s6 hC6 hS6 => ?_)
    have hS6' := hSa.trans (Same_plq hS6)
    by_cases w : sm (up N 1 a 20) 20 5 x = -1
    · rw [if_pos w]
      refine ⟨fun _ s9 e9 => ?_, fun v => absurd rfl v⟩
      obtain ⟨f1, f2⟩ := few_v e9
      refine k s9 ?_ (hS6'.trans (Same_63q f2))
      unfold hsT
      rw [trip_1 c0 (by omega : a < nR N) (decide_eq_true w) hf]
      exact f1
    · rw [if_neg w]
      refine ⟨fun v => absurd v (by decide), fun _ => ⟨inb8 a8, inb8 a8, fun s9 e9 => ?_⟩⟩
      have h7 : s6 7 a = N 1 a := (NtC6_sq hC hS6').2.2.2.2.1 a har |>.1
      rw [h7] at e9
      refine ih _ _ ⟨a + 1, rfl, a1, ?_, fun j hj => ?_, by rw [e9]; exact DSq_tr hS6' (by omega)⟩ hmu
      · have := NtC_up (a := 1) (b := a) (z := N 1 a) hC6 (by omega)
        rw [up_up, up_self] at this
        rw [e9]
        exact this
      · by_cases v : j = a
        · rw [v]; exact decide_eq_false w
        · exact hf j (by omega)
