/-! ===== evenings by lots ===== -/
def nxS (z : Int) : Int := w32 (w32 (1103515245 * z) + 12345)
def lotV (z m : Int) : Int := w32 ((iUshr (nxS z) 16).tmod m)
theorem iU16 (x : Int) : 0 ≤ iUshr x 16 ∧ iUshr x 16 < 65536 := by
  unfold iUshr
  have e : ((Int32.ofInt x).toUInt32 >>> ((Int32.ofInt 16).toUInt32 &&& Int32.toUInt32 31)).toInt32.toBitVec.toNat < 65536 := by
    show ((Int32.ofInt x).toUInt32 >>> ((Int32.ofInt 16).toUInt32 &&& Int32.toUInt32 31)).toBitVec.toNat < 65536
    rw [UInt32.toBitVec_shiftRight]
    have es : (((Int32.ofInt 16).toUInt32 &&& Int32.toUInt32 31).toBitVec % 32).toNat = 16 := by decide
    show ((Int32.ofInt x).toUInt32.toBitVec >>> (((Int32.ofInt 16).toUInt32 &&& Int32.toUInt32 31).toBitVec % 32).toNat).toNat < 65536
    rw [es, BitVec.toNat_ushiftRight, Nat.shiftRight_eq_div_pow]
    have := (Int32.ofInt x).toUInt32.toBitVec.isLt
    omega
  have e2 : ((Int32.ofInt x).toUInt32 >>> ((Int32.ofInt 16).toUInt32 &&& Int32.toUInt32 31)).toInt32.toInt = ((((Int32.ofInt x).toUInt32 >>> ((Int32.ofInt 16).toUInt32 &&& Int32.toUInt32 31)).toInt32.toBitVec.toNat : Nat) : Int) := by
    show BitVec.toInt _ = _
    exact BitVec.toInt_eq_toNat_of_lt (by omega)
  rw [e2]
  omega
theorem lotV_rng {z m : Int} (hm : 0 < m) (hm2 : m < 1000) : 0 ≤ lotV z m ∧ lotV z m < m := by
  have h := iU16 (nxS z)
  have e : (iUshr (nxS z) 16).tmod m = (iUshr (nxS z) 16) % m := Int.tmod_eq_emod_of_nonneg h.1
  have h1 := Int.emod_nonneg (iUshr (nxS z) 16) (show m ≠ 0 by omega)
  have h2 := Int.emod_lt_of_pos (iUshr (nxS z) 16) hm
  unfold lotV
  rw [e, w32_of (by omega) (by omega)]
  exact ⟨h1, h2⟩
def pshN (E : Sto) (i : Nat) (a b c d e : Int) : Sto := up (up (up (up (up (up E 1 i a) 2 i b) 3 i c) 4 i d) 5 i e) 0 0 ((i : Int) + 1)
theorem pshN_o {E : Sto} {i : Nat} {a b c d e : Int} {x y : Nat} (h : ¬ ((1 ≤ x ∧ x ≤ 5) ∧ y = i)) (h0 : ¬ (x = 0 ∧ y = 0)) : pshN E i a b c d e x y = E x y := by
  unfold pshN
  rw [up_c2 h0, up_c2 (by omega), up_c2 (by omega), up_c2 (by omega), up_c2 (by omega), up_c2 (by omega)]
theorem pshN_i {E : Sto} {i : Nat} {a b c d e : Int} : pshN E i a b c d e 1 i = a ∧ pshN E i a b c d e 2 i = b ∧ pshN E i a b c d e 3 i = c ∧ pshN E i a b c d e 4 i = d ∧ pshN E i a b c d e 5 i = e ∧ pshN E i a b c d e 0 0 = (i : Int) + 1 := by
  unfold pshN
  refine ⟨?_, ?_, ?_, ?_, ?_, up_at⟩
  · rw [up_c (by decide), up_c (by decide), up_c (by decide), up_c (by decide), up_c (by decide), up_at]
  · rw [up_c (by decide), up_c (by decide), up_c (by decide), up_c (by decide), up_at]
  · rw [up_c (by decide), up_c (by decide), up_c (by decide), up_at]
  · rw [up_c (by decide), up_c (by decide), up_at]
  · rw [up_c (by decide), up_at]
theorem NOk_psh {E : Sto} {i : Nat} {a b c d e : Int} (h : NOk E) (hi : E 0 0 = (i : Int)) (i8 : i < 8) (ha : 0 ≤ a ∧ a ≤ 20) (hb : 0 ≤ b ∧ b ≤ 35) (hc : 0 ≤ c ∧ c ≤ 3) (hd : 1 ≤ d ∧ d ≤ 9) (he : 0 ≤ e ∧ e ≤ 3) : NOk (pshN E i a b c d e) := by
  obtain ⟨h1, h2, h3, h4, h5, h6, h7, h8, h9, h10⟩ := h
  obtain ⟨p1, p2, p3, p4, p5, p0⟩ := pshN_i (E := E) (i := i) (a := a) (b := b) (c := c) (d := d) (e := e)
  refine ⟨by rw [p0]; omega, by rw [pshN_o (by omega) (by omega)]; exact h2, by rw [pshN_o (by omega) (by omega)]; exact h3, by rw [pshN_o (by omega) (by omega)]; exact h4, fun r hr => ?_, fun t ht => ?_, fun k hk => ?_, fun j hj => ?_, fun c' => ?_, fun c' hc' => ?_⟩
  · rw [p0] at hr
    by_cases q : r = i
    · subst q
      rw [p1, p2, p3, p4, p5]
      exact ⟨ha, hb, hc, hd, he⟩
    · rw [pshN_o (by omega) (by omega), pshN_o (by omega) (by omega), pshN_o (by omega) (by omega), pshN_o (by omega) (by omega), pshN_o (by omega) (by omega)]
      exact h5 r (by omega)
  · rw [pshN_o (by omega) (by omega)] at ht
    rw [pshN_o (by omega) (by omega), pshN_o (by omega) (by omega), pshN_o (by omega) (by omega)]
    exact h6 t ht
  · rw [pshN_o (by omega) (by omega)]; exact h7 k hk
  · rw [pshN_o (by omega) (by omega)] at hj; rw [pshN_o (by omega) (by omega), pshN_o (by omega) (by omega)]; exact h8 j hj
  · rw [pshN_o (by omega) (by omega)]; exact h9 c'
  · rw [pshN_o (by omega) (by omega)] at hc'; rw [pshN_o (by omega) (by omega)]; exact h10 c' hc'
theorem NtC_psh {E t : Sto} {i : Nat} {a b c d e : Int} (h : NtC E 44 t) (hi : E 0 0 = (i : Int)) : NtC (pshN E i a b c d e) 44 (up (up (up (up (up (up t (44 + 1) i a) (44 + 2) i b) (44 + 3) i c) (44 + 4) i d) (44 + 5) i e) 44 0 ((i : Int) + 1)) := by
  obtain ⟨h1, h2, h3, h4, h5, h6, h7, h8, h9⟩ := h
  obtain ⟨p1, p2, p3, p4, p5, p0⟩ := pshN_i (E := E) (i := i) (a := a) (b := b) (c := c) (d := d) (e := e)
  generalize hu : up (up (up (up (up (up t (44 + 1) i a) (44 + 2) i b) (44 + 3) i c) (44 + 4) i d) (44 + 5) i e) 44 0 ((i : Int) + 1) = u
  have f : ∀ x y, ¬ ((45 ≤ x ∧ x ≤ 49) ∧ y = i) → ¬ (x = 44 ∧ y = 0) → u x y = t x y := fun x y q1 q2 => by
    rw [← hu, up_c2 q2, up_c2 (by omega), up_c2 (by omega), up_c2 (by omega), up_c2 (by omega), up_c2 (by omega)]
  refine ⟨by rw [p0, ← hu, up_at], by rw [pshN_o (by omega) (by omega), f _ _ (by omega) (by omega)]; exact h2, by rw [pshN_o (by omega) (by omega), f _ _ (by omega) (by omega)]; exact h3, by rw [pshN_o (by omega) (by omega), f _ _ (by omega) (by omega)]; exact h4, fun r hr => ?_, fun x hx => ?_, fun k hk => ?_, fun c' hc => ?_, fun j hj => ?_⟩
  · rw [p0] at hr
    by_cases q : r = i
    · subst q
      rw [p1, p2, p3, p4, p5, ← hu]
      refine ⟨?_, ?_, ?_, ?_, ?_⟩
      · rw [up_c (by decide), up_c (by decide), up_c (by decide), up_c (by decide), up_c (by decide), up_at]
      · rw [up_c (by decide), up_c (by decide), up_c (by decide), up_c (by decide), up_at]
      · rw [up_c (by decide), up_c (by decide), up_c (by decide), up_at]
      · rw [up_c (by decide), up_c (by decide), up_at]
      · rw [up_c (by decide), up_at]
    · rw [pshN_o (by omega) (by omega), pshN_o (by omega) (by omega), pshN_o (by omega) (by omega), pshN_o (by omega) (by omega), pshN_o (by omega) (by omega), f _ _ (by omega) (by omega), f _ _ (by omega) (by omega), f _ _ (by omega) (by omega), f _ _ (by omega) (by omega), f _ _ (by omega) (by omega)]
      exact h5 r (by omega)
  · rw [pshN_o (by omega) (by omega)] at hx
    rw [pshN_o (by omega) (by omega), pshN_o (by omega) (by omega), pshN_o (by omega) (by omega), f _ _ (by omega) (by omega), f _ _ (by omega) (by omega), f _ _ (by omega) (by omega)]
    exact h6 x hx
  · rw [pshN_o (by omega) (by omega), f _ _ (by omega) (by omega)]; exact h7 k hk
  · rw [pshN_o (by omega) (by omega)] at hc
    rw [pshN_o (by omega) (by omega), f _ _ (by omega) (by omega)]; exact h8 c' hc
  · rw [pshN_o (by omega) (by omega), f _ _ (by omega) (by omega)]; exact h9 j hj
theorem NtM_psh {E t : Sto} {i : Nat} {a b c d e : Int} (h : NtM E t) (hi : E 0 0 = (i : Int)) (h0 : t 69 25 = 0) : NtM (pshN E i a b c d e) (up (up (up (up (up (up t 79 (5 * i) a) 79 (5 * i + 1) b) 79 (5 * i + 2) c) 79 (5 * i + 3) d) 79 (5 * i + 4) e) 69 14 ((i : Int) + 1)) := by
  obtain ⟨h1, h2, h3, h4, h5, h6, h7, h8, h9⟩ := h
  obtain ⟨p1, p2, p3, p4, p5, p0⟩ := pshN_i (E := E) (i := i) (a := a) (b := b) (c := c) (d := d) (e := e)
  generalize hu : up (up (up (up (up (up t 79 (5 * i) a) 79 (5 * i + 1) b) 79 (5 * i + 2) c) 79 (5 * i + 3) d) 79 (5 * i + 4) e) 69 14 ((i : Int) + 1) = u
  have f : ∀ x y, ¬ (x = 79 ∧ 5 * i ≤ y ∧ y < 5 * i + 5) → ¬ (x = 69 ∧ y = 14) → u x y = t x y := fun x y q1 q2 => by
    rw [← hu, up_c2 q2, up_c2 (by omega), up_c2 (by omega), up_c2 (by omega), up_c2 (by omega), up_c2 (by omega)]
  have e76 : u 76 = t 76 := funext (fun y => f 76 y (by omega) (by omega))
  refine ⟨by rw [p0, ← hu, up_at], by rw [pshN_o (by omega) (by omega), f _ _ (by omega) (by omega)]; exact h2, by rw [pshN_o (by omega) (by omega), f _ _ (by omega) (by omega)]; exact h3, by rw [pshN_o (by omega) (by omega), f _ _ (by omega) (by omega)]; exact h4, fun r hr => ?_, fun x hx => ?_, fun k hk => ?_, fun c' hc => ?_, fun c' w hc hw => ?_⟩
  · rw [p0] at hr
    rw [f 69 25 (by omega) (by omega)]
    by_cases q : r = i
    · subst q
      rw [p1, p2, p3, p4, p5, ← hu, h0, ib_0]
      refine ⟨fun q => absurd q (by decide), fun _ => ?_, ?_, ?_, ?_, ?_⟩
      · rw [up_c (by decide), up_j (by omega), up_j (by omega), up_j (by omega), up_j (by omega), up_at]
      · rw [up_c (by decide), up_j (by omega), up_j (by omega), up_j (by omega), up_at]
      · rw [up_c (by decide), up_j (by omega), up_j (by omega), up_at]
      · rw [up_c (by decide), up_j (by omega), up_at]
      · rw [up_c (by decide), up_at]
    · rw [pshN_o (by omega) (by omega), pshN_o (by omega) (by omega), pshN_o (by omega) (by omega), pshN_o (by omega) (by omega), pshN_o (by omega) (by omega), f _ _ (by omega) (by omega), f _ _ (by omega) (by omega), f _ _ (by omega) (by omega), f _ _ (by omega) (by omega), f _ _ (by omega) (by omega)]
      exact h5 r (by omega)
  · rw [pshN_o (by omega) (by omega)] at hx
    rw [pshN_o (by omega) (by omega), pshN_o (by omega) (by omega), pshN_o (by omega) (by omega), f _ _ (by omega) (by omega), f _ _ (by omega) (by omega), f _ _ (by omega) (by omega)]
    exact h6 x hx
  · rw [pshN_o (by omega) (by omega), f 69 26 (by omega) (by omega), f _ _ (by omega) (by omega)]; exact h7 k hk
  · rw [pshN_o (by omega) (by omega)] at hc
    rw [pshN_o (by omega) (by omega), f _ _ (by omega) (by omega)]; exact h8 c' hc
  · rw [pshN_o (by omega) (by omega)] at hc
    rw [pshN_o (by omega) (by omega)]
    obtain ⟨g1, g2⟩ := beside_cg (c := (c' : Int)) (w := (w : Int)) (f 69 7 (by omega) (by omega)) (f 69 8 (by omega) (by omega)) e76
    obtain ⟨k1, k2⟩ := h9 c' w hc hw
    exact ⟨by rw [g1]; exact k1, g2 k2⟩
/-- the rings that lots tell: the night, the seed -/
def evR (N : Sto) (z : Int) : Nat → Sto × Int
  | 0 => (up N 0 0 0, z)
  | i + 1 => (pshN (evR N z i).1 i (i : Int) (lotV (evR N z i).2 (N 0 1)) (lotV (nxS (evR N z i).2) 4) (lotV (nxS (nxS (evR N z i).2)) 9 + 1) 0, nxS (nxS (nxS (evR N z i).2)))
theorem evR_s {N : Sto} {z : Int} {i : Nat} : (evR N z (i + 1)).1 = pshN (evR N z i).1 i (i : Int) (lotV (evR N z i).2 (N 0 1)) (lotV (nxS (evR N z i).2) 4) (lotV (nxS (nxS (evR N z i).2)) 9 + 1) 0 := rfl
theorem evR_ok {N : Sto} {z : Int} (hN : NOk N) : ∀ i : Nat, i ≤ 8 → (0 < N 0 1 ∨ i = 0) → NOk (evR N z i).1 ∧ (evR N z i).1 0 0 = (i : Int) ∧ (evR N z i).1 0 1 = N 0 1 ∧ (evR N z i).1 0 6 = N 0 6 := by
  intro i
  induction i with
  | zero =>
    intro _ _
    show NOk (up N 0 0 0) ∧ up N 0 0 0 0 0 = ((0 : Nat) : Int) ∧ up N 0 0 0 0 1 = N 0 1 ∧ up N 0 0 0 0 6 = N 0 6
    refine ⟨?_, up_at, up_j (by decide), up_j (by decide)⟩
    obtain ⟨h1, h2, h3, h4, h5, h6, h7, h8, h9, h10⟩ := hN
    have e : ∀ a x, a ≠ 0 ∨ x ≠ 0 → up N 0 0 0 a x = N a x := fun a x q => up_c2 (by omega)
    refine ⟨by rw [up_at]; decide, by rw [e _ _ (by omega)]; exact h2, by rw [e _ _ (by omega)]; exact h3, by rw [e _ _ (by omega)]; exact h4, fun r hr => ?_, fun t ht => ?_, fun k hk => ?_, fun j hj => ?_, fun c => ?_, fun c hc => ?_⟩
    · rw [up_at] at hr; omega
    · rw [e _ _ (by omega)] at ht
      rw [e _ _ (by omega), e _ _ (by omega), e _ _ (by omega)]; exact h6 t ht
    · rw [e _ _ (by omega)]; exact h7 k hk
    · rw [e _ _ (by omega), e _ _ (by omega)]; exact h8 j hj
    · rw [e _ _ (by omega)]; exact h9 c
    · rw [e _ _ (by omega)] at hc; rw [e _ _ (by omega)]; exact h10 c hc
  | succ i ih =>
    intro hi hc
    have hc' : 0 < N 0 1 := by omega
    have hc36 := hN.2.2.2.1
    obtain ⟨g1, g2, g3, g4⟩ := ih (by omega) (Or.inl hc')
    have r1 := lotV_rng (z := (evR N z i).2) (m := N 0 1) hc' (by omega)
    have r2 := lotV_rng (z := nxS (evR N z i).2) (m := 4) (by decide) (by decide)
    have r3 := lotV_rng (z := nxS (nxS (evR N z i).2)) (m := 9) (by decide) (by decide)
    refine ⟨NOk_psh g1 g2 (by omega) (by omega) (by omega) (by omega) (by omega) (by decide), ?_, ?_, ?_⟩
    · rw [evR_s, (pshN_i).2.2.2.2.2]; omega
    · rw [evR_s, pshN_o (by omega) (by omega)]; exact g3
    · rw [evR_s, pshN_o (by omega) (by omega)]; exact g4
def evK (N : Sto) (n : Nat) : Nat := if 0 < N 0 1 then n else 0
def bkn (N : Sto) : Int := cntB (fun r => decide (sm N 20 1 r = 3)) (nR N)
def evV (N : Sto) (z : Int) (n : Nat) (w : Int) : Int := if w = 0 then nbd (evR N z (evK N n)).1 else bkn (evR N z (evK N n)).1
theorem clot_v {s : Sto} {m : Int} (hm : 0 < m) : F_X0_lot m s = lotV (s 66 7) m ∧ S_X0_lot m s = up s 66 7 (nxS (s 66 7)) ∧ O_X0_lot m s := by
  unfold F_X0_lot S_X0_lot O_X0_lot lotV nxS
  rw [if_neg (by omega), if_neg (by omega), up_at]
  exact ⟨rfl, rfl, fun q => by omega, fun _ => ⟨by omega, trivial⟩⟩
theorem mlot_v {s : Sto} {m : Int} (hm : 0 < m) : F_X12_lot m s = lotV (s 69 30) m ∧ S_X12_lot m s = up s 69 30 (nxS (s 69 30)) ∧ O_X12_lot m s := by
  unfold F_X12_lot S_X12_lot O_X12_lot lotV nxS
  rw [up_at]
  exact ⟨rfl, rfl, by omega, trivial⟩
theorem w_b1 {z : Int} : w32 (lotV z 9 + 1) = lotV z 9 + 1 := by
  have r := lotV_rng (z := z) (m := 9) (by decide) (by decide)
  exact w32_of (by omega) (by omega)
theorem T_cbroken {N s : Sto} {Q : Int → Sto → Prop} (hN : NOk N) (hC : NtC N 44 s) (hP : ∀ r : Nat, (r : Int) < N 0 0 → s 55 r = sm N 20 1 r) (k : Q (bkn N) s) : P_X6_brokenRings 54 44 s Q := by
  obtain ⟨n1, n2, n3⟩ := nR8 hN
  unfold P_X6_brokenRings
  refine lp2 (L_X6_brokenRings_4 54 44 s _) (fun x y => ∃ i : Nat, y = (i : Int) ∧ i ≤ nR N ∧ x = cntB (fun r => decide (sm N 20 1 r = 3)) i) (fun _ y => (9 - y).toNat) ?_ 0 0 ⟨0, rfl, Nat.zero_le _, rfl⟩
  intro n x y ⟨i, hy, hi, hx⟩ ih
  subst hy
  have hw := (ix3 (Nat.le_trans hi n1)).2.2.1
  have hmu := mu9 (Nat.le_trans hi n1)
  unfold L_X6_brokenRings_4
  rw [hC.1, Int.toNat_natCast, hw]
  clear hw
  refine ⟨fun c => ?_, fun c => ?_⟩
  · have q := n2 i hi c
    subst q
    rw [hx]
    exact k
  · obtain ⟨i8, it, i1⟩ := n3 i hi c
    have e1 : s (54 + 1) i = sm N 20 1 i := hP i it
    have hcr := cntB_rng (fun r => decide (sm N 20 1 r = 3)) i
    rw [e1]
    refine ⟨inb8 i8, fun c2 => ih _ _ ⟨i + 1, rfl, i1, ?_⟩ hmu, fun c2 => ih _ _ ⟨i + 1, rfl, i1, ?_⟩ hmu⟩
    · rw [cntB_s, if_pos (decide_eq_true c2), hx]
      exact w32_of (by omega) (by omega)
    · rw [cntB_s, decide_eq_false c2, if_neg Bool.false_ne_true, hx, Int.add_zero]
theorem T_cevening {N s : Sto} {z : Int} {n : Nat} {Q : Int → Sto → Prop} (hN : NOk N) (hC : NtC N 6 s) (hn : n ≤ 8) (k : ∀ t, t 66 8 = evV N z n 0 → t 66 9 = evV N z n 1 → Same DScr s t → Q 0 t) : P_X0_playLots z (n : Int) s Q := by
  have hc36 := hN.2.2.2.1
  unfold P_X0_playLots
  intro s1 e1
  have hS1 : Same DScr s s1 := by rw [e1]; exact DScr_tr Same.rfl' (by omega)
  refine T_becomes hN (NtC6_sc hC hS1) (fun t hCt hSt s4 e4 => ?_)
  have hSt' := hS1.trans (Same_tr hSt)
  have hS4 : Same DScr s s4 := by rw [e4]; exact DScr_tr hSt' (by omega)
  have hC4 : NtC (up N 0 0 0) 44 s4 := by
    obtain ⟨h1, h2, h3, h4, h5, h6, h7, h8, h9⟩ := hCt
    have e : ∀ a x, a ≠ 0 ∨ x ≠ 0 → up N 0 0 0 a x = N a x := fun a x q => up_c2 (by omega)
    have f : ∀ a x, a ≠ 44 ∨ x ≠ 0 → s4 a x = t a x := fun a x q => by rw [e4, up_c2 (by omega)]
    exact ⟨by rw [e4, up_at, up_at], by rw [f _ _ (by omega), e _ _ (by omega)]; exact h2, by rw [f _ _ (by omega), e _ _ (by omega)]; exact h3, by rw [f _ _ (by omega), e _ _ (by omega)]; exact h4, fun r hr => by rw [up_at] at hr; omega, fun x hx => by rw [e _ _ (by omega)] at hx; rw [f _ _ (by omega), f _ _ (by omega), f _ _ (by omega), e _ _ (by omega), e _ _ (by omega), e _ _ (by omega)]; exact h6 x hx, fun k hk => by rw [f _ _ (by omega), e _ _ (by omega)]; exact h7 k hk, fun c hc => by rw [e _ _ (by omega)] at hc; rw [f _ _ (by omega), e _ _ (by omega)]; exact h8 c hc, fun i hi => by rw [f _ _ (by omega), e _ _ (by omega)]; exact h9 i hi⟩
  have e66 : s4 66 7 = z := by rw [e4, up_c (by decide), hSt _ _ (by omega), e1, up_at]
  -- the end
  have fin : ∀ u, NtC (evR N z (evK N n)).1 44 u → Same DScr s u → (P_X6_playAll 54 44 u (fun _ s6 => (∀ s8 : Sto, s8 = up s6 66 8 (s6 54 8) → (P_X6_brokenRings 54 44 s8 (fun r10 s9 => (∀ s11 : Sto, s11 = up s9 66 9 r10 → Q 0 s11)))))) := by
    intro u hCu hSu
    have hE := (evR_ok (z := z) hN (evK N n) (by unfold evK; split <;> omega) (by unfold evK; split <;> omega)).1
    refine T_playAll (Or.inr rfl) (Or.inr rfl) hE hCu (fun s6 hP6 hS6 s8 e8 => ?_)
    have hC6 := NtC_cg (Or.inr rfl) (Or.inr rfl) hCu hS6
    have hC8 := NtC_keep hC6 (fun a b q => show s8 a b = s6 a b by rw [e8, up_c (by omega)])
    refine T_cbroken hE hC8 (fun r hr => by rw [e8, up_c (by decide)]; exact (hP6.1 r hr).1) (fun s11 e11 => ?_)
    refine k s11 ?_ ?_ ?_
    · rw [e11, up_j (by decide), e8, up_at]
      unfold evV; rw [if_pos rfl]; exact hP6.2.2.1
    · rw [e11, up_at]
      unfold evV; rw [if_neg (by decide)]
    · rw [e11, e8]; exact DScr_tr (DScr_tr (hSu.trans (Same_pl hS6)) (by omega)) (by omega)
  refine lp2 (L_X0_playLots_26 (n : Int) _) (fun y u => ∃ i : Nat, y = (i : Int) ∧ i ≤ n ∧ (0 < N 0 1 ∨ i = 0) ∧ NtC (evR N z i).1 44 u ∧ u 66 7 = (evR N z i).2 ∧ Same DScr s u) (fun y _ => (9 - y).toNat) ?_ 0 s4 ⟨0, rfl, Nat.zero_le _, Or.inr rfl, hC4, e66, hS4⟩
  intro m y u ⟨i, hy, hi, hc, hCu, hz, hSu⟩ ih
  subst hy
  obtain ⟨g1, g2, g3, g4⟩ := evR_ok (z := z) hN i (by omega) hc
  have e3 : u 3 0 = N 0 1 := by rw [hCu.2.2.2.1, g3]
  unfold L_X0_playLots_26
  rw [e3]
  refine ⟨fun q => fin u ?_ hSu, fun q => ⟨fun q2 => fin u ?_ hSu, fun q2 => ?_⟩⟩
  · have : i = n := by omega
    subst this
    have : evK N i = i := by
      unfold evK
      rcases hc with w | w
      · rw [if_pos w]
      · rw [w]; split <;> rfl
    rw [this]
    exact hCu
  · have hi0 : i = 0 := hc.elim (fun w => by omega) id
    have : evK N n = i := by unfold evK; rw [if_neg (by omega), hi0]
    rw [this]
    exact hCu
  · have hc' : 0 < N 0 1 := by omega
    have hin : i < n := by omega
    have i8 : i < 8 := by omega
    have hmu := mu9 (j := i) (by omega)
    obtain ⟨l1, l2, l3⟩ := clot_v (s := u) hc'
    rw [l1, l2, (ix3 (j := i) (by omega)).2.2.1]
    refine ⟨l3, fun s5 e5 x5 ex5 => ?_⟩
    have z5 : s5 66 7 = nxS (evR N z i).2 := by rw [e5, up_at, hz]
    obtain ⟨l4, l5, l6⟩ := clot_v (s := s5) (m := 4) (by decide)
    rw [l4, l5, z5]
    refine ⟨l6, fun s7 e7 x8 ex8 => ?_⟩
    have z7 : s7 66 7 = nxS (nxS (evR N z i).2) := by rw [e7, up_at]
    obtain ⟨l7, l8, l9⟩ := clot_v (s := s7) (m := 9) (by decide)
    rw [l7, l8, z7, w_b1]
    refine ⟨l9, fun s10 e10 x11 ex11 => ?_⟩
    have ke : ∀ a b, a ≠ 66 → s10 a b = u a b := fun a b w => by rw [e10, up_c w, e7, up_c w, e5, up_c w]
    have hC10 := NtC_keep hCu (fun a b q => ke a b (by omega))
    obtain ⟨a1, a2⟩ := addRing_s (o := 44) (n := i) (a := (i : Int)) (b := x5) (c := x8) (d := x11) (e := 0) (s := s10) (by rw [hC10.1, g2]) i8
    refine ⟨a2, fun s13 e13 => ih _ _ ⟨i + 1, rfl, hin, Or.inl hc', ?_, ?_, ?_⟩ hmu⟩
    · rw [e13, a1, ex5, ex8, ex11, hz]
      exact NtC_psh hC10 g2
    · rw [e13, a1, up_c (by decide), up_c (by decide), up_c (by decide), up_c (by decide), up_c (by decide), up_c (by decide), e10, up_at]
      rfl
    · rw [e13, a1, e10, e7, e5]
      exact DScr_tr (DScr_tr (DScr_tr (DScr_tr (DScr_tr (DScr_tr (DScr_tr (DScr_tr (DScr_tr hSu (by omega)) (by omega)) (by omega)) (by omega)) (by omega)) (by omega)) (by omega)) (by omega)) (by omega)
