/-! ===== how many bits of a long ===== -/
theorem oi_bv (a : Nat) : (Int64.ofInt (a : Int)).toBitVec = BitVec.ofNat 64 a := BitVec.ofInt_natCast 64 a
theorem bv_int {X : Int64} {n : Nat} (h : X.toBitVec = BitVec.ofNat 64 n) (hn : n < 9223372036854775808) : X.toInt = (n : Int) := by
  show X.toBitVec.toInt = (n : Int)
  have e : (BitVec.ofNat 64 n).toNat = n := by rw [BitVec.toNat_ofNat]; exact Nat.mod_eq_of_lt (by omega)
  rw [h, BitVec.toInt_eq_toNat_of_lt (by rw [e]; omega), e]
theorem lA_nat {a b : Nat} (ha : a < 9223372036854775808) : lA (a : Int) (b : Int) = ((a &&& b : Nat) : Int) := by
  have hle : a &&& b ≤ a := Nat.and_le_left
  unfold lA
  refine bv_int ?_ (Nat.lt_of_le_of_lt hle ha)
  rw [Int64.toBitVec_and, oi_bv, oi_bv]
  apply BitVec.eq_of_getLsbD_eq
  intro i hi
  rw [BitVec.getLsbD_and, BitVec.getLsbD_ofNat, BitVec.getLsbD_ofNat, BitVec.getLsbD_ofNat, Nat.testBit_and, decide_eq_true hi, Bool.true_and, Bool.true_and, Bool.true_and]
theorem us_64 : ∀ n : Nat, n < 64 → (((Int32.ofInt (n : Int)).toInt64.toUInt64 &&& Int64.toUInt64 63).toBitVec % 64).toNat = n := by decide +kernel
theorem lU_nat {a k : Nat} (ha : a < 9223372036854775808) (hk : k < 64) : lUshr (a : Int) (k : Int) = ((a / 2 ^ k : Nat) : Int) := by
  have hle : a / 2 ^ k ≤ a := Nat.div_le_self _ _
  unfold lUshr
  refine bv_int ?_ (Nat.lt_of_le_of_lt hle ha)
  show ((Int64.ofInt (a : Int)).toUInt64 >>> ((Int32.ofInt (k : Int)).toInt64.toUInt64 &&& Int64.toUInt64 63)).toBitVec = _
  rw [UInt64.toBitVec_shiftRight]
  apply BitVec.eq_of_toNat_eq
  show ((Int64.ofInt (a : Int)).toBitVec >>> (((Int32.ofInt (k : Int)).toInt64.toUInt64 &&& Int64.toUInt64 63).toBitVec % 64).toNat).toNat = _
  rw [us_64 k hk, oi_bv, BitVec.toNat_ushiftRight, BitVec.toNat_ofNat, BitVec.toNat_ofNat, Nat.mod_eq_of_lt (show a < 2 ^ 64 by omega), Nat.mod_eq_of_lt (show a / 2 ^ k < 2 ^ 64 by omega), Nat.shiftRight_eq_div_pow]
def sA (M x : Nat) : Nat := x - ((x / 2) &&& M)
def sB (M x : Nat) : Nat := (x &&& M) + ((x / 4) &&& M)
def sD (M x : Nat) : Nat := (x + x / 16) &&& M
theorem and_lane {p q m M : Nat} (hp : p < 256) (hm : m < 256) : (p + 256 * q) &&& (m + 256 * M) = (p &&& m) + 256 * (q &&& M) := by
  have hpm : p &&& m < 2 ^ 8 := Nat.lt_of_le_of_lt Nat.and_le_left hp
  rw [show p + 256 * q = 2 ^ 8 * q + p by omega, show m + 256 * M = 2 ^ 8 * M + m by omega, show (p &&& m) + 256 * (q &&& M) = 2 ^ 8 * (q &&& M) + (p &&& m) by omega]
  apply Nat.eq_of_testBit_eq
  intro i
  rw [Nat.testBit_and, Nat.testBit_two_pow_mul_add q hp, Nat.testBit_two_pow_mul_add M hm, Nat.testBit_two_pow_mul_add _ hpm]
  split
  · rw [Nat.testBit_and]
  · rw [Nat.testBit_and]
theorem and_0 (M : Nat) : 0 &&& M = 0 := Nat.zero_and M
theorem lnA0 : ∀ b : Nat, b < 256 → ∀ r : Nat, r < 2 → (b / 2 + 128 * r) &&& 85 = (b / 2) &&& 85 := by decide +kernel
theorem lnA1 : ∀ b : Nat, b < 256 → (b / 2) &&& 85 ≤ b ∧ b - ((b / 2) &&& 85) < 256 := by decide +kernel
theorem lnB0 : ∀ b : Nat, b < 256 → ∀ r : Nat, r < 4 → (b / 4 + 64 * r) &&& 51 = (b / 4) &&& 51 := by decide +kernel
theorem lnD0 : ∀ b : Nat, b < 69 → ∀ r : Nat, r < 5 → (b + b / 16 + 16 * r) &&& 15 = (b + b / 16) &&& 15 := by decide +kernel
theorem laneA {b y M : Nat} (hb : b < 256) : sA (85 + 256 * M) (b + 256 * y) = sA 85 b + 256 * sA M y := by
  have e : (b + 256 * y) / 2 = (b / 2 + 128 * (y % 2)) + 256 * (y / 2) := by omega
  have h1 := lnA0 b hb (y % 2) (by omega)
  have h2 := (lnA1 b hb).1
  have h3 : (y / 2) &&& M ≤ y := Nat.le_trans Nat.and_le_left (Nat.div_le_self _ _)
  unfold sA
  rw [e, and_lane (by omega) (by decide), h1]
  omega
theorem laneB {b y M : Nat} (hb : b < 256) : sB (51 + 256 * M) (b + 256 * y) = sB 51 b + 256 * sB M y := by
  have e : (b + 256 * y) / 4 = (b / 4 + 64 * (y % 4)) + 256 * (y / 4) := by omega
  have h1 := lnB0 b hb (y % 4) (by omega)
  unfold sB
  rw [e, and_lane hb (by decide), and_lane (p := b / 4 + 64 * (y % 4)) (by omega) (by decide), h1]
  omega
theorem laneD {b y M : Nat} (hb : b < 69) (hy : y % 16 < 5) : sD (15 + 256 * M) (b + 256 * y) = sD 15 b + 256 * sD M y := by
  have e : (b + 256 * y) + (b + 256 * y) / 16 = (b + b / 16 + 16 * (y % 16)) + 256 * (y + y / 16) := by omega
  have h1 := lnD0 b hb (y % 16) hy
  unfold sD
  rw [e, and_lane (by omega) (by decide), h1]
theorem pcb : ∀ b : Nat, b < 256 → sA 85 b < 256 ∧ sB 51 (sA 85 b) < 69 ∧ sB 51 (sA 85 b) % 16 < 5 ∧ (sD 15 (sB 51 (sA 85 b)) : Nat) ≤ 8 ∧ ((sD 15 (sB 51 (sA 85 b)) : Nat) : Int) = cntB (fun t => b.testBit t) 8 := by decide +kernel
def pc8 (b : Nat) : Nat := sD 15 (sB 51 (sA 85 b))
theorem sA_0 (M : Nat) : sA M 0 = 0 := by unfold sA; rw [Nat.zero_sub]
theorem sB_0 (M : Nat) : sB M 0 = 0 := by unfold sB; rw [Nat.zero_div, and_0]
theorem sD_0 (M : Nat) : sD M 0 = 0 := by unfold sD; rw [Nat.zero_div, and_0]
/-- five bytes -/
theorem five {b0 b1 b2 b3 b4 : Nat} (h0 : b0 < 256) (h1 : b1 < 256) (h2 : b2 < 256) (h3 : b3 < 256) (h4 : b4 < 256) : sD 1085102592571150095 (sB 3689348814741910323 (sA 6148914691236517205 (b0 + 256 * (b1 + 256 * (b2 + 256 * (b3 + 256 * (b4 + 256 * 0))))))) = pc8 b0 + 256 * (pc8 b1 + 256 * (pc8 b2 + 256 * (pc8 b3 + 256 * (pc8 b4 + 256 * 0)))) := by
  obtain ⟨a0, c0, d0, -, -⟩ := pcb b0 h0
  obtain ⟨a1, c1, d1, -, -⟩ := pcb b1 h1
  obtain ⟨a2, c2, d2, -, -⟩ := pcb b2 h2
  obtain ⟨a3, c3, d3, -, -⟩ := pcb b3 h3
  obtain ⟨a4, c4, d4, -, -⟩ := pcb b4 h4
  rw [show (6148914691236517205 : Nat) = 85 + 256 * (85 + 256 * (85 + 256 * (85 + 256 * (85 + 256 * 5592405)))) from rfl, laneA h0, laneA h1, laneA h2, laneA h3, laneA h4, sA_0]
  rw [show (3689348814741910323 : Nat) = 51 + 256 * (51 + 256 * (51 + 256 * (51 + 256 * (51 + 256 * 3355443)))) from rfl, laneB a0, laneB a1, laneB a2, laneB a3, laneB a4, sB_0]
  rw [show (1085102592571150095 : Nat) = 15 + 256 * (15 + 256 * (15 + 256 * (15 + 256 * (15 + 256 * 986895)))) from rfl, laneD c0 (by omega), laneD c1 (by omega), laneD c2 (by omega), laneD c3 (by omega), laneD c4 (by omega), sD_0]
  rfl
theorem w64_nat {n : Nat} (h : n < 9223372036854775808) : w64 (n : Int) = (n : Int) := w64_of (by omega) (by omega)
theorem iA_127 : ∀ n : Nat, n < 128 → iA (n : Int) 127 = (n : Int) := by decide +kernel
theorem ofI_mod (n : Nat) : iA (w32 (n : Int)) 127 = iA (((n % 128 : Nat) : Int)) 127 := by
  unfold iA
  rw [ofw32]
  congr 1
  apply Int32.toBitVec_inj.mp
  have e : ∀ m : Nat, (Int32.ofInt (m : Int)).toBitVec = BitVec.ofNat 32 m := fun m => BitVec.ofInt_natCast 32 m
  have e127 : (Int32.ofInt 127).toBitVec = BitVec.ofNat 32 127 := e 127
  rw [Int32.toBitVec_and, Int32.toBitVec_and, e, e, e127]
  apply BitVec.eq_of_getLsbD_eq
  intro i hi
  rw [BitVec.getLsbD_and, BitVec.getLsbD_and, BitVec.getLsbD_ofNat, BitVec.getLsbD_ofNat, BitVec.getLsbD_ofNat, decide_eq_true hi, Bool.true_and, Bool.true_and, Bool.true_and, show n % 128 = n % 2 ^ 7 from rfl, Nat.testBit_mod_two_pow]
  by_cases c : i < 7
  · rw [decide_eq_true c, Bool.true_and]
  · rw [decide_eq_false c, Bool.false_and, Bool.false_and]
    have : (127 : Nat).testBit i = false := Nat.testBit_lt_two_pow (Nat.lt_of_lt_of_le (show 127 < 2 ^ 7 by decide) (Nat.pow_le_pow_right (by decide) (by omega)))
    rw [this, Bool.and_false]
theorem bits5 {f : Nat → Bool} {Z : Nat} (hZ : Z < 1099511627776) (h : ∀ i, i < 40 → Z.testBit i = f i) : ∃ b0 b1 b2 b3 b4 : Nat, (b0 < 256 ∧ b1 < 256 ∧ b2 < 256 ∧ b3 < 256 ∧ b4 < 256) ∧ Z = b0 + 256 * (b1 + 256 * (b2 + 256 * (b3 + 256 * (b4 + 256 * 0)))) ∧ cntB f 40 = (pc8 b0 : Int) + (pc8 b1 : Int) + (pc8 b2 : Int) + (pc8 b3 : Int) + (pc8 b4 : Int) := by
  refine ⟨Z % 256, Z / 256 % 256, Z / 65536 % 256, Z / 16777216 % 256, Z / 4294967296 % 256, ⟨by omega, by omega, by omega, by omega, by omega⟩, by omega, ?_⟩
  have key : ∀ j : Nat, j < 5 → cntB f (8 * j + 8) = cntB f (8 * j) + ((pc8 (Z / 2 ^ (8 * j) % 256) : Nat) : Int) := by
    intro j hj
    have hb : Z / 2 ^ (8 * j) % 256 < 256 := Nat.mod_lt _ (by decide)
    have e := (pcb _ hb).2.2.2.2
    show _ = _ + ((sD 15 (sB 51 (sA 85 (Z / 2 ^ (8 * j) % 256))) : Nat) : Int)
    rw [e]
    have g : ∀ t : Nat, t < 8 → (Z / 2 ^ (8 * j) % 256).testBit t = f (8 * j + t) := by
      intro t ht
      rw [show (256 : Nat) = 2 ^ 8 from rfl, Nat.testBit_mod_two_pow, decide_eq_true ht, Bool.true_and, Nat.testBit_div_two_pow, Nat.add_comm t, h _ (by omega)]
    have g2 : cntB (fun t => (Z / 2 ^ (8 * j) % 256).testBit t) 8 = cntB (fun t => f (8 * j + t)) 8 := cntB_cg 8 g
    rw [g2]
    have g3 : ∀ t : Nat, cntB f (8 * j + t) = cntB f (8 * j) + cntB (fun t => f (8 * j + t)) t := by
      intro t
      induction t with
      | zero => exact (Int.add_zero _).symm
      | succ t ih => rw [show 8 * j + (t + 1) = (8 * j + t) + 1 by omega, cntB_s, ih, cntB_s, Int.add_assoc]
    exact g3 8
  have k0 := key 0 (by decide)
  have k1 := key 1 (by decide)
  have k2 := key 2 (by decide)
  have k3 := key 3 (by decide)
  have k4 := key 4 (by decide)
  have z0 : cntB f (8 * 0) = 0 := rfl
  rw [show Z / 2 ^ (8 * 0) = Z by rw [show 2 ^ (8 * 0) = 1 from rfl, Nat.div_one]] at k0
  rw [show (2 : Nat) ^ (8 * 1) = 256 from rfl, show 8 * 1 = 8 * 0 + 8 from rfl] at k1
  rw [show (2 : Nat) ^ (8 * 2) = 65536 from rfl, show 8 * 2 = 8 * 0 + 8 + 8 from rfl] at k2
  rw [show (2 : Nat) ^ (8 * 3) = 16777216 from rfl, show 8 * 3 = 8 * 0 + 8 + 8 + 8 from rfl] at k3
  rw [show (2 : Nat) ^ (8 * 4) = 4294967296 from rfl, show 8 * 4 = 8 * 0 + 8 + 8 + 8 + 8 from rfl] at k4
  rw [show (40 : Nat) = 8 * 0 + 8 + 8 + 8 + 8 + 8 from rfl, k4, k3, k2, k1, k0, z0, Int.zero_add]
theorem lbc_nat {f : Nat → Bool} {Z : Nat} {s : Sto} (hZ : Z < 1099511627776) (h : ∀ i, i < 40 → Z.testBit i = f i) : F_J13_bitCount_95d88 (Z : Int) s = cntB f 40 := by
  obtain ⟨b0, b1, b2, b3, b4, ⟨h0, h1, h2, h3, h4⟩, hZe, hc⟩ := bits5 hZ h
  have hf := five h0 h1 h2 h3 h4
  rw [← hZe] at hf
  have p0 := (pcb b0 h0).2.2.2.1
  have p1 := (pcb b1 h1).2.2.2.1
  have p2 := (pcb b2 h2).2.2.2.1
  have p3 := (pcb b3 h3).2.2.2.1
  have p4 := (pcb b4 h4).2.2.2.1
  have q0 : pc8 b0 ≤ 8 := p0
  have q1 : pc8 b1 ≤ 8 := p1
  have q2 : pc8 b2 ≤ 8 := p2
  have q3 : pc8 b3 ≤ 8 := p3
  have q4 : pc8 b4 ≤ 8 := p4
  generalize hA : sA 6148914691236517205 Z = A at hf
  generalize hB : sB 3689348814741910323 A = B at hf
  generalize hD : sD 1085102592571150095 B = D at hf
  have lA1 : (Z / 2) &&& 6148914691236517205 ≤ Z := Nat.le_trans Nat.and_le_left (Nat.div_le_self _ _)
  have A1 : A ≤ Z := by rw [← hA]; unfold sA; omega
  have lB1 : A &&& 3689348814741910323 ≤ A := Nat.and_le_left
  have lB2 : (A / 4) &&& 3689348814741910323 ≤ A := Nat.le_trans Nat.and_le_left (Nat.div_le_self _ _)
  have B1 : B ≤ 2 * Z := by rw [← hB]; unfold sB; omega
  have eA : w64 ((Z : Int) - lA (lUshr (Z : Int) 1) 6148914691236517205) = (A : Int) := by
    have u : lUshr (Z : Int) 1 = ((Z / 2 : Nat) : Int) := lU_nat (k := 1) (by omega) (by decide)
    have v : lA ((Z / 2 : Nat) : Int) 6148914691236517205 = (((Z / 2) &&& 6148914691236517205 : Nat) : Int) := lA_nat (b := 6148914691236517205) (by omega)
    rw [u, v, ← hA]
    unfold sA
    rw [show (Z : Int) - (((Z / 2) &&& 6148914691236517205 : Nat) : Int) = ((Z - ((Z / 2) &&& 6148914691236517205) : Nat) : Int) by omega]
    exact w64_nat (by omega)
  have eB : w64 (lA (A : Int) 3689348814741910323 + lA (lUshr (A : Int) 2) 3689348814741910323) = (B : Int) := by
    have u : lUshr (A : Int) 2 = ((A / 4 : Nat) : Int) := lU_nat (k := 2) (by omega) (by decide)
    have v : lA ((A / 4 : Nat) : Int) 3689348814741910323 = (((A / 4) &&& 3689348814741910323 : Nat) : Int) := lA_nat (b := 3689348814741910323) (by omega)
    have v2 : lA (A : Int) 3689348814741910323 = ((A &&& 3689348814741910323 : Nat) : Int) := lA_nat (b := 3689348814741910323) (by omega)
    rw [u, v, v2, ← hB]
    unfold sB
    rw [← Int.natCast_add]
    exact w64_nat (by omega)
  have eD : lA (w64 ((B : Int) + lUshr (B : Int) 4)) 1085102592571150095 = (D : Int) := by
    have u : lUshr (B : Int) 4 = ((B / 16 : Nat) : Int) := lU_nat (k := 4) (by omega) (by decide)
    rw [u, ← Int.natCast_add, w64_nat (by omega), ← hD]
    unfold sD
    exact lA_nat (b := 1085102592571150095) (by omega)
  have hDv : D = pc8 b0 + 256 * pc8 b1 + 65536 * pc8 b2 + 16777216 * pc8 b3 + 4294967296 * pc8 b4 := by omega
  have eE : w64 ((D : Int) + lUshr (D : Int) 8) = ((D + D / 256 : Nat) : Int) := by
    have u : lUshr (D : Int) 8 = ((D / 256 : Nat) : Int) := lU_nat (k := 8) (by omega) (by decide)
    rw [u, ← Int.natCast_add]
    exact w64_nat (by omega)
  have hEv : D / 256 = pc8 b1 + 256 * pc8 b2 + 65536 * pc8 b3 + 16777216 * pc8 b4 := by omega
  generalize hE : D + D / 256 = E at eE
  have eF : w64 ((E : Int) + lUshr (E : Int) 16) = ((E + E / 65536 : Nat) : Int) := by
    have u : lUshr (E : Int) 16 = ((E / 65536 : Nat) : Int) := lU_nat (k := 16) (by omega) (by decide)
    rw [u, ← Int.natCast_add]
    exact w64_nat (by omega)
  have hE2 : E = (pc8 b0 + pc8 b1) + 256 * (pc8 b1 + pc8 b2) + 65536 * (pc8 b2 + pc8 b3) + 16777216 * (pc8 b3 + pc8 b4) + 4294967296 * pc8 b4 := by omega
  have hFv : E / 65536 = (pc8 b2 + pc8 b3) + 256 * (pc8 b3 + pc8 b4) + 65536 * pc8 b4 := by omega
  generalize hF : E + E / 65536 = F at eF
  have hF2 : F = (pc8 b0 + pc8 b1 + pc8 b2 + pc8 b3) + 256 * (pc8 b1 + pc8 b2 + pc8 b3 + pc8 b4) + 65536 * (pc8 b2 + pc8 b3 + pc8 b4) + 16777216 * (pc8 b3 + pc8 b4) + 4294967296 * pc8 b4 := by omega
  have hGv : F / 4294967296 = pc8 b4 := by omega
  have eG : w64 ((F : Int) + lUshr (F : Int) 32) = ((F + F / 4294967296 : Nat) : Int) := by
    have u : lUshr (F : Int) 32 = ((F / 4294967296 : Nat) : Int) := lU_nat (k := 32) (by omega) (by decide)
    rw [u, ← Int.natCast_add]
    exact w64_nat (by omega)
  have hmod : (F + F / 4294967296) % 128 = pc8 b0 + pc8 b1 + pc8 b2 + pc8 b3 + pc8 b4 := by omega
  unfold F_J13_bitCount_95d88
  rw [eA, eB, eD, eE, eF, eG, ofI_mod, hmod, iA_127 _ (by omega), hc]
  omega
theorem lbc_bits {f : Nat → Bool} {z : Int} {C : Nat} {s : Sto} (hz : r64 z) (hC : C ≤ 36) (h : ∀ c : Nat, c < 64 → lb z c = (decide (c < C) && f c)) : F_J13_bitCount_95d88 z s = cntB f C := by
  have hb : ∀ i : Nat, 40 ≤ i → (Int64.ofInt z).toBitVec.toNat.testBit i = false := by
    intro i hi
    rcases Nat.lt_or_ge i 64 with q | q
    · have := h i q
      rw [decide_eq_false (by omega), Bool.false_and] at this
      exact this
    · exact Nat.testBit_lt_two_pow (Nat.lt_of_lt_of_le (Int64.ofInt z).toBitVec.isLt (Nat.pow_le_pow_right (by decide) q))
  have hlt : (Int64.ofInt z).toBitVec.toNat < 2 ^ 40 := Nat.lt_pow_two_of_testBit _ hb
  have ez : z = (((Int64.ofInt z).toBitVec.toNat : Nat) : Int) := by
    have e1 : (Int64.ofInt z).toInt = z := of64 hz
    have e2 : (Int64.ofInt z).toInt = (((Int64.ofInt z).toBitVec.toNat : Nat) : Int) := by
      show (Int64.ofInt z).toBitVec.toInt = _
      exact BitVec.toInt_eq_toNat_of_lt (by omega)
    rw [← e2, e1]
  have key := lbc_nat (f := fun c => decide (c < C) && f c) (s := s) (Z := (Int64.ofInt z).toBitVec.toNat) hlt (fun i hi => h i (by omega))
  rw [← ez] at key
  rw [key]
  have e3 : ∀ d : Nat, cntB (fun c => decide (c < C) && f c) (C + d) = cntB f C := by
    intro d
    induction d with
    | zero => exact cntB_cg C (fun i hi => by rw [decide_eq_true hi, Bool.true_and])
    | succ d ih =>
      rw [show C + (d + 1) = (C + d) + 1 by omega, cntB_s, ih, decide_eq_false (by omega), Bool.false_and, if_neg Bool.false_ne_true, Int.add_zero]
  have := e3 (40 - C)
  rw [show C + (40 - C) = 40 by omega] at this
  exact this
