/-! ===== the fraction in its lowest terms ===== -/
def stF' (N : Sto) (c D x w : Nat) : Nat := gWt (fWb N x w) c (fun k => k) D (fun _ => false)
def stW (N : Sto) (c D x w : Nat) (what : Int) : Nat := (if what = 0 then stF' N c D x w else 16 ^ D) / Nat.gcd (stF' N c D x w) (16 ^ D)
theorem odd_cop {o : Nat} (h : o.testBit 0 = true) (k : Nat) : Nat.gcd o (2 ^ k) = 1 := by
  have h1 : o % 2 = 1 := by rw [Nat.testBit_zero] at h; exact of_decide_eq_true h
  have h2 : Nat.gcd o 2 = 1 := by rw [Nat.gcd_comm, Nat.gcd_rec, h1]; decide
  exact Nat.Coprime.pow_right k h2
theorem bits_mod {W h : Nat} (hb : ∀ j, j < h → W.testBit j = false) : W % 2 ^ h = 0 := by
  apply Nat.eq_of_testBit_eq
  intro i
  rw [Nat.testBit_mod_two_pow, Nat.zero_testBit]
  by_cases c : i < h
  · rw [hb i c, Bool.and_false]
  · rw [decide_eq_false c, Bool.false_and]
theorem gcd_pw {W h n : Nat} (hn : h ≤ n) (hb : ∀ j, j < h → W.testBit j = false) (hh : h = n ∨ W.testBit h = true) : Nat.gcd W (2 ^ n) = 2 ^ h := by
  have hd : 2 ^ h ∣ W := Nat.dvd_of_mod_eq_zero (bits_mod hb)
  rcases hh with e | e
  · rw [← e]
    exact Nat.gcd_eq_right hd
  · have e1 : W = 2 ^ h * (W / 2 ^ h) := (Nat.mul_div_cancel' hd).symm
    have e2 : 2 ^ n = 2 ^ h * 2 ^ (n - h) := by rw [← Nat.pow_add, Nat.add_sub_cancel' hn]
    have e3 : (W / 2 ^ h).testBit 0 = true := by rw [Nat.testBit_div_two_pow, Nat.zero_add]; exact e
    have e4 : Nat.gcd (2 ^ h * (W / 2 ^ h)) (2 ^ h * 2 ^ (n - h)) = 2 ^ h := by rw [Nat.gcd_mul_left, odd_cop e3, Nat.mul_one]
    rw [← e1, ← e2] at e4
    exact e4
theorem p16 (m : Nat) : 16 ^ m = 2 ^ (4 * m) := by rw [Nat.pow_mul]
theorem st_low {N : Sto} {ws : Nat → Nat} {c D m x w h : Nat} (hN : NOk N) (hW : WsO N ws D m) (hc : c ≤ 16) (hn : h ≤ 4 * m) (hb : ∀ j, j < h → (gWt (fWb N x w) c ws m (fun _ => false)).testBit j = false) (hh : h = 4 * m ∨ (gWt (fWb N x w) c ws m (fun _ => false)).testBit h = true) : gWt (fWb N x w) c ws m (fun _ => false) / 2 ^ h = stW N c D x w 0 ∧ ∀ z, z ≠ 0 → 2 ^ (4 * m - h) = stW N c D x w z := by
  obtain ⟨w1, w2, w3, w4, w5⟩ := hW
  have e := gWt_en (f := fWb N x w) (c := c) (D := D) (ws := ws) (p := wyB N) hc (fun i _ hi S b => fWb_irr hN hi S b) w4 D (Nat.le_refl D) (fun _ => false)
  rw [← w5] at e
  generalize hG : gWt (fWb N x w) c ws m (fun _ => false) = W at *
  have e16 : 16 ^ D = 16 ^ (D - m) * 16 ^ m := by rw [← Nat.pow_add, Nat.sub_add_cancel w1]
  have hp : 0 < 16 ^ (D - m) := Nat.pow_pos (by decide)
  have hg := gcd_pw hn hb hh
  have e2 : Nat.gcd (stF' N c D x w) (16 ^ D) = 16 ^ (D - m) * 2 ^ h := by
    unfold stF'
    rw [e, e16, Nat.gcd_mul_left, p16 m, hg]
  refine ⟨?_, fun z hz => ?_⟩
  · unfold stW
    rw [if_pos rfl, e2]
    unfold stF'
    rw [e, Nat.mul_div_mul_left _ _ hp]
  · unfold stW
    rw [if_neg hz, e2, e16, Nat.mul_div_mul_left _ _ hp, p16 m, Nat.pow_div hn (by decide)]
theorem lb_nat {a j : Nat} (hj : j < 64) : lb (a : Int) j = a.testBit j := by
  unfold lb
  rw [oi_bv, BitVec.getLsbD_ofNat, decide_eq_true hj, Bool.true_and]
theorem lS_nat {a k : Nat} (ha : a < 9223372036854775808) (hk : k < 64) : lShr (a : Int) (k : Int) = ((a / 2 ^ k : Nat) : Int) := by
  have hle : a / 2 ^ k ≤ a := Nat.div_le_self _ _
  unfold lShr
  refine bv_int ?_ (Nat.lt_of_le_of_lt hle ha)
  rw [Int64.toBitVec_shiftRight]
  apply BitVec.eq_of_getLsbD_eq
  intro i hi
  show ((Int64.ofInt (a : Int)).toBitVec.sshiftRight (((Int32.ofInt (k : Int)).toInt64 &&& 63).toBitVec.smod 64).toNat).getLsbD i = _
  rw [sh_64 k hk, oi_bv, BitVec.getLsbD_sshiftRight, BitVec.getLsbD_ofNat, BitVec.getLsbD_ofNat, Nat.testBit_div_two_pow, decide_eq_true hi, Bool.true_and, decide_eq_false (show ¬ 64 ≤ i by omega), Bool.not_false, Bool.true_and]
  by_cases c : k + i < 64
  · rw [if_pos c, decide_eq_true c, Bool.true_and, Nat.add_comm]
  · rw [if_neg c, BitVec.msb_eq_getLsbD_last, BitVec.getLsbD_ofNat, Nat.testBit_lt_two_pow (show a < 2 ^ (64 - 1) by omega), Bool.and_false, Nat.testBit_lt_two_pow (Nat.lt_of_lt_of_le (show a < 2 ^ 64 by omega) (Nat.pow_le_pow_right (by decide) (by omega)))]
theorem lshl1 : ∀ n : Nat, n < 63 → lShl 1 (n : Int) = ((2 ^ n : Nat) : Int) := by decide +kernel
theorem tm_nat (a b : Nat) : Int.tmod (a : Int) (b : Int) = ((a % b : Nat) : Int) := rfl
theorem td_nat (a b : Nat) : Int.tdiv (a : Int) (b : Int) = ((a / b : Nat) : Int) := rfl
theorem T_halvings {W m : Nat} {s : Sto} {Q : Int → Sto → Prop} (h5 : s 66 5 = (m : Int)) (hm : m ≤ 10) (k : ∀ h, h ≤ 4 * m → (∀ j, j < h → W.testBit j = false) → (h = 4 * m ∨ W.testBit h = true) → Q (h : Int) s) : P_X0_halvings (W : Int) s Q := by
  unfold P_X0_halvings
  refine lp1 (L_X0_halvings_2 (W : Int) s _) (fun y => ∃ h : Nat, y = (h : Int) ∧ h ≤ 4 * m ∧ ∀ j, j < h → W.testBit j = false) (fun y => (41 - y).toNat) ?_ 0 ⟨0, rfl, by omega, fun j hj => by omega⟩
  intro n y ⟨h, hy, hh, hb⟩ ih
  subst hy
  have i1 : w32 (4 * (m : Int)) = ((4 * m : Nat) : Int) := by rw [w32_of (by omega) (by omega)]; omega
  have i2 := ix1k (u := h) (by omega)
  unfold L_X0_halvings_2
  rw [h5, i1, i2, lb_t (by omega), lb_nat (by omega)]
  clear i1 i2
  refine ⟨fun q => k h hh hb (Or.inl (by omega)), fun q => ?_⟩
  cases e : W.testBit h with
  | false => exact ⟨fun _ => ih _ ⟨h + 1, rfl, by omega, fun j hj => by
      by_cases z : j = h
      · rw [z, e]
      · exact hb j (by omega)⟩ (by omega), fun w => absurd rfl w⟩
  | true => exact ⟨fun w => absurd w (by decide), fun _ => k h hh hb (Or.inr e)⟩
theorem T_part {a b : Nat} {z : Int} {s : Sto} {Q : Int → Sto → Prop} (ha : a ≤ 4611686018427387904) (hb : b ≤ 4611686018427387904) (hb0 : 0 < b) (k : Q (((if z = 0 then a else b) / Nat.gcd a b : Nat) : Int) s) : P_X12_part (a : Int) (b : Int) z s Q := by
  have hg := Nat.gcd_pos_of_pos_right a hb0
  unfold P_X12_part
  refine lp2 (L_X12_part_6 (a : Int) (b : Int) z s _) (fun x y => ∃ p q : Nat, x = (p : Int) ∧ y = (q : Int) ∧ p ≤ 4611686018427387904 ∧ q ≤ 4611686018427387904 ∧ Nat.gcd p q = Nat.gcd a b) (fun _ y => y.toNat) ?_ _ _ ⟨a, b, rfl, rfl, ha, hb, rfl⟩
  intro n x y ⟨p, q, hx, hy, hp, hq, hpq⟩ ih
  subst hx
  subst hy
  unfold L_X12_part_6
  refine ⟨fun c x2 e2 => ?_, fun c => ⟨c, fun x3 e3 => ?_⟩⟩
  · have q0 : q = 0 := by omega
    rw [q0, Nat.gcd_zero_right] at hpq
    refine ⟨by omega, ?_⟩
    have e : x2 = ((if z = 0 then a else b : Nat) : Int) := by
      rw [e2]
      split <;> rfl
    have hle : (if z = 0 then a else b) / Nat.gcd a b ≤ 4611686018427387904 := by
      refine Nat.le_trans (Nat.div_le_self _ _) ?_
      split
      · exact ha
      · exact hb
    rw [e, hpq, td_nat, w64_nat (Nat.lt_of_le_of_lt hle (by decide))]
    exact k
  · have hlt : p % q < q := Nat.mod_lt _ (by omega)
    rw [tm_nat, w64_nat (by omega)] at e3
    refine ih _ _ ⟨q, p % q, rfl, e3, hq, by omega, ?_⟩ (by omega)
    rw [← hpq, Nat.gcd_comm q, ← Nat.gcd_rec, Nat.gcd_comm]
