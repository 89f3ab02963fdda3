theorem shl1 : ∀ m : Nat, m < 11 → iShl 1 (m : Int) = ((2 ^ m : Nat) : Int) := by decide +kernel
theorem bcu : ∀ u : Nat, u < 1024 → bc (u : Int) = (cn (fun i => u.testBit i) 10 : Int) := by decide +kernel
theorem cn_hi {p : Nat → Bool} {m : Nat} (h : ∀ i, m ≤ i → p i = false) : ∀ d, cn p (m + d) = cn p m := by
  intro d
  induction d with
  | zero => rfl
  | succ d ih =>
    rw [← Nat.add_assoc, cn_s, ih, h _ (by omega), if_neg (by decide)]
    rfl
theorem cn_u {u m : Nat} (hm : m ≤ 10) (hu : u < 2 ^ m) : bc (u : Int) = (cn (fun i => u.testBit i) m : Int) := by
  have h1 : u < 1024 := Nat.lt_of_lt_of_le hu (Nat.pow_le_pow_right (by decide) hm : 2 ^ m ≤ 2 ^ 10)
  have h2 := cn_hi (p := fun i => u.testBit i) (m := m) (fun i hi => Nat.testBit_lt_two_pow (Nat.lt_of_lt_of_le hu (Nat.pow_le_pow_right (by decide) hi))) (10 - m)
  rw [bcu u h1, ← h2, show m + (10 - m) = 10 by omega]
theorem wt_lt {c u m : Nat} (hc : c ≤ 16) (hm : m ≤ 10) : wtM c u m ≤ 1099511627776 := Nat.le_trans (wtM_le hc m) (Nat.pow_le_pow_right (by decide) hm : 16 ^ m ≤ 16 ^ 10)
def smW (f : (Nat → Bool) → Bool) (c : Nat) (ws : Nat → Nat) (m : Nat) (u : Nat) : Nat := sumN (fun u => if f (mixW ws m u (fun _ => false)) = true then wtM c u m else 0) u
theorem smW_le {f : (Nat → Bool) → Bool} {c : Nat} {ws : Nat → Nat} {m u : Nat} (hc : c ≤ 16) (hm : m ≤ 10) (hu : u ≤ 1024) : smW f c ws m u ≤ 4611686018427387904 := by
  have h := sumN_le (g := fun u => if f (mixW ws m u (fun _ => false)) = true then wtM c u m else 0) (m := 1099511627776) u (fun i _ => by
    show (if f (mixW ws m i (fun _ => false)) = true then wtM c i m else 0) ≤ 1099511627776
    split
    · exact wt_lt hc hm
    · exact Nat.zero_le _)
  unfold smW
  omega
theorem mu1k {u : Nat} (h : u ≤ 1024) : (1025 - ((u + 1 : Nat) : Int)).toNat < (1025 - (u : Int)).toNat := by omega
theorem ix1k {u : Nat} (h : u ≤ 1024) : w32 ((u : Int) + 1) = ((u + 1 : Nat) : Int) := by
  rw [w32_of (by omega) (by omega)]; omega
theorem T_weigh {N s : Sto} {D c : Nat} {Q : Int → Sto → Prop} (hN : NOk N) (h6 : NtC N 6 s) (hD : 1 ≤ D ∧ D ≤ 10) (hc : c ≤ 16) (k : ∀ t ws m, WsO N ws D m → t 66 5 = (m : Int) → (∀ y w, y < nT N → w < 4 → t 68 (4 * y + w) = (gWt (fWb N y w) c ws m (fun _ => false) : Int)) → Same DScr s t → Q 0 t) : P_X0_weigh (c : Int) ((D : Int) - 1) s Q := by
  unfold P_X0_weigh
  refine T_findWindy hN h6 hD (fun s1 hW1 hS1 => ?_)
  obtain ⟨hW, h67⟩ := WsO_of hW1
  have hm5 := hW1.1
  generalize hws : (fun j => (s1 67 j).toNat) = ws at hW
  have h67' : ∀ j, j < cn (wyB N) D → s1 67 j = (ws j : Int) := fun j hj => by rw [← hws]; exact h67 j hj
  generalize hm : cn (wyB N) D = m at hW h67' hm5
  have hm10 : m ≤ 10 := by have := hW.1; omega
  have e1 : Same DScr s s1 := hS1.mono (fun a b q => by unfold DScr; omega)
  refine T_fillL (fun s3 f3 hS3 => ?_)
  have hal : al 68 = 32 := rfl
  have e3 : Same DScr s s3 := e1.trans (hS3.mono (fun a b q => by unfold DScr; omega))
  refine T_becomes hN (NtC6_sc h6 e3) (fun s5 hC5 hS5 => ?_)
  have e5 : Same DScr s s5 := e3.trans (Same_tr hS5)
  have g5 : s5 66 5 = (m : Int) := by rw [hS5 66 5 (by omega), hS3 66 5 (by omega), hm5]
  have g67 : ∀ j, j < m → s5 67 j = (ws j : Int) := fun j hj => by rw [hS5 67 j (by omega), hS3 67 j (by omega), h67' j hj]
  have g68 : ∀ j, j < 32 → s5 68 j = 0 := fun j hj => by rw [hS5 68 j (by omega), f3 j (by rw [hal]; exact hj)]
  obtain ⟨P, hP, hP1, hp⟩ : ∃ P, 2 ^ m = P ∧ 1 ≤ P ∧ P ≤ 1024 := ⟨_, rfl, Nat.pow_pos (by decide), Nat.le_trans (Nat.pow_le_pow_right (n := 2) (by decide) hm10) (Nat.le_of_eq (by decide))⟩
  have hT8 := (nT8 hN).1
  refine lp2 (L_X0_weigh_26 (c : Int) _) (fun y t => ∃ u : Nat, y = (u : Int) ∧ u ≤ P ∧ (∃ S, NtC (clS N S) 44 t ∧ (∀ k, (∀ i, i < m → k ≠ ws i) → S k = false)) ∧ (∀ y w, y < nT N → w < 4 → t 68 (4 * y + w) = (smW (fWb N y w) c ws m u : Int)) ∧ Same (fun a b => 44 ≤ a ∧ a ≤ 65 ∨ a = 68) s5 t) (fun y _ => (1025 - y).toNat) ?_ 0 s5 ⟨0, rfl, by omega, ⟨fun _ => false, by rw [clS_0]; exact hC5, fun _ _ => rfl⟩, fun y w hy hw => by rw [g68 _ (by omega)]; rfl, Same.rfl'⟩
  intro n y t ⟨u, hy, hu, ⟨S, hCS, hS0⟩, hv, hSt⟩ ih
  subst hy
  have hw := ix1k (Nat.le_trans hu hp)
  have hmu := mu1k (Nat.le_trans hu hp)
  have t5 : t 66 5 = (m : Int) := by rw [hSt 66 5 (by omega), g5]
  have tD : Same DScr s t := e5.trans (hSt.mono (fun a b q => by unfold DScr; omega))
  unfold L_X0_weigh_26
  rw [t5, shl1 m (by omega), hP, hw]
  clear hw
  refine ⟨fun q => ?_, fun q x2 e2 => ?_⟩
  · have : u = P := by omega
    refine k t ws m hW t5 (fun y w hy hw => ?_) tD
    rw [hv y w hy hw, this, ← hP]
    unfold smW
    rw [sum_gWt]
  · have hu2 : u < P := by omega
    rw [bc_e, cn_u hm10 (by rw [hP]; exact hu2)] at e2
    have hle := cn_le (p := fun i => u.testBit i) m
    generalize ho : cn (fun i => u.testBit i) m = o at e2 hle
    subst e2
    refine T_power hc (by omega) ?_
    have i1 : w32 (16 - (c : Int)) = ((16 - c : Nat) : Int) := by rw [w32_of (by omega) (by omega)]; omega
    have i2 : w32 ((m : Int) - (o : Int)) = ((m - o : Nat) : Int) := by rw [w32_of (by omega) (by omega)]; omega
    rw [t5, i1, i2]
    clear i1 i2
    refine T_power (Nat.sub_le 16 c) (by omega) ?_
    intro x7 e7
    have hwt : c ^ o * (16 - c) ^ (m - o) = wtM c u m := by rw [wtM_pw, ho]
    have hwl := wt_lt (u := u) hc hm10
    rw [← Int.natCast_mul, hwt, w64_nat (Nat.lt_of_le_of_lt hwl (by decide))] at e7
    subst e7
    have nx : ∀ y w, smW (fWb N y w) c ws m (u + 1) = smW (fWb N y w) c ws m u + (if fWb N y w (mixW ws m u (fun _ => false)) = true then wtM c u m else 0) := fun _ _ => rfl
    refine ⟨fun q0 => ?_, fun q0 => ?_⟩
    · refine ih _ _ ⟨u + 1, rfl, by omega, ⟨S, hCS, hS0⟩, fun y w hy hw => ?_, hSt⟩ hmu
      rw [nx, show wtM c u m = 0 by omega, ite_self, Nat.add_zero]
      exact hv y w hy hw
    · refine T_wcalms (g := fun y w => smW (fWb N y w) c ws m u) hN hD.2 hW (NtC6_sc h6 tD) hCS hS0 t5 (fun j hj => by rw [hSt 67 j (by omega), g67 j hj]) (fun y w hy hw => ⟨smW_le hc hm10 (by omega), hv y w hy hw⟩) hwl (fun t2 hC2 hv2 hS2 => ?_)
      refine ih _ _ ⟨u + 1, rfl, by omega, ⟨_, hC2, fun k hk => by rw [mixW_out m _ hk]⟩, fun y w hy hw => ?_, hSt.trans hS2⟩ hmu
      rw [nx, hv2 y w hy hw]
