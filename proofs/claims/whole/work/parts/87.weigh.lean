/-! ===== the weights, as the class finds them ===== -/
def wsF (N : Sto) (s : Sto) (j : Nat) : Nat := (s 67 j).toNat
/-- what is known of the steps in row 67 -/
def WsO (N : Sto) (ws : Nat → Nat) (D m : Nat) : Prop := m ≤ D ∧ (∀ j, j < m → ws j < D ∧ wyB N (ws j) = true) ∧ (∀ i j, i < m → j < m → ws i = ws j → i = j) ∧ (∀ d, d < D → wyB N d = true → ws (cn (wyB N) d) = d) ∧ m = cn (wyB N) D
theorem WsO_of {N s : Sto} {D : Nat} (h : WnC N D s) : WsO N (fun j => (s 67 j).toNat) D (cn (wyB N) D) ∧ ∀ j, j < cn (wyB N) D → s 67 j = (((s 67 j).toNat : Nat) : Int) := by
  have h1 : ∀ d, d < D → wyB N d = true → (s 67 (cn (wyB N) d)).toNat = d := fun d hd hp => by rw [h.2 d hd hp, Int.toNat_natCast]
  refine ⟨⟨cn_le D, fun j hj => ?_, fun i j hi hj w => ?_, h1, rfl⟩, fun j hj => ?_⟩
  · obtain ⟨d, d1, d2, d3⟩ := cn_ex D j hj
    dsimp only
    rw [← d3, h1 d d1 d2]
    exact ⟨d1, d2⟩
  · obtain ⟨d, d1, d2, d3⟩ := cn_ex D i hi
    obtain ⟨e, e1, e2, e3⟩ := cn_ex D j hj
    dsimp only at w
    rw [← d3, ← e3, h1 d d1 d2, h1 e e1 e2] at w
    rw [← d3, ← e3, w]
  · obtain ⟨d, d1, d2, d3⟩ := cn_ex D j hj
    rw [← d3, h.2 d d1 d2, Int.toNat_natCast]
theorem ib_nat {u j : Nat} (hj : j < 32) : ib (u : Int) j = u.testBit j := by
  unfold ib
  rw [show (Int32.ofInt (u : Int)).toBitVec = BitVec.ofNat 32 u from BitVec.ofInt_natCast 32 u, BitVec.getLsbD_ofNat, decide_eq_true hj, Bool.true_and]
theorem mix_uq {N : Sto} {ws : Nat → Nat} {D m u : Nat} {S : Nat → Bool} (h : WsO N ws D m) (h1 : ∀ i, i < m → S (ws i) = u.testBit i) (h2 : ∀ k, (∀ i, i < m → k ≠ ws i) → S k = false) : S = mixW ws m u (fun _ => false) := by
  funext k
  by_cases c : ∃ i, i < m ∧ k = ws i
  · obtain ⟨i, i1, i2⟩ := c
    rw [i2, h1 i i1, mixW_at m _ h.2.2.1 i i1]
  · have c' : ∀ i, i < m → k ≠ ws i := fun i hi w => c ⟨i, hi, w⟩
    rw [h2 k c', mixW_out m _ c']
theorem ixw {t w : Nat} (ht : t < 8) (hw : w < 4) : w32 (w32 ((t : Int) * 4) + (w : Int)) = ((4 * t + w : Nat) : Int) := by
  rw [w32_of (z := (t : Int) * 4) (by omega) (by omega), w32_of (by omega) (by omega)]; omega
theorem ixw2 {t : Nat} (ht : t < 8) : w32 (w32 ((t : Int) * 4) + -1) = 4 * (t : Int) - 1 := by
  rw [w32_of (z := (t : Int) * 4) (by omega) (by omega), w32_of (by omega) (by omega)]; omega
theorem inb_n {j n : Nat} (h : j < n) : inb (j : Int) n := ⟨by omega, by omega⟩
theorem NtC_68 {N s t : Sto} (h : NtC N 44 s) (hS : ∀ a b, a < 54 → t a b = s a b) : NtC N 44 t := by
  obtain ⟨h1, h2, h3, h4, h5, h6, h7, h8, h9⟩ := h
  refine ⟨?_, ?_, ?_, ?_, fun r hr => ?_, fun x hx => ?_, fun k hk => ?_, fun c hc => ?_, fun i hi => ?_⟩
  · rw [hS _ _ (by omega)]; exact h1
  · rw [hS _ _ (by omega)]; exact h2
  · rw [hS _ _ (by omega)]; exact h3
  · rw [hS _ _ (by omega)]; exact h4
  · rw [hS _ _ (by omega), hS _ _ (by omega), hS _ _ (by omega), hS _ _ (by omega), hS _ _ (by omega)]; exact h5 r hr
  · rw [hS _ _ (by omega), hS _ _ (by omega), hS _ _ (by omega)]; exact h6 x hx
  · rw [hS _ _ (by omega)]; exact h7 k hk
  · rw [hS _ _ (by omega)]; exact h8 c hc
  · rw [hS _ _ (by omega)]; exact h9 i hi
/-- one set of steps weighed -/
theorem T_wcalms {N s : Sto} {ws : Nat → Nat} {D m u x : Nat} {S : Nat → Bool} {g : Nat → Nat → Nat} {Q : Int → Sto → Prop} (hN : NOk N) (hD : D ≤ 10) (hW : WsO N ws D m) (h6 : NtC N 6 s) (hC : NtC (clS N S) 44 s) (hS2 : ∀ k, (∀ i, i < m → k ≠ ws i) → S k = false) (h5 : s 66 5 = (m : Int)) (h67 : ∀ j, j < m → s 67 j = (ws j : Int)) (hg : ∀ t w, t < nT N → w < 4 → g t w ≤ 4611686018427387904 ∧ s 68 (4 * t + w) = (g t w : Int)) (hx : x ≤ 1099511627776) (k : ∀ t, NtC (clS N (mixW ws m u (fun _ => false))) 44 t → (∀ y w, y < nT N → w < 4 → t 68 (4 * y + w) = ((g y w + (if fWb N y w (mixW ws m u (fun _ => false)) = true then x else 0) : Nat) : Int)) → Same (fun a b => 44 ≤ a ∧ a ≤ 65 ∨ a = 68) s t → Q 0 t) : P_X0_weighCalms (u : Int) (x : Int) s Q := by
  obtain ⟨n1, n2, n3⟩ := nT8 hN
  obtain ⟨w1, w2, w3, w4, w5⟩ := id hW
  unfold P_X0_weighCalms
  refine lp2 (L_X0_weighCalms_3 (u : Int) (x : Int) _) (fun y t => ∃ j : Nat, y = (j : Int) ∧ j ≤ m ∧ (∃ S, NtC (clS N S) 44 t ∧ (∀ i, i < j → S (ws i) = u.testBit i) ∧ (∀ k, (∀ i, i < m → k ≠ ws i) → S k = false)) ∧ Same (fun a b => 44 ≤ a ∧ a ≤ 65) s t) (fun y _ => (11 - y).toNat) ?_ 0 s ⟨0, rfl, by omega, ⟨S, hC, fun i hi => by omega, hS2⟩, Same.rfl'⟩
  intro n y t ⟨j, hy, hj, ⟨S1, hC1, hS1, hS3⟩, hSt⟩ ih
  subst hy
  have hw := ix20 (j := j) (by omega)
  have hmu : (11 - ((j + 1 : Nat) : Int)).toNat < (11 - (j : Int)).toNat := by omega
  unfold L_X0_weighCalms_3
  rw [hSt 66 5 (by omega), h5, Int.toNat_natCast, hw]
  clear hw
  refine ⟨fun c => ?_, fun c => ?_⟩
  · have q : j = m := by omega
    rw [q] at hS1
    have hmix := mix_uq hW hS1 hS3
    rw [hmix] at hC1
    refine T_playAll (Or.inr rfl) (Or.inr rfl) (NOk_S hN) hC1 (fun t2 hP hS4 => ?_)
    have hC2 := NtC_cg (Or.inr rfl) (Or.inr rfl) hC1 hS4
    have e44 : ∀ a b, ¬ (44 ≤ a ∧ a ≤ 65) → t2 a b = s a b := fun a b w => by rw [hS4 a b (by unfold DPl; omega), hSt a b w]
    refine lp2 (L_X0_weighCalms_74 (x : Int) _) (fun y v => ∃ i : Nat, y = (i : Int) ∧ i ≤ nT N ∧ (∀ y w, y < nT N → w < 4 → v 68 (4 * y + w) = ((g y w + (if y < i ∧ fWb N y w (mixW ws m u (fun _ => false)) = true then x else 0) : Nat) : Int)) ∧ Same (fun a b => a = 68) t2 v) (fun y _ => (9 - y).toNat) ?_ 0 t2 ⟨0, rfl, by omega, fun y w hy hw => by rw [e44 68 _ (by omega), (hg y w hy hw).2, if_neg (fun w => by omega)]; rfl, Same.rfl'⟩
    intro n y v ⟨i, hy, hi, hv, hSv⟩ ih2
    subst hy
    have hw := (ix3 (Nat.le_trans hi n1)).2.2.1
    have hmu := mu9 (Nat.le_trans hi n1)
    have e6 : v 44 6 = N 0 6 := by rw [hSv 44 6 (by omega), hC2.2.1, clS_c (by decide)]
    unfold L_X0_weighCalms_74
    rw [e6, Int.toNat_natCast, hw]
    clear hw
    refine ⟨fun c => ?_, fun c => ?_⟩
    · have q := n2 i hi c
      refine k v (NtC_68 hC2 (fun a b w => hSv a b (by omega))) (fun y w hy hw => ?_) (fun a b w => by rw [hSv a b (by omega), e44 a b (by omega)])
      rw [hv y w hy hw]
      by_cases z : fWb N y w (mixW ws m u (fun _ => false)) = true
      · rw [if_pos ⟨by omega, z⟩, if_pos z]
      · rw [if_neg (fun w => z w.2), if_neg z]
    · obtain ⟨i8, hir, i1⟩ := n3 i hi c
      refine ⟨inb8 i8, fun x3 e3 => ⟨inb8 i8, ?_⟩⟩
      have hir' : (i : Int) < clS N (mixW ws m u (fun _ => false)) 0 6 := by rw [clS_c (by decide)]; exact hir
      have e61 : v 61 i = whm (clS N (mixW ws m u (fun _ => false))) (sm (clS N (mixW ws m u (fun _ => false))) 20) i := by rw [hSv 61 i (by omega)]; exact (hP.2.1 i hir').2.2
      have hrg := whm_rng (NOk_S (S := mixW ws m u (fun _ => false)) hN) hir'
      rw [← e61] at hrg
      have same : (∀ w, w < 4 → fWb N i w (mixW ws m u (fun _ => false)) = false) → L_X0_weighCalms_74 (x : Int) (fun s4 => Q 0 s4) n ((i + 1 : Nat) : Int) v := fun hz => by
        refine ih2 _ _ ⟨i + 1, rfl, i1, fun y w hy hw => ?_, hSv⟩ hmu
        rw [hv y w hy hw]
        by_cases z : fWb N y w (mixW ws m u (fun _ => false)) = true
        · have : y ≠ i := fun e => by rw [e, hz w hw] at z; exact absurd z Bool.false_ne_true
          by_cases z2 : y < i
          · rw [if_pos ⟨z2, z⟩, if_pos ⟨by omega, z⟩]
          · rw [if_neg (fun q => z2 q.1), if_neg (fun q => by omega)]
        · rw [if_neg (fun w => z w.2), if_neg (fun w => z w.2)]
      refine ⟨fun c2 => same (fun w hw => decide_eq_false (by omega)), fun c2 => ?_⟩
      obtain ⟨w, hw4, hww⟩ : ∃ w : Nat, w < 4 ∧ v 61 i = (w : Int) := ⟨(v 61 i).toNat, by omega, by omega⟩
      have e3' : x3 = ((4 * i + w : Nat) : Int) := by rw [e3, hww, ixw i8 hw4]
      clear e3
      rw [e3', Int.toNat_natCast]
      refine ⟨fun c3 => by omega, fun _ => ⟨fun c3 => by omega, fun _ => ⟨inb_n (by omega), inb_n (by omega), fun s10 e10 => ?_⟩⟩⟩
      have hz : ∀ w', w' < 4 → (fWb N i w' (mixW ws m u (fun _ => false)) = true ↔ w' = w) := fun w' hw' => by
        unfold fWb
        rw [decide_eq_true_iff, ← e61, hww]
        omega
      have hiT : i < nT N := by omega
      have hvi := hv i w hiT hw4
      rw [if_neg (fun q => by omega), Nat.add_zero] at hvi
      have hgi := (hg i w hiT hw4).1
      have e11 : w64 (v 68 (4 * i + w) + (x : Int)) = ((g i w + x : Nat) : Int) := by
        rw [hvi, ← Int.natCast_add, w64_nat (by omega)]
      rw [e11] at e10
      clear e11
      refine ih2 _ _ ⟨i + 1, rfl, i1, fun y w' hy hw' => ?_, by rw [e10]; exact hSv.up rfl⟩ hmu
      rw [e10]
      by_cases z : y = i ∧ w' = w
      · rw [z.1, z.2, up_at, if_pos ⟨by omega, (hz w hw4).mpr rfl⟩]
      · rw [up_c2 (by omega), hv y w' hy hw']
        by_cases z3 : y < i ∧ fWb N y w' (mixW ws m u (fun _ => false)) = true
        · rw [if_pos z3, if_pos ⟨by omega, z3.2⟩]
        · rw [if_neg z3, if_neg (fun q => ?_)]
          have z4 : y = i := by
            have := q.1
            by_cases z5 : y < i
            · exact absurd ⟨z5, q.2⟩ z3
            · omega
          have q2 := q.2
          rw [z4] at q2
          exact z ⟨z4, (hz w' hw').mp q2⟩
  · have hjm : j < m := by omega
    have hwj := (w2 j hjm).1
    refine ⟨inb_n (by omega), fun x3 e3 => ?_⟩
    rw [hSt 67 j (by omega), h67 j hjm] at e3
    subst e3
    have hin : inb (ws j : Int) 20 := inb_n (by omega)
    rw [ib_t (by omega), ib_nat (by omega), Int.toNat_natCast]
    refine ⟨⟨fun _ => ⟨hin, trivial⟩, fun _ => trivial⟩, fun x4 e4 => ⟨hin, fun s8 e8 => ?_⟩⟩
    have e15 : t 15 (ws j) = N 9 (ws j) := by rw [hSt 15 _ (by omega)]; exact h6.2.2.2.2.2.2.1 _ (by omega)
    rw [e15] at e4
    have e4' : x4 = if u.testBit j = true then -1 else N 9 (ws j) := by
      rw [e4]
      cases u.testBit j with
      | false => rfl
      | true => rfl
    have hC8 := NtC_up (a := 9) (b := ws j) (z := x4) hC1 (by omega)
    rw [e4', clS_up] at hC8
    rw [e4'] at e8
    refine ih _ _ ⟨j + 1, rfl, by omega, ⟨setB S1 (ws j) (u.testBit j), by rw [e8]; exact hC8, fun i hi => ?_, fun k hk => ?_⟩, by rw [e8]; exact hSt.up (by omega)⟩ hmu
    · by_cases z : i = j
      · rw [z, setB_at]
      · rw [setB_j (fun q => z (w3 i j (by omega) hjm q))]
        exact hS1 i (by omega)
    · rw [setB_j (hk j hjm)]
      exact hS3 k hk
