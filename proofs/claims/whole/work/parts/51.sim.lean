/-! ===== a night as mathematics =====
N: a night. row 0: 0 rings, 1 cells, 6 things, 11 widens; rows 1..5 of rings: step, cell, way, breath, whom; 6..8 of things: cell, thick, kind; 9 the wind; 10 open cells; 11 at 4 c + way the next cell.
σ: how it stands. row 0: 0 pairs, 1 the first; rows 1..4 of rings: what, cell, width, breath left; 5, 6 of things: by which ring, in which step. -/
def nR (N : Sto) : Nat := (N 0 0).toNat
def nT (N : Sto) : Nat := (N 0 6).toNat
def nxt (N : Sto) (c w : Int) : Int := N 11 (4 * c.toNat + w.toNat)
def mA1 (N σ : Sto) (r : Nat) : Int := if 0 < σ 4 r then nxt N (σ 2 r) (N 3 r) else σ 2 r
def mB1 (N σ : Sto) (r : Nat) : Int := if mA1 N σ r = -1 then σ 2 r else mA1 N σ r
def mA2 (N : Sto) (k : Nat) (σ : Sto) (r : Nat) : Int := if mA1 N σ r = -1 then -1 else if N 9 k = -1 then mA1 N σ r else nxt N (mA1 N σ r) (N 9 k)
def mB2 (N : Sto) (k : Nat) (σ : Sto) (r : Nat) : Int := if mA2 N k σ r = -1 then mB1 N σ r else mA2 N k σ r
def wdt (N : Sto) (k r : Nat) : Int := 1 + ((k : Int) - N 1 r) / N 0 11
def pA1 (N : Sto) (k : Nat) (σ : Sto) (r : Nat) : Int := if σ 1 r = 1 then (if mA2 N k σ r = -1 then 3 else if 9 < wdt N k r then 4 else 1) else if σ 1 r = 0 ∧ N 1 r = (k : Int) then (if N 10 (N 2 r).toNat = 1 then 1 else 3) else σ 1 r
def pA2 (N : Sto) (k : Nat) (σ : Sto) (r : Nat) : Int := if σ 1 r = 1 then mB2 N k σ r else if σ 1 r = 0 ∧ N 1 r = (k : Int) then (if N 2 r < N 0 1 then N 2 r else -1) else σ 2 r
def pA3 (N : Sto) (k : Nat) (σ : Sto) (r : Nat) : Int := if σ 1 r = 1 then (if mA2 N k σ r = -1 then σ 3 r else wdt N k r) else if σ 1 r = 0 ∧ N 1 r = (k : Int) then 1 else σ 3 r
def pA4 (σ : Sto) (r : Nat) : Int := if σ 1 r = 1 then (if 0 < σ 4 r then σ 4 r - 1 else σ 4 r) else σ 4 r
/-- the first i rings have moved, been blown and widened -/
def pAi (N : Sto) (k i : Nat) (σ : Sto) : Sto := fun a r => if r < i then (if a = 1 then pA1 N k σ r else if a = 2 then pA2 N k σ r else if a = 3 then pA3 N k σ r else if a = 4 then pA4 σ r else σ a r) else σ a r
def pA (N : Sto) (k : Nat) (σ : Sto) : Sto := pAi N k (nR N) σ
def prB (σ : Sto) (a b : Nat) : Bool := decide (a < b ∧ σ 1 a = 1 ∧ σ 1 b = 1 ∧ σ 2 a = σ 2 b ∧ σ 3 a ≠ σ 3 b)
def eqB (σ : Sto) (a b : Nat) : Bool := decide (b ≠ a ∧ σ 1 a = 1 ∧ σ 1 b = 1 ∧ σ 2 a = σ 2 b ∧ σ 3 a = σ 3 b)
def brB (R : Nat) (σ : Sto) (a : Nat) : Bool := anyB (eqB σ a) R
def prC (R : Nat) (σ : Sto) : Int := sumI (fun a => cntB (prB σ a) R) R
def pBp (k : Nat) (σ : Sto) (c : Int) : Sto := up (up σ 0 0 (σ 0 0 + c)) 0 1 (if σ 0 1 = -1 ∧ c ≠ 0 then (k : Int) else σ 0 1)
def pBr (R i : Nat) (σ : Sto) : Sto := fun a r => if a = 1 ∧ r < i ∧ brB R σ r = true then 3 else σ a r
def pB (R k : Nat) (σ : Sto) : Sto := pBr R R (pBp k σ (prC R σ))
abbrev fit (w th kd : Int) : Prop := th ≤ w ∧ (kd = 0 ∨ (kd = 1 ∧ w - th ≤ 1) ∨ (kd ≠ 0 ∧ kd ≠ 1 ∧ w - th ≤ 3))
def ft (N : Sto) (k r t : Nat) (σ : Sto) : Sto := if σ 1 r = 1 ∧ N 6 t = σ 2 r ∧ σ 5 t = -1 ∧ fit (σ 3 r) (N 7 t) (N 8 t) then up (up (up σ 5 t (r : Int)) 6 t (k : Int)) 1 r 2 else σ
def fl1 (N : Sto) (k r : Nat) (σ : Sto) : Nat → Sto
  | 0 => σ
  | t + 1 => ft N k r t (fl1 N k r σ t)
def fl (N : Sto) (k : Nat) (σ : Sto) : Nat → Sto
  | 0 => σ
  | r + 1 => fl1 N k r (fl N k σ r) (nT N)
def stp (N : Sto) (k : Nat) (σ : Sto) : Sto := fl N k (pB (nR N) k (pA N k σ)) (nR N)
def st0 (N : Sto) : Sto := fun a b => if a = 0 then (if b = 1 then -1 else 0) else if a = 1 then 0 else if a = 2 then -1 else if a = 3 then 0 else if a = 4 then N 4 b else -1
/-- how the night stands behind k steps -/
def sm (N : Sto) : Nat → Sto
  | 0 => st0 N
  | k + 1 => stp N k (sm N k)
def NOk (N : Sto) : Prop := (0 ≤ N 0 0 ∧ N 0 0 ≤ 8) ∧ (0 ≤ N 0 6 ∧ N 0 6 ≤ 8) ∧ (1 ≤ N 0 11 ∧ N 0 11 ≤ 4) ∧ (0 ≤ N 0 1 ∧ N 0 1 ≤ 36) ∧ (∀ r : Nat, (r : Int) < N 0 0 → (0 ≤ N 1 r ∧ N 1 r ≤ 20) ∧ (0 ≤ N 2 r ∧ N 2 r ≤ 35) ∧ (0 ≤ N 3 r ∧ N 3 r ≤ 3) ∧ (1 ≤ N 4 r ∧ N 4 r ≤ 9) ∧ (0 ≤ N 5 r ∧ N 5 r ≤ 3)) ∧ (∀ t : Nat, (t : Int) < N 0 6 → (0 ≤ N 6 t ∧ N 6 t ≤ 39) ∧ (1 ≤ N 7 t ∧ N 7 t ≤ 9) ∧ (0 ≤ N 8 t ∧ N 8 t ≤ 2)) ∧ (∀ k, k < 20 → -1 ≤ N 9 k ∧ N 9 k ≤ 3) ∧ (∀ i, i < 144 ∧ 0 < N 0 1 → -1 ≤ N 11 i ∧ N 11 i < N 0 1) ∧ (∀ c, N 10 c = 0 ∨ N 10 c = 1) ∧ (∀ c : Nat, N 0 1 ≤ (c : Int) → N 10 c = 0)
def RInv (N : Sto) (k : Nat) (σ : Sto) (r : Nat) : Prop := (0 ≤ σ 1 r ∧ σ 1 r ≤ 4) ∧ (σ 1 r = 0 → (k : Int) ≤ N 1 r) ∧ (σ 1 r ≠ 0 → N 1 r < (k : Int)) ∧ (σ 1 r = 1 → (0 ≤ σ 2 r ∧ σ 2 r < N 0 1) ∧ σ 3 r = 1 + ((k : Int) - 1 - N 1 r) / N 0 11 ∧ σ 3 r ≤ 9) ∧ (0 ≤ σ 4 r ∧ σ 4 r ≤ 9)
def Inv (N : Sto) (k : Nat) (σ : Sto) : Prop := (∀ r : Nat, (r : Int) < N 0 0 → RInv N k σ r) ∧ (∀ t : Nat, (t : Int) < N 0 6 → σ 5 t = -1 ∨ (0 ≤ σ 5 t ∧ σ 5 t < N 0 0))
def PInv (k : Nat) (σ : Sto) : Prop := (σ 0 1 = -1 ↔ σ 0 0 = 0) ∧ (0 ≤ σ 0 0 ∧ σ 0 0 ≤ 64 * (k : Int))
theorem nxt_rng {N : Sto} {c w : Int} (hN : NOk N) (hc : c < 36) (hw : w ≤ 3) (h0 : 0 < N 0 1) : -1 ≤ nxt N c w ∧ nxt N c w < N 0 1 := by
  unfold nxt
  exact hN.2.2.2.2.2.2.2.1 _ ⟨by omega, h0⟩
theorem mA1_rng {N σ : Sto} {k r : Nat} (hN : NOk N) (hr : (r : Int) < N 0 0) (h : RInv N k σ r) (h1 : σ 1 r = 1) : -1 ≤ mA1 N σ r ∧ mA1 N σ r < N 0 1 := by
  obtain ⟨⟨h2, h3⟩, -, -⟩ := h.2.2.2.1 h1
  have hc := hN.2.2.2.1
  have hw := (hN.2.2.2.2.1 r hr).2.2.1
  unfold mA1
  split
  · exact nxt_rng hN (by omega) (by omega) (by omega)
  · omega
theorem mA2_rng {N σ : Sto} {k r : Nat} (hN : NOk N) (hk : k < 20) (hr : (r : Int) < N 0 0) (h : RInv N k σ r) (h1 : σ 1 r = 1) : -1 ≤ mA2 N k σ r ∧ mA2 N k σ r < N 0 1 := by
  have g := mA1_rng hN hr h h1
  obtain ⟨⟨z2, z3⟩, -, -⟩ := h.2.2.2.1 h1
  have hc := hN.2.2.2.1
  have hw := hN.2.2.2.2.2.2.1 k hk
  unfold mA2
  split
  · omega
  · split
    · exact g
    · exact nxt_rng hN (by omega) (by omega) (by omega)
theorem wdt_0 {N : Sto} {k r : Nat} (hN : NOk N) (h : N 1 r = (k : Int)) : wdt N k r = 1 := by
  unfold wdt
  rw [h, Int.sub_self, Int.zero_ediv]
  rfl
theorem wdt_inc {N : Sto} {k r : Nat} {w : Int} (hN : NOk N) (hb : N 1 r < (k : Int)) (hw : w = 1 + ((k : Int) - 1 - N 1 r) / N 0 11) : 1 ≤ w ∧ ((k : Int) - N 1 r < w * N 0 11 → wdt N k r = w) ∧ (¬ (k : Int) - N 1 r < w * N 0 11 → wdt N k r = w + 1) := by
  have h4 := hN.2.2.1
  have h5 : N 0 11 = 1 ∨ N 0 11 = 2 ∨ N 0 11 = 3 ∨ N 0 11 = 4 := by omega
  unfold wdt
  rw [hw]
  rcases h5 with e | e | e | e <;> rw [e] <;> refine ⟨?_, ?_, ?_⟩ <;> omega
theorem RInv_pA {N σ : Sto} {k r : Nat} (hN : NOk N) (hk : k < 20) (hr : (r : Int) < N 0 0) (h : RInv N k σ r) : RInv N (k + 1) (pA N k σ) r := by
  have hrR : r < nR N := by unfold nR; omega
  have e1 : pA N k σ 1 r = pA1 N k σ r := by unfold pA pAi; rw [if_pos hrR, if_pos rfl]
  have e2 : pA N k σ 2 r = pA2 N k σ r := by unfold pA pAi; rw [if_pos hrR, if_neg (by decide), if_pos rfl]
  have e3 : pA N k σ 3 r = pA3 N k σ r := by unfold pA pAi; rw [if_pos hrR, if_neg (by decide), if_neg (by decide), if_pos rfl]
  have e4 : pA N k σ 4 r = pA4 σ r := by unfold pA pAi; rw [if_pos hrR, if_neg (by decide), if_neg (by decide), if_neg (by decide), if_pos rfl]
  unfold RInv
  rw [e1, e2, e3, e4]
  obtain ⟨h1, h2, h3, h4, h5⟩ := id h
  have hR := hN.2.2.2.2.1 r hr
  unfold pA1 pA2 pA3 pA4
  by_cases c1 : σ 1 r = 1
  · have g := mA2_rng hN hk hr h c1
    have hb := h3 (by omega)
    rw [if_pos c1, if_pos c1, if_pos c1, if_pos c1]
    by_cases c2 : mA2 N k σ r = -1
    · rw [if_pos c2, if_pos c2]
      refine ⟨by omega, by omega, fun _ => by omega, by omega, ?_⟩
      split <;> omega
    · rw [if_neg c2, if_neg c2]
      have gw := wdt_inc hN hb rfl
      have e5 : wdt N k r = 1 + (((k + 1 : Nat) : Int) - 1 - N 1 r) / N 0 11 := by
        unfold wdt
        rw [show ((k + 1 : Nat) : Int) - 1 = (k : Int) by omega]
      refine ⟨?_, ?_, ?_, ?_, ?_⟩
      · split <;> omega
      · split <;> omega
      · intro _; omega
      · intro q
        unfold mB2
        rw [if_neg c2]
        refine ⟨by omega, e5, ?_⟩
        split at q <;> omega
      · split <;> omega
  · rw [if_neg c1, if_neg c1, if_neg c1, if_neg c1]
    by_cases c2 : σ 1 r = 0 ∧ N 1 r = (k : Int)
    · rw [if_pos c2, if_pos c2, if_pos c2]
      refine ⟨?_, ?_, ?_, ?_, h5⟩
      · split <;> omega
      · split <;> omega
      · intro _; omega
      · intro q
        have q2 : N 10 (N 2 r).toNat = 1 := by
          split at q
          · assumption
          · omega
        have q3 : N 2 r < N 0 1 := by
          rcases Int.lt_or_le (N 2 r) (N 0 1) with q4 | q4
          · exact q4
          · have := hN.2.2.2.2.2.2.2.2.2 (N 2 r).toNat (by omega)
            omega
        rw [if_pos q3]
        refine ⟨by omega, ?_, by omega⟩
        rw [c2.2, show ((k + 1 : Nat) : Int) - 1 - (k : Int) = 0 by omega, Int.zero_ediv]
        rfl
    · rw [if_neg c2, if_neg c2, if_neg c2]
      refine ⟨h1, ?_, ?_, ?_, h5⟩
      · intro q
        have := h2 q
        have : N 1 r ≠ (k : Int) := fun w => c2 ⟨q, w⟩
        omega
      · intro q
        have := h3 q
        omega
      · intro q
        exact absurd q c1
theorem sumI_le {g : Nat → Int} {m : Int} : ∀ n : Nat, (∀ i, i < n → 0 ≤ g i ∧ g i ≤ m) → 0 ≤ sumI g n ∧ sumI g n ≤ m * (n : Int) := by
  intro n
  induction n with
  | zero => intro _; unfold sumI; omega
  | succ n ih =>
    intro h
    have h1 := ih (fun i hi => h i (by omega))
    have h2 := h n (by omega)
    unfold sumI
    rw [show m * ((n + 1 : Nat) : Int) = m * (n : Int) + m by rw [Int.natCast_add, Int.mul_add]; omega]
    omega
theorem prC_rng {R : Nat} {σ : Sto} (hR : R ≤ 8) : 0 ≤ prC R σ ∧ prC R σ ≤ 64 := by
  have h := sumI_le (g := fun a => cntB (prB σ a) R) (m := 8) R (fun i _ => by
    have := cntB_rng (prB σ i) R
    omega)
  unfold prC
  omega
theorem pB_1 {R k : Nat} {σ : Sto} {r : Nat} : pB R k σ 1 r = if r < R ∧ brB R σ r = true then 3 else σ 1 r := by
  have e : ∀ a, a ≠ 0 → ∀ b, pBp k σ (prC R σ) a b = σ a b := fun a ha b => by unfold pBp; rw [up_c ha, up_c ha]
  have e2 : brB R (pBp k σ (prC R σ)) r = brB R σ r := by
    unfold brB
    congr 1
  unfold pB pBr
  rw [e2, e 1 (by decide)]
  by_cases c : r < R ∧ brB R σ r = true
  · rw [if_pos c, if_pos ⟨rfl, c⟩]
  · rw [if_neg c, if_neg (fun q => c q.2)]
theorem pB_a {R k a : Nat} {σ : Sto} {r : Nat} (h0 : a ≠ 0) (h1 : a ≠ 1) : pB R k σ a r = σ a r := by
  unfold pB pBr pBp
  rw [if_neg (fun q => h1 q.1), up_c h0, up_c h0]
theorem eqB_iff {σ : Sto} {a b : Nat} : eqB σ a b = true ↔ b ≠ a ∧ σ 1 a = 1 ∧ σ 1 b = 1 ∧ σ 2 a = σ 2 b ∧ σ 3 a = σ 3 b := by unfold eqB; exact decide_eq_true_iff
theorem prB_iff {σ : Sto} {a b : Nat} : prB σ a b = true ↔ a < b ∧ σ 1 a = 1 ∧ σ 1 b = 1 ∧ σ 2 a = σ 2 b ∧ σ 3 a ≠ σ 3 b := by unfold prB; exact decide_eq_true_iff
theorem brB_iff {R : Nat} {σ : Sto} {a : Nat} : brB R σ a = true ↔ ∃ b, b < R ∧ b ≠ a ∧ σ 1 a = 1 ∧ σ 1 b = 1 ∧ σ 2 a = σ 2 b ∧ σ 3 a = σ 3 b := by
  unfold brB
  rw [anyB_iff]
  exact ⟨fun ⟨b, h1, h2⟩ => ⟨b, h1, eqB_iff.mp h2⟩, fun ⟨b, h1, h2⟩ => ⟨b, h1, eqB_iff.mpr h2⟩⟩
theorem RInv_pB {N σ : Sto} {k r R m : Nat} (h : RInv N k σ r) : RInv N k (pB R m σ) r := by
  unfold RInv
  rw [pB_1, pB_a (by decide) (by decide), pB_a (by decide) (by decide), pB_a (by decide) (by decide)]
  obtain ⟨h1, h2, h3, h4, h5⟩ := h
  by_cases c : r < R ∧ brB R σ r = true
  · rw [if_pos c]
    obtain ⟨b, -, -, q, -⟩ := brB_iff.mp c.2
    exact ⟨by omega, by omega, fun _ => h3 (by omega), by omega, h5⟩
  · rw [if_neg c]
    exact ⟨h1, h2, h3, h4, h5⟩
theorem Inv_pAB {N σ : Sto} {k : Nat} (hN : NOk N) (hk : k < 20) (h : Inv N k σ) : Inv N (k + 1) (pA N k σ) ∧ Inv N (k + 1) (pB (nR N) k (pA N k σ)) := by
  have e5 : ∀ t, pA N k σ 5 t = σ 5 t := fun t => by unfold pA pAi; simp
  refine ⟨⟨fun r hr => RInv_pA hN hk hr (h.1 r hr), fun t ht => ?_⟩, ⟨fun r hr => RInv_pB (RInv_pA hN hk hr (h.1 r hr)), fun t ht => ?_⟩⟩
  · rw [e5]; exact h.2 t ht
  · rw [pB_a (by decide) (by decide), e5]; exact h.2 t ht
theorem Inv_ft {N σ : Sto} {k m r t : Nat} (hr : (r : Int) < N 0 0) (h : Inv N k σ) : Inv N k (ft N m r t σ) := by
  unfold ft
  split
  · next c =>
    refine ⟨fun x hx => ?_, fun y hy => ?_⟩
    · obtain ⟨h1, h2, h3, h4, h5⟩ := h.1 x hx
      unfold RInv
      rw [up_c (c := 1) (a := 2) (by decide), up_c (c := 1) (a := 3) (by decide), up_c (c := 1) (a := 4) (by decide), up_c (c := 6) (a := 2) (by decide), up_c (c := 6) (a := 3) (by decide), up_c (c := 6) (a := 4) (by decide), up_c (c := 5) (a := 2) (by decide), up_c (c := 5) (a := 3) (by decide), up_c (c := 5) (a := 4) (by decide)]
      by_cases e : x = r
      · rw [e, up_at]
        rw [e] at h3 h5
        exact ⟨by omega, by omega, fun _ => h3 (by omega), by omega, h5⟩
      · rw [up_j e, up_c (by decide), up_c (by decide)]
        exact ⟨h1, h2, h3, h4, h5⟩
    · rw [up_c (by decide), up_c (by decide)]
      by_cases e : y = t
      · rw [e, up_at]; right; omega
      · rw [up_j e]; exact h.2 y hy
  · exact h
theorem Inv_fl1 {N σ : Sto} {k m r : Nat} (hr : (r : Int) < N 0 0) (h : Inv N k σ) : ∀ t, Inv N k (fl1 N m r σ t) := by
  intro t
  induction t with
  | zero => exact h
  | succ t ih => exact Inv_ft hr ih
theorem Inv_fl {N σ : Sto} {k m : Nat} (h : Inv N k σ) : ∀ r : Nat, (r : Int) ≤ N 0 0 → Inv N k (fl N m σ r) := by
  intro r
  induction r with
  | zero => intro _; exact h
  | succ r ih => intro hr; exact Inv_fl1 (by omega) (ih (by omega)) _
theorem Inv_stp {N σ : Sto} {k : Nat} (hN : NOk N) (hk : k < 20) (h : Inv N k σ) : Inv N (k + 1) (stp N k σ) := by
  have := hN.1
  exact Inv_fl (Inv_pAB hN hk h).2 (nR N) (by unfold nR; omega)
theorem ft_0 {N σ : Sto} {k r t b : Nat} : ft N k r t σ 0 b = σ 0 b := by
  unfold ft
  split
  · rw [up_c (by decide), up_c (by decide), up_c (by decide)]
  · rfl
theorem fl1_0 {N σ : Sto} {k r b : Nat} : ∀ t, fl1 N k r σ t 0 b = σ 0 b := by
  intro t
  induction t with
  | zero => rfl
  | succ t ih => unfold fl1; rw [ft_0, ih]
theorem fl_0 {N σ : Sto} {k b : Nat} : ∀ r, fl N k σ r 0 b = σ 0 b := by
  intro r
  induction r with
  | zero => rfl
  | succ r ih => unfold fl; rw [fl1_0, ih]
theorem PInv_stp {N σ : Sto} {k : Nat} (hN : NOk N) (h : PInv k σ) : PInv (k + 1) (stp N k σ) := by
  have hR := hN.1
  have hp := prC_rng (R := nR N) (σ := pA N k σ) (by unfold nR; omega)
  have e0 : ∀ b, pA N k σ 0 b = σ 0 b := fun b => by unfold pA pAi; simp
  unfold PInv
  unfold stp
  rw [fl_0, fl_0]
  unfold pB pBr
  rw [if_neg (fun q => absurd q.1 (by decide)), if_neg (fun q => absurd q.1 (by decide))]
  unfold pBp
  rw [up_at, up_j (by decide), up_at, e0, e0]
  obtain ⟨h1, h2⟩ := h
  generalize prC (nR N) (pA N k σ) = c at *
  by_cases c1 : σ 0 1 = -1 ∧ c ≠ 0
  · rw [if_pos c1]
    have := h1.mp c1.1
    omega
  · rw [if_neg c1]
    by_cases c2 : σ 0 1 = -1
    · have := h1.mp c2
      have : c = 0 := Decidable.not_not.mp (fun w => c1 ⟨c2, w⟩)
      omega
    · have : ¬ σ 0 0 = 0 := fun w => c2 (h1.mpr w)
      omega
theorem sm_inv {N : Sto} (hN : NOk N) : ∀ k : Nat, k ≤ 20 → Inv N k (sm N k) ∧ PInv k (sm N k) := by
  intro k
  induction k with
  | zero =>
    intro _
    refine ⟨⟨fun r hr => ?_, fun t _ => Or.inl rfl⟩, ⟨by unfold sm st0; simp, by unfold sm st0; simp⟩⟩
    have := hN.2.2.2.2.1 r hr
    unfold RInv
    show (0 ≤ (0 : Int) ∧ (0 : Int) ≤ 4) ∧ ((0 : Int) = 0 → (0 : Int) ≤ N 1 r) ∧ ((0 : Int) ≠ 0 → N 1 r < (0 : Int)) ∧ ((0 : Int) = 1 → _) ∧ (0 ≤ N 4 r ∧ N 4 r ≤ 9)
    exact ⟨by omega, by omega, fun q => absurd rfl q, fun q => absurd q (by decide), by omega⟩
  | succ k ih =>
    intro hk
    obtain ⟨h1, h2⟩ := ih (by omega)
    exact ⟨Inv_stp hN (by omega) h1, PInv_stp hN h2⟩
