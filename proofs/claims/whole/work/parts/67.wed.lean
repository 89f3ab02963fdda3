/-! ===== wed, missed, richest, lonely ===== -/
def upk (N : Sto) (t : Nat) : Int := N 7 t * (if N 8 t = 0 then 3 else if N 8 t = 1 then 2 else 1)
def wbt (N σ : Sto) (w : Int) : Int := bitsB (fun t => decide (whm N σ t = w)) (nT N)
def ups (N σ : Sto) (w : Int) : Int := sumI (fun t => if whm N σ t = w then upk N t else 0) (nT N)
theorem upk_rng {N : Sto} {t : Nat} (hN : NOk N) (ht : (t : Int) < N 0 6) : 1 ≤ upk N t ∧ upk N t ≤ 27 := by
  obtain ⟨-, q1, q2⟩ := hN.2.2.2.2.2.1 t ht
  unfold upk
  split
  · omega
  · split <;> omega
theorem cupk_v {N s : Sto} {p t : Nat} (hN : NOk N) (hC : NtC N p s) (ht : (t : Int) < N 0 6) : F_X4_upkeep p (t : Int) s = upk N t ∧ O_X4_upkeep p (t : Int) s := by
  have h6 := hN.2.1
  have hin : inb (t : Int) 8 := ⟨by omega, by omega⟩
  obtain ⟨-, q1, q2⟩ := hN.2.2.2.2.2.1 t ht
  obtain ⟨-, e7, e8⟩ := hC.2.2.2.2.2.1 t ht
  unfold F_X4_upkeep O_X4_upkeep upk
  rw [Int.toNat_natCast, e7, e8]
  refine ⟨?_, hin, hin, fun _ => trivial, fun _ => ⟨hin, trivial⟩⟩
  split
  · exact w32_of (by omega) (by omega)
  · split
    · exact w32_of (by omega) (by omega)
    · exact w32_of (by omega) (by omega)
theorem mupk_v {N s : Sto} {t : Nat} (hN : NOk N) (hC : NtM N s) (ht : (t : Int) < N 0 6) : F_X12_upkeep (t : Int) s = upk N t ∧ O_X12_upkeep (t : Int) s := by
  have h6 := hN.2.1
  have ht8 : t < 8 := by omega
  obtain ⟨-, q1, q2⟩ := hN.2.2.2.2.2.1 t ht
  obtain ⟨-, e7, e8⟩ := hC.2.2.2.2.2.1 t ht
  have i1 : w32 (w32 (3 * (t : Int)) + 1) = 3 * (t : Int) + 1 := ix3w (w := 1) ht8 (by decide)
  have i2 : w32 (w32 (3 * (t : Int)) + 2) = 3 * (t : Int) + 2 := ix3w (w := 2) ht8 (by decide)
  obtain ⟨j1, b1⟩ := ix3v (w := 1) ht8 (by decide)
  obtain ⟨j2, b2⟩ := ix3v (w := 2) ht8 (by decide)
  have j1 : (3 * (t : Int) + 1).toNat = 3 * t + 1 := j1
  have j2 : (3 * (t : Int) + 2).toNat = 3 * t + 2 := j2
  unfold F_X12_upkeep O_X12_upkeep upk
  rw [i1, i2, j1, j2, e7, e8]
  clear i1 i2
  refine ⟨?_, b1, b2, fun _ => trivial, fun _ => ⟨b2, trivial⟩⟩
  split
  · exact w32_of (by omega) (by omega)
  · split
    · exact w32_of (by omega) (by omega)
    · exact w32_of (by omega) (by omega)
theorem nT8 {N : Sto} (hN : NOk N) : nT N ≤ 8 ∧ (∀ j : Nat, j ≤ nT N → N 0 6 ≤ (j : Int) → j = nT N) ∧ (∀ j : Nat, j ≤ nT N → ¬ N 0 6 ≤ (j : Int) → j < 8 ∧ (j : Int) < N 0 6 ∧ j + 1 ≤ nT N) := by
  have := hN.2.1
  unfold nT
  exact ⟨by omega, fun j q1 q2 => by omega, fun j q1 q2 => by omega⟩
theorem nR8 {N : Sto} (hN : NOk N) : nR N ≤ 8 ∧ (∀ j : Nat, j ≤ nR N → N 0 0 ≤ (j : Int) → j = nR N) ∧ (∀ j : Nat, j ≤ nR N → ¬ N 0 0 ≤ (j : Int) → j < 8 ∧ (j : Int) < N 0 0 ∧ j + 1 ≤ nR N) := by
  have := hN.1
  unfold nR
  exact ⟨by omega, fun j q1 q2 => by omega, fun j q1 q2 => by omega⟩
theorem inb8 {j : Nat} (h : j < 8) : inb (j : Int) 8 := ⟨by omega, by omega⟩
theorem bitsB_s (f : Nat → Bool) (n : Nat) : bitsB f (n + 1) = if f n = true then iO (bitsB f n) (iShl 1 (n : Int)) else bitsB f n := rfl
theorem T_cwed {N σ s : Sto} {o p : Nat} {w : Int} {Q : Int → Sto → Prop} (hN : NOk N) (hC : NtC N p s) (hP : Ply N o σ s) (k : Q (wbt N σ w) s) : P_X6_wedBits o p w s Q := by
  obtain ⟨n1, n2, n3⟩ := nT8 hN
  unfold P_X6_wedBits
  refine lp2 (L_X6_wedBits_5 o p w s _) (fun x y => ∃ i : Nat, y = (i : Int) ∧ i ≤ nT N ∧ x = bitsB (fun t => decide (whm N σ t = w)) i) (fun _ y => (9 - y).toNat) ?_ 0 0 ⟨0, rfl, Nat.zero_le _, rfl⟩
  intro n x y ⟨i, hy, hi, hx⟩ ih
  subst hy
  have hw := (ix3 (Nat.le_trans hi n1)).2.2.1
  have hmu := mu9 (Nat.le_trans hi n1)
  unfold L_X6_wedBits_5
  rw [hC.2.1, Int.toNat_natCast, hw]
  refine ⟨fun c => ?_, fun c => ?_⟩
  · have q := n2 i hi c
    subst q
    rw [hx]
    exact k
  · obtain ⟨i8, it, i1⟩ := n3 i hi c
    have e7 := (hP.2.1 i it).2.2
    rw [e7]
    refine ⟨inb8 i8, fun c2 x4 e4 => ih _ _ ⟨i + 1, rfl, i1, ?_⟩ hmu, fun c2 => ih _ _ ⟨i + 1, rfl, i1, ?_⟩ hmu⟩
    · rw [bitsB_s, if_pos (decide_eq_true c2), e4, hx]
    · rw [bitsB_s, decide_eq_false c2, if_neg Bool.false_ne_true, hx]
theorem sumI_s' (g : Nat → Int) (n : Nat) : sumI g (n + 1) = sumI g n + g n := rfl
theorem ups_rng {N σ : Sto} {w : Int} (hN : NOk N) : ∀ i : Nat, i ≤ nT N → 0 ≤ sumI (fun t => if whm N σ t = w then upk N t else 0) i ∧ sumI (fun t => if whm N σ t = w then upk N t else 0) i ≤ 27 * (i : Int) := by
  intro i
  induction i with
  | zero => intro _; exact ⟨Int.le_refl _, Int.le_refl _⟩
  | succ i ih =>
    intro hi
    have h1 := ih (by omega)
    have h2 := upk_rng (t := i) hN (by unfold nT at hi; omega)
    rw [sumI_s']
    have : (0 : Int) ≤ (if whm N σ i = w then upk N i else 0) ∧ (if whm N σ i = w then upk N i else 0) ≤ 27 := by split <;> omega
    omega
theorem T_cups {N σ s : Sto} {o p : Nat} {w : Int} {Q : Int → Sto → Prop} (hN : NOk N) (hC : NtC N p s) (hP : Ply N o σ s) (k : Q (ups N σ w) s) : P_X6_upkeepOf o p w s Q := by
  obtain ⟨n1, n2, n3⟩ := nT8 hN
  unfold P_X6_upkeepOf
  refine lp2 (L_X6_upkeepOf_5 o p w s _) (fun x y => ∃ i : Nat, y = (i : Int) ∧ i ≤ nT N ∧ x = sumI (fun t => if whm N σ t = w then upk N t else 0) i) (fun _ y => (9 - y).toNat) ?_ 0 0 ⟨0, rfl, Nat.zero_le _, rfl⟩
  intro n x y ⟨i, hy, hi, hx⟩ ih
  subst hy
  have hw := (ix3 (Nat.le_trans hi n1)).2.2.1
  have hmu := mu9 (Nat.le_trans hi n1)
  unfold L_X6_upkeepOf_5
  rw [hC.2.1, Int.toNat_natCast, hw]
  clear hw
  refine ⟨fun c => ?_, fun c => ?_⟩
  · have q := n2 i hi c
    subst q
    rw [hx]
    exact k
  · obtain ⟨i8, it, i1⟩ := n3 i hi c
    have e7 := (hP.2.1 i it).2.2
    obtain ⟨u1, u2⟩ := cupk_v hN hC it
    have ur := upk_rng hN it
    have sr := ups_rng (σ := σ) (w := w) hN i hi
    rw [e7, u1]
    refine ⟨inb8 i8, fun c2 => ⟨u2, fun x5 e5 => ih _ _ ⟨i + 1, rfl, i1, ?_⟩ hmu⟩, fun c2 => ih _ _ ⟨i + 1, rfl, i1, ?_⟩ hmu⟩
    · rw [sumI_s', if_pos c2, e5, hx]
      exact w32_of (by omega) (by omega)
    · rw [sumI_s', if_neg c2, hx, Int.add_zero]
theorem T_mwed {N σ s : Sto} {w what : Int} {Q : Int → Sto → Prop} (hN : NOk N) (hC : NtM N s) (hP : PlM N σ s) (hI : ∀ x : Nat, (x : Int) < N 0 6 → σ 5 x = -1 ∨ (0 ≤ σ 5 x ∧ σ 5 x < N 0 0)) (k : Q (if what = 0 then wbt N σ w else ups N σ w) s) : P_X12_wedOf w what s Q := by
  obtain ⟨n1, n2, n3⟩ := nT8 hN
  unfold P_X12_wedOf
  refine lp3 (L_X12_wedOf_8 w what s _) (fun x z y => ∃ i : Nat, y = (i : Int) ∧ i ≤ nT N ∧ x = bitsB (fun t => decide (whm N σ t = w)) i ∧ z = sumI (fun t => if whm N σ t = w then upk N t else 0) i) (fun _ _ y => (9 - y).toNat) ?_ 0 0 0 ⟨0, rfl, Nat.zero_le _, rfl, rfl⟩
  intro n x z y ⟨i, hy, hi, hx, hz⟩ ih
  subst hy
  have hw := (ix3 (Nat.le_trans hi n1)).2.2.1
  have hmu := mu9 (Nat.le_trans hi n1)
  unfold L_X12_wedOf_8
  rw [hC.2.1, hw]
  clear hw
  refine ⟨fun c => ?_, fun c => ?_⟩
  · have q := n2 i hi c
    subst q
    rw [hx, hz]
    refine ⟨fun q => ?_, fun q => ?_⟩
    · rw [if_pos q] at k; exact k
    · rw [if_neg q] at k; exact k
  · obtain ⟨i8, it, i1⟩ := n3 i hi c
    obtain ⟨u1, u2⟩ := mupk_v hN hC it
    obtain ⟨w1, w2⟩ := mwhom_v hN hC hP hI it
    have ur := upk_rng hN it
    have sr := ups_rng (σ := σ) (w := w) hN i hi
    rw [w1, u1]
    refine ⟨w2, fun x3 e3 x5 e5 => ⟨w2, ⟨fun _ => ⟨u2, trivial⟩, fun _ => trivial⟩, fun x7 e7 x10 e10 => ih _ _ _ ⟨i + 1, rfl, i1, ?_, ?_⟩ hmu⟩⟩
    · rw [e5, e3, hx, bitsB_s]
      by_cases q : whm N σ i = w
      · rw [if_pos q, if_pos (decide_eq_true q)]
      · rw [if_neg q, decide_eq_false q, if_neg Bool.false_ne_true, iO_0 (bitsB_r _ _)]
    · rw [e10, e7, hz, sumI_s']
      by_cases q : whm N σ i = w
      · rw [if_pos q]; exact w32_of (by omega) (by omega)
      · rw [if_neg q]; exact w32_of (by omega) (by omega)
/-! ===== how many bits ===== -/
def bc (z : Int) : Int := F_J6_bitCount_0f7a4 z (fun _ _ => 0)
theorem bc_e (z : Int) (s : Sto) : F_J6_bitCount_0f7a4 z s = bc z := rfl
theorem bc_step : ∀ m : Nat, m < 256 → m ≠ 0 → bc (iA (m : Int) (w32 ((m : Int) - 1))) + 1 = bc (m : Int) ∧ 0 ≤ iA (m : Int) (w32 ((m : Int) - 1)) ∧ iA (m : Int) (w32 ((m : Int) - 1)) < (m : Int) := by decide +kernel
theorem bc_rng : ∀ m : Nat, m < 256 → 0 ≤ bc (m : Int) ∧ bc (m : Int) ≤ 8 := by decide +kernel
theorem T_mones {z : Int} {s : Sto} {Q : Int → Sto → Prop} (hz : 0 ≤ z ∧ z < 256) (k : Q (bc z) s) : P_X12_ones z s Q := by
  unfold P_X12_ones
  refine lp2 (L_X12_ones_4 s _) (fun x y => (0 ≤ y ∧ y < 256) ∧ 0 ≤ x ∧ x + bc y = bc z) (fun _ y => y.toNat) ?_ 0 z ⟨hz, Int.le_refl _, Int.zero_add _⟩
  intro n x y ⟨hy, hx0, hx⟩ ih
  obtain ⟨m, rfl⟩ := Int.eq_ofNat_of_zero_le hy.1
  obtain ⟨zn, rfl⟩ := Int.eq_ofNat_of_zero_le hz.1
  have hm : m < 256 := by omega
  have hb := bc_rng m hm
  have hb2 := bc_rng zn (by omega)
  unfold L_X12_ones_4
  refine ⟨fun c => ?_, fun c x2 e2 => ?_⟩
  · have : m = 0 := by omega
    subst this
    have h0 : bc ((0 : Nat) : Int) = 0 := by decide +kernel
    rw [h0, Int.add_zero] at hx
    rw [hx]
    exact k
  · obtain ⟨b1, b2, b3⟩ := bc_step m hm (by omega)
    rw [← e2] at b1 b2 b3
    have e1 : w32 (x + 1) = x + 1 := w32_of (by omega) (by omega)
    rw [e1]
    clear e1
    exact ih _ _ ⟨⟨b2, by omega⟩, by omega, by omega⟩ (by omega)
theorem or_pow : ∀ n : Nat, n < 8 → ∀ m : Nat, m < 2 ^ n → iO (m : Int) (iShl 1 (n : Int)) = ((m + 2 ^ n : Nat) : Int) := by decide +kernel
theorem bitsB_nat {f : Nat → Bool} : ∀ n : Nat, n ≤ 8 → ∃ m : Nat, m < 2 ^ n ∧ bitsB f n = (m : Int) := by
  intro n
  induction n with
  | zero => intro _; exact ⟨0, by decide, rfl⟩
  | succ n ih =>
    intro hn
    obtain ⟨m, h1, h2⟩ := ih (by omega)
    have hp : 2 ^ (n + 1) = 2 ^ n + 2 ^ n := by rw [Nat.pow_succ]; omega
    rw [bitsB_s, h2, hp]
    split
    · exact ⟨m + 2 ^ n, by omega, or_pow n (by omega) m h1⟩
    · exact ⟨m, by omega, rfl⟩
theorem wbt_rng {N σ : Sto} {w : Int} (hN : NOk N) : 0 ≤ wbt N σ w ∧ wbt N σ w < 256 := by
  obtain ⟨n1, -, -⟩ := nT8 hN
  obtain ⟨m, h1, h2⟩ := bitsB_nat (f := fun t => decide (whm N σ t = w)) (nT N) n1
  have : 2 ^ nT N ≤ 2 ^ 8 := Nat.pow_le_pow_right (by decide) n1
  unfold wbt
  rw [h2]
  omega
def ric (N σ : Sto) : Nat → Int × Int
  | 0 => (-1, 0)
  | w + 1 => if bc (wbt N σ (w : Int)) ≤ (ric N σ w).2 then ric N σ w else ((w : Int), bc (wbt N σ (w : Int)))
def lon (σ : Sto) : Nat → Int × Int
  | 0 => (-1, -1)
  | t + 1 => if σ 6 t ≤ (lon σ t).2 then lon σ t else ((t : Int), σ 6 t)
def msb (N σ : Sto) : Int := bitsB (fun r => decide (¬ σ 1 r = 2)) (nR N)
theorem T_cmissed {N σ s : Sto} {K : Int → Prop} (hN : NOk N) (hC : NtC N 6 s) (hP : Ply N 16 σ s) (k : K (msb N σ)) : ∃ n, L_X11_missed_8 s K n 0 0 := by
  obtain ⟨n1, n2, n3⟩ := nR8 hN
  refine lp2 (L_X11_missed_8 s K) (fun x y => ∃ i : Nat, y = (i : Int) ∧ i ≤ nR N ∧ x = bitsB (fun r => decide (¬ σ 1 r = 2)) i) (fun _ y => (9 - y).toNat) ?_ 0 0 ⟨0, rfl, Nat.zero_le _, rfl⟩
  intro n x y ⟨i, hy, hi, hx⟩ ih
  subst hy
  have hw := (ix3 (Nat.le_trans hi n1)).2.2.1
  have hmu := mu9 (Nat.le_trans hi n1)
  unfold L_X11_missed_8
  rw [hC.1, Int.toNat_natCast, hw]
  refine ⟨fun c => ?_, fun c => ?_⟩
  · have q := n2 i hi c
    subst q
    rw [hx]
    exact k
  · obtain ⟨i8, it, i1⟩ := n3 i hi c
    have e1 : s 17 i = σ 1 i := (hP.1 i it).1
    rw [e1]
    refine ⟨inb8 i8, fun c2 => ih _ _ ⟨i + 1, rfl, i1, ?_⟩ hmu, fun c2 x4 e4 => ih _ _ ⟨i + 1, rfl, i1, ?_⟩ hmu⟩
    · rw [bitsB_s, decide_eq_false (fun w => w c2), if_neg Bool.false_ne_true, hx]
    · rw [bitsB_s, if_pos (decide_eq_true c2), e4, hx]
theorem T_mmissed {N σ s : Sto} {Q : Int → Sto → Prop} (hN : NOk N) (hC : NtM N s) (hP : PlM N σ s) (k : Q (msb N σ) s) : P_X12_missedNow s Q := by
  obtain ⟨n1, n2, n3⟩ := nR8 hN
  unfold P_X12_missedNow
  refine lp2 (L_X12_missedNow_4 s _) (fun x y => ∃ i : Nat, y = (i : Int) ∧ i ≤ nR N ∧ x = bitsB (fun r => decide (¬ σ 1 r = 2)) i) (fun _ y => (9 - y).toNat) ?_ 0 0 ⟨0, rfl, Nat.zero_le _, rfl⟩
  intro n x y ⟨i, hy, hi, hx⟩ ih
  subst hy
  have hw := (ix3 (Nat.le_trans hi n1)).2.2.1
  have hmu := mu9 (Nat.le_trans hi n1)
  unfold L_X12_missedNow_4
  rw [hC.1, Int.toNat_natCast, hw]
  refine ⟨fun c => ?_, fun c => ?_⟩
  · have q := n2 i hi c
    subst q
    rw [hx]
    exact k
  · obtain ⟨i8, it, i1⟩ := n3 i hi c
    have e1 : s 80 i = σ 1 i := (hP.1 i it).1
    rw [e1]
    refine ⟨inb8 i8, fun x3 e3 x5 e5 => ih _ _ ⟨i + 1, rfl, i1, ?_⟩ hmu⟩
    rw [e5, e3, hx, bitsB_s]
    by_cases q : σ 1 i = 2
    · rw [if_pos q, decide_eq_false (fun w => w q), if_neg Bool.false_ne_true, iO_0 (bitsB_r _ _)]
    · rw [if_neg q, if_pos (decide_eq_true q)]
theorem T_crichest {N σ s : Sto} {K : Int → Sto → Prop} (hN : NOk N) (hC : NtC N 6 s) (hP : Ply N 16 σ s) (k : K (ric N σ 4).1 s) : ∃ n, L_X11_richest_10 K n (-1) 0 0 s := by
  refine lp4 (L_X11_richest_10 K) (fun x y z t => t = s ∧ ∃ i : Nat, z = (i : Int) ∧ i ≤ 4 ∧ x = (ric N σ i).1 ∧ y = (ric N σ i).2) (fun _ _ z _ => (9 - z).toNat) ?_ (-1) 0 0 s ⟨rfl, 0, rfl, by decide, rfl, rfl⟩
  intro n x y z t ⟨ht, i, hz, hi, hx, hy⟩ ih
  subst hz
  subst ht
  have hw := (ix3 (j := i) (by omega)).2.2.1
  have hmu := mu9 (j := i) (by omega)
  unfold L_X11_richest_10
  rw [hw]
  refine ⟨fun c => ?_, fun c => T_cwed hN hC hP (fun x4 e4 => ?_)⟩
  · have : i = 4 := by omega
    subst this
    rw [hx]
    exact k
  · rw [bc_e] at e4
    rw [e4, hy]
    refine ⟨fun q => ih _ _ _ _ ⟨rfl, i + 1, rfl, by omega, ?_, ?_⟩ hmu, fun q => ih _ _ _ _ ⟨rfl, i + 1, rfl, by omega, ?_, ?_⟩ hmu⟩
    · show x = (if _ then _ else _ : Int × Int).1
      rw [if_pos q]; exact hx
    · show (ric N σ i).2 = (if _ then _ else _ : Int × Int).2
      rw [if_pos q]
    · show (i : Int) = (if _ then _ else _ : Int × Int).1
      rw [if_neg q]
    · show _ = (if _ then _ else _ : Int × Int).2
      rw [if_neg q]
theorem T_mrichest {N σ s : Sto} {Q : Int → Sto → Prop} (hN : NOk N) (hC : NtM N s) (hP : PlM N σ s) (hI : ∀ x : Nat, (x : Int) < N 0 6 → σ 5 x = -1 ∨ (0 ≤ σ 5 x ∧ σ 5 x < N 0 0)) (k : Q (ric N σ 4).1 s) : P_X12_richestNow s Q := by
  unfold P_X12_richestNow
  refine lp4 (L_X12_richestNow_6 _) (fun x y z t => t = s ∧ ∃ i : Nat, z = (i : Int) ∧ i ≤ 4 ∧ x = (ric N σ i).1 ∧ y = (ric N σ i).2) (fun _ _ z _ => (9 - z).toNat) ?_ (-1) 0 0 s ⟨rfl, 0, rfl, by decide, rfl, rfl⟩
  intro n x y z t ⟨ht, i, hz, hi, hx, hy⟩ ih
  subst hz
  subst ht
  have hw := (ix3 (j := i) (by omega)).2.2.1
  have hmu := mu9 (j := i) (by omega)
  unfold L_X12_richestNow_6
  rw [hw]
  refine ⟨fun c => ?_, fun c => T_mwed hN hC hP hI (T_mones ?_ (fun x6 e6 x8 e8 => ?_))⟩
  · have : i = 4 := by omega
    subst this
    rw [hx]
    exact k
  · rw [if_pos rfl]; exact wbt_rng hN
  · rw [if_pos rfl] at e6 e8
    unfold F_X12_greater at e8
    rw [hy] at e6 e8
    refine ih _ _ _ _ ⟨rfl, i + 1, rfl, by omega, ?_, ?_⟩ hmu
    · show x6 = (if _ then _ else _ : Int × Int).1
      rw [e6]
      by_cases q : bc (wbt N σ (i : Int)) ≤ (ric N σ i).2
      · rw [if_pos q, if_pos q]; exact hx
      · rw [if_neg q, if_neg q]
    · show x8 = (if _ then _ else _ : Int × Int).2
      rw [e8]
      by_cases q : bc (wbt N σ (i : Int)) ≤ (ric N σ i).2
      · rw [if_pos q, if_pos q]
      · rw [if_neg q, if_neg q]
theorem T_clonely {N σ s : Sto} {K : Int → Prop} (hN : NOk N) (hC : NtC N 6 s) (hP : Ply N 16 σ s) (k : K (lon σ (nT N)).1) : ∃ n, L_X11_lonely_10 s K n (-1) (-1) 0 := by
  obtain ⟨n1, n2, n3⟩ := nT8 hN
  refine lp3 (L_X11_lonely_10 s K) (fun x z y => ∃ i : Nat, y = (i : Int) ∧ i ≤ nT N ∧ x = (lon σ i).1 ∧ z = (lon σ i).2) (fun _ _ y => (9 - y).toNat) ?_ (-1) (-1) 0 ⟨0, rfl, Nat.zero_le _, rfl, rfl⟩
  intro n x z y ⟨i, hy, hi, hx, hz⟩ ih
  subst hy
  have hw := (ix3 (Nat.le_trans hi n1)).2.2.1
  have hmu := mu9 (Nat.le_trans hi n1)
  unfold L_X11_lonely_10
  have e6 : s 6 6 = N 0 6 := hC.2.1
  rw [e6, Int.toNat_natCast, hw]
  refine ⟨fun c => ?_, fun c => ?_⟩
  · have q := n2 i hi c
    subst q
    rw [hx]
    exact k
  · obtain ⟨i8, it, i1⟩ := n3 i hi c
    have e1 : s 22 i = σ 6 i := (hP.2.1 i it).2.1
    rw [e1, hz]
    refine ⟨inb8 i8, fun c2 => ih _ _ _ ⟨i + 1, rfl, i1, ?_, ?_⟩ hmu, fun c2 => ⟨inb8 i8, fun x5 e5 => ih _ _ _ ⟨i + 1, rfl, i1, ?_, ?_⟩ hmu⟩⟩
    · show x = (if _ then _ else _ : Int × Int).1
      rw [if_pos c2]; exact hx
    · show (lon σ i).2 = (if _ then _ else _ : Int × Int).2
      rw [if_pos c2]
    · show (i : Int) = (if _ then _ else _ : Int × Int).1
      rw [if_neg c2]
    · show x5 = (if _ then _ else _ : Int × Int).2
      rw [if_neg c2]; exact e5
theorem T_mlonely {N σ s : Sto} {Q : Int → Sto → Prop} (hN : NOk N) (hC : NtM N s) (hP : PlM N σ s) (k : Q (lon σ (nT N)).1 s) : P_X12_lonelyNow s Q := by
  obtain ⟨n1, n2, n3⟩ := nT8 hN
  unfold P_X12_lonelyNow
  refine lp3 (L_X12_lonelyNow_6 s _) (fun x z y => ∃ i : Nat, y = (i : Int) ∧ i ≤ nT N ∧ x = (lon σ i).1 ∧ z = (lon σ i).2) (fun _ _ y => (9 - y).toNat) ?_ (-1) (-1) 0 ⟨0, rfl, Nat.zero_le _, rfl, rfl⟩
  intro n x z y ⟨i, hy, hi, hx, hz⟩ ih
  subst hy
  have hw := (ix3 (Nat.le_trans hi n1)).2.2.1
  have hmu := mu9 (Nat.le_trans hi n1)
  unfold L_X12_lonelyNow_6
  rw [hC.2.1, Int.toNat_natCast, hw]
  refine ⟨fun c => ?_, fun c => ?_⟩
  · have q := n2 i hi c
    subst q
    rw [hx]
    exact k
  · obtain ⟨i8, it, i1⟩ := n3 i hi c
    have e1 : s 86 i = σ 6 i := (hP.2.1 i it).2
    rw [e1, hz]
    refine ⟨inb8 i8, fun x3 e3 => ⟨inb8 i8, fun x6 e6 => ih _ _ _ ⟨i + 1, rfl, i1, ?_, ?_⟩ hmu⟩⟩
    · show x3 = (if _ then _ else _ : Int × Int).1
      rw [e3]
      by_cases q : σ 6 i ≤ (lon σ i).2
      · rw [if_pos q, if_pos q]; exact hx
      · rw [if_neg q, if_neg q]
    · show x6 = (if _ then _ else _ : Int × Int).2
      rw [e6]
      unfold F_X12_greater
      by_cases q : σ 6 i ≤ (lon σ i).2
      · rw [if_pos q, if_pos q]
      · rw [if_neg q, if_neg q]
