/-! ===== bits of an int and of a long; counting ===== -/
def ib (z : Int) (c : Nat) : Bool := (Int32.ofInt z).toBitVec.getLsbD c
def lb (z : Int) (c : Nat) : Bool := (Int64.ofInt z).toBitVec.getLsbD c
theorem of_t32 (x : Int32) : Int32.ofInt x.toInt = x := Int32.toInt_inj.mp (of32 (toInt_r32 x))
theorem of_t64 (x : Int64) : Int64.ofInt x.toInt = x := Int64.toInt_inj.mp (of64 (toInt_r64 x))
theorem ib_O (x y : Int) (c : Nat) : ib (iO x y) c = (ib x c || ib y c) := by
  unfold ib iO
  rw [of_t32, Int32.toBitVec_or, BitVec.getLsbD_or]
theorem lb_O (x y : Int) (c : Nat) : lb (lO x y) c = (lb x c || lb y c) := by
  unfold lb lO
  rw [of_t64, Int64.toBitVec_or, BitVec.getLsbD_or]
theorem lb_A (x y : Int) (c : Nat) : lb (lA x y) c = (lb x c && lb y c) := by
  unfold lb lA
  rw [of_t64, Int64.toBitVec_and, BitVec.getLsbD_and]
theorem ib_0 (c : Nat) : ib 0 c = false := BitVec.getLsbD_zero
theorem lb_0 (c : Nat) : lb 0 c = false := BitVec.getLsbD_zero
theorem ib_shl0 : ∀ a : Nat, a < 32 → ∀ c : Nat, c < 32 → ib (iShl 1 (a : Int)) c = decide (c = a) := by decide +kernel
theorem lb_shl0 : ∀ a : Nat, a < 64 → ∀ c : Nat, c < 64 → lb (lShl 1 (a : Int)) c = decide (c = a) := by decide +kernel
theorem sh_32 : ∀ n : Nat, n < 32 → ((Int32.ofInt (n : Int) &&& 31).toBitVec.smod 32).toNat = n := by decide +kernel
theorem sh_64 : ∀ n : Nat, n < 64 → (((Int32.ofInt (n : Int)).toInt64 &&& 63).toBitVec.smod 64).toNat = n := by decide +kernel
theorem one_32 : ∀ i : Nat, i < 32 → (Int32.ofInt 1).toBitVec.getLsbD i = decide (i = 0) := by decide +kernel
theorem one_64 : ∀ i : Nat, i < 64 → (Int64.ofInt 1).toBitVec.getLsbD i = decide (i = 0) := by decide +kernel
theorem ib_t {z : Int} {r : Nat} (hr : r < 32) : iA (iShr z (r : Int)) 1 = if ib z r = true then 1 else 0 := by
  unfold iA iShr
  rw [of_t32]
  have key : (Int32.ofInt z >>> (Int32.ofInt (r : Int) &&& 31)) &&& Int32.ofInt 1 = if ib z r = true then Int32.ofInt 1 else Int32.ofInt 0 := by
    apply Int32.toBitVec_inj.mp
    apply BitVec.eq_of_getLsbD_eq
    intro i hi
    rw [Int32.toBitVec_and, BitVec.getLsbD_and, one_32 i hi, Int32.toBitVec_shiftRight]
    show (((Int32.ofInt z).toBitVec.sshiftRight ((Int32.ofInt (r : Int) &&& 31).toBitVec.smod 32).toNat).getLsbD i && _) = _
    rw [sh_32 r hr, BitVec.getLsbD_sshiftRight]
    by_cases e : i = 0
    · subst e
      unfold ib
      generalize (Int32.ofInt z).toBitVec = X
      rw [Nat.add_zero, if_pos hr]
      cases hq : X.getLsbD r with
      | true =>
        rw [if_pos rfl, one_32 0 hi]
        rfl
      | false =>
        rw [if_neg Bool.false_ne_true]
        rfl
    · rw [decide_eq_false e, Bool.and_false]
      split
      · rw [one_32 i hi, decide_eq_false e]
      · exact (ib_0 i).symm
  rw [key]
  split <;> decide
theorem lb_t {z : Int} {r : Nat} (hr : r < 64) : lA (lShr z (r : Int)) 1 = if lb z r = true then 1 else 0 := by
  unfold lA lShr
  rw [of_t64]
  have key : (Int64.ofInt z >>> ((Int32.ofInt (r : Int)).toInt64 &&& 63)) &&& Int64.ofInt 1 = if lb z r = true then Int64.ofInt 1 else Int64.ofInt 0 := by
    apply Int64.toBitVec_inj.mp
    apply BitVec.eq_of_getLsbD_eq
    intro i hi
    rw [Int64.toBitVec_and, BitVec.getLsbD_and, one_64 i hi, Int64.toBitVec_shiftRight]
    show (((Int64.ofInt z).toBitVec.sshiftRight (((Int32.ofInt (r : Int)).toInt64 &&& 63).toBitVec.smod 64).toNat).getLsbD i && _) = _
    rw [sh_64 r hr, BitVec.getLsbD_sshiftRight]
    by_cases e : i = 0
    · subst e
      unfold lb
      generalize (Int64.ofInt z).toBitVec = X
      rw [Nat.add_zero, if_pos hr]
      cases hq : X.getLsbD r with
      | true =>
        rw [if_pos rfl, one_64 0 hi]
        rfl
      | false =>
        rw [if_neg Bool.false_ne_true]
        rfl
    · rw [decide_eq_false e, Bool.and_false]
      split
      · rw [one_64 i hi, decide_eq_false e]
      · exact (lb_0 i).symm
  rw [key]
  split <;> decide
theorem lA_0 {x y : Int} : lA x y = 0 ↔ ∀ c : Nat, c < 64 → lb x c = true → lb y c = true → False := by
  constructor
  · intro h c hc h1 h2
    have := lb_A x y c
    rw [h, lb_0, h1, h2] at this
    exact absurd this (by decide)
  · intro h
    have key : Int64.ofInt x &&& Int64.ofInt y = Int64.ofInt 0 := by
      apply Int64.toBitVec_inj.mp
      apply BitVec.eq_of_getLsbD_eq
      intro i hi
      rw [Int64.toBitVec_and, BitVec.getLsbD_and]
      have e : (Int64.ofInt 0).toBitVec.getLsbD i = false := lb_0 i
      rw [e]
      cases q1 : (Int64.ofInt x).toBitVec.getLsbD i with
      | false => rfl
      | true =>
        cases q2 : (Int64.ofInt y).toBitVec.getLsbD i with
        | false => rfl
        | true => exact (h i hi q1 q2).elim
    unfold lA
    rw [key]
    decide
theorem ib_shl {a c : Nat} (ha : a < 32) (hc : c < 32) : ib (iShl 1 (a : Int)) c = decide (c = a) := ib_shl0 a ha c hc
theorem lb_shl {a c : Nat} (ha : a < 64) (hc : c < 64) : lb (lShl 1 (a : Int)) c = decide (c = a) := lb_shl0 a ha c hc
theorem iO_0 {z : Int} (h : r32 z) : iO z 0 = z := by
  unfold iO
  rw [show Int32.ofInt 0 = 0 from rfl, Int32.or_zero, of32 h]
theorem iO_r (x y : Int) : r32 (iO x y) := toInt_r32 _
/-- how many of the first n hold -/
def cntB (f : Nat → Bool) : Nat → Int
  | 0 => 0
  | n + 1 => cntB f n + (if f n = true then 1 else 0)
def sumI (g : Nat → Int) : Nat → Int
  | 0 => 0
  | n + 1 => sumI g n + g n
def anyB (f : Nat → Bool) : Nat → Bool
  | 0 => false
  | n + 1 => anyB f n || f n
/-- those of the first n that hold, as bits -/
def bitsB (f : Nat → Bool) : Nat → Int
  | 0 => 0
  | n + 1 => if f n = true then iO (bitsB f n) (iShl 1 (n : Int)) else bitsB f n
theorem cntB_rng (f : Nat → Bool) : ∀ n : Nat, 0 ≤ cntB f n ∧ cntB f n ≤ (n : Int) := by
  intro n
  induction n with
  | zero => exact ⟨Int.le_refl _, Int.le_refl _⟩
  | succ n ih =>
    unfold cntB
    split <;> omega
theorem cntB_cg {f g : Nat → Bool} : ∀ n : Nat, (∀ i, i < n → f i = g i) → cntB f n = cntB g n := by
  intro n
  induction n with
  | zero => intro _; rfl
  | succ n ih =>
    intro h
    unfold cntB
    rw [ih (fun i hi => h i (by omega)), h n (by omega)]
theorem sumI_cg {f g : Nat → Int} : ∀ n : Nat, (∀ i, i < n → f i = g i) → sumI f n = sumI g n := by
  intro n
  induction n with
  | zero => intro _; rfl
  | succ n ih =>
    intro h
    unfold sumI
    rw [ih (fun i hi => h i (by omega)), h n (by omega)]
theorem bitsB_cg {f g : Nat → Bool} : ∀ n : Nat, (∀ i, i < n → f i = g i) → bitsB f n = bitsB g n := by
  intro n
  induction n with
  | zero => intro _; rfl
  | succ n ih =>
    intro h
    unfold bitsB
    rw [ih (fun i hi => h i (by omega)), h n (by omega)]
theorem anyB_iff {f : Nat → Bool} : ∀ n : Nat, anyB f n = true ↔ ∃ i, i < n ∧ f i = true := by
  intro n
  induction n with
  | zero => exact ⟨fun q => absurd q Bool.false_ne_true, fun ⟨i, h, _⟩ => absurd h (Nat.not_lt_zero i)⟩
  | succ n ih =>
    unfold anyB
    rw [Bool.or_eq_true, ih]
    constructor
    · rintro (⟨i, h1, h2⟩ | h)
      · exact ⟨i, by omega, h2⟩
      · exact ⟨n, by omega, h⟩
    · rintro ⟨i, h1, h2⟩
      by_cases e : i = n
      · exact Or.inr (e ▸ h2)
      · exact Or.inl ⟨i, by omega, h2⟩
theorem cntB_0 {f : Nat → Bool} : ∀ n : Nat, cntB f n = 0 ↔ ∀ i, i < n → f i = false := by
  intro n
  induction n with
  | zero => exact ⟨fun _ i h => absurd h (Nat.not_lt_zero i), fun _ => rfl⟩
  | succ n ih =>
    have h0 := (cntB_rng f n).1
    unfold cntB
    constructor
    · intro h i hi
      by_cases e : i = n
      · subst e
        cases q : f i with
        | false => rfl
        | true => rw [q, if_pos rfl] at h; omega
      · refine ih.mp ?_ i (by omega)
        split at h <;> omega
    · intro h
      rw [ih.mpr (fun i hi => h i (by omega)), h n (by omega)]
      rfl
theorem bitsB_r (f : Nat → Bool) : ∀ n : Nat, r32 (bitsB f n) := by
  intro n
  induction n with
  | zero => exact r32_0
  | succ n ih =>
    unfold bitsB
    split
    · exact iO_r _ _
    · exact ih
theorem bitsB_ib {f : Nat → Bool} : ∀ n : Nat, n ≤ 32 → ∀ c, c < 32 → ib (bitsB f n) c = (decide (c < n) && f c) := by
  intro n
  induction n with
  | zero => intro _ c _; unfold bitsB; rw [ib_0, decide_eq_false (Nat.not_lt_zero c)]; rfl
  | succ n ih =>
    intro hn c hc
    have ih2 := ih (by omega) c hc
    unfold bitsB
    by_cases e : c = n
    · subst e
      split
      · next q => rw [ib_O, ib_shl hc hc, q, decide_eq_true rfl, decide_eq_true (by omega), Bool.or_true]; rfl
      · next q => rw [Bool.not_eq_true] at q; rw [ih2, q, Bool.and_false, Bool.and_false]
    · have e2 : decide (c < n + 1) = decide (c < n) := by
        by_cases q : c < n
        · rw [decide_eq_true q, decide_eq_true (by omega)]
        · rw [decide_eq_false q, decide_eq_false (by omega)]
      rw [e2]
      split
      · rw [ib_O, ib_shl (by omega) hc, ih2, decide_eq_false e, Bool.or_false]
      · exact ih2
