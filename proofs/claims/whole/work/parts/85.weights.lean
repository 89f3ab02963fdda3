/-! ===== the weights of the sets of windy steps ===== -/
def setB (S : Nat → Bool) (i : Nat) (b : Bool) : Nat → Bool := fun k => if k = i then b else S k
theorem setB_c {S : Nat → Bool} {i j : Nat} {b c : Bool} (h : i ≠ j) : setB (setB S i b) j c = setB (setB S j c) i b := by
  funext k
  unfold setB
  by_cases h1 : k = j
  · rw [if_pos h1, if_neg (fun w => h (w.symm.trans h1)), if_pos h1]
  · rw [if_neg h1, if_neg h1]
theorem setB_s {S : Nat → Bool} {i : Nat} {b c : Bool} : setB (setB S i b) i c = setB S i c := by
  funext k
  unfold setB
  by_cases h1 : k = i
  · rw [if_pos h1, if_pos h1]
  · rw [if_neg h1, if_neg h1, if_neg h1]
theorem setB_at {S : Nat → Bool} {i : Nat} {b : Bool} : setB S i b i = b := if_pos rfl
theorem setB_j {S : Nat → Bool} {i k : Nat} {b : Bool} (h : k ≠ i) : setB S i b k = S k := if_neg h
def gWt (f : (Nat → Bool) → Bool) (c : Nat) (ws : Nat → Nat) : Nat → (Nat → Bool) → Nat
  | 0, S => if f S = true then 1 else 0
  | m + 1, S => (16 - c) * gWt f c ws m (setB S (ws m) false) + c * gWt f c ws m (setB S (ws m) true)
theorem gWt_s {f : (Nat → Bool) → Bool} {c : Nat} {ws : Nat → Nat} {m : Nat} {S : Nat → Bool} : gWt f c ws (m + 1) S = (16 - c) * gWt f c ws m (setB S (ws m) false) + c * gWt f c ws m (setB S (ws m) true) := rfl
theorem gWt_irr {f : (Nat → Bool) → Bool} {c : Nat} {ws : Nat → Nat} {i : Nat} (hf : ∀ S b, f (setB S i b) = f S) : ∀ (m : Nat) (S : Nat → Bool) (b : Bool), gWt f c ws m (setB S i b) = gWt f c ws m S := by
  intro m
  induction m with
  | zero =>
    intro S b
    unfold gWt
    rw [hf]
  | succ m ih =>
    intro S b
    rw [gWt_s, gWt_s]
    by_cases e : i = ws m
    · rw [e, setB_s, setB_s]
    · rw [setB_c e, setB_c e, ih, ih]
theorem gWt_le {f : (Nat → Bool) → Bool} {c : Nat} {ws : Nat → Nat} (hc : c ≤ 16) : ∀ (m : Nat) (S : Nat → Bool), gWt f c ws m S ≤ 16 ^ m := by
  intro m
  induction m with
  | zero =>
    intro S
    unfold gWt
    split
    · exact Nat.le_refl 1
    · exact Nat.zero_le 1
  | succ m ih =>
    intro S
    rw [gWt_s]
    have h1 := Nat.mul_le_mul_left (16 - c) (ih (setB S (ws m) false))
    have h2 := Nat.mul_le_mul_left c (ih (setB S (ws m) true))
    have h3 : (16 - c) * 16 ^ m + c * 16 ^ m = 16 ^ (m + 1) := by
      rw [← Nat.add_mul, Nat.sub_add_cancel hc, Nat.pow_succ, Nat.mul_comm]
    omega
def cn (p : Nat → Bool) : Nat → Nat
  | 0 => 0
  | d + 1 => cn p d + (if p d = true then 1 else 0)
theorem cn_s {p : Nat → Bool} {d : Nat} : cn p (d + 1) = cn p d + (if p d = true then 1 else 0) := rfl
theorem cn_le {p : Nat → Bool} : ∀ d, cn p d ≤ d := by
  intro d
  induction d with
  | zero => exact Nat.le_refl 0
  | succ d ih =>
    rw [cn_s]
    split <;> omega
theorem cn_mono {p : Nat → Bool} {a : Nat} : ∀ b, a ≤ b → cn p a ≤ cn p b := by
  intro b
  induction b with
  | zero => intro h; rw [show a = 0 by omega]; exact Nat.le_refl _
  | succ b ih =>
    intro h
    by_cases e : a = b + 1
    · rw [e]; exact Nat.le_refl _
    · have := ih (by omega)
      rw [cn_s]
      omega
theorem cn_cg {p q : Nat → Bool} : ∀ d, (∀ i, i < d → p i = q i) → cn p d = cn q d := by
  intro d
  induction d with
  | zero => intro _; rfl
  | succ d ih =>
    intro h
    rw [cn_s, cn_s, ih (fun i hi => h i (by omega)), h d (by omega)]
theorem gWt_en {f : (Nat → Bool) → Bool} {c D : Nat} {ws : Nat → Nat} {p : Nat → Bool} (hc : c ≤ 16) (hf : ∀ i, i < D → p i = false → ∀ S b, f (setB S i b) = f S) (hw : ∀ d, d < D → p d = true → ws (cn p d) = d) : ∀ d, d ≤ D → ∀ S, gWt f c (fun k => k) d S = 16 ^ (d - cn p d) * gWt f c ws (cn p d) S := by
  intro d
  induction d with
  | zero =>
    intro _ S
    show gWt f c (fun k => k) 0 S = 16 ^ 0 * gWt f c ws 0 S
    rw [Nat.pow_zero, Nat.one_mul]
    rfl
  | succ d ih =>
    intro h S
    have hle := cn_le (p := p) d
    rw [gWt_s, ih (by omega), ih (by omega)]
    cases q : p d with
    | false =>
      have hf' := hf d (by omega) q
      rw [gWt_irr hf', gWt_irr hf', ← Nat.add_mul, Nat.sub_add_cancel hc, cn_s, q, if_neg (show ¬ false = true by decide), Nat.add_zero (cn p d), show d + 1 - cn p d = (d - cn p d) + 1 by omega, Nat.pow_succ, Nat.mul_comm _ 16, Nat.mul_assoc]
    | true =>
      rw [cn_s, q, if_pos rfl, gWt_s, hw d (by omega) q, show d + 1 - (cn p d + 1) = d - cn p d by omega, Nat.mul_add, Nat.mul_left_comm, Nat.mul_left_comm c]
def sumN (g : Nat → Nat) : Nat → Nat
  | 0 => 0
  | n + 1 => sumN g n + g n
theorem sumN_s {g : Nat → Nat} {n : Nat} : sumN g (n + 1) = sumN g n + g n := rfl
theorem sumN_cg {f g : Nat → Nat} : ∀ n : Nat, (∀ i, i < n → f i = g i) → sumN f n = sumN g n := by
  intro n
  induction n with
  | zero => intro _; rfl
  | succ n ih =>
    intro h
    rw [sumN_s, sumN_s, ih (fun i hi => h i (by omega)), h n (by omega)]
theorem sumN_le {g : Nat → Nat} {m : Nat} : ∀ n : Nat, (∀ i, i < n → g i ≤ m) → sumN g n ≤ n * m := by
  intro n
  induction n with
  | zero => intro _; exact Nat.zero_le _
  | succ n ih =>
    intro h
    have h1 := ih (fun i hi => h i (by omega))
    have h2 := h n (by omega)
    rw [sumN_s, Nat.succ_mul]
    omega
theorem sumN_add {g : Nat → Nat} {a : Nat} : ∀ b : Nat, sumN g (a + b) = sumN g a + sumN (fun i => g (a + i)) b := by
  intro b
  induction b with
  | zero => rfl
  | succ b ih =>
    rw [← Nat.add_assoc, sumN_s, ih, sumN_s, Nat.add_assoc]
theorem sumN_mul {g : Nat → Nat} {k : Nat} : ∀ n : Nat, sumN (fun i => k * g i) n = k * sumN g n := by
  intro n
  induction n with
  | zero => rfl
  | succ n ih => rw [sumN_s, sumN_s, ih, Nat.mul_add]
def mixW (ws : Nat → Nat) : Nat → Nat → (Nat → Bool) → (Nat → Bool)
  | 0, _, S => S
  | m + 1, u, S => mixW ws m u (setB S (ws m) (u.testBit m))
theorem mixW_s {ws : Nat → Nat} {m u : Nat} {S : Nat → Bool} : mixW ws (m + 1) u S = mixW ws m u (setB S (ws m) (u.testBit m)) := rfl
def wtM (c u : Nat) : Nat → Nat
  | 0 => 1
  | i + 1 => wtM c u i * (if u.testBit i = true then c else 16 - c)
theorem wtM_s {c u i : Nat} : wtM c u (i + 1) = wtM c u i * (if u.testBit i = true then c else 16 - c) := rfl
theorem mixW_cg {ws : Nat → Nat} {u v : Nat} : ∀ (m : Nat) (S : Nat → Bool), (∀ i, i < m → u.testBit i = v.testBit i) → mixW ws m u S = mixW ws m v S := by
  intro m
  induction m with
  | zero => intro S _; rfl
  | succ m ih =>
    intro S h
    rw [mixW_s, mixW_s, h m (by omega)]
    exact ih _ (fun i hi => h i (by omega))
theorem wtM_cg {c u v : Nat} : ∀ m : Nat, (∀ i, i < m → u.testBit i = v.testBit i) → wtM c u m = wtM c v m := by
  intro m
  induction m with
  | zero => intro _; rfl
  | succ m ih =>
    intro h
    rw [wtM_s, wtM_s, h m (by omega), ih (fun i hi => h i (by omega))]
theorem wtM_le {c u : Nat} (hc : c ≤ 16) : ∀ m : Nat, wtM c u m ≤ 16 ^ m := by
  intro m
  induction m with
  | zero => exact Nat.le_refl 1
  | succ m ih =>
    rw [wtM_s, Nat.pow_succ]
    refine Nat.mul_le_mul ih ?_
    split
    · exact hc
    · exact Nat.sub_le 16 c
theorem wtM_pw {c u : Nat} : ∀ m : Nat, wtM c u m = c ^ cn (fun i => u.testBit i) m * (16 - c) ^ (m - cn (fun i => u.testBit i) m) := by
  intro m
  induction m with
  | zero => rfl
  | succ m ih =>
    have hle := cn_le (p := fun i => u.testBit i) m
    rw [wtM_s, cn_s, ih]
    cases q : u.testBit m with
    | false =>
      rw [if_neg (by decide), if_neg (by decide), Nat.add_zero, show m + 1 - cn (fun i => u.testBit i) m = m - cn (fun i => u.testBit i) m + 1 by omega, Nat.pow_succ, Nat.mul_assoc]
    | true =>
      rw [if_pos rfl, if_pos rfl, show m + 1 - (cn (fun i => u.testBit i) m + 1) = m - cn (fun i => u.testBit i) m by omega, Nat.pow_succ, Nat.mul_right_comm]
theorem tb_lo {m v i : Nat} (hv : v < 2 ^ m) (hi : i < m) : (2 ^ m + v).testBit i = v.testBit i := by
  have := Nat.testBit_two_pow_mul_add 1 hv i
  rw [Nat.mul_one, if_pos hi] at this
  exact this
theorem tb_hi {m v : Nat} (hv : v < 2 ^ m) : (2 ^ m + v).testBit m = true := by
  have := Nat.testBit_two_pow_mul_add 1 hv m
  rw [Nat.mul_one, if_neg (Nat.lt_irrefl m), Nat.sub_self] at this
  exact this
theorem sum_gWt {f : (Nat → Bool) → Bool} {c : Nat} {ws : Nat → Nat} : ∀ (m : Nat) (S : Nat → Bool), sumN (fun u => if f (mixW ws m u S) = true then wtM c u m else 0) (2 ^ m) = gWt f c ws m S := by
  intro m
  induction m with
  | zero =>
    intro S
    show 0 + (if f S = true then 1 else 0) = if f S = true then 1 else 0
    rw [Nat.zero_add]
  | succ m ih =>
    intro S
    rw [gWt_s, ← ih, ← ih, ← sumN_mul, ← sumN_mul, show 2 ^ (m + 1) = 2 ^ m + 2 ^ m by rw [Nat.pow_succ, Nat.mul_two], sumN_add]
    have a : ∀ u, u < 2 ^ m → (if f (mixW ws (m + 1) u S) = true then wtM c u (m + 1) else 0) = (16 - c) * (if f (mixW ws m u (setB S (ws m) false)) = true then wtM c u m else 0) := by
      intro u hu
      have q : u.testBit m = false := Nat.testBit_lt_two_pow hu
      rw [mixW_s, wtM_s, q, if_neg (show ¬ false = true by decide)]
      split
      · rw [Nat.mul_comm]
      · rfl
    have b : ∀ v, v < 2 ^ m → (if f (mixW ws (m + 1) (2 ^ m + v) S) = true then wtM c (2 ^ m + v) (m + 1) else 0) = c * (if f (mixW ws m v (setB S (ws m) true)) = true then wtM c v m else 0) := by
      intro v hv
      rw [mixW_s, wtM_s, tb_hi hv, if_pos (show true = true from rfl), mixW_cg m _ (fun i hi => tb_lo hv hi), wtM_cg m (fun i hi => tb_lo hv hi)]
      split
      · rw [Nat.mul_comm]
      · rfl
    rw [sumN_cg _ a, sumN_cg _ b]
theorem mixW_out {ws : Nat → Nat} {u k : Nat} : ∀ (m : Nat) (S : Nat → Bool), (∀ j, j < m → k ≠ ws j) → mixW ws m u S k = S k := by
  intro m
  induction m with
  | zero => intro S _; rfl
  | succ m ih =>
    intro S h
    rw [mixW_s, ih _ (fun j hj => h j (by omega)), setB_j (h m (by omega))]
theorem mixW_at {ws : Nat → Nat} {u : Nat} : ∀ (m : Nat) (S : Nat → Bool), (∀ i j, i < m → j < m → ws i = ws j → i = j) → ∀ j, j < m → mixW ws m u S (ws j) = u.testBit j := by
  intro m
  induction m with
  | zero => intro S _ j hj; omega
  | succ m ih =>
    intro S h j hj
    rw [mixW_s]
    by_cases e : j = m
    · subst e
      rw [mixW_out j _ (fun i hi w => by have := h j i (by omega) (by omega) w; omega), setB_at]
    · exact ih _ (fun a b ha hb w => h a b (by omega) (by omega) w) j (by omega)
theorem mixW_id {D u : Nat} (hu : u < 2 ^ D) : mixW (fun k => k) D u (fun _ => false) = fun k => u.testBit k := by
  funext k
  rcases Nat.lt_or_ge k D with h | h
  · exact mixW_at (ws := fun k => k) D _ (fun _ _ _ _ w => w) k h
  · rw [mixW_out D _ (fun j hj => by show k ≠ j; omega)]
    exact (Nat.testBit_lt_two_pow (Nat.lt_of_lt_of_le hu (Nat.pow_le_pow_right (by decide) h))).symm
