/-! ===== which steps weigh ===== -/
def clS (N : Sto) (S : Nat → Bool) : Sto := fun a k => if a = 9 ∧ S k = true then -1 else N a k
theorem clS_c {N : Sto} {S : Nat → Bool} {a k : Nat} (h : a ≠ 9) : clS N S a k = N a k := if_neg (fun w => h w.1)
theorem clS_0 {N : Sto} : clS N (fun _ => false) = N := by
  funext a k
  exact if_neg (fun w => absurd w.2 Bool.false_ne_true)
theorem clS_up {N : Sto} {S : Nat → Bool} {k : Nat} {b : Bool} : up (clS N S) 9 k (if b = true then -1 else N 9 k) = clS N (setB S k b) := by
  funext a x
  by_cases c : a = 9 ∧ x = k
  · rw [c.1, c.2, up_at]
    unfold clS
    rw [setB_at]
    cases b with
    | false => rw [if_neg (by decide), if_neg (fun w => absurd w.2 Bool.false_ne_true)]
    | true => rw [if_pos rfl, if_pos ⟨rfl, rfl⟩]
  · rw [up_c2 (by omega)]
    unfold clS
    by_cases d : a = 9
    · rw [setB_j (fun w => c ⟨d, w⟩)]
    · rw [if_neg (fun w => d w.1), if_neg (fun w => d w.1)]
theorem NOk_S {N : Sto} {S : Nat → Bool} (h : NOk N) : NOk (clS N S) := by
  obtain ⟨h1, h2, h3, h4, h5, h6, h7, h8, h9, h10⟩ := h
  have e : ∀ a x, a ≠ 9 → clS N S a x = N a x := fun a x q => clS_c q
  refine ⟨by rw [e _ _ (by decide)]; exact h1, by rw [e _ _ (by decide)]; exact h2, by rw [e _ _ (by decide)]; exact h3, by rw [e _ _ (by decide)]; exact h4, fun r hr => ?_, fun t ht => ?_, fun k hk => ?_, fun i hi => ?_, fun c => ?_, fun c hc => ?_⟩
  · rw [e _ _ (by decide)] at hr
    rw [e _ _ (by decide), e _ _ (by decide), e _ _ (by decide), e _ _ (by decide), e _ _ (by decide)]; exact h5 r hr
  · rw [e _ _ (by decide)] at ht
    rw [e _ _ (by decide), e _ _ (by decide), e _ _ (by decide)]; exact h6 t ht
  · unfold clS
    split
    · omega
    · exact h7 k hk
  · rw [e _ _ (by decide)] at hi
    rw [e _ _ (by decide), e _ _ (by decide)]; exact h8 i hi
  · rw [e _ _ (by decide)]; exact h9 c
  · rw [e _ _ (by decide)] at hc
    rw [e _ _ (by decide)]; exact h10 c hc
theorem clS_irr {N : Sto} {S : Nat → Bool} {i : Nat} {b : Bool} (hN : NOk N) (h : N 9 i = -1 ∨ ∀ r : Nat, (r : Int) < N 0 0 → (i : Int) ≤ N 1 r) : ∀ n, n ≤ 20 → sm (clS N (setB S i b)) n = sm (clS N S) n := by
  by_cases h9 : N 9 i = -1
  · intro n _
    have e : clS N (setB S i b) = clS N S := by
      funext a k
      unfold clS
      by_cases c : a = 9 ∧ k = i
      · rw [c.1, c.2, h9, ite_self, ite_self]
      · by_cases d : a = 9
        · rw [setB_j (fun w => c ⟨d, w⟩)]
        · rw [if_neg (fun w => d w.1), if_neg (fun w => d w.1)]
    rw [e]
  have h := h.resolve_left h9
  intro n
  induction n with
  | zero => intro _; rfl
  | succ n ih =>
    intro hn
    have e : sm (clS N (setB S i b)) (n + 1) = stp (clS N (setB S i b)) n (sm (clS N (setB S i b)) n) := rfl
    have e2 : sm (clS N S) (n + 1) = stp (clS N S) n (sm (clS N S) n) := rfl
    rw [e, e2, ih (by omega)]
    by_cases c : n = i
    · refine stp_calm (fun a k _ _ q => by rw [clS_c q, clS_c q]) (fun r hr q => ?_)
      have hr' : (r : Int) < clS N S 0 0 := by unfold nR at hr; omega
      have hI := ((sm_inv (NOk_S (S := S) hN) n (by omega)).1.1 r hr').2.2.1 (by omega)
      rw [clS_c (by decide)] at hI hr'
      have := h r hr'
      omega
    · refine stp_cg (fun a k _ _ q => ?_)
      by_cases d : a = 9
      · unfold clS
        rw [setB_j (by have := q d; omega)]
      · rw [clS_c d, clS_c d]
/-- with x held by ring w's kind -/
def fWb (N : Sto) (x w : Nat) (S : Nat → Bool) : Bool := decide (whm (clS N S) (sm (clS N S) 20) x = (w : Int))
theorem whm_S {N σ : Sto} {S : Nat → Bool} {x : Nat} : whm (clS N S) σ x = whm N σ x := by
  unfold whm
  rw [clS_c (by decide)]
def fsN (N : Sto) : Nat → Int
  | 0 => 20
  | r + 1 => if N 1 r < fsN N r then N 1 r else fsN N r
theorem fsN_s {N : Sto} {r : Nat} : fsN N (r + 1) = if N 1 r < fsN N r then N 1 r else fsN N r := rfl
theorem fsN_le {N : Sto} : ∀ n r, r < n → fsN N n ≤ N 1 r := by
  intro n
  induction n with
  | zero => intro r h; omega
  | succ n ih =>
    intro r h
    rw [fsN_s]
    by_cases c : r = n
    · rw [c]; split <;> omega
    · have := ih r (by omega)
      split <;> omega
theorem fsN_rng {N : Sto} (hN : NOk N) : ∀ n : Nat, n ≤ nR N → 0 ≤ fsN N n ∧ fsN N n ≤ 20 := by
  intro n
  induction n with
  | zero => intro _; unfold fsN; omega
  | succ n ih =>
    intro h
    have := ih (by omega)
    have h2 := hN.2.2.2.2.1 n (by unfold nR at h; omega)
    rw [fsN_s]
    split <;> omega
/-- step k weighs -/
def wyB (N : Sto) (k : Nat) : Bool := decide (fsN N (nR N) < (k : Int) ∧ N 9 k ≠ -1)
theorem fWb_irr {N : Sto} {x w i : Nat} (hN : NOk N) (h : wyB N i = false) (S : Nat → Bool) (b : Bool) : fWb N x w (setB S i b) = fWb N x w S := by
  have h := of_decide_eq_false h
  unfold fWb
  rw [whm_S, whm_S, clS_irr hN ?_ 20 (Nat.le_refl 20)]
  by_cases c : N 9 i = -1
  · exact Or.inl c
  · refine Or.inr (fun r hr => ?_)
    have h1 : ¬ fsN N (nR N) < (i : Int) := fun w => h ⟨w, c⟩
    have := fsN_le (N := N) (nR N) r (by unfold nR; omega)
    omega
theorem cn_ex {p : Nat → Bool} : ∀ D j, j < cn p D → ∃ d, d < D ∧ p d = true ∧ cn p d = j := by
  intro D
  induction D with
  | zero => intro j h; exact absurd h (Nat.not_lt_zero j)
  | succ D ih =>
    intro j h
    rw [cn_s] at h
    cases q : p D with
    | false =>
      rw [q, if_neg (by decide)] at h
      obtain ⟨d, d1, d2, d3⟩ := ih j h
      exact ⟨d, by omega, d2, d3⟩
    | true =>
      rw [q, if_pos rfl] at h
      by_cases c : j < cn p D
      · obtain ⟨d, d1, d2, d3⟩ := ih j c
        exact ⟨d, by omega, d2, d3⟩
      · exact ⟨D, by omega, q, by omega⟩
/-- what findWindy leaves -/
def WnC (N : Sto) (D : Nat) (s : Sto) : Prop := s 66 5 = (cn (wyB N) D : Int) ∧ ∀ d, d < D → wyB N d = true → s 67 (cn (wyB N) d) = (d : Int)
theorem ix20 {j : Nat} (h : j ≤ 20) : w32 ((j : Int) + 1) = ((j + 1 : Nat) : Int) := by
  rw [w32_of (by omega) (by omega)]; omega
theorem T_findWindy {N s : Sto} {D : Nat} {Q : Int → Sto → Prop} (hN : NOk N) (hC : NtC N 6 s) (hD : 1 ≤ D ∧ D ≤ 10) (k : ∀ t, WnC N D t → Same (fun a b => a = 67 ∨ (a = 66 ∧ b = 5)) s t → Q 0 t) : P_X0_findWindy ((D : Int) - 1) s Q := by
  obtain ⟨n1, n2, n3⟩ := nR8 hN
  unfold P_X0_findWindy
  refine lp2 (L_X0_findWindy_5 ((D : Int) - 1) s _) (fun x y => ∃ r : Nat, y = (r : Int) ∧ r ≤ nR N ∧ x = fsN N r) (fun _ y => (9 - y).toNat) ?_ 20 0 ⟨0, rfl, by omega, rfl⟩
  intro n x y ⟨r, hy, hr, hx⟩ ih
  subst hy
  have hw := (ix3 (Nat.le_trans hr n1)).2.2.1
  have hmu := mu9 (Nat.le_trans hr n1)
  unfold L_X0_findWindy_5
  rw [hC.1, Int.toNat_natCast, hw]
  clear hw
  refine ⟨fun c => ?_, fun c => ?_⟩
  · have q := n2 r hr c
    rw [q] at hx
    subst hx
    intro s2 e2
    have f2 : ∀ a b, ¬ (a = 66 ∧ b = 5) → s2 a b = s a b := fun a b w => by rw [e2, up_c2 (by omega)]
    refine lp2 (L_X0_findWindy_43 ((D : Int) - 1) (fsN N (nR N)) _) (fun y t => ∃ i : Nat, y = (i : Int) ∧ i ≤ D ∧ WnC N i t ∧ Same (fun a b => a = 67 ∨ (a = 66 ∧ b = 5)) s t) (fun y _ => (21 - y).toNat) ?_ 0 s2 ⟨0, rfl, by omega, ⟨by rw [e2, up_at]; rfl, fun d hd => by omega⟩, ?_⟩
    · intro n y t ⟨i, hy, hi, hW, hS⟩ ih2
      subst hy
      have hw := ix20 (j := i) (by omega)
      have hmu2 : (21 - ((i + 1 : Nat) : Int)).toNat < (21 - (i : Int)).toNat := by omega
      unfold L_X0_findWindy_43
      rw [Int.toNat_natCast, hw]
      clear hw
      refine ⟨fun c => ?_, fun c => ?_⟩
      · have : i = D := by omega
        rw [this] at hW
        exact k t hW hS
      · refine ⟨fun c2 => by omega, fun _ => ?_⟩
        have skip : wyB N i = false → L_X0_findWindy_43 ((D : Int) - 1) (fsN N (nR N)) (fun s3 => Q 0 s3) n ((i + 1 : Nat) : Int) t := fun q => by
          refine ih2 _ _ ⟨i + 1, rfl, by omega, ⟨?_, fun d hd hp => ?_⟩, hS⟩ hmu2
          · rw [cn_s, q, if_neg (by decide)]; exact hW.1
          · by_cases e : d = i
            · rw [e, q] at hp; exact absurd hp Bool.false_ne_true
            · exact hW.2 d (by omega) hp
        have e15 : t 15 i = N 9 i := by rw [hS 15 i (by omega)]; exact hC.2.2.2.2.2.2.1 i (by omega)
        rw [e15]
        refine ⟨fun c2 => skip (decide_eq_false (by omega)), fun c2 => ⟨⟨by omega, by omega⟩, fun c3 => skip (decide_eq_false (by omega)), fun c3 => ?_⟩⟩
        have q : wyB N i = true := decide_eq_true ⟨by omega, c3⟩
        have hle := cn_le (p := wyB N) i
        rw [hW.1]
        refine ⟨fun c4 => by omega, fun _ => ⟨⟨by omega, by omega⟩, fun s8 e8 s9 e9 => ?_⟩⟩
        rw [Int.toNat_natCast] at e8
        have e85 : s8 66 5 = (cn (wyB N) i : Int) := by rw [e8, up_c (by decide)]; exact hW.1
        rw [e85, ix20 (by omega)] at e9
        refine ih2 _ _ ⟨i + 1, rfl, by omega, ⟨?_, fun d hd hp => ?_⟩, ?_⟩ hmu2
        · rw [e9, up_at, cn_s, q, if_pos rfl]
        · rw [e9, up_c (by decide), e8]
          by_cases e : d = i
          · rw [e, up_at]
          · have h1 := hW.2 d (by omega) hp
            have h2 := cn_mono (p := wyB N) (a := d + 1) i (by omega)
            rw [cn_s, hp, if_pos rfl] at h2
            rw [up_c2 (by omega)]
            exact h1
        · rw [e9, e8]
          exact (hS.up (by omega)).up (by omega)
    · intro a b w
      exact f2 a b (by omega)
  · obtain ⟨r8, hrr, r1⟩ := n3 r hr c
    refine ⟨inb8 r8, fun x3 e3 => ?_⟩
    refine ih _ _ ⟨r + 1, rfl, r1, ?_⟩ hmu
    have e7 : s 7 r = N 1 r := (hC.2.2.2.2.1 r hrr).1
    rw [e3, e7, fsN_s, hx]
    rfl
theorem pw_le {c n : Nat} (hc : c ≤ 16) (hn : n ≤ 10) : c ^ n ≤ 1099511627776 := Nat.le_trans (Nat.pow_le_pow_left hc n) (Nat.pow_le_pow_right (by decide) hn : 16 ^ n ≤ 16 ^ 10)
theorem T_power {c n : Nat} {s : Sto} {Q : Int → Sto → Prop} (hc : c ≤ 16) (hn : n ≤ 10) (k : Q ((c ^ n : Nat) : Int) s) : P_X0_power (c : Int) (n : Int) s Q := by
  unfold P_X0_power
  refine lp2 (L_X0_power_5 (c : Int) (n : Int) s _) (fun x y => ∃ i : Nat, y = (i : Int) ∧ i ≤ n ∧ x = ((c ^ i : Nat) : Int)) (fun _ y => (11 - y).toNat) ?_ 1 0 ⟨0, rfl, by omega, by rw [Nat.pow_zero]; rfl⟩
  intro m x y ⟨i, hy, hi, hx⟩ ih
  subst hy
  subst hx
  have hw := ix20 (j := i) (by omega)
  unfold L_X0_power_5
  rw [hw]
  clear hw
  refine ⟨fun q => ?_, fun q x2 e2 => ?_⟩
  · rw [show i = n by omega]; exact k
  · refine ih _ _ ⟨i + 1, rfl, by omega, ?_⟩ (by omega)
    have := pw_le hc (n := i + 1) (by omega)
    rw [e2, ← Int.natCast_mul, ← Nat.pow_succ, w64_nat (Nat.lt_of_le_of_lt this (by decide))]
