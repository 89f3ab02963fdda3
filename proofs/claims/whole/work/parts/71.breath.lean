/-! ===== the first that holds ===== -/
def fstB (f : Nat → Bool) : Nat → Int
  | 0 => -1
  | n + 1 => if fstB f n = -1 then (if f n = true then (n : Int) else -1) else fstB f n
theorem fstB_none {f : Nat → Bool} : ∀ n : Nat, (∀ i, i < n → f i = false) → fstB f n = -1 := by
  intro n
  induction n with
  | zero => intro _; rfl
  | succ n ih =>
    intro h
    unfold fstB
    rw [ih (fun i hi => h i (by omega)), if_pos rfl, h n (by omega), if_neg Bool.false_ne_true]
theorem fstB_some {f : Nat → Bool} {i : Nat} (h1 : f i = true) (h2 : ∀ j, j < i → f j = false) : ∀ n : Nat, i < n → fstB f n = (i : Int) := by
  intro n
  induction n with
  | zero => intro h; exact absurd h (Nat.not_lt_zero i)
  | succ n ih =>
    intro h
    unfold fstB
    by_cases c : i = n
    · subst c
      rw [fstB_none i h2, if_pos rfl, if_pos h1]
    · rw [ih (by omega), if_neg (by omega)]
theorem fstB_rng {f : Nat → Bool} : ∀ n : Nat, fstB f n = -1 ∨ ∃ i : Nat, i < n ∧ fstB f n = (i : Int) ∧ f i = true := by
  intro n
  induction n with
  | zero => exact Or.inl rfl
  | succ n ih =>
    unfold fstB
    rcases ih with h | ⟨i, h1, h2, h3⟩
    · rw [h, if_pos rfl]
      by_cases c : f n = true
      · rw [if_pos c]; exact Or.inr ⟨n, by omega, rfl, c⟩
      · rw [if_neg c]; exact Or.inl rfl
    · rw [h2, if_neg (by omega)]
      exact Or.inr ⟨i, by omega, rfl, h3⟩
def DnB (f : Nat → Bool) (b n : Nat) (v : Int) : Prop := (v = -1 ∧ ∀ j, b ≤ j → j < n → f j = false) ∨ (∃ i : Nat, v = (i : Int) ∧ b ≤ i ∧ i < n ∧ f i = true ∧ ∀ j, b ≤ j → j < i → f j = false)
theorem DnB_n {f : Nat → Bool} {n : Nat} : DnB f n n (-1) := Or.inl ⟨rfl, fun j q1 q2 => by omega⟩
theorem DnB_s {f : Nat → Bool} {b n : Nat} {v w : Int} (h : DnB f (b + 1) n v) (hb : b < n) (h1 : f b = true → w = (b : Int)) (h2 : f b = false → w = v) : DnB f b n w := by
  cases c : f b with
  | true => exact Or.inr ⟨b, h1 c, Nat.le_refl b, hb, c, fun j q1 q2 => by omega⟩
  | false =>
    have e : ∀ j, b ≤ j → (j = b ∨ b + 1 ≤ j) := fun j q => by omega
    rw [h2 c]
    rcases h with ⟨q1, q2⟩ | ⟨i, q1, q2, q3, q4, q5⟩
    · refine Or.inl ⟨q1, fun j w1 w2 => ?_⟩
      rcases e j w1 with w | w
      · rw [w]; exact c
      · exact q2 j w w2
    · refine Or.inr ⟨i, q1, by omega, q3, q4, fun j w1 w2 => ?_⟩
      rcases e j w1 with w | w
      · rw [w]; exact c
      · exact q5 j w w2
theorem DnB_0 {f : Nat → Bool} {b n : Nat} {v : Int} (h : DnB f b n v) (h0 : ∀ j, j < b → f j = false) : v = fstB f n := by
  rcases h with ⟨q1, q2⟩ | ⟨i, q1, q2, q3, q4, q5⟩
  · rw [q1, fstB_none n (fun j hj => ?_)]
    rcases Nat.lt_or_ge j b with w | w
    · exact h0 j w
    · exact q2 j w hj
  · rw [q1, fstB_some q4 (fun j hj => ?_) n q3]
    rcases Nat.lt_or_ge j b with w | w
    · exact h0 j w
    · exact q5 j w hj
/-! ===== breath ===== -/
theorem ix5w {r d : Nat} (hr : r < 8) (hd : d < 5) : w32 (w32 (5 * (r : Int)) + (d : Int)) = 5 * (r : Int) + (d : Int) := by
  rw [w32_of (z := 5 * (r : Int)) (by omega) (by omega), w32_of (by omega) (by omega)]
theorem ix5v {r d : Nat} (hr : r < 8) (hd : d < 5) : (5 * (r : Int) + (d : Int)).toNat = 5 * r + d ∧ inb (5 * (r : Int) + (d : Int)) 40 := ⟨by omega, by omega, by omega⟩
theorem ixp {b : Nat} (h : b < 1000) : w32 ((b : Int) + 1) = ((b + 1 : Nat) : Int) := by
  rw [w32_of (by omega) (by omega)]
  omega
theorem ixd {b : Nat} (h : b < 1000) : w32 (((b + 1 : Nat) : Int) + (-1)) = (b : Int) := by
  rw [w32_of (by omega) (by omega)]
  omega
def brF (N : Sto) (r t b : Nat) : Bool := decide (1 ≤ b ∧ sm (up N 4 r (b : Int)) 20 5 t = (r : Int))
def lbr (N : Sto) (r t : Nat) : Int := fstB (brF N r t) 10
def nbd (N : Sto) : Int := cntB (bnB (sm N 20)) (nT N)
theorem Same_tr {s t : Sto} (h : Same (fun a _ => 44 ≤ a ∧ a ≤ 53) s t) : Same DScr s t := h.mono (fun a b q => by unfold DScr; omega)
theorem Same_pl {s t : Sto} (h : Same (DPl 54) s t) : Same DScr s t := h.mono (fun a b q => by unfold DScr; unfold DPl at q; omega)
theorem DScr_tr {s t : Sto} {a b : Nat} {z : Int} (h : Same DScr s t) (ha : 44 ≤ a ∧ a ≤ 68) : Same DScr s (up t a b z) := h.up (by unfold DScr; omega)
theorem lgl4 {b : Nat} (h : 1 ≤ b ∧ b ≤ 9) : lgl 4 (b : Int) := by unfold lgl; omega
theorem T_cbreath {N s : Sto} {r x : Nat} {Q : Int → Sto → Prop} (hN : NOk N) (hC : NtC N 6 s) (hr : (r : Int) < N 0 0) (hx : (x : Int) < N 0 6) (k : ∀ t, Same DScr s t → Q (lbr N r x) t) : P_X5_leastBreath (r : Int) (x : Int) s Q := by
  have hr8 : r < 8 := by have := hN.1; omega
  have hx8 : x < 8 := by have := hN.2.1; omega
  unfold P_X5_leastBreath
  refine T_becomes hN hC (fun t hCt hSt => ?_)
  refine lp2 (L_X5_leastBreath_13 (r : Int) (x : Int) _ _ _) (fun y u => ∃ b : Nat, y = (b : Int) ∧ 1 ≤ b ∧ b ≤ 10 ∧ (∃ z, NtC (up N 4 r z) 44 u) ∧ (∀ j, j < b → brF N r x j = false) ∧ Same DScr s u) (fun y _ => (11 - y).toNat) ?_ 1 t ⟨1, rfl, by omega, by omega, ⟨N 4 r, by rw [up_self]; exact hCt⟩, fun j q => decide_eq_false (by omega), Same_tr hSt⟩
  intro n y u ⟨b, hy, hb1, hb2, ⟨z, hCu⟩, hf, hSu⟩ ih
  subst hy
  have hw := ixp (b := b) (by omega)
  have hmu : b ≤ 9 → (11 - ((b + 1 : Nat) : Int)).toNat < (11 - (b : Int)).toNat := fun q => by omega
  unfold L_X5_leastBreath_13
  rw [Int.toNat_natCast, Int.toNat_natCast, hw]
  clear hw
  refine ⟨fun c => ?_, fun c => ⟨inb8 hr8, fun s3 e3 => ?_⟩⟩
  · have : b = 10 := by omega
    subst this
    have := fstB_none 10 hf
    rw [show (-1 : Int) = lbr N r x from this.symm]
    exact k u hSu
  · have hb9 : b ≤ 9 := by omega
    have hC3 := NtC_up (a := 4) (b := r) (z := (b : Int)) hCu (by omega)
    rw [up_up] at hC3
    have hN3 := NOk_up (b := r) hN (lgl4 ⟨hb1, hb9⟩)
    have e3' : s3 = up u (44 + 4) r (b : Int) := e3
    rw [← e3'] at hC3
    have hS3 : Same DScr s s3 := by rw [e3]; exact DScr_tr hSu (by omega)
    refine T_playAll (Or.inr rfl) (Or.inr rfl) hN3 hC3 (fun s4 hP4 hS4 => ⟨inb8 hx8, fun c2 => ?_, fun c2 => ⟨inb8 hr8, fun c3 => ?_, fun c3 => ?_⟩⟩)
    · have h5 : s4 59 x = sm (up N 4 r (b : Int)) 20 5 x := (hP4.2.1 x hx).1
      have : lbr N r x = (b : Int) := fstB_some (decide_eq_true ⟨hb1, h5.symm.trans c2⟩) hf 10 (by omega)
      rw [← this]
      exact k s4 (hS3.trans (Same_pl hS4))
    · have h5 : s4 59 x = sm (up N 4 r (b : Int)) 20 5 x := (hP4.2.1 x hx).1
      have hC4 := NtC_cg (Or.inr rfl) (Or.inr rfl) hC3 hS4
      refine ih _ _ ⟨b + 1, rfl, by omega, by omega, ⟨_, hC4⟩, fun j hj => ?_, hS3.trans (Same_pl hS4)⟩ (hmu hb9)
      by_cases q : j = b
      · rw [q]; exact decide_eq_false (fun w => c2 (h5.trans w.2))
      · exact hf j (by omega)
    · have h5 : s4 59 x = sm (up N 4 r (b : Int)) 20 5 x := (hP4.2.1 x hx).1
      have h4 : s4 58 r = sm (up N 4 r (b : Int)) 20 4 r := (hP4.1 r hr).2.2.2
      have hpos : 0 < sm (up N 4 r (b : Int)) 20 4 r := by rw [← h4]; omega
      have : lbr N r x = -1 := fstB_none 10 (fun j hj => by
        rcases Nat.lt_or_ge j b with q | q
        · exact hf j q
        · refine decide_eq_false (fun w => c2 ?_)
          have hm := (breath_more (b' := (j : Int)) (by omega) hpos).1 5 x (by omega)
          exact h5.trans (hm.symm.trans w.2))
      rw [← this]
      exact k s4 (hS3.trans (Same_pl hS4))
theorem NtM_frame {N s t : Sto} (h : NtM N s) (hS : Same DMl s t) : NtM N t := NtM_cg h hS
theorem T_mbreath {N s : Sto} {r x : Nat} {Q : Int → Sto → Prop} (hN : NOk N) (hC : NtM N s) (hr : (r : Int) < N 0 0) (hx : (x : Int) < N 0 6) (k : ∀ t, NtM N t → Same DScr s t → Q (lbr N r x) t) : P_X12_breathOf (r : Int) (x : Int) s Q := by
  have hr8 : r < 8 := by have := hN.1; omega
  have hx8 : x < 8 := by have := hN.2.1; omega
  have i1 : w32 (w32 (5 * (r : Int)) + 3) = 5 * (r : Int) + 3 := ix5w (d := 3) hr8 (by decide)
  obtain ⟨i2, i3⟩ := ix5v (d := 3) hr8 (by decide)
  have i2 : (5 * (r : Int) + 3).toNat = 5 * r + 3 := i2
  have i3 : inb (5 * (r : Int) + 3) 40 := i3
  unfold P_X12_breathOf
  rw [i1, i2]
  refine ⟨i3, fun x2 e2 => ?_⟩
  have e2' : x2 = N 4 r := by rw [e2]; exact (hC.2.2.2.2.1 r hr).2.2.2.2.1
  refine lp3 (L_X12_breathOf_18 (r : Int) (x : Int) x2 _) (fun v y u => ∃ b : Nat, y = (b : Int) ∧ b ≤ 9 ∧ DnB (brF N r x) (b + 1) 10 v ∧ (∃ z, NtM (up N 4 r z) u) ∧ Same (fun a b => DScr a b ∨ (a = 79 ∧ b = 5 * r + 3)) s u) (fun _ y _ => y.toNat) ?_ (-1) 9 s ⟨9, rfl, by omega, DnB_n, ⟨N 4 r, by rw [up_self]; exact hC⟩, Same.rfl'⟩
  intro n v y u ⟨b, hy, hb, hv, ⟨z, hCu⟩, hSu⟩ ih
  subst hy
  unfold L_X12_breathOf_18
  rw [i1, i2, Int.toNat_natCast]
  clear i1
  refine ⟨fun c => ⟨i3, fun s6 e6 => ?_⟩, fun c => ⟨i3, fun s3 e3 => ?_⟩⟩
  · have hb0 : b = 0 := by omega
    subst hb0
    have hval := DnB_0 hv (fun j hj => decide_eq_false (by omega))
    rw [show v = lbr N r x from hval]
    have hC6 := NtM_ring (a := 4) (r := r) (z := x2) hCu (by omega)
    rw [up_up, e2', up_self] at hC6
    rw [show 5 * r + 4 - 1 = 5 * r + 3 by omega, ← e2', ← e6] at hC6
    refine k s6 hC6 (fun a d hd => ?_)
    rw [e6]
    by_cases q : a = 79 ∧ d = 5 * r + 3
    · rw [q.1, q.2, up_at, e2]
    · rw [up_c2 q]; exact hSu a d (fun w => w.elim hd q)
  · obtain ⟨m, rfl⟩ : ∃ m, b = m + 1 := ⟨b - 1, by omega⟩
    have hC3 := NtM_ring (a := 4) (r := r) (z := ((m + 1 : Nat) : Int)) hCu (by omega)
    rw [up_up, show 5 * r + 4 - 1 = 5 * r + 3 by omega, ← e3] at hC3
    have hN3 := NOk_up (b := r) hN (lgl4 (b := m + 1) (by omega))
    have hS3 : Same (fun a b => DScr a b ∨ (a = 79 ∧ b = 5 * r + 3)) s s3 := by rw [e3]; exact hSu.up (Or.inr ⟨rfl, rfl⟩)
    refine T_lives hN3 hC3 (fun s4 hP4 _ hS4 => ⟨inb8 hx8, fun x7 e7 => ?_⟩)
    have h5 : s4 85 x = sm (up N 4 r ((m + 1 : Nat) : Int)) 20 5 x := (hP4.2.1 x hx).1
    rw [ixd (b := m) (by omega)]
    refine ih _ _ _ ⟨m, rfl, by omega, DnB_s hv (by omega) (fun q => ?_) (fun q => ?_), ⟨_, NtM_cg hC3 hS4⟩, hS3.trans ((Same_Ml hS4).mono (fun a b q => Or.inl q))⟩ (by omega)
    · have q2 := of_decide_eq_true q
      rw [e7, if_pos (h5.trans q2.2)]
    · have q2 := of_decide_eq_false q
      rw [e7, if_neg (fun w => q2 ⟨by omega, h5.symm.trans w⟩)]
theorem Rel_sc {s t : Sto} (h : Rel s) (hS : Same DScr s t) : Rel t ∧ tN t = tN s := ⟨Rel_cg h hS, tN_cg (fun a b q1 q2 => hS a b (by unfold DScr; omega))⟩
theorem R_breath {v1 v2 : Int} {s : Sto} (h : Rel s) : P_X11_breath v1 v2 s (fun r s1 => P_X12_breath v1 v2 s1 (fun r2 s2 => r2 = r ∧ Rel s2)) := by
  have hN := tN_ok h
  have bad : ¬ ((0 ≤ v1 ∧ v1 < tN s 0 0) ∧ (0 ≤ v2 ∧ v2 < tN s 0 6)) → P_X12_breath v1 v2 s (fun r2 s2 => r2 = -2 ∧ Rel s2) := by
    intro c
    unfold P_X12_breath
    refine T_findR h rfl (fun t t1 t2 t3 t4 t5 t6 => ?_)
    exact ⟨fun _ => ⟨rfl, t1⟩, fun q1 => ⟨fun _ => ⟨rfl, t1⟩, fun q2 => absurd ⟨yy (isRM hN t2) q1, yy (isTM hN t2) q2⟩ c⟩⟩
  unfold P_X11_breath
  refine ⟨fun q => bad (fun w => (isRC h).mp q w.1), fun q1 => ⟨fun q => bad (fun w => (isTC h).mp q w.2), fun q2 => ?_⟩⟩
  have c1 := yy (isRC h) q1
  have c2 := yy (isTC h) q2
  obtain ⟨r, rfl⟩ := Int.eq_ofNat_of_zero_le c1.1
  obtain ⟨x, rfl⟩ := Int.eq_ofNat_of_zero_le c2.1
  refine T_cbreath hN tN_NtC c1.2 c2.2 (fun t hSt => ?_)
  obtain ⟨hRt, eNt⟩ := Rel_sc h hSt
  unfold P_X12_breath
  refine T_findR hRt eNt (fun u u1 u2 u3 u4 u5 u6 => ?_)
  refine ⟨fun q => absurd q (nn (isRM hN u2) c1), fun _ => ⟨fun q => absurd q (nn (isTM hN u2) c2), fun _ => T_mbreath hN u2 c1.2 c2.2 (fun w w1 w2 => ⟨rfl, (Rel_sc u1 w2).1⟩)⟩⟩
